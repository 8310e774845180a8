/-! ===== the reference halves a deed ===== -/
theorem LB_eq {B B' : Nat → Int} {V : Nat → Prop} {K : Nat → List Nat} (hV : ∀ x, V x → x < 192) (hK : KV V K) (h : LB B V K) (e : ∀ k, 768 ≤ k → k < 1536 → B' k = B k) : LB B' V K := fun x hx => by
  obtain ⟨f1, f2, f3⟩ := h x hx
  have := hV x hx
  refine ⟨by dsimp only; rw [e _ (by omega) (by omega)]; exact f1, by dsimp only; rw [e _ (by omega) (by omega)]; exact f2, fun l1 y l2 el => ?_⟩
  have hy := hV y ((hK.1 x hx).2 y (by rw [el]; simp))
  dsimp only
  rw [e _ (by omega) (by omega), e _ (by omega) (by omega)]; exact f3 l1 y l2 el
theorem KV_app {V : Nat → Prop} {K : Nat → List Nat} (hK : KV V K) {g c : Nat} (hg : V g) (hc : V c) (hcn : ∀ x, V x → c ∉ K x) : KV V (upK K g (K g ++ [c])) := by
  refine ⟨fun x hx => ?_, fun x y z hx hy h1 h2 => ?_⟩
  · by_cases q : x = g
    · subst q; rw [upK_at]
      refine ⟨List.nodup_append.mpr ⟨(hK.1 x hx).1, by simp, fun a ha b hb e => ?_⟩, fun y hy => ?_⟩
      · simp at hb; exact hcn x hx (by rw [← hb, ← e]; exact ha)
      · rcases List.mem_append.mp hy with hy | hy
        · exact (hK.1 x hx).2 y hy
        · simp at hy; subst hy; exact hc
    · rw [upK_ne _ _ q]; exact hK.1 x hx
  · have key : ∀ w, V w → z ∈ upK K g (K g ++ [c]) w → (z = c ∧ w = g) ∨ (z ≠ c ∧ z ∈ K w) := fun w hw hz => by
      by_cases q : w = g
      · subst q; rw [upK_at] at hz
        rcases List.mem_append.mp hz with hz | hz
        · exact .inr ⟨fun e => hcn w hw (e ▸ hz), hz⟩
        · simp at hz; exact .inl ⟨hz, rfl⟩
      · rw [upK_ne _ _ q] at hz; exact .inr ⟨fun e => hcn w hw (e ▸ hz), hz⟩
    rcases key x hx h1 with ⟨a1, a2⟩ | ⟨a1, a2⟩ <;> rcases key y hy h2 with ⟨b1, b2⟩ | ⟨b1, b2⟩
    · omega
    · exact absurd a1 b1
    · exact absurd b1 a1
    · exact hK.2 x y z hx hy a2 b2
/-- one heir more at a list's end, in the bank: its giver, then its links -/
def apB (B : Nat → Int) (x t : Nat) : Nat → Int := lnk (lnk (upB B (576 + x) ((t : Int) + 1)) (B (960 + t)) ((x : Int) + 1) ((t : Int) + 1)) ((x : Int) + 1) 0 ((t : Int) + 1)
theorem apB_ok {V : Nat → Prop} {K : Nat → List Nat} {B : Nat → Int} (hV : ∀ x, V x → x < 192) (hK : KV V K) (h : LB B V K) {x t : Nat} (hx : V x) (ht : V t) (hxn : ∀ y, V y → x ∉ K y) :
    LB (apB B x t) V (upK K t (K t ++ [x])) ∧ KV V (upK K t (K t ++ [x])) ∧ (∀ k, k < 576 ∨ 1536 ≤ k → apB B x t k = B k) ∧ (∀ y, y < 192 → apB B x t (576 + y) = if y = x then (t : Int) + 1 else B (576 + y)) ∧ (∀ y, y < 192 → y ≠ x → y ∉ K t → apB B x t (1344 + y) = B (1344 + y) ∧ apB B x t (1152 + y) = B (1152 + y)) ∧ 0 ≤ B (960 + t) ∧ B (960 + t) ≤ 192 := by
  have hx1 := hV x hx
  have ht1 := hV t ht
  have h1 : LB (upB B (576 + x) ((t : Int) + 1)) V K := LB_eq hV hK h (fun k a b => by rw [upB_ap, if_neg (by omega)])
  have e960 : upB B (576 + x) ((t : Int) + 1) (960 + t) = B (960 + t) := by rw [upB_ap, if_neg (by omega)]
  have happ := lb_app hV hK h1 (g := t) (c := x) ht hx1 hxn
  rw [e960] at happ
  have hL : B (960 + t) = ls1 (K t) := (h t ht).2.1
  have hr := ls1_rng hV (hK.1 t ht).2
  obtain ⟨e1, e2, e3, e4, e5⟩ := lnk_app (B := upB B (576 + x) ((t : Int) + 1)) (c := x) (g := t) (l := B (960 + t)) hx1 ht1 (by rw [hL]; exact hr.1) (by rw [hL]; exact hr.2) (fun e => by
    rw [hL] at e; exact hxn t ht (ls1_in e))
  refine ⟨happ, KV_app hK ht hx hxn, fun k hk => ?_, fun y hy => ?_, fun y hy hyx hyt => ?_, by rw [hL]; exact hr.1, by rw [hL]; exact hr.2⟩
  · show lnk _ _ _ _ k = _
    rw [e5 k (by omega), upB_ap, if_neg (by omega)]
  · show lnk _ _ _ _ _ = _
    rw [e5 _ (by omega), upB_ap]
    by_cases q : y = x
    · rw [if_pos (by omega), if_pos q]
    · rw [if_neg (by omega), if_neg q]
  · refine ⟨?_, ?_⟩
    · show lnk _ _ _ _ _ = _
      rw [e3 y hy, if_neg hyx, if_neg, upB_ap, if_neg (by omega)]
      intro e; rw [hL] at e; exact hyt (ls1_in e.symm)
    · show lnk _ _ _ _ _ = _
      rw [e4 y hy, if_neg hyx, upB_ap, if_neg (by omega)]
theorem m_link2 {μ : Sl} {b : Nat} (hb : MB μ b) (B : Nat → Int) {x t : Nat} (hx : x < 192) (ht : t < 192) (h1 : 0 ≤ B (960 + t)) (h2 : B (960 + t) ≤ 192) (k : Sl → Option (Unit × Sl)) :
    (bd (Mo_lay (bst μ b B) (zI (576 + (x : Int))) (zI ((t : Int) + 1))) fun _ d3 => bp (Mo_of d3 (zI (960 + (t : Int)))) fun r4 => bd (Mo_linked d3 (r4 - zI 1) (zI (x : Int)) (zI (t : Int))) fun _ d7 => bd (Mo_linked d7 (zI (x : Int)) (zI (-1)) (zI (t : Int))) fun _ d9 => k d9) = k (bst μ b (apB B x t)) := by
  have e960 : upB B (576 + x) ((t : Int) + 1) (960 + t) = B (960 + t) := by rw [upB_ap, if_neg (by omega)]
  have l1 := m_linked hb (upB B (576 + x) ((t : Int) + 1)) (a := B (960 + t)) (c := (x : Int) + 1) (g := (t : Int) + 1) h1 h2 (by omega) (by omega) (by omega) (by omega)
  have l2 := m_linked hb (lnk (upB B (576 + x) ((t : Int) + 1)) (B (960 + t)) ((x : Int) + 1) ((t : Int) + 1)) (a := (x : Int) + 1) (c := 0) (g := (t : Int) + 1) (by omega) (by omega) (by omega) (by omega) (by omega) (by omega)
  rw [show (x : Int) + 1 - 1 = (x : Int) by omega, show (t : Int) + 1 - 1 = (t : Int) by omega] at l1 l2
  rw [show (0 : Int) - 1 = -1 by omega] at l2
  rw [m_lay hb B _ (by omega) (by omega), bd_some, show (576 + (x : Int)).toNat = 576 + x by omega, m_of hb _ (by omega) (by omega), bp_some, show (960 + (t : Int)).toNat = 960 + t by omega, e960, zI_sub, l1, bd_some, l2, bd_some]
  rfl
theorem mh_loop {μ : Sl} {b : Nat} (hb : MB μ b) {V : Nat → Prop} (hV : ∀ x, V x → x < 192) {d u : Nat} (hVd : V d) (hVu : V u) (hdu : d ≠ u) (fu : Int) (hf1 : -1000 ≤ fu) (hf2 : fu ≤ 1000) : ∀ (r : List Nat) (n : Nat) (B : Nat → Int) (K : Nat → List Nat), KV V K → LB B V K → (∀ x, x ∈ r → V x ∧ ∀ y, V y → x ∉ K y) → r.Nodup → (∀ a x c, r = a ++ x :: c → B (1344 + x) = hd1 c) → (∀ x, x ∈ r → -1000 ≤ B (192 + x) ∧ B (192 + x) ≤ 1000) → B (192 + u) = fu → r.length < n →
    ∃ B', Mo_halves_182 n (zI (d : Int)) (zI (u : Int)) (zI (hd1 r - 1)) (bst μ b B) = some ((), bst μ b (upB B' 2198 (B' 2198 + 1))) ∧ LB B' V (fun x => if x = d then K d ++ r.filter (fun h => decide (B (192 + h) < fu)) else if x = u then K u ++ r.filter (fun h => decide (fu ≤ B (192 + h))) else K x) ∧ (∀ k, k < 576 ∨ 1536 ≤ k → B' k = B k) ∧ (∀ y, y < 192 → B' (576 + y) = if y ∈ r then (if B (192 + y) < fu then (d : Int) + 1 else (u : Int) + 1) else B (576 + y)) ∧ ∀ y, y < 192 → y ∉ r → (∀ z, V z → y ∉ K z) → B' (1344 + y) = B (1344 + y) ∧ B' (1152 + y) = B (1152 + y) := by
  intro r
  induction r with
  | nil =>
    intro n B K hK hL h1 h2 h3 h4 h5 hn
    obtain ⟨m, rfl⟩ : ∃ m, n = m + 1 := ⟨n - 1, by omega⟩
    refine ⟨B, ?_, ?_, fun _ _ => rfl, fun y _ => by simp, fun _ _ _ _ => ⟨rfl, rfl⟩⟩
    · rw [hd1_nil, Mo_halves_182]
      simp (disch := omega) only [zI_lit, zI_lt, if_pos, m_more hb, bd_some]
      rfl
    · have : (fun x => if x = d then K d ++ ([] : List Nat).filter (fun h => decide (B (192 + h) < fu)) else if x = u then K u ++ ([] : List Nat).filter (fun h => decide (fu ≤ B (192 + h))) else K x) = K := by
        funext x
        by_cases q : x = d
        · simp [q]
        · by_cases q2 : x = u
          · simp [q2, Ne.symm hdu]
          · simp [q, q2]
      rw [this]; exact hL
  | cons x r ih =>
    intro n B K hK hL h1 h2 h3 h4 h5 hn
    obtain ⟨m, rfl⟩ : ∃ m, n = m + 1 := ⟨n - 1, by omega⟩
    obtain ⟨hx, hxn⟩ := h1 x (by simp)
    have hx1 := hV x hx
    have hu1 := hV u hVu
    have hd1' := hV d hVd
    obtain ⟨h2a, h2b⟩ := List.nodup_cons.mp h2
    have hnx := h3 [] x r rfl
    have h4x := h4 x (by simp)
    have hn' : r.length < m := by simp at hn; omega
    have step : ∀ t, V t → ∃ B1, (bd (Mo_lay (bst μ b B) (zI (576 + (x : Int))) (zI ((t : Int) + 1))) fun _ d3 => bp (Mo_of d3 (zI (960 + (t : Int)))) fun r4 => bd (Mo_linked d3 (r4 - zI 1) (zI (x : Int)) (zI (t : Int))) fun _ d7 => bd (Mo_linked d7 (zI (x : Int)) (zI (-1)) (zI (t : Int))) fun _ d9 => Mo_halves_182 m (zI (d : Int)) (zI (u : Int)) (zI (hd1 r - 1)) d9) = Mo_halves_182 m (zI (d : Int)) (zI (u : Int)) (zI (hd1 r - 1)) (bst μ b B1) ∧ B1 = apB B x t := fun t ht => by
      obtain ⟨a1, a2, a3, a4, a5, a6, a7⟩ := apB_ok hV hK hL hx ht hxn
      exact ⟨_, m_link2 hb B hx1 (hV t ht) a6 a7 (fun d9 => Mo_halves_182 m (zI (d : Int)) (zI (u : Int)) (zI (hd1 r - 1)) d9), rfl⟩
    have run : ∀ t, V t → (t = if B (192 + x) < fu then d else u) → ∃ B', Mo_halves_182 (m + 1) (zI (d : Int)) (zI (u : Int)) (zI (hd1 (x :: r) - 1)) (bst μ b B) = some ((), bst μ b (upB B' 2198 (B' 2198 + 1))) ∧ LB B' V (fun y => if y = d then upK K t (K t ++ [x]) d ++ r.filter (fun h => decide (B (192 + h) < fu)) else if y = u then upK K t (K t ++ [x]) u ++ r.filter (fun h => decide (fu ≤ B (192 + h))) else upK K t (K t ++ [x]) y) ∧ (∀ k, k < 576 ∨ 1536 ≤ k → B' k = B k) ∧ (∀ y, y < 192 → B' (576 + y) = if y ∈ r then (if B (192 + y) < fu then (d : Int) + 1 else (u : Int) + 1) else if y = x then (t : Int) + 1 else B (576 + y)) ∧ ∀ y, y < 192 → y ∉ x :: r → (∀ z, V z → y ∉ K z) → B' (1344 + y) = B (1344 + y) ∧ B' (1152 + y) = B (1152 + y) := fun t ht hte => by
      obtain ⟨a1, a2, a3, a4, a5, a6, a7⟩ := apB_ok hV hK hL hx ht hxn
      have f192 : ∀ y, y < 192 → apB B x t (192 + y) = B (192 + y) := fun y hy => a3 _ (by omega)
      have hmem : ∀ y, V y → ∀ z, V z → y ∈ upK K t (K t ++ [x]) z → y = x ∨ y ∈ K z := fun y hy z hz hm => by
        by_cases q : z = t
        · subst q; rw [upK_at] at hm
          rcases List.mem_append.mp hm with w | w
          · exact .inr w
          · simp at w; exact .inl w
        · rw [upK_ne _ _ q] at hm; exact .inr hm
      obtain ⟨B', g1, g2, g3, g4, g5⟩ := ih m (apB B x t) (upK K t (K t ++ [x])) a2 a1 (fun y hy => ⟨(h1 y (by simp [hy])).1, fun z hz hm => by
          rcases hmem y (h1 y (by simp [hy])).1 z hz hm with e | e
          · exact h2a (e ▸ hy)
          · exact (h1 y (by simp [hy])).2 z hz e⟩) h2b (fun a y c e => by
          have hy : y ∈ r := by rw [e]; simp
          rw [(a5 y (hV y (h1 y (by simp [hy])).1) (fun z => h2a (z ▸ hy)) ((h1 y (by simp [hy])).2 t ht)).1]
          exact h3 (x :: a) y c (by rw [e]; rfl)) (fun y hy => by rw [f192 y (hV y (h1 y (by simp [hy])).1)]; exact h4 y (by simp [hy])) (by rw [f192 u hu1]; exact h5) hn'
      refine ⟨B', ?_, ?_, fun k hk => by rw [g3 k hk, a3 k hk], fun y hy => ?_, fun y hy hyr hyn => ?_⟩
      · rw [← g1]
        obtain ⟨B1, e1, e2⟩ := step t ht
        rw [← e2, ← e1, hd1_cons, Mo_halves_182]
        rw [show (x : Int) + 1 - 1 = (x : Int) by omega]
        have hof1 : Mo_nextOf (bst μ b B) (zI (x : Int)) = some (zI (hd1 r - 1)) := by
          simp only [Mo_nextOf, zI_lit, zI_add]
          rw [m_of hb B (by omega) (by omega), bp_some, zI_sub, show (1344 + (x : Int)).toNat = 1344 + x by omega, hnx]
        have hof2 : Mo_of (bst μ b B) (zI (192 + (x : Int))) = some (zI (B (192 + x))) := by rw [m_of hb B (by omega) (by omega)]; rfl
        have hof3 : Mo_of (bst μ b B) (zI (192 + (u : Int))) = some (zI (B (192 + u))) := by rw [m_of hb B (by omega) (by omega)]; rfl
        simp (disch := omega) only [zI_lit, zI_lt, if_neg, hof1, bp_some, bnd_ap, zI_add, hof2, hof3, h5, Mo_halves_222, zI_neg, zI_sub]
        by_cases q : B (192 + x) < fu
        · rw [if_pos q]; rw [if_pos q] at hte; subst hte; rfl
        · rw [if_neg q]; rw [if_neg q] at hte; subst hte; rfl
      · have ef : ∀ g : Int → Bool, r.filter (fun h => g (apB B x t (192 + h))) = r.filter (fun h => g (B (192 + h))) := fun g => List.filter_congr (fun y hy => by rw [f192 y (hV y (h1 y (by simp [hy])).1)])
        rw [ef (fun v => decide (v < fu)), ef (fun v => decide (fu ≤ v))] at g2
        exact g2
      · rw [g4 y hy, a4 y hy, f192 y hy]
      · simp at hyr
        rw [(g5 y hy hyr.2 (fun z hz hm => by
          by_cases q : z = t
          · subst q; rw [upK_at] at hm
            rcases List.mem_append.mp hm with w | w
            · exact hyn z hz w
            · simp at w; exact hyr.1 w
          · rw [upK_ne _ _ q] at hm; exact hyn z hz hm)).1, (g5 y hy hyr.2 (fun z hz hm => by
          by_cases q : z = t
          · subst q; rw [upK_at] at hm
            rcases List.mem_append.mp hm with w | w
            · exact hyn z hz w
            · simp at w; exact hyr.1 w
          · rw [upK_ne _ _ q] at hm; exact hyn z hz hm)).2]
        exact a5 y hy hyr.1 (hyn t ht)
    by_cases q : B (192 + x) < fu
    · obtain ⟨B', g1, g2, g3, g4, g5⟩ := run d hVd (by rw [if_pos q])
      refine ⟨B', g1, ?_, g3, fun y hy => ?_, g5⟩
      · have : (fun y => if y = d then upK K d (K d ++ [x]) d ++ r.filter (fun h => decide (B (192 + h) < fu)) else if y = u then upK K d (K d ++ [x]) u ++ r.filter (fun h => decide (fu ≤ B (192 + h))) else upK K d (K d ++ [x]) y) = fun y => if y = d then K d ++ (x :: r).filter (fun h => decide (B (192 + h) < fu)) else if y = u then K u ++ (x :: r).filter (fun h => decide (fu ≤ B (192 + h))) else K y := by
          funext y
          rw [upK_at, upK_ne _ _ (Ne.symm hdu)]
          by_cases q1 : y = d
          · simp [q1, q, List.filter_cons]
          · rw [upK_ne _ _ q1]; simp [q1, q, List.filter_cons, show ¬ fu ≤ B (192 + x) by omega]
        rw [← this]; exact g2
      · rw [g4 y hy]
        by_cases q1 : y = x
        · subst q1; simp [h2a, q]
        · simp [q1]
    · obtain ⟨B', g1, g2, g3, g4, g5⟩ := run u hVu (by rw [if_neg q])
      refine ⟨B', g1, ?_, g3, fun y hy => ?_, g5⟩
      · have : (fun y => if y = d then upK K u (K u ++ [x]) d ++ r.filter (fun h => decide (B (192 + h) < fu)) else if y = u then upK K u (K u ++ [x]) u ++ r.filter (fun h => decide (fu ≤ B (192 + h))) else upK K u (K u ++ [x]) y) = fun y => if y = d then K d ++ (x :: r).filter (fun h => decide (B (192 + h) < fu)) else if y = u then K u ++ (x :: r).filter (fun h => decide (fu ≤ B (192 + h))) else K y := by
          funext y
          rw [upK_at, upK_ne _ _ hdu]
          by_cases q1 : y = d
          · simp [q1, q, List.filter_cons]
          · by_cases q2 : y = u
            · simp [q2, Ne.symm hdu, List.filter_cons, show fu ≤ B (192 + x) by omega]
            · rw [upK_ne _ _ q2]; simp [q1, q2]
        rw [← this]; exact g2
      · rw [g4 y hy]
        by_cases q1 : y = x
        · subst q1; simp [h2a, q]
        · simp [q1]
