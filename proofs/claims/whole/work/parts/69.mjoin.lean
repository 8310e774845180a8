/-! ===== the reference joins two halves ===== -/
theorem mj_loop {μ : Sl} {b : Nat} (hb : MB μ b) {V : Nat → Prop} (hV : ∀ x, V x → x < 192) {d u : Nat} (hVd : V d) : ∀ (r : List Nat) (n : Nat) (B : Nat → Int) (K : Nat → List Nat), KV V K → LB B V K → (∀ x, x ∈ r → V x ∧ ∀ y, V y → x ∉ K y) → r.Nodup → (∀ a x c, r = a ++ x :: c → B (1344 + x) = hd1 c) → r.length < n →
    ∃ B', Mo_oneOf_11 n (zI (d : Int)) (zI (u : Int)) (zI (hd1 r - 1)) (bst μ b B) = Mo_oneOf_11 1 (zI (d : Int)) (zI (u : Int)) (zI (-1)) (bst μ b B') ∧ LB B' V (upK K d (K d ++ r)) ∧ KV V (upK K d (K d ++ r)) ∧ (∀ k, k < 576 ∨ 1536 ≤ k → B' k = B k) ∧ (∀ y, y < 192 → B' (576 + y) = if y ∈ r then (d : Int) + 1 else B (576 + y)) ∧ ∀ y, y < 192 → y ∉ r → (∀ z, V z → y ∉ K z) → B' (1344 + y) = B (1344 + y) ∧ B' (1152 + y) = B (1152 + y) := by
  intro r
  induction r with
  | nil =>
    intro n B K hK hL h1 h2 h3 hn
    obtain ⟨m, rfl⟩ : ∃ m, n = m + 1 := ⟨n - 1, by omega⟩
    have e : upK K d (K d ++ []) = K := by
      funext x; unfold upK
      by_cases q : x = d
      · simp [q]
      · simp [q]
    refine ⟨B, ?_, by rw [e]; exact hL, by rw [e]; exact hK, fun _ _ => rfl, fun y _ => by simp, fun _ _ _ _ => ⟨rfl, rfl⟩⟩
    have hneg : zI (-1) < 0 := by rw [zI_lit, zI_lt (by omega) (by omega) (by omega) (by omega)]; decide
    rw [hd1_nil, show (0 : Int) - 1 = -1 from rfl, Mo_oneOf_11, Mo_oneOf_11, if_pos hneg, if_pos hneg]
  | cons x r ih =>
    intro n B K hK hL h1 h2 h3 hn
    obtain ⟨m, rfl⟩ : ∃ m, n = m + 1 := ⟨n - 1, by omega⟩
    obtain ⟨hx, hxn⟩ := h1 x (by simp)
    have hx1 := hV x hx
    have hd1' := hV d hVd
    obtain ⟨h2a, h2b⟩ := List.nodup_cons.mp h2
    have hnx := h3 [] x r rfl
    have hn' : r.length < m := by simp at hn; omega
    obtain ⟨a1, a2, a3, a4, a5, a6, a7⟩ := apB_ok hV hK hL hx hVd hxn
    have hmem : ∀ y z, V z → y ∈ upK K d (K d ++ [x]) z → y = x ∨ y ∈ K z := fun y z hz hm => by
      by_cases q : z = d
      · subst q; rw [upK_at] at hm
        rcases List.mem_append.mp hm with w | w
        · exact .inr w
        · simp at w; exact .inl w
      · rw [upK_ne _ _ q] at hm; exact .inr hm
    obtain ⟨B', g1, g2, g2', g3, g4, g5⟩ := ih m (apB B x d) (upK K d (K d ++ [x])) a2 a1 (fun y hy => ⟨(h1 y (by simp [hy])).1, fun z hz hm => by
        rcases hmem y z hz hm with e | e
        · exact h2a (e ▸ hy)
        · exact (h1 y (by simp [hy])).2 z hz e⟩) h2b (fun a y c e => by
        have hy : y ∈ r := by rw [e]; simp
        rw [(a5 y (hV y (h1 y (by simp [hy])).1) (fun z => h2a (z ▸ hy)) ((h1 y (by simp [hy])).2 d hVd)).1]
        exact h3 (x :: a) y c (by rw [e]; rfl)) hn'
    have eK : upK (upK K d (K d ++ [x])) d (upK K d (K d ++ [x]) d ++ r) = upK K d (K d ++ x :: r) := by
      rw [upK_at]
      funext y; unfold upK
      by_cases q : y = d
      · simp [q]
      · simp [q]
    rw [eK] at g2 g2'
    refine ⟨B', ?_, g2, g2', fun k hk => by rw [g3 k hk, a3 k hk], fun y hy => ?_, fun y hy hyr hyn => ?_⟩
    · rw [← g1, hd1_cons, show (x : Int) + 1 - 1 = (x : Int) by omega, Mo_oneOf_11]
      have hof1 : Mo_nextOf (bst μ b B) (zI (x : Int)) = some (zI (hd1 r - 1)) := by rw [m_next hb hx1, hnx]
      have hlk := m_link2 hb B hx1 hd1' a6 a7 (fun s => Mo_oneOf_11 m (zI (d : Int)) (zI (u : Int)) (zI (hd1 r - 1)) s)
      simp (disch := omega) only [zI_lit, zI_lt, if_neg, hof1, bp_some, bnd_ap, zI_add, zI_neg]
      exact hlk
    · rw [g4 y hy, a4 y hy]
      by_cases q : y = x
      · subst q; simp [h2a]
      · simp [q]
    · simp at hyr
      have hnn : ∀ z, V z → y ∉ upK K d (K d ++ [x]) z := fun z hz hm => by
        rcases hmem y z hz hm with w | w
        · exact hyr.1 w
        · exact hyn z hz w
      rw [(g5 y hy hyr.2 hnn).1, (g5 y hy hyr.2 hnn).2]
      exact a5 y hy hyr.1 (hyn d hVd)
theorem mr_join {n S : Nat} {A : Ab} {dep : Nat → Nat} {b d u : Nat} {B : Nat → Int} {μ : Sl} {s v : Int} (hb : MB μ b) (h : WF n S A dep) (hM : MRep B A) (hd : Lv A d) (hl : Lv A u) (hdu : d ≠ u) (ho3 : A.1 0 d ≤ 3) (hg : A.1 3 u = A.1 3 d)
    (ha : Mo_added (zI (A.1 8 d)) (zI (A.1 8 u)) = some (zI s)) (hv : Mo_times (zI s) (1056964608 : Int32) = some (zI v)) :
    ∃ B', Mo_oneOf (bst μ b B) (zI (d : Int)) (zI (u : Int)) = some ((), bst μ b B') ∧ MRep B' (aJoin A d u v) ∧ ∀ k, 1920 ≤ k → B' k = if k = wdc d then 1 else B k := by
  have hKW := WF_KW h
  have hd192 := hd.1
  have hu192 := hl.1
  have hd2 := hd.2
  have hlen : (A.2 u).length ≤ 192 := len192 (hKW.1.1 u hl).1 (fun x hx => ((hKW.1.1 u hl).2 x hx).1)
  obtain ⟨m1, m2, m3, m4⟩ := hM
  have hKu : ∀ x, x ∈ A.2 u → Lv A x ∧ A.1 3 x = (u : Int) + 1 ∧ x ≠ u ∧ dep x = dep u + 1 := fun x hx => kid_ne h hl hx
  have hV : ∀ x, (Lv A x ∧ x ≠ u) → x < 192 := fun x hx => hx.1.1
  -- the upper half leaves
  have h1 : ∃ B1, Mo_leaves (bst μ b B) (zI (u : Int)) = some ((), bst μ b B1) ∧ LB B1 (fun x => Lv A x ∧ x ≠ u) (fun x => if A.1 3 d = (x : Int) + 1 then (A.2 x).filter (fun y => decide (y ≠ u)) else A.2 x) ∧ (∀ k, k < 768 ∨ 1536 ≤ k → B1 k = B k) ∧ B1 (768 + u) = B (768 + u) ∧ (∀ x, x ∈ A.2 u → B1 (1344 + x) = B (1344 + x)) ∧ ∀ x, Lv A x → A.1 3 x = 0 → B1 (1344 + x) = 0 ∧ B1 (1152 + x) = 0 := by
    have o1 : Mo_of (bst μ b B) (zI (1152 + (u : Int))) = some (zI (B (1152 + u))) := by rw [m_of hb B (by omega) (by omega)]; rfl
    have o2 : Mo_of (bst μ b B) (zI (1344 + (u : Int))) = some (zI (B (1344 + u))) := by rw [m_of hb B (by omega) (by omega)]; rfl
    have o3 := (m2 u hl).2.2.1
    rcases gv_or h hl with ⟨g1, -⟩ | ⟨g, g1, g2, g3⟩
    · obtain ⟨z1, z2⟩ := m4 u hl g1
      refine ⟨B, ?_, fun x hx => ?_, fun _ _ => rfl, rfl, fun _ _ => rfl, m4⟩
      · have l1 := m_linked hb B (a := 0) (c := 0) (g := 0) (by omega) (by omega) (by omega) (by omega) (by omega) (by omega)
        have e0 : lnk B 0 0 0 = B := by simp [lnk]
        rw [e0] at l1
        simp only [Mo_leaves, zI_lit, zI_add, o1, o2, z1, z2, bp_some, m_giver hb hu192, o3, g1, zI_sub, l1, bd_some]
      · dsimp only; rw [if_neg (by omega)]; exact m3 x hx.1
    · have hgl := gv_live h hl g1
      have g192 := g2.1
      obtain ⟨a, c, hac⟩ := List.append_of_mem hgl.2.1
      obtain ⟨n1, n2⟩ := (m3 g g2).2.2 a u c hac
      have n1' : B (1344 + u) = hd1 c := n1
      have n2' : B (1152 + u) = ls1 a := n2
      have hkg := (hKW.1.1 g g2).2
      have hnd := (hKW.1.1 g g2).1
      rw [hac] at hkg hnd
      have r1 := ls1_rng (V := Lv A) Lv_lt (l := a) (fun x hx => hkg x (by simp [hx]))
      have r2 := hd1_rng (V := Lv A) Lv_lt (l := c) (fun x hx => hkg x (by simp [hx]))
      have hlt := lb_take Lv_lt hKW.1 m3 g2 hac
      obtain ⟨e1, e2, e3, e4, e5⟩ := lnk_take (B := B) (g := g) (p := B (1152 + u)) (n := B (1344 + u)) g192 (by rw [n2']; exact r1.1) (by rw [n2']; exact r1.2) (by rw [n1']; exact r2.1) (by rw [n1']; exact r2.2)
      have l1 := m_linked hb B (a := B (1152 + u)) (c := B (1344 + u)) (g := (g : Int) + 1) (by rw [n2']; exact r1.1) (by rw [n2']; exact r1.2) (by rw [n1']; exact r2.1) (by rw [n1']; exact r2.2) (by omega) (by omega)
      have hug : u ≠ g := fun z => by subst z; omega
      refine ⟨_, ?_, fun x hx => ?_, e5, by rw [e1 u hu192, if_neg (fun z => hug z.1)], fun x hx => ?_, fun x hx h0 => ?_⟩
      · simp only [Mo_leaves, zI_lit, zI_add, o1, o2, bp_some, m_giver hb hu192, o3, g1, zI_sub, l1, bd_some]
      · have hK : (if A.1 3 d = (x : Int) + 1 then (A.2 x).filter (fun y => decide (y ≠ u)) else A.2 x) = upK A.2 g (a ++ c) x := by
          by_cases q : x = g
          · subst q; rw [if_pos (by omega), upK_at, hac]; exact filt_split hnd
          · rw [if_neg (by omega), upK_ne _ _ q]
        dsimp only
        rw [hK]; exact hlt x hx.1
      · have hxk := hKu x hx
        rw [e3 x hxk.1.1, if_neg]
        intro z
        rw [n2'] at z
        have := ls1_in z.symm
        have h3 := hKW.2.2 g x g2 (by rw [hac]; simp [this])
        omega
      · have hnx := root_not hKW h0 g g2
        rw [e3 x hx.1, e4 x hx.1, if_neg, if_neg]
        · exact m4 x hx h0
        · intro z; rw [n1'] at z; have := hd1_mem z.symm; exact hnx (by rw [hac]; simp [this])
        · intro z; rw [n2'] at z; have := ls1_in z.symm; exact hnx (by rw [hac]; simp [this])
  obtain ⟨B1, x1, x2, x3, x4, x5, x6⟩ := h1
  have hkm : ∀ x y, Lv A x → y ∈ (if A.1 3 d = (x : Int) + 1 then (A.2 x).filter (fun y => decide (y ≠ u)) else A.2 x) → y ∈ A.2 x ∧ y ≠ u := fun x y hx hy => by
    by_cases q : A.1 3 d = (x : Int) + 1
    · rw [if_pos q, List.mem_filter] at hy; exact ⟨hy.1, by simpa using hy.2⟩
    · rw [if_neg q] at hy
      refine ⟨hy, fun z => q ?_⟩
      subst z; have := hKW.2.2 x y hx hy; omega
  have hK1 : KV (fun x => Lv A x ∧ x ≠ u) (fun x => if A.1 3 d = (x : Int) + 1 then (A.2 x).filter (fun y => decide (y ≠ u)) else A.2 x) := by
    refine ⟨fun x hx => ⟨?_, fun y hy => ⟨(hKW.1.1 x hx.1).2 y (hkm x y hx.1 hy).1, (hkm x y hx.1 hy).2⟩⟩, fun x y z hx hy h1 h2 => hKW.1.2 x y z hx.1 hy.1 (hkm x z hx.1 h1).1 (hkm y z hy.1 h2).1⟩
    dsimp only
    split
    · exact (hKW.1.1 x hx.1).1.filter _
    · exact (hKW.1.1 x hx.1).1
  obtain ⟨B4, k1, k2, -, k3, k4, k5⟩ := mj_loop hb hV (d := d) (u := u) ⟨hd, hdu⟩ (A.2 u) FU B1 _ hK1 x2 (fun x hx => ⟨⟨(hKu x hx).1, (hKu x hx).2.2.1⟩, fun y hy hm => by
      have h1 := hKW.2.2 y x hy.1 (hkm y x hy.1 hm).1
      have h2 := (hKu x hx).2.1
      exact hy.2 (by omega)⟩) (hKW.1.1 u hl).1 (fun a x c e => by
      rw [x5 x (by rw [e]; simp)]; exact ((m3 u hl).2.2 a x c e).1) (FU_gt (by omega))
  have hkd : A.1 3 d ≠ (d : Int) + 1 := fun z => by have := gv_live h hd z; omega
  have b4 : ∀ k, k < 576 ∨ 1536 ≤ k → B4 k = B k := fun k hk => by rw [k3 k hk, x3 k (by omega)]
  have b4d : B4 d = A.1 0 d := by rw [b4 d (by omega), m1 d hd192]
  obtain ⟨B5, hB5⟩ : ∃ B5, B5 = upB (upB (upB (upB B4 (1536 + d) v) u 0) d (A.1 0 d + 1)) (wdc d) 1 := ⟨_, rfl⟩
  have hw : 1920 ≤ wdc d ∧ wdc d < 1944 := by unfold wdc; omega
  have b5 : ∀ k, k ≠ 1536 + d → k ≠ u → k ≠ d → k ≠ wdc d → B5 k = B4 k := fun k q1 q2 q3 q4 => by
    rw [hB5]; simp only [upB_ap]; rw [if_neg q4, if_neg q3, if_neg q2, if_neg q1]
  have b5d : B5 d = A.1 0 d + 1 := by rw [hB5, upB_ap, if_neg (by omega), upB_ap, if_pos rfl]
  have b5u : B5 u = 0 := by rw [hB5, upB_ap, if_neg (by omega), upB_ap, if_neg (Ne.symm hdu), upB_ap, if_pos rfl]
  have b5v : B5 (1536 + d) = v := by rw [hB5, upB_ap, if_neg (by omega), upB_ap, if_neg (by omega), upB_ap, if_neg (by omega), upB_ap, if_pos rfl]
  have el : ∀ x, Lv (aJoin A d u v) x ↔ Lv A x ∧ x ≠ u := fun x => by
    by_cases q1 : x = u
    · subst q1; unfold Lv; simp [aJoin]
    · by_cases q2 : x = d
      · subst q2; unfold Lv; simp [aJoin, q1]; omega
      · unfold Lv; simp [aJoin, q1, q2]
  refine ⟨B5, ?_, ⟨fun x hx => ?_, fun x hx => ?_, fun x hx => ?_, fun x hx h0 => ?_⟩, fun k hk => ?_⟩
  · have hfst : B1 (768 + u) = hd1 (A.2 u) := by rw [x4]; exact (m3 u hl).1
    have o1 : Mo_of (bst μ b B4) (zI (1536 + (d : Int))) = some (zI (A.1 8 d)) := by
      rw [m_of hb _ (by omega) (by omega), show (1536 + (d : Int)).toNat = 1536 + d by omega, b4 _ (by omega), (m2 d hd).2.2.2.1]
    have o2 : Mo_of (bst μ b B4) (zI (1536 + (u : Int))) = some (zI (A.1 8 u)) := by
      rw [m_of hb _ (by omega) (by omega), show (1536 + (u : Int)).toNat = 1536 + u by omega, b4 _ (by omega), (m2 u hl).2.2.2.1]
    have l1 : Mo_lay (bst μ b B4) (zI (1536 + (d : Int))) (zI v) = some ((), bst μ b (upB B4 (1536 + d) v)) := by rw [m_lay hb _ _ (by omega) (by omega)]; rfl
    have l2 : Mo_lay (bst μ b (upB B4 (1536 + d) v)) (zI (0 + (u : Int))) (zI 0) = some ((), bst μ b (upB (upB B4 (1536 + d) v) u 0)) := by rw [m_lay hb _ _ (by omega) (by omega)]; congr 4; omega
    have e3 : upB (upB B4 (1536 + d) v) u 0 d = A.1 0 d := by simp only [upB_ap]; rw [if_neg hdu, if_neg (by omega)]; exact b4d
    have l3 : Mo_more (bst μ b (upB (upB B4 (1536 + d) v) u 0)) (zI (0 + (d : Int))) = some ((), bst μ b (upB (upB (upB B4 (1536 + d) v) u 0) d (A.1 0 d + 1))) := by
      rw [m_more hb _ (by omega) (by omega), show (0 + (d : Int)).toNat = d by omega, e3]
    have e4 : upB (upB (upB B4 (1536 + d) v) u 0) d (A.1 0 d + 1) d = A.1 0 d + 1 := by rw [upB_ap, if_pos rfl]
    have l4 := m_widens hb (upB (upB (upB B4 (1536 + d) v) u 0) d (A.1 0 d + 1)) hd192 (by rw [e4]; omega) (by rw [e4]; omega)
    rw [e4, if_pos (by omega)] at l4
    simp only [Mo_oneOf, x1, bd_some, m_first hb hu192, bp_some, bnd_ap, hfst, k1]
    rw [Mo_oneOf_11]
    simp (disch := omega) only [zI_lit, zI_lt, if_pos, zI_add, o1, o2, bp_some, ha]
    rw [show zI 1056964608 = (1056964608 : Int32) from rfl, hv]
    simp only [bp_some, l1, bd_some, l2, l3, l4]
    rw [hB5]
  · by_cases q1 : x = d
    · subst q1; rw [b5d]; simp [aJoin, hdu]
    · by_cases q2 : x = u
      · subst q2; rw [b5u]; simp [aJoin]
      · rw [b5 x (by omega) q2 q1 (by omega), b4 x (by omega), m1 x hx]; simp [aJoin, q1, q2]
  · obtain ⟨hx1, hxu⟩ := (el x).mp hx
    have hx192 := hx1.1
    obtain ⟨t1, t2, t3, t4, t5⟩ := m2 x hx1
    rw [b5 (192 + x) (by omega) (by omega) (by omega) (by omega), b5 (384 + x) (by omega) (by omega) (by omega) (by omega), b5 (576 + x) (by omega) (by omega) (by omega) (by omega), b5 (1728 + x) (by omega) (by omega) (by omega) (by omega), b4 _ (by omega), b4 _ (by omega), b4 (1728 + x) (by omega), k4 x hx192, x3 (576 + x) (by omega), t1, t2, t3, t5]
    refine ⟨by simp [aJoin], by simp [aJoin], ?_, ?_, by simp [aJoin]⟩
    · have hm : x ∈ A.2 u ↔ A.1 3 x = (u : Int) + 1 := ⟨fun z => (kid_ne h hl z).2.1, fun z => (gv_live h hx1 z).2.1⟩
      simp only [hm]; simp [aJoin]
    · by_cases q : x = d
      · subst q; rw [b5v]; simp [aJoin]
      · rw [b5 (1536 + x) (by omega) (by omega) (by omega) (by omega), b4 _ (by omega), t4]; simp [aJoin, q]
  · obtain ⟨hx1, hxu⟩ := (el x).mp hx
    have hx192 := hx1.1
    have hKe : (aJoin A d u v).2 x = upK (fun x => if A.1 3 d = (x : Int) + 1 then (A.2 x).filter (fun y => decide (y ≠ u)) else A.2 x) d ((if A.1 3 d = (d : Int) + 1 then (A.2 d).filter (fun y => decide (y ≠ u)) else A.2 d) ++ A.2 u) x := by
      by_cases q : x = d
      · subst q; rw [upK_at, if_neg hkd]; simp [aJoin]
      · rw [upK_ne _ _ q]; simp [aJoin, q]
    rw [hKe]
    obtain ⟨f1, f2, f3⟩ := k2 x ⟨hx1, hxu⟩
    refine ⟨by dsimp only; rw [b5 _ (by omega) (by omega) (by omega) (by omega)]; exact f1, by dsimp only; rw [b5 _ (by omega) (by omega) (by omega) (by omega)]; exact f2, fun l1 y l2 e => ?_⟩
    have hy192 : y < 192 := by
      have hy : y ∈ l1 ++ y :: l2 := by simp
      rw [← e] at hy
      by_cases q : x = d
      · subst q
        rw [upK_at] at hy
        rcases List.mem_append.mp hy with w | w
        · exact ((hKW.1.1 x hx1).2 y (hkm x y hx1 w).1).1
        · exact (hKu y w).1.1
      · rw [upK_ne _ _ q] at hy
        exact ((hKW.1.1 x hx1).2 y (hkm x y hx1 hy).1).1
    dsimp only
    rw [b5 _ (by omega) (by omega) (by omega) (by omega), b5 _ (by omega) (by omega) (by omega) (by omega)]
    exact f3 l1 y l2 e
  · obtain ⟨hx1, hxu⟩ := (el x).mp hx
    have hx192 := hx1.1
    have h3 : (aJoin A d u v).1 3 x = if A.1 3 x = (u : Int) + 1 then (d : Int) + 1 else A.1 3 x := by simp [aJoin]
    rw [h3] at h0
    have h00 : A.1 3 x = 0 := by split at h0 <;> omega
    have hxk : x ∉ A.2 u := root_not hKW h00 u hl
    have hr := k5 x hx192 hxk (fun z hz hm => root_not hKW h00 z hz.1 (hkm z x hz.1 hm).1)
    rw [b5 _ (by omega) (by omega) (by omega) (by omega), b5 _ (by omega) (by omega) (by omega) (by omega), hr.1, hr.2]
    exact x6 x hx1 h00
  · by_cases q : k = wdc d
    · rw [if_pos q, hB5, upB_ap, if_pos q]
    · rw [if_neg q, b5 k (by omega) (by omega) (by omega) q, b4 k (by omega)]
