theorem LB_K {B : Nat → Int} {V : Nat → Prop} {K K' : Nat → List Nat} (h : LB B V K) (e : ∀ x, V x → K' x = K x) : LB B V K' := fun x hx => by rw [e x hx]; exact h x hx
theorem KV_K {V : Nat → Prop} {K K' : Nat → List Nat} (h : KV V K) (e : ∀ x, V x → K' x = K x) : KV V K' :=
  ⟨fun x hx => by rw [e x hx]; exact h.1 x hx, fun x y z hx hy h1 h2 => h.2 x y z hx hy (by rw [e x hx] at h1; exact h1) (by rw [e y hy] at h2; exact h2)⟩
theorem KV_ins {V : Nat → Prop} {K : Nat → List Nat} (hK : KV V K) {g c u : Nat} (hu : V u) (hun : ∀ x, V x → u ∉ K x) : KV V (upK K g (insA c u (K g))) := by
  have key : ∀ w z, V w → z ∈ upK K g (insA c u (K g)) w → (z = u ∧ w = g) ∨ (z ≠ u ∧ z ∈ K w) := fun w z hw hz => by
    by_cases q : w = g
    · subst q; rw [upK_at] at hz
      rcases insA_mem.mp hz with hz | ⟨hz, -⟩
      · exact .inr ⟨fun e => hun w hw (e ▸ hz), hz⟩
      · exact .inl ⟨hz, rfl⟩
    · rw [upK_ne _ _ q] at hz; exact .inr ⟨fun e => hun w hw (e ▸ hz), hz⟩
  refine ⟨fun x hx => ?_, fun x y z hx hy h1 h2 => ?_⟩
  · by_cases q : x = g
    · subst q; rw [upK_at]
      refine ⟨insA_nodup (hK.1 x hx).1 (hun x hx), fun y hy => ?_⟩
      rcases insA_mem.mp hy with hy | ⟨hy, -⟩
      · exact (hK.1 x hx).2 y hy
      · subst hy; exact hu
    · rw [upK_ne _ _ q]; exact hK.1 x hx
  · rcases key x z hx h1 with ⟨a1, a2⟩ | ⟨a1, a2⟩ <;> rcases key y z hy h2 with ⟨b1, b2⟩ | ⟨b1, b2⟩
    · omega
    · exact absurd a1 b1
    · exact absurd b1 a1
    · exact hK.2 x y z hx hy a2 b2
theorem mr_halve {n S : Nat} {A : Ab} {dep : Nat → Nat} {μ : Sl} {b d : Nat} {B : Nat → Int} (hb : MB μ b) (hW : WF n S A dep) (hM : MRep B A) (hd : Lv A d) (ho : 2 ≤ A.1 0 d) :
    ∃ B', Mo_halves (bst μ b B) (zI (d : Int)) = some ((), bst μ b B') ∧ MRep B' (aHalve A d) ∧ (∀ k, 1920 ≤ k → k ≠ 2198 → B' k = if 1 < A.1 0 d - 1 ∧ k = wdc (d + hfA A d) then 1 else B k) ∧ B' 2198 = B 2198 + 1 := by
  have hc := hf_cases hW hd ho
  have hu := hv_u hW hd ho
  have hwa := hW.2.2.2.1 d hd
  have hn6 := hW.1
  have hS32 := hW.2.1
  have hKW := WF_KW hW
  have hd192 := hd.1
  have hlen : (A.2 d).length ≤ 192 := len192 (hKW.1.1 d hd).1 (fun x hx => ((hKW.1.1 d hd).2 x hx).1)
  have hu192 : d + hfA A d < 192 := by have := hwa.2.2.1; have := hwa.2.2.2.1; omega
  obtain ⟨m1, m2, m3, m4⟩ := hM
  obtain ⟨q1, q2, q3, q4, q5⟩ := m2 d hd
  have q0 := m1 d hd192
  have hl3 := hv_lv hW hd ho
  have hhf2 : pg (A.1 0 d - 1) = hfA A d := rfl
  generalize hhf : hfA A d = hf at *
  generalize hue : d + hf = u at *
  have hud : u ≠ d := by omega
  have hg0 : 0 ≤ A.1 3 d ∧ A.1 3 d ≤ 192 := by
    rcases gv_or hW hd with ⟨g1, -⟩ | ⟨g, g1, g2, -⟩
    · omega
    · have := g2.1; omega
  have hV : ∀ x, (x = u ∨ Lv A x) → x < 192 := fun x hx => hx.elim (fun e => e ▸ hu192) (fun z => z.1)
  have hVn : ∀ x, Lv A x → x ≠ u := fun x hx e => hu.1 (e ▸ hx)
  obtain ⟨c0, c1, c2, c3, c4, c5, c6, c7, c8, c9, c10, c11⟩ := cm2_cell (B := B) (o := A.1 0 d - 1) (f := A.1 1 d + hf) (r := A.1 2 d) (g := 0) (a := A.1 8 d) hu192
  generalize hB1 : cm2 B u (A.1 0 d - 1) (A.1 1 d + hf) (A.1 2 d) 0 (A.1 8 d) = B1 at *
  -- the bank behind the plain writes
  obtain ⟨B2, hB2⟩ : ∃ B2, B2 = upB (upB (upB (upB (upB (upB B1 (1728 + u) (A.1 9 d)) d (A.1 0 d - 1)) (768 + d) 0) (960 + d) 0) (1152 + d) (B (1152 + d))) (576 + u) (A.1 3 d) := ⟨_, rfl⟩
  have w0 : ∀ j x, x < 192 → j < 10 → x ≠ u → x ≠ d → B2 (192 * j + x) = B (192 * j + x) := fun j x hx hj h1 h2 => by
    rw [hB2]; simp only [upB_ap]; simp (disch := omega) only [if_neg]; exact c0 j x hx hj h1
  have wd : ∀ j, j < 10 → j ≠ 0 → j ≠ 4 → j ≠ 5 → B2 (192 * j + d) = B (192 * j + d) := fun j hj h0 h4 h5 => by
    rw [hB2]; simp only [upB_ap]
    by_cases h6 : j = 6
    · subst h6; simp (disch := omega) only [if_neg, if_pos]; simp
    · simp (disch := omega) only [if_neg]; exact c0 j d hd192 hj (Ne.symm hud)
  have wd0 : B2 d = A.1 0 d - 1 := by rw [hB2]; simp only [upB_ap]; simp (disch := omega) only [if_neg, if_true]
  have wd4 : B2 (768 + d) = 0 := by rw [hB2]; simp only [upB_ap]; simp (disch := omega) only [if_neg, if_true]
  have wd5 : B2 (960 + d) = 0 := by rw [hB2]; simp only [upB_ap]; simp (disch := omega) only [if_neg, if_true]
  have wu0 : B2 u = A.1 0 d - 1 := by rw [hB2]; simp only [upB_ap]; simp (disch := omega) only [if_neg]; exact c1
  have wu1 : B2 (192 + u) = A.1 1 d + hf := by rw [hB2]; simp only [upB_ap]; simp (disch := omega) only [if_neg]; exact c2
  have wu2 : B2 (384 + u) = A.1 2 d := by rw [hB2]; simp only [upB_ap]; simp (disch := omega) only [if_neg]; exact c3
  have wu3 : B2 (576 + u) = A.1 3 d := by rw [hB2]; simp only [upB_ap]; simp (disch := omega) only [if_true]
  have wu4 : B2 (768 + u) = 0 := by rw [hB2]; simp only [upB_ap]; simp (disch := omega) only [if_neg]; exact c5
  have wu5 : B2 (960 + u) = 0 := by rw [hB2]; simp only [upB_ap]; simp (disch := omega) only [if_neg]; exact c6
  have wu6 : B2 (1152 + u) = 0 := by rw [hB2]; simp only [upB_ap]; simp (disch := omega) only [if_neg]; exact c7
  have wu7 : B2 (1344 + u) = 0 := by rw [hB2]; simp only [upB_ap]; simp (disch := omega) only [if_neg]; exact c8
  have wu8 : B2 (1536 + u) = A.1 8 d := by rw [hB2]; simp only [upB_ap]; simp (disch := omega) only [if_neg]; exact c9
  have wu9 : B2 (1728 + u) = A.1 9 d := by rw [hB2]; simp only [upB_ap]; simp (disch := omega) only [if_neg, if_true]
  have wk : ∀ k, 1920 ≤ k → B2 k = if 1 < A.1 0 d - 1 ∧ k = wdc u then 1 else B k := fun k hk => by
    rw [hB2]; simp only [upB_ap]; simp (disch := omega) only [if_neg]; exact c11 k hk
  have wn : B2 (1344 + d) = B (1344 + d) := by have := wd 7 (by decide) (by decide) (by decide) (by decide); rw [show 192 * 7 + d = 1344 + d by omega] at this; exact this
  -- lists, both halves without heirs
  have hK0 : KV (fun x => x = u ∨ Lv A x) (fun x => if x = u ∨ x = d then [] else A.2 x) := by
    refine ⟨fun x hx => ?_, fun x y z hx hy h1 h2 => ?_⟩
    · dsimp only
      by_cases q : x = u ∨ x = d
      · rw [if_pos q]; exact ⟨List.nodup_nil, fun y hy => by cases hy⟩
      · rw [if_neg q]
        have hx1 := hx.resolve_left (fun e => q (.inl e))
        exact ⟨(hKW.1.1 x hx1).1, fun y hy => .inr ((hKW.1.1 x hx1).2 y hy)⟩
    · dsimp only at h1 h2
      by_cases q : x = u ∨ x = d
      · rw [if_pos q] at h1; cases h1
      · by_cases r : y = u ∨ y = d
        · rw [if_pos r] at h2; cases h2
        · rw [if_neg q] at h1; rw [if_neg r] at h2
          exact hKW.1.2 x y z (hx.resolve_left (fun e => q (.inl e))) (hy.resolve_left (fun e => r (.inl e))) h1 h2
  have hL0 : LB B2 (fun x => x = u ∨ Lv A x) (fun x => if x = u ∨ x = d then [] else A.2 x) := by
    intro x hx
    dsimp only
    by_cases q : x = u
    · subst q; rw [if_pos (.inl rfl), wu4, wu5]; exact ⟨rfl, rfl, fun l1 y l2 e => by simp at e⟩
    · by_cases q' : x = d
      · subst q'; rw [if_pos (.inr rfl), wd4, wd5]; exact ⟨rfl, rfl, fun l1 y l2 e => by simp at e⟩
      · have hx1 := hx.resolve_left q
        obtain ⟨f1, f2, f3⟩ := m3 x hx1
        have z1 := w0 4 x hx1.1 (by decide) q q'
        have z2 := w0 5 x hx1.1 (by decide) q q'
        rw [if_neg (by omega), show 768 + x = 192 * 4 + x by omega, z1, show 960 + x = 192 * 5 + x by omega, z2]
        refine ⟨f1, f2, fun l1 y l2 e => ?_⟩
        have hy : Lv A y := (hKW.1.1 x hx1).2 y (by rw [e]; simp)
        have qy := hVn y hy
        have z3 : B2 (1344 + y) = B (1344 + y) := by
          by_cases qd : y = d
          · subst qd; exact wn
          · have := w0 7 y hy.1 (by decide) qy qd; rw [show 192 * 7 + y = 1344 + y by omega] at this; exact this
        have z4 : B2 (1152 + y) = B (1152 + y) := by
          by_cases qd : y = d
          · subst qd; have := wd 6 (by decide) (by decide) (by decide) (by decide); rw [show 192 * 6 + y = 1152 + y by omega] at this; exact this
          · have := w0 6 y hy.1 (by decide) qy qd; rw [show 192 * 6 + y = 1152 + y by omega] at this; exact this
        rw [z3, z4]
        exact f3 l1 y l2 e
  have hun : ∀ x, (x = u ∨ Lv A x) → u ∉ (if x = u ∨ x = d then [] else A.2 x) := fun x hx hm => by
    by_cases q : x = u ∨ x = d
    · rw [if_pos q] at hm; cases hm
    · rw [if_neg q] at hm; exact hu.1 ((hKW.1.1 x (hx.resolve_left (fun e => q (.inl e)))).2 u hm)
  -- the upper half behind the lower one
  have h3 : ∃ B3, (∀ k : Sl → Option (Unit × Sl), (if zI (A.1 3 d - 1) < zI 0 then k (bst μ b B2) else (bd (Mo_linked (bst μ b B2) (zI (d : Int)) (zI (u : Int)) (zI (A.1 3 d - 1))) fun _ d48 => bd (Mo_linked d48 (zI (u : Int)) (zI (B (1344 + d) - 1)) (zI (A.1 3 d - 1))) fun _ d50 => k d50)) = k (bst μ b B3)) ∧
      LB B3 (fun x => x = u ∨ Lv A x) (fun x => if x = u ∨ x = d then [] else if A.1 3 d = (x : Int) + 1 then insA d u (A.2 x) else A.2 x) ∧ KV (fun x => x = u ∨ Lv A x) (fun x => if x = u ∨ x = d then [] else if A.1 3 d = (x : Int) + 1 then insA d u (A.2 x) else A.2 x) ∧ (∀ k, k < 768 ∨ 1536 ≤ k → B3 k = B2 k) ∧ (∀ x, x ∈ A.2 d → B3 (1344 + x) = B2 (1344 + x)) ∧ (∀ x, Lv A x → A.1 3 x = 0 → x ≠ d → B3 (1344 + x) = B2 (1344 + x) ∧ B3 (1152 + x) = B2 (1152 + x)) ∧ (A.1 3 d = 0 → B3 = B2) := by
    rcases gv_or hW hd with ⟨g1, -⟩ | ⟨g, g1, g2, g3⟩
    · refine ⟨B2, fun k => ?_, ?_, ?_, fun _ _ => rfl, fun _ _ => rfl, fun _ _ _ _ => ⟨rfl, rfl⟩, fun _ => rfl⟩
      · rw [g1, if_pos (by rw [zI_lt (by omega) (by omega) (by omega) (by omega)]; omega)]
      · exact LB_K hL0 (fun x hx => by
          by_cases q : x = u ∨ x = d
          · rw [if_pos q, if_pos q]
          · rw [if_neg q, if_neg q, if_neg (by omega)])
      · exact KV_K hK0 (fun x hx => by
          by_cases q : x = u ∨ x = d
          · rw [if_pos q, if_pos q]
          · rw [if_neg q, if_neg q, if_neg (by omega)])
    · have hgl := gv_live hW hd g1
      have qgd : g ≠ d := fun e => by subst e; omega
      have qgu := hVn g g2
      obtain ⟨a, c, hac⟩ := List.append_of_mem hgl.2.1
      have hK0g : (fun x => if x = u ∨ x = d then [] else A.2 x) g = a ++ d :: c := by dsimp only; rw [if_neg (by omega)]; exact hac
      have hins := lb_ins hV hK0 hL0 (g := g) (c := d) (u := u) (.inr g2) hK0g hu192 hud hun
      rw [wn] at hins
      have hnd := (hKW.1.1 g g2).1
      have hda := List.nodup_append.mp (hac ▸ hnd)
      have hia : insA d u (A.2 g) = a ++ d :: u :: c := by
        rw [hac]; exact insA_split (fun z => hda.2.2 d z d (by simp) rfl) (List.nodup_cons.mp hda.2.1).1
      have hKe : ∀ x, (x = u ∨ Lv A x) → (if x = u ∨ x = d then [] else if A.1 3 d = (x : Int) + 1 then insA d u (A.2 x) else A.2 x) = upK (fun x => if x = u ∨ x = d then [] else A.2 x) g (a ++ d :: u :: c) x := fun x hx => by
        by_cases q : x = g
        · subst q; rw [upK_at, if_neg (by omega), if_pos g1, hia]
        · rw [upK_ne _ _ q]
          by_cases q' : x = u ∨ x = d
          · rw [if_pos q', if_pos q']
          · rw [if_neg q', if_neg q', if_neg (by omega)]
      have hNd : B (1344 + d) = hd1 c := ((m3 g g2).2.2 a d c hac).1
      have hkg := (hKW.1.1 g g2).2
      rw [hac] at hkg
      have hNr := hd1_rng (V := Lv A) Lv_lt (l := c) (fun x hx => hkg x (by simp [hx]))
      obtain ⟨e1, e2, e3, e4, e5⟩ := lnk_ins (B := B2) (d := d) (u := u) (g := g) (n := B (1344 + d)) hd192 hu192 g2.1 (by rw [hNd]; exact hNr.1) (by rw [hNd]; exact hNr.2) hud (fun z => by
        rw [hNd] at z; have := hd1_mem z; exact hu.1 (hkg u (by simp [this])))
      have l1 := m_linked hb B2 (a := (d : Int) + 1) (c := (u : Int) + 1) (g := (g : Int) + 1) (by omega) (by omega) (by omega) (by omega) (by omega) (by have := g2.1; omega)
      have l2 := m_linked hb (lnk B2 ((d : Int) + 1) ((u : Int) + 1) ((g : Int) + 1)) (a := (u : Int) + 1) (c := B (1344 + d)) (g := (g : Int) + 1) (by omega) (by omega) (by rw [hNd]; exact hNr.1) (by rw [hNd]; exact hNr.2) (by omega) (by have := g2.1; omega)
      rw [show (d : Int) + 1 - 1 = (d : Int) by omega, show (u : Int) + 1 - 1 = (u : Int) by omega] at l1
      rw [show (u : Int) + 1 - 1 = (u : Int) by omega] at l2
      refine ⟨_, fun k => ?_, LB_K hins hKe, KV_K (by rw [← hia]; have := KV_ins (g := g) (c := d) hK0 (.inl rfl) hun; rw [if_neg (show ¬ (g = u ∨ g = d) by omega)] at this; exact this) hKe, e5, fun x hx => ?_, fun x hx hx0 hxd => ?_, fun z => by omega⟩
      · have hg192 := g2.1
        rw [g1, if_neg (by rw [zI_lt (by omega) (by omega) (by omega) (by omega)]; omega), l1, bd_some, l2, bd_some]
      · have hk := kid_ne hW hd hx
        rw [e3 x hk.1.1, if_neg (hVn x hk.1), if_neg hk.2.2.1]
      · rw [e3 x hx.1, e4 x hx.1, if_neg (hVn x hx), if_neg hxd, if_neg (hVn x hx), if_neg]
        · exact ⟨rfl, rfl⟩
        · intro z
          rw [hNd] at z
          have := hd1_mem z.symm
          exact root_not hKW hx0 g g2 (by rw [hac]; simp [this])
  obtain ⟨B3, y1, y2, y3, y4, y5, y6, y7⟩ := h3
  have f192 : ∀ x, Lv A x → B3 (192 + x) = A.1 1 x := fun x hx => by
    rw [y4 _ (by have := hx.1; omega)]
    by_cases qd : x = d
    · subst qd; have := wd 1 (by decide) (by decide) (by decide) (by decide); rw [show 192 * 1 + x = 192 + x by omega] at this; rw [this]; exact q1
    · have := w0 1 x hx.1 (by decide) (hVn x hx) qd; rw [show 192 * 1 + x = 192 + x by omega] at this; rw [this]; exact (m2 x hx).1
  have hKd : ∀ x, x ∈ A.2 d → Lv A x := fun x hx => (hKW.1.1 d hd).2 x hx
  obtain ⟨B4, k1, k2, k3, k4, k5⟩ := mh_loop hb hV (d := d) (u := u) (.inr hd) (.inl rfl) (Ne.symm hud) (A.1 1 d + hf) (by have := hwa.2.2.2.2.1; omega) (by have := hwa.2.2.2.2.2.2.1; omega) (A.2 d) FU B3 _ y3 y2 (fun x hx => ⟨.inr (hKd x hx), fun y hy hm => by
      by_cases q : y = u ∨ y = d
      · rw [if_pos q] at hm; cases hm
      · rw [if_neg q] at hm
        have hy1 := hy.resolve_left (fun e => q (.inl e))
        have hxk := kid_ne hW hd hx
        split at hm
        · rcases insA_mem.mp hm with z | ⟨z, -⟩
          · have := (kid_ne hW hy1 z).2.1; omega
          · exact hVn x hxk.1 z
        · have := (kid_ne hW hy1 hm).2.1; omega⟩) (hKW.1.1 d hd).1 (fun a x c e => by
      have hx : x ∈ A.2 d := by rw [e]; simp
      have hxk := kid_ne hW hd hx
      rw [y5 x hx]
      have := w0 7 x hxk.1.1 (by decide) (hVn x hxk.1) hxk.2.2.1
      rw [show 192 * 7 + x = 1344 + x by omega] at this
      rw [this]; exact ((m3 d hd).2.2 a x c e).1) (fun x hx => by
      rw [f192 x (hKd x hx)]
      have := (hW.2.2.2.1 x (hKd x hx)).2.2.2.2.1; have := (hW.2.2.2.1 x (hKd x hx)).2.2.2.2.2.2.1; omega) (by rw [y4 _ (by omega)]; exact wu1) (FU_gt (by omega))
  refine ⟨upB B4 2198 (B4 2198 + 1), ?_, ?_, fun k hk hk2 => ?_, ?_⟩
  · have hfst : B (768 + d) = hd1 (A.2 d) := (m3 d hd).1
    have r0 : Mo_of (bst μ b B) (zI (d : Int)) = some (zI (A.1 0 d)) := by rw [m_of hb B (by omega) (by omega), Int.toNat_natCast, q0]
    have r1 : Mo_of (bst μ b B) (zI (192 + (d : Int))) = some (zI (A.1 1 d)) := by rw [m_of hb B (by omega) (by omega), show (192 + (d : Int)).toNat = 192 + d by omega, q1]
    have r2 : Mo_of (bst μ b B) (zI (384 + (d : Int))) = some (zI (A.1 2 d)) := by rw [m_of hb B (by omega) (by omega), show (384 + (d : Int)).toNat = 384 + d by omega, q2]
    have r3 : Mo_of (bst μ b B) (zI (576 + (d : Int))) = some (zI (A.1 3 d)) := by rw [m_of hb B (by omega) (by omega), show (576 + (d : Int)).toNat = 576 + d by omega, q3]
    have r4 : Mo_of (bst μ b B) (zI (768 + (d : Int))) = some (zI (hd1 (A.2 d))) := by rw [m_of hb B (by omega) (by omega), show (768 + (d : Int)).toNat = 768 + d by omega, hfst]
    have r6 : Mo_of (bst μ b B) (zI (1152 + (d : Int))) = some (zI (B (1152 + d))) := by rw [m_of hb B (by omega) (by omega)]; rfl
    have r7 : Mo_of (bst μ b B) (zI (1344 + (d : Int))) = some (zI (B (1344 + d))) := by rw [m_of hb B (by omega) (by omega)]; rfl
    have r8 : Mo_of (bst μ b B) (zI (1536 + (d : Int))) = some (zI (A.1 8 d)) := by rw [m_of hb B (by omega) (by omega), show (1536 + (d : Int)).toNat = 1536 + d by omega, q4]
    have r9 : Mo_of (bst μ b B) (zI (1728 + (d : Int))) = some (zI (A.1 9 d)) := by rw [m_of hb B (by omega) (by omega), show (1728 + (d : Int)).toNat = 1728 + d by omega, q5]
    have hcom := m_comes hb B (d := u) (o := A.1 0 d - 1) (f := A.1 1 d + hf) (r := A.1 2 d) (g := 0) (a := A.1 8 d) hu192 (by omega) (by omega) (by omega) (by omega) (fun z => by omega)
    have hcs : cms B u (A.1 0 d - 1) (A.1 1 d + hf) (A.1 2 d) 0 (A.1 8 d) = B1 := by unfold cms; rw [if_neg (by omega)]; exact hB1
    rw [hcs, show (0 : Int) - 1 = -1 by omega] at hcom
    have hadd0 : ∀ x : Int, zI 0 + zI x = zI x := fun x => by rw [zI_add]; simp
    have hue2 : (d : Int) + (hf : Int) = (u : Int) := by omega
    unfold Mo_halves
    simp (disch := omega) only [Mo_orderOf, Mo_giverOf, Mo_nextOf, Mo_firstOf, zI_lit, hadd0, zI_add, r0, r1, r2, r3, r4, r6, r7, r8, r9, bp_some, bnd_ap, zI_sub, zI_pg, hhf2, hue2, zI_neg, hcom, bd_some, m_lay hb]
    have e2 : upB (upB (upB (upB (upB (upB B1 (1728 + (u : Int)).toNat (A.1 9 d)) (d : Int).toNat (A.1 0 d - 1 - 1 + 1)) (768 + (d : Int)).toNat 0) (960 + (d : Int)).toNat 0) (1152 + (d : Int)).toNat (B (1152 + d))) (576 + (u : Int)).toNat (A.1 3 d - 1 + 1) = B2 := by
      rw [hB2, show (1728 + (u : Int)).toNat = 1728 + u by omega, show (d : Int).toNat = d by omega, show (768 + (d : Int)).toNat = 768 + d by omega, show (960 + (d : Int)).toNat = 960 + d by omega, show (1152 + (d : Int)).toNat = 1152 + d by omega, show (576 + (u : Int)).toNat = 576 + u by omega, show A.1 0 d - 1 - 1 + 1 = A.1 0 d - 1 by omega, show A.1 3 d - 1 + 1 = A.1 3 d by omega]
    rw [e2, y1 (fun s => Mo_halves_182 FU (zI (d : Int)) (zI (u : Int)) (zI (hd1 (A.2 d) - 1)) s)]
    exact k1
  · have e45 : ∀ k, k < 2198 → upB B4 2198 (B4 2198 + 1) k = B4 k := fun k hk => by rw [upB_ap, if_neg (by omega)]
    have b4 : ∀ k, k < 576 ∨ (1536 ≤ k ∧ k < 2198) → upB B4 2198 (B4 2198 + 1) k = B2 k := fun k hk => by rw [e45 k (by omega), k3 k (by omega), y4 k (by omega)]
    refine ⟨fun x hx => ?_, fun x hx => ?_, ?_, fun x hx h0 => ?_⟩
    · rw [b4 x (by omega), hv_0 hW hd ho, hhf, hue]
      by_cases qu : x = u
      · subst qu; rw [if_pos (.inl rfl)]; exact wu0
      · by_cases qd : x = d
        · subst qd; rw [if_pos (.inr rfl)]; exact wd0
        · rw [if_neg (by omega)]
          have := w0 0 x hx (by decide) qu qd; rw [show 192 * 0 + x = x by omega] at this; rw [this]; exact m1 x hx
    · have hx2 := (hl3 x).mp hx
      have hx192 := hV x hx2
      rw [b4 (192 + x) (by omega), b4 (384 + x) (by omega), b4 (1536 + x) (by omega), b4 (1728 + x) (by omega), e45 (576 + x) (by omega), k4 x hx192, y4 (576 + x) (by omega)]
      by_cases qu : x = u
      · subst qu
        have hxk : x ∉ A.2 d := fun z => hu.1 (hKd x z)
        rw [if_neg hxk, wu1, wu2, wu3, wu8, wu9]
        simp [aHalve, hhf, hue]
      · have hx1 := hx2.resolve_left qu
        have hne : x ≠ d + hfA A d := by rw [hhf, hue]; exact qu
        rw [hv_n (j := 1) hW hd ho hne (by decide) (by decide), hv_n (j := 2) hW hd ho hne (by decide) (by decide), hv_n (j := 8) hW hd ho hne (by decide) (by decide), hv_n (j := 9) hW hd ho hne (by decide) (by decide), hv_3 hW hd hx1 ho, hhf, hue]
        obtain ⟨t1, t2, t3, t4, t5⟩ := m2 x hx1
        have cell : ∀ j, j < 10 → j ≠ 0 → j ≠ 4 → j ≠ 5 → B2 (192 * j + x) = B (192 * j + x) := fun j hj h0 h4 h5 => by
          by_cases qd : x = d
          · subst qd; exact wd j hj h0 h4 h5
          · exact w0 j x hx192 hj qu qd
        have z1 := cell 1 (by decide) (by decide) (by decide) (by decide)
        have z2 := cell 2 (by decide) (by decide) (by decide) (by decide)
        have z3 := cell 3 (by decide) (by decide) (by decide) (by decide)
        have z8 := cell 8 (by decide) (by decide) (by decide) (by decide)
        have z9 := cell 9 (by decide) (by decide) (by decide) (by decide)
        rw [show 192 * 1 + x = 192 + x by omega] at z1
        rw [show 192 * 2 + x = 384 + x by omega] at z2
        rw [show 192 * 3 + x = 576 + x by omega] at z3
        rw [show 192 * 8 + x = 1536 + x by omega] at z8
        rw [show 192 * 9 + x = 1728 + x by omega] at z9
        rw [z1, z2, z3, z8, z9, t1, t2, t3, t4, t5]
        refine ⟨rfl, rfl, ?_, rfl, rfl⟩
        have hm : x ∈ A.2 d ↔ A.1 3 x = (d : Int) + 1 := ⟨fun z => (kid_ne hW hd z).2.1, fun z => (gv_live hW hx1 z).2.1⟩
        rw [f192 x hx1]
        by_cases hmx : x ∈ A.2 d
        · have h3x := hm.mp hmx
          rw [if_pos hmx]
          by_cases hff : A.1 1 x < A.1 1 d + hf
          · rw [if_pos hff, if_neg (fun z => by omega), h3x]
          · rw [if_neg hff, if_pos ⟨h3x, by omega⟩]
        · rw [if_neg hmx, if_neg (fun z => hmx (hm.mpr z.1))]
    · have hLf : LB (upB B4 2198 (B4 2198 + 1)) (fun x => x = u ∨ Lv A x) _ := LB_K (K' := (aHalve A d).2) (B := upB B4 2198 (B4 2198 + 1)) (fun x hx => by
        obtain ⟨f1, f2, f3⟩ := k2 x hx
        have := hV x hx
        refine ⟨by dsimp only; rw [e45 _ (by omega)]; exact f1, by dsimp only; rw [e45 _ (by omega)]; exact f2, fun l1 y l2 el => ?_⟩
        have hr := f3 l1 y l2 el
        dsimp only at hr ⊢
        rw [upB_ap, upB_ap]
        by_cases hy2 : y < 192
        · rw [if_neg (by omega), if_neg (by omega)]; exact hr
        · exfalso
          have hym : y ∈ (if x = d then [] ++ (A.2 d).filter (fun h => decide (B3 (192 + h) < A.1 1 d + hf)) else if x = u then [] ++ (A.2 d).filter (fun h => decide (A.1 1 d + hf ≤ B3 (192 + h))) else if x = u ∨ x = d then [] else if A.1 3 d = (x : Int) + 1 then insA d u (A.2 x) else A.2 x) := by
            have : y ∈ l1 ++ y :: l2 := by simp
            rw [← el] at this
            simpa [hud, Ne.symm hud] using this
          split at hym
          · simp at hym; exact hy2 (hKd y hym.1).1
          · split at hym
            · simp at hym; exact hy2 (hKd y hym.1).1
            · rename_i hxd hxu
              rw [if_neg (by omega)] at hym
              have hx1 := hx.resolve_left hxu
              split at hym
              · rcases insA_mem.mp hym with z | ⟨z, -⟩
                · exact hy2 ((hKW.1.1 x hx1).2 y z).1
                · subst z; exact hy2 hu192
              · exact hy2 ((hKW.1.1 x hx1).2 y hym).1) (fun x hx => by
        show (if x = d + hfA A d then (A.2 d).filter (fun h => decide (A.1 1 d + hfA A d ≤ A.1 1 h)) else if x = d then (A.2 d).filter (fun h => decide (A.1 1 h < A.1 1 d + hfA A d)) else if A.1 3 d = (x : Int) + 1 then insA d (d + hfA A d) (A.2 x) else A.2 x) = _
        rw [hhf, hue]
        have ef : ∀ g : Int → Bool, (A.2 d).filter (fun h => g (B3 (192 + h))) = (A.2 d).filter (fun h => g (A.1 1 h)) := fun g => List.filter_congr (fun y hy => by rw [f192 y (hKd y hy)])
        rw [ef (fun v => decide (v < A.1 1 d + hf)), ef (fun v => decide (A.1 1 d + hf ≤ v))]
        by_cases qu : x = u
        · subst qu; simp [hud]
        · by_cases qd : x = d
          · subst qd; simp [Ne.symm hud]
          · simp [qu, qd])
      intro x hx; exact hLf x ((hl3 x).mp hx)
    · have hx2 := (hl3 x).mp hx
      have hx192 := hV x hx2
      rw [e45 _ (by omega), e45 _ (by omega)]
      by_cases qu : x = u
      · subst qu
        have h0' : A.1 3 d = 0 := by have := hv_3u hW d; rw [hhf, hue] at this; rw [this] at h0; exact h0
        have hxk : x ∉ A.2 d := fun z => hu.1 (hKd x z)
        have hr := k5 x hx192 hxk (fun z hz hm => by
          by_cases q : z = x ∨ z = d
          · rw [if_pos q] at hm; cases hm
          · rw [if_neg q, if_neg (by omega)] at hm
            exact hu.1 ((hKW.1.1 z (hz.resolve_left (fun e => q (.inl e)))).2 x hm))
        rw [hr.1, hr.2, y7 h0']; exact ⟨wu7, wu6⟩
      · have hx1 := hx2.resolve_left qu
        rw [hv_3 hW hd hx1 ho] at h0
        have h00 : A.1 3 x = 0 := by split at h0 <;> omega
        have hxk : x ∉ A.2 d := root_not hKW h00 d hd
        have hr := k5 x hx192 hxk (fun z hz hm => by
          by_cases q : z = u ∨ z = d
          · rw [if_pos q] at hm; cases hm
          · rw [if_neg q] at hm
            have hz1 := hz.resolve_left (fun e => q (.inl e))
            split at hm
            · rcases insA_mem.mp hm with w | ⟨w, -⟩
              · exact root_not hKW h00 z hz1 w
              · exact qu w
            · exact root_not hKW h00 z hz1 hm)
        rw [hr.1, hr.2]
        by_cases qd : x = d
        · subst qd
          rw [y7 h00, wn]
          have := wd 6 (by decide) (by decide) (by decide) (by decide)
          rw [show 192 * 6 + x = 1152 + x by omega] at this
          rw [this]; exact m4 x hx1 h00
        · obtain ⟨a1, a2⟩ := y6 x hx1 h00 qd
          rw [a1, a2]
          have z7 := w0 7 x hx192 (by decide) qu qd
          have z6 := w0 6 x hx192 (by decide) qu qd
          rw [show 192 * 7 + x = 1344 + x by omega] at z7
          rw [show 192 * 6 + x = 1152 + x by omega] at z6
          rw [z7, z6]; exact m4 x hx1 h00
  · rw [upB_ap, if_neg hk2, k3 k (by omega), y4 k (by omega)]; exact wk k hk
  · rw [upB_ap, if_pos rfl, k3 2198 (by omega), y4 2198 (by omega), wk 2198 (by omega), if_neg]
    rintro ⟨-, z⟩; unfold wdc at z; omega
