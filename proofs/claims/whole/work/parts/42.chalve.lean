/-! ===== the class halves a deed ===== -/
theorem cr_giver {δ : Sl} {σ : Nat → Nat} {bn : Nat} {A : Ab} (h : CRep δ σ bn A) {x : Nat} (hx : Lv A x) : δ 23 (σ x) = enc σ (A.1 3 x) := by
  obtain ⟨F, L, N, P, k1, k2, k3⟩ := h.2.2.2.2
  exact (k1 x hx).2.2.2.2
theorem cr_first {δ : Sl} {σ : Nat → Nat} {bn : Nat} {A : Ab} (h : CRep δ σ bn A) {x : Nat} (hx : Lv A x) : δ 24 (σ x) = enc σ (hd1 (A.2 x)) := by
  obtain ⟨F, L, N, P, k1, k2, k3⟩ := h.2.2.2.2
  rw [(k1 x hx).1, (k2 x hx).1]
theorem cr_next {δ : Sl} {σ : Nat → Nat} {bn : Nat} {A : Ab} (h : CRep δ σ bn A) (hK : KW A) {g x : Nat} {a b : List Nat} (hg : Lv A g) (e : A.2 g = a ++ x :: b) : δ 26 (σ x) = enc σ (hd1 b) := by
  obtain ⟨F, L, N, P, k1, k2, k3⟩ := h.2.2.2.2
  have hx : Lv A x := (hK.1.1 g hg).2 x (by rw [e]; simp)
  rw [(k1 x hx).2.2.1, ((k2 g hg).2.2 a x b e).1]
theorem cr_lt {δ : Sl} {σ : Nat → Nat} {bn : Nat} {A : Ab} (h : CRep δ σ bn A) {x : Nat} (hx : Lv A x) : σ x < 192 := (CS_SV h.1).1 x hx
theorem halve_loop {σ : Nat → Nat} {bn d u : Nat} (hdu : d ≠ u) (fu : Int) (hf1 : 0 ≤ fu) (hf2 : fu ≤ 32) : ∀ (r p : List Nat) (n i : Nat) (δ : Sl) (A : Ab), CRep δ σ bn A → KW A → Lv A d → Lv A u → A.1 1 u = fu → (∀ x, Lv A x → 0 ≤ A.1 1 x ∧ A.1 1 x ≤ 32) → A.2 d = p ++ r → i + r.length ≤ 192 → r.length < n →
    ∃ δ' A', De_halve_94 n (zI (σ u : Int)) (enc σ (hd1 r)) (zI (i : Int)) δ = De_halve_155 δ' ∧ CRep δ' σ bn A' ∧ KW A' ∧ (∀ a i, a < 23 ∨ 27 < a → δ' a i = δ a i) ∧ (∀ j x, j ≠ 3 → A'.1 j x = A.1 j x) ∧
      (∀ x, A'.1 3 x = if x ∈ r ∧ fu ≤ A.1 1 x then (u : Int) + 1 else A.1 3 x) ∧ ∀ x, A'.2 x = if x = u then A.2 u ++ r.filter (fun h => decide (fu ≤ A.1 1 h)) else if x = d then p ++ r.filter (fun h => decide (A.1 1 h < fu)) else A.2 x := by
  intro r
  induction r with
  | nil =>
    intro p n i δ A h hK hd hu e1 e2 e3 hi hn
    obtain ⟨m, rfl⟩ : ∃ m, n = m + 1 := ⟨n - 1, by omega⟩
    refine ⟨δ, A, ?_, h, hK, fun _ _ _ => rfl, fun _ _ _ => rfl, fun x => by simp, fun x => ?_⟩
    · simp only [hd1_nil, enc_0, De_halve_94, zI_lit]
      rw [if_pos (show zI (-1) < zI 0 by rw [zI_lt (by omega) (by omega) (by omega) (by omega)]; omega)]
      split <;> rfl
    · by_cases q1 : x = u
      · subst q1; simp
      · by_cases q2 : x = d
        · subst q2; simp [q1, e3]
        · simp [q1, q2]
  | cons x r ih =>
    intro p n i δ A h hK hd hu e1 e2 e3 hi hn
    obtain ⟨m, rfl⟩ : ∃ m, n = m + 1 := ⟨n - 1, by omega⟩
    have hi2 : i + r.length + 1 ≤ 192 := by simp at hi; omega
    have hn2 : r.length < m := by simp at hn; omega
    have hx : Lv A x := (hK.1.1 d hd).2 x (by rw [e3]; simp)
    have b1 := cr_lt h hx
    have b2 := cr_lt h hu
    have b3 := e2 x hx
    have hnx := cr_next h hK hd e3
    have hfx := (h.2.2.1 x hx).2.2.1
    have hfu := (h.2.2.1 u hu).2.2.1
    have hxd := hK.2.2 d x hd (by rw [e3]; simp)
    have step : De_halve_94 (m + 1) (zI (σ u : Int)) (enc σ (hd1 (x :: r))) (zI (i : Int)) δ = if A.1 1 x < fu then De_halve_94 m (zI (σ u : Int)) (enc σ (hd1 r)) (zI ((i + 1 : Nat) : Int)) δ else (bd (De_takeFromGiver δ (zI (σ x : Int))) fun _ d6 => bd (De_append d6 (zI (σ x : Int)) (zI (σ u : Int))) fun _ d8 => De_halve_94 m (zI (σ u : Int)) (enc σ (hd1 r)) (zI ((i + 1 : Nat) : Int)) d8) := by
      rw [hd1_cons, enc_s, De_halve_94]
      simp (disch := omega) only [zI_lit, zI_le, zI_lt, if_neg, zI_inb, if_pos, zI_ix, Int.toNat_natCast, hnx, bnd_ap, hfx, hfu, e1, De_halve_145, zI_add]
      rw [show (i : Int) + 1 = ((i + 1 : Nat) : Int) by omega]
    rw [step]
    by_cases hlt : A.1 1 x < fu
    · rw [if_pos hlt]
      obtain ⟨δ', A', a1, a2, a3, a4, a5, a6, a7⟩ := ih (p ++ [x]) m (i + 1) δ A h hK hd hu e1 e2 (by rw [e3]; simp) (by omega) hn2
      refine ⟨δ', A', a1, a2, a3, a4, a5, fun y => ?_, fun y => ?_⟩
      · rw [a6]
        by_cases q : y = x
        · subst q; simp [show ¬ fu ≤ A.1 1 y by omega]
        · simp [q]
      · rw [a7]
        simp [List.filter_cons, hlt, show ¬ fu ≤ A.1 1 x by omega]
    · rw [if_neg hlt]
      obtain ⟨δ1, t1, t2, t3, t4⟩ := cr_take h hK hx hd hxd
      rw [t1, bd_some]
      generalize hA1 : setG A x 0 (upK A.2 d ((A.2 d).filter (fun y => decide (y ≠ x)))) = A1 at t2 t3
      have f13 : ∀ y, A1.1 3 y = if y = x then 0 else A.1 3 y := fun y => by rw [← hA1]; exact setG_3
      have f1n : ∀ j y, j ≠ 3 → A1.1 j y = A.1 j y := fun j y hj => by rw [← hA1]; exact setG_ne hj
      have f1l : ∀ y, Lv A1 y ↔ Lv A y := fun y => by rw [← hA1]; exact setG_lv
      have hfil : (A.2 d).filter (fun y => decide (y ≠ x)) = p ++ r := by
        have := (hK.1.1 d hd).1
        rw [e3] at this ⊢; exact filt_split this
      have f1k : ∀ y, A1.2 y = if y = d then p ++ r else A.2 y := fun y => by rw [← hA1, ← hfil]; rfl
      obtain ⟨δ2, s1, s2, s3, s4⟩ := cr_append t2 t3 ((f1l x).mpr hx) ((f1l u).mpr hu) (by rw [f13, if_pos rfl])
      rw [s1, bd_some]
      generalize hA2 : setG A1 x ((u : Int) + 1) (upK A1.2 u (A1.2 u ++ [x])) = A2 at s2 s3
      have f23 : ∀ y, A2.1 3 y = if y = x then (u : Int) + 1 else A.1 3 y := fun y => by
        rw [← hA2, setG_3, f13]; by_cases q : y = x <;> simp [q]
      have f2n : ∀ j y, j ≠ 3 → A2.1 j y = A.1 j y := fun j y hj => by rw [← hA2, setG_ne hj, f1n j y hj]
      have f2l : ∀ y, Lv A2 y ↔ Lv A y := fun y => by rw [← hA2, setG_lv, f1l]
      have f2k : ∀ y, A2.2 y = if y = u then A.2 u ++ [x] else if y = d then p ++ r else A.2 y := fun y => by
        rw [← hA2]
        show upK A1.2 u (A1.2 u ++ [x]) y = _
        unfold upK
        rw [f1k, f1k, if_neg (Ne.symm hdu)]
      obtain ⟨δ', A', a1, a2, a3, a4, a5, a6, a7⟩ := ih p m (i + 1) δ2 A2 s2 s3 ((f2l d).mpr hd) ((f2l u).mpr hu) (by rw [f2n 1 u (by decide)]; exact e1) (fun y hy => by rw [f2n 1 y (by decide)]; exact e2 y ((f2l y).mp hy)) (by rw [f2k, if_neg hdu, if_pos rfl]) (by omega) hn2
      refine ⟨δ', A', a1, a2, a3, fun a i ha => by rw [a4 a i ha, s4 a i ha, t4 a i ha], fun j y hj => by rw [a5 j y hj, f2n j y hj], fun y => ?_, fun y => ?_⟩
      · rw [a6, f2n 1 y (by decide), f23]
        by_cases q : y = x
        · subst q; simp [show fu ≤ A.1 1 y by omega]
        · simp [q]
      · rw [a7, f2k, f2k]
        have ef : ∀ g : Nat → Bool, (r.filter (fun h => decide (fu ≤ A2.1 1 h))) = r.filter (fun h => decide (fu ≤ A.1 1 h)) := fun _ => by
          congr 1; funext h; rw [f2n 1 h (by decide)]
        have ef2 : (r.filter (fun h => decide (A2.1 1 h < fu))) = r.filter (fun h => decide (A.1 1 h < fu)) := by
          congr 1; funext h; rw [f2n 1 h (by decide)]
        rw [ef (fun _ => true), ef2, if_pos rfl]
        by_cases q1 : y = u
        · subst q1; simp [List.filter_cons, hlt, show fu ≤ A.1 1 x by omega]
        · by_cases q2 : y = d
          · subst q2; simp [q1, List.filter_cons, hlt]
          · simp [q1, q2]
