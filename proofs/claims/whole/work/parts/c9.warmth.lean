/-! ===== warmth; cool ===== -/
def wmA (A : Ab) (d : Nat) : Nat := rdB (whB (A.1 8 d).toNat * whB (rdB (pg (A.1 0 d)) 1 0)) 1 (pwB (A.1 8 d).toNat + pwB (rdB (pg (A.1 0 d)) 1 0))
def wmF (A : Ab) (s : Nat) : Nat → Nat → Nat → Nat
  | 0, _, v => v
  | m + 1, p, v => wmF A s m (p + 1) (if 0 < A.1 0 (32 * s + p) then sdB v (wmA A (32 * s + p)) else v)
theorem pB_m {j k : Nat} (h : j ≤ k) : pB j ≤ pB k := by unfold pB; omega
section
variable {n S : Nat} {A : Ab} {dep : Nat → Nat} {δ : Sl} {σ : Nat → Nat} {bn : Nat} {μ : Sl} {b : Nat} {B : Nat → Int}
theorem wm_le (h : WF n S A dep) {d : Nat} (hd : Lv A d) : rdB (pg (A.1 0 d)) 1 0 ≤ pB 3 ∧ wmA A d ≤ pB 27 ∧ (A.1 8 d).toNat ≤ pB 24 ∧ 0 ≤ A.1 8 d := by
  have w := h.2.2.2.1 d hd
  have hp : pg (A.1 0 d) ≤ 8 := by
    have := hd.2
    have := w.1
    have hc : A.1 0 d = 1 ∨ A.1 0 d = 2 ∨ A.1 0 d = 3 ∨ A.1 0 d = 4 := by omega
    rcases hc with e | e | e | e <;> rw [e] <;> decide
  have i3 : rdB (pg (A.1 0 d)) 1 0 ≤ pB 3 := int_le (by omega)
  have a24 : (A.1 8 d).toNat ≤ pB 24 := by
    have := w.2.2.2.2.2.2.2.2.2.2
    unfold pB; omega
  have m := ml_pow a24 i3
  rw [show 24 + 3 = 27 from rfl] at m
  refine ⟨i3, ?_, a24, w.2.2.2.2.2.2.2.2.2.1⟩
  unfold wmA
  exact m
theorem wm_step (h : WF n S A dep) {s p v : Nat} (hs : s < 6) (hp : p < 32) (hv : v ≤ pB (27 + p)) : (if 0 < A.1 0 (32 * s + p) then sdB v (wmA A (32 * s + p)) else v) ≤ pB (27 + (p + 1)) := by
  by_cases z : 0 < A.1 0 (32 * s + p)
  · have hx : Lv A (32 * s + p) := ⟨by omega, z⟩
    rw [if_pos z]
    have := (wm_le h hx).2.1
    have t := sd_pow hv (Nat.le_trans this (pB_m (show 27 ≤ 27 + p by omega)))
    rw [show 27 + p + 1 = 27 + (p + 1) by omega] at t
    exact t
  · rw [if_neg z]; exact Nat.le_trans hv (pB_m (by omega))
theorem wmF_le (h : WF n S A dep) {s : Nat} (hs : s < 6) : ∀ (m p v : Nat), p + m ≤ 32 → v ≤ pB (27 + p) → wmF A s m p v ≤ pB (27 + (p + m)) := by
  intro m
  induction m with
  | zero => intro p v hp hv; exact hv
  | succ m ih =>
    intro p v hp hv
    have := ih (p + 1) _ (by omega) (wm_step h hs (by omega) hv)
    rw [show p + 1 + m = p + (m + 1) by omega] at this
    exact this
theorem wmF_no (h : WF n S A dep) {s : Nat} (hs : s < 6) : ∀ (m p v : Nat), S ≤ p → p + m ≤ 32 → wmF A s m p v = v := by
  intro m
  induction m with
  | zero => intro p v _ _; rfl
  | succ m ih =>
    intro p v h1 h2
    have z : ¬ 0 < A.1 0 (32 * s + p) := fun z => by
      have w := (h.2.2.2.1 _ (show Lv A (32 * s + p) from ⟨by omega, z⟩)).2.2.2.1
      have w1 := (h.2.2.2.1 _ (show Lv A (32 * s + p) from ⟨by omega, z⟩)).1
      have : 0 < pgs A (32 * s + p) := by
        have hc : A.1 0 (32 * s + p) = 1 ∨ A.1 0 (32 * s + p) = 2 ∨ A.1 0 (32 * s + p) = 3 ∨ A.1 0 (32 * s + p) = 4 := by omega
        unfold pgs
        rcases hc with e | e | e | e <;> rw [e] <;> decide
      omega
    rw [wmF, if_neg z]; exact ih _ _ (by omega) (by omega)
theorem wmF_add (A : Ab) (s : Nat) : ∀ (m k p v : Nat), wmF A s (m + k) p v = wmF A s k (p + m) (wmF A s m p v) := by
  intro m
  induction m with
  | zero => intro k p v; rw [Nat.zero_add]; rfl
  | succ m ih =>
    intro k p v
    rw [show m + 1 + k = (m + k) + 1 by omega, wmF, wmF, ih, show p + 1 + m = p + (m + 1) by omega]
theorem c_warm_l (h : WF n S A dep) (hC : CRep δ σ bn A) {s : Nat} (hs : s < 6) : ∀ (m p f v : Nat), p + m = 32 → m < f → v ≤ pB (27 + p) → De_warmthOf_4 δ f (zI (s : Int)) (zI (v : Int)).toUInt32 (zI (p : Int)) = some (zI (wmF A s m p v : Int)).toUInt32 := by
  intro m
  induction m with
  | zero =>
    intro p f v hp hf hv
    obtain ⟨f', rfl⟩ : ∃ f', f = f' + 1 := ⟨f - 1, by omega⟩
    rw [De_warmthOf_4, if_pos (by rw [zI_lit, zI_le (by omega) (by omega) (by omega) (by omega)]; omega)]; rfl
  | succ m ih =>
    intro p f v hp hf hv
    obtain ⟨f', rfl⟩ : ∃ f', f = f' + 1 := ⟨f - 1, by omega⟩
    have hfd := cr_find hC.2.1 (s := (s : Int)) (p := (p : Int)) (by omega) (by omega) (by omega) (by omega)
    rw [show (32 * (s : Int) + (p : Int)).toNat = 32 * s + p by omega] at hfd
    have st := wm_step h hs (show p < 32 by omega) hv
    have nx := ih (p + 1) f' _ (by omega) (by omega) st
    rw [De_warmthOf_4, if_neg (by rw [zI_lit, zI_le (by omega) (by omega) (by omega) (by omega)]; omega), hfd, bp_some, bnd_ap, wmF]
    by_cases z : 0 < A.1 0 (32 * s + p)
    · have hx : Lv A (32 * s + p) := ⟨by omega, z⟩
      obtain ⟨w1, w2, w3, w4⟩ := wm_le h hx
      have b1 := cr_lt hC hx
      obtain ⟨g1, g2, g3, g4, g5, g6, g7, g8, g9⟩ := hC.2.2.1 _ hx
      have hpg : (1 : Int32) <<< (zI (A.1 0 (32 * s + p) - 1) &&& 31) = zI (pg (A.1 0 (32 * s + p)) : Int) := zI_pg (by omega) (wf4 h _ hx)
      have e8 : A.1 8 (32 * s + p) = (((A.1 8 (32 * s + p)).toNat : Nat) : Int) := by omega
      have i2f := (F_int (n := pg (A.1 0 (32 * s + p))) (by
        have := wf4 h _ hx
        have hc : A.1 0 (32 * s + p) = 1 ∨ A.1 0 (32 * s + p) = 2 ∨ A.1 0 (32 * s + p) = 3 ∨ A.1 0 (32 * s + p) = 4 := by omega
        rcases hc with e | e | e | e <;> rw [e] <;> decide)).2
      have p3 : pB 3 < 2139095040 := by decide
      have p24 : pB 24 < 2139095040 := by decide
      have p27 : pB 27 < 2139095040 := by decide
      have pp : pB (27 + p) < 2139095040 := by unfold pB; omega
      have i2f' := u_of (by omega) i2f
      have fm := (F_mul (a := (A.1 8 (32 * s + p)).toNat) (b := rdB (pg (A.1 0 (32 * s + p))) 1 0) (by omega) (by omega)).2
      have nm := nn_of (k := wmA A (32 * s + p)) (by omega) fm
      have fm' := u_of (k := wmA A (32 * s + p)) (by omega) fm
      have fa := (F_add (a := v) (b := wmA A (32 * s + p)) (by omega) (by omega)).2
      have sdl : sdB v (wmA A (32 * s + p)) ≤ pB (27 + (p + 1)) := by rw [if_pos z] at st; exact st
      have pp1 : pB (27 + (p + 1)) < 2139095040 := by unfold pB; omega
      have na := nn_of (by omega) fa
      have fa' := u_of (by omega) fa
      rw [cov_self h hx, show sc σ (some (32 * s + p)) = (σ (32 * s + p) : Int) from rfl, if_neg (zI_n0 (by omega)), if_pos (zI_in b1 (by omega)), zI_ixn (by omega), g2, show (32 * s + p) % 32 = p by omega, if_pos rfl, if_pos (zI_in b1 (by omega)), g4, hpg, bnd_ap, if_pos (zI_in b1 (by omega)), i2f', g9, e8, if_pos nm, bnd_ap, fm', if_pos na, bnd_ap, fa', De_warmthOf_63, bnd_ap, zI_s1]
      rw [if_pos z] at nx
      rw [nx, if_pos z]
    · rw [if_neg z] at nx
      rw [if_neg z]
      cases hcv : cov A (32 * s + p) with
      | none =>
        rw [show sc σ none = -1 from rfl, if_pos zI_m1, De_warmthOf_63, bnd_ap, zI_s1, nx]
      | some d =>
        obtain ⟨c1, c2, c3⟩ := cov_some h (show 32 * s + p < 192 by omega) hcv
        have b1 := cr_lt hC c1
        obtain ⟨g1, g2, -⟩ := hC.2.2.1 _ c1
        have wa := (h.2.2.2.1 d c1).2.2.2.1
        have hS := h.2.1
        have hdne : d ≠ 32 * s + p := fun e => z (e ▸ c1.2)
        have hd1 := c1.1
        rw [show sc σ (some d) = (σ d : Int) from rfl, if_neg (zI_n0 (by omega)), if_pos (zI_in b1 (by omega)), zI_ixn (by omega), g2, if_neg (by rw [zI_eq (by omega) (by omega) (by omega) (by omega)]; omega), De_warmthOf_63, bnd_ap, zI_s1, nx]
theorem m_warm_l (hb : MB μ b) (h : WF n S A dep) (hM : MRep B A) (hsz : μ 41 3 = zI (S : Int)) {s : Nat} (hs : s < 6) : ∀ (m p f v : Nat), p + m = S → m < f → v ≤ pB (27 + p) → Mo_warmthOf_4 (bst μ b B) f (zI (s : Int)) (zI (v : Int)) (zI (p : Int)) = some (zI (wmF A s m p v : Int)) := by
  have hS := h.2.1
  have sz : Mo_size (bst μ b B) = some (zI (S : Int)) := by rw [Mo_size, if_pos (by decide), show ix (3 : Int32) = 3 from by decide, bst_ne _ _ _ (by omega), hsz]
  intro m
  induction m with
  | zero =>
    intro p f v hp hf hv
    obtain ⟨f', rfl⟩ : ∃ f', f = f' + 1 := ⟨f - 1, by omega⟩
    rw [Mo_warmthOf_4, sz, bp_some, if_pos (by rw [zI_le (by omega) (by omega) (by omega) (by omega)]; omega)]; rfl
  | succ m ih =>
    intro p f v hp hf hv
    obtain ⟨f', rfl⟩ : ∃ f', f = f' + 1 := ⟨f - 1, by omega⟩
    have st := wm_step h hs (show p < 32 by omega) hv
    have nx := ih (p + 1) f' _ (by omega) (by omega) st
    have e4 : ((32 : Int32) * zI (s : Int)) + zI (p : Int) = zI ((32 * s + p : Nat) : Int) := by rw [show (32 : Int32) = zI 32 from rfl, zI_mul, zI_add]; congr 1
    rw [Mo_warmthOf_4, sz, bp_some, if_neg (by rw [zI_le (by omega) (by omega) (by omega) (by omega)]; omega), e4, bnd_ap, m_deed hb h hM (by omega), bp_some, bI_if, wmF]
    by_cases z : 0 < A.1 0 (32 * s + p)
    · have hx : Lv A (32 * s + p) := ⟨by omega, z⟩
      obtain ⟨w1, w2, w3, w4⟩ := wm_le h hx
      obtain ⟨t1, t2, t3, t4, t5⟩ := hM.2.1 _ hx
      have e8 : A.1 8 (32 * s + p) = (((A.1 8 (32 * s + p)).toNat : Nat) : Int) := by omega
      have p3 : pB 3 < 2139095040 := by decide
      have p24 : pB 24 < 2139095040 := by decide
      have p27 : pB 27 < 2139095040 := by decide
      have pp : pB (27 + p) < 2139095040 := by unfold pB; omega
      have i2f := (F_int (n := pg (A.1 0 (32 * s + p))) (by
        have := wf4 h _ hx
        have hc : A.1 0 (32 * s + p) = 1 ∨ A.1 0 (32 * s + p) = 2 ∨ A.1 0 (32 * s + p) = 3 ∨ A.1 0 (32 * s + p) = 4 := by omega
        rcases hc with e | e | e | e <;> rw [e] <;> decide)).1
      have fm := (F_mul (a := (A.1 8 (32 * s + p)).toNat) (b := rdB (pg (A.1 0 (32 * s + p))) 1 0) (by omega) (by omega)).1
      have fa := (F_add (a := v) (b := wmA A (32 * s + p)) (by omega) (by omega)).1
      have e15 : Mo_of (bst μ b B) ((1536 : Int32) + zI ((32 * s + p : Nat) : Int)) = some (zI (((A.1 8 (32 * s + p)).toNat : Nat) : Int)) := by
        rw [show (1536 : Int32) = zI 1536 from rfl, zI_add, m_of hb B (by omega) (by omega), show (1536 + ((32 * s + p : Nat) : Int)).toNat = 1536 + (32 * s + p) by omega, t4, ← e8]
      rw [if_pos (decide_eq_true z), e15, bp_some, m_pages hb h hM hx.1, bp_some, i2f, bp_some, fm, bp_some, show (rdB (whB (A.1 8 (32 * s + p)).toNat * whB (rdB (pg (A.1 0 (32 * s + p))) 1 0)) 1 (pwB (A.1 8 (32 * s + p)).toNat + pwB (rdB (pg (A.1 0 (32 * s + p))) 1 0))) = wmA A (32 * s + p) from rfl, fa, bp_some, bnd_ap, Mo_warmthOf_56, bnd_ap, zI_s1]
      rw [if_pos z] at nx
      rw [nx, if_pos z]
    · rw [if_neg z] at nx
      rw [if_neg (by rw [decide_eq_true_eq]; exact z), if_neg z, Mo_warmthOf_56, bnd_ap, zI_s1, nx]
/-- both tell the same warmth -/
theorem warm_on (hb : MB μ b) (h : WF n S A dep) (hC : CRep δ σ bn A) (hM : MRep B A) (hsz : μ 41 3 = zI (S : Int)) {s : Nat} (hs : s < 6) : ∃ v : Nat, v ≤ pB 59 ∧ De_warmthOf δ (zI (s : Int)) = some (zI (v : Int)).toUInt32 ∧ Mo_warmthOf (bst μ b B) (zI (s : Int)) = some (zI (v : Int)) := by
  have hS := h.2.1
  have t1 := c_warm_l h hC hs 32 0 FU 0 (by omega) (FU_gt (by omega)) (Nat.zero_le _)
  have t2 := m_warm_l hb h hM hsz hs S 0 FU 0 (by omega) (FU_gt (by omega)) (Nat.zero_le _)
  have hw := wmF_le h hs 32 0 0 (by omega) (Nat.zero_le _)
  have e : wmF A s 32 0 0 = wmF A s S 0 0 := by
    have := wmF_add A s S (32 - S) 0 0
    rw [show S + (32 - S) = 32 by omega] at this
    rw [this]; exact wmF_no h hs _ _ _ (by omega) (by omega)
  have z0 : zI ((0 : Nat) : Int) = (0 : Int32) := rfl
  refine ⟨wmF A s 32 0 0, hw, ?_, ?_⟩
  · rw [De_warmthOf, bnd_ap, bnd_ap]
    rw [z0] at t1
    exact t1
  · rw [Mo_warmthOf, bnd_ap, bnd_ap, e]
    rw [z0] at t2
    exact t2
end
