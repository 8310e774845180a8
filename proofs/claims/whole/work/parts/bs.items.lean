/-! ===== reading a text: numbers and names of spaces, as both sides take them ===== -/
/-- the reference holds the token from p on, the class does -/
def RF (T : Nat → Nat) (n : Nat) (μ : Sl) (p : Nat) : Prop := μ 34 7 = zI (lxN T n p : Int) ∧ μ 34 8 = zI (lxK T n p : Int) ∧ μ 34 10 = zI (lxQ T n p : Int) ∧ ((lxK T n p = 1 ∨ lxK T n p = 2 ∨ lxK T n p = 3) → μ 34 9 = zI (lxR T n p : Int))
def CT0 (T : Nat → Nat) (n : Nat) (M : Mem) (p : Nat) : Prop := M 0 2 4 = zI (lxN T n p : Int) ∧ M 0 2 5 = zI (kcv (lxK T n p) : Int) ∧ M 0 2 6 = zI (lxQ T n p : Int) ∧ ((lxK T n p = 1 ∨ lxK T n p = 2 ∨ lxK T n p = 3) → M 0 2 7 = zI (lxC T n p : Int))
def RBs (T : Nat → Nat) (n q : Nat) (M : Mem) (μ : Sl) : Prop := (n ≤ 700 ∧ (∀ i, T i < 256) ∧ q < 2) ∧ M 0 2 3 = zI (n : Int) ∧ M 0 2 10 = zI (q : Int) ∧ TC M T n ∧ TB M μ ∧ μ 34 6 = zI (n : Int) ∧ TM μ T n
def HS (T : Nat → Nat) (n : Nat) (M : Mem) (μ : Sl) (p : Nat) : Prop := p ≤ n ∧ M 0 2 4 = zI (p : Int) ∧ RF T n μ p
def SY (T : Nat → Nat) (n : Nat) (M : Mem) (μ : Sl) (p : Nat) : Prop := p ≤ n ∧ CT0 T n M p ∧ RF T n μ p
def TKc (M M' : Mem) : Prop := ∀ j a i, ¬ (j = 0 ∧ a = 2 ∧ 4 ≤ i ∧ i ≤ 7) → M' j a i = M j a i
def TKm (μ μ' : Sl) : Prop := ∀ a i, ¬ (a = 34 ∧ ((7 ≤ i ∧ i ≤ 10) ∨ i = 23)) → μ' a i = μ a i
def FRc (q : Nat) (M M' : Mem) : Prop := ∀ j a i, ¬ (j = 0 ∧ a = 2 ∧ i ≠ 3 ∧ i ≠ 10) → ¬ (j = q ∧ 4 ≤ a ∧ a ≤ 9) → M' j a i = M j a i
def FRm (μ μ' : Sl) : Prop := ∀ a i, ¬ (a = 34 ∧ (i = 4 ∨ i = 5 ∨ (7 ≤ i ∧ i ≤ 10) ∨ i = 12 ∨ i = 14 ∨ i = 23)) → ¬ (37 ≤ a ∧ a ≤ 40 ∧ 6 ≤ i) → ¬ (a = 41 ∧ 7 ≤ i) → a ≠ 42 → ¬ (a = 43 ∧ 24 ≤ i) → ¬ (a = 44 ∧ 144 ≤ i) → μ' a i = μ a i
def FL (M : Mem) (μ : Sl) : Prop := M 0 2 0 = μ 34 4 ∧ M 0 2 1 = μ 34 5
theorem TKc_tr {M M' M'' : Mem} (h : TKc M M') (g : TKc M' M'') : TKc M M'' := fun j a i z => (g j a i z).trans (h j a i z)
theorem TKm_tr {μ μ' μ'' : Sl} (h : TKm μ μ') (g : TKm μ' μ'') : TKm μ μ'' := fun a i z => (g a i z).trans (h a i z)
theorem TKc_FR {M M' : Mem} (h : TKc M M') (q : Nat) : FRc q M M' := fun j a i z _ => h j a i (by omega)
theorem TKm_FR {μ μ' : Sl} (h : TKm μ μ') : FRm μ μ' := fun a i z _ _ _ _ _ => h a i (by omega)
theorem FRc_tr {q : Nat} {M M' M'' : Mem} (h : FRc q M M') (g : FRc q M' M'') : FRc q M M'' := fun j a i z y => (g j a i z y).trans (h j a i z y)
theorem FRm_tr {μ μ' μ'' : Sl} (h : FRm μ μ') (g : FRm μ' μ'') : FRm μ μ'' := fun a i z1 z2 z3 z4 z5 z6 => (g a i z1 z2 z3 z4 z5 z6).trans (h a i z1 z2 z3 z4 z5 z6)
theorem FRc_rf (q : Nat) (M : Mem) : FRc q M M := fun _ _ _ _ _ => rfl
theorem FRm_rf (μ : Sl) : FRm μ μ := fun _ _ _ _ _ _ _ _ => rfl
theorem TKc_rf (M : Mem) : TKc M M := fun _ _ _ _ => rfl
theorem TKm_rf (μ : Sl) : TKm μ μ := fun _ _ _ => rfl
section
variable {T : Nat → Nat} {n q : Nat} {M : Mem} {μ : Sl}
theorem RBs_fr {M' : Mem} {μ' : Sl} (h : RBs T n q M μ) (e1 : FRc q M M') (e2 : FRm μ μ') : RBs T n q M' μ' := by
  obtain ⟨h0, h1, h2, h3, h4, h5, h6⟩ := h
  refine ⟨h0, by rw [e1 _ _ _ (by omega) (by omega)]; exact h1, by rw [e1 _ _ _ (by omega) (by omega)]; exact h2, fun i hi => by rw [e1 _ _ _ (by omega) (by omega)]; exact h3 i hi, TB_keep h4 (fun a i g => e1 _ _ _ (by omega) (by omega)) (fun i => e2 _ _ (by omega) (by omega) (by omega) (by omega) (by omega) (by omega)), by rw [e2 _ _ (by omega) (by omega) (by omega) (by omega) (by omega) (by omega)]; exact h5, fun i hi => by rw [e2 _ _ (by omega) (by omega) (by omega) (by omega) (by omega) (by omega)]; exact h6 i hi⟩
theorem take_on (hB : RBs T n q M μ) {p : Nat} (h : HS T n M μ p) : ∃ M', Re_take M = some ((), M') ∧ TKc M M' ∧ SY T n M' μ p ∧ RBs T n q M' μ := by
  obtain ⟨⟨a1, a2, a3⟩, b1, b2, b3, b4, b5, b6⟩ := id hB
  obtain ⟨h1, h2, h3⟩ := h
  obtain ⟨M', c1, c2, c3, c4, c5, c6⟩ := c_take a1 a2 b1 h2 h1 b3 b4.1
  exact ⟨M', c1, c2, ⟨h1, ⟨c3, c4, c5, c6⟩, h3⟩, RBs_fr hB (TKc_FR c2 q) (FRm_rf μ)⟩
theorem token_on (hB : RBs T n q M μ) {p : Nat} (h : SY T n M μ p) : ∃ μ', Mo_token μ = some ((), μ') ∧ TKm μ μ' ∧ (∀ i, i = 4 ∨ i = 5 ∨ i = 12 ∨ i = 14 ∨ i = 23 → μ' 34 i = μ 34 i) ∧ HS T n M μ' (lxN T n p) ∧ RBs T n q M μ' := by
  obtain ⟨⟨a1, a2, a3⟩, b1, b2, b3, b4, b5, b6⟩ := id hB
  obtain ⟨h1, ⟨c1, c2, c3, c4⟩, d1, d2, d3, d4⟩ := h
  have rg := lx_rg (T := T) h1
  obtain ⟨μ', e1, e2, e3, e4, e5, e6⟩ := m_token a1 a2 b5 d1 rg.2.2.2.1 b6 b4.2.2.2.2.2.2.2.2
  have tk : TKm μ μ' := fun a i z => e2 a i (by omega)
  exact ⟨μ', e1, tk, fun i hi => e2 _ _ (by omega), ⟨rg.2.2.2.1, c1, e3, e4, e5, e6⟩, RBs_fr hB (FRc_rf q M) (TKm_FR tk)⟩
theorem fail_on {s : Int32} (h1 : M 0 2 6 = s) (h2 : μ 34 10 = s) (q : Nat) (a : Int32) : ∃ M' μ', Re_fail M a = some ((0 : Int32), M') ∧ Mo_wrong μ a = some ((0 : Int32), μ') ∧ FL M' μ' ∧ FRc q M M' ∧ FRm μ μ' ∧ (∀ j b i, ¬ (j = 0 ∧ b = 2 ∧ (i = 0 ∨ i = 1)) → M' j b i = M j b i) := by
  refine ⟨wrM (wrM M 0 2 0 a) 0 2 1 s, wr (wr μ 34 4 a) 34 5 s, ?_, ?_, ⟨?_, ?_⟩, fun j b i z _ => ?_, fun b i z _ _ _ _ _ => ?_, fun j b i z => ?_⟩
  · rw [Re_fail, bnd_ap, wrM_ap, if_neg (by omega), h1, bnd_ap]
  · rw [Mo_wrong, bnd_ap, wr_ap, if_neg (by omega), h2, bnd_ap]
  · rw [wrM_ap, if_neg (by omega), wrM_ap, if_pos ⟨rfl, rfl, rfl⟩, wr_ap, if_neg (by omega), wr_ap, if_pos ⟨rfl, rfl⟩]
  · rw [wrM_ap, if_pos ⟨rfl, rfl, rfl⟩, wr_ap, if_pos ⟨rfl, rfl⟩]
  · rw [wrM_ap, if_neg (by omega), wrM_ap, if_neg (by omega)]
  · rw [wr_ap, if_neg (by omega), wr_ap, if_neg (by omega)]
  · rw [wrM_ap, if_neg (by omega), wrM_ap, if_neg (by omega)]
theorem ok01 {τ : Type} (X Y : τ) : (if (0 : Int32) = 0 ∨ (0 : Int32) = 1 then X else Y) = X := if_pos (.inl rfl)
theorem kcv_eq {k : Nat} (hk : k ≤ 5) (j : Nat) (hj : j ≤ 5) : (zI (kcv k : Int) = zI (kcv j : Int)) = (k = j) := by
  have : ∀ k : Fin 6, ∀ j : Fin 6, (zI (kcv k.val : Int) = zI (kcv j.val : Int)) ↔ (k.val = j.val) := by decide +kernel
  exact propext (this ⟨k, by omega⟩ ⟨j, by omega⟩)
theorem k_eq {k : Nat} (hk : k ≤ 5) (j : Nat) (hj : j ≤ 5) : (zI (k : Int) = zI (j : Int)) = (k = j) := by
  rw [zI_eq (by omega) (by omega) (by omega) (by omega)]; exact propext ⟨fun h => by omega, fun h => by omega⟩
/-- a number within bounds -/
theorem num_on (hB : RBs T n q M μ) {p : Nat} (h : HS T n M μ p) {lo hi : Int} (h1 : 0 ≤ lo) (h2 : hi ≤ 99999) (h3 : lo ≤ 99999) (h4 : 0 ≤ hi) :
    (∃ M' μ', Re_takeNumber M (zI lo) (zI hi) = some (zI (-1), M') ∧ Mo_number μ (zI lo) (zI hi) = some ((0 : Int32), μ') ∧ FL M' μ' ∧ FRc q M M' ∧ FRm μ μ') ∨ ∃ v M' μ', Re_takeNumber M (zI lo) (zI hi) = some (zI v, M') ∧ Mo_number μ (zI lo) (zI hi) = some ((1 : Int32), μ') ∧ (lo ≤ v ∧ v ≤ hi) ∧ μ' 34 23 = zI v ∧ TKc M M' ∧ TKm μ μ' ∧ HS T n M' μ' (lxN T n p) ∧ RBs T n q M' μ' ∧ lxK T n p = 3 := by
  obtain ⟨M1, t1, t2, hS, hB1⟩ := take_on hB h
  obtain ⟨s1, ⟨c1, c2, c3, c4⟩, d1, d2, d3, d4⟩ := id hS
  have rg := lx_rg (T := T) s1
  have k5 := rg.2.2.2.2.2
  have vals := (lx_val (T := T) (n := n) (p := p)).2
  by_cases k3 : lxK T n p = 3
  · have hnr := vals k3
    have cv := c4 (.inr (.inr k3))
    have rv := d4 (.inr (.inr k3))
    have e5 : M1 0 2 5 = (3 : Int32) := by rw [c2, k3]; rfl
    have e8 : μ 34 8 = (3 : Int32) := by rw [d2, k3]; rfl
    have bnd_ : (lxC T n p : Int) ≤ 1000000 ∧ (lxR T n p : Int) ≤ 999999 := by
      unfold NR at hnr; omega
    have hin := m_isIn (x := (lxR T n p : Int)) (lo := lo) (hi := hi) ⟨by omega, by omega⟩ ⟨by omega, by omega⟩ ⟨by omega, by omega⟩
    by_cases r : lo ≤ (lxR T n p : Int) ∧ (lxR T n p : Int) ≤ hi
    · have ev : lxC T n p = lxR T n p := by unfold NR at hnr; omega
      refine .inr ⟨(lxR T n p : Int), M1, ?_⟩
      have hSw : SY T n M1 (wr μ 34 23 (zI (lxR T n p : Int))) p := ⟨s1, ⟨c1, c2, c3, c4⟩, by rw [wr_ap, if_neg (by omega)]; exact d1, by rw [wr_ap, if_neg (by omega)]; exact d2, by rw [wr_ap, if_neg (by omega)]; exact d3, fun z => by rw [wr_ap, if_neg (by omega)]; exact d4 z⟩
      have tk0 : TKm μ (wr μ 34 23 (zI (lxR T n p : Int))) := fun a i z => by rw [wr_ap, if_neg (by omega)]
      obtain ⟨μ', u1, u2, u3, u4, u5⟩ := token_on (RBs_fr hB1 (FRc_rf q M1) (TKm_FR tk0)) hSw
      refine ⟨μ', ?_, ?_, r, ?_, t2, TKm_tr tk0 u2, u4, u5, k3⟩
      · rw [Re_takeNumber, t1, bd_some, if_pos e5, cv, ev, if_neg (by rw [zI_lt (by omega) (by omega) (by omega) (by omega)]; omega), if_pos (by rw [zI_le (by omega) (by omega) (by omega) (by omega)]; omega)]
      · rw [Mo_number, if_pos e8, rv, hin, bp_some, bI_if, if_pos (decide_eq_true r), bnd_ap, u1, bd_some]
      · rw [u3 23 (by omega), wr_ap, if_pos ⟨rfl, rfl⟩]
    · obtain ⟨M2, μ2, f1, f2, f3, f4, f5, -⟩ := fail_on c3 d3 q (2 : Int32)
      refine .inl ⟨M2, μ2, ?_, ?_, f3, FRc_tr (TKc_FR t2 q) f4, f5⟩
      · have e36 : Re_takeNumber_36 M1 = some (zI (-1), M2) := by rw [Re_takeNumber_36, f1, bd_some]; rfl
        rw [Re_takeNumber, t1, bd_some, if_pos e5, cv, e36]
        unfold NR at hnr
        by_cases x : (lxC T n p : Int) < lo
        · rw [if_pos (by rw [zI_lt (by omega) (by omega) (by omega) (by omega)]; exact x)]
        · rw [if_neg (by rw [zI_lt (by omega) (by omega) (by omega) (by omega)]; exact x), if_neg (by rw [zI_le (by omega) (by omega) (by omega) (by omega)]; omega)]
      · rw [Mo_number, if_pos e8, rv, hin, bp_some, bI_if, if_neg (by rw [decide_eq_true_eq]; exact r), f2, bd_some, ok01]
  · obtain ⟨M2, μ2, f1, f2, f3, f4, f5, -⟩ := fail_on c3 d3 q (1 : Int32)
    refine .inl ⟨M2, μ2, ?_, ?_, f3, FRc_tr (TKc_FR t2 q) f4, f5⟩
    · have e5 : ¬ M1 0 2 5 = (3 : Int32) := by
        have := kcv_eq k5 3 (by omega)
        rw [c2]; intro z; exact k3 (by rw [← this]; exact z)
      rw [Re_takeNumber, t1, bd_some, if_neg e5, f1, bd_some]; rfl
    · have e8 : ¬ μ 34 8 = (3 : Int32) := by
        have := k_eq k5 3 (by omega)
        rw [d2]; intro z; exact k3 (by rw [← this]; exact z)
      rw [Mo_number, if_neg e8, f2, bd_some, ok01]
theorem c_nm {d : Sl} {nr : Nat} (h6 : nr ≤ 6) (h : d 4 5 = zI (nr : Int)) (v : Int32) : Sc_spaceNamed d v = some (zI (fnm (d 5) v nr 0)) := by
  have t := c_named h6 h v nr 0 FU (by omega) (FU_gt (by omega))
  rw [Sc_spaceNamed, bnd_ap, show (0 : Int32) = zI ((0 : Nat) : Int) from rfl]; exact t
theorem m_nm {d : Sl} {nr : Nat} (h6 : nr ≤ 6) (v : Int32) : Mo_find d (6 : Int32) (zI (nr : Int)) v = some (zI (fnm (fun j => d 37 (6 + j)) v nr 0)) := by
  have t := m_named (d := d) (o := 6) h6 (by omega) v nr 0 FU (by omega) (FU_gt (by omega))
  rw [Mo_find, bnd_ap, show (0 : Int32) = zI ((0 : Nat) : Int) from rfl, show (6 : Int32) = zI ((6 : Nat) : Int) from rfl]; exact t
/-- a space told ahead -/
theorem spc_on (hB : RBs T n q M μ) {p nr : Nat} (h : HS T n M μ p) (h6 : nr ≤ 6) (hc : M q 4 5 = zI (nr : Int)) (hm : μ 34 12 = zI (nr : Int)) (he : ∀ s, s < nr → M q 5 s = μ 37 (6 + s)) :
    (∃ M' μ', Re_takeSpace M = some (zI (-1), M') ∧ Mo_spaceRead μ = some ((0 : Int32), μ') ∧ FL M' μ' ∧ FRc q M M' ∧ FRm μ μ') ∨ ∃ (s : Nat) (M' : Mem) (μ' : Sl), Re_takeSpace M = some (zI (s : Int), M') ∧ Mo_spaceRead μ = some ((1 : Int32), μ') ∧ s < nr ∧ μ' 34 23 = zI (s : Int) ∧ TKc M M' ∧ TKm μ μ' ∧ SY T n M' μ' p ∧ RBs T n q M' μ' ∧ lxK T n p = 2 := by
  obtain ⟨M1, t1, t2, hS, hB1⟩ := take_on hB h
  obtain ⟨s1, ⟨c1, c2, c3, c4⟩, d1, d2, d3, d4⟩ := id hS
  obtain ⟨⟨a1, a2, a3⟩, b1, b2, -⟩ := id hB1
  have rg := lx_rg (T := T) s1
  have k5 := rg.2.2.2.2.2
  by_cases k2 : lxK T n p = 2
  · have cv := c4 (.inr (.inl k2))
    have rv := d4 (.inr (.inl k2))
    have ev := (lx_val (T := T) (n := n) (p := p)).1 (.inr k2)
    have e5 : M1 0 2 5 = (1 : Int32) := by rw [c2, k2]; rfl
    have e8 : μ 34 8 = (2 : Int32) := by rw [d2, k2]; rfl
    have q45 : M1 q 4 5 = zI (nr : Int) := by rw [t2 _ _ _ (by omega)]; exact hc
    have f1' := c_nm h6 q45 (zI (lxC T n p : Int))
    have f2' := m_nm (d := μ) h6 (zI (lxC T n p : Int))
    have w23 : ∀ v : Int32, wr μ 34 23 v 34 23 = v := fun v => by rw [wr_ap, if_pos ⟨rfl, rfl⟩]
    have fe : fnm (fun j => μ 37 (6 + j)) (zI (lxC T n p : Int)) nr 0 = fnm (M1 q 5) (zI (lxC T n p : Int)) nr 0 := fnm_cong _ _ _ (fun j _ hj => by rw [t2 _ _ _ (by omega)]; exact (he j (by omega)).symm)
    rw [fe] at f2'
    have tk0 : ∀ v : Int32, TKm μ (wr μ 34 23 v) := fun v a i z => by rw [wr_ap, if_neg (by omega)]
    rcases fnm_rg (f := M1 q 5) (zI (lxC T n p : Int)) nr 0 with e | ⟨j, e, -, hj, -⟩
    · rw [e] at f1' f2'
      obtain ⟨M2, μ2, g1, g2, g3, g4, g5, -⟩ := fail_on (M := M1) (μ := wr μ 34 23 (zI (-1))) c3 (by rw [wr_ap, if_neg (by omega)]; exact d3) q (4 : Int32)
      refine .inl ⟨M2, μ2, ?_, ?_, g3, FRc_tr (TKc_FR t2 q) g4, FRm_tr (TKm_FR (tk0 _)) g5⟩
      · rw [Re_takeSpace, t1, bd_some, if_pos e5, b2, gref_z (by omega), cv, f1', bp_some, bnd_ap, if_neg zI_np, g1, bd_some]
      · rw [Mo_spaceRead, if_pos e8, hm, rv, ← ev, f2', bp_some, bnd_ap, w23, if_neg zI_np, g2, bd_some, if_pos rfl]
    · rw [e] at f1' f2'
      refine .inr ⟨j, M1, wr μ 34 23 (zI (j : Int)), ?_, ?_, by omega, by rw [wr_ap, if_pos ⟨rfl, rfl⟩], t2, tk0 _, ⟨s1, ⟨c1, c2, c3, c4⟩, by rw [wr_ap, if_neg (by omega)]; exact d1, by rw [wr_ap, if_neg (by omega)]; exact d2, by rw [wr_ap, if_neg (by omega)]; exact d3, fun z => by rw [wr_ap, if_neg (by omega)]; exact d4 z⟩, RBs_fr hB1 (FRc_rf q M1) (TKm_FR (tk0 _)), k2⟩
      · rw [Re_takeSpace, t1, bd_some, if_pos e5, b2, gref_z (by omega), cv, f1', bp_some, bnd_ap, if_pos (zI_p0 (by omega))]
      · rw [Mo_spaceRead, if_pos e8, hm, rv, ← ev, f2', bp_some, bnd_ap, w23, if_pos (zI_p0 (by omega))]
  · obtain ⟨M2, μ2, f1, f2, f3, f4, f5, -⟩ := fail_on c3 d3 q (1 : Int32)
    refine .inl ⟨M2, μ2, ?_, ?_, f3, FRc_tr (TKc_FR t2 q) f4, f5⟩
    · have e5 : ¬ M1 0 2 5 = (1 : Int32) := by
        have := kcv_eq k5 2 (by omega)
        rw [c2]; intro z; exact k2 (by rw [← this]; exact z)
      rw [Re_takeSpace, t1, bd_some, if_neg e5, f1, bd_some]; rfl
    · have e8 : ¬ μ 34 8 = (2 : Int32) := by
        have := k_eq k5 2 (by omega)
        rw [d2]; intro z; exact k2 (by rw [← this]; exact z)
      rw [Mo_spaceRead, if_neg e8, f2, bd_some, ok01]
end
