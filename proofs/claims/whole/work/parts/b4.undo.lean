theorem BK_wr {μ : Sl} {u : Nat} {B : Nat → Int} {a i : Nat} {v : Int32} (h : BK μ u B) (ha : a ≠ 45) : BK (wr μ a i v) u B := by
  intro j hj
  rw [wr_ap, if_neg (fun z => ha z.1.symm)]; exact h j hj
theorem m_cu39 {μ : Sl} {κ : Nat} {C : Nat → Nat → Int} {B : Nat → Int} (h1 : μ 34 26 = zI (κ : Int)) (h2 : κ < 20) (h3 : ∀ i, i < κ → BK μ (2 + i) (C i)) (h4 : BK μ 0 B) :
    ∃ μ', Mo_canUndo_39 μ = some ((), μ') ∧ μ' 34 26 = zI ((κ + 1 : Nat) : Int) ∧ (∀ i, i < κ → BK μ' (2 + i) (C i)) ∧ BK μ' (2 + κ) B ∧ BK μ' 0 B ∧ ∀ a i, a ≠ 45 → ¬ (a = 34 ∧ i = 26) → μ' a i = μ a i := by
  have e : (2 : Int32) + zI (κ : Int) = zI ((2 + κ : Nat) : Int) := by rw [show (2 : Int32) = zI 2 from rfl, zI_add]; congr 1
  have c := m_bank (μ := μ) (s := 0) (t := 2 + κ) (by omega) (by omega) (by omega)
  have e2 : cpn μ 0 (2 + κ) 2227 34 26 + (1 : Int32) = zI ((κ + 1 : Nat) : Int) := by rw [cpn_ne μ _ _ _ (by omega), h1, show (1 : Int32) = zI 1 from rfl, zI_add]; congr 1
  refine ⟨wr (cpn μ 0 (2 + κ) 2227) 34 26 (zI ((κ + 1 : Nat) : Int)), ?_, by rw [wr_ap, if_pos ⟨rfl, rfl⟩], fun i hi => BK_wr (BK_ne (h3 i hi) (by omega)) (by omega), BK_wr (BK_to h4) (by omega), BK_wr (BK_ne h4 (by omega)) (by omega), fun a i g1 g2 => by rw [wr_ap, if_neg g2, cpn_ne μ _ _ _ g1]⟩
  rw [Mo_canUndo_39, h1, e, show (0 : Int32) = zI ((0 : Nat) : Int) from rfl, c, bd_some, bnd_ap, e2]
theorem m_cu11 {C : Nat → Nat → Int} {B : Nat → Int} : ∀ (m v f : Nat) (μ : Sl), v + m = 20 → 1 ≤ v → m < f → (∀ i, i + 1 < v → BK μ (2 + i) (C (i + 1))) → (∀ i, v ≤ i → i < 20 → BK μ (2 + i) (C i)) → BK μ 0 B →
    ∃ μ', Mo_canUndo_11 f (zI (v : Int)) μ = Mo_canUndo_39 (wr μ' 34 26 (zI ((19 : Nat) : Int))) ∧ (∀ i, i < 19 → BK μ' (2 + i) (C (i + 1))) ∧ BK μ' 0 B ∧ ∀ a i, a ≠ 45 → μ' a i = μ a i := by
  intro m
  induction m with
  | zero =>
    intro v f μ hv h1 hf ha hb h0
    obtain ⟨g, rfl⟩ : ∃ g, f = g + 1 := ⟨f - 1, by omega⟩
    refine ⟨μ, ?_, fun i hi => ha i (by omega), h0, fun _ _ _ => rfl⟩
    rw [Mo_canUndo_11, if_pos (by rw [zI_lit, zI_le (by omega) (by omega) (by omega) (by omega)]; omega), bnd_ap]; rfl
  | succ m ih =>
    intro v f μ hv h1 hf ha hb h0
    obtain ⟨g, rfl⟩ : ∃ g, f = g + 1 := ⟨f - 1, by omega⟩
    have e1 : (2 : Int32) + zI (v : Int) = zI ((2 + v : Nat) : Int) := by rw [show (2 : Int32) = zI 2 from rfl, zI_add]; congr 1
    have e2 : (1 : Int32) + zI (v : Int) = zI ((1 + v : Nat) : Int) := by rw [show (1 : Int32) = zI 1 from rfl, zI_add]; congr 1
    have e3 : zI (v : Int) + (1 : Int32) = zI ((v + 1 : Nat) : Int) := by rw [show (1 : Int32) = zI 1 from rfl, zI_add]; congr 1
    have c := m_bank (μ := μ) (s := 2 + v) (t := 1 + v) (by omega) (by omega) (by omega)
    obtain ⟨μ', q1, q2, q3, q4⟩ := ih (v + 1) g (cpn μ (2 + v) (1 + v) 2227) (by omega) (by omega) (by omega) (fun i hi => by
      by_cases z : i + 1 = v
      · rw [z, show 2 + i = 1 + v by omega]; exact BK_to (hb v (by omega) (by omega))
      · exact BK_ne (ha i (by omega)) (by omega)) (fun i x y => BK_ne (hb i (by omega) y) (by omega)) (BK_ne h0 (by omega))
    refine ⟨μ', ?_, q2, q3, fun a i x => by rw [q4 a i x, cpn_ne μ _ _ _ x]⟩
    rw [Mo_canUndo_11, if_neg (by rw [zI_lit, zI_le (by omega) (by omega) (by omega) (by omega)]; omega), e1, e2, c, bd_some, bnd_ap, e3]
    exact q1
/-- the banks that are kept -/
def BH (μ : Sl) (κ : Nat) (C : Nat → Nat → Int) : Prop := μ 34 26 = zI (κ : Int) ∧ κ ≤ 20 ∧ ∀ i, i < κ → BK μ (2 + i) (C i)
/-- one more is kept, the oldest of 20 goes -/
def ckp (κ : Nat) (C : Nat → Nat → Int) (B : Nat → Int) : Nat → Nat → Int := fun i => if κ < 20 then (if i = κ then B else C i) else if i = 19 then B else C (i + 1)
theorem m_canUndo {μ : Sl} {κ : Nat} {C : Nat → Nat → Int} {B : Nat → Int} (h : BH μ κ C) (h0 : BK μ 0 B) :
    ∃ μ', Mo_canUndo μ = some ((), μ') ∧ BH μ' (if κ < 20 then κ + 1 else 20) (ckp κ C B) ∧ BK μ' 0 B ∧ ∀ a i, a ≠ 45 → ¬ (a = 34 ∧ i = 26) → μ' a i = μ a i := by
  obtain ⟨h1, h2, h3⟩ := h
  by_cases c : κ < 20
  · obtain ⟨μ', q1, q2, q3, q4, q5, q6⟩ := m_cu39 h1 c h3 h0
    refine ⟨μ', ?_, ⟨by rw [if_pos c]; exact q2, by rw [if_pos c]; omega, fun i hi => ?_⟩, q5, q6⟩
    · rw [Mo_canUndo, h1, if_neg (by rw [zI_lit, zI_eq (by omega) (by omega) (by omega) (by omega)]; omega)]; exact q1
    · rw [if_pos c] at hi
      unfold ckp
      rw [if_pos c]
      by_cases z : i = κ
      · rw [if_pos z, z]; exact q4
      · rw [if_neg z]; exact q3 i (by omega)
  · have hk : κ = 20 := by omega
    subst hk
    obtain ⟨μ1, r1, r2, r3, r4⟩ := m_cu11 (C := C) (B := B) 19 1 1000000 μ (by omega) (by omega) (by omega) (fun i hi => by omega) (fun i _ y => h3 i y) h0
    obtain ⟨μ', q1, q2, q3, q4, q5, q6⟩ := m_cu39 (μ := wr μ1 34 26 (zI ((19 : Nat) : Int))) (κ := 19) (C := fun i => C (i + 1)) (B := B) (by rw [wr_ap, if_pos ⟨rfl, rfl⟩]) (by omega) (fun i hi => BK_wr (r2 i hi) (by omega)) (BK_wr r3 (by omega))
    refine ⟨μ', ?_, ⟨by rw [if_neg c]; exact q2, by rw [if_neg c]; omega, fun i hi => ?_⟩, q5, fun a i x y => by rw [q6 a i x y, wr_ap, if_neg y, r4 a i x]⟩
    · rw [Mo_canUndo, h1, if_pos (show zI ((20 : Nat) : Int) = (20 : Int32) from rfl), bnd_ap, ← q1]; exact r1
    · rw [if_neg c] at hi
      unfold ckp
      rw [if_neg c]
      by_cases z : i = 19
      · rw [if_pos z, z]; exact q4
      · rw [if_neg z]; exact q3 i (by omega)
