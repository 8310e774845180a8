/-- bank s copied on to bank t, the first j entries -/
def cpn (μ : Sl) (s t j : Nat) : Sl := fun a i => if a = 45 ∧ 2227 * t ≤ i ∧ i < 2227 * t + j then μ 45 (2227 * s + (i - 2227 * t)) else μ a i
theorem cpn_ap (μ : Sl) (s t j a i : Nat) : cpn μ s t j a i = if a = 45 ∧ 2227 * t ≤ i ∧ i < 2227 * t + j then μ 45 (2227 * s + (i - 2227 * t)) else μ a i := rfl
theorem cpn_0 (μ : Sl) (s t : Nat) : cpn μ s t 0 = μ := by
  funext a i
  rw [cpn_ap, if_neg (by omega)]
theorem cpn_s {μ : Sl} {s t j : Nat} (hst : s ≠ t) (hj : j < 2227) : wr (cpn μ s t j) 45 (2227 * t + j) (cpn μ s t j 45 (2227 * s + j)) = cpn μ s t (j + 1) := by
  have e : cpn μ s t j 45 (2227 * s + j) = μ 45 (2227 * s + j) := by
    rw [cpn_ap, if_neg (by omega)]
  rw [e]
  funext a i
  rw [wr_ap, cpn_ap, cpn_ap]
  by_cases h : a = 45 ∧ i = 2227 * t + j
  · rw [if_pos h, if_pos (by omega)]; congr 1; omega
  · rw [if_neg h]
    by_cases g : a = 45 ∧ 2227 * t ≤ i ∧ i < 2227 * t + j
    · rw [if_pos g, if_pos (by omega)]
    · rw [if_neg g, if_neg (by omega)]
theorem m_cbk {μ : Sl} {s t : Nat} (hs : s ≤ 21) (ht : t ≤ 21) (hst : s ≠ t) : ∀ (m j f : Nat), j + m = 2227 → m < f → Mo_copyBank_2 f (zI (s : Int)) (zI (t : Int)) (zI (j : Int)) (cpn μ s t j) = some ((), cpn μ s t 2227) := by
  intro m
  induction m with
  | zero =>
    intro j f hj hf
    obtain ⟨g, rfl⟩ : ∃ g, f = g + 1 := ⟨f - 1, by omega⟩
    rw [Mo_copyBank_2, if_pos (by rw [zI_lit, zI_le (by omega) (by omega) (by omega) (by omega)]; omega), show j = 2227 by omega]
  | succ m ih =>
    intro j f hj hf
    obtain ⟨g, rfl⟩ : ∃ g, f = g + 1 := ⟨f - 1, by omega⟩
    have e1 : (2227 : Int32) * zI (s : Int) + zI (j : Int) = zI (((2227 * s + j : Nat)) : Int) := by rw [show (2227 : Int32) = zI 2227 from rfl, zI_mul, zI_add]; rfl
    have e2 : (2227 : Int32) * zI (t : Int) + zI (j : Int) = zI (((2227 * t + j : Nat)) : Int) := by rw [show (2227 : Int32) = zI 2227 from rfl, zI_mul, zI_add]; rfl
    rw [Mo_copyBank_2, if_neg (by rw [zI_lit, zI_le (by omega) (by omega) (by omega) (by omega)]; omega), e1, e2, if_pos (by rw [zI_inb (by omega) (by omega)]; omega), if_pos (by rw [zI_inb (by omega) (by omega)]; omega), zI_ix (by omega) (by omega), zI_ix (by omega) (by omega), bnd_ap, bnd_ap, Int.toNat_natCast, Int.toNat_natCast, cpn_s hst (by omega), show (1 : Int32) = zI 1 from rfl, zI_add, show (j : Int) + 1 = ((j + 1 : Nat) : Int) by omega]
    exact ih (j + 1) g (by omega) (by omega)
theorem m_bank {μ : Sl} {s t : Nat} (hs : s ≤ 21) (ht : t ≤ 21) (hst : s ≠ t) : Mo_copyBank μ (zI (s : Int)) (zI (t : Int)) = some ((), cpn μ s t 2227) := by
  have h := m_cbk (μ := μ) hs ht hst 2227 0 1000000 (by omega) (by omega)
  rw [cpn_0] at h
  exact h
/-- what a bank holds -/
def BK (μ : Sl) (t : Nat) (B : Nat → Int) : Prop := ∀ i, i < 2227 → μ 45 (2227 * t + i) = zI (B i)
theorem BK_bst (μ : Sl) (t : Nat) (B : Nat → Int) : BK (bst μ t B) t B := by
  intro i hi
  rw [bst, if_pos (by omega)]; congr 2; omega
theorem BK_other {μ : Sl} {t u : Nat} {B C : Nat → Int} (h : BK μ u C) (hu : u ≠ t) : BK (bst μ t B) u C := by
  intro i hi
  rw [bst, if_neg (by omega)]; exact h i hi
theorem bst_BK {μ : Sl} {t : Nat} {B : Nat → Int} (h : BK μ t B) : bst μ t B = μ := by
  funext a i
  unfold bst
  by_cases g : a = 45 ∧ 2227 * t ≤ i ∧ i < 2227 * t + 2227
  · rw [if_pos g, ← h (i - 2227 * t) (by omega), g.1]; congr 1; omega
  · rw [if_neg g]
theorem BK_to {μ : Sl} {s t : Nat} {B : Nat → Int} (h : BK μ s B) : BK (cpn μ s t 2227) t B := by
  intro i hi
  rw [cpn_ap, if_pos (by omega), show 2227 * t + i - 2227 * t = i by omega]; exact h i hi
theorem BK_ne {μ : Sl} {s t u : Nat} {B : Nat → Int} (h : BK μ u B) (hu : u ≠ t) : BK (cpn μ s t 2227) u B := by
  intro i hi
  rw [cpn_ap, if_neg (by omega)]; exact h i hi
theorem cpn_ne (μ : Sl) (s t j : Nat) {a i : Nat} (h : a ≠ 45) : cpn μ s t j a i = μ a i := by
  rw [cpn_ap, if_neg (fun z => h z.1)]
theorem BK_SC {μ μ' : Sl} {u : Nat} {B : Nat → Int} (h : BK μ u B) (hs : SC μ μ') : BK μ' u B := by
  intro i hi
  rw [hs 45 _ (by omega) (by omega) (by omega)]; exact h i hi
