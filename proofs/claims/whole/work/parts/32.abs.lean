/-! ===== the forest of deeds, by ids (32 * space + place): A.1 j d: 0 order + 1 (0: none), 1 frame, 2 rights, 3 giver + 1 (0: none), 8 age, 9 top, 10 job, 11 turn; A.2 d: its heirs ===== -/
abbrev Ab : Type := (Nat → Nat → Int) × (Nat → List Nat)
def Lv (A : Ab) (d : Nat) : Prop := d < 192 ∧ 0 < A.1 0 d
def pgs (A : Ab) (d : Nat) : Nat := pg (A.1 0 d)
/-- shape of a deed: order, place, frame, rights, age -/
def WFa (n S : Nat) (A : Ab) (d : Nat) : Prop :=
  A.1 0 d ≤ 4 ∧ d % pgs A d = 0 ∧ d / 32 < n ∧ d % 32 + pgs A d ≤ S ∧ 0 ≤ A.1 1 d ∧ A.1 1 d % (pgs A d : Int) = 0 ∧ A.1 1 d + pgs A d ≤ S ∧ 0 ≤ A.1 2 d ∧ A.1 2 d ≤ 7 ∧ 0 ≤ A.1 8 d ∧ A.1 8 d ≤ 1266679808
/-- its giver -/
def WFg (A : Ab) (dep : Nat → Nat) (d : Nat) : Prop :=
  (A.1 3 d = 0 ∧ dep d = 0) ∨ ∃ g : Nat, A.1 3 d = (g : Int) + 1 ∧ Lv A g ∧ d ∈ A.2 g ∧ dep d = dep g + 1 ∧ A.1 0 d ≤ A.1 0 g ∧ A.1 1 g ≤ A.1 1 d ∧ A.1 1 d + pgs A d ≤ A.1 1 g + pgs A g
/-- its heirs -/
def WFk (A : Ab) (d : Nat) : Prop := (A.2 d).Nodup ∧ ∀ h, h ∈ A.2 d → Lv A h ∧ A.1 3 h = (d : Int) + 1
def WFn (A : Ab) : Prop := ∀ d e, Lv A d → Lv A e → d ≠ e → d + pgs A d ≤ e ∨ e + pgs A e ≤ d
def WF (n S : Nat) (A : Ab) (dep : Nat → Nat) : Prop :=
  n ≤ 6 ∧ S ≤ 32 ∧ S % 8 = 0 ∧ (∀ d, Lv A d → WFa n S A d) ∧ (∀ d, Lv A d → WFg A dep d) ∧ (∀ d, Lv A d → WFk A d) ∧ WFn A ∧ ∀ d, d < 192 → 0 ≤ A.1 0 d
theorem pgs_cases {n S : Nat} {A : Ab} {dep : Nat → Nat} (h : WF n S A dep) {d : Nat} (hd : Lv A d) : (A.1 0 d = 1 ∧ pgs A d = 1) ∨ (A.1 0 d = 2 ∧ pgs A d = 2) ∨ (A.1 0 d = 3 ∧ pgs A d = 4) ∨ (A.1 0 d = 4 ∧ pgs A d = 8) :=
  pg_cases (by have := hd.2; omega) (h.2.2.2.1 d hd).1
/-- the deed that has a place -/
def cov (A : Ab) (q : Nat) : Option Nat := if A.1 0 q = 1 then some q else if A.1 0 (q - q % 2) = 2 then some (q - q % 2) else if A.1 0 (q - q % 4) = 3 then some (q - q % 4) else if A.1 0 (q - q % 8) = 4 then some (q - q % 8) else none
theorem cov_some {n S : Nat} {A : Ab} {dep : Nat → Nat} (h : WF n S A dep) {q d : Nat} (hq : q < 192) (hc : cov A q = some d) : Lv A d ∧ d ≤ q ∧ q < d + pgs A d := by
  unfold cov at hc
  split at hc
  · cases hc; refine ⟨⟨hq, by omega⟩, by omega, ?_⟩; rename_i e; unfold pgs; rw [e]; show _ < _ + 1; omega
  · split at hc
    · rename_i e; cases hc; refine ⟨⟨by omega, by omega⟩, by omega, ?_⟩; unfold pgs; rw [e]; show _ < _ + 2; omega
    · split at hc
      · rename_i e; cases hc; refine ⟨⟨by omega, by omega⟩, by omega, ?_⟩; unfold pgs; rw [e]; show _ < _ + 4; omega
      · split at hc
        · rename_i e; cases hc; refine ⟨⟨by omega, by omega⟩, by omega, ?_⟩; unfold pgs; rw [e]; show _ < _ + 8; omega
        · cases hc
theorem cov_of {n S : Nat} {A : Ab} {dep : Nat → Nat} (h : WF n S A dep) {q d : Nat} (hd : Lv A d) (h1 : d ≤ q) (h2 : q < d + pgs A d) (hq : q < 192) : cov A q = some d := by
  have hs : ∃ e, cov A q = some e := by
    have ha := (h.2.2.2.1 d hd).2.1
    unfold cov
    rcases pgs_cases h hd with ⟨a, b⟩ | ⟨a, b⟩ | ⟨a, b⟩ | ⟨a, b⟩ <;> rw [b] at h2 ha
    · have : q = d := by omega
      subst this; simp [a]
    · have : q - q % 2 = d := by omega
      rw [this]; simp only [a]; split <;> simp
    · have : q - q % 4 = d := by omega
      rw [this]; simp only [a]; split <;> (try split) <;> simp
    · have : q - q % 8 = d := by omega
      rw [this]; simp only [a]; split <;> (try split) <;> (try split) <;> simp
  obtain ⟨e, he⟩ := hs
  have h3 := cov_some h hq he
  by_cases hde : d = e
  · rw [he, hde]
  · have := h.2.2.2.2.2.2.1 d e hd h3.1 hde
    omega
theorem cov_none {n S : Nat} {A : Ab} {dep : Nat → Nat} (h : WF n S A dep) {q : Nat} (hq : q < 192) (hc : cov A q = none) {d : Nat} (hd : Lv A d) : q < d ∨ d + pgs A d ≤ q := by
  by_cases h1 : q < d
  · exact .inl h1
  · by_cases h2 : d + pgs A d ≤ q
    · exact .inr h2
    · rw [cov_of h hd (by omega) (by omega) hq] at hc; cases hc
theorem cov_self {n S : Nat} {A : Ab} {dep : Nat → Nat} (h : WF n S A dep) {d : Nat} (hd : Lv A d) : cov A d = some d := by
  refine cov_of h hd (Nat.le_refl d) ?_ hd.1
  rcases pgs_cases h hd with ⟨a, b⟩ | ⟨a, b⟩ | ⟨a, b⟩ | ⟨a, b⟩ <;> omega
/-- a giver is there -/
theorem gv_live {n S : Nat} {A : Ab} {dep : Nat → Nat} (h : WF n S A dep) {d g : Nat} (hd : Lv A d) (hg : A.1 3 d = (g : Int) + 1) : Lv A g ∧ d ∈ A.2 g ∧ dep d = dep g + 1 ∧ A.1 0 d ≤ A.1 0 g ∧ A.1 1 g ≤ A.1 1 d ∧ A.1 1 d + pgs A d ≤ A.1 1 g + pgs A g := by
  rcases h.2.2.2.2.1 d hd with ⟨h1, -⟩ | ⟨g', h1, h2⟩
  · omega
  · have : g' = g := by omega
    subst this; exact h2
theorem gv_0 {n S : Nat} {A : Ab} {dep : Nat → Nat} (h : WF n S A dep) {d : Nat} (hd : Lv A d) (hg : A.1 3 d = 0) : dep d = 0 := by
  rcases h.2.2.2.2.1 d hd with ⟨-, h1⟩ | ⟨g', h1, h2⟩
  · exact h1
  · omega
theorem gv_or {n S : Nat} {A : Ab} {dep : Nat → Nat} (h : WF n S A dep) {d : Nat} (hd : Lv A d) : (A.1 3 d = 0 ∧ dep d = 0) ∨ ∃ g : Nat, A.1 3 d = (g : Int) + 1 ∧ Lv A g ∧ dep d = dep g + 1 := by
  rcases h.2.2.2.2.1 d hd with h1 | ⟨g', h1, h2, h3, h4, -⟩
  · exact .inl h1
  · exact .inr ⟨g', h1, h2, h4⟩
/-- the k-th above -/
def upk (A : Ab) : Nat → Nat → Nat
  | 0, d => d
  | k + 1, d => upk A k (A.1 3 d - 1).toNat
theorem upk_lv {n S : Nat} {A : Ab} {dep : Nat → Nat} (h : WF n S A dep) : ∀ (k d : Nat), Lv A d → k ≤ dep d → Lv A (upk A k d) ∧ dep (upk A k d) + k = dep d := by
  intro k
  induction k with
  | zero => intro d hd _; exact ⟨hd, rfl⟩
  | succ k ih =>
    intro d hd hk
    rcases gv_or h hd with ⟨-, h1⟩ | ⟨g, h1, h2, h3⟩
    · omega
    · have e : (A.1 3 d - 1).toNat = g := by omega
      show Lv A (upk A k (A.1 3 d - 1).toNat) ∧ dep (upk A k (A.1 3 d - 1).toNat) + (k + 1) = dep d
      rw [e]
      have := ih g h2 (by omega)
      exact ⟨this.1, by omega⟩
theorem dep_lt {n S : Nat} {A : Ab} {dep : Nat → Nat} (h : WF n S A dep) {d : Nat} (hd : Lv A d) : dep d < 192 := by
  have := fb_holes 192 (dep d + 1) (fun k => upk A k d) (fun k hk => (upk_lv h k d hd (by omega)).1.1) (fun i j hij hj e => by
    have h1 := (upk_lv h i d hd (by omega)).2
    have h2 := (upk_lv h j d hd (by omega)).2
    rw [show upk A i d = upk A j d from e] at h1
    omega)
  omega
