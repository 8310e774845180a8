/-! ===== reading a text: signs, words, numbers ===== -/
theorem wrM_ap (M : Mem) (k a i : Nat) (v : Int32) (j b l : Nat) : wrM M k a i v j b l = if j = k ∧ b = a ∧ l = i then v else M j b l := by
  unfold wrM setS wr
  by_cases h : j = k
  · subst h
    rw [if_pos rfl]
    by_cases g : b = a ∧ l = i
    · rw [if_pos g, if_pos ⟨rfl, g⟩]
    · rw [if_neg g, if_neg (fun z => g z.2)]
  · rw [if_neg h, if_neg (fun z => h z.1)]
def bB (c : Nat) : Bool := decide (c = 10 ∨ c = 32)
def lB (c : Nat) : Bool := decide (97 ≤ c ∧ c ≤ 122)
def dB (c : Nat) : Bool := decide (48 ≤ c ∧ c ≤ 57)
/-- the first place, at most m on, whose sign is not one of P -/
def sk (P : Nat → Bool) (T : Nat → Nat) : Nat → Nat → Nat
  | 0, p => p
  | m + 1, p => if P (T p) = true then sk P T m (p + 1) else p
theorem sk_s (P : Nat → Bool) (T : Nat → Nat) (m p : Nat) : sk P T (m + 1) p = if P (T p) = true then sk P T m (p + 1) else p := rfl
theorem sk_rg (P : Nat → Bool) (T : Nat → Nat) : ∀ (m p : Nat), p ≤ sk P T m p ∧ sk P T m p ≤ p + m := by
  intro m
  induction m with
  | zero => intro p; exact ⟨Nat.le_refl _, Nat.le_refl _⟩
  | succ m ih =>
    intro p
    rw [sk_s]
    by_cases h : P (T p) = true
    · rw [if_pos h]; have := ih (p + 1); omega
    · rw [if_neg h]; omega
theorem sk_in (P : Nat → Bool) (T : Nat → Nat) : ∀ (m p : Nat), ∀ j, p ≤ j → j < sk P T m p → P (T j) = true := by
  intro m
  induction m with
  | zero => intro p j h1 h2; have : sk P T 0 p = p := rfl; omega
  | succ m ih =>
    intro p j h1 h2
    rw [sk_s] at h2
    by_cases h : P (T p) = true
    · rw [if_pos h] at h2
      by_cases g : j = p
      · rw [g]; exact h
      · exact ih (p + 1) j (by omega) h2
    · rw [if_neg h] at h2; omega
/-- the tape as the class has it, as the reference has it -/
def TC (M : Mem) (T : Nat → Nat) (n : Nat) : Prop := ∀ i, i < n → M 0 1 i = zI (T i : Int)
def TM (μ : Sl) (T : Nat → Nat) (n : Nat) : Prop := ∀ i, i < n → μ 35 i = zI (T i : Int)
theorem c_blank {c : Nat} (h : c < 256) : Re_isBlank (zI (c : Int)) = some (bI (bB c)) := by
  unfold Re_isBlank bB
  by_cases z : c = 10
  · rw [if_pos (by rw [z]; rfl), decide_eq_true (.inl z)]; rfl
  · rw [if_neg (by rw [zI_lit, zI_eq (by omega) (by omega) (by omega) (by omega)]; omega)]
    by_cases y : c = 32
    · rw [if_pos (by rw [y]; rfl), decide_eq_true (.inr y)]; rfl
    · rw [if_neg (by rw [zI_lit, zI_eq (by omega) (by omega) (by omega) (by omega)]; omega), decide_eq_false (by omega)]; rfl
theorem c_letter {c : Nat} (h : c < 256) : Re_isLetter (zI (c : Int)) = some (bI (lB c)) := by
  unfold Re_isLetter lB
  by_cases z : c < 97
  · rw [if_pos (by rw [zI_lit, zI_lt (by omega) (by omega) (by omega) (by omega)]; omega), decide_eq_false (by omega)]; rfl
  · rw [if_neg (by rw [zI_lit, zI_lt (by omega) (by omega) (by omega) (by omega)]; omega)]
    by_cases y : 122 < c
    · rw [if_pos (by rw [zI_lit, zI_lt (by omega) (by omega) (by omega) (by omega)]; omega), decide_eq_false (by omega)]; rfl
    · rw [if_neg (by rw [zI_lit, zI_lt (by omega) (by omega) (by omega) (by omega)]; omega), decide_eq_true (by omega)]; rfl
theorem c_digit {c : Nat} (h : c < 256) : Re_isDigit (zI (c : Int)) = some (bI (dB c)) := by
  unfold Re_isDigit dB
  by_cases z : c < 48
  · rw [if_pos (by rw [zI_lit, zI_lt (by omega) (by omega) (by omega) (by omega)]; omega), decide_eq_false (by omega)]; rfl
  · rw [if_neg (by rw [zI_lit, zI_lt (by omega) (by omega) (by omega) (by omega)]; omega)]
    by_cases y : 57 < c
    · rw [if_pos (by rw [zI_lit, zI_lt (by omega) (by omega) (by omega) (by omega)]; omega), decide_eq_false (by omega)]; rfl
    · rw [if_neg (by rw [zI_lit, zI_lt (by omega) (by omega) (by omega) (by omega)]; omega), decide_eq_true (by omega)]; rfl
section
variable {T : Nat → Nat} {n : Nat}
theorem m_small {μ : Sl} (h6 : μ 34 6 = zI (n : Int)) (hn : n ≤ 700) (hT : TM μ T n) (hT2 : ∀ i, T i < 256) {p : Nat} (hp : p ≤ 700) : Mo_isSmall μ (zI (p : Int)) = some (bI (decide (p < n) && lB (T p))) := by
  unfold Mo_isSmall
  rw [h6]
  by_cases z : p < n
  · have e := c_letter (hT2 p)
    unfold Re_isLetter at e
    rw [if_neg (by rw [zI_le (by omega) (by omega) (by omega) (by omega)]; omega), if_pos (zI_in (by omega) (by omega)), if_pos (zI_in (by omega) (by omega)), zI_ixn (by omega), hT p z, decide_eq_true z, Bool.true_and]
    exact e
  · rw [if_pos (by rw [zI_le (by omega) (by omega) (by omega) (by omega)]; omega), decide_eq_false z, Bool.false_and]; rfl
theorem m_digit {μ : Sl} (h6 : μ 34 6 = zI (n : Int)) (hn : n ≤ 700) (hT : TM μ T n) (hT2 : ∀ i, T i < 256) {p : Nat} (hp : p ≤ 700) : Mo_isDigit μ (zI (p : Int)) = some (bI (decide (p < n) && dB (T p))) := by
  unfold Mo_isDigit
  rw [h6]
  by_cases z : p < n
  · have e := c_digit (hT2 p)
    unfold Re_isDigit at e
    rw [if_neg (by rw [zI_le (by omega) (by omega) (by omega) (by omega)]; omega), if_pos (zI_in (by omega) (by omega)), if_pos (zI_in (by omega) (by omega)), zI_ixn (by omega), hT p z, decide_eq_true z, Bool.true_and]
    exact e
  · rw [if_pos (by rw [zI_le (by omega) (by omega) (by omega) (by omega)]; omega), decide_eq_false z, Bool.false_and]; rfl
theorem c_skip (hn : n ≤ 700) (hT2 : ∀ i, T i < 256) : ∀ (m p f : Nat) (M : Mem), M 0 2 3 = zI (n : Int) → M 0 2 4 = zI (p : Int) → p + m = n → m < f → TC M T n → ∃ M', Re_take_0 f M = Re_take_39 M' ∧ (∀ j a i, ¬ (j = 0 ∧ a = 2 ∧ i = 4) → M' j a i = M j a i) ∧ M' 0 2 4 = zI (sk bB T m p : Int) := by
  intro m
  induction m with
  | zero =>
    intro p f M h3 h4 hp hf hT
    obtain ⟨c, rfl⟩ : ∃ c, f = c + 1 := ⟨f - 1, by omega⟩
    exact ⟨M, by rw [Re_take_0, h3, h4, if_pos (by rw [zI_le (by omega) (by omega) (by omega) (by omega)]; omega)], fun _ _ _ _ => rfl, h4⟩
  | succ m ih =>
    intro p f M h3 h4 hp hf hT
    obtain ⟨c, rfl⟩ : ∃ c, f = c + 1 := ⟨f - 1, by omega⟩
    have st : Re_take_0 (c + 1) M = if bB (T p) = true then Re_take_0 c (wrM M 0 2 4 (zI ((p + 1 : Nat) : Int))) else Re_take_39 M := by
      rw [Re_take_0, h3, h4, if_neg (by rw [zI_le (by omega) (by omega) (by omega) (by omega)]; omega), if_pos (zI_in (by omega) (by omega)), zI_ixn (by omega), hT p (by omega), c_blank (hT2 p), bp_some, bI_if, bnd_ap, zI_s1]
    rw [st, sk_s]
    by_cases z : bB (T p) = true
    · rw [if_pos z, if_pos z]
      obtain ⟨M', q1, q2, q3⟩ := ih (p + 1) c (wrM M 0 2 4 (zI ((p + 1 : Nat) : Int))) (by rw [wrM_ap, if_neg (by omega)]; exact h3) (by rw [wrM_ap, if_pos ⟨rfl, rfl, rfl⟩]) (by omega) (by omega) (fun i hi => by rw [wrM_ap, if_neg (by omega)]; exact hT i hi)
      exact ⟨M', q1, fun j a i g => by rw [q2 j a i g, wrM_ap, if_neg g], q3⟩
    · rw [if_neg z, if_neg z]
      exact ⟨M, rfl, fun _ _ _ _ => rfl, h4⟩
theorem m_skip (hn : n ≤ 700) (hT2 : ∀ i, T i < 256) : ∀ (m p f : Nat) (μ : Sl), μ 34 6 = zI (n : Int) → μ 34 7 = zI (p : Int) → p + m = n → m < f → TM μ T n → ∃ μ', Mo_token_0 f μ = Mo_token_52 μ' ∧ (∀ a i, ¬ (a = 34 ∧ i = 7) → μ' a i = μ a i) ∧ μ' 34 7 = zI (sk bB T m p : Int) := by
  intro m
  induction m with
  | zero =>
    intro p f μ h3 h4 hp hf hT
    obtain ⟨c, rfl⟩ : ∃ c, f = c + 1 := ⟨f - 1, by omega⟩
    exact ⟨μ, by rw [Mo_token_0, h3, h4, if_pos (by rw [zI_le (by omega) (by omega) (by omega) (by omega)]; omega)], fun _ _ _ => rfl, h4⟩
  | succ m ih =>
    intro p f μ h3 h4 hp hf hT
    obtain ⟨c, rfl⟩ : ∃ c, f = c + 1 := ⟨f - 1, by omega⟩
    have hTp := hT2 p
    have st : Mo_token_0 (c + 1) μ = if bB (T p) = true then Mo_token_0 c (wr μ 34 7 (zI ((p + 1 : Nat) : Int))) else Mo_token_52 μ := by
      rw [Mo_token_0, h3, h4, if_neg (by rw [zI_le (by omega) (by omega) (by omega) (by omega)]; omega), if_pos (zI_in (by omega) (by omega)), if_pos (zI_in (by omega) (by omega)), zI_ixn (by omega), hT p (by omega), Mo_token_39, bnd_ap, h4, zI_s1]
      unfold bB
      by_cases z : T p = 10
      · rw [if_pos (by rw [z]; rfl), decide_eq_true (.inl z), if_pos rfl]
      · rw [if_neg (by rw [zI_lit, zI_eq (by omega) (by omega) (by omega) (by omega)]; omega)]
        by_cases y : T p = 32
        · rw [if_pos (by rw [y]; rfl), decide_eq_true (.inr y), if_pos rfl]
        · rw [if_neg (by rw [zI_lit, zI_eq (by omega) (by omega) (by omega) (by omega)]; omega), decide_eq_false (by omega), if_neg (by decide)]
    rw [st, sk_s]
    by_cases z : bB (T p) = true
    · rw [if_pos z, if_pos z]
      obtain ⟨μ', q1, q2, q3⟩ := ih (p + 1) c (wr μ 34 7 (zI ((p + 1 : Nat) : Int))) (by rw [wr_ap, if_neg (by omega)]; exact h3) (by rw [wr_ap, if_pos ⟨rfl, rfl⟩]) (by omega) (by omega) (fun i hi => by rw [wr_ap, if_neg (by omega)]; exact hT i hi)
      exact ⟨μ', q1, fun a i g => by rw [q2 a i g, wr_ap, if_neg g], q3⟩
    · rw [if_neg z, if_neg z]
      exact ⟨μ, rfl, fun _ _ _ => rfl, h4⟩
/-- a number as the class reads it, as the reference reads it -/
def nuC (T : Nat → Nat) : Nat → Nat → Nat → Nat
  | 0, _, x => x
  | m + 1, p, x => if dB (T p) = true then nuC T m (p + 1) (if 1000000 < 10 * x + T p - 48 then 1000000 else 10 * x + T p - 48) else x
def nuR (T : Nat → Nat) : Nat → Nat → Nat → Nat
  | 0, _, x => x
  | m + 1, p, x => if dB (T p) = true then nuR T m (p + 1) (if x ≤ 99999 then 10 * x + T p - 48 else x) else x
theorem nuC_s (T : Nat → Nat) (m p x : Nat) : nuC T (m + 1) p x = if dB (T p) = true then nuC T m (p + 1) (if 1000000 < 10 * x + T p - 48 then 1000000 else 10 * x + T p - 48) else x := rfl
theorem nuR_s (T : Nat → Nat) (m p x : Nat) : nuR T (m + 1) p x = if dB (T p) = true then nuR T m (p + 1) (if x ≤ 99999 then 10 * x + T p - 48 else x) else x := rfl
def NR (x y : Nat) : Prop := (x = y ∧ y ≤ 99999) ∨ (99999 < x ∧ x ≤ 1000000 ∧ 99999 < y ∧ y ≤ 999999)
theorem nu_rel : ∀ (m p x y : Nat), NR x y → NR (nuC T m p x) (nuR T m p y) := by
  intro m
  induction m with
  | zero => intro p x y h; exact h
  | succ m ih =>
    intro p x y h
    show NR (if dB (T p) = true then nuC T m (p + 1) (if 1000000 < 10 * x + T p - 48 then 1000000 else 10 * x + T p - 48) else x) (if dB (T p) = true then nuR T m (p + 1) (if y ≤ 99999 then 10 * y + T p - 48 else y) else y)
    by_cases z : dB (T p) = true
    · rw [if_pos z, if_pos z]
      refine ih (p + 1) _ _ ?_
      have hd := of_decide_eq_true z
      unfold NR at h ⊢
      rcases h with ⟨h1, h2⟩ | ⟨h1, h2, h3, h4⟩
      · rw [if_neg (by omega), if_pos h2]; omega
      · rw [if_neg (show ¬ y ≤ 99999 by omega)]
        by_cases q : 1000000 < 10 * x + T p - 48
        · rw [if_pos q]; omega
        · rw [if_neg q]; omega
    · rw [if_neg z, if_neg z]; exact h
theorem c_digits (hn : n ≤ 700) (hT2 : ∀ i, T i < 256) : ∀ (m p x f : Nat) (M : Mem), M 0 2 3 = zI (n : Int) → M 0 2 4 = zI (p : Int) → p + m = n → m < f → x ≤ 1000000 → TC M T n → ∃ M', Re_takeDigits_2 f (zI (x : Int)) M = some ((), M') ∧ (∀ j a i, ¬ (j = 0 ∧ a = 2 ∧ (i = 4 ∨ i = 5 ∨ i = 7)) → M' j a i = M j a i) ∧ M' 0 2 4 = zI (sk dB T m p : Int) ∧ M' 0 2 5 = zI 3 ∧ M' 0 2 7 = zI (nuC T m p x : Int) := by
  have fin : ∀ (x : Nat) (M : Mem), ∃ M', Re_takeDigits_64 (zI (x : Int)) M = some ((), M') ∧ (∀ j a i, ¬ (j = 0 ∧ a = 2 ∧ (i = 4 ∨ i = 5 ∨ i = 7)) → M' j a i = M j a i) ∧ M' 0 2 4 = M 0 2 4 ∧ M' 0 2 5 = zI 3 ∧ M' 0 2 7 = zI (x : Int) := fun x M => by
    refine ⟨wrM (wrM M 0 2 5 (3 : Int32)) 0 2 7 (zI (x : Int)), by rw [Re_takeDigits_64, bnd_ap, bnd_ap], fun j a i g => ?_, ?_, ?_, ?_⟩
    · rw [wrM_ap, if_neg (by omega), wrM_ap, if_neg (by omega)]
    · rw [wrM_ap, if_neg (by omega), wrM_ap, if_neg (by omega)]
    · rw [wrM_ap, if_neg (by omega), wrM_ap, if_pos ⟨rfl, rfl, rfl⟩]; rfl
    · rw [wrM_ap, if_pos ⟨rfl, rfl, rfl⟩]
  intro m
  induction m with
  | zero =>
    intro p x f M h3 h4 hp hf hx hT
    obtain ⟨c, rfl⟩ : ∃ c, f = c + 1 := ⟨f - 1, by omega⟩
    obtain ⟨M', q1, q2, q3, q4, q5⟩ := fin x M
    exact ⟨M', by rw [Re_takeDigits_2, h3, h4, if_pos (by rw [zI_le (by omega) (by omega) (by omega) (by omega)]; omega)]; exact q1, q2, q3.trans h4, q4, q5⟩
  | succ m ih =>
    intro p x f M h3 h4 hp hf hx hT
    obtain ⟨c, rfl⟩ : ∃ c, f = c + 1 := ⟨f - 1, by omega⟩
    have hTp := hT2 p
    rw [sk_s, nuC_s]
    by_cases z : dB (T p) = true
    · have hd := of_decide_eq_true z
      have ev : (if (1000000 : Int32) < zI (x : Int) * (10 : Int32) + zI (T p : Int) - (48 : Int32) then (1000000 : Int32) else zI (x : Int) * (10 : Int32) + zI (T p : Int) - (48 : Int32)) = zI ((if 1000000 < 10 * x + T p - 48 then 1000000 else 10 * x + T p - 48 : Nat) : Int) := by
        have e0 : zI (x : Int) * (10 : Int32) + zI (T p : Int) - (48 : Int32) = zI ((10 * x + T p - 48 : Nat) : Int) := by
          rw [show (10 : Int32) = zI 10 from rfl, show (48 : Int32) = zI 48 from rfl, zI_mul, zI_add, zI_sub]; congr 1; omega
        rw [e0]
        by_cases q : 1000000 < 10 * x + T p - 48
        · rw [if_pos (by rw [zI_lit, zI_lt (by omega) (by omega) (by omega) (by omega)]; omega), if_pos q]; rfl
        · rw [if_neg (by rw [zI_lit, zI_lt (by omega) (by omega) (by omega) (by omega)]; omega), if_neg q]
      obtain ⟨M', q1, q2, q3⟩ := ih (p + 1) (if 1000000 < 10 * x + T p - 48 then 1000000 else 10 * x + T p - 48) c (wrM M 0 2 4 (zI ((p + 1 : Nat) : Int))) (by rw [wrM_ap, if_neg (by omega)]; exact h3) (by rw [wrM_ap, if_pos ⟨rfl, rfl, rfl⟩]) (by omega) (by omega) (by split <;> omega) (fun i hi => by rw [wrM_ap, if_neg (by omega)]; exact hT i hi)
      rw [if_pos z, if_pos z]
      refine ⟨M', ?_, fun j a i g => by rw [q2 j a i g, wrM_ap, if_neg (by omega)], q3⟩
      rw [Re_takeDigits_2, h3, h4, if_neg (by rw [zI_le (by omega) (by omega) (by omega) (by omega)]; omega), if_pos (zI_in (by omega) (by omega)), if_pos (zI_in (by omega) (by omega)), zI_ixn (by omega), hT p (by omega), c_digit hTp, bp_some, bI_if, if_pos z, ev, bnd_ap, bnd_ap, zI_s1]
      exact q1
    · rw [if_neg z, if_neg z]
      obtain ⟨M', q1, q2, q3, q4, q5⟩ := fin x M
      refine ⟨M', ?_, q2, q3.trans h4, q4, q5⟩
      rw [Re_takeDigits_2, h3, h4, if_neg (by rw [zI_le (by omega) (by omega) (by omega) (by omega)]; omega), if_pos (zI_in (by omega) (by omega)), zI_ixn (by omega), hT p (by omega), c_digit hTp, bp_some, bI_if, if_neg z]
      exact q1
theorem m_digits (hn : n ≤ 700) (hT2 : ∀ i, T i < 256) : ∀ (m p x f : Nat) (μ : Sl), μ 34 6 = zI (n : Int) → μ 34 7 = zI (p : Int) → μ 34 9 = zI (x : Int) → p + m = n → m < f → x ≤ 999999 → TM μ T n → ∃ μ', Mo_token_212 f μ = some ((), μ') ∧ (∀ a i, ¬ (a = 34 ∧ (i = 7 ∨ i = 9)) → μ' a i = μ a i) ∧ μ' 34 7 = zI (sk dB T m p : Int) ∧ μ' 34 9 = zI (nuR T m p x : Int) := by
  intro m
  induction m with
  | zero =>
    intro p x f μ h3 h4 h9 hp hf hx hT
    obtain ⟨c, rfl⟩ : ∃ c, f = c + 1 := ⟨f - 1, by omega⟩
    refine ⟨μ, ?_, fun _ _ _ => rfl, h4, h9⟩
    rw [Mo_token_212, h4, m_digit h3 hn hT hT2 (by omega), bp_some, bI_if, decide_eq_false (show ¬ p < n by omega), Bool.false_and, if_neg (by decide)]
  | succ m ih =>
    intro p x f μ h3 h4 h9 hp hf hx hT
    obtain ⟨c, rfl⟩ : ∃ c, f = c + 1 := ⟨f - 1, by omega⟩
    have hTp := hT2 p
    rw [sk_s, nuR_s]
    have st : Mo_token_212 (c + 1) μ = if dB (T p) = true then Mo_token_212 c (wr (wr μ 34 9 (zI ((if x ≤ 99999 then 10 * x + T p - 48 else x : Nat) : Int))) 34 7 (zI ((p + 1 : Nat) : Int))) else some ((), μ) := by
      have e7 : ∀ v : Int32, wr μ 34 9 v 34 7 + (1 : Int32) = zI ((p + 1 : Nat) : Int) := fun v => by rw [wr_ap, if_neg (by omega), h4, zI_s1]
      rw [Mo_token_212, h4, m_digit h3 hn hT hT2 (by omega), bp_some, bI_if, decide_eq_true (show p < n by omega), Bool.true_and, if_pos (zI_in (by omega) (by omega)), zI_ixn (by omega), hT p (by omega), h9, Mo_token_260, Mo_token_260, bnd_ap, bnd_ap, bnd_ap, bnd_ap, e7, e7]
      by_cases z : dB (T p) = true
      · have hd := of_decide_eq_true z
        rw [if_pos z, if_pos z]
        by_cases q : x ≤ 99999
        · rw [if_pos (by rw [zI_lit, zI_le (by omega) (by omega) (by omega) (by omega)]; omega), if_pos q, show (10 : Int32) = zI 10 from rfl, show (48 : Int32) = zI 48 from rfl, zI_mul, zI_add, zI_sub, show 10 * (x : Int) + (T p : Int) - 48 = ((10 * x + T p - 48 : Nat) : Int) by omega]
        · rw [if_neg (by rw [zI_lit, zI_le (by omega) (by omega) (by omega) (by omega)]; omega), if_neg q]
      · rw [if_neg z, if_neg z]
    rw [st]
    by_cases z : dB (T p) = true
    · have hd := of_decide_eq_true z
      rw [if_pos z, if_pos z, if_pos z]
      obtain ⟨μ', q1, q2, q3⟩ := ih (p + 1) (if x ≤ 99999 then 10 * x + T p - 48 else x) c (wr (wr μ 34 9 (zI ((if x ≤ 99999 then 10 * x + T p - 48 else x : Nat) : Int))) 34 7 (zI ((p + 1 : Nat) : Int))) (by rw [wr_ap, if_neg (by omega), wr_ap, if_neg (by omega)]; exact h3) (by rw [wr_ap, if_pos ⟨rfl, rfl⟩]) (by rw [wr_ap, if_neg (by omega), wr_ap, if_pos ⟨rfl, rfl⟩]) (by omega) (by omega) (by split <;> omega) (fun i hi => by rw [wr_ap, if_neg (by omega), wr_ap, if_neg (by omega)]; exact hT i hi)
      exact ⟨μ', q1, fun a i g => by rw [q2 a i g, wr_ap, if_neg (by omega), wr_ap, if_neg (by omega)], q3⟩
    · rw [if_neg z, if_neg z, if_neg z]
      exact ⟨μ, rfl, fun _ _ _ => rfl, h4, h9⟩
end
