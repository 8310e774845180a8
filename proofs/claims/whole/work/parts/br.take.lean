/-! ===== a token from place p on: where it starts, where it ends, of which kind, its value ===== -/
def lxQ (T : Nat → Nat) (n p : Nat) : Nat := sk bB T (n - p) p
def lxE (T : Nat → Nat) (n q : Nat) : Nat := if n ≤ q then q else if lB (T q) = true then sk lB T (n - q) q else if dB (T q) = true then sk dB T (n - q) q else q + 1
def lxN (T : Nat → Nat) (n p : Nat) : Nat := lxE T n (lxQ T n p)
/-- 0 the end, 1 a word of the language, 2 a name, 3 a number, 4 a semicolon, 5 wrong -/
def lxJ (T : Nat → Nat) (n q : Nat) : Nat := if n ≤ q then 0 else if lB (T q) = true then (if (wIx T q (lxE T n q - q)).isSome = true then 1 else if lxE T n q - q ≤ 6 then 2 else 5) else if dB (T q) = true then 3 else if T q = 59 then 4 else 5
def lxK (T : Nat → Nat) (n p : Nat) : Nat := lxJ T n (lxQ T n p)
def lxV (T : Nat → Nat) (n q x : Nat) : Nat := match lxJ T n q with
  | 1 => (cv (wIx T q (lxE T n q - q))).toNat
  | 2 => p6 T q (lxE T n q - q)
  | _ => x
/-- the value, as the class and as the reference have it -/
def lxC (T : Nat → Nat) (n p : Nat) : Nat := lxV T n (lxQ T n p) (nuC T (n - lxQ T n p) (lxQ T n p) 0)
def lxR (T : Nat → Nat) (n p : Nat) : Nat := lxV T n (lxQ T n p) (nuR T (n - lxQ T n p) (lxQ T n p) 0)
def kcv : Nat → Nat
  | 1 => 2
  | 2 => 1
  | k => k
section
variable {T : Nat → Nat} {n : Nat}
theorem lx_rg {p : Nat} (hp : p ≤ n) : p ≤ lxQ T n p ∧ lxQ T n p ≤ n ∧ lxQ T n p ≤ lxN T n p ∧ lxN T n p ≤ n ∧ (lxK T n p ≠ 0 → lxQ T n p < lxN T n p) ∧ lxK T n p ≤ 5 := by
  have h1 := sk_rg bB T (n - p) p
  have hq : p ≤ lxQ T n p ∧ lxQ T n p ≤ n := by unfold lxQ; omega
  have e1 : lxN T n p = lxE T n (lxQ T n p) := rfl
  have e2 : lxK T n p = lxJ T n (lxQ T n p) := rfl
  generalize lxQ T n p = q at *
  rw [e1, e2]
  have h2 := sk_rg lB T (n - q) q
  have h3 := sk_rg dB T (n - q) q
  unfold lxJ lxE
  by_cases z : n ≤ q
  · rw [if_pos z, if_pos z]; omega
  · obtain ⟨m, hm⟩ : ∃ m, n - q = m + 1 := ⟨n - q - 1, by omega⟩
    have h4 := sk_rg lB T m (q + 1)
    have h5 := sk_rg dB T m (q + 1)
    rw [if_neg z, if_neg z]
    by_cases y : lB (T q) = true
    · rw [if_pos y, if_pos y]
      have e3 : sk lB T (n - q) q = sk lB T m (q + 1) := by rw [hm, sk_s, if_pos y]
      refine ⟨by omega, by omega, by omega, by omega, fun _ => by omega, ?_⟩
      split
      · omega
      · split <;> omega
    · rw [if_neg y, if_neg y]
      by_cases x : dB (T q) = true
      · rw [if_pos x, if_pos x]
        have e3 : sk dB T (n - q) q = sk dB T m (q + 1) := by rw [hm, sk_s, if_pos x]
        exact ⟨by omega, by omega, by omega, by omega, fun _ => by omega, by omega⟩
      · rw [if_neg x, if_neg x]
        refine ⟨by omega, by omega, by omega, by omega, fun _ => by omega, ?_⟩
        split <;> omega
theorem c_take (hn : n ≤ 700) (hT2 : ∀ i, T i < 256) {M : Mem} {p : Nat} (h3 : M 0 2 3 = zI (n : Int)) (h4 : M 0 2 4 = zI (p : Int)) (hp : p ≤ n) (hT : TC M T n) (ht : tbl (M 0 48) wdT) : ∃ M', Re_take M = some ((), M') ∧ (∀ j a i, ¬ (j = 0 ∧ a = 2 ∧ 4 ≤ i ∧ i ≤ 7) → M' j a i = M j a i) ∧ M' 0 2 4 = zI (lxN T n p : Int) ∧ M' 0 2 5 = zI (kcv (lxK T n p) : Int) ∧ M' 0 2 6 = zI (lxQ T n p : Int) ∧ ((lxK T n p = 1 ∨ lxK T n p = 2 ∨ lxK T n p = 3) → M' 0 2 7 = zI (lxC T n p : Int)) := by
  obtain ⟨M1, s1, s2, s3⟩ := c_skip hn hT2 (n - p) p 1000000 M h3 h4 (by omega) (by omega) hT
  have rg := lx_rg (T := T) hp
  have e1 : lxN T n p = lxE T n (lxQ T n p) := rfl
  have e2 : lxK T n p = lxJ T n (lxQ T n p) := rfl
  have e3 : lxC T n p = lxV T n (lxQ T n p) (nuC T (n - lxQ T n p) (lxQ T n p) 0) := rfl
  have s3 : M1 0 2 4 = zI (lxQ T n p : Int) := s3
  have st : Re_take M = Re_take_39 M1 := s1
  rw [e1, e2, e3, st] at *
  generalize lxQ T n p = q at *
  have hq : q ≤ n := rg.2.1
  have m4 : wrM M1 0 2 6 (zI (q : Int)) 0 2 4 = zI (q : Int) := by rw [wrM_ap, if_neg (by omega)]; exact s3
  have m3 : wrM M1 0 2 6 (zI (q : Int)) 0 2 3 = zI (n : Int) := by rw [wrM_ap, if_neg (by omega), s2 _ _ _ (by omega)]; exact h3
  have mo : ∀ j a i, ¬ (j = 0 ∧ a = 2 ∧ (i = 4 ∨ i = 6)) → wrM M1 0 2 6 (zI (q : Int)) j a i = M j a i := fun j a i g => by rw [wrM_ap, if_neg (by omega), s2 _ _ _ (by omega)]
  have m6 : wrM M1 0 2 6 (zI (q : Int)) 0 2 6 = zI (q : Int) := by rw [wrM_ap, if_pos ⟨rfl, rfl, rfl⟩]
  have mT : TC (wrM M1 0 2 6 (zI (q : Int))) T n := fun i hi => by rw [mo _ _ _ (by omega)]; exact hT i hi
  have mt : tbl (wrM M1 0 2 6 (zI (q : Int)) 0 48) wdT := fun i v h => by rw [mo _ _ _ (by omega)]; exact ht i v h
  rw [Re_take_39, s3, bnd_ap]
  generalize wrM M1 0 2 6 (zI (q : Int)) = M2 at *
  by_cases z : n ≤ q
  · have ej : lxJ T n q = 0 := by unfold lxJ; rw [if_pos z]
    have ee : lxE T n q = q := by unfold lxE; rw [if_pos z]
    refine ⟨wrM M2 0 2 5 (0 : Int32), ?_, fun j a i g => by rw [wrM_ap, if_neg (by omega), mo _ _ _ (by omega)], ?_, ?_, ?_, fun h => by omega⟩
    · rw [m4, m3, if_neg (by rw [zI_lt (by omega) (by omega) (by omega) (by omega)]; omega), bnd_ap]
    · rw [wrM_ap, if_neg (by omega), ee]; exact m4
    · rw [wrM_ap, if_pos ⟨rfl, rfl, rfl⟩, ej]; rfl
    · rw [wrM_ap, if_neg (by omega)]; exact m6
  have hqn : q < n := by omega
  have in7 : inb (zI (q : Int)) 700 := zI_in (by omega) (by omega)
  have ix7 : ix (zI (q : Int)) = q := zI_ixn (by omega)
  have hTq := hT2 q
  rw [m4, m3, if_pos (by rw [zI_lt (by omega) (by omega) (by omega) (by omega)]; omega), if_pos in7, ix7, mT q hqn, c_letter hTq, bp_some, bI_if]
  by_cases y : lB (T q) = true
  · rw [if_pos y]
    obtain ⟨M3, c, w1, w2, w3, w4, w5⟩ := c_word (T := T) (q := q) hn hT2 (n - q) 0 1000000 M2 m3 m4 (by omega) (by omega) (fun j hj => by omega) mT
    have w1' : Re_takeWord M2 = Re_takeWord_76 (zI (pk T q c c : Int)) (zI (c : Int)) M3 := w1
    have ee : lxE T n q = q + c := by
      unfold lxE
      rw [if_neg z, if_pos y]
      exact w3.symm
    have rr := sk_rg lB T (n - q) (q + 0)
    obtain ⟨M4, v1, v2, v3, v4, v5⟩ := c_word76 w5 (show c < 1000 by omega) (M := M3) (fun i v h => by rw [w2 _ _ _ (by omega)]; exact mt i v h)
    have ej : lxJ T n q = if (wIx T q c).isSome = true then 1 else if c ≤ 6 then 2 else 5 := by
      unfold lxJ
      rw [if_neg z, if_pos y, ee, show q + c - q = c by omega]
    refine ⟨M4, by rw [w1', v1, bd_some], fun j a i g => by rw [v2 _ _ _ (by omega), w2 _ _ _ (by omega), mo _ _ _ (by omega)], ?_, ?_, ?_, ?_⟩
    · rw [v2 _ _ _ (by omega), ee]; exact w4
    · rw [ej]
      by_cases x : c ≤ 6
      · cases hw : wIx T q c with
        | none => rw [if_neg (by decide), if_pos x]; exact (v4 x hw).1
        | some k => rw [if_pos (show (some k).isSome = true from rfl)]; exact (v5 k x hw).1
      · rw [wIx_7 (by omega), if_neg (by decide), if_neg x]; exact v3 (by omega)
    · rw [v2 _ _ _ (by omega), w2 _ _ _ (by omega)]; exact m6
    · intro _
      unfold lxV
      rw [ej, ee, show q + c - q = c by omega]
      by_cases x : c ≤ 6
      · cases hw : wIx T q c with
        | none => rw [if_neg (by decide), if_pos x]; exact (v4 x hw).2
        | some k => rw [if_pos (show (some k).isSome = true from rfl)]; exact (v5 k x hw).2
      · rename_i hk
        rw [ej, wIx_7 (by omega), if_neg (by decide), if_neg x] at hk
        omega
  · rw [if_neg y, if_pos in7, c_digit hTq, bp_some, bI_if]
    by_cases x : dB (T q) = true
    · rw [if_pos x]
      obtain ⟨M3, w1, w2, w3, w4, w5⟩ := c_digits (T := T) hn hT2 (n - q) q 0 1000000 M2 m3 m4 (by omega) (by omega) (by omega) mT
      have w1' : Re_takeDigits M2 = some ((), M3) := w1
      have ee : lxE T n q = sk dB T (n - q) q := by unfold lxE; rw [if_neg z, if_neg y, if_pos x]
      have ej : lxJ T n q = 3 := by unfold lxJ; rw [if_neg z, if_neg y, if_pos x]
      refine ⟨M3, by rw [w1', bd_some], fun j a i g => by rw [w2 _ _ _ (by omega), mo _ _ _ (by omega)], by rw [ee]; exact w3, by rw [ej]; exact w4, by rw [w2 _ _ _ (by omega)]; exact m6, fun _ => ?_⟩
      unfold lxV
      rw [ej]; exact w5
    · rw [if_neg x, if_pos in7]
      have ee : lxE T n q = q + 1 := by unfold lxE; rw [if_neg z, if_neg y, if_neg x]
      have ej : lxJ T n q = if T q = 59 then 4 else 5 := by unfold lxJ; rw [if_neg z, if_neg y, if_neg x]
      have fin : ∀ k : Nat, k = 4 ∨ k = 5 → lxJ T n q = k → ∃ M', Re_take_130 (zI (k : Int)) M2 = some ((), M') ∧ (∀ j a i, ¬ (j = 0 ∧ a = 2 ∧ 4 ≤ i ∧ i ≤ 7) → M' j a i = M j a i) ∧ M' 0 2 4 = zI (lxE T n q : Int) ∧ M' 0 2 5 = zI (kcv (lxJ T n q) : Int) ∧ M' 0 2 6 = zI (q : Int) ∧ ((lxJ T n q = 1 ∨ lxJ T n q = 2 ∨ lxJ T n q = 3) → M' 0 2 7 = zI (lxV T n q (nuC T (n - q) q 0) : Int)) := fun k hk e => by
        refine ⟨wrM (wrM M2 0 2 5 (zI (k : Int))) 0 2 4 (zI ((q + 1 : Nat) : Int)), ?_, fun j a i g => by rw [wrM_ap, if_neg (by omega), wrM_ap, if_neg (by omega), mo _ _ _ (by omega)], ?_, ?_, ?_, fun h => by omega⟩
        · have t : wrM M2 0 2 5 (zI (k : Int)) 0 2 4 + (1 : Int32) = zI ((q + 1 : Nat) : Int) := by rw [wrM_ap, if_neg (by omega), m4, zI_s1]
          rw [Re_take_130, bnd_ap, bnd_ap, t]
        · rw [wrM_ap, if_pos ⟨rfl, rfl, rfl⟩, ee]
        · rw [wrM_ap, if_neg (by omega), wrM_ap, if_pos ⟨rfl, rfl, rfl⟩, e]
          rcases hk with rfl | rfl <;> rfl
        · rw [wrM_ap, if_neg (by omega), wrM_ap, if_neg (by omega)]; exact m6
      by_cases w : T q = 59
      · rw [if_pos (by rw [w]; rfl)]
        exact fin 4 (.inl rfl) (by rw [ej, if_pos w])
      · rw [if_neg (by rw [zI_lit, zI_eq (by omega) (by omega) (by omega) (by omega)]; omega)]
        exact fin 5 (.inr rfl) (by rw [ej, if_neg w])
theorem m_scan (hn : n ≤ 700) (hT2 : ∀ i, T i < 256) {q : Nat} : ∀ (m c f : Nat) (μ : Sl), μ 34 6 = zI (n : Int) → μ 34 7 = zI ((q + c : Nat) : Int) → q + c + m = n → m < f → LT T q c → TM μ T n → ∃ μ' c', Mo_token_90 f μ = (bp (Mo_wordAt μ' (μ' 34 10) (zI ((q + c' : Nat) : Int))) fun r10 => bnd (wr μ' 34 9 r10) fun d11 => if (d11 34 9) < 0 then (if ((d11 34 7) - (d11 34 10)) ≤ (6 : Int32) then (Mo_token_161 (2 : Int32) d11) else (Mo_token_161 (5 : Int32) d11)) else (Mo_token_161 (1 : Int32) d11)) ∧ (∀ a i, ¬ (a = 34 ∧ i = 7) → μ' a i = μ a i) ∧ q + c' = sk lB T m (q + c) ∧ μ' 34 7 = zI ((q + c' : Nat) : Int) ∧ LT T q c' := by
  intro m
  induction m with
  | zero =>
    intro c f μ h6 h7 hp hf hL hT
    obtain ⟨g, rfl⟩ : ∃ g, f = g + 1 := ⟨f - 1, by omega⟩
    refine ⟨μ, c, ?_, fun _ _ _ => rfl, rfl, h7, hL⟩
    rw [Mo_token_90, h7, m_small h6 hn hT hT2 (by omega), bp_some, bI_if, decide_eq_false (show ¬ q + c < n by omega), Bool.false_and, if_neg (by decide)]
  | succ m ih =>
    intro c f μ h6 h7 hp hf hL hT
    obtain ⟨g, rfl⟩ : ∃ g, f = g + 1 := ⟨f - 1, by omega⟩
    rw [sk_s]
    by_cases z : lB (T (q + c)) = true
    · have hL1 : LT T q (c + 1) := fun j hj => by
        by_cases e : j = c
        · rw [e]; exact z
        · exact hL j (by omega)
      obtain ⟨μ', c', q1, q2, q3, q4, q5⟩ := ih (c + 1) g (wr μ 34 7 (zI ((q + (c + 1) : Nat) : Int))) (by rw [wr_ap, if_neg (by omega)]; exact h6) (by rw [wr_ap, if_pos ⟨rfl, rfl⟩]) (by omega) (by omega) hL1 (fun i hi => by rw [wr_ap, if_neg (by omega)]; exact hT i hi)
      refine ⟨μ', c', ?_, fun a i g => by rw [q2 a i g, wr_ap, if_neg g], by rw [if_pos z]; exact q3, q4, q5⟩
      rw [← q1, Mo_token_90, h7, m_small h6 hn hT hT2 (by omega), bp_some, bI_if, decide_eq_true (show q + c < n by omega), Bool.true_and, if_pos z, bnd_ap, zI_s1]; rfl
    · refine ⟨μ, c, ?_, fun _ _ _ => rfl, by rw [if_neg z], h7, hL⟩
      rw [Mo_token_90, h7, m_small h6 hn hT hT2 (by omega), bp_some, bI_if, decide_eq_true (show q + c < n by omega), Bool.true_and, if_neg z]
theorem m_wordAt {μ : Sl} {q c : Nat} (hn : n ≤ 700) (hT : TM μ T n) (hT2 : ∀ i, T i < 256) (hq : q + c ≤ n) (ht : tbl (μ 36) wrT) : Mo_wordAt μ (zI (q : Int)) (zI ((q + c : Nat) : Int)) = some (zI (cv (wIx T q c))) := by
  have t := m_words (T := T) (q := q) (c := c) hn hT hT2 hq ht 12 0 FU (by omega) (FU_gt (by omega))
  rw [show zI (off 0 : Int) = (0 : Int32) from rfl] at t
  rw [Mo_wordAt, bnd_ap, bnd_ap]
  exact t
theorem m_packAt {μ : Sl} {q c : Nat} (hn : n ≤ 700) (hT : TM μ T n) (hL : LT T q c) (hc : q + c ≤ n) : Mo_packed μ (zI (q : Int)) (zI ((q + c : Nat) : Int)) = some (zI (p6 T q c : Int)) := by
  have t := m_pack (μ := μ) hn hT hL hc 6 0 FU (by omega) (FU_gt (by omega))
  rw [Mo_packed, bnd_ap, bnd_ap]
  exact t
theorem m_token (hn : n ≤ 700) (hT2 : ∀ i, T i < 256) {μ : Sl} {p : Nat} (h3 : μ 34 6 = zI (n : Int)) (h4 : μ 34 7 = zI (p : Int)) (hp : p ≤ n) (hT : TM μ T n) (ht : tbl (μ 36) wrT) : ∃ μ', Mo_token μ = some ((), μ') ∧ (∀ a i, ¬ (a = 34 ∧ 7 ≤ i ∧ i ≤ 10) → μ' a i = μ a i) ∧ μ' 34 7 = zI (lxN T n p : Int) ∧ μ' 34 8 = zI (lxK T n p : Int) ∧ μ' 34 10 = zI (lxQ T n p : Int) ∧ ((lxK T n p = 1 ∨ lxK T n p = 2 ∨ lxK T n p = 3) → μ' 34 9 = zI (lxR T n p : Int)) := by
  obtain ⟨μ1, s1, s2, s3⟩ := m_skip hn hT2 (n - p) p FU μ h3 h4 (by omega) (FU_gt (by omega)) hT
  have rg := lx_rg (T := T) hp
  have e1 : lxN T n p = lxE T n (lxQ T n p) := rfl
  have e2 : lxK T n p = lxJ T n (lxQ T n p) := rfl
  have e3 : lxR T n p = lxV T n (lxQ T n p) (nuR T (n - lxQ T n p) (lxQ T n p) 0) := rfl
  have s3 : μ1 34 7 = zI (lxQ T n p : Int) := s3
  have st : Mo_token μ = Mo_token_52 μ1 := s1
  rw [e1, e2, e3, st] at *
  generalize lxQ T n p = q at *
  have hq : q ≤ n := rg.2.1
  have m4 : wr μ1 34 10 (zI (q : Int)) 34 7 = zI (q : Int) := by rw [wr_ap, if_neg (by omega)]; exact s3
  have m3 : wr μ1 34 10 (zI (q : Int)) 34 6 = zI (n : Int) := by rw [wr_ap, if_neg (by omega), s2 _ _ (by omega)]; exact h3
  have mo : ∀ a i, ¬ (a = 34 ∧ (i = 7 ∨ i = 10)) → wr μ1 34 10 (zI (q : Int)) a i = μ a i := fun a i g => by rw [wr_ap, if_neg (by omega), s2 _ _ (by omega)]
  have m6 : wr μ1 34 10 (zI (q : Int)) 34 10 = zI (q : Int) := by rw [wr_ap, if_pos ⟨rfl, rfl⟩]
  have mT : TM (wr μ1 34 10 (zI (q : Int))) T n := fun i hi => by rw [mo _ _ (by omega)]; exact hT i hi
  have mt : tbl (wr μ1 34 10 (zI (q : Int)) 36) wrT := fun i v h => by rw [mo _ _ (by omega)]; exact ht i v h
  rw [Mo_token_52, s3, bnd_ap]
  generalize wr μ1 34 10 (zI (q : Int)) = μ2 at *
  by_cases z : n ≤ q
  · have ej : lxJ T n q = 0 := by unfold lxJ; rw [if_pos z]
    have ee : lxE T n q = q := by unfold lxE; rw [if_pos z]
    have hqe : q = n := by omega
    refine ⟨wr μ2 34 8 (0 : Int32), ?_, fun a i g => by rw [wr_ap, if_neg (by omega), mo _ _ (by omega)], ?_, ?_, ?_, fun h => by omega⟩
    · rw [m4, m3, if_pos (by rw [hqe]), bnd_ap]
    · rw [wr_ap, if_neg (by omega), ee]; exact m4
    · rw [wr_ap, if_pos ⟨rfl, rfl⟩, ej]; rfl
    · rw [wr_ap, if_neg (by omega)]; exact m6
  have hqn : q < n := by omega
  have in7 : inb (zI (q : Int)) 700 := zI_in (by omega) (by omega)
  have ix7 : ix (zI (q : Int)) = q := zI_ixn (by omega)
  have hTq := hT2 q
  rw [m4, m3, if_neg (by rw [zI_eq (by omega) (by omega) (by omega) (by omega)]; omega), m_small m3 hn mT hT2 (by omega), bp_some, bI_if, decide_eq_true hqn, Bool.true_and]
  by_cases y : lB (T q) = true
  · rw [if_pos y]
    obtain ⟨μ3, c, w1, w2, w3, w4, w5⟩ := m_scan (T := T) (q := q) hn hT2 (n - q) 0 FU μ2 m3 m4 (by omega) (FU_gt (by omega)) (fun j hj => by omega) mT
    have rr := sk_rg lB T (n - q) (q + 0)
    have t10 : μ3 34 10 = zI (q : Int) := by rw [w2 _ _ (by omega)]; exact m6
    have tT : TM μ3 T n := fun i hi => by rw [w2 _ _ (by omega)]; exact mT i hi
    have tt : tbl (μ3 36) wrT := fun i v h => by rw [w2 _ _ (by omega)]; exact mt i v h
    have ee : lxE T n q = q + c := by
      unfold lxE
      rw [if_neg z, if_pos y]
      exact w3.symm
    have ej : lxJ T n q = if (wIx T q c).isSome = true then 1 else if c ≤ 6 then 2 else 5 := by
      unfold lxJ
      rw [if_neg z, if_pos y, ee, show q + c - q = c by omega]
    rw [w1, t10, m_wordAt (T := T) hn tT hT2 (by omega) tt, bp_some, bnd_ap]
    have a9 : wr μ3 34 9 (zI (cv (wIx T q c))) 34 9 = zI (cv (wIx T q c)) := by rw [wr_ap, if_pos ⟨rfl, rfl⟩]
    have a7 : wr μ3 34 9 (zI (cv (wIx T q c))) 34 7 = zI ((q + c : Nat) : Int) := by rw [wr_ap, if_neg (by omega)]; exact w4
    have a10 : wr μ3 34 9 (zI (cv (wIx T q c))) 34 10 = zI (q : Int) := by rw [wr_ap, if_neg (by omega)]; exact t10
    have ao : ∀ a i, ¬ (a = 34 ∧ 7 ≤ i ∧ i ≤ 10) → wr μ3 34 9 (zI (cv (wIx T q c))) a i = μ a i := fun a i g => by rw [wr_ap, if_neg (by omega), w2 _ _ (by omega), mo _ _ (by omega)]
    have aT : TM (wr μ3 34 9 (zI (cv (wIx T q c)))) T n := fun i hi => by rw [wr_ap, if_neg (by omega)]; exact tT i hi
    have esub : zI ((q + c : Nat) : Int) - zI (q : Int) = zI (c : Int) := by rw [zI_sub]; congr 1; omega
    rw [a9, a7, a10, esub]
    generalize wr μ3 34 9 (zI (cv (wIx T q c))) = μ4 at *
    cases hwi : wIx T q c with
    | some k =>
      have hk := fx_lt _ _ _ hwi
      rw [hwi] at a9
      have ej1 : lxJ T n q = 1 := by rw [ej, hwi, if_pos (show (some k).isSome = true from rfl)]
      refine ⟨wr μ4 34 8 (1 : Int32), ?_, fun a i g => by rw [wr_ap, if_neg (by omega), ao a i g], ?_, ?_, ?_, fun _ => ?_⟩
      · rw [show cv (some k) = (k : Int) from rfl, if_neg (zI_n0 (by omega)), Mo_token_161, bnd_ap, if_neg (by rw [wr_ap, if_pos ⟨rfl, rfl⟩]; decide)]
      · rw [wr_ap, if_neg (by omega), ee]; exact a7
      · rw [wr_ap, if_pos ⟨rfl, rfl⟩, ej1]; rfl
      · rw [wr_ap, if_neg (by omega)]; exact a10
      · unfold lxV
        rw [wr_ap, if_neg (by omega), a9, ej1, ee, show q + c - q = c by omega, hwi]; rfl
    | none =>
      rw [hwi] at a9
      rw [show cv none = (-1 : Int) from rfl, if_pos zI_m1]
      by_cases x : c ≤ 6
      · have ej2 : lxJ T n q = 2 := by rw [ej, hwi, if_neg (by decide), if_pos x]
        have hpk' := m_packAt (T := T) (q := q) (c := c) (μ := wr μ4 34 8 (2 : Int32)) hn (fun i hi => by rw [wr_ap, if_neg (by omega)]; exact aT i hi) w5 (by omega)
        refine ⟨wr (wr μ4 34 8 (2 : Int32)) 34 9 (zI (p6 T q c : Int)), ?_, fun a i g => by rw [wr_ap, if_neg (by omega), wr_ap, if_neg (by omega), ao a i g], ?_, ?_, ?_, fun _ => ?_⟩
        · have b7 : wr μ4 34 8 (2 : Int32) 34 7 = zI ((q + c : Nat) : Int) := by rw [wr_ap, if_neg (by omega)]; exact a7
          have b10 : wr μ4 34 8 (2 : Int32) 34 10 = zI (q : Int) := by rw [wr_ap, if_neg (by omega)]; exact a10
          have b8 : wr μ4 34 8 (2 : Int32) 34 8 = (2 : Int32) := by rw [wr_ap, if_pos ⟨rfl, rfl⟩]
          rw [if_pos (by rw [zI_lit, zI_le (by omega) (by omega) (by omega) (by omega)]; omega), Mo_token_161, bnd_ap, if_pos b8, b7, b10, hpk', bp_some, bnd_ap]
        · rw [wr_ap, if_neg (by omega), wr_ap, if_neg (by omega), ee]; exact a7
        · rw [wr_ap, if_neg (by omega), wr_ap, if_pos ⟨rfl, rfl⟩, ej2]; rfl
        · rw [wr_ap, if_neg (by omega), wr_ap, if_neg (by omega)]; exact a10
        · unfold lxV
          rw [wr_ap, if_pos ⟨rfl, rfl⟩, ej2, ee, show q + c - q = c by omega]; rfl
      · have ej5 : lxJ T n q = 5 := by rw [ej, hwi, if_neg (by decide), if_neg x]
        refine ⟨wr μ4 34 8 (5 : Int32), ?_, fun a i g => by rw [wr_ap, if_neg (by omega), ao a i g], ?_, ?_, ?_, fun h => by omega⟩
        · rw [if_neg (by rw [zI_lit, zI_le (by omega) (by omega) (by omega) (by omega)]; omega), Mo_token_161, bnd_ap, if_neg (by rw [wr_ap, if_pos ⟨rfl, rfl⟩]; decide)]
        · rw [wr_ap, if_neg (by omega), ee]; exact a7
        · rw [wr_ap, if_pos ⟨rfl, rfl⟩, ej5]; rfl
        · rw [wr_ap, if_neg (by omega)]; exact a10
  · rw [if_neg y, m_digit m3 hn mT hT2 (by omega), bp_some, bI_if, decide_eq_true hqn, Bool.true_and]
    by_cases x : dB (T q) = true
    · rw [if_pos x, bnd_ap, bnd_ap]
      obtain ⟨μ3, w1, w2, w3, w4⟩ := m_digits (T := T) hn hT2 (n - q) q 0 FU (wr (wr μ2 34 8 (3 : Int32)) 34 9 (0 : Int32)) (by rw [wr_ap, if_neg (by omega), wr_ap, if_neg (by omega)]; exact m3) (by rw [wr_ap, if_neg (by omega), wr_ap, if_neg (by omega)]; exact m4) (by rw [wr_ap, if_pos ⟨rfl, rfl⟩]; rfl) (by omega) (FU_gt (by omega)) (by omega) (fun i hi => by rw [wr_ap, if_neg (by omega), wr_ap, if_neg (by omega)]; exact mT i hi)
      have ee : lxE T n q = sk dB T (n - q) q := by unfold lxE; rw [if_neg z, if_neg y, if_pos x]
      have ej : lxJ T n q = 3 := by unfold lxJ; rw [if_neg z, if_neg y, if_pos x]
      refine ⟨μ3, w1, fun a i g => by rw [w2 _ _ (by omega), wr_ap, if_neg (by omega), wr_ap, if_neg (by omega), mo _ _ (by omega)], by rw [ee]; exact w3, ?_, ?_, fun _ => ?_⟩
      · rw [w2 _ _ (by omega), wr_ap, if_neg (by omega), wr_ap, if_pos ⟨rfl, rfl⟩, ej]; rfl
      · rw [w2 _ _ (by omega), wr_ap, if_neg (by omega), wr_ap, if_neg (by omega)]; exact m6
      · unfold lxV
        rw [ej]; exact w4
    · rw [if_neg x, if_pos in7, ix7, mT q hqn]
      have ee : lxE T n q = q + 1 := by unfold lxE; rw [if_neg z, if_neg y, if_neg x]
      have ej : lxJ T n q = if T q = 59 then 4 else 5 := by unfold lxJ; rw [if_neg z, if_neg y, if_neg x]
      have fin : ∀ k : Nat, k = 4 ∨ k = 5 → lxJ T n q = k → ∃ μ', Mo_token_296 (zI (k : Int)) μ2 = some ((), μ') ∧ (∀ a i, ¬ (a = 34 ∧ 7 ≤ i ∧ i ≤ 10) → μ' a i = μ a i) ∧ μ' 34 7 = zI (lxE T n q : Int) ∧ μ' 34 8 = zI (lxJ T n q : Int) ∧ μ' 34 10 = zI (q : Int) ∧ ((lxJ T n q = 1 ∨ lxJ T n q = 2 ∨ lxJ T n q = 3) → μ' 34 9 = zI (lxV T n q (nuR T (n - q) q 0) : Int)) := fun k hk e => by
        refine ⟨wr (wr μ2 34 8 (zI (k : Int))) 34 7 (zI ((q + 1 : Nat) : Int)), ?_, fun a i g => by rw [wr_ap, if_neg (by omega), wr_ap, if_neg (by omega), mo _ _ (by omega)], ?_, ?_, ?_, fun h => by omega⟩
        · have t : wr μ2 34 8 (zI (k : Int)) 34 7 + (1 : Int32) = zI ((q + 1 : Nat) : Int) := by rw [wr_ap, if_neg (by omega), m4, zI_s1]
          rw [Mo_token_296, bnd_ap, bnd_ap, t]
        · rw [wr_ap, if_pos ⟨rfl, rfl⟩, ee]
        · rw [wr_ap, if_neg (by omega), wr_ap, if_pos ⟨rfl, rfl⟩, e]
        · rw [wr_ap, if_neg (by omega), wr_ap, if_neg (by omega)]; exact m6
      by_cases w : T q = 59
      · rw [if_pos (by rw [w]; rfl)]
        exact fin 4 (.inl rfl) (by rw [ej, if_pos w])
      · rw [if_neg (by rw [zI_lit, zI_eq (by omega) (by omega) (by omega) (by omega)]; omega)]
        exact fin 5 (.inr rfl) (by rw [ej, if_neg w])
theorem lx_val {p : Nat} : (lxK T n p = 1 ∨ lxK T n p = 2 → lxC T n p = lxR T n p) ∧ (lxK T n p = 3 → NR (lxC T n p) (lxR T n p)) := by
  have e1 : lxK T n p = lxJ T n (lxQ T n p) := rfl
  constructor
  · intro h
    rw [e1] at h
    unfold lxC lxR lxV
    rcases h with h | h <;> rw [h] <;> rfl
  · intro h
    rw [e1] at h
    unfold lxC lxR lxV
    rw [h]
    exact nu_rel _ _ 0 0 (.inl ⟨rfl, by omega⟩)
end
