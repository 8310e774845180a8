/-- how many numbers a step of a kind has -/
def arK (kd : Int) : Nat := if kd = 7 then 6 else if kd = 8 ∨ kd = 9 then 5 else if kd = 10 then 3 else 1
/-- a step of the script, as the class has it (x.1), as the reference has it (x.2): what is not used may differ -/
def SD (n : Nat) (M : Mem) (k : Nat) (μ : Sl) (i : Nat) (kd : Int) (x : (Nat → Int) × (Nat → Int)) : Prop := M k 9 (7 * i) = zI kd ∧ (∀ j, j < 6 → M k 9 (7 * i + (1 + j)) = zI (x.1 j)) ∧ μ 43 i = zI kd ∧ (∀ j, j < 6 → μ 44 (6 * i + j) = zI (x.2 j)) ∧ i32 kd ∧ (∀ j, j < arK kd → x.2 j = x.1 j ∧ -100000000 ≤ x.1 j ∧ x.1 j ≤ 100000000) ∧ (kd = 7 → 1 ≤ x.1 5 ∧ x.1 5 ≤ 7) ∧ (kd = 9 → (0 ≤ x.1 0 ∧ x.1 0 < (n : Int)) ∧ (1 ≤ x.1 3 ∧ x.1 3 ≤ 7)) ∧ (kd ≠ 7 → kd ≠ 8 → kd ≠ 9 → kd ≠ 10 → 0 ≤ x.1 0 ∧ x.1 0 < (n : Int))
section
variable {ee : Int × Int} {n S : Nat} {A : Ab} {dep : Nat → Nat} {δ : Sl} {σ : Nat → Nat} {bn : Nat} {M : Mem} {μ : Sl} {b : Nat} {B : Nat → Int} {qv pv wv : Nat → Int} {J : List Jb} {N : Int}
theorem k7_on (hR : RC n S δ σ bn B A dep J N) (hX : WX ee n S δ B) (hN : N < 2147483648) (hb : MB μ b) (hS : SB M δ μ n S qv pv wv) {x1 x2 x3 x4 x5 : Int} (h1 : i32 x1) (h2 : i32 x2) (h3 : i32 x3) (h4 : i32 x4) (h5 : 1 ≤ x5 ∧ x5 ≤ 7) :
    WY ee n S δ μ b B N (Wo_handOn M δ (zI x1) (zI x2) (zI x3) (zI x4) (zI x5)) (bp (Mo_isPassing (bst μ b B) (zI x1) (zI x2) (zI x3) (zI x4)) fun r => if r = 0 then some ((-1 : Int32), bst μ b B) else bd (Mo_mapped (bst μ b B) (zI x1) (zI x2) (zI x3) (zI x4) (zI x5)) fun r d => some (r, d)) := by
  obtain ⟨hK, hm, hn, -⟩ := hS
  rw [m_pass (bst_SM b B hm) hn h1 h2 h3 h4, bp_some, bI_if]
  have h5i : i32 x5 := ⟨by omega, by omega⟩
  cases c : psB n S x1 x2 x3 x4 with
  | false =>
    rw [if_neg (by decide)]
    exact WY_bad hR hX (hand_bad hK hn h1 h2 h3 h4 h5i (by rw [c]; rfl)) rfl
  | true =>
    rw [if_pos rfl]
    obtain ⟨sf, st, p, p1, t, hh, e1, e2, e3, e4⟩ := ps_good c
    have k := WO_WY (map_wo hR hX hN hb hK hm hn (HN_r hh h5.1 h5.2))
    rw [← e1, ← e2, ← e3, ← e4] at k
    obtain ⟨v, δ', σ', bn', μ', B', A', dep', J', N', r1, r2, rr⟩ := k
    exact ⟨v, δ', σ', bn', μ', B', A', dep', J', N', r1, by rw [r2, bd_some], rr⟩
theorem k8_on (hR : RC n S δ σ bn B A dep J N) (hX : WX ee n S δ B) (hN : N < 2147483648) (hb : MB μ b) (hS : SB M δ μ n S qv pv wv) {x1 x2 x3 x4 : Int} (h1 : i32 x1) (h2 : i32 x2) (h3 : i32 x3) (h4 : i32 x4) :
    WY ee n S δ μ b B N (Wo_giveAway M δ (zI x1) (zI x2) (zI x3) (zI x4)) (bp (Mo_isPassing (bst μ b B) (zI x1) (zI x2) (zI x3) (zI x4)) fun r => if r = 0 then some ((-1 : Int32), bst μ b B) else bd (Mo_granted (bst μ b B) (zI x1) (zI x2) (zI x3) (zI x4)) fun r d => some (r, d)) := by
  obtain ⟨hK, hm, hn, -⟩ := hS
  rw [m_pass (bst_SM b B hm) hn h1 h2 h3 h4, bp_some, bI_if]
  cases c : psB n S x1 x2 x3 x4 with
  | false =>
    rw [if_neg (by decide)]
    exact WY_bad hR hX (give_bad hK hn h1 h2 h3 h4 c) rfl
  | true =>
    rw [if_pos rfl]
    obtain ⟨sf, st, p, p1, t, hh, e1, e2, e3, e4⟩ := ps_good c
    have k := WO_WY (grant_wo hR hX hN hb hK hm hn hh)
    rw [← e1, ← e2, ← e3, ← e4] at k
    obtain ⟨v, δ', σ', bn', μ', B', A', dep', J', N', r1, r2, rr⟩ := k
    exact ⟨v, δ', σ', bn', μ', B', A', dep', J', N', r1, by rw [r2, bd_some], rr⟩
theorem k9_on (hR : RC n S δ σ bn B A dep J N) (hX : WX ee n S δ B) (hN : N + 1 < 2147483648) (hb : MB μ b) (hS : SB M δ μ n S qv pv wv) {x1 x2 x3 : Int} (h1 : 0 ≤ x1 ∧ x1 < (n : Int)) (h2 : i32 x2) (h3 : 1 ≤ x3 ∧ x3 ≤ 7) (a4 : Int32) :
    WY ee n S δ μ b B N (Wo_startFlush M δ (zI x1) (zI x2) (zI x3) a4) (bp (Mo_isRegion (bst μ b B) (zI x2)) fun r => if r = 0 then some ((-1 : Int32), bst μ b B) else bd (Mo_flushed (bst μ b B) (zI x1) (zI x2) (zI x3) a4) fun r d => some (r, d)) := by
  obtain ⟨hK, hm, hn, -⟩ := hS
  have hn6 := hn.1
  have h1i : i32 x1 := ⟨by omega, by omega⟩
  have h3i : i32 x3 := ⟨by omega, by omega⟩
  rw [m_isRegion (bst_SM b B hm) hn h2, bp_some, bI_if]
  cases c : (decide (0 ≤ x2) && rgB S (x2 / 4) (x2 % 4 + 1)) with
  | false =>
    rw [if_neg (by decide)]
    exact WY_bad hR hX (flush_bad hK hn h1i h2 h3i a4 (by rw [fzB, c, Bool.and_false, Bool.false_and])) rfl
  | true =>
    rw [if_pos rfl]
    obtain ⟨sf, p, t, hh, e1, e2⟩ := fl_good (n := n) (S := S) (x1 := x1) (x2 := x2) (x3 := x3) (by rw [fzB, c, decide_eq_true h1, decide_eq_true h3]; rfl)
    have k := WO_WY (flush_wo hR hX hN hb hK hn hh a4)
    rw [← e1, ← e2] at k
    obtain ⟨v, δ', σ', bn', μ', B', A', dep', J', N', r1, r2, rr⟩ := k
    exact ⟨v, δ', σ', bn', μ', B', A', dep', J', N', r1, by rw [r2, bd_some], rr⟩
theorem k10_on (hR : RC n S δ σ bn B A dep J N) (hX : WX ee n S δ B) (hW : B 2196 + 1 < 2147483648) (hb : MB μ b) (hS : SB M δ μ n S qv pv wv) {x1 x2 x3 : Int} (h1 : i32 x1) (h2 : i32 x2) (h3 : i32 x3) :
    WY ee n S δ μ b B N (Wo_touchPage M δ (zI x1) (zI x2) (zI x3)) (bp (Mo_isTouch (bst μ b B) (zI x1) (zI x2) (zI x3)) fun r => if r = 0 then some ((-1 : Int32), bst μ b B) else bd (Mo_touched (bst μ b B) (zI x1) (zI x2) (zI x3)) fun r d => some (r, d)) := by
  obtain ⟨hK, hm, hn, hpk, hpm, hpn, -⟩ := hS
  rw [m_isTouch hb hX hm hn h1 h2 h3, bp_some, bI_if]
  cases c : tcB n S B x1 x2 x3 with
  | false =>
    rw [if_neg (by decide)]
    exact WY_bad hR hX (touch_bad hX (by omega) hK hn h1 h2 h3 c) rfl
  | true =>
    rw [if_pos rfl]
    unfold tcB at c
    simp only [Bool.and_eq_true, decide_eq_true_eq] at c
    obtain ⟨⟨a1, a2⟩, ⟨a3, a4⟩, a5, a6⟩ := c
    have k := WO_WY (touch_wo (N := N) hR hX hb hK hn hpk hpm hpn (s := x1.toNat) (p := x2.toNat) (r := x3) (by omega) (by omega) a5 a6)
    rw [show ((x1.toNat : Nat) : Int) = x1 by omega, show ((x2.toNat : Nat) : Int) = x2 by omega] at k
    obtain ⟨v, δ', σ', bn', μ', B', A', dep', J', N', r1, r2, rr⟩ := k
    exact ⟨v, δ', σ', bn', μ', B', A', dep', J', N', r1, by rw [r2, bd_some], rr⟩
theorem k11_on (hR : RC n S δ σ bn B A dep J N) (hX : WX ee n S δ B) (hN : N < 2147483648) (hW : B 2196 + 1 < 2147483648) (hb : MB μ b) (hS : SB M δ μ n S qv pv wv) {x1 : Int} (h1 : 0 ≤ x1 ∧ x1 < (n : Int)) :
    WY ee n S δ μ b B N (Wo_serveFirst M δ (zI x1)) (bd (Mo_served (bst μ b B) (zI x1)) fun r d => some (r, d)) := by
  obtain ⟨hK, hm, hn, hpk, hpm, hpn, hwk, hwm, hwn⟩ := hS
  have k := WV_WY (serve_on hR hX hN hW hb hK hm hn hpk hpm hpn hwk hwm hwn (a := x1.toNat) (by omega))
  rw [show ((x1.toNat : Nat) : Int) = x1 by omega] at k
  obtain ⟨v, δ', σ', bn', μ', B', A', dep', J', N', r1, r2, rr⟩ := k
  exact ⟨v, δ', σ', bn', μ', B', A', dep', J', N', r1, by rw [r2, bd_some], rr⟩
end
