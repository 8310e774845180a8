/-! ===== reading a text: words and names ===== -/
theorem nt32 {n : Nat} (hn : n < 4294967296) : (zI (n : Int)).toBitVec.toNat = n := by
  show (BitVec.ofInt 32 (n : Int)).toNat = n
  rw [BitVec.ofInt_natCast, BitVec.toNat_ofNat, Nat.mod_eq_of_lt (by omega)]
theorem or_sh {a x s : Nat} (hs : s = 0 ∨ s = 5 ∨ s = 10 ∨ s = 15 ∨ s = 20 ∨ s = 25) (hx : x < 32) (ha : a % (2 ^ s * 32) = 0) (ha2 : a < 1073741824) : zI (a : Int) ||| (zI (x : Int) <<< (zI (s : Int) &&& (31 : Int32))) = zI ((a + x * 2 ^ s : Nat) : Int) := by
  have e : (zI (x : Int) <<< (zI (s : Int) &&& (31 : Int32))).toBitVec = (zI (x : Int)).toBitVec <<< s := by
    rcases hs with rfl | rfl | rfl | rfl | rfl | rfl <;> rfl
  have hp : 2 ^ s * 32 ≤ 1073741824 := by rcases hs with rfl | rfl | rfl | rfl | rfl | rfl <;> decide
  have hx2 : x * 2 ^ s < 32 * 2 ^ s := Nat.mul_lt_mul_of_pos_right hx (Nat.two_pow_pos s)
  apply Int32.toBitVec_inj.mp
  apply BitVec.eq_of_toNat_eq
  rw [Int32.toBitVec_or, BitVec.toNat_or, e, BitVec.toNat_shiftLeft, nt32 (n := a) (by omega), nt32 (n := x) (by omega), nt32 (by omega), Nat.shiftLeft_eq, Nat.mod_eq_of_lt (by omega)]
  have h1 := Nat.shiftLeft_add_eq_or_of_lt (b := x * 2 ^ s) (i := s + 5) (by rw [Nat.pow_add]; show x * 2 ^ s < 2 ^ s * 32; omega) (a / (2 ^ s * 32))
  rw [Nat.shiftLeft_eq, show (2 : Nat) ^ (s + 5) = 2 ^ s * 32 by rw [Nat.pow_add], Nat.div_mul_cancel (Nat.dvd_of_mod_eq_zero ha)] at h1
  exact h1.symm
theorem sh5_or {x l : Nat} (hl : l < 32) (hx : x * 32 + l < 1073741824) : (zI (x : Int) <<< ((5 : Int32) &&& 31)) ||| zI (l : Int) = zI ((x * 32 + l : Nat) : Int) := by
  apply Int32.toBitVec_inj.mp
  apply BitVec.eq_of_toNat_eq
  have e : (zI (x : Int) <<< ((5 : Int32) &&& 31)).toBitVec = (zI (x : Int)).toBitVec <<< 5 := rfl
  rw [Int32.toBitVec_or, BitVec.toNat_or, e, BitVec.toNat_shiftLeft, nt32 (n := x) (by omega), nt32 (n := l) (by omega), nt32 (by omega), Nat.shiftLeft_eq, Nat.mod_eq_of_lt (by omega)]
  have := Nat.shiftLeft_add_eq_or_of_lt (b := l) (i := 5) (by omega) x
  rw [Nat.shiftLeft_eq] at this
  omega
/-- the j-th letter's number, of c letters -/
def dg (T : Nat → Nat) (q c j : Nat) : Nat := if j < c then T (q + j) - 96 else 0
/-- as the class packs, as the reference packs -/
def wt6 : Nat → Nat
  | 0 => 33554432
  | 1 => 1048576
  | 2 => 32768
  | 3 => 1024
  | 4 => 32
  | 5 => 1
  | _ => 0
def pk (T : Nat → Nat) (q c : Nat) : Nat → Nat
  | 0 => 0
  | i + 1 => pk T q c i + dg T q c i * wt6 i
def ak (T : Nat → Nat) (q c : Nat) : Nat → Nat
  | 0 => 0
  | i + 1 => ak T q c i * 32 + dg T q c i
def LT (T : Nat → Nat) (q c : Nat) : Prop := ∀ j, j < c → lB (T (q + j)) = true
section
variable {T : Nat → Nat} {n q : Nat}
theorem dg_lt {c : Nat} (h : LT T q c) (j : Nat) : dg T q c j < 27 := by
  unfold dg
  by_cases z : j < c
  · have := of_decide_eq_true (h j z)
    rw [if_pos z]; omega
  · rw [if_neg z]; omega
theorem dg_pos {c j : Nat} (h : LT T q c) (hj : j < c) : 1 ≤ dg T q c j ∧ T (q + j) = dg T q c j + 96 := by
  have := of_decide_eq_true (h j hj)
  unfold dg
  rw [if_pos hj]; omega
/-- all six numbers -/
def p6 (T : Nat → Nat) (q c : Nat) : Nat := dg T q c 0 * 33554432 + dg T q c 1 * 1048576 + dg T q c 2 * 32768 + dg T q c 3 * 1024 + dg T q c 4 * 32 + dg T q c 5
theorem pk_6 (T : Nat → Nat) (q c : Nat) : pk T q c 6 = p6 T q c := by
  simp only [pk, wt6, p6]
  omega
theorem pk_ge (T : Nat → Nat) (q c : Nat) : ∀ i, pk T q c (6 + i) = p6 T q c := by
  intro i
  induction i with
  | zero => exact pk_6 T q c
  | succ i ih =>
    show pk T q c (6 + i) + dg T q c (6 + i) * wt6 (6 + i) = _
    have : wt6 (6 + i) = 0 := by
      rw [Nat.add_comm]; rfl
    rw [ih, this, Nat.mul_zero, Nat.add_zero]
theorem ak_6 (T : Nat → Nat) (q c : Nat) : ak T q c 6 = p6 T q c := by
  simp only [ak, p6]
  omega
theorem p6_lt {c : Nat} (h : LT T q c) : p6 T q c < 1073741824 := by
  have h0 := dg_lt h 0
  have h1 := dg_lt h 1
  have h2 := dg_lt h 2
  have h3 := dg_lt h 3
  have h4 := dg_lt h 4
  have h5 := dg_lt h 5
  unfold p6
  omega
/-- at c letters the sum is what all later ones leave -/
theorem pk_c {c : Nat} (hc : c ≤ 6) : pk T q c c = p6 T q c := by
  have hz : ∀ i, c ≤ i → pk T q c (i + 1) = pk T q c i := fun i hi => by
    show pk T q c i + dg T q c i * wt6 i = _
    have : dg T q c i = 0 := by unfold dg; rw [if_neg (by omega)]
    rw [this, Nat.zero_mul, Nat.add_zero]
  have hk : ∀ k, pk T q c (c + k) = pk T q c c := fun k => by
    induction k with
    | zero => rfl
    | succ k ih => rw [← Nat.add_assoc, hz _ (by omega), ih]
  rw [← pk_6 T q c, ← hk (6 - c), show c + (6 - c) = 6 by omega]
/-- while c letters were read -/
theorem pk_same (T : Nat → Nat) (q : Nat) {c c' i : Nat} (h : i ≤ c) (h' : i ≤ c') : pk T q c i = pk T q c' i := by
  induction i with
  | zero => rfl
  | succ i ih =>
    show pk T q c i + dg T q c i * wt6 i = pk T q c' i + dg T q c' i * wt6 i
    have : dg T q c i = dg T q c' i := by unfold dg; rw [if_pos (by omega), if_pos (by omega)]
    rw [ih (by omega) (by omega), this]
theorem pk_or {c : Nat} (hc : c < 6) (h : LT T q (c + 1)) : zI (pk T q c c : Int) ||| (zI ((T (q + c) - 96 : Nat) : Int) <<< (zI ((25 - 5 * c : Nat) : Int) &&& (31 : Int32))) = zI (pk T q (c + 1) (c + 1) : Int) := by
  have d0 := dg_lt h 0
  have d1 := dg_lt h 1
  have d2 := dg_lt h 2
  have d3 := dg_lt h 3
  have d4 := dg_lt h 4
  have d5 := dg_lt h 5
  have hd : T (q + c) - 96 = dg T q (c + 1) c := by unfold dg; rw [if_pos (by omega)]
  rw [hd, pk_same T q (c := c) (c' := c + 1) (i := c) (Nat.le_refl _) (by omega)]
  have : c = 0 ∨ c = 1 ∨ c = 2 ∨ c = 3 ∨ c = 4 ∨ c = 5 := by omega
  have key : ∀ s, (s = 0 ∨ s = 5 ∨ s = 10 ∨ s = 15 ∨ s = 20 ∨ s = 25) → 25 - 5 * c = s → wt6 c = 2 ^ s → pk T q (c + 1) c % (2 ^ s * 32) = 0 → pk T q (c + 1) c < 1073741824 → zI (pk T q (c + 1) c : Int) ||| (zI (dg T q (c + 1) c : Int) <<< (zI ((25 - 5 * c : Nat) : Int) &&& (31 : Int32))) = zI (pk T q (c + 1) (c + 1) : Int) := fun s h1 h2 h3 h4 h5 => by
    rw [h2, or_sh h1 (by have := dg_lt h c; omega) h4 h5]
    show _ = zI ((pk T q (c + 1) c + dg T q (c + 1) c * wt6 c : Nat) : Int)
    rw [h3]
  rcases this with rfl | rfl | rfl | rfl | rfl | rfl
  · exact key 25 (by omega) rfl rfl rfl (by show 0 < _; omega)
  · refine key 20 (by omega) rfl rfl ?_ ?_
    · simp only [pk, wt6, Nat.reducePow, Nat.reduceMul]; omega
    · simp only [pk, wt6]; omega
  · refine key 15 (by omega) rfl rfl ?_ ?_
    · simp only [pk, wt6, Nat.reducePow, Nat.reduceMul]; omega
    · simp only [pk, wt6]; omega
  · refine key 10 (by omega) rfl rfl ?_ ?_
    · simp only [pk, wt6, Nat.reducePow, Nat.reduceMul]; omega
    · simp only [pk, wt6]; omega
  · refine key 5 (by omega) rfl rfl ?_ ?_
    · simp only [pk, wt6, Nat.reducePow, Nat.reduceMul]; omega
    · simp only [pk, wt6]; omega
  · refine key 0 (by omega) rfl rfl ?_ ?_
    · simp only [pk, wt6, Nat.reducePow, Nat.reduceMul]; omega
    · simp only [pk, wt6]; omega
theorem c_word (hn : n ≤ 700) (hT2 : ∀ i, T i < 256) : ∀ (m c f : Nat) (M : Mem), M 0 2 3 = zI (n : Int) → M 0 2 4 = zI ((q + c : Nat) : Int) → q + c + m = n → m < f → LT T q c → TC M T n → ∃ M' c', Re_takeWord_4 f (zI (pk T q c c : Int)) (zI (c : Int)) M = Re_takeWord_76 (zI (pk T q c' c' : Int)) (zI (c' : Int)) M' ∧ (∀ j a i, ¬ (j = 0 ∧ a = 2 ∧ i = 4) → M' j a i = M j a i) ∧ q + c' = sk lB T m (q + c) ∧ M' 0 2 4 = zI ((q + c' : Nat) : Int) ∧ LT T q c' := by
  intro m
  induction m with
  | zero =>
    intro c f M h3 h4 hp hf hL hT
    obtain ⟨g, rfl⟩ : ∃ g, f = g + 1 := ⟨f - 1, by omega⟩
    exact ⟨M, c, by rw [Re_takeWord_4, h3, h4, if_pos (by rw [zI_le (by omega) (by omega) (by omega) (by omega)]; omega)], fun _ _ _ _ => rfl, rfl, h4, hL⟩
  | succ m ih =>
    intro c f M h3 h4 hp hf hL hT
    obtain ⟨g, rfl⟩ : ∃ g, f = g + 1 := ⟨f - 1, by omega⟩
    have hTp := hT2 (q + c)
    rw [sk_s]
    by_cases z : lB (T (q + c)) = true
    · have hl := of_decide_eq_true z
      have hL1 : LT T q (c + 1) := fun j hj => by
        by_cases e : j = c
        · rw [e]; exact z
        · exact hL j (by omega)
      obtain ⟨M', c', q1, q2, q3, q4, q5⟩ := ih (c + 1) g (wrM M 0 2 4 (zI ((q + (c + 1) : Nat) : Int))) (by rw [wrM_ap, if_neg (by omega)]; exact h3) (by rw [wrM_ap, if_pos ⟨rfl, rfl, rfl⟩]) (by omega) (by omega) hL1 (fun i hi => by rw [wrM_ap, if_neg (by omega)]; exact hT i hi)
      refine ⟨M', c', ?_, fun j a i g => by rw [q2 j a i g, wrM_ap, if_neg g], by rw [if_pos z]; exact q3, q4, q5⟩
      have e60 : ∀ v : Int32, Re_takeWord_60 (Re_takeWord_4 g) v (zI (c : Int)) M = Re_takeWord_4 g v (zI ((c + 1 : Nat) : Int)) (wrM M 0 2 4 (zI ((q + (c + 1) : Nat) : Int))) := fun v => by
        rw [Re_takeWord_60, bnd_ap, zI_s1, bnd_ap, h4, zI_s1]; rfl
      rw [Re_takeWord_4, h3, h4, if_neg (by rw [zI_le (by omega) (by omega) (by omega) (by omega)]; omega), if_pos (zI_in (by omega) (by omega)), if_pos (zI_in (by omega) (by omega)), zI_ixn (by omega), hT (q + c) (by omega), c_letter hTp, bp_some, bI_if, if_pos z, e60, bnd_ap, e60]
      by_cases y : c < 6
      · have e1 : zI (T (q + c) : Int) - (97 : Int32) + (1 : Int32) = zI ((T (q + c) - 96 : Nat) : Int) := by
          rw [show (97 : Int32) = zI 97 from rfl, show (1 : Int32) = zI 1 from rfl, zI_sub, zI_add]; congr 1; omega
        have e2 : (25 : Int32) - (5 : Int32) * zI (c : Int) = zI ((25 - 5 * c : Nat) : Int) := by
          rw [show (25 : Int32) = zI 25 from rfl, show (5 : Int32) = zI 5 from rfl, zI_mul, zI_sub]; congr 1; omega
        rw [if_neg (by rw [zI_lit, zI_le (by omega) (by omega) (by omega) (by omega)]; omega), e1, e2, pk_or y hL1]
        exact q1
      · have e3 : pk T q (c + 1) (c + 1) = pk T q c c := by
          show pk T q (c + 1) c + dg T q (c + 1) c * wt6 c = _
          have : wt6 c = 0 := by
            obtain ⟨k, rfl⟩ : ∃ k, c = k + 6 := ⟨c - 6, by omega⟩
            rfl
          rw [this, Nat.mul_zero, Nat.add_zero, pk_same T q (c := c + 1) (c' := c) (i := c) (by omega) (Nat.le_refl _)]
        rw [if_pos (by rw [zI_lit, zI_le (by omega) (by omega) (by omega) (by omega)]; omega)]
        rw [e3] at q1
        exact q1
    · refine ⟨M, c, ?_, fun _ _ _ _ => rfl, by rw [if_neg z], h4, hL⟩
      rw [Re_takeWord_4, h3, h4, if_neg (by rw [zI_le (by omega) (by omega) (by omega) (by omega)]; omega), if_pos (zI_in (by omega) (by omega)), zI_ixn (by omega), hT (q + c) (by omega), c_letter hTp, bp_some, bI_if, if_neg z]
theorem m_pack {μ : Sl} (hn : n ≤ 700) (hT : TM μ T n) {c : Nat} (hL : LT T q c) (hc : q + c ≤ n) : ∀ (m i f : Nat), i + m = 6 → m < f → Mo_packed_5 μ f (zI (q : Int)) (zI ((q + c : Nat) : Int)) (zI (ak T q c i : Int)) (zI ((q + i : Nat) : Int)) = some (zI (p6 T q c : Int)) := by
  have ab : ∀ i, i ≤ 5 → ak T q c i * 32 + dg T q c i < 1073741824 := fun i hi => by
    have d0 := dg_lt hL 0
    have d1 := dg_lt hL 1
    have d2 := dg_lt hL 2
    have d3 := dg_lt hL 3
    have d4 := dg_lt hL 4
    have d5 := dg_lt hL 5
    have : i = 0 ∨ i = 1 ∨ i = 2 ∨ i = 3 ∨ i = 4 ∨ i = 5 := by omega
    rcases this with rfl | rfl | rfl | rfl | rfl | rfl <;> simp only [ak] <;> omega
  intro m
  induction m with
  | zero =>
    intro i f hi hf
    obtain ⟨g, rfl⟩ : ∃ g, f = g + 1 := ⟨f - 1, by omega⟩
    have : i = 6 := by omega
    subst this
    rw [Mo_packed_5, show (6 : Int32) = zI 6 from rfl, zI_add, if_pos (by rw [zI_le (by omega) (by omega) (by omega) (by omega)]; omega), ak_6]
  | succ m ih =>
    intro i f hi hf
    obtain ⟨g, rfl⟩ : ∃ g, f = g + 1 := ⟨f - 1, by omega⟩
    have hb := ab i (by omega)
    have hd := dg_lt hL i
    have go : Mo_packed_37 (Mo_packed_5 μ g) μ (zI (q : Int)) (zI ((q + c : Nat) : Int)) (zI ((q + i : Nat) : Int)) (zI (dg T q c i : Int)) (zI (ak T q c i : Int) <<< ((5 : Int32) &&& 31)) = some (zI (p6 T q c : Int)) := by
      rw [Mo_packed_37, bnd_ap, sh5_or (by omega) hb, bnd_ap, zI_s1]
      exact ih (i + 1) g (by omega) (by omega)
    rw [Mo_packed_5, show (6 : Int32) = zI 6 from rfl, zI_add, if_neg (by rw [zI_le (by omega) (by omega) (by omega) (by omega)]; omega)]
    by_cases z : i < c
    · have hdp := dg_pos hL z
      have e : zI (T (q + i) : Int) - (96 : Int32) = zI (dg T q c i : Int) := by
        rw [show (96 : Int32) = zI 96 from rfl, zI_sub]; congr 1; omega
      rw [if_neg (by rw [zI_le (by omega) (by omega) (by omega) (by omega)]; omega), if_pos (zI_in (by omega) (by omega)), zI_ixn (by omega), hT (q + i) (by omega), e]
      exact go
    · have e : dg T q c i = 0 := by unfold dg; rw [if_neg z]
      rw [if_pos (by rw [zI_le (by omega) (by omega) (by omega) (by omega)]; omega)]
      rw [e] at go
      exact go
end
