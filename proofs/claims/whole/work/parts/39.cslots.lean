/-! ===== the class's deeds by slots: places, slots that come and go ===== -/
theorem FU_gt {k : Nat} (h : k < 1000000) : k < FU := h
def st32 (δ : Sl) (lo hi : Nat) (v : Int32) : Sl := fun a q => if a = 32 ∧ lo ≤ q ∧ q < hi then v else δ a q
theorem settle_loop (v : Int32) (fr pgn : Nat) (hb : fr + pgn ≤ 192) : ∀ (k n i : Nat) (δ : Sl), i + k = pgn → k < n → De_settleAt_30 n v (zI (fr : Int)) (zI (pgn : Int)) (zI (i : Int)) δ = some ((), st32 δ (fr + i) (fr + pgn) v) := by
  intro k
  induction k with
  | zero =>
    intro n i δ h1 h2
    obtain ⟨m, rfl⟩ : ∃ m, n = m + 1 := ⟨n - 1, by omega⟩
    simp (disch := omega) only [De_settleAt_30, zI_le, if_pos]
    congr 1; congr 1
    funext a q
    unfold st32
    rw [if_neg (by omega)]
  | succ k ih =>
    intro n i δ h1 h2
    obtain ⟨m, rfl⟩ : ∃ m, n = m + 1 := ⟨n - 1, by omega⟩
    simp (disch := omega) only [De_settleAt_30, De_settleAt_64, bnd_ap, zI_add, zI_lit, zI_le, zI_lt, zI_inb, zI_ix, if_pos, if_neg]
    rw [show ((fr : Int) + (i : Int)).toNat = fr + i by omega, show (i : Int) + 1 = ((i + 1 : Nat) : Int) by omega]
    rw [ih m (i + 1) _ (by omega) (by omega)]
    congr 1; congr 1
    funext a q
    unfold st32 wr
    by_cases ha : a = 32
    · by_cases hq : q = fr + i
      · rw [if_neg (by omega), if_pos ⟨ha, hq⟩, if_pos (by omega)]
      · by_cases hr : fr + (i + 1) ≤ q ∧ q < fr + pgn
        · rw [if_pos ⟨ha, hr⟩, if_pos (by omega)]
        · rw [if_neg (by omega), if_neg (by omega), if_neg (by omega)]
    · rw [if_neg (by omega), if_neg (by omega), if_neg (by omega)]
theorem settleAt_eq {δ : Sl} {j s p : Nat} {o : Int} (v : Int32) (hj : j < 192) (h1 : δ 18 j = zI (s : Int)) (h2 : δ 19 j = zI (p : Int)) (h3 : δ 21 j = zI (o - 1)) (ho1 : 1 ≤ o) (ho2 : o ≤ 4) (hb : 32 * s + p + pg o ≤ 192) :
    De_settleAt δ (zI (j : Int)) v = some ((), st32 δ (32 * s + p) (32 * s + p + pg o) v) := by
  simp (disch := omega) only [De_settleAt, bnd_ap, zI_inb, zI_ix, Int.toNat_natCast, if_pos, h1, h2, h3, zI_lit, zI_mul, zI_add, zI_pg]
  rw [show (s : Int) * 32 + (p : Int) = ((32 * s + p : Nat) : Int) by omega, show (0 : Int) = ((0 : Nat) : Int) by rfl]
  rw [settle_loop v (32 * s + p) (pg o) hb (pg o) FU 0 δ (by omega) (FU_gt (by have := pg_pos ho1 ho2; omega))]
  rfl
/-- a slot is filled -/
def nfv (s p f o r : Int) (a : Nat) : Int32 := if a = 18 then zI s else if a = 19 then zI p else if a = 20 then zI f else if a = 21 then zI (o - 1) else if a = 22 then zI r else if a ≤ 27 then zI (-1) else zI 0
def mkS (δ : Sl) (j bn d : Nat) (f o r : Int) : Sl := fun a i =>
  if a = 32 then (if d ≤ i ∧ i < d + pg o then zI (j : Int) else δ 32 i)
  else if 18 ≤ a ∧ a ≤ 31 ∧ i = j then nfv ((d / 32 : Nat) : Int) ((d % 32 : Nat) : Int) f o r a
  else if a = 17 ∧ i = 16 then zI ((max bn (j + 1) : Nat) : Int)
  else if a = 17 ∧ i = 17 then δ 17 17 + zI 1 else δ a i
theorem make_find {δ : Sl} {bn : Nat} (hbn : bn ≤ 192) (hb : δ 17 16 = zI (bn : Int)) (v1 v2 v3 v4 v5 : Int32) : ∀ (k n i : Nat), i + k = bn → k < n → ∃ j, i ≤ j ∧ j ≤ bn ∧ (j < bn → δ 21 j < 0) ∧ (∀ q, i ≤ q → q < j → ¬ δ 21 q < 0) ∧ De_make_3 n v1 v2 v3 v4 v5 (zI (i : Int)) δ = De_make_28 v1 v2 v3 v4 v5 (zI (j : Int)) δ := by
  intro k
  induction k with
  | zero =>
    intro n i h1 h2
    obtain ⟨m, rfl⟩ : ∃ m, n = m + 1 := ⟨n - 1, by omega⟩
    refine ⟨i, by omega, by omega, by omega, by omega, ?_⟩
    simp (disch := omega) only [De_make_3, hb, zI_le, if_pos]
  | succ k ih =>
    intro n i h1 h2
    obtain ⟨m, rfl⟩ : ∃ m, n = m + 1 := ⟨n - 1, by omega⟩
    by_cases hf : δ 21 i < 0
    · refine ⟨i, by omega, by omega, fun _ => hf, by omega, ?_⟩
      simp (disch := omega) only [De_make_3, hb, zI_le, if_neg, zI_inb, zI_ix, if_pos, Int.toNat_natCast]
    · obtain ⟨j, j1, j2, j3, j4, j5⟩ := ih m (i + 1) (by omega) (by omega)
      refine ⟨j, by omega, j2, j3, fun q q1 q2 => ?_, ?_⟩
      · by_cases e : q = i
        · subst e; exact hf
        · exact j4 q (by omega) q2
      · simp (disch := omega) only [De_make_3, hb, zI_le, if_neg, zI_inb, zI_ix, if_pos, Int.toNat_natCast]
        rw [← j5]
        simp only [bnd_ap, zI_lit, zI_add]
        rfl
theorem make_28 {δ : Sl} {bn j d : Nat} {f o r : Int} (hbn : bn ≤ 192) (hb : δ 17 16 = zI (bn : Int)) (hj : j < 192) (ho1 : 1 ≤ o) (ho2 : o ≤ 4) (hd : d + pg o ≤ 192) :
    De_make_28 (zI ((d / 32 : Nat) : Int)) (zI ((d % 32 : Nat) : Int)) (zI f) (zI (o - 1)) (zI r) (zI (j : Int)) δ = some (zI (j : Int), mkS δ j bn d f o r) := by
  simp (disch := omega) only [De_make_28, bnd_ap, zI_lit, zI_lt, if_pos, zI_inb, zI_ix, Int.toNat_natCast, hb, zI_add, zI_neg, wr_ap, if_neg]
  rw [settleAt_eq (s := d / 32) (p := d % 32) (o := o) (v := zI (j : Int)) hj (by simp [wr_ap]) (by simp [wr_ap]) (by simp [wr_ap]) ho1 ho2 (by omega)]
  simp only [bd_some]
  congr 1; congr 1
  funext a i
  rw [show 32 * (d / 32) + d % 32 = d by omega]
  have e0 : FP.fconst0.toInt32 = zI 0 := by decide
  have em : (if (bn : Int) < (j : Int) + 1 then zI ((j : Int) + 1) else zI (bn : Int)) = zI ((max bn (j + 1) : Nat) : Int) := by
    split
    · congr 1; omega
    · congr 1; omega
  rw [em, e0]
  unfold st32 mkS wr nfv
  clear em
  generalize zI ((max bn (j + 1) : Nat) : Int) = mx
  grind (splits := 40)
/-- a slot is made empty -/
def relS (δ : Sl) (j d : Nat) (o : Int) : Sl := fun a i =>
  if a = 32 ∧ d ≤ i ∧ i < d + pg o then zI (-1)
  else if a = 21 ∧ i = j then zI (-1)
  else if a = 17 ∧ i = 17 then δ 17 17 - zI 1
  else if a = 17 ∧ i = 18 then δ 17 18 - (if δ 28 j = 0 then zI 0 else zI 1) else δ a i
theorem release_eq {δ : Sl} {j d : Nat} {o : Int} (hj : j < 192) (h1 : δ 18 j = zI ((d / 32 : Nat) : Int)) (h2 : δ 19 j = zI ((d % 32 : Nat) : Int)) (h3 : δ 21 j = zI (o - 1)) (ho1 : 1 ≤ o) (ho2 : o ≤ 4) (hb : d + pg o ≤ 192) :
    De_release δ (zI (j : Int)) = some ((), relS δ j d o) := by
  have e := settleAt_eq (s := d / 32) (p := d % 32) (v := zI (-1)) hj h1 h2 h3 ho1 ho2 (by omega)
  rw [show 32 * (d / 32) + d % 32 = d by omega] at e
  simp only [De_release, show (-1 : Int32) = zI (-1) from rfl, e, bd_some, bnd_ap]
  simp (disch := omega) only [zI_inb, zI_ix, Int.toNat_natCast, if_pos]
  have e28 : wr (st32 δ d (d + pg o) (zI (-1))) 21 j (zI (-1)) 28 j = δ 28 j := by simp [wr, st32]
  have e17 : wr (st32 δ d (d + pg o) (zI (-1))) 21 j (zI (-1)) 17 18 = δ 17 18 := by simp [wr, st32]
  rw [e28, e17]
  by_cases h0 : δ 28 j = 0
  · rw [if_pos h0]
    simp only [De_release_32, bnd_ap]
    congr 1; congr 1
    funext a i
    unfold relS wr st32
    rw [if_pos h0]
    simp only [zI_lit]
    grind (splits := 40)
  · rw [if_neg h0]
    simp only [De_release_32, bnd_ap]
    congr 1; congr 1
    funext a i
    unfold relS wr st32
    rw [if_neg h0]
    simp only [zI_lit]
    grind (splits := 40)
/-- a slot's deed goes over -/
def movS (δ : Sl) (j d e : Nat) (o : Int) : Sl := fun a i =>
  if a = 32 then (if e ≤ i ∧ i < e + pg o then zI (j : Int) else if d ≤ i ∧ i < d + pg o then zI (-1) else δ 32 i)
  else if a = 18 ∧ i = j then zI ((e / 32 : Nat) : Int) else if a = 19 ∧ i = j then zI ((e % 32 : Nat) : Int) else δ a i
theorem moveTo_eq {δ : Sl} {j d e : Nat} {o : Int} (hj : j < 192) (h1 : δ 18 j = zI ((d / 32 : Nat) : Int)) (h2 : δ 19 j = zI ((d % 32 : Nat) : Int)) (h3 : δ 21 j = zI (o - 1)) (ho1 : 1 ≤ o) (ho2 : o ≤ 4) (hb : d + pg o ≤ 192) (hb2 : e + pg o ≤ 192) :
    De_moveTo δ (zI (j : Int)) (zI ((e / 32 : Nat) : Int)) (zI ((e % 32 : Nat) : Int)) = some ((), movS δ j d e o) := by
  have e1 := settleAt_eq (s := d / 32) (p := d % 32) (v := zI (-1)) hj h1 h2 h3 ho1 ho2 (by omega)
  rw [show 32 * (d / 32) + d % 32 = d by omega] at e1
  simp only [De_moveTo, show (-1 : Int32) = zI (-1) from rfl, e1, bd_some, bnd_ap]
  simp (disch := omega) only [zI_inb, zI_ix, Int.toNat_natCast, if_pos]
  rw [settleAt_eq (s := e / 32) (p := e % 32) (o := o) (v := zI (j : Int)) hj (by simp [wr_ap]) (by simp [wr_ap]) (by simp [wr_ap, st32, h3]) ho1 ho2 (by omega)]
  rw [show 32 * (e / 32) + e % 32 = e by omega]
  simp only [bd_some]
  congr 1; congr 1
  funext a i
  unfold movS wr st32
  grind (splits := 40)
