/-! ===== all worlds, the ring, the banks: the relation between the class's memory and the reference's ===== -/
/-- what the reference may change without touching the text it was told -/
def QU (μ μ' : Sl) : Prop := ∀ a i, a ≠ 45 → a ≠ 46 → a ≠ 47 → ¬ (a = 34 ∧ (i = 2 ∨ i = 25 ∨ i = 26 ∨ i = 28 ∨ i = 30 ∨ i = 31 ∨ i = 95)) → μ' a i = μ a i
theorem QU_refl (μ : Sl) : QU μ μ := fun _ _ _ _ _ _ => rfl
theorem QU_trans {μ μ' μ'' : Sl} (h : QU μ μ') (g : QU μ' μ'') : QU μ μ'' := fun a i x y z w => (g a i x y z w).trans (h a i x y z w)
theorem QU_SC {μ μ' : Sl} (h : SC μ μ') : QU μ μ' := fun a i _ y z w => h a i y z (fun q => w ⟨q.1, by omega⟩)
theorem QU_bst (μ : Sl) (b : Nat) (B : Nat → Int) : QU μ (bst μ b B) := fun _ _ x _ _ _ => bst_ne μ b B x
theorem QU_wr (μ : Sl) {i : Nat} (v : Int32) (h : i = 2 ∨ i = 25 ∨ i = 26 ∨ i = 28 ∨ i = 30 ∨ i = 31 ∨ i = 95) : QU μ (wr μ 34 i v) := fun a j _ _ _ w => by
  rw [wr_ap, if_neg (fun z => w ⟨z.1, by rw [z.2]; exact h⟩)]
/-- the script as told: the class's script k, the reference's rows -/
def TX (M : Mem) (k : Nat) (μ : Sl) (n S : Nat) : Prop := ∃ (qv pv wv : Nat → Int) (c wb dc sd : Int) (kd : Nat → Int) (x : Nat → (Nat → Int) × (Nat → Int)),
  (k < 2 ∧ M k 4 5 = zI (n : Int) ∧ M k 4 6 = zI (S : Int) ∧ (∀ s : Nat, 1 ≤ s → s < n → M k 8 s = zI (qv s)) ∧ (∀ s, s < n → M k 6 s = zI (pv s)) ∧ (∀ s, s < n → M k 7 s = zI (wv s)) ∧ ∀ s, s < n → M k 5 s = μ 37 s) ∧ (SM μ n S qv ∧ SN n S qv ∧ PM μ n pv ∧ PN n pv ∧ WMo μ n wv ∧ WN n wv) ∧ SR n M k μ c wb kd x ∧ (M k 4 8 = zI dc ∧ μ 41 5 = zI dc ∧ 1 ≤ dc ∧ dc ≤ 9) ∧ (M k 4 9 = zI sd ∧ μ 41 6 = zI sd ∧ 0 ≤ sd ∧ sd ≤ 99999)
theorem TX_SB {M : Mem} {k : Nat} {μ : Sl} {n S : Nat} (h : TX M k μ n S) : ∃ (qv pv wv : Nat → Int) (c wb : Int) (kd : Nat → Int) (x : Nat → (Nat → Int) × (Nat → Int)), (∀ δ : Sl, δ 10 0 = zI (k : Int) → SB M δ μ n S qv pv wv) ∧ SR n M k μ c wb kd x ∧ SM μ n S qv ∧ SN n S qv := by
  obtain ⟨qv, pv, wv, c, wb, dc, sd, kd, x, ⟨a0, a1, a2, a3, a4, a5, a6⟩, ⟨b1, b2, b3, b4, b5, b6⟩, h3, -, -⟩ := h
  exact ⟨qv, pv, wv, c, wb, kd, x, fun δ hδ => ⟨⟨k, hδ, by omega, a1, a2, a3⟩, b1, b2, ⟨k, hδ, by omega, a4⟩, b3, b4, ⟨k, hδ, by omega, a5⟩, b5, b6⟩, h3, b1, b2⟩
theorem TX_keep {M M' : Mem} {k : Nat} {μ μ' : Sl} {n S : Nat} (h : TX M k μ n S) (e1 : ∀ a i, 4 ≤ a → a ≤ 9 → M' k a i = M k a i) (e2 : QU μ μ') : TX M' k μ' n S := by
  obtain ⟨qv, pv, wv, c, wb, dc, sd, kd, x, ⟨a0, a1, a2, a3, a4, a5, a6⟩, ⟨b1, b2, b3, b4, b5, b6⟩, ⟨s1, s2, s3, s4, s5, s6⟩, ⟨d1, d2, d3⟩, f1, f2, f3⟩ := h
  have g : ∀ a i, a ≠ 45 → a ≠ 46 → a ≠ 47 → a ≠ 34 → μ' a i = μ a i := fun a i y1 y2 y3 y4 => e2 a i y1 y2 y3 (fun z => y4 z.1)
  have g1 : μ' 34 11 = μ 34 11 := e2 _ _ (by omega) (by omega) (by omega) (by omega)
  have g2 : μ' 34 13 = μ 34 13 := e2 _ _ (by omega) (by omega) (by omega) (by omega)
  refine ⟨qv, pv, wv, c, wb, dc, sd, kd, x, ⟨a0, ?_, ?_, fun s h1 h2 => ?_, fun s hs => ?_, fun s hs => ?_, fun s hs => ?_⟩, ⟨⟨?_, ?_, fun s h1 h2 => ?_⟩, b2, fun s hs => ?_, b4, fun s hs => ?_, b6⟩, ⟨?_, ?_, ?_, ?_, s5, fun i hi => ?_⟩, ⟨?_, ?_, d3⟩, ?_, ?_, f3⟩
  · rw [e1 _ _ (by omega) (by omega)]; exact a1
  · rw [e1 _ _ (by omega) (by omega)]; exact a2
  · rw [e1 _ _ (by omega) (by omega)]; exact a3 s h1 h2
  · rw [e1 _ _ (by omega) (by omega)]; exact a4 s hs
  · rw [e1 _ _ (by omega) (by omega)]; exact a5 s hs
  · rw [e1 _ _ (by omega) (by omega), g _ _ (by omega) (by omega) (by omega) (by omega)]; exact a6 s hs
  · rw [g1]; exact b1.1
  · rw [g _ _ (by omega) (by omega) (by omega) (by omega)]; exact b1.2.1
  · rw [g _ _ (by omega) (by omega) (by omega) (by omega)]; exact b1.2.2 s h1 h2
  · rw [g _ _ (by omega) (by omega) (by omega) (by omega)]; exact b3 s hs
  · rw [g _ _ (by omega) (by omega) (by omega) (by omega)]; exact b5 s hs
  · rw [e1 _ _ (by omega) (by omega)]; exact s1
  · rw [e1 _ _ (by omega) (by omega)]; exact s2
  · rw [g2]; exact s3
  · rw [g _ _ (by omega) (by omega) (by omega) (by omega)]; exact s4
  · obtain ⟨t1, t2, t3, t4, t5⟩ := s6 i hi
    exact ⟨by rw [e1 _ _ (by omega) (by omega)]; exact t1, fun j hj => by rw [e1 _ _ (by omega) (by omega)]; exact t2 j hj, by rw [g _ _ (by omega) (by omega) (by omega) (by omega)]; exact t3, fun j hj => by rw [g _ _ (by omega) (by omega) (by omega) (by omega)]; exact t4 j hj, t5⟩
  · rw [e1 _ _ (by omega) (by omega)]; exact d1
  · rw [g _ _ (by omega) (by omega) (by omega) (by omega)]; exact d2
  · rw [e1 _ _ (by omega) (by omega)]; exact f1
  · rw [g _ _ (by omega) (by omega) (by omega) (by omega)]; exact f2
/-- the tape, and what was wrong last -/
def TP (M : Mem) (μ : Sl) : Prop := ∃ t : Nat, t ≤ 700 ∧ M 0 0 1 = zI (t : Int) ∧ μ 34 1 = zI (t : Int) ∧ (∀ i, i < 700 → M 0 1 i = μ 35 i ∧ ∃ v : Int, 0 ≤ v ∧ v < 256 ∧ M 0 1 i = zI v) ∧ M 0 2 0 = μ 34 4 ∧ M 0 2 1 = μ 34 5
theorem TP_keep {M M' : Mem} {μ μ' : Sl} (h : TP M μ) (e1 : M' 0 0 1 = M 0 0 1) (e2 : ∀ i, M' 0 1 i = M 0 1 i) (e3 : M' 0 2 0 = M 0 2 0) (e4 : M' 0 2 1 = M 0 2 1) (hq : QU μ μ') : TP M' μ' := by
  obtain ⟨t, h1, h2, h3, h4, h5, h6⟩ := h
  refine ⟨t, h1, by rw [e1]; exact h2, ?_, fun i hi => ?_, ?_, ?_⟩
  · rw [hq 34 1 (by omega) (by omega) (by omega) (by omega)]; exact h3
  · rw [e2, hq 35 i (by omega) (by omega) (by omega) (by omega)]; exact h4 i hi
  · rw [e3, hq 34 4 (by omega) (by omega) (by omega) (by omega)]; exact h5
  · rw [e4, hq 34 5 (by omega) (by omega) (by omega) (by omega)]; exact h6
/-- the tables of words and forms -/
def tbl (f : Nat → Int32) (l : List Int) : Prop := ∀ i v, l[i]? = some v → f i = zI v
def wdT : List Int := [654347424, 538154560, 592957472, 647828480, 89267380, 139560736, 642945024, 437780480, 253803136, 214617344, 687508736, 643389600]
def wrT : List Int := [115, 112, 97, 99, 101, 32, 112, 97, 103, 101, 114, 32, 113, 117, 111, 116, 97, 32, 115, 105, 122, 101, 32, 98, 117, 100, 103, 101, 116, 32, 100, 101, 99, 97, 121, 32, 115, 101, 101, 100, 32, 109, 97, 112, 32, 103, 114, 97, 110, 116, 32, 102, 108, 117, 115, 104, 32, 116, 111, 117, 99, 104, 32, 115, 101, 114, 118, 101, 32]
def TB (M : Mem) (μ : Sl) : Prop := tbl (M 0 48) wdT ∧ tbl (M 0 49) [0, 0, 0, 1, 0, 1] ∧ tbl (M 0 50) [5, 31, 3, 7, 1, 4] ∧ tbl (M 0 51) [0, 1, 0, 1, 2, 3] ∧ tbl (M 0 52) [0, 1, 0, 1, 2] ∧ tbl (M 0 53) [0, 1, 2, 3, 4] ∧ tbl (M 0 54) [0, 1, 5] ∧ tbl (M 0 55) [0] ∧ tbl (μ 36) wrT
theorem TB_keep {M M' : Mem} {μ μ' : Sl} (h : TB M μ) (e : ∀ a i, 48 ≤ a → M' 0 a i = M 0 a i) (hq : ∀ i, μ' 36 i = μ 36 i) : TB M' μ' := by
  have g : ∀ a, 48 ≤ a → M' 0 a = M 0 a := fun a ha => funext fun i => e a i ha
  have g2 : μ' 36 = μ 36 := funext hq
  unfold TB
  rw [g 48 (by omega), g 49 (by omega), g 50 (by omega), g 51 (by omega), g 52 (by omega), g 53 (by omega), g 54 (by omega), g 55 (by omega), g2]
  exact h
/-- a world, held against a bank; L bounds what was counted -/
def WH (n S k : Nat) (δ : Sl) (B : Nat → Int) (L : Int) : Prop := ∃ (σ : Nat → Nat) (bn : Nat) (A : Ab) (dep : Nat → Nat) (J : List Jb) (N e : Int), RC n S δ σ bn B A dep J N ∧ WX (e, 0) n S δ B ∧ δ 10 0 = zI (k : Int) ∧ N ≤ L ∧ B 2196 ≤ L
theorem WH_mono {n S k : Nat} {δ : Sl} {B : Nat → Int} {L L' : Int} (h : WH n S k δ B L) (hL : L ≤ L') : WH n S k δ B L' := by
  obtain ⟨σ, bn, A, dep, J, N, e, h1, h2, h3, h4, h5⟩ := h
  exact ⟨σ, bn, A, dep, J, N, e, h1, h2, h3, by omega, by omega⟩
/-- the ring: the world in use w, the spare one s, the one to try out t, the past -/
def RG (n0 : Nat) (M : Mem) (w s t nx κ : Nat) : Prop := (M 0 0 4 = zI (w : Int) ∧ M 0 0 5 = zI (s : Int) ∧ M 0 0 6 = zI (t : Int) ∧ M 0 0 8 = zI (nx : Int) ∧ M 0 0 9 = zI (κ : Int)) ∧ (nx < 20 ∧ κ ≤ 20 ∧ 2 ≤ w ∧ w < n0 ∧ 2 ≤ s ∧ s < n0 ∧ 2 ≤ t ∧ t < n0 ∧ w ≠ s ∧ w ≠ t ∧ s ≠ t ∧ n0 < 1000) ∧ (∀ i, i < 20 → M 0 3 i = zI (-1) ∨ ∃ p : Nat, M 0 3 i = zI (p : Int) ∧ 2 ≤ p ∧ p < n0 ∧ p ≠ w ∧ p ≠ s ∧ p ≠ t) ∧ ∀ (i j p : Nat), i < 20 → j < 20 → p < n0 → M 0 3 i = zI (p : Int) → M 0 3 j = zI (p : Int) → i = j
/-- what is kept: the j-th of κ at its place of the ring, against its bank -/
def KP (n S k : Nat) (M : Mem) (nx κ : Nat) (C : Nat → Nat → Int) (L : Int) : Prop := ∀ j, j < κ → ∃ p : Nat, M 0 3 ((nx + 20 - κ + j) % 20) = zI (p : Int) ∧ p < 1000 ∧ WH n S k (M p) (C j) L
/-- no space has more pages than its quota: now, and in what is kept -/
def QJ (μ : Sl) (n S : Nat) (B : Nat → Int) : Prop := ∀ qv : Nat → Int, SM μ n S qv → SN n S qv → QB n qv B
def QA (μ : Sl) (n S κ : Nat) (B : Nat → Int) (C : Nat → Nat → Int) : Prop := QJ μ n S B ∧ ∀ j, j < κ → QJ μ n S (C j)
theorem QJ_of {μ μ' : Sl} {n S : Nat} {B : Nat → Int} (h : QJ μ n S B) (e1 : μ' 34 11 = μ 34 11) (e2 : μ' 41 3 = μ 41 3) (e3 : ∀ s, s < 6 → μ' 40 s = μ 40 s) : QJ μ' n S B := fun qv hm hn => h qv ⟨by rw [← e1]; exact hm.1, by rw [← e2]; exact hm.2.1, fun s h1 h2 => by
  have := hn.1
  rw [← e3 s (by omega)]; exact hm.2.2 s h1 h2⟩ hn
theorem QA_of {μ μ' : Sl} {n S κ : Nat} {B : Nat → Int} {C : Nat → Nat → Int} (h : QA μ n S κ B C) (e1 : μ' 34 11 = μ 34 11) (e2 : μ' 41 3 = μ 41 3) (e3 : ∀ s, s < 6 → μ' 40 s = μ 40 s) : QA μ' n S κ B C := ⟨QJ_of h.1 e1 e2 e3, fun j hj => QJ_of (h.2 j hj) e1 e2 e3⟩
theorem QJ_QU {μ μ' : Sl} {n S : Nat} {B : Nat → Int} (h : QJ μ n S B) (hq : QU μ μ') : QJ μ' n S B := QJ_of h (hq _ _ (by omega) (by omega) (by omega) (by omega)) (hq _ _ (by omega) (by omega) (by omega) (by omega)) (fun s _ => hq _ _ (by omega) (by omega) (by omega) (by omega))
theorem QA_QU {μ μ' : Sl} {n S κ : Nat} {B : Nat → Int} {C : Nat → Nat → Int} (h : QA μ n S κ B C) (hq : QU μ μ') : QA μ' n S κ B C := ⟨QJ_QU h.1 hq, fun j hj => QJ_QU (h.2 j hj) hq⟩
theorem QJ_QM {μ : Sl} {n S : Nat} {B B' : Nat → Int} (h : QJ μ n S B) (g : QMq μ n S B B') : QJ μ n S B' := fun qv hm hn => (g qv hm hn).qb (h qv hm hn)
theorem QJ_zero {μ : Sl} {n S : Nat} {B : Nat → Int} (h : ∀ k, 32 ≤ k → k < 192 → B k = 0) : QJ μ n S B := fun qv hm hn s h1 h2 => by
  have g1 := hn.1
  have g2 := hn.2.2 s h1 h2
  have e : pgF B s = 0 := by
    unfold pgF
    rw [fb_sm_cong (g := fun _ => 0) (fun p hp => by rw [h _ (by omega) (by omega)]; rfl), fb_sm_const, Nat.mul_zero]
  rw [e]
  omega
/-- the relation between the class's memory and the reference's, c calls after the start -/
def Inv (c n0 : Nat) (M : Mem) (μ : Sl) : Prop := ∃ (n S k w s t nx κ : Nat) (B : Nat → Int) (C : Nat → Nat → Int), n0 ≤ 5 + c ∧ RG n0 M w s t nx κ ∧ (k < 2 ∧ M 0 0 2 = zI ((1 - k : Nat) : Int)) ∧ TX M k μ n S ∧ TP M μ ∧ TB M μ ∧ (MB μ 0 ∧ BK μ 0 B ∧ BH μ κ C) ∧ WH n S k (M w) B (100 * (c : Int)) ∧ KP n S k M nx κ C (100 * (c : Int)) ∧ QA μ n S κ B C
theorem zN {p q : Nat} (hp : p < 2147483648) (hq : q < 2147483648) (h : zI (p : Int) = zI (q : Int)) : p = q := by
  rw [zI_eq (by omega) (by omega) (by omega) (by omega)] at h
  omega
theorem zNm {p : Nat} (hp : p < 2147483648) : zI (p : Int) ≠ zI (-1) := by
  intro h
  rw [zI_eq (by omega) (by omega) (by omega) (by omega)] at h
  omega
theorem rgK_ne {ρ : Sl} {nx κ s s' a i : Nat} (h1 : a ≠ 3) (h2 : ¬ (a = 0 ∧ (i = 5 ∨ i = 8 ∨ i = 9))) : rgK ρ nx κ s s' a i = ρ a i := by
  rw [rgK, wr_ap, if_neg (by omega), wr_ap, if_neg (by omega), wr_ap, if_neg (by omega), wr_ap, if_neg (by omega)]
theorem rgK_3 {ρ : Sl} {nx κ s s' : Nat} (i : Nat) : rgK ρ nx κ s s' 3 i = if i = nx then zI (s : Int) else ρ 3 i := by
  rw [rgK, wr_ap, if_neg (by omega), wr_ap, if_neg (by omega), wr_ap, if_neg (by omega), wr_ap]
  by_cases g : i = nx
  · rw [if_pos ⟨rfl, g⟩, if_pos g]
  · rw [if_neg (fun z => g z.2), if_neg g]
theorem RG_keep {n0 n0' : Nat} {M M3 : Mem} {w s t nx κ s' : Nat} (h : RG n0 M w s t nx κ) (e0 : M3 0 = rgK (M 0) nx κ s s') (hs' : (n0' = n0 ∧ M 0 3 nx = zI (s' : Int) ∧ s' < n0) ∨ (n0' = n0 + 1 ∧ s' = n0)) (hn' : n0' < 1000) : RG n0' M3 w s' t ((nx + 1) % 20) (if κ < 20 then κ + 1 else 20) := by
  obtain ⟨⟨a1, a2, a3, a4, a5⟩, ⟨b1, b2, b3, b4, b5, b6, b7, b8, b9, b10, b11, b12⟩, hc, hi⟩ := h
  have r3 : ∀ i, M3 0 3 i = if i = nx then zI (s : Int) else M 0 3 i := fun i => by rw [e0, rgK_3]
  have hr : ∀ (j p : Nat), j < 20 → p < 2147483648 → M 0 3 j = zI (p : Int) → p < n0 ∧ p ≠ s := by
    intro j p hj hp hz
    rcases hc j hj with z | ⟨p', z1, z2, z3, z4, z5, z6⟩
    · exact absurd (hz.symm.trans z) (zNm hp)
    · have : p = p' := zN hp (by omega) (hz.symm.trans z1)
      omega
  have q : s' ≠ w ∧ s' ≠ s ∧ s' ≠ t ∧ 2 ≤ s' ∧ s' < n0' ∧ n0 ≤ n0' ∧ ∀ i (p : Nat), i < 20 → i ≠ nx → p < n0 → M 0 3 i = zI (p : Int) → p ≠ s' := by
    rcases hs' with ⟨g1, g2, g3⟩ | ⟨g1, g2⟩
    · rcases hc nx b1 with z | ⟨p, z1, z2, z3, z4, z5, z6⟩
      · exact absurd (g2.symm.trans z) (zNm (by omega))
      · have e : p = s' := zN (by omega) (by omega) (z1.symm.trans g2)
        exact ⟨by omega, by omega, by omega, by omega, by omega, by omega, fun i p' y1 y2 y3 y4 y5 => y2 (hi i nx p' y1 b1 y3 y4 (by rw [y5]; exact g2))⟩
    · exact ⟨by omega, by omega, by omega, by omega, by omega, by omega, fun i p y1 y2 y3 y4 => by omega⟩
  obtain ⟨q1, q2, q3, q4, q5, q6, q7⟩ := q
  refine ⟨⟨?_, ?_, ?_, ?_, ?_⟩, ⟨by omega, by split <;> omega, b3, by omega, q4, q5, b7, by omega, fun z => q1 z.symm, b10, q3, hn'⟩, fun i hi1 => ?_, fun i j p g1 g2 g3 g4 g5 => ?_⟩
  · rw [e0, rgK_ne (by omega) (by omega)]; exact a1
  · rw [e0, rgK, wr_ap, if_neg (by omega), wr_ap, if_neg (by omega), wr_ap, if_pos ⟨rfl, rfl⟩]
  · rw [e0, rgK_ne (by omega) (by omega)]; exact a3
  · rw [e0, rgK, wr_ap, if_neg (by omega), wr_ap, if_pos ⟨rfl, rfl⟩]
  · rw [e0, rgK, wr_ap, if_pos ⟨rfl, rfl⟩]
  · rw [r3]
    by_cases g : i = nx
    · rw [if_pos g]; exact .inr ⟨s, rfl, b5, by omega, fun z => b9 z.symm, fun z => q2 z.symm, b11⟩
    · rw [if_neg g]
      rcases hc i hi1 with z | ⟨p, z1, z2, z3, z4, z5, z6⟩
      · exact .inl z
      · exact .inr ⟨p, z1, z2, by omega, z4, q7 i p hi1 g z3 z1, z6⟩
  · rw [r3] at g4 g5
    by_cases x : i = nx <;> by_cases y : j = nx
    · omega
    · rw [if_pos x] at g4
      rw [if_neg y] at g5
      have := zN (by omega) (by omega) g4
      have := hr j p g2 (by omega) g5
      omega
    · rw [if_neg x] at g4
      rw [if_pos y] at g5
      have := zN (by omega) (by omega) g5
      have := hr i p g1 (by omega) g4
      omega
    · rw [if_neg x] at g4
      rw [if_neg y] at g5
      exact hi i j p g1 g2 (hr i p g1 (by omega) g4).1 g4 g5
theorem KP_keep {n S k : Nat} {n0 : Nat} {M M3 : Mem} {w s t nx κ s' : Nat} {C : Nat → Nat → Int} {B : Nat → Int} {L L' : Int} (h : RG n0 M w s t nx κ) (hK : KP n S k M nx κ C L) (hL : L ≤ L') (e0 : M3 0 = rgK (M 0) nx κ s s') (eo : ∀ p, 2 ≤ p → p < n0 → p ≠ w → p ≠ s → M3 p = M p) (hws : WH n S k (M3 s) B L) : KP n S k M3 ((nx + 1) % 20) (if κ < 20 then κ + 1 else 20) (ckp κ C B) L' := by
  obtain ⟨⟨a1, a2, a3, a4, a5⟩, ⟨b1, b2, b3, b4, b5, b6, b7, b8, b9, b10, b11, b12⟩, hc, hi⟩ := h
  have r3 : ∀ i, M3 0 3 i = if i = nx then zI (s : Int) else M 0 3 i := fun i => by rw [e0, rgK_3]
  have old : ∀ j, j < κ → (nx + 20 - κ + j) % 20 ≠ nx → ∃ p : Nat, M3 0 3 ((nx + 20 - κ + j) % 20) = zI (p : Int) ∧ p < 1000 ∧ WH n S k (M3 p) (C j) L' := by
    intro j hj hne
    obtain ⟨p, p1, p2, p3⟩ := hK j hj
    rcases hc ((nx + 20 - κ + j) % 20) (by omega) with z | ⟨p', z1, z2, z3, z4, z5, z6⟩
    · exact absurd (p1.symm.trans z) (zNm (by omega))
    · have e : p = p' := zN (by omega) (by omega) (p1.symm.trans z1)
      refine ⟨p, by rw [r3, if_neg hne]; exact p1, p2, ?_⟩
      rw [eo p (by omega) (by omega) (by omega) (by omega)]
      exact WH_mono p3 hL
  intro j hj
  by_cases c : κ < 20
  · rw [if_pos c] at hj ⊢
    have es : ((nx + 1) % 20 + 20 - (κ + 1) + j) % 20 = (nx + 20 - κ + j) % 20 := by omega
    rw [es]
    unfold ckp
    rw [if_pos c]
    by_cases z : j = κ
    · rw [if_pos z]
      refine ⟨s, by rw [r3, if_pos (by omega)], by omega, WH_mono hws hL⟩
    · rw [if_neg z]
      exact old j (by omega) (by omega)
  · have hk : κ = 20 := by omega
    subst hk
    rw [if_neg c] at hj ⊢
    have es : ((nx + 1) % 20 + 20 - 20 + j) % 20 = (nx + 1 + j) % 20 := by omega
    rw [es]
    unfold ckp
    rw [if_neg c]
    by_cases z : j = 19
    · rw [if_pos z]
      refine ⟨s, by rw [r3, if_pos (by omega)], by omega, WH_mono hws hL⟩
    · rw [if_neg z]
      have := old (j + 1) (by omega) (by omega)
      rw [show (nx + 20 - 20 + (j + 1)) % 20 = (nx + 1 + j) % 20 by omega] at this
      exact this
