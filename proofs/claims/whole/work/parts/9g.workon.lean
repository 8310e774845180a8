/-! ===== work answers alike ===== -/
theorem aW_sub {A : Ab} {x : Nat} {id r : Int} {L : List Nat} {y : Nat} (h : Lv (aW A x id r L) y) : Lv A y ∧ (aW A x id r L).1 0 y = A.1 0 y := by
  have h2 : ∀ y, Lv (aW2 A x r) y → Lv A y ∧ (aW2 A x r).1 0 y = A.1 0 y := fun y hy => by
    unfold aW2 at hy ⊢
    by_cases c : rwv A x r = 0
    · rw [if_pos c] at hy ⊢
      have := (aW1_lv y).mp (aGo_lv.mp hy).1
      exact ⟨this, by rw [aGo_0 hy, aW1_j (by omega) (by omega)]⟩
    · rw [if_neg c] at hy ⊢
      exact ⟨(aW1_lv y).mp hy, aW1_j (by omega) (by omega)⟩
  unfold aW at h ⊢
  by_cases c : L = []
  · rw [if_pos c] at h ⊢
    have hy : Lv (aW2 A x r) y := by
      refine ⟨h.1, ?_⟩
      have := h.2
      rw [aE_ne _ _ (by omega)] at this; exact this
    obtain ⟨k1, k2⟩ := h2 y hy
    exact ⟨k1, by rw [aE_ne _ _ (by omega)]; exact k2⟩
  · rw [if_neg c] at h ⊢
    exact h2 y h
theorem work_step {n S : Nat} {A : Ab} {dep : Nat → Nat} {δ : Sl} {σ : Nat → Nat} {bn : Nat} {μ : Sl} {b : Nat} {B : Nat → Int} {N id s p r : Int} {x : Nat} {L : List Nat} {J : List Jb} (M : Mem) (hR : RC n S δ σ bn B A dep ((id, s, p, r, x :: L) :: J) N) (hb : MB μ b) (hN : N < 2147483648) :
    ∃ δ' μ' B', Wo_workOnce M δ = some ((), δ') ∧ Mo_isWorking (bst μ b B) = some (1, bst μ' b B') ∧ SC μ μ' ∧ RC n S δ' σ bn B' (aW A x id r L) dep (jW id s p r L J) N ∧ (∀ a i, a ≠ 11 → ¬ (a = 10 ∧ i = 3) → (a < 17 ∨ 32 < a) → δ' a i = δ a i) ∧ δ' 17 19 = δ 17 19 ∧ (∀ k, 1920 ≤ k → k < 1944 ∨ 1944 < k ∧ k < 1950 ∨ 2172 ≤ k → k ≠ 2201 → B' k = B k) ∧ B' 2201 = B 2201 + 1 := by
  obtain ⟨h, hC, hM, hW, hwd, hJ, hJC, hJM, h4, h97⟩ := hR
  obtain ⟨δ', c1, c2, c3, c4, c5, c6, c7⟩ := c_once M h hC hJ hN hJC
  obtain ⟨μ', B', m1, m2, m3, m4, m5, m6⟩ := m_once hb h hM hJ hN hJM
  refine ⟨δ', μ', B', c1, m1, m2, ⟨c3, c2, m3, fun s hs => ?_, fun y hy ho => ?_, c5, c4, m4, by rw [c6 _ _ (by omega) (by omega) (by omega)]; exact h4, by rw [m5 _ (by omega) (by omega) (by omega)]; exact h97⟩, c6, c7, m5, m6⟩
  · rw [c6 _ _ (by omega) (by omega) (by omega), m5 _ (by omega) (by omega) (by omega), m5 _ (by omega) (by omega) (by omega), m5 _ (by omega) (by omega) (by omega), m5 _ (by omega) (by omega) (by omega)]; exact hW s hs
  · obtain ⟨k1, k2⟩ := aW_sub hy
    rw [k2] at ho
    have := k1.1
    have : 1920 ≤ wdc y ∧ wdc y < 1944 := by unfold wdc; omega
    rw [m5 _ (by omega) (by omega) (by omega)]; exact hwd y k1 ho
theorem aW_0 (A : Ab) (x : Nat) (id r : Int) (L : List Nat) : ∀ k, k < 192 → (aW A x id r L).1 0 k = A.1 0 k ∨ (aW A x id r L).1 0 k = 0 := fun k _ => by
  have h1 : ∀ v, (aW1 A x v).1 0 k = A.1 0 k := fun v => by
    unfold aW1 setA
    dsimp only
    rw [if_neg (by omega), if_neg (by omega)]
  have h2 : (aW2 A x r).1 0 k = A.1 0 k ∨ (aW2 A x r).1 0 k = 0 := by
    unfold aW2
    by_cases z : rwv A x r = 0
    · rw [if_pos z]
      show (if 0 = 0 ∧ bl (aW1 A x (rwv A x r)) x k = true then (0 : Int) else (aW1 A x (rwv A x r)).1 0 k) = _ ∨ (if 0 = 0 ∧ bl (aW1 A x (rwv A x r)) x k = true then (0 : Int) else (aW1 A x (rwv A x r)).1 0 k) = 0
      by_cases y : bl (aW1 A x (rwv A x r)) x k = true
      · right; rw [if_pos ⟨rfl, y⟩]
      · left; rw [if_neg (fun q => y q.2), h1]
    · rw [if_neg z]; exact .inl (h1 _)
  unfold aW
  by_cases z : L = []
  · rw [if_pos z]
    have : (aE (aW2 A x r) id).1 0 k = (aW2 A x r).1 0 k := by unfold aE; dsimp only; rw [if_neg (by omega)]
    rw [this]; exact h2
  · rw [if_neg z]; exact h2
theorem work_loop {n S : Nat} {b : Nat} (M : Mem) {w : Int} (hw1 : -2147483648 ≤ w) (hw2 : w < 2147483648) {N : Int} (hN : N < 2147483648) {σ : Nat → Nat} {bn : Nat} {dep : Nat → Nat} : ∀ (T : Nat) (k i : Nat) (δ μ : Sl) (B : Nat → Int) (A : Ab) (J : List Jb), (jL J).length ≤ T → T < k → i + T < 1000 → RC n S δ σ bn B A dep J N → MB μ b →
    ∃ (c : Nat) (δ' μ' : Sl) (B' : Nat → Int) (A' : Ab) (J' : List Jb), Wo_workOn_2 M k (zI w) (zI (i : Int)) δ = Wo_workOn_24 M (zI ((i + c : Nat) : Int)) δ' ∧ Mo_worked_2 k (zI w) (zI (i : Int)) (bst μ b B) = some (zI ((i + c : Nat) : Int), bst μ' b B') ∧ c ≤ T ∧ SC μ μ' ∧ RC n S δ' σ bn B' A' dep J' N ∧ (∀ a i, a ≠ 11 → ¬ (a = 10 ∧ i = 3) → (a < 17 ∨ 32 < a) → δ' a i = δ a i) ∧ δ' 17 19 = δ 17 19 ∧ (∀ k, 1920 ≤ k → k < 1944 ∨ 1944 < k ∧ k < 1950 ∨ 2172 ≤ k → k ≠ 2201 → B' k = B k) ∧ B' 2201 = B 2201 + (c : Int) ∧ QMq μ n S B B' := by
  intro T
  induction T with
  | zero =>
    intro k i δ μ B A J hT hk hi hR hb
    obtain ⟨q, rfl⟩ : ∃ q, k = q + 1 := ⟨k - 1, by omega⟩
    have hJ0 : J = [] := by
      cases J with
      | nil => rfl
      | cons e J =>
        have h1 := hR.2.2.2.2.2.1.1.2.2 e (by simp)
        have h2 := h1.2.2.2.2.2.1
        have h3 : (jL (e :: J)).length = e.2.2.2.2.length + (jL J).length := by show (e.2.2.2.2 ++ jL J).length = _; simp
        have h4 : 0 < e.2.2.2.2.length := List.length_pos_iff.mpr h2
        omega
    subst hJ0
    refine ⟨0, δ, μ, B, A, [], ?_, ?_, by omega, fun _ _ _ _ _ => rfl, hR, fun _ _ _ _ _ => rfl, rfl, fun _ _ _ _ => rfl, by simp, QMq.refl _ _ _ _⟩
    · rw [Wo_workOn_2, hR.2.2.2.2.2.2.1.1]
      by_cases c : zI w ≤ zI (i : Int)
      · rw [if_pos c]; rfl
      · rw [if_neg c, if_pos (by decide)]; rfl
    · have o1 := m_of hb B (k := 1944) (by omega) (by omega)
      rw [show (1944 : Int).toNat = 1944 from rfl, hR.2.2.2.2.2.2.2.1.1] at o1
      rw [Mo_worked_2]
      by_cases c : zI w ≤ zI (i : Int)
      · rw [if_pos c]; rfl
      · rw [if_neg c, Mo_isWorking, show (1944 : Int32) = zI 1944 from rfl, o1, bp_some, if_pos (by rfl), bd_some, if_pos rfl]; rfl
  | succ T ih =>
    intro k i δ μ B A J hT hk hi hR hb
    obtain ⟨q, rfl⟩ : ∃ q, k = q + 1 := ⟨k - 1, by omega⟩
    by_cases c : zI w ≤ zI (i : Int)
    · refine ⟨0, δ, μ, B, A, J, ?_, ?_, by omega, fun _ _ _ _ _ => rfl, hR, fun _ _ _ _ _ => rfl, rfl, fun _ _ _ _ => rfl, by simp, QMq.refl _ _ _ _⟩
      · rw [Wo_workOn_2, if_pos c]; rfl
      · rw [Mo_worked_2, if_pos c]; rfl
    · cases J with
      | nil => exact (by
          obtain ⟨c', δ', μ', B', A', J', g1, g2, g3, g4⟩ := ih (q + 1) i δ μ B A [] (by simp [jL]) (by omega) (by omega) hR hb
          exact ⟨c', δ', μ', B', A', J', g1, g2, by omega, g4⟩)
      | cons e J =>
        obtain ⟨id, s, p, r, L0⟩ := e
        have hne : L0 ≠ [] := (hR.2.2.2.2.2.1.1.2.2 _ (List.mem_cons_self ..)).2.2.2.2.2.1
        cases L0 with
        | nil => exact absurd rfl hne
        | cons x L =>
          obtain ⟨δ1, μ1, B1, s1, s2, s3, s4, s5, s6, s7, s8⟩ := work_step M hR hb hN
          have hlen1 : (jL ((id, s, p, r, x :: L) :: J)).length = L.length + 1 + (jL J).length := by show ((x :: L) ++ jL J).length = _; simp; omega
          have hlen2 : (jL (jW id s p r L J)).length = L.length + (jL J).length := by
            unfold jW
            by_cases z : L = []
            · rw [if_pos z, z]; simp
            · rw [if_neg z]; show (L ++ jL J).length = _; simp
          obtain ⟨c', δ', μ', B', A', J', g1, g2, g3, g4, g5, g6, g7, g8, g9, gQ⟩ := ih q (i + 1) δ1 μ1 B1 _ _ (by omega) (by omega) (by omega) s4 (SC_MB s3 hb)
          have h6 := hR.2.2.2.2.2.1.1.1
          simp only [List.length_cons] at h6
          refine ⟨c' + 1, δ', μ', B', A', J', ?_, ?_, by omega, SC_trans s3 g4, g5, fun a i h1 h2 h3 => by rw [g6 a i h1 h2 h3, s5 a i h1 h2 h3], by rw [g7, s6], fun k h1 h2 h3 => by rw [g8 k h1 h2 h3, s7 k h1 h2 h3], by rw [g9, s8]; omega, QMq.trans (QMq.MR hR.1.1 hR.2.2.1 s4.2.2.1 (fun s hs => pgF_le (aW_0 A x id r L) hs)) s3 gQ⟩
          · rw [Wo_workOn_2, if_neg c, hR.2.2.2.2.2.2.1.1, if_neg (by simp only [List.length_cons]; rw [zI_lit, zI_le (by omega) (by omega) (by omega) (by omega)]; omega), s1, bd_some, bnd_ap, show (1 : Int32) = zI 1 from rfl, zI_add, show (i : Int) + 1 = ((i + 1 : Nat) : Int) by omega, g1, show i + 1 + c' = i + (c' + 1) by omega]
          · rw [Mo_worked_2, if_neg c, s2, bd_some, if_neg (by decide), bnd_ap, show (1 : Int32) = zI 1 from rfl, zI_add, show (i : Int) + 1 = ((i + 1 : Nat) : Int) by omega, g2, show i + 1 + c' = i + (c' + 1) by omega]
def KOut (n S : Nat) (δ : Sl) (μ : Sl) (b : Nat) (B : Nat → Int) (N : Int) (σ : Nat → Nat) (bn : Nat) (dep : Nat → Nat) (R1 R2 : Option (Int32 × Sl)) : Prop :=
  ∃ (c : Nat) (δ' μ' : Sl) (B' : Nat → Int) (A' : Ab) (J' : List Jb), R1 = some (zI (c : Int), δ') ∧ R2 = some (zI (c : Int), bst μ' b B') ∧ c ≤ 192 ∧ SC μ μ' ∧ RC n S δ' σ bn B' A' dep J' N ∧ (∀ a i, a ≠ 11 → ¬ (a = 10 ∧ (i = 3 ∨ i = 14)) → (a < 17 ∨ 32 < a) → δ' a i = δ a i) ∧ δ' 17 19 = δ 17 19 ∧ δ' 10 14 = δ 10 14 + zI (c : Int) ∧ (∀ k, 1920 ≤ k → k < 1944 ∨ 1944 < k ∧ k < 1950 ∨ 2172 ≤ k → k ≠ 2201 → B' k = B k) ∧ B' 2201 = B 2201 + (c : Int) ∧ QMq μ n S B B'
theorem RC_fld {n S : Nat} {δ δ' : Sl} {σ : Nat → Nat} {bn : Nat} {B : Nat → Int} {A : Ab} {dep : Nat → Nat} {J : List Jb} {N : Int} (h : RC n S δ σ bn B A dep J N) (e1 : ∀ a i, a = 11 ∨ a = 15 ∨ (17 ≤ a ∧ a ≤ 32) → δ' a i = δ a i) (e2 : δ' 10 3 = δ 10 3) (e3 : δ' 10 4 = δ 10 4) : RC n S δ' σ bn B A dep J N := by
  obtain ⟨h, hC, hM, hW, hwd, hJ, hJC, hJM, h4, h97⟩ := h
  refine ⟨h, cr_frame hC (fun a i h1 h2 => e1 a i (by omega)) (e1 _ _ (by omega)) (e1 _ _ (by omega)) (e1 _ _ (by omega)), hM, fun s hs => by rw [e1 _ _ (by omega)]; exact hW s hs, hwd, hJ, JC_keep hJC e2 (fun i => e1 _ _ (by omega)), hJM, by rw [e3]; exact h4, h97⟩
theorem work_on {n S : Nat} {A : Ab} {dep : Nat → Nat} {δ : Sl} {σ : Nat → Nat} {bn : Nat} {μ : Sl} {b : Nat} {B : Nat → Int} {N : Int} {J : List Jb} (M : Mem) (hR : RC n S δ σ bn B A dep J N) (hb : MB μ b) (hN : N < 2147483648) {w : Int} (hw1 : -2147483648 ≤ w) (hw2 : w < 2147483648) :
    KOut n S δ μ b B N σ bn dep (Wo_workOn M δ (zI w)) (Mo_worked (bst μ b B) (zI w)) := by
  have hl := jL_len hR.2.2.2.2.2.1
  obtain ⟨c, δ', μ', B', A', J', g1, g2, g3, g4, g5, g6, g7, g8, g9, gQ⟩ := work_loop (b := b) M hw1 hw2 hN 192 FU 0 δ μ B A J hl (FU_gt (by omega)) (by omega) hR hb
  rw [show 0 + c = c by omega] at g1 g2
  refine ⟨c, wr δ' 10 14 (δ' 10 14 + zI (c : Int)), μ', B', A', J', ?_, ?_, g3, g4, RC_fld g5 (fun a i h => by rw [wr_ap, if_neg (by omega)]) (by rw [wr_ap, if_neg (by omega)]) (by rw [wr_ap, if_neg (by omega)]), fun a i h1 h2 h3 => by rw [wr_ap, if_neg (by omega), g6 a i h1 (by omega) h3], by rw [wr_ap, if_neg (by omega), g7], by rw [wr_ap, if_pos ⟨rfl, rfl⟩, g6 _ _ (by omega) (by omega) (by omega)], g8, g9, gQ⟩
  · have g1' : Wo_workOn_2 M FU (zI w) (0 : Int32) δ = _ := g1
    unfold Wo_workOn
    rw [bnd_ap, g1', Wo_workOn_24, bnd_ap]
  · have g2' : Mo_worked_2 FU (zI w) (0 : Int32) (bst μ b B) = _ := g2
    unfold Mo_worked
    rw [bnd_ap, g2']
