/-- the script's steps, as both sides have them -/
def SR (n : Nat) (M : Mem) (k : Nat) (μ : Sl) (c wb : Int) (kd : Nat → Int) (x : Nat → (Nat → Int) × (Nat → Int)) : Prop := M k 4 10 = zI c ∧ M k 4 7 = zI wb ∧ μ 34 13 = zI c ∧ μ 41 4 = zI wb ∧ (0 ≤ c ∧ c ≤ 24 ∧ i32 wb) ∧ ∀ i : Nat, (i : Int) < c → SD n M k μ i (kd i) (x i)
theorem SR_SC {n : Nat} {M M' : Mem} {k : Nat} {μ μ' : Sl} {c wb : Int} {kd : Nat → Int} {x : Nat → (Nat → Int) × (Nat → Int)} (h : SR n M k μ c wb kd x) (hs : SC μ μ') (hM : M' k = M k) : SR n M' k μ' c wb kd x := by
  obtain ⟨a1, a2, a3, a4, a5, a6⟩ := h
  exact ⟨by rw [hM]; exact a1, by rw [hM]; exact a2, by rw [hs 34 13 (by omega) (by omega) (by omega)]; exact a3, by rw [hs 41 4 (by omega) (by omega) (by omega)]; exact a4, a5, fun i hi => SD_SC (a6 i hi) hs hM⟩
theorem run_loop {n S w k b : Nat} {c wb : Int} {qv pv wv : Nat → Int} {kd : Nat → Int} {x : Nat → (Nat → Int) × (Nat → Int)} (n0 : Nat) (hw : w < 2147483648) (hk2 : k < 2147483648) (hkw : k ≠ w) (hw0 : 0 ≠ w) {v1 : Int} (hv1 : v1 ≤ 24) :
    ∀ (m : Nat) (M : Mem) (μ : Sl) (σ : Nat → Nat) (bn : Nat) (B : Nat → Int) (A : Ab) (dep : Nat → Nat) (J : List Jb) (N : Int) (v2 e : Int) (f1 f2 : Nat), v1 - v2 ≤ m → m < f1 → m < f2 → 0 ≤ v2 → v2 ≤ 24 →
      0 ≤ v1 → M 0 0 4 = zI (w : Int) → M w 10 0 = zI (k : Int) → SR n M k μ c wb kd x → SB M (M w) μ n S qv pv wv → MB μ b → RC n S (M w) σ bn B A dep J N → WX (e, 0) n S (M w) B → N + 2 * m + 2 < 2147483648 → B 2196 + 2 * m + 2 < 2147483648 →
      ∃ v e' δ' σ' bn' μ' B' A' dep' J' N', Fh_run_18 n0 f1 (zI v1) (zI v2) M = Fh_run_74 n0 (zI v) (setS M w δ') ∧ Mo_run_23 f2 (zI v1) (zI v2) (bst μ b B) = some (zI v, bst μ' b B') ∧ (0 ≤ v ∧ v ≤ 24) ∧ RC n S δ' σ' bn' B' A' dep' J' N' ∧ WX (e', 0) n S δ' B' ∧ SC μ μ' ∧ δ' 10 0 = M w 10 0 ∧ N' ≤ N + 2 * m ∧ B' 2196 ≤ B 2196 + 2 * m ∧ QMq μ n S B B' := by
  intro m
  induction m with
  | zero =>
    intro M μ σ bn B A dep J N v2 e f1 f2 hm hf1 hf2 h0 h24 h01 hM0 hM1 hR hS hb hC hX hN hW
    obtain ⟨g1, rfl⟩ : ∃ g, f1 = g + 1 := ⟨f1 - 1, by omega⟩
    obtain ⟨g2, rfl⟩ : ∃ g, f2 = g + 1 := ⟨f2 - 1, by omega⟩
    refine ⟨v2, e, M w, σ, bn, μ, B, A, dep, J, N, ?_, ?_, ⟨h0, h24⟩, hC, hX, SC_refl μ, rfl, by omega, by omega, QMq.refl _ _ _ _⟩
    · rw [Fh_run_18, if_pos (by rw [zI_le (by omega) (by omega) (by omega) (by omega)]; omega), setS_self]
    · rw [Mo_run_23, if_pos (by rw [zI_le (by omega) (by omega) (by omega) (by omega)]; omega)]
  | succ m ih =>
    intro M μ σ bn B A dep J N v2 e f1 f2 hm hf1 hf2 h0 h24 h01 hM0 hM1 hR hS hb hC hX hN hW
    obtain ⟨g1, rfl⟩ : ∃ g, f1 = g + 1 := ⟨f1 - 1, by omega⟩
    obtain ⟨g2, rfl⟩ : ∃ g, f2 = g + 1 := ⟨f2 - 1, by omega⟩
    by_cases c1 : v1 ≤ v2
    · refine ⟨v2, e, M w, σ, bn, μ, B, A, dep, J, N, ?_, ?_, ⟨h0, h24⟩, hC, hX, SC_refl μ, rfl, by omega, by omega, QMq.refl _ _ _ _⟩
      · rw [Fh_run_18, if_pos (by rw [zI_le (by omega) (by omega) (by omega) (by omega)]; omega), setS_self]
      · rw [Mo_run_23, if_pos (by rw [zI_le (by omega) (by omega) (by omega) (by omega)]; omega)]
    obtain ⟨s1, s2, s3, s4, ⟨s5, s6, s7, s8⟩, s9⟩ := id hR
    obtain ⟨y1, y2, y3, y4⟩ := hX.2.2.2.2.1
    have y1 : M w 10 11 = zI e := y1
    have y2 : B 2202 = e := by have : B 2202 = e + 0 := y2; omega
    have y3 : 0 ≤ e := y3
    have y4 : e ≤ 24 := y4
    have n1 : ¬ zI v1 ≤ zI v2 := by rw [zI_le (by omega) (by omega) (by omega) (by omega)]; exact c1
    have o : Mo_of (bst μ b B) (2202 : Int32) = some (zI e) := by
      have t := m_of hb B (k := 2202) (by omega) (by omega)
      rw [show (2202 : Int).toNat = 2202 from rfl, y2] at t
      exact t
    have b13 : bst μ b B 34 13 = zI c := by rw [bst_ne μ b B (by omega)]; exact s3
    by_cases c2 : c ≤ e
    · refine ⟨v2, e, M w, σ, bn, μ, B, A, dep, J, N, ?_, ?_, ⟨h0, h24⟩, hC, hX, SC_refl μ, rfl, by omega, by omega, QMq.refl _ _ _ _⟩
      · rw [Fh_run_18, if_neg n1, hM0, gref_z hw, gref_z hw, hM1, gref_z hk2, s1, y1, if_pos (by rw [zI_le (by omega) (by omega) (by omega) (by omega)]; exact c2), setS_self]
      · rw [Mo_run_23, if_neg n1, o, bp_some, b13, if_pos (by rw [zI_le (by omega) (by omega) (by omega) (by omega)]; exact c2)]
    have hD := s9 e.toNat (by omega)
    obtain ⟨δ1, σ1, bn1, μ1, B1, A1, dep1, J1, N1, r1, r2, r3, r4, r5, r6, r7, r8, rQ⟩ := perf_on hC hX (by omega) (by omega) hb hS hM1 hk2 s1 s6 (by omega) hD
    have hb1 := SC_MB r5 hb
    obtain ⟨v', δ2, σ2, bn2, μ2, B2, A2, dep2, J2, N2, q1, q2, -, q4, q5, q6, q7, q8, q9, qQ⟩ := work_wo (M := setS M w δ1) r3 r4 (by omega) hb1 (w := wb) s7 s8
    have hsc := SC_trans r5 q6
    have hMk : setS M w δ2 k = M k := setS_ne M δ2 hkw
    have hd : δ2 10 0 = M w 10 0 := by rw [q7, r6]
    have hM1' : δ2 10 0 = zI (k : Int) := by rw [hd, hM1]
    obtain ⟨v, e', δ', σ', bn', μ', B', A', dep', J', N', p1, p2, p3, p4, p5, p6, p7, p8, p9, pQ⟩ := ih (setS M w δ2) μ2 σ2 bn2 B2 A2 dep2 J2 N2 (v2 + 1) (e + 1) g1 g2 (by omega) (by omega) (by omega) (by omega) (by omega) h01 (by rw [setS_ne M δ2 hw0]; exact hM0) (by rw [setS_at]; exact hM1') (SR_SC hR hsc hMk) (by rw [setS_at]; exact SB_M (SB_d hS hd hsc) hM1' hk2 hMk) (SC_MB hsc hb) (by rw [setS_at]; exact q4) (by rw [setS_at]; exact q5) (by omega) (by omega)
    rw [setS_setS] at p1
    rw [setS_at] at p7
    refine ⟨v, e', δ', σ', bn', μ', B', A', dep', J', N', ?_, ?_, p3, p4, p5, SC_trans hsc p6, by rw [p7, hd], by omega, by omega, QMq.trans (QMq.trans rQ r5 qQ) hsc pQ⟩
    · have l1 : lft M w (Wo_performNext M (M w)) = some ((), setS M w δ1) := by rw [r1]; rfl
      have l2 : lft (setS M w δ1) w (Wo_workOn (setS M w δ1) δ1 (zI wb)) = some (zI v', setS M w δ2) := by rw [q1]; show some (zI v', setS (setS M w δ1) w δ2) = _; rw [setS_setS]
      have m0 : setS M w δ1 0 0 4 = zI (w : Int) := by rw [setS_ne M δ1 hw0]; exact hM0
      have m1 : setS M w δ1 w 10 0 = zI (k : Int) := by rw [setS_at, r6]; exact hM1
      have m2 : setS M w δ1 k 4 7 = zI wb := by rw [setS_ne M δ1 hkw]; exact s2
      rw [Fh_run_18, if_neg n1, hM0, gref_z hw, gref_z hw, hM1, gref_z hk2, s1, y1, if_neg (by rw [zI_le (by omega) (by omega) (by omega) (by omega)]; exact c2), gref_z hw, l1, bd_some, m0, gref_z hw, gref_z hw, m1, gref_z hk2, m2, setS_at, l2, bd_some, bnd_ap, show (1 : Int32) = zI 1 from rfl, zI_add]
      exact p1
    · have b4 : bst μ1 b B1 41 4 = zI wb := by rw [bst_ne μ1 b B1 (by omega), r5 41 4 (by omega) (by omega) (by omega)]; exact s4
      rw [Mo_run_23, if_neg n1, o, bp_some, b13, if_neg (by rw [zI_le (by omega) (by omega) (by omega) (by omega)]; exact c2), bp_some, bnd_ap, r2]
      rw [if_pos (by decide), show ix (4 : Int32) = 4 from rfl, b4, q2, bd_some, bnd_ap, show (1 : Int32) = zI 1 from rfl, zI_add]
      exact p2
