/-! ===== text: the call ===== -/
theorem TX_low {M M' : Mem} {k : Nat} {μ μ' : Sl} {n S : Nat} (h : TX M k μ n S) (e1 : ∀ a i, 4 ≤ a → a ≤ 9 → M' k a i = M k a i) (e2 : ∀ a i, (a = 34 ∧ (i = 11 ∨ i = 13)) ∨ (37 ≤ a ∧ a ≤ 40 ∧ i < 6) ∨ (a = 41 ∧ i < 7) ∨ (a = 43 ∧ i < 24) ∨ (a = 44 ∧ i < 144) → μ' a i = μ a i) : TX M' k μ' n S := by
  obtain ⟨qv, pv, wv, c, wb, dc, sd, kd, x, ⟨a0, a1, a2, a3, a4, a5, a6⟩, ⟨b1, b2, b3, b4, b5, b6⟩, ⟨s1, s2, s3, s4, s5, s6⟩, ⟨d1, d2, d3⟩, f1, f2, f3⟩ := h
  have hn := b2.1
  refine ⟨qv, pv, wv, c, wb, dc, sd, kd, x, ⟨a0, ?_, ?_, fun s h1 h2 => ?_, fun s hs => ?_, fun s hs => ?_, fun s hs => ?_⟩, ⟨⟨?_, ?_, fun s h1 h2 => ?_⟩, b2, fun s hs => ?_, b4, fun s hs => ?_, b6⟩, ⟨?_, ?_, ?_, ?_, s5, fun i hi => ?_⟩, ⟨?_, ?_, d3⟩, ?_, ?_, f3⟩
  · rw [e1 _ _ (by omega) (by omega)]; exact a1
  · rw [e1 _ _ (by omega) (by omega)]; exact a2
  · rw [e1 _ _ (by omega) (by omega)]; exact a3 s h1 h2
  · rw [e1 _ _ (by omega) (by omega)]; exact a4 s hs
  · rw [e1 _ _ (by omega) (by omega)]; exact a5 s hs
  · rw [e1 _ _ (by omega) (by omega), e2 _ _ (by omega)]; exact a6 s hs
  · rw [e2 _ _ (by omega)]; exact b1.1
  · rw [e2 _ _ (by omega)]; exact b1.2.1
  · rw [e2 _ _ (by omega)]; exact b1.2.2 s h1 h2
  · rw [e2 _ _ (by omega)]; exact b3 s hs
  · rw [e2 _ _ (by omega)]; exact b5 s hs
  · rw [e1 _ _ (by omega) (by omega)]; exact s1
  · rw [e1 _ _ (by omega) (by omega)]; exact s2
  · rw [e2 _ _ (by omega)]; exact s3
  · rw [e2 _ _ (by omega)]; exact s4
  · obtain ⟨t1, t2, t3, t4, t5⟩ := s6 i hi
    exact ⟨by rw [e1 _ _ (by omega) (by omega)]; exact t1, fun j hj => by rw [e1 _ _ (by omega) (by omega)]; exact t2 j hj, by rw [e2 _ _ (by omega)]; exact t3, fun j hj => by rw [e2 _ _ (by omega)]; exact t4 j hj, t5⟩
  · rw [e1 _ _ (by omega) (by omega)]; exact d1
  · rw [e2 _ _ (by omega)]; exact d2
  · rw [e1 _ _ (by omega) (by omega)]; exact f1
  · rw [e2 _ _ (by omega)]; exact f2
theorem RG_low {n0 : Nat} {M M' : Mem} {w s t nx κ κ' : Nat} (h : RG n0 M w s t nx κ) (e0 : ∀ i, i = 4 ∨ i = 5 ∨ i = 6 ∨ i = 8 → M' 0 0 i = M 0 0 i) (e9 : M' 0 0 9 = zI (κ' : Int)) (hκ : κ' ≤ 20) (e3 : ∀ i, M' 0 3 i = M 0 3 i) : RG n0 M' w s t nx κ' := by
  obtain ⟨⟨a1, a2, a3, a4, a5⟩, ⟨b1, b2, b3⟩, hc, hi⟩ := h
  refine ⟨⟨by rw [e0 _ (by omega)]; exact a1, by rw [e0 _ (by omega)]; exact a2, by rw [e0 _ (by omega)]; exact a3, by rw [e0 _ (by omega)]; exact a4, e9⟩, ⟨b1, hκ, b3⟩, fun i h => ?_, fun i j p h1 h2 h3 => ?_⟩
  · rw [e3]; exact hc i h
  · rw [e3, e3]; exact hi i j p h1 h2 h3
theorem cl_ap (N : Mem) (q : Nat) (v1 v2 v3 v4 v5 v6 v7 : Int32) {j b i : Nat} (h : ¬ (j = q ∧ b = 4)) : setS N q (wr (wr (wr (wr (wr (wr (wr (N q) 4 5 v1) 4 6 v2) 4 7 v3) 4 8 v4) 4 9 v5) 4 10 v6) 4 11 v7) j b i = N j b i := by
  by_cases z : j = q
  · subst z
    rw [setS_at]
    repeat rw [wr_ap, if_neg (by omega)]
  · rw [setS_ne _ _ z]
/-- what the reader begins with, the class -/
theorem rbegin_on {M : Mem} {q a : Nat} (hq : q < 2) (ha : a ≤ 700) : ∃ M2, Re_begin q (wrM M 0 0 1 (0 : Int32)) (zI (a : Int)) = some ((), M2) ∧ (M2 0 0 1 = zI 0 ∧ M2 0 2 0 = zI 0 ∧ M2 0 2 1 = zI (-1) ∧ M2 0 2 3 = zI (a : Int) ∧ M2 0 2 4 = zI 0 ∧ M2 0 2 8 = zI 0 ∧ M2 0 2 9 = zI 0 ∧ M2 0 2 10 = zI (q : Int)) ∧ (M2 q 4 5 = zI 0 ∧ M2 q 4 6 = zI 16 ∧ M2 q 4 7 = zI 2 ∧ M2 q 4 8 = zI 5 ∧ M2 q 4 9 = zI 0 ∧ M2 q 4 10 = zI 0 ∧ M2 q 4 11 = zI 0) ∧ ∀ j b i, ¬ (j = 0 ∧ b = 0 ∧ i = 1) → ¬ (j = 0 ∧ b = 2) → ¬ (j = q ∧ b = 4) → M2 j b i = M j b i := by
  have e7 : (if (700 : Int32) < zI (a : Int) then (700 : Int32) else zI (a : Int)) = zI (a : Int) := by rw [if_neg (by rw [zI_lit, zI_lt (by omega) (by omega) (by omega) (by omega)]; omega)]
  have eq : nI q = zI (q : Int) := zI_nI q
  rw [Re_begin, e7, bnd_ap, bnd_ap, bnd_ap]
  have g10 : wrM (wrM (wrM (wrM M 0 0 1 (0 : Int32)) 0 2 3 (zI (a : Int))) 0 2 4 (0 : Int32)) 0 2 10 (nI q) 0 2 10 = zI (q : Int) := by rw [wrM_ap, if_pos ⟨rfl, rfl, rfl⟩, eq]
  rw [g10, gref_z (by omega)]
  simp only [Sc_clear, bnd_e, lft_some, bd_e]
  refine ⟨_, rfl, ⟨?_, ?_, ?_, ?_, ?_, ?_, ?_, ?_⟩, ⟨?_, ?_, ?_, ?_, ?_, ?_, ?_⟩, fun j b i h1 h2 h3 => ?_⟩
  case refine_16 => repeat (first | rw [wrM_ap, if_neg (by omega)] | rw [cl_ap _ _ _ _ _ _ _ _ _ (by omega)])
  all_goals (repeat (first | rw [wrM_ap, if_neg (by omega)] | rw [cl_ap _ _ _ _ _ _ _ _ _ (by omega)]))
  all_goals first | rw [wrM_ap, if_pos ⟨rfl, rfl, rfl⟩] | rw [setS_at]
  all_goals (repeat rw [wr_ap, if_neg (by omega)])
  all_goals first | rw [wr_ap, if_pos ⟨rfl, rfl⟩] | skip
  all_goals first | rfl | exact eq
/-- what the reader begins with, the reference -/
theorem plain_45 : ∀ (m v f : Nat) (d : Sl), v + m = 7 → m < f → Mo_plain_45 f (zI (v : Int)) d = some ((), fun a i => if a = 42 ∧ v ≤ i ∧ i < 7 then (0 : Int32) else d a i) := by
  intro m
  induction m with
  | zero =>
    intro v f d hv hf
    obtain ⟨f', rfl⟩ : ∃ f', f = f' + 1 := ⟨f - 1, by omega⟩
    rw [Mo_plain_45, if_pos (by rw [zI_lit, zI_le (by omega) (by omega) (by omega) (by omega)]; omega)]
    congr 2
    funext a i
    rw [if_neg (by omega)]
  | succ m ih =>
    intro v f d hv hf
    obtain ⟨f', rfl⟩ : ∃ f', f = f' + 1 := ⟨f - 1, by omega⟩
    rw [Mo_plain_45, if_neg (by rw [zI_lit, zI_le (by omega) (by omega) (by omega) (by omega)]; omega), if_pos (zI_in (by omega) (by omega)), zI_ixn (by omega), bnd_ap, bnd_ap, zI_s1, ih (v + 1) f' _ (by omega) (by omega)]
    congr 2
    funext a i
    by_cases z : a = 42 ∧ v + 1 ≤ i ∧ i < 7
    · rw [if_pos z, if_pos (by omega)]
    · rw [if_neg z, wr_ap]
      by_cases y : a = 42 ∧ i = v
      · rw [if_pos y, if_pos (by omega)]
      · rw [if_neg y, if_neg (by omega)]
theorem plain_on (d : Sl) : ∃ d', Mo_plain d = some ((), d') ∧ (d' 34 12 = zI 0 ∧ d' 34 14 = zI 0 ∧ d' 41 10 = zI 16 ∧ d' 41 11 = zI 2 ∧ d' 41 12 = zI 5 ∧ d' 41 13 = zI 0) ∧ (∀ i, i < 7 → d' 42 i = zI 0) ∧ ∀ a i, ¬ (a = 34 ∧ (i = 12 ∨ i = 14)) → ¬ (a = 41 ∧ 10 ≤ i) → a ≠ 42 → d' a i = d a i := by
  have i10 : ix (10 : Int32) = 10 := by decide
  have i11 : ix (11 : Int32) = 11 := by decide
  have i12 : ix (12 : Int32) = 12 := by decide
  have i13 : ix (13 : Int32) = 13 := by decide
  have pl := fun (d : Sl) => plain_45 7 0 FU d (by omega) (FU_gt (by omega))
  have z0 : zI ((0 : Nat) : Int) = (0 : Int32) := rfl
  rw [z0] at pl
  rw [Mo_plain, bnd_ap, bnd_ap, if_pos (by decide), i10, bnd_ap, if_pos (by decide), i11, bnd_ap, if_pos (by decide), i12, bnd_ap, if_pos (by decide), i13, bnd_ap, bnd_ap, pl]
  refine ⟨_, rfl, ⟨?_, ?_, ?_, ?_, ?_, ?_⟩, fun i hi => ?_, fun a i h1 h2 h3 => ?_⟩
  case refine_7 => rw [if_pos (by omega)]; rfl
  all_goals (rw [if_neg (by omega)])
  all_goals (repeat rw [wr_ap, if_neg (by omega)])
  all_goals (rw [wr_ap, if_pos ⟨rfl, rfl⟩]; rfl)
/-- tape and reader ready -/
theorem start_on {M : Mem} {μ : Sl} {q a : Nat} {t : Nat} (hq : q < 2) (ha : a ≤ 700) (hTP : ∀ i, i < 700 → M 0 1 i = μ 35 i ∧ ∃ v : Int, 0 ≤ v ∧ v < 256 ∧ M 0 1 i = zI v) (hTB : TB M μ) (h02 : M 0 0 2 = zI (q : Int)) :
    ∃ (T : Nat → Nat) (M2 : Mem) (μ2 : Sl), Fh_text M (zI (a : Int)) = (if zI (a : Int) < 0 then (some ((-2 : Int32), M)) else (if zI (a : Int) ≤ (M 0 0 1) then Fh_text_34 FU (zI (a : Int)) (0 : Int32) M2 else (some ((-2 : Int32), M)))) ∧ Mo_text μ (zI (a : Int)) = (if zI (a : Int) < 0 then (some ((-2 : Int32), wr μ 34 2 (0 : Int32))) else (if zI (a : Int) ≤ (wr μ 34 2 (0 : Int32) 34 1) then Mo_text_55 FU (0 : Int32) μ2 else (some ((-2 : Int32), wr μ 34 2 (0 : Int32))))) ∧ HS T a M2 μ2 0 ∧ RBs T a q M2 μ2 ∧ RSx M2 q μ2 ∧ M2 q 4 11 = zI ((0 : Nat) : Int) ∧ (M2 0 2 0 = zI 0 ∧ M2 0 2 1 = zI (-1) ∧ μ2 34 4 = zI 0 ∧ μ2 34 5 = zI (-1)) ∧ (M2 0 0 1 = zI 0 ∧ μ2 34 1 = zI 0) ∧ (∀ j b i, ¬ (j = 0 ∧ b = 0 ∧ i = 1) → ¬ (j = 0 ∧ b = 2) → ¬ (j = q ∧ b = 4) → M2 j b i = M j b i) ∧ ∀ b i, ¬ (b = 34 ∧ (i = 1 ∨ i = 2 ∨ (4 ≤ i ∧ i ≤ 10) ∨ i = 12 ∨ i = 14)) → ¬ (b = 41 ∧ 10 ≤ i) → b ≠ 42 → μ2 b i = μ b i := by
  obtain ⟨M2, c1, ⟨m1, m2, m3, m4, m5, m6, m7, m8⟩, ⟨n1, n2, n3, n4, n5, n6, n7⟩, mf⟩ := rbegin_on (M := M) hq ha
  obtain ⟨μ1, p1, ⟨p2, p3, p4, p5, p6, p7⟩, p8, p9⟩ := plain_on (wr (wr (wr (wr (wr (wr μ 34 2 (0 : Int32)) 34 6 (zI (a : Int))) 34 1 (0 : Int32)) 34 4 (0 : Int32)) 34 5 (-1 : Int32)) 34 7 (0 : Int32))
  have q35 : ∀ i, μ1 35 i = μ 35 i := fun i => by rw [p9 _ _ (by omega) (by omega) (by omega)]; (repeat rw [wr_ap, if_neg (by omega)])
  have q36 : ∀ i, μ1 36 i = μ 36 i := fun i => by rw [p9 _ _ (by omega) (by omega) (by omega)]; (repeat rw [wr_ap, if_neg (by omega)])
  have q6 : μ1 34 6 = zI (a : Int) := by rw [p9 _ _ (by omega) (by omega) (by omega)]; (repeat rw [wr_ap, if_neg (by omega)]); rw [wr_ap, if_pos ⟨rfl, rfl⟩]
  have q7 : μ1 34 7 = zI ((0 : Nat) : Int) := by rw [p9 _ _ (by omega) (by omega) (by omega)]; (repeat rw [wr_ap, if_neg (by omega)]); rw [wr_ap, if_pos ⟨rfl, rfl⟩]; rfl
  have q4 : μ1 34 4 = zI 0 := by rw [p9 _ _ (by omega) (by omega) (by omega)]; (repeat rw [wr_ap, if_neg (by omega)]); rw [wr_ap, if_pos ⟨rfl, rfl⟩]; rfl
  have q5 : μ1 34 5 = zI (-1) := by rw [p9 _ _ (by omega) (by omega) (by omega)]; (repeat rw [wr_ap, if_neg (by omega)]); rw [wr_ap, if_pos ⟨rfl, rfl⟩]; rfl
  have q1 : μ1 34 1 = zI 0 := by rw [p9 _ _ (by omega) (by omega) (by omega)]; (repeat rw [wr_ap, if_neg (by omega)]); rw [wr_ap, if_pos ⟨rfl, rfl⟩]; rfl
  have qf : ∀ b i, ¬ (b = 34 ∧ (i = 1 ∨ i = 2 ∨ (4 ≤ i ∧ i ≤ 10) ∨ i = 12 ∨ i = 14)) → ¬ (b = 41 ∧ 10 ≤ i) → b ≠ 42 → μ1 b i = μ b i := fun b i z1 z2 z3 => by
    rw [p9 _ _ (by omega) (by omega) (by omega)]; (repeat rw [wr_ap, if_neg (by omega)])
  obtain ⟨T, hT1, hT2⟩ : ∃ T : Nat → Nat, (∀ i, T i < 256) ∧ ∀ i, i < 700 → M 0 1 i = zI (T i : Int) := by
    refine ⟨fun i => if i < 700 then (M 0 1 i).toInt.toNat else 0, fun i => ?_, fun i hi => ?_⟩
    · dsimp only
      by_cases z : i < 700
      · obtain ⟨v, v1, v2, v3⟩ := (hTP i z).2
        rw [if_pos z, v3, zI_toInt (by omega) (by omega)]; omega
      · rw [if_neg z]; omega
    · dsimp only
      obtain ⟨v, v1, v2, v3⟩ := (hTP i hi).2
      rw [if_pos hi, v3, zI_toInt (by omega) (by omega)]
      congr 1; omega
  have tm : TM μ1 T a := fun i hi => by rw [q35, ← (hTP i (by omega)).1]; exact hT2 i (by omega)
  have tc : TC M2 T a := fun i hi => by rw [mf _ _ _ (by omega) (by omega) (by omega)]; exact hT2 i (by omega)
  have hTB2 : TB M2 μ1 := TB_keep hTB (fun b i g => mf _ _ _ (by omega) (by omega) (by omega)) (fun i => q36 i)
  obtain ⟨μ2, t1, t2, t3, t4, t5, t6⟩ := m_token ha hT1 q6 q7 (by omega) tm hTB2.2.2.2.2.2.2.2.2
  have fm : TKm μ1 μ2 := fun b i z => t2 b i (by omega)
  have hB1 : RBs T a q M2 μ1 := ⟨⟨ha, hT1, hq⟩, m4, m8, tc, hTB2, q6, tm⟩
  refine ⟨T, M2, μ2, ?_, ?_, ⟨by omega, m5, t3, t4, t5, t6⟩, RBs_fr hB1 (FRc_rf q M2) (TKm_FR fm), ?_, n7, ⟨m2, m3, by rw [fm _ _ (by omega)]; exact q4, by rw [fm _ _ (by omega)]; exact q5⟩, ⟨m1, by rw [fm _ _ (by omega)]; exact q1⟩, mf, fun b i z1 z2 z3 => by rw [t2 b i (by omega)]; exact qf b i z1 z2 z3⟩
  · have e2 : wrM M 0 0 1 (0 : Int32) 0 0 2 = zI (q : Int) := by rw [wrM_ap, if_neg (by omega)]; exact h02
    rw [Fh_text, bnd_ap, e2, gref_z (by omega), c1, bd_some, bnd_ap]
  · rw [Mo_text, bnd_ap, bnd_ap, bnd_ap, bnd_ap, bnd_ap, bnd_ap, p1, bd_some, t1, bd_some, bnd_ap]
  · have k : ∀ b i, (b = 34 ∧ (i = 12 ∨ i = 14)) ∨ b = 41 ∨ b = 42 → μ2 b i = μ1 b i := fun b i z => fm b i (by omega)
    refine ⟨0, fun _ => -1, fun _ => 0, fun _ => 32, fun _ => false, 16, 2, 5, 0, fun _ => false, 0, fun _ => 0, fun _ => (fun _ => 0, fun _ => 0), ⟨⟨by omega, n1, (k _ _ (by omega)).trans p2⟩, ⟨m7, fun _ _ => rfl, fun _ => rfl⟩, fun s hs => absurd hs (by omega)⟩, ⟨⟨n2, (k _ _ (by omega)).trans p4, by omega⟩, ⟨n3, (k _ _ (by omega)).trans p5, by omega, by omega⟩, ⟨n4, (k _ _ (by omega)).trans p6, by omega, by omega⟩, ⟨n5, (k _ _ (by omega)).trans p7, by omega, by omega⟩, m6, fun w h1 h2 => (k _ _ (by omega)).trans (p8 w (by omega))⟩, ⟨⟨by omega, n6, (k _ _ (by omega)).trans p3⟩, fun i hi => absurd hi (by omega)⟩⟩
