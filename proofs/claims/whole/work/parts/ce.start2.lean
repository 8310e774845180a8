/-! ===== the start: the reference ===== -/
def T36 (d0 D : Mem) (k : Nat) : Prop := (∀ i v, i < k → wrT[i]? = some v → D 0 36 i = zI v) ∧ ∀ j a i, ¬ (j = 0 ∧ a = 36) → D j a i = d0 j a i
theorem T36_s {d0 D : Mem} {k : Nat} {w : Int32} {v : Int} (h : T36 d0 D k) (hv : wrT[k]? = some v) (hw : w = zI v) : T36 d0 (wrM D 0 36 k w) (k + 1) := by
  refine ⟨fun i u hi hu => ?_, fun j a i z => by rw [wrM_ap, if_neg (by omega)]; exact h.2 j a i z⟩
  by_cases z : i = k
  · subst z
    rw [hv] at hu
    rw [wrM_ap, if_pos ⟨rfl, rfl, rfl⟩, hw, Option.some.inj hu]
  · rw [wrM_ap, if_neg (by omega)]; exact h.1 i u (by omega) hu
theorem st69 {τ : Type} {d0 D : Mem} {k : Nat} {c w : Int32} {v : Int} {K : Mem → Option τ} {Q : Option τ → Prop} (h : T36 d0 D k) (hc : inb c 69) (hx : ix c = k) (hv : wrT[k]? = some v) (hw : w = zI v) (go : ∀ D', T36 d0 D' (k + 1) → Q (K D')) : Q (if inb c 69 then bnd (wrM D 0 36 (ix c) w) K else none) := by
  rw [if_pos hc, bnd_ap, hx]
  exact go _ (T36_s h hv hw)
/-- a reference just made -/
def SIn (μ : Sl) : Prop := (μ 34 1 = zI 0 ∧ μ 34 4 = zI 0 ∧ μ 34 5 = zI (-1) ∧ μ 34 11 = zI 0 ∧ μ 34 13 = zI 0 ∧ μ 34 25 = zI 0 ∧ μ 34 26 = zI 0) ∧ (∀ i, μ 35 i = zI 0) ∧ tbl (μ 36) wrT ∧ (μ 41 3 = zI 16 ∧ μ 41 4 = zI 2 ∧ μ 41 5 = zI 5 ∧ μ 41 6 = zI 0) ∧ ∃ B, BK μ 0 B ∧ NB B
theorem kt_0 {μ : Sl} {B : Nat → Int} (h1 : μ 34 11 = zI 0) (h2 : μ 41 3 = zI 16) : Mo_keepText_138 FU (0 : Int32) (bst μ 0 B) = some ((), bst μ 0 B) := by
  obtain ⟨f, hf⟩ : ∃ f, FU = f + 1 := ⟨999999, rfl⟩
  have e1 : bst μ 0 B 41 (ix (3 : Int32)) = zI 16 := by show bst μ 0 B 41 3 = _; unfold bst; rw [if_neg (by omega), h2]
  have e2 : bst μ 0 B 34 11 = zI 0 := by unfold bst; rw [if_neg (by omega), h1]
  rw [hf, Mo_keepText_138, Mo_size, if_pos (by decide), bp_some, e1, e2, if_neg (by decide), if_pos (by decide)]
theorem mo_made (d : Mem) (h65 : ∀ i, d 0 65 i = rini cs65 i) : ∃ (M : Mem), Mo_init d = some ((), M) ∧ SIn (M 0) := by
  rw [Mo_init, bnd_ap, bnd_ap, bnd_ap]
  have T0 : T36 (wrAM (wrM (wrAM d 0 35 (fun _ => 0)) 0 65 0 1) 0 36 (fun _ => 0)) (wrAM (wrM (wrAM d 0 35 (fun _ => 0)) 0 65 0 1) 0 36 (fun _ => 0)) 0 := ⟨fun i v hi => absurd hi (by omega), fun _ _ _ _ => rfl⟩
  refine st69 (c := (0 : Int32)) (Q := fun R => ∃ M : Mem, R = some ((), M) ∧ SIn (M 0)) T0 (by decide) (by decide) (v := 115) (by decide) rfl (fun D1 T1 => ?_)
  refine st69 (c := (1 : Int32)) (Q := fun R => ∃ M : Mem, R = some ((), M) ∧ SIn (M 0)) T1 (by decide) (by decide) (v := 112) (by decide) rfl (fun D2 T2 => ?_)
  refine st69 (c := (2 : Int32)) (Q := fun R => ∃ M : Mem, R = some ((), M) ∧ SIn (M 0)) T2 (by decide) (by decide) (v := 97) (by decide) rfl (fun D3 T3 => ?_)
  refine st69 (c := (3 : Int32)) (Q := fun R => ∃ M : Mem, R = some ((), M) ∧ SIn (M 0)) T3 (by decide) (by decide) (v := 99) (by decide) rfl (fun D4 T4 => ?_)
  refine st69 (c := (4 : Int32)) (Q := fun R => ∃ M : Mem, R = some ((), M) ∧ SIn (M 0)) T4 (by decide) (by decide) (v := 101) (by decide) rfl (fun D5 T5 => ?_)
  refine st69 (c := (5 : Int32)) (Q := fun R => ∃ M : Mem, R = some ((), M) ∧ SIn (M 0)) T5 (by decide) (by decide) (v := 32) (by decide) rfl (fun D6 T6 => ?_)
  refine st69 (c := (6 : Int32)) (Q := fun R => ∃ M : Mem, R = some ((), M) ∧ SIn (M 0)) T6 (by decide) (by decide) (v := 112) (by decide) rfl (fun D7 T7 => ?_)
  refine st69 (c := (7 : Int32)) (Q := fun R => ∃ M : Mem, R = some ((), M) ∧ SIn (M 0)) T7 (by decide) (by decide) (v := 97) (by decide) rfl (fun D8 T8 => ?_)
  refine st69 (c := (8 : Int32)) (Q := fun R => ∃ M : Mem, R = some ((), M) ∧ SIn (M 0)) T8 (by decide) (by decide) (v := 103) (by decide) rfl (fun D9 T9 => ?_)
  refine st69 (c := (9 : Int32)) (Q := fun R => ∃ M : Mem, R = some ((), M) ∧ SIn (M 0)) T9 (by decide) (by decide) (v := 101) (by decide) rfl (fun D10 T10 => ?_)
  refine st69 (c := (10 : Int32)) (Q := fun R => ∃ M : Mem, R = some ((), M) ∧ SIn (M 0)) T10 (by decide) (by decide) (v := 114) (by decide) rfl (fun D11 T11 => ?_)
  refine st69 (c := (11 : Int32)) (Q := fun R => ∃ M : Mem, R = some ((), M) ∧ SIn (M 0)) T11 (by decide) (by decide) (v := 32) (by decide) rfl (fun D12 T12 => ?_)
  refine st69 (c := (12 : Int32)) (Q := fun R => ∃ M : Mem, R = some ((), M) ∧ SIn (M 0)) T12 (by decide) (by decide) (v := 113) (by decide) rfl (fun D13 T13 => ?_)
  refine st69 (c := (13 : Int32)) (Q := fun R => ∃ M : Mem, R = some ((), M) ∧ SIn (M 0)) T13 (by decide) (by decide) (v := 117) (by decide) rfl (fun D14 T14 => ?_)
  refine st69 (c := (14 : Int32)) (Q := fun R => ∃ M : Mem, R = some ((), M) ∧ SIn (M 0)) T14 (by decide) (by decide) (v := 111) (by decide) rfl (fun D15 T15 => ?_)
  refine st69 (c := (15 : Int32)) (Q := fun R => ∃ M : Mem, R = some ((), M) ∧ SIn (M 0)) T15 (by decide) (by decide) (v := 116) (by decide) rfl (fun D16 T16 => ?_)
  refine st69 (c := (16 : Int32)) (Q := fun R => ∃ M : Mem, R = some ((), M) ∧ SIn (M 0)) T16 (by decide) (by decide) (v := 97) (by decide) rfl (fun D17 T17 => ?_)
  refine st69 (c := (17 : Int32)) (Q := fun R => ∃ M : Mem, R = some ((), M) ∧ SIn (M 0)) T17 (by decide) (by decide) (v := 32) (by decide) rfl (fun D18 T18 => ?_)
  refine st69 (c := (18 : Int32)) (Q := fun R => ∃ M : Mem, R = some ((), M) ∧ SIn (M 0)) T18 (by decide) (by decide) (v := 115) (by decide) rfl (fun D19 T19 => ?_)
  refine st69 (c := (19 : Int32)) (Q := fun R => ∃ M : Mem, R = some ((), M) ∧ SIn (M 0)) T19 (by decide) (by decide) (v := 105) (by decide) rfl (fun D20 T20 => ?_)
  refine st69 (c := (20 : Int32)) (Q := fun R => ∃ M : Mem, R = some ((), M) ∧ SIn (M 0)) T20 (by decide) (by decide) (v := 122) (by decide) rfl (fun D21 T21 => ?_)
  refine st69 (c := (21 : Int32)) (Q := fun R => ∃ M : Mem, R = some ((), M) ∧ SIn (M 0)) T21 (by decide) (by decide) (v := 101) (by decide) rfl (fun D22 T22 => ?_)
  refine st69 (c := (22 : Int32)) (Q := fun R => ∃ M : Mem, R = some ((), M) ∧ SIn (M 0)) T22 (by decide) (by decide) (v := 32) (by decide) rfl (fun D23 T23 => ?_)
  refine st69 (c := (23 : Int32)) (Q := fun R => ∃ M : Mem, R = some ((), M) ∧ SIn (M 0)) T23 (by decide) (by decide) (v := 98) (by decide) rfl (fun D24 T24 => ?_)
  refine st69 (c := (24 : Int32)) (Q := fun R => ∃ M : Mem, R = some ((), M) ∧ SIn (M 0)) T24 (by decide) (by decide) (v := 117) (by decide) rfl (fun D25 T25 => ?_)
  refine st69 (c := (25 : Int32)) (Q := fun R => ∃ M : Mem, R = some ((), M) ∧ SIn (M 0)) T25 (by decide) (by decide) (v := 100) (by decide) rfl (fun D26 T26 => ?_)
  refine st69 (c := (26 : Int32)) (Q := fun R => ∃ M : Mem, R = some ((), M) ∧ SIn (M 0)) T26 (by decide) (by decide) (v := 103) (by decide) rfl (fun D27 T27 => ?_)
  refine st69 (c := (27 : Int32)) (Q := fun R => ∃ M : Mem, R = some ((), M) ∧ SIn (M 0)) T27 (by decide) (by decide) (v := 101) (by decide) rfl (fun D28 T28 => ?_)
  refine st69 (c := (28 : Int32)) (Q := fun R => ∃ M : Mem, R = some ((), M) ∧ SIn (M 0)) T28 (by decide) (by decide) (v := 116) (by decide) rfl (fun D29 T29 => ?_)
  refine st69 (c := (29 : Int32)) (Q := fun R => ∃ M : Mem, R = some ((), M) ∧ SIn (M 0)) T29 (by decide) (by decide) (v := 32) (by decide) rfl (fun D30 T30 => ?_)
  refine st69 (c := (30 : Int32)) (Q := fun R => ∃ M : Mem, R = some ((), M) ∧ SIn (M 0)) T30 (by decide) (by decide) (v := 100) (by decide) rfl (fun D31 T31 => ?_)
  refine st69 (c := (31 : Int32)) (Q := fun R => ∃ M : Mem, R = some ((), M) ∧ SIn (M 0)) T31 (by decide) (by decide) (v := 101) (by decide) rfl (fun D32 T32 => ?_)
  refine st69 (c := (32 : Int32)) (Q := fun R => ∃ M : Mem, R = some ((), M) ∧ SIn (M 0)) T32 (by decide) (by decide) (v := 99) (by decide) rfl (fun D33 T33 => ?_)
  refine st69 (c := (33 : Int32)) (Q := fun R => ∃ M : Mem, R = some ((), M) ∧ SIn (M 0)) T33 (by decide) (by decide) (v := 97) (by decide) rfl (fun D34 T34 => ?_)
  refine st69 (c := (34 : Int32)) (Q := fun R => ∃ M : Mem, R = some ((), M) ∧ SIn (M 0)) T34 (by decide) (by decide) (v := 121) (by decide) rfl (fun D35 T35 => ?_)
  refine st69 (c := (35 : Int32)) (Q := fun R => ∃ M : Mem, R = some ((), M) ∧ SIn (M 0)) T35 (by decide) (by decide) (v := 32) (by decide) rfl (fun D36 T36 => ?_)
  refine st69 (c := (36 : Int32)) (Q := fun R => ∃ M : Mem, R = some ((), M) ∧ SIn (M 0)) T36 (by decide) (by decide) (v := 115) (by decide) rfl (fun D37 T37 => ?_)
  refine st69 (c := (37 : Int32)) (Q := fun R => ∃ M : Mem, R = some ((), M) ∧ SIn (M 0)) T37 (by decide) (by decide) (v := 101) (by decide) rfl (fun D38 T38 => ?_)
  refine st69 (c := (38 : Int32)) (Q := fun R => ∃ M : Mem, R = some ((), M) ∧ SIn (M 0)) T38 (by decide) (by decide) (v := 101) (by decide) rfl (fun D39 T39 => ?_)
  refine st69 (c := (39 : Int32)) (Q := fun R => ∃ M : Mem, R = some ((), M) ∧ SIn (M 0)) T39 (by decide) (by decide) (v := 100) (by decide) rfl (fun D40 T40 => ?_)
  refine st69 (c := (40 : Int32)) (Q := fun R => ∃ M : Mem, R = some ((), M) ∧ SIn (M 0)) T40 (by decide) (by decide) (v := 32) (by decide) rfl (fun D41 T41 => ?_)
  refine st69 (c := (41 : Int32)) (Q := fun R => ∃ M : Mem, R = some ((), M) ∧ SIn (M 0)) T41 (by decide) (by decide) (v := 109) (by decide) rfl (fun D42 T42 => ?_)
  refine st69 (c := (42 : Int32)) (Q := fun R => ∃ M : Mem, R = some ((), M) ∧ SIn (M 0)) T42 (by decide) (by decide) (v := 97) (by decide) rfl (fun D43 T43 => ?_)
  refine st69 (c := (43 : Int32)) (Q := fun R => ∃ M : Mem, R = some ((), M) ∧ SIn (M 0)) T43 (by decide) (by decide) (v := 112) (by decide) rfl (fun D44 T44 => ?_)
  refine st69 (c := (44 : Int32)) (Q := fun R => ∃ M : Mem, R = some ((), M) ∧ SIn (M 0)) T44 (by decide) (by decide) (v := 32) (by decide) rfl (fun D45 T45 => ?_)
  refine st69 (c := (45 : Int32)) (Q := fun R => ∃ M : Mem, R = some ((), M) ∧ SIn (M 0)) T45 (by decide) (by decide) (v := 103) (by decide) rfl (fun D46 T46 => ?_)
  refine st69 (c := (46 : Int32)) (Q := fun R => ∃ M : Mem, R = some ((), M) ∧ SIn (M 0)) T46 (by decide) (by decide) (v := 114) (by decide) rfl (fun D47 T47 => ?_)
  refine st69 (c := (47 : Int32)) (Q := fun R => ∃ M : Mem, R = some ((), M) ∧ SIn (M 0)) T47 (by decide) (by decide) (v := 97) (by decide) rfl (fun D48 T48 => ?_)
  refine st69 (c := (48 : Int32)) (Q := fun R => ∃ M : Mem, R = some ((), M) ∧ SIn (M 0)) T48 (by decide) (by decide) (v := 110) (by decide) rfl (fun D49 T49 => ?_)
  refine st69 (c := (49 : Int32)) (Q := fun R => ∃ M : Mem, R = some ((), M) ∧ SIn (M 0)) T49 (by decide) (by decide) (v := 116) (by decide) rfl (fun D50 T50 => ?_)
  refine st69 (c := (50 : Int32)) (Q := fun R => ∃ M : Mem, R = some ((), M) ∧ SIn (M 0)) T50 (by decide) (by decide) (v := 32) (by decide) rfl (fun D51 T51 => ?_)
  refine st69 (c := (51 : Int32)) (Q := fun R => ∃ M : Mem, R = some ((), M) ∧ SIn (M 0)) T51 (by decide) (by decide) (v := 102) (by decide) rfl (fun D52 T52 => ?_)
  refine st69 (c := (52 : Int32)) (Q := fun R => ∃ M : Mem, R = some ((), M) ∧ SIn (M 0)) T52 (by decide) (by decide) (v := 108) (by decide) rfl (fun D53 T53 => ?_)
  refine st69 (c := (53 : Int32)) (Q := fun R => ∃ M : Mem, R = some ((), M) ∧ SIn (M 0)) T53 (by decide) (by decide) (v := 117) (by decide) rfl (fun D54 T54 => ?_)
  refine st69 (c := (54 : Int32)) (Q := fun R => ∃ M : Mem, R = some ((), M) ∧ SIn (M 0)) T54 (by decide) (by decide) (v := 115) (by decide) rfl (fun D55 T55 => ?_)
  refine st69 (c := (55 : Int32)) (Q := fun R => ∃ M : Mem, R = some ((), M) ∧ SIn (M 0)) T55 (by decide) (by decide) (v := 104) (by decide) rfl (fun D56 T56 => ?_)
  refine st69 (c := (56 : Int32)) (Q := fun R => ∃ M : Mem, R = some ((), M) ∧ SIn (M 0)) T56 (by decide) (by decide) (v := 32) (by decide) rfl (fun D57 T57 => ?_)
  refine st69 (c := (57 : Int32)) (Q := fun R => ∃ M : Mem, R = some ((), M) ∧ SIn (M 0)) T57 (by decide) (by decide) (v := 116) (by decide) rfl (fun D58 T58 => ?_)
  refine st69 (c := (58 : Int32)) (Q := fun R => ∃ M : Mem, R = some ((), M) ∧ SIn (M 0)) T58 (by decide) (by decide) (v := 111) (by decide) rfl (fun D59 T59 => ?_)
  refine st69 (c := (59 : Int32)) (Q := fun R => ∃ M : Mem, R = some ((), M) ∧ SIn (M 0)) T59 (by decide) (by decide) (v := 117) (by decide) rfl (fun D60 T60 => ?_)
  refine st69 (c := (60 : Int32)) (Q := fun R => ∃ M : Mem, R = some ((), M) ∧ SIn (M 0)) T60 (by decide) (by decide) (v := 99) (by decide) rfl (fun D61 T61 => ?_)
  refine st69 (c := (61 : Int32)) (Q := fun R => ∃ M : Mem, R = some ((), M) ∧ SIn (M 0)) T61 (by decide) (by decide) (v := 104) (by decide) rfl (fun D62 T62 => ?_)
  refine st69 (c := (62 : Int32)) (Q := fun R => ∃ M : Mem, R = some ((), M) ∧ SIn (M 0)) T62 (by decide) (by decide) (v := 32) (by decide) rfl (fun D63 T63 => ?_)
  refine st69 (c := (63 : Int32)) (Q := fun R => ∃ M : Mem, R = some ((), M) ∧ SIn (M 0)) T63 (by decide) (by decide) (v := 115) (by decide) rfl (fun D64 T64 => ?_)
  refine st69 (c := (64 : Int32)) (Q := fun R => ∃ M : Mem, R = some ((), M) ∧ SIn (M 0)) T64 (by decide) (by decide) (v := 101) (by decide) rfl (fun D65 T65 => ?_)
  refine st69 (c := (65 : Int32)) (Q := fun R => ∃ M : Mem, R = some ((), M) ∧ SIn (M 0)) T65 (by decide) (by decide) (v := 114) (by decide) rfl (fun D66 T66 => ?_)
  refine st69 (c := (66 : Int32)) (Q := fun R => ∃ M : Mem, R = some ((), M) ∧ SIn (M 0)) T66 (by decide) (by decide) (v := 118) (by decide) rfl (fun D67 T67 => ?_)
  refine st69 (c := (67 : Int32)) (Q := fun R => ∃ M : Mem, R = some ((), M) ∧ SIn (M 0)) T67 (by decide) (by decide) (v := 101) (by decide) rfl (fun D68 T68 => ?_)
  refine st69 (c := (68 : Int32)) (Q := fun R => ∃ M : Mem, R = some ((), M) ∧ SIn (M 0)) T68 (by decide) (by decide) (v := 32) (by decide) rfl (fun D69 T69 => ?_)
  obtain ⟨t1, t2⟩ := T69
  rw [bnd_ap, bnd_ap, bnd_ap, bnd_ap, bnd_ap, bnd_ap, bnd_ap, bnd_ap, bnd_ap, bnd_ap, bnd_ap, bnd_ap, bnd_ap, bnd_ap, bnd_ap, bnd_ap, bnd_ap, bnd_ap, bnd_ap, bnd_ap, bnd_ap, bnd_ap, bnd_ap, bnd_ap, if_pos]
  · rw [bnd_ap]
    have key : ∀ N : Mem, (N 0 34 1 = zI 0 ∧ N 0 34 4 = zI 0 ∧ N 0 34 5 = zI (-1)) → (∀ i, N 0 35 i = zI 0) → tbl (N 0 36) wrT → ∃ M, (bd (lft N 0 (Mo_plain (N 0))) fun _ d112 => bd (lft d112 0 (Mo_keepText (d112 0))) fun _ d113 => some ((), d113)) = some ((), M) ∧ SIn (M 0) := fun N f1 f2 f3 => by
      obtain ⟨μ1, p1, ⟨p2, p3, p4, p5, p6, p7⟩, p8, p9⟩ := plain_on (N 0)
      obtain ⟨μ2, B, q1, q2, ⟨q3, q4, q5, q6, q7⟩, q8, q9, q10, q11, q12⟩ := keepText_on μ1
      have k0 := kt_0 (μ := μ2) (B := B) (by rw [q3]; exact p2) (by rw [q9 3 (by omega)]; exact p4)
      refine ⟨setS (setS N 0 μ1) 0 (bst μ2 0 B), by rw [p1, lft_some, bd_some, setS_at, q1, k0, lft_some, bd_some], ?_⟩
      rw [setS_at]
      have lb : ∀ a i, a ≠ 45 → bst μ2 0 B a i = μ2 a i := fun a i h => bst_ne _ _ _ h
      refine ⟨⟨?_, ?_, ?_, ?_, ?_, ?_, ?_⟩, fun i => ?_, fun i v h => ?_, ⟨?_, ?_, ?_, ?_⟩, B, BK_bst μ2 0 B, q2⟩
      · rw [lb _ _ (by omega), q7 _ (by omega) (by omega) (by omega) (by omega), p9 _ _ (by omega) (by omega) (by omega)]; exact f1.1
      · rw [lb _ _ (by omega), q7 _ (by omega) (by omega) (by omega) (by omega), p9 _ _ (by omega) (by omega) (by omega)]; exact f1.2.1
      · rw [lb _ _ (by omega), q7 _ (by omega) (by omega) (by omega) (by omega), p9 _ _ (by omega) (by omega) (by omega)]; exact f1.2.2
      · rw [lb _ _ (by omega), q3]; exact p2
      · rw [lb _ _ (by omega), q4]; exact p3
      · rw [lb _ _ (by omega)]; exact q5
      · rw [lb _ _ (by omega)]; exact q6
      · rw [lb _ _ (by omega), q12 _ _ (by omega), p9 _ _ (by omega) (by omega) (by omega)]; exact f2 i
      · rw [lb _ _ (by omega), q12 _ _ (by omega), p9 _ _ (by omega) (by omega) (by omega)]; exact f3 i v h
      · rw [lb _ _ (by omega), q9 _ (by omega)]; exact p4
      · rw [lb _ _ (by omega), q9 _ (by omega)]; exact p5
      · rw [lb _ _ (by omega), q9 _ (by omega)]; exact p6
      · rw [lb _ _ (by omega), q9 _ (by omega)]; exact p7
    refine key _ ⟨?_, ?_, ?_⟩ (fun i => ?_) (fun i v h => ?_)
    · rw [wrAM_ap, if_pos ⟨rfl, rfl⟩]; (repeat (first | rw [wrM_ap, if_neg (by omega)] | rw [wrAM_ap, if_neg (by omega)] | rw [t2 _ _ _ (by omega)])); rw [h65]; rfl
    · rw [wrAM_ap, if_pos ⟨rfl, rfl⟩]; (repeat (first | rw [wrM_ap, if_neg (by omega)] | rw [wrAM_ap, if_neg (by omega)] | rw [t2 _ _ _ (by omega)])); rw [h65]; rfl
    · rw [wrAM_ap, if_pos ⟨rfl, rfl⟩]; (repeat (first | rw [wrM_ap, if_neg (by omega)] | rw [wrAM_ap, if_neg (by omega)] | rw [t2 _ _ _ (by omega)])); rw [wrM_ap, if_pos ⟨rfl, rfl, rfl⟩]; rfl
    · (repeat (first | rw [wrM_ap, if_neg (by omega)] | rw [wrAM_ap, if_neg (by omega)] | rw [t2 _ _ _ (by omega)])); rw [wrAM_ap, if_pos ⟨rfl, rfl⟩]; rfl
    · have hi : i < 69 := by
        by_cases z : i < 69
        · exact z
        · rw [List.getElem?_eq_none (by show wrT.length ≤ i; exact Nat.le_of_not_lt z)] at h; exact absurd h (by simp)
      (repeat (first | rw [wrM_ap, if_neg (by omega)] | rw [wrAM_ap, if_neg (by omega)]))
      exact t1 i v hi h
  · intro j hj hm
    have hc : j = 0 ∨ j = 3 ∨ j = 15 ∨ j = 16 ∨ j = 17 ∨ j = 18 ∨ j = 19 ∨ j = 20 ∨ j = 21 ∨ j = 22 ∨ j = 24 ∨ j = 27 ∨ j = 29 := by
      have hl : j < 97 := by
        by_cases z : j < 97
        · exact z
        · exact absurd hj (by show ¬ j < cs34.length; have : cs34.length ≤ 97 := by decide
                              omega)
      have all : ∀ k : Fin 97, (cs34[k.val]?.map Prod.fst) = some 1 → (k.val = 0 ∨ k.val = 3 ∨ k.val = 15 ∨ k.val = 16 ∨ k.val = 17 ∨ k.val = 18 ∨ k.val = 19 ∨ k.val = 20 ∨ k.val = 21 ∨ k.val = 22 ∨ k.val = 24 ∨ k.val = 27 ∨ k.val = 29) := by decide
      exact all ⟨j, hl⟩ hm
    rcases hc with rfl | rfl | rfl | rfl | rfl | rfl | rfl | rfl | rfl | rfl | rfl | rfl | rfl <;> ((repeat (first | rw [wrM_ap, if_neg (by omega)] | rw [wrAM_ap, if_neg (by omega)] | rw [t2 _ _ _ (by omega)])) <;> rw [wrM_ap, if_pos ⟨rfl, rfl, rfl⟩] <;> decide)
