/-! ===== the start: the class ===== -/
theorem wrAM_ap (M : Mem) (k a : Nat) (f : Nat → Int32) (j b i : Nat) : wrAM M k a f j b i = if j = k ∧ b = a then f i else M j b i := by
  unfold wrAM
  by_cases z : j = k
  · subst z
    rw [setS_at]
    unfold wrA
    by_cases y : b = a
    · rw [if_pos y, if_pos ⟨rfl, y⟩]
    · rw [if_neg y, if_neg (fun t => y t.2)]
  · rw [setS_ne _ _ z, if_neg (fun t => z t.1)]
theorem sc_init (k : Nat) (d : Mem) : ∃ d', Sc_init k d = some ((), d') ∧ (d' k 4 5 = zI 0 ∧ d' k 4 6 = zI 16 ∧ d' k 4 7 = zI 2 ∧ d' k 4 8 = zI 5 ∧ d' k 4 9 = zI 0 ∧ d' k 4 10 = zI 0) ∧ ∀ j a i, ¬ (j = k ∧ ((4 ≤ a ∧ a ≤ 9) ∨ a = 60)) → d' j a i = d j a i := by
  simp only [Sc_init, bnd_e]
  rw [if_pos]
  · refine ⟨_, rfl, ⟨?_, ?_, ?_, ?_, ?_, ?_⟩, fun j a i h => ?_⟩
    case refine_7 => (repeat (first | rw [wrM_ap, if_neg (by omega)] | rw [wrAM_ap, if_neg (by omega)]))
    all_goals rw [wrAM_ap, if_pos ⟨rfl, rfl⟩]
    all_goals (repeat (first | rw [wrM_ap, if_neg (by omega)] | rw [wrAM_ap, if_neg (by omega)]))
    all_goals (rw [wrM_ap, if_pos ⟨rfl, rfl, rfl⟩]; rfl)
  · intro j hj hm
    have h12 : j < 12 := hj
    by_cases z : j < 5
    · have hc : j = 0 ∨ j = 1 ∨ j = 2 ∨ j = 3 ∨ j = 4 := by omega
      rcases hc with rfl | rfl | rfl | rfl | rfl <;> ((repeat (first | rw [wrM_ap, if_neg (by omega)] | rw [wrAM_ap, if_neg (by omega)])) <;> rw [wrM_ap, if_pos ⟨rfl, rfl, rfl⟩] <;> decide)
    · have hc : j = 5 ∨ j = 6 ∨ j = 7 ∨ j = 8 ∨ j = 9 ∨ j = 10 ∨ j = 11 := by omega
      rcases hc with rfl | rfl | rfl | rfl | rfl | rfl | rfl <;> exact absurd hm (by decide)
theorem re_init (q : Nat) (d : Mem) : ∃ d', Re_init 0 q d = some ((), d') ∧ (d' 0 2 0 = zI 0 ∧ d' 0 2 1 = zI (-1)) ∧ ∀ j a i, ¬ (j = 0 ∧ (a = 2 ∨ a = 63)) → d' j a i = d j a i := by
  simp only [Re_init, bnd_e]
  rw [if_pos]
  · refine ⟨_, rfl, ⟨?_, ?_⟩, fun j a i h => ?_⟩
    case refine_3 => (repeat (first | rw [wrM_ap, if_neg (by omega)] | rw [wrAM_ap, if_neg (by omega)]))
    all_goals rw [wrAM_ap, if_pos ⟨rfl, rfl⟩]
    all_goals (repeat (first | rw [wrM_ap, if_neg (by omega)] | rw [wrAM_ap, if_neg (by omega)]))
    all_goals (rw [wrM_ap, if_pos ⟨rfl, rfl, rfl⟩]; rfl)
  · intro j hj hm
    have h12 : j < 11 := hj
    by_cases z : j = 2
    · subst z
      (repeat (first | rw [wrM_ap, if_neg (by omega)] | rw [wrAM_ap, if_neg (by omega)])) <;> rw [wrM_ap, if_pos ⟨rfl, rfl, rfl⟩] <;> decide
    · have hc : j = 0 ∨ j = 1 ∨ j = 3 ∨ j = 4 ∨ j = 5 ∨ j = 6 ∨ j = 7 ∨ j = 8 ∨ j = 9 ∨ j = 10 := by omega
      rcases hc with rfl | rfl | rfl | rfl | rfl | rfl | rfl | rfl | rfl | rfl <;> exact absurd hm (by decide)
theorem wo_made (k q : Nat) (d : Mem) : ∃ d', Wo_init k q d = some ((), d') ∧ NW (d' k) q ∧ ∀ j a i, j ≠ k → d' j a i = d j a i := by
  have t := wo_init (M := d) (k := k) (q := q) (d k)
  rw [setS_self] at t
  refine ⟨_, t, ?_, fun j a i h => by rw [setS_ne _ _ h]⟩
  rw [setS_at]
  have g10 : ∀ i, inG (d k) (nI q) 10 i = inE (inF (d k)) (nI q) 61 i := fun i => by unfold inG wrA; rw [if_pos rfl]
  have gne : ∀ a i, a ≠ 10 → inG (d k) (nI q) a i = inE (inF (d k)) (nI q) a i := fun a i h => by unfold inG wrA; rw [if_neg h]
  have f17 : ∀ i, 16 ≤ i → i < 20 → inF (d k) 17 i = 0 := fun i h1 h2 => by
    unfold inF wrA
    rw [if_pos rfl, flS_ap, if_neg (by omega)]
    exact inD_0 _ h1 h2
  have f32 : ∀ i, i < 192 → inF (d k) 32 i = (-1 : Int32) := fun i h => by
    unfold inF wrA
    rw [if_neg (by omega), flS_ap, if_pos ⟨rfl, h⟩]
  refine ⟨⟨?_, ?_, ?_, ?_⟩, fun i hi => ?_, fun s hs => ⟨?_, ?_⟩, ?_, fun i hi => ?_⟩
  · rw [gne _ _ (by omega), inE_ne _ _ _ (by omega) (by omega)]; exact f17 _ (by omega) (by omega)
  · rw [gne _ _ (by omega), inE_ne _ _ _ (by omega) (by omega)]; exact f17 _ (by omega) (by omega)
  · rw [gne _ _ (by omega), inE_ne _ _ _ (by omega) (by omega)]; exact f17 _ (by omega) (by omega)
  · rw [gne _ _ (by omega), inE_ne _ _ _ (by omega) (by omega)]; exact f17 _ (by omega) (by omega)
  · rw [gne _ _ (by omega), inE_ne _ _ _ (by omega) (by omega)]; exact f32 _ hi
  · rw [gne _ _ (by omega)]; exact inE_row _ _ _ (by omega) (by omega)
  · rw [gne _ _ (by omega)]; exact inE_row _ _ _ (by omega) (by omega)
  · rw [g10, inE_v]; exact zI_nI q
  · rw [g10]; exact inE_0 _ _ hi
theorem fh_made (d : Mem) : ∃ M, Fh_init d = some ((), M) ∧ (M 0 0 1 = zI 0 ∧ M 0 0 2 = zI 0 ∧ M 0 0 4 = zI 2 ∧ M 0 0 5 = zI 3 ∧ M 0 0 6 = zI 4 ∧ M 0 0 8 = zI 0 ∧ M 0 0 9 = zI 0) ∧ (∀ i, M 0 3 i = zI (-1)) ∧ (∀ i, M 0 1 i = zI 0) ∧ (M 0 2 0 = zI 0 ∧ M 0 2 1 = zI (-1)) ∧ (M 1 4 5 = zI 0 ∧ M 1 4 6 = zI 16 ∧ M 1 4 7 = zI 2 ∧ M 1 4 8 = zI 5 ∧ M 1 4 9 = zI 0 ∧ M 1 4 10 = zI 0) ∧ NW (M 2) 1 ∧ ∀ a i, 48 ≤ a → a < 60 → M 0 a i = d 0 a i := by
  rw [Fh_init, bnd_ap, bnd_ap, bnd_ap, bnd_ap]
  obtain ⟨d9, e9, -, h9⟩ := sc_init 0 (wrAM (wrM (wrM (wrAM d 0 1 (fun _ => 0)) 0 64 0 1) 0 64 1 (0 : Int32)) 0 60 (rini cs60))
  rw [e9, bd_some, bnd_ap, bnd_ap]
  have k0 : wrAM (wrM d9 0 64 2 (nI 0)) 0 63 (rini cs63) 0 64 0 = 1 := by
    rw [wrAM_ap, if_neg (by omega), wrM_ap, if_neg (by omega), h9 _ _ _ (by omega), wrAM_ap, if_neg (by omega), wrM_ap, if_neg (by omega), wrM_ap, if_pos ⟨rfl, rfl, rfl⟩]
  have k2 : wrAM (wrM d9 0 64 2 (nI 0)) 0 63 (rini cs63) 0 64 2 = zI ((0 : Nat) : Int) := by
    rw [wrAM_ap, if_neg (by omega), wrM_ap, if_pos ⟨rfl, rfl, rfl⟩]; rfl
  rw [if_neg (by rw [k0]; decide), k2, gref_z (by omega)]
  obtain ⟨d16, e16, x16, h16⟩ := re_init 0 (wrAM (wrM d9 0 64 2 (nI 0)) 0 63 (rini cs63))
  rw [e16, bd_some, bnd_ap, bnd_ap, bnd_ap]
  obtain ⟨d24, e24, x24, h24⟩ := sc_init 1 (wrAM (wrAM (wrM d16 0 64 3 1) 2 61 (rini cs61)) 1 60 (rini cs60))
  rw [e24, bd_some]
  obtain ⟨d27, e27, x27, h27⟩ := wo_made 2 1 d24
  rw [e27, bd_some, bnd_ap, bnd_ap]
  have k4 : wrAM (wrM d27 0 64 4 (nI 2)) 3 61 (rini cs61) 0 64 4 = zI ((2 : Nat) : Int) := by
    rw [wrAM_ap, if_neg (by omega), wrM_ap, if_pos ⟨rfl, rfl, rfl⟩]; rfl
  have k5 : wrAM (wrM d27 0 64 4 (nI 2)) 3 61 (rini cs61) 2 10 0 = zI ((1 : Nat) : Int) := by
    rw [wrAM_ap, if_neg (by omega), wrM_ap, if_neg (by omega)]; exact x27.2.2.2.1
  rw [k4, gref_z (by omega), k5, gref_z (by omega)]
  obtain ⟨d35, e35, x35, h35⟩ := wo_made 3 1 (wrAM (wrM d27 0 64 4 (nI 2)) 3 61 (rini cs61))
  rw [e35, bd_some, bnd_ap, bnd_ap]
  have k6 : wrAM (wrM d35 0 64 5 (nI 3)) 4 61 (rini cs61) 0 64 4 = zI ((2 : Nat) : Int) := by
    rw [wrAM_ap, if_neg (by omega), wrM_ap, if_neg (by omega), h35 _ _ _ (by omega)]; exact k4
  have k7 : wrAM (wrM d35 0 64 5 (nI 3)) 4 61 (rini cs61) 2 10 0 = zI ((1 : Nat) : Int) := by
    rw [wrAM_ap, if_neg (by omega), wrM_ap, if_neg (by omega), h35 _ _ _ (by omega)]; exact k5
  rw [k6, gref_z (by omega), k7, gref_z (by omega)]
  obtain ⟨d43, e43, x43, h43⟩ := wo_made 4 1 (wrAM (wrM d35 0 64 5 (nI 3)) 4 61 (rini cs61))
  rw [e43, bd_some, bnd_ap, bnd_ap, bnd_ap, bnd_ap, bnd_ap, if_pos]
  · rw [bnd_ap]
    refine ⟨_, rfl, ⟨?_, ?_, ?_, ?_, ?_, ?_, ?_⟩, fun i => ?_, fun i => ?_, ⟨?_, ?_⟩, ⟨?_, ?_, ?_, ?_, ?_, ?_⟩, ?_, fun a i h1 h2 => ?_⟩
    case refine_18 =>
      have e : wrAM (wrM (wrM (wrM (wrAM (wrM d43 0 64 6 (nI 4)) 0 3 (fun _ => -1)) 0 64 7 1) 0 64 8 (0 : Int32)) 0 64 9 (0 : Int32)) 0 0 (wrM (wrM (wrM (wrAM (wrM d43 0 64 6 (nI 4)) 0 3 (fun _ => -1)) 0 64 7 1) 0 64 8 (0 : Int32)) 0 64 9 (0 : Int32) 0 64) 2 = d27 2 := by
        funext a i
        repeat (first | rw [wrM_ap, if_neg (by omega)] | rw [wrAM_ap, if_neg (by omega)] | rw [h43 _ _ _ (by omega)] | rw [h35 _ _ _ (by omega)])
      rw [e]; exact x27
    case refine_19 => (repeat (first | rw [wrM_ap, if_neg (by omega)] | rw [wrAM_ap, if_neg (by omega)] | rw [h43 _ _ _ (by omega)] | rw [h35 _ _ _ (by omega)] | rw [h27 _ _ _ (by omega)] | rw [h24 _ _ _ (by omega)] | rw [h16 _ _ _ (by omega)] | rw [h9 _ _ _ (by omega)]))
    case refine_10 => (repeat (first | rw [wrM_ap, if_neg (by omega)] | rw [wrAM_ap, if_neg (by omega)] | rw [h43 _ _ _ (by omega)] | rw [h35 _ _ _ (by omega)] | rw [h27 _ _ _ (by omega)] | rw [h24 _ _ _ (by omega)] | rw [h16 _ _ _ (by omega)] | rw [h9 _ _ _ (by omega)])); exact x16.1
    case refine_11 => (repeat (first | rw [wrM_ap, if_neg (by omega)] | rw [wrAM_ap, if_neg (by omega)] | rw [h43 _ _ _ (by omega)] | rw [h35 _ _ _ (by omega)] | rw [h27 _ _ _ (by omega)] | rw [h24 _ _ _ (by omega)] | rw [h16 _ _ _ (by omega)] | rw [h9 _ _ _ (by omega)])); exact x16.2
    case refine_12 => (repeat (first | rw [wrM_ap, if_neg (by omega)] | rw [wrAM_ap, if_neg (by omega)] | rw [h43 _ _ _ (by omega)] | rw [h35 _ _ _ (by omega)] | rw [h27 _ _ _ (by omega)] | rw [h24 _ _ _ (by omega)] | rw [h16 _ _ _ (by omega)] | rw [h9 _ _ _ (by omega)])); exact x24.1
    case refine_13 => (repeat (first | rw [wrM_ap, if_neg (by omega)] | rw [wrAM_ap, if_neg (by omega)] | rw [h43 _ _ _ (by omega)] | rw [h35 _ _ _ (by omega)] | rw [h27 _ _ _ (by omega)] | rw [h24 _ _ _ (by omega)] | rw [h16 _ _ _ (by omega)] | rw [h9 _ _ _ (by omega)])); exact x24.2.1
    case refine_14 => (repeat (first | rw [wrM_ap, if_neg (by omega)] | rw [wrAM_ap, if_neg (by omega)] | rw [h43 _ _ _ (by omega)] | rw [h35 _ _ _ (by omega)] | rw [h27 _ _ _ (by omega)] | rw [h24 _ _ _ (by omega)] | rw [h16 _ _ _ (by omega)] | rw [h9 _ _ _ (by omega)])); exact x24.2.2.1
    case refine_15 => (repeat (first | rw [wrM_ap, if_neg (by omega)] | rw [wrAM_ap, if_neg (by omega)] | rw [h43 _ _ _ (by omega)] | rw [h35 _ _ _ (by omega)] | rw [h27 _ _ _ (by omega)] | rw [h24 _ _ _ (by omega)] | rw [h16 _ _ _ (by omega)] | rw [h9 _ _ _ (by omega)])); exact x24.2.2.2.1
    case refine_16 => (repeat (first | rw [wrM_ap, if_neg (by omega)] | rw [wrAM_ap, if_neg (by omega)] | rw [h43 _ _ _ (by omega)] | rw [h35 _ _ _ (by omega)] | rw [h27 _ _ _ (by omega)] | rw [h24 _ _ _ (by omega)] | rw [h16 _ _ _ (by omega)] | rw [h9 _ _ _ (by omega)])); exact x24.2.2.2.2.1
    case refine_17 => (repeat (first | rw [wrM_ap, if_neg (by omega)] | rw [wrAM_ap, if_neg (by omega)] | rw [h43 _ _ _ (by omega)] | rw [h35 _ _ _ (by omega)] | rw [h27 _ _ _ (by omega)] | rw [h24 _ _ _ (by omega)] | rw [h16 _ _ _ (by omega)] | rw [h9 _ _ _ (by omega)])); exact x24.2.2.2.2.2
    case refine_8 => (repeat (first | rw [wrM_ap, if_neg (by omega)] | rw [wrAM_ap, if_neg (by omega)] | rw [h43 _ _ _ (by omega)] | rw [h35 _ _ _ (by omega)] | rw [h27 _ _ _ (by omega)] | rw [h24 _ _ _ (by omega)] | rw [h16 _ _ _ (by omega)] | rw [h9 _ _ _ (by omega)])); rw [wrAM_ap, if_pos ⟨rfl, rfl⟩]; rfl
    case refine_9 => (repeat (first | rw [wrM_ap, if_neg (by omega)] | rw [wrAM_ap, if_neg (by omega)] | rw [h43 _ _ _ (by omega)] | rw [h35 _ _ _ (by omega)] | rw [h27 _ _ _ (by omega)] | rw [h24 _ _ _ (by omega)] | rw [h16 _ _ _ (by omega)] | rw [h9 _ _ _ (by omega)])); rw [wrAM_ap, if_pos ⟨rfl, rfl⟩]; rfl
    all_goals rw [wrAM_ap, if_pos ⟨rfl, rfl⟩]
    all_goals (repeat (first | rw [wrM_ap, if_neg (by omega)] | rw [wrAM_ap, if_neg (by omega)] | rw [h43 _ _ _ (by omega)] | rw [h35 _ _ _ (by omega)] | rw [h27 _ _ _ (by omega)] | rw [h24 _ _ _ (by omega)] | rw [h16 _ _ _ (by omega)] | rw [h9 _ _ _ (by omega)]))
    all_goals (rw [wrM_ap, if_pos ⟨rfl, rfl, rfl⟩]; rfl)
  · intro j hj hm
    have h10 : j < 10 := hj
    by_cases z : j = 0 ∨ j = 3 ∨ j = 7
    · rcases z with rfl | rfl | rfl <;> ((repeat (first | rw [wrM_ap, if_neg (by omega)] | rw [wrAM_ap, if_neg (by omega)] | rw [h43 _ _ _ (by omega)] | rw [h35 _ _ _ (by omega)] | rw [h27 _ _ _ (by omega)] | rw [h24 _ _ _ (by omega)] | rw [h16 _ _ _ (by omega)] | rw [h9 _ _ _ (by omega)])) <;> rw [wrM_ap, if_pos ⟨rfl, rfl, rfl⟩] <;> decide)
    · have hc : j = 1 ∨ j = 2 ∨ j = 4 ∨ j = 5 ∨ j = 6 ∨ j = 8 ∨ j = 9 := by omega
      rcases hc with rfl | rfl | rfl | rfl | rfl | rfl | rfl <;> exact absurd hm (by decide)
