/-! ===== the start: the class ===== -/
theorem wrAM_ap (M : Mem) (k a : Nat) (f : Nat → Int32) (j b i : Nat) : wrAM M k a f j b i = if j = k ∧ b = a then f i else M j b i := by
  unfold wrAM
  by_cases z : j = k
  · subst z
    rw [setS_at]
    unfold wrA
    by_cases y : b = a
    · rw [if_pos y, if_pos ⟨rfl, y⟩]
    · rw [if_neg y, if_neg (fun t => y t.2)]
  · rw [setS_ne _ _ z, if_neg (fun t => z t.1)]
theorem sc_init (k : Nat) (d : Mem) : ∃ d', Sc_init k d = some ((), d') ∧ (d' k 4 5 = zI 0 ∧ d' k 4 6 = zI 16 ∧ d' k 4 7 = zI 2 ∧ d' k 4 8 = zI 5 ∧ d' k 4 9 = zI 0 ∧ d' k 4 10 = zI 0) ∧ ∀ j a i, ¬ (j = k ∧ ((4 ≤ a ∧ a ≤ 9) ∨ a = 60)) → d' j a i = d j a i := by
  simp only [Sc_init, bnd_e]
  rw [if_pos]
  · refine ⟨_, rfl, ⟨?_, ?_, ?_, ?_, ?_, ?_⟩, fun j a i h => ?_⟩
    case refine_7 => (repeat (first | rw [wrM_ap, if_neg (by omega)] | rw [wrAM_ap, if_neg (by omega)]))
    all_goals rw [wrAM_ap, if_pos ⟨rfl, rfl⟩]
    all_goals (repeat (first | rw [wrM_ap, if_neg (by omega)] | rw [wrAM_ap, if_neg (by omega)]))
    all_goals (rw [wrM_ap, if_pos ⟨rfl, rfl, rfl⟩]; rfl)
  · intro j hj hm
    have h12 : j < 12 := hj
    by_cases z : j < 5
    · have hc : j = 0 ∨ j = 1 ∨ j = 2 ∨ j = 3 ∨ j = 4 := by omega
      rcases hc with rfl | rfl | rfl | rfl | rfl <;> ((repeat (first | rw [wrM_ap, if_neg (by omega)] | rw [wrAM_ap, if_neg (by omega)])) <;> rw [wrM_ap, if_pos ⟨rfl, rfl, rfl⟩] <;> decide)
    · have hc : j = 5 ∨ j = 6 ∨ j = 7 ∨ j = 8 ∨ j = 9 ∨ j = 10 ∨ j = 11 := by omega
      rcases hc with rfl | rfl | rfl | rfl | rfl | rfl | rfl <;> exact absurd hm (by decide)
theorem re_init (q : Nat) (d : Mem) : ∃ d', Re_init 0 q d = some ((), d') ∧ (d' 0 2 0 = zI 0 ∧ d' 0 2 1 = zI (-1)) ∧ ∀ j a i, ¬ (j = 0 ∧ (a = 2 ∨ a = 63)) → d' j a i = d j a i := by
  simp only [Re_init, bnd_e]
  rw [if_pos]
  · refine ⟨_, rfl, ⟨?_, ?_⟩, fun j a i h => ?_⟩
    case refine_3 => (repeat (first | rw [wrM_ap, if_neg (by omega)] | rw [wrAM_ap, if_neg (by omega)]))
    all_goals rw [wrAM_ap, if_pos ⟨rfl, rfl⟩]
    all_goals (repeat (first | rw [wrM_ap, if_neg (by omega)] | rw [wrAM_ap, if_neg (by omega)]))
    all_goals (rw [wrM_ap, if_pos ⟨rfl, rfl, rfl⟩]; rfl)
  · intro j hj hm
    have h12 : j < 11 := hj
    by_cases z : j = 2
    · subst z
      (repeat (first | rw [wrM_ap, if_neg (by omega)] | rw [wrAM_ap, if_neg (by omega)])) <;> rw [wrM_ap, if_pos ⟨rfl, rfl, rfl⟩] <;> decide
    · have hc : j = 0 ∨ j = 1 ∨ j = 3 ∨ j = 4 ∨ j = 5 ∨ j = 6 ∨ j = 7 ∨ j = 8 ∨ j = 9 ∨ j = 10 := by omega
      rcases hc with rfl | rfl | rfl | rfl | rfl | rfl | rfl | rfl | rfl | rfl <;> exact absurd hm (by decide)
theorem wo_made (k q : Nat) (d : Mem) : ∃ d', Wo_init k q d = some ((), d') ∧ NW (d' k) q ∧ ∀ j a i, j ≠ k → d' j a i = d j a i := by
  have t := wo_init (M := d) (k := k) (q := q) (d k)
  rw [setS_self] at t
  refine ⟨_, t, ?_, fun j a i h => by rw [setS_ne _ _ h]⟩
  rw [setS_at]
  have g10 : ∀ i, inG (d k) (nI q) 10 i = inE (inF (d k)) (nI q) 61 i := fun i => by unfold inG wrA; rw [if_pos rfl]
  have gne : ∀ a i, a ≠ 10 → inG (d k) (nI q) a i = inE (inF (d k)) (nI q) a i := fun a i h => by unfold inG wrA; rw [if_neg h]
  have f17 : ∀ i, 16 ≤ i → i < 20 → inF (d k) 17 i = 0 := fun i h1 h2 => by
    unfold inF wrA
    rw [if_pos rfl, flS_ap, if_neg (by omega)]
    exact inD_0 _ h1 h2
  have f32 : ∀ i, i < 192 → inF (d k) 32 i = (-1 : Int32) := fun i h => by
    unfold inF wrA
    rw [if_neg (by omega), flS_ap, if_pos ⟨rfl, h⟩]
  refine ⟨⟨?_, ?_, ?_, ?_⟩, fun i hi => ?_, fun s hs => ⟨?_, ?_⟩, ?_, fun i hi => ?_⟩
  · rw [gne _ _ (by omega), inE_ne _ _ _ (by omega) (by omega)]; exact f17 _ (by omega) (by omega)
  · rw [gne _ _ (by omega), inE_ne _ _ _ (by omega) (by omega)]; exact f17 _ (by omega) (by omega)
  · rw [gne _ _ (by omega), inE_ne _ _ _ (by omega) (by omega)]; exact f17 _ (by omega) (by omega)
  · rw [gne _ _ (by omega), inE_ne _ _ _ (by omega) (by omega)]; exact f17 _ (by omega) (by omega)
  · rw [gne _ _ (by omega), inE_ne _ _ _ (by omega) (by omega)]; exact f32 _ hi
  · rw [gne _ _ (by omega)]; exact inE_row _ _ _ (by omega) (by omega)
  · rw [gne _ _ (by omega)]; exact inE_row _ _ _ (by omega) (by omega)
  · rw [g10, inE_v]; exact zI_nI q
  · rw [g10]; exact inE_0 _ _ hi
