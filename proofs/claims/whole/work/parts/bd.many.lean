theorem many_loop {n S : Nat} {A : Ab} {dep : Nat → Nat} {μ : Sl} {b : Nat} {B : Nat → Int} (hb : MB μ b) (h : WF n S A dep) (hM : MRep B A) : ∀ (m j f : Nat), j + m = 192 → m < f → Mo_deedsMany_4 (bst μ b B) f (zI (fb_ct (fun d => decide (0 < A.1 0 d)) j : Int)) (zI (j : Int)) = some (zI (nlv A : Int)) := by
  intro m
  induction m with
  | zero =>
    intro j f hj hf
    obtain ⟨g, rfl⟩ : ∃ g, f = g + 1 := ⟨f - 1, by omega⟩
    rw [Mo_deedsMany_4, if_pos (by rw [zI_lit, zI_le (by omega) (by omega) (by omega) (by omega)]; omega), show j = 192 by omega]; rfl
  | succ m ih =>
    intro j f hj hf
    obtain ⟨g, rfl⟩ : ∃ g, f = g + 1 := ⟨f - 1, by omega⟩
    have e := ih (j + 1) g (by omega) (by omega)
    have s := fb_ct_succ (fun d => decide (0 < A.1 0 d)) j
    rw [Mo_deedsMany_4, if_neg (by rw [zI_lit, zI_le (by omega) (by omega) (by omega) (by omega)]; omega), m_deed hb h hM (by omega), bp_some, bI_if]
    rw [s] at e
    by_cases c : 0 < A.1 0 j
    · rw [decide_eq_true c, if_pos rfl, Mo_deedsMany_25, bnd_ap, bnd_ap, show (1 : Int32) = zI 1 from rfl, zI_add, zI_add]
      rw [if_pos (decide_eq_true c)] at e
      exact e
    · rw [decide_eq_false c, if_neg (by decide), Mo_deedsMany_25, bnd_ap, bnd_ap, show (1 : Int32) = zI 1 from rfl, show (0 : Int32) = zI 0 from rfl, zI_add, zI_add]
      rw [if_neg (by simp [c])] at e
      exact e
theorem m_many {n S : Nat} {A : Ab} {dep : Nat → Nat} {μ : Sl} {b : Nat} {B : Nat → Int} (hb : MB μ b) (h : WF n S A dep) (hM : MRep B A) : Mo_deedsMany (bst μ b B) = some (zI (nlv A : Int)) := many_loop hb h hM 192 0 1000000 (by omega) (by omega)
