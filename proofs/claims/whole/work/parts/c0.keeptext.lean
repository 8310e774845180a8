/-! ===== a text is kept: the reference ===== -/
theorem bnd_e {α β : Type} (a : α) (f : α → β) : bnd a f = f a := by rw [bnd_ap]
theorem bd_e {ρ σ β : Type} (q : ρ) (s : σ) (K : ρ → σ → Option β) : bd (some (q, s)) K = K q s := by rw [bd_some]
def cpH (d : Sl) (b h : Nat) : Sl := fun a i => if a = b ∧ i < h then d b (h + i) else d a i
theorem cpH_ap (d : Sl) (b h a i : Nat) : cpH d b h a i = if a = b ∧ i < h then d b (h + i) else d a i := rfl
theorem copies_2 {b N h : Nat} (hN : 2 * h ≤ N) (hN2 : N < 100000) : ∀ (m j f : Nat) (d : Sl), j + m = h → m < f → Mo_copies_2 b N f (zI (h : Int)) (zI (j : Int)) d = some ((), fun a i => if a = b ∧ j ≤ i ∧ i < h then d b (h + i) else d a i) := by
  intro m
  induction m with
  | zero =>
    intro j f d hj hf
    obtain ⟨f', rfl⟩ : ∃ f', f = f' + 1 := ⟨f - 1, by omega⟩
    rw [Mo_copies_2, if_pos (by rw [zI_le (by omega) (by omega) (by omega) (by omega)]; omega)]
    congr 2
    funext a i
    rw [if_neg (by omega)]
  | succ m ih =>
    intro j f d hj hf
    obtain ⟨f', rfl⟩ : ∃ f', f = f' + 1 := ⟨f - 1, by omega⟩
    have e : zI (h : Int) + zI (j : Int) = zI ((h + j : Nat) : Int) := by rw [zI_add]; congr 1
    rw [Mo_copies_2, if_neg (by rw [zI_le (by omega) (by omega) (by omega) (by omega)]; omega), e, if_pos (zI_in (by omega) (by omega)), if_pos (zI_in (by omega) (by omega)), zI_ixn (by omega), zI_ixn (by omega), bnd_ap, bnd_ap, zI_s1, ih (j + 1) f' _ (by omega) (by omega)]
    congr 2
    funext a i
    by_cases z : a = b ∧ j + 1 ≤ i ∧ i < h
    · rw [if_pos z, if_pos (by omega), wr_ap, if_neg (by omega)]
    · rw [if_neg z, wr_ap]
      by_cases y : a = b ∧ i = j
      · rw [if_pos y, if_pos (by omega), y.2]
      · rw [if_neg y, if_neg (by omega)]
theorem copies_on {b N h : Nat} (hN : 2 * h ≤ N) (hN2 : N < 100000) (d : Sl) : Mo_copies b N d (zI (h : Int)) = some ((), cpH d b h) := by
  rw [Mo_copies, bnd_ap]
  rw [show (0 : Int32) = zI ((0 : Nat) : Int) from rfl, copies_2 hN hN2 h 0 FU d (by omega) (FU_gt (by omega))]
  congr 2
  funext a i
  rw [cpH_ap]
  by_cases z : a = b ∧ i < h
  · rw [if_pos (by omega), if_pos z]
  · rw [if_neg (by omega), if_neg z]
theorem keep_92 {μ : Sl} (hb : MB μ 0) : ∀ (m v f : Nat) (B : Nat → Int), v + m = 2227 → m < f → ∃ B', Mo_keepText_92 f (zI (v : Int)) (bst μ 0 B) = Mo_keepText_113 FU (0 : Int32) (bst μ 0 B') ∧ (∀ k, v ≤ k → k < 2227 → B' k = 0) ∧ ∀ k, k < v → B' k = B k := by
  intro m
  induction m with
  | zero =>
    intro v f B hv hf
    obtain ⟨f', rfl⟩ : ∃ f', f = f' + 1 := ⟨f - 1, by omega⟩
    refine ⟨B, ?_, fun k h1 h2 => absurd h1 (by omega), fun _ _ => rfl⟩
    rw [Mo_keepText_92, if_pos (by rw [zI_lit, zI_le (by omega) (by omega) (by omega) (by omega)]; omega), bnd_ap]
  | succ m ih =>
    intro v f B hv hf
    obtain ⟨f', rfl⟩ : ∃ f', f = f' + 1 := ⟨f - 1, by omega⟩
    have l := m_lay hb B (k := (v : Int)) 0 (by omega) (by omega)
    obtain ⟨B', t1, t2, t3⟩ := ih (v + 1) f' (upB B ((v : Int).toNat) 0) (by omega) (by omega)
    refine ⟨B', ?_, fun k h1 h2 => ?_, fun k hk => ?_⟩
    · rw [Mo_keepText_92, if_neg (by rw [zI_lit, zI_le (by omega) (by omega) (by omega) (by omega)]; omega), show (0 : Int32) = zI 0 from rfl, l, bd_some, bnd_ap, zI_s1, t1]
      rfl
    · by_cases z : k = v
      · rw [t3 k (by omega), upB, if_pos (by omega)]
      · exact t2 k (by omega) h2
    · rw [t3 k (by omega), upB, if_neg (by omega)]
theorem keep_113 {μ : Sl} (hb : MB μ 0) : ∀ (m v f : Nat) (B : Nat → Int), v + m = 24 → m < f → ∃ B', Mo_keepText_113 f (zI (v : Int)) (bst μ 0 B) = Mo_keepText_138 FU (0 : Int32) (bst μ 0 B') ∧ (∀ i, v ≤ i → i < 24 → B' (2203 + i) = -9) ∧ ∀ k, k < 2203 + v → B' k = B k := by
  intro m
  induction m with
  | zero =>
    intro v f B hv hf
    obtain ⟨f', rfl⟩ : ∃ f', f = f' + 1 := ⟨f - 1, by omega⟩
    refine ⟨B, ?_, fun k h1 h2 => absurd h1 (by omega), fun _ _ => rfl⟩
    rw [Mo_keepText_113, if_pos (by rw [zI_lit, zI_le (by omega) (by omega) (by omega) (by omega)]; omega), bnd_ap]
  | succ m ih =>
    intro v f B hv hf
    obtain ⟨f', rfl⟩ : ∃ f', f = f' + 1 := ⟨f - 1, by omega⟩
    have l := m_lay hb B (k := ((2203 + v : Nat) : Int)) (-9) (by omega) (by omega)
    obtain ⟨B', t1, t2, t3⟩ := ih (v + 1) f' (upB B (((2203 + v : Nat) : Int).toNat) (-9)) (by omega) (by omega)
    have e : (2203 : Int32) + zI (v : Int) = zI ((2203 + v : Nat) : Int) := by rw [show (2203 : Int32) = zI 2203 from rfl, zI_add]; congr 1
    refine ⟨B', ?_, fun i h1 h2 => ?_, fun k hk => ?_⟩
    · rw [Mo_keepText_113, if_neg (by rw [zI_lit, zI_le (by omega) (by omega) (by omega) (by omega)]; omega), e, show (-9 : Int32) = zI (-9) from rfl, l, bd_some, bnd_ap, zI_s1, t1]
    · by_cases z : i = v
      · rw [t3 _ (by omega), upB, if_pos (by omega)]
      · exact t2 i (by omega) h2
    · rw [t3 k (by omega), upB, if_neg (by omega)]
/-- what is kept of a text -/
def KM (μ μ' : Sl) : Prop := (μ' 34 11 = μ 34 12 ∧ μ' 34 13 = μ 34 14 ∧ μ' 34 25 = zI 0 ∧ μ' 34 26 = zI 0 ∧ ∀ i, i ≠ 11 → i ≠ 13 → i ≠ 25 → i ≠ 26 → μ' 34 i = μ 34 i) ∧ (∀ a i, 37 ≤ a → a ≤ 40 → i < 6 → μ' a i = μ a (6 + i)) ∧ (∀ i, i < 7 → μ' 41 i = μ 41 (7 + i)) ∧ (∀ i, i < 24 → μ' 43 i = μ 43 (24 + i)) ∧ (∀ i, i < 144 → μ' 44 i = μ 44 (144 + i)) ∧ ∀ a i, a < 34 ∨ a = 35 ∨ a = 36 ∨ a = 42 ∨ 44 < a → μ' a i = μ a i
theorem keepText_on (μ : Sl) : ∃ μ' B, Mo_keepText μ = Mo_keepText_138 FU (0 : Int32) (bst μ' 0 B) ∧ NB B ∧ KM μ μ' := by
  simp only [Mo_keepText, bnd_e, show (6 : Int32) = zI ((6 : Nat) : Int) from rfl, show (7 : Int32) = zI ((7 : Nat) : Int) from rfl, show (24 : Int32) = zI ((24 : Nat) : Int) from rfl, show (144 : Int32) = zI ((144 : Nat) : Int) from rfl, copies_on (show 2 * 6 ≤ 12 by omega) (show 12 < 100000 by omega), copies_on (show 2 * 7 ≤ 14 by omega) (show 14 < 100000 by omega), copies_on (show 2 * 24 ≤ 48 by omega) (show 48 < 100000 by omega), copies_on (show 2 * 144 ≤ 288 by omega) (show 288 < 100000 by omega), bd_e]
  obtain ⟨μ', hμ⟩ : ∃ μ', wr (wr (cpH (cpH (cpH (cpH (cpH (cpH (cpH (wr (wr μ 34 11 (μ 34 12)) 34 13 (wr μ 34 11 (μ 34 12) 34 14)) 37 6) 38 6) 39 6) 40 6) 41 7) 43 24) 44 144) 34 25 (0 : Int32)) 34 26 (0 : Int32) = μ' := ⟨_, rfl⟩
  have hK : KM μ μ' := by
    rw [← hμ]
    refine ⟨⟨?_, ?_, ?_, ?_, fun i _ _ _ _ => ?_⟩, fun a i h1 h2 h3 => ?_, fun i hi => ?_, fun i hi => ?_, fun i hi => ?_, fun a i h => ?_⟩
    case refine_6 =>
      have hc : a = 37 ∨ a = 38 ∨ a = 39 ∨ a = 40 := by omega
      rcases hc with rfl | rfl | rfl | rfl <;> ((repeat (first | rw [wr_ap, if_neg (by omega)] | rw [cpH_ap, if_neg (by omega)])) <;> rw [cpH_ap, if_pos (by omega)] <;> (repeat (first | rw [wr_ap, if_neg (by omega)] | rw [cpH_ap, if_neg (by omega)])))
    all_goals (repeat (first | rw [wr_ap, if_neg (by omega)] | rw [cpH_ap, if_neg (by omega)]))
    · rw [wr_ap, if_pos ⟨rfl, rfl⟩]
    · rw [wr_ap, if_pos ⟨rfl, rfl⟩]
    · rw [wr_ap, if_pos ⟨rfl, rfl⟩]; rfl
    · rw [wr_ap, if_pos ⟨rfl, rfl⟩]; rfl
    · rw [cpH_ap, if_pos (by omega)]; (repeat (first | rw [wr_ap, if_neg (by omega)] | rw [cpH_ap, if_neg (by omega)]))
    · rw [cpH_ap, if_pos (by omega)]; (repeat (first | rw [wr_ap, if_neg (by omega)] | rw [cpH_ap, if_neg (by omega)]))
    · rw [cpH_ap, if_pos (by omega)]; (repeat (first | rw [wr_ap, if_neg (by omega)] | rw [cpH_ap, if_neg (by omega)]))
  have hb : MB μ' 0 := ⟨hK.1.2.2.1, by omega⟩
  rw [hμ]
  obtain ⟨C, hC⟩ : ∃ C : Nat → Int, BK μ' 0 C := ⟨fun i => (μ' 45 i).toInt, fun i hi => by rw [zI_of, show 2227 * 0 + i = i by omega]⟩
  obtain ⟨B1, t1, t2, t3⟩ := keep_92 hb 2227 0 FU C (by omega) (FU_gt (by omega))
  obtain ⟨B2, u1, u2, u3⟩ := keep_113 hb 24 0 FU B1 (by omega) (FU_gt (by omega))
  have z0 : zI ((0 : Nat) : Int) = (0 : Int32) := rfl
  rw [bst_BK hC, z0] at t1
  rw [z0] at u1
  refine ⟨μ', B2, ?_, ⟨fun k hk => ?_, fun i hi => u2 i (by omega) hi⟩, hK⟩
  · rw [t1, u1]
  · rw [u3 k (by omega), t2 k (by omega) (by omega)]
