theorem RC_copy {n S : Nat} {δ δ' : Sl} {σ : Nat → Nat} {bn : Nat} {B : Nat → Int} {A : Ab} {dep : Nat → Nat} {J : List Jb} {N : Int} (h : RC n S δ σ bn B A dep J N) (hc : CC δ δ' bn) : RC n S δ' σ bn B A dep J N := by
  obtain ⟨h, hC, hM, hW, hwd, hJ, hJC, hJM, h4, h97⟩ := h
  have hl := hJ.1.1
  have r1 : ∀ a i, 18 ≤ a → a ≤ 31 → i < bn → δ' a i = δ a i := fun a i x y z => hc a i (.inl ⟨x, y, z⟩)
  have r2 : ∀ i, i < 192 → δ' 32 i = δ 32 i := fun i x => hc 32 i (.inr (.inl ⟨rfl, x⟩))
  have r3 : ∀ i, 16 ≤ i → i ≤ 19 → δ' 17 i = δ 17 i := fun i x y => hc 17 i (.inr (.inr (.inl ⟨rfl, x, y⟩)))
  have r4 : ∀ i, (i = 0 ∨ i = 3 ∨ i = 4 ∨ i = 8 ∨ (11 ≤ i ∧ i ≤ 14)) → δ' 10 i = δ 10 i := fun i x => hc 10 i (.inr (.inr (.inr (.inl ⟨rfl, x⟩))))
  have r5 : ∀ i, i < 24 → δ' 11 i = δ 11 i := fun i x => hc 11 i (.inr (.inr (.inr (.inr (.inl ⟨.inl rfl, x⟩)))))
  have r7 : ∀ a i, 12 ≤ a → a ≤ 15 → i < 6 → δ' a i = δ a i := fun a i x y z => hc a i (.inr (.inr (.inr (.inr (.inr ⟨x, y, z⟩)))))
  obtain ⟨⟨s1, s2, s3, s4, s5⟩, hq, hf, ⟨n1, n2, n3⟩, F, L, N', P, k1, k2, k3⟩ := hC
  refine ⟨h, ⟨⟨s1, by rw [r3 _ (by omega) (by omega)]; exact s2, s3, s4, fun j h1 h2 => s5 j h1 (by rw [r1 _ _ (by omega) (by omega) h1] at h2; exact h2)⟩, fun q hq1 => by rw [r2 q hq1]; exact hq q hq1, fun d hd => ?_, ⟨by rw [r3 _ (by omega) (by omega)]; exact n1, by rw [r3 _ (by omega) (by omega)]; exact n2, n3⟩, F, L, N', P, fun x hx => ?_, k2, k3⟩, hM, fun s hs => by rw [r7 _ _ (by omega) (by omega) hs]; exact hW s hs, hwd, hJ, ⟨by rw [r4 _ (by omega)]; exact hJC.1, fun i e he => ?_⟩, hJM, by rw [r4 _ (by omega)]; exact h4, h97⟩
  · have hb := s3 d hd
    unfold CF
    rw [r1 18 _ (by omega) (by omega) hb, r1 19 _ (by omega) (by omega) hb, r1 20 _ (by omega) (by omega) hb, r1 21 _ (by omega) (by omega) hb, r1 22 _ (by omega) (by omega) hb, r1 28 _ (by omega) (by omega) hb, r1 29 _ (by omega) (by omega) hb, r1 30 _ (by omega) (by omega) hb, r1 31 _ (by omega) (by omega) hb]
    exact hf d hd
  · have hb := s3 x hx
    rw [r1 24 _ (by omega) (by omega) hb, r1 25 _ (by omega) (by omega) hb, r1 26 _ (by omega) (by omega) hb, r1 27 _ (by omega) (by omega) hb, r1 23 _ (by omega) (by omega) hb]
    exact k1 x hx
  · have hi : i < J.length := (List.getElem?_eq_some_iff.mp he).1
    rw [r5 _ (by omega), r5 _ (by omega), r5 _ (by omega), r5 _ (by omega)]
    exact hJC.2 i e he
theorem WX_copy {ee : Int × Int} {n S bn : Nat} {δ δ' : Sl} {B : Nat → Int} (h : WX ee n S δ B) (hc : CC δ δ' bn) : WX ee n S δ' B := by
  have r3 : ∀ i, 16 ≤ i → i ≤ 19 → δ' 17 i = δ 17 i := fun i x y => hc 17 i (.inr (.inr (.inl ⟨rfl, x, y⟩)))
  have r4 : ∀ i, (i = 0 ∨ i = 3 ∨ i = 4 ∨ i = 8 ∨ (11 ≤ i ∧ i ≤ 14)) → δ' 10 i = δ 10 i := fun i x => hc 10 i (.inr (.inr (.inr (.inl ⟨rfl, x⟩))))
  have r6 : ∀ i, i < 24 → δ' 16 i = δ 16 i := fun i x => hc 16 i (.inr (.inr (.inr (.inr (.inl ⟨.inr rfl, x⟩)))))
  have r7 : ∀ a i, 12 ≤ a → a ≤ 15 → i < 6 → δ' a i = δ a i := fun a i x y z => hc a i (.inr (.inr (.inr (.inr (.inr ⟨x, y, z⟩)))))
  obtain ⟨h1, h2, ⟨h3, h3'⟩, ⟨h4, h5, h6, h7⟩, ⟨h8, h9, h9', h9''⟩, h10⟩ := h
  refine ⟨fun s hs => ?_, h2, ⟨by rw [r4 _ (by omega)]; exact h3, h3'⟩, ⟨by rw [r4 _ (by omega)]; exact h4, by rw [r4 _ (by omega)]; exact h5, by rw [r4 _ (by omega)]; exact h6, by rw [r3 _ (by omega) (by omega)]; exact h7⟩, ⟨by rw [r4 _ (by omega)]; exact h8, h9, h9', h9''⟩, fun i hi => by rw [r6 _ (by omega)]; exact h10 i hi⟩
  unfold WT
  rw [r7 12 s (by omega) (by omega) hs, r7 13 s (by omega) (by omega) hs, r7 14 s (by omega) (by omega) hs]
  exact h1 s hs
