/-! ===== the world's relation ===== -/
def WT (n S : Nat) (δ : Sl) (B : Nat → Int) (s : Nat) : Prop := (B (2172 + s) = 0 ∧ δ 14 s = zI 0) ∨ (B (2172 + s) = 1 ∧ s < n ∧ δ 14 s = zI (B (2190 + s)) ∧ 0 < B (2190 + s) ∧ B (2190 + s) ≤ B 2196 ∧ δ 12 s = zI (B (2178 + s)) ∧ 0 ≤ B (2178 + s) ∧ B (2178 + s) < (S : Int) ∧ δ 13 s = zI (B (2184 + s)) ∧ (B (2184 + s) = 1 ∨ B (2184 + s) = 2 ∨ B (2184 + s) = 4))
def WX (ee : Int × Int) (n S : Nat) (δ : Sl) (B : Nat → Int) : Prop := (∀ s, s < 6 → WT n S δ B s) ∧ (∀ s t, s < 6 → t < 6 → B (2172 + s) = 1 → B (2172 + t) = 1 → B (2190 + s) = B (2190 + t) → s = t) ∧ (δ 10 8 = zI (B 2196) ∧ 0 ≤ B 2196) ∧ (δ 10 12 = zI (B 2199) ∧ δ 10 13 = zI (B 2200) ∧ δ 10 14 = zI (B 2201) ∧ δ 17 19 = zI (B 2198)) ∧ (δ 10 11 = zI ee.1 ∧ B 2202 = ee.1 + ee.2 ∧ 0 ≤ ee.1 ∧ ee.1 ≤ 24) ∧ ∀ i : Nat, i < 24 → ((i : Int) < ee.1 → δ 16 i = zI (B (2203 + i))) ∧ (ee.1 ≤ (i : Int) → B (2203 + i) = -9)
theorem WX_keep {ee : Int × Int} {n S : Nat} {δ δ' : Sl} {B B' : Nat → Int} (h : WX ee n S δ B) (e1 : ∀ a i, a = 12 ∨ a = 13 ∨ a = 14 ∨ a = 16 → δ' a i = δ a i) (e2 : ∀ i, i = 8 ∨ i = 11 ∨ i = 12 ∨ i = 13 → δ' 10 i = δ 10 i) (e3 : ∀ k, 2172 ≤ k → k ≠ 2197 → k ≠ 2198 → k ≠ 2201 → B' k = B k) (e4 : δ' 10 14 = zI (B' 2201)) (e5 : δ' 17 19 = zI (B' 2198)) : WX ee n S δ' B' := by
  obtain ⟨h1, h2, ⟨h3, h3'⟩, ⟨h4, h5, h6, h7⟩, ⟨h8, h9, h9'⟩, h10⟩ := h
  refine ⟨fun s hs => ?_, fun s t hs ht => ?_, ⟨?_, ?_⟩, ⟨?_, ?_, e4, e5⟩, ⟨?_, ?_, ?_⟩, fun i hi => ?_⟩
  · unfold WT
    rw [e1 _ _ (by omega), e1 _ _ (by omega), e1 _ _ (by omega), e3 _ (by omega) (by omega) (by omega) (by omega), e3 _ (by omega) (by omega) (by omega) (by omega), e3 _ (by omega) (by omega) (by omega) (by omega), e3 _ (by omega) (by omega) (by omega) (by omega), e3 _ (by omega) (by omega) (by omega) (by omega)]
    exact h1 s hs
  · rw [e3 _ (by omega) (by omega) (by omega) (by omega), e3 _ (by omega) (by omega) (by omega) (by omega), e3 _ (by omega) (by omega) (by omega) (by omega), e3 _ (by omega) (by omega) (by omega) (by omega)]
    exact h2 s t hs ht
  · rw [e2 _ (by omega), e3 _ (by omega) (by omega) (by omega) (by omega)]; exact h3
  · rw [e3 _ (by omega) (by omega) (by omega) (by omega)]; exact h3'
  · rw [e2 _ (by omega), e3 _ (by omega) (by omega) (by omega) (by omega)]; exact h4
  · rw [e2 _ (by omega), e3 _ (by omega) (by omega) (by omega) (by omega)]; exact h5
  · rw [e2 _ (by omega)]; exact h8
  · rw [e3 _ (by omega) (by omega) (by omega) (by omega)]; exact h9
  · exact h9'
  · rw [e1 _ _ (by omega), e3 _ (by omega) (by omega) (by omega) (by omega)]; exact h10 i hi
theorem JA_ext {A A' : Ab} {J : List Jb} {N : Int} (h : JA A J N) (e : ∀ j x, j = 0 ∨ j = 3 ∨ j = 9 ∨ j = 10 ∨ j = 11 → A'.1 j x = A.1 j x) : JA A' J N := by
  have hlv : ∀ x, Lv A' x ↔ Lv A x := fun x => by unfold Lv; rw [e 0 x (by omega)]
  have hbl : ∀ d x, bl A' d x = bl A d x := bl_c3 (fun x => e 3 x (by omega))
  have e3 : ∀ x, A'.1 3 x = A.1 3 x := fun x => e 3 x (by omega)
  have e9 : ∀ x, A'.1 9 x = A.1 9 x := fun x => e 9 x (by omega)
  have e10 : ∀ x, A'.1 10 x = A.1 10 x := fun x => e 10 x (by omega)
  have e11 : ∀ x, A'.1 11 x = A.1 11 x := fun x => e 11 x (by omega)
  unfold JA JE JT P1 P2 P3 P4 at h ⊢
  simp only [hlv, hbl, e3, e9, e10, e11]
  exact h
theorem MR_8 {n S : Nat} {A : Ab} {dep : Nat → Nat} {B B' : Nat → Int} {x : Nat} {v : Int} (h : WF n S A dep) (hx : Lv A x) (hM : MRep B A) (e : ∀ k, k < 1920 → B' k = if k = 1536 + x then v else B k) : MRep B' (setA A 8 x v) := by
  have hx1 := hx.1
  obtain ⟨m1, m2, m3, m4⟩ := hM
  have hlv : ∀ y, Lv (setA A 8 x v) y ↔ Lv A y := fun y => by unfold Lv; rw [setA_ne _ _ (by omega)]
  have h8 : ∀ y, (setA A 8 x v).1 8 y = if y = x then v else A.1 8 y := fun y => by
    show (if 8 = 8 ∧ y = x then v else A.1 8 y) = _
    by_cases c : y = x
    · rw [if_pos ⟨rfl, c⟩, if_pos c]
    · rw [if_neg (fun z => c z.2), if_neg c]
  have hlow : ∀ k, k < 1536 → B' k = B k := fun k g => by rw [e k (by omega), if_neg (by omega)]
  refine ⟨fun d hd => by rw [hlow d (by omega), setA_ne _ _ (by omega)]; exact m1 d hd, fun d hd => ?_, fun g hg => ?_, fun d hd h3 => ?_⟩
  · have hd' := (hlv d).mp hd
    have hl := hd.1
    obtain ⟨a1, a2, a3, a4, a5⟩ := m2 d hd'
    rw [hlow _ (by omega), hlow _ (by omega), hlow _ (by omega), e (1536 + d) (by omega), e (1728 + d) (by omega), if_neg (show ¬ 1728 + d = 1536 + x by omega), setA_ne (k := 1) _ _ (by omega), setA_ne (k := 2) _ _ (by omega), setA_ne (k := 3) _ _ (by omega), setA_ne (k := 9) _ _ (by omega), h8]
    refine ⟨a1, a2, a3, ?_, a5⟩
    by_cases c : d = x
    · rw [if_pos (by omega), if_pos c]
    · rw [if_neg (by omega), if_neg c]; exact a4
  · have hg' := (hlv g).mp hg
    have hl := hg.1
    obtain ⟨a1, a2, a3⟩ := m3 g hg'
    refine ⟨(hlow (768 + g) (by omega)).trans a1, (hlow (960 + g) (by omega)).trans a2, fun l1 y l2 e => ?_⟩
    obtain ⟨b1, b2⟩ := a3 l1 y l2 e
    have hy : y < 192 := ((h.2.2.2.2.2.1 g hg').2 y (by
      have e' : A.2 g = l1 ++ y :: l2 := e
      rw [e']; simp)).1.1
    exact ⟨(hlow (1344 + y) (by omega)).trans b1, (hlow (1152 + y) (by omega)).trans b2⟩
  · have hd' := (hlv d).mp hd
    have hl := hd.1
    rw [setA_ne (k := 3) _ _ (by omega)] at h3
    obtain ⟨a1, a2⟩ := m4 d hd' h3
    exact ⟨(hlow _ (by omega)).trans a1, (hlow _ (by omega)).trans a2⟩
/-- an age is written on both sides -/
theorem RC_age {n S : Nat} {δ : Sl} {σ : Nat → Nat} {bn : Nat} {B : Nat → Int} {A : Ab} {dep : Nat → Nat} {J : List Jb} {N : Int} (h : RC n S δ σ bn B A dep J N) {x : Nat} {v : Int} (hx : Lv A x) (h1 : 0 ≤ v) (h2 : v ≤ 1266679808) : RC n S (wr δ 31 (σ x) (zI v)) σ bn (upB B (1536 + x) v) (setA A 8 x v) dep J N := by
  obtain ⟨hW0, hC, hM, hW, hwd, hJ, hJC, hJM, h4, h97⟩ := h
  have hx1 := hx.1
  have e : ∀ k, k ≠ 1536 + x → upB B (1536 + x) v k = B k := fun k hk => by rw [upB_ap, if_neg hk]
  have ed : ∀ a i, a ≠ 31 → wr δ 31 (σ x) (zI v) a i = δ a i := fun a i ha => by rw [wr_ap, if_neg (fun z => ha z.1)]
  have hlv : ∀ y, Lv (setA A 8 x v) y ↔ Lv A y := fun y => by unfold Lv; rw [setA_ne _ _ (by omega)]
  refine ⟨WF_set hW0 8 x v (.inr (.inl ⟨rfl, h1, h2⟩)), cr_fld hC (by omega) hx, MR_8 hW0 hx hM (fun k _ => by rw [upB_ap]), fun s hs => ?_, fun y hy ho => ?_, JA_ext hJ (fun j y hj => setA_ne _ _ (by omega)), JC_keep hJC (ed _ _ (by omega)) (fun i => ed _ _ (by omega)), JM_keep hJM hJ.1.1 (fun k g1 g2 => e k (by omega)), by rw [ed _ _ (by omega)]; exact h4, by rw [e _ (by omega)]; exact h97⟩
  · rw [ed _ _ (by omega), e _ (by omega), e _ (by omega), e _ (by omega), e _ (by omega)]; exact hW s hs
  · have hy' := (hlv y).mp hy
    have hy1 := hy.1
    have : 1920 ≤ wdc y := by unfold wdc; omega
    rw [setA_ne _ _ (by omega)] at ho
    rw [e _ (by omega)]; exact hwd y hy' ho
/-- what changes only beyond the deeds -/
theorem RC_bank {n S : Nat} {δ : Sl} {σ : Nat → Nat} {bn : Nat} {B B' : Nat → Int} {A : Ab} {dep : Nat → Nat} {J : List Jb} {N : Int} (h : RC n S δ σ bn B A dep J N) (e : ∀ k, k < 2172 ∨ k = 2197 → B' k = B k) : RC n S δ σ bn B' A dep J N := by
  obtain ⟨hW0, hC, hM, hW, hwd, hJ, hJC, hJM, h4, h97⟩ := h
  have hl := jL_len hJ
  refine ⟨hW0, hC, MR_low hW0 hM (fun k hk => e k (by omega)), fun s hs => ?_, fun y hy ho => ?_, hJ, hJC, JM_keep hJM hJ.1.1 (fun k g1 g2 => e k (by omega)), h4, by rw [e _ (by omega)]; exact h97⟩
  · rw [e _ (by omega), e _ (by omega), e _ (by omega), e _ (by omega)]; exact hW s hs
  · have hy1 := hy.1
    have : wdc y < 1944 := by unfold wdc; omega
    rw [e _ (by omega)]; exact hwd y hy ho
