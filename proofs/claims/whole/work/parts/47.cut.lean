/-! ===== splitting till one has just the region ===== -/
def SP (n S : Nat) (A0 A : Ab) (dep : Nat → Nat) (d : Nat) (o : Int) (pre : List Nat) : Prop :=
  WF n S A dep ∧ SI A dep o pre ∧ (∀ y, Lv A0 y → Lv A y) ∧ (∀ q, q < 192 → ctn A q = ctn A0 q) ∧ NTs A d ∧ (∀ x, x ∈ pre → bl A d x = true ∧ bl A0 d x = true ∧ Lv A0 x) ∧
  (∀ y j, Lv A0 y → 8 ≤ j → A.1 j y = A0.1 j y) ∧ (∀ y, Lv A y → ¬ Lv A0 y → A.1 9 y = 0 ∧ A.1 10 y = 0) ∧ (∀ t y, Lv A0 t → Lv A0 y → bl A0 d t = false → bl A t y = bl A0 t y) ∧
  (∀ q, q < 192 → cov A0 q = some d → cov A q = some d) ∧ A.1 0 d = A0.1 0 d ∧ (∀ y, Lv A0 y → (A.1 3 y = 0 ↔ A0.1 3 y = 0)) ∧ ∀ y, Lv A0 y → bl A d y = true → bl A0 d y = true
theorem SP_step {n S : Nat} {A0 A : Ab} {dep : Nat → Nat} {d : Nat} {o : Int} {pre : List Nat} {x : Nat} (ho : 2 ≤ o) (hd0 : Lv A0 d) (h : SP n S A0 A dep d o (pre ++ [x])) (hxd : x ≠ d) : SP n S A0 (aHalve A x) (fun y => if y = x + hfA A x then dep x else dep y) d o pre := by
  obtain ⟨hW, hSI, h3, h4, h5, h6, h7, h8, h9, h10, h11, h12, h13⟩ := h
  obtain ⟨hx, hxo, hxt, hk, hW', hSI'⟩ := SI_step hW ho hSI
  have ho' : 2 ≤ A.1 0 x := by omega
  have hu := hv_u hW hx ho'
  obtain ⟨b1, b2, b3⟩ := bl_halve hW hx ho' hk
  have hd := h3 d hd0
  obtain ⟨x1, x2, x3⟩ := h6 x (by simp)
  have hu0 : ¬ Lv A0 (x + hfA A x) := fun z => hu.1 (h3 _ z)
  refine ⟨hW', hSI', fun y hy => (hv_lv hW hx ho' y).mpr (.inr (h3 y hy)), fun q hq => by rw [ctn_halve hW hx ho' hk hq, h4 q hq], ?_, ?_, ?_, ?_, ?_, ?_, ?_, ?_, fun y hy hb => h13 y hy (by rw [b1 d y hd (h3 y hy) (Ne.symm hxd)] at hb; exact hb)⟩
  · intro y hy hb
    rcases (hv_lv hW hx ho' y).mp hy with rfl | hy1
    · rw [hv_9u hW]; exact hxt
    · rw [hv_n hW hx ho' (fun e => hu.1 (e ▸ hy1)) (by decide) (by decide)]
      rw [b1 d y hd hy1 (Ne.symm hxd)] at hb
      exact h5 y hy1 hb
  · intro y hy
    obtain ⟨y1, y2, y3⟩ := h6 y (by simp [hy])
    exact ⟨by rw [b1 d y hd (h3 y y3) (Ne.symm hxd)]; exact y1, y2, y3⟩
  · intro y j hy hj
    rw [hv_n hW hx ho' (fun e => hu0 (e ▸ hy)) (by omega) (by omega)]; exact h7 y j hy hj
  · intro y hy hn
    rcases (hv_lv hW hx ho' y).mp hy with rfl | hy1
    · refine ⟨by rw [hv_9u hW]; exact hxt, ?_⟩
      simp [aHalve]
    · rw [hv_n hW hx ho' (fun e => hu.1 (e ▸ hy1)) (by decide) (by decide), hv_n hW hx ho' (fun e => hu.1 (e ▸ hy1)) (by decide) (by decide)]
      exact h8 y hy1 hn
  · intro t y ht hy hb
    have htx : t ≠ x := fun e => by rw [e, x2] at hb; cases hb
    rw [b1 t y (h3 t ht) (h3 y hy) htx]; exact h9 t y ht hy hb
  · intro q hq hc
    have := h10 q hq hc
    rw [cov_halve hW hx ho' hk hq, if_neg]
    · exact this
    · rw [this]; simp; exact fun e => hxd e.symm
  · rw [hv_0 hW hx ho', if_neg]
    · exact h11
    · rintro (e | e)
      · exact hu.1 (e ▸ hd)
      · exact hxd e.symm
  · intro y hy
    rw [← h12 y hy, hv_3 hW hx (h3 y hy) ho']
    split
    · rename_i z; constructor <;> intro w <;> omega
    · exact Iff.rfl
theorem bfs_pre (A : Ab) (f : Nat → Bool) : ∀ (n : Nat) (p q : List Nat), ∃ t, bfs A f n p q = p ++ t := by
  intro n
  induction n with
  | zero => intro p q; exact ⟨q, rfl⟩
  | succ n ih =>
    intro p q
    cases q with
    | nil => exact ⟨[], by simp [bfs]⟩
    | cons x q =>
      obtain ⟨t, ht⟩ := ih (p ++ [x]) (q ++ (A.2 x).filter f)
      exact ⟨x :: t, by simp [bfs, ht]⟩
theorem alk_cons (A : Ab) (d : Nat) : ∃ t, alk A d = d :: t := by
  obtain ⟨t, ht⟩ := bfs_pre A (fun h => decide (A.1 0 h = A.1 0 d)) 192 ([] ++ [d]) ([] ++ (A.2 d).filter (fun h => decide (A.1 0 h = A.1 0 d)))
  refine ⟨t, ?_⟩
  show bfs A (fun h => decide (A.1 0 h = A.1 0 d)) (192 + 1) [] [d] = _
  rw [bfs, ht]; rfl
theorem SP_fold {n S : Nat} {A0 : Ab} {d : Nat} {o : Int} (ho : 2 ≤ o) (hd0 : Lv A0 d) : ∀ (m : Nat) (t : List Nat) (A : Ab) (dep : Nat → Nat), t.length = m → SP n S A0 A dep d o (d :: t) → ∃ dep', SP n S A0 (t.foldr (fun x A' => aHalve A' x) A) dep' d o [d] := by
  intro m
  induction m with
  | zero => intro t A dep ht h; have : t = [] := List.length_eq_zero_iff.mp ht; subst this; exact ⟨dep, h⟩
  | succ m ih =>
    intro t A dep ht h
    rcases List.eq_nil_or_concat t with rfl | ⟨t', x, rfl⟩
    · simp at ht
    · simp at ht
      have hxd : x ≠ d := fun e => by
        have := h.2.1.1; subst e; simp at this
      have h' := SP_step (pre := d :: t') (x := x) ho hd0 (by simpa using h) hxd
      obtain ⟨dep', hh⟩ := ih t' _ _ ht h'
      exact ⟨dep', by simpa [List.foldr_append] using hh⟩
/-- what a split leaves -/
def SQ (n S : Nat) (A0 A : Ab) (dep : Nat → Nat) (d : Nat) : Prop :=
  WF n S A dep ∧ (∀ y, Lv A0 y → Lv A y) ∧ (∀ q, q < 192 → ctn A q = ctn A0 q) ∧ (∀ y j, Lv A0 y → 8 ≤ j → A.1 j y = A0.1 j y) ∧ (∀ y, Lv A y → ¬ Lv A0 y → A.1 9 y = 0 ∧ A.1 10 y = 0) ∧ (∀ t y, Lv A0 t → Lv A0 y → bl A0 d t = false → bl A t y = bl A0 t y) ∧
  (∀ q, q < 192 → cov A0 q = some d → ∃ e, cov A q = some e ∧ A.1 0 e = A0.1 0 d - 1 ∧ NTs A e ∧ ∀ y, Lv A0 y → bl A e y = true → bl A0 d y = true) ∧ ∀ y, Lv A0 y → (A.1 3 y = 0 ↔ A0.1 3 y = 0)
theorem split_ok {n S : Nat} {A : Ab} {dep : Nat → Nat} (hW : WF n S A dep) {d : Nat} (hd : Lv A d) (ho : 2 ≤ A.1 0 d) (ht : NTs A d) : ∃ dep', SQ n S A (aSplit A d) dep' d := by
  have hSI := SI_alk hW hd ht
  have hb : BI A dep (fun h => decide (A.1 0 h = A.1 0 d)) d (alk A d) [] := bfs_end hW 193 [] [d] (BI_start hW _ hd) (by simp)
  have hbm : ∀ x, x ∈ alk A d → Lv A x ∧ bl A d x = true := fun x hx => hb.2.1 x (by simpa using hx)
  obtain ⟨t, et⟩ := alk_cons A d
  have hSP : SP n S A A dep d (A.1 0 d) (d :: t) := by
    rw [← et]
    exact ⟨hW, hSI, fun y hy => hy, fun q hq => rfl, ht, fun x hx => ⟨(hbm x hx).2, (hbm x hx).2, (hbm x hx).1⟩, fun y j hy hj => rfl, fun y hy hn => absurd hy hn, fun t y ht hy hb => rfl, fun q hq hc => hc, rfl, fun y hy => Iff.rfl, fun y hy hb => hb⟩
  obtain ⟨dep', hh⟩ := SP_fold ho hd t.length t A dep rfl hSP
  have eS : aSplit A d = aHalve (t.foldr (fun x A' => aHalve A' x) A) d := by unfold aSplit; rw [et]; rfl
  rw [eS]
  generalize t.foldr (fun x A' => aHalve A' x) A = A1 at hh
  obtain ⟨hW1, hSI1, h3, h4, h5, h6, h7, h8, h9, h10, h11, h12, h13⟩ := hh
  obtain ⟨hx, hxo, hxt, hk, hW', -⟩ := SI_step (pre := []) hW1 ho hSI1
  have ho' : 2 ≤ A1.1 0 d := by omega
  have hu := hv_u hW1 hx ho'
  obtain ⟨b1, b2, b3⟩ := bl_halve hW1 hx ho' hk
  have hu0 : ¬ Lv A (d + hfA A1 d) := fun z => hu.1 (h3 _ z)
  refine ⟨_, hW', fun y hy => (hv_lv hW1 hx ho' y).mpr (.inr (h3 y hy)), fun q hq => by rw [ctn_halve hW1 hx ho' hk hq, h4 q hq], ?_, ?_, ?_, ?_, ?_⟩
  · intro y j hy hj
    rw [hv_n hW1 hx ho' (fun e => hu0 (e ▸ hy)) (by omega) (by omega)]; exact h7 y j hy hj
  · intro y hy hn
    rcases (hv_lv hW1 hx ho' y).mp hy with rfl | hy1
    · refine ⟨by rw [hv_9u hW1]; exact hxt, ?_⟩
      simp [aHalve]
    · rw [hv_n hW1 hx ho' (fun e => hu.1 (e ▸ hy1)) (by decide) (by decide), hv_n hW1 hx ho' (fun e => hu.1 (e ▸ hy1)) (by decide) (by decide)]
      exact h8 y hy1 hn
  · intro t y ht hy hb
    have htx : t ≠ d := fun e => by rw [e, bl_self] at hb; cases hb
    rw [b1 t y (h3 t ht) (h3 y hy) htx]; exact h9 t y ht hy hb
  · intro q hq hc
    have hc1 := h10 q hq hc
    have hnt : ∀ e, (e = d ∨ e = d + hfA A1 d) → NTs (aHalve A1 d) e := fun e he y hy hb => by
      rcases (hv_lv hW1 hx ho' y).mp hy with rfl | hy1
      · rw [hv_9u hW1]; exact hxt
      · rw [hv_n hW1 hx ho' (fun e => hu.1 (e ▸ hy1)) (by decide) (by decide)]
        exact h5 y hy1 (b3 e y he hy1 hb)
    rw [cov_halve hW1 hx ho' hk hq, if_pos hc1]
    by_cases q3 : q < d + hfA A1 d
    · rw [if_pos q3]
      exact ⟨d, rfl, by rw [hv_0 hW1 hx ho', if_pos (.inr rfl), h11], hnt d (.inl rfl), fun y hy hb => h13 y hy (b3 _ y (.inl rfl) (h3 y hy) hb)⟩
    · rw [if_neg q3]
      exact ⟨_, rfl, by rw [hv_0 hW1 hx ho', if_pos (.inl rfl), h11], hnt _ (.inr rfl), fun y hy hb => h13 y hy (b3 _ y (.inr rfl) (h3 y hy) hb)⟩
  · intro y hy
    rw [← h12 y hy, hv_3 hW1 hx (h3 y hy) ho']
    split
    · rename_i z; constructor <;> intro w <;> omega
    · exact Iff.rfl
def aCut (t : Int) (q : Nat) : Nat → Ab → Ab
  | 0, A => A
  | k + 1, A => match cov A q with
    | none => A
    | some d => if t < A.1 0 d then aCut t q k (aSplit A d) else A
def nCut (t : Int) (q : Nat) : Nat → Ab → Nat
  | 0, _ => 0
  | k + 1, A => match cov A q with
    | none => 0
    | some d => if t < A.1 0 d then (alk A d).length + nCut t q k (aSplit A d) else 0
/-- what a cut leaves -/
def CT (n S : Nat) (A0 A : Ab) (dep : Nat → Nat) (q : Nat) (t : Int) : Prop :=
  WF n S A dep ∧ (∀ y, Lv A0 y → Lv A y) ∧ (∀ q, q < 192 → ctn A q = ctn A0 q) ∧ (∀ y j, Lv A0 y → 8 ≤ j → A.1 j y = A0.1 j y) ∧ (∀ y, Lv A y → ¬ Lv A0 y → A.1 9 y = 0 ∧ A.1 10 y = 0) ∧ (∀ t y, Lv A0 t → Lv A0 y → (∀ d, cov A0 q = some d → bl A0 d t = false) → bl A t y = bl A0 t y) ∧
  (∀ e, cov A q = some e → A.1 0 e ≤ t ∧ NTs A e) ∧ ∀ y, Lv A0 y → (A.1 3 y = 0 ↔ A0.1 3 y = 0)
theorem cut_ok {n S q : Nat} {t : Int} (ht1 : 1 ≤ t) (hq : q < 192) : ∀ (m : Nat) (A : Ab) (dep : Nat → Nat), WF n S A dep → (∀ d, cov A q = some d → NTs A d ∧ A.1 0 d ≤ t + m) → ∃ dep', CT n S A (aCut t q m A) dep' q t := by
  intro m
  have hself : ∀ (A : Ab) (dep : Nat → Nat), WF n S A dep → (∀ d, cov A q = some d → A.1 0 d ≤ t ∧ NTs A d) → CT n S A A dep q t := fun A dep hW h =>
    ⟨hW, fun y hy => hy, fun q hq => rfl, fun y j hy hj => rfl, fun y hy hn => absurd hy hn, fun t y ht hy hb => rfl, h, fun y hy => Iff.rfl⟩
  induction m with
  | zero => intro A dep hW h; exact ⟨dep, hself A dep hW (fun d hd => ⟨by have := (h d hd).2; simpa using this, (h d hd).1⟩)⟩
  | succ m ih =>
    intro A dep hW h
    unfold aCut
    cases hc : cov A q with
    | none => exact ⟨dep, hself A dep hW (fun d hd => by rw [hc] at hd; cases hd)⟩
    | some d =>
      obtain ⟨hN, hle⟩ := h d hc
      have hd := (cs_some hq hc).1
      by_cases hlt : t < A.1 0 d
      · simp only [if_pos hlt]
        obtain ⟨dep2, s1, s2, s3, s4, s5, s6, s7, s8⟩ := split_ok hW hd (by omega) hN
        obtain ⟨e, g1, g2, g3, g4⟩ := s7 q hq hc
        obtain ⟨dep3, c1, c2, c3, c4, c5, c6, c7, c8⟩ := ih (aSplit A d) dep2 s1 (fun e' he' => by
          rw [g1] at he'; cases he'; exact ⟨g3, by rw [g2]; push_cast at hle; omega⟩)
        refine ⟨dep3, c1, fun y hy => c2 y (s2 y hy), fun q hq => by rw [c3 q hq, s3 q hq], fun y j hy hj => by rw [c4 y j (s2 y hy) hj, s4 y j hy hj], fun y hy hn => ?_, fun x y hx hy hb => ?_, c7, fun y hy => by rw [c8 y (s2 y hy), s8 y hy]⟩
        · by_cases hy1 : Lv (aSplit A d) y
          · rw [c4 y 9 hy1 (by decide), c4 y 10 hy1 (by decide)]; exact s5 y hy1 hn
          · exact c5 y hy hy1
        · have hbd := hb d hc
          rw [c6 x y (s2 x hx) (s2 y hy), s6 x y hx hy hbd]
          intro e' he'
          rw [g1] at he'; cases he'
          cases hbe : bl (aSplit A d) e x with
          | false => rfl
          | true => rw [g4 x hx hbe] at hbd; cases hbd
      · simp only [if_neg hlt]
        exact ⟨dep, hself A dep hW (fun e he => by rw [hc] at he; cases he; exact ⟨by omega, hN⟩)⟩
/-! the class -/
theorem c_cut44 {o : Int} (ho : 2 ≤ o) (k3 : Int32 → Int32 → Int32 → Int32 → Sl → Option (Unit × Sl)) (v1 v2 v3 : Int32) (i : Nat) {n S : Nat} : ∀ (m k : Nat) (pre : List Nat) (δ : Sl) (σ : Nat → Nat) (bn : Nat) (A : Ab) (dep : Nat → Nat), pre.length = m → m < k → WF n S A dep → SI A dep o pre → CRep δ σ bn A → LA δ σ pre →
    ∃ δ' σ' bn', De_cut_44 k3 k v1 v2 v3 (zI (i : Int)) (zI ((m : Int) - 1)) δ = k3 v1 v2 v3 (zI ((i + 1 : Nat) : Int)) δ' ∧ CRep δ' σ' bn' (pre.foldr (fun x A' => aHalve A' x) A) ∧ (∀ x, Lv A x → σ' x = σ x) ∧ (∀ a i, a < 17 ∨ 33 < a → δ' a i = δ a i) ∧ δ' 17 19 = δ 17 19 + zI (m : Int) := by
  intro m
  induction m with
  | zero =>
    intro k pre δ σ bn A dep hm hk hW hS hC hL
    have : pre = [] := List.length_eq_zero_iff.mp hm
    subst this
    obtain ⟨c, rfl⟩ : ∃ c, k = c + 1 := ⟨k - 1, by omega⟩
    refine ⟨δ, σ, bn, ?_, hC, fun _ _ => rfl, fun _ _ _ => rfl, ?_⟩
    · rw [De_cut_44]
      simp (disch := omega) only [zI_lit, zI_lt, if_pos, bnd_ap, zI_add]
      rfl
    · rw [← zI_of (δ 17 19), zI_add]; simp
  | succ m ih =>
    intro k pre δ σ bn A dep hm hk hW hS hC hL
    obtain ⟨c, rfl⟩ : ∃ c, k = c + 1 := ⟨k - 1, by omega⟩
    rcases List.eq_nil_or_concat pre with rfl | ⟨p, x, rfl⟩
    · simp at hm
    · simp at hm
      have hS' : SI A dep o (p ++ [x]) := by simpa using hS
      obtain ⟨hx, hxo, hxt, hkk, hW', hSI'⟩ := SI_step hW ho hS'
      obtain ⟨δ1, σ1, bn1, e1, e2, e3, e4, e5⟩ := cr_halve hW hC hx (by omega) hkk hxt
      have hl1 : δ 33 m = zI (σ x : Int) := hL m x (by simp [hm])
      have hlen : m < 192 := by
        have := len192 hS.1 (fun y hy => (hS.2.2.1 y hy).1.1)
        simp at this; omega
      have hL1 : LA δ1 σ1 p := fun k y hk => by
        have hy : y ∈ p := List.mem_of_getElem? hk
        rw [e4 33 k (by omega), e3 y (hS.2.2.1 y (by simp [hy])).1]
        refine hL k y ?_
        have hk2 := (List.getElem?_eq_some_iff.mp hk).1
        simp only [List.concat_eq_append]
        rw [List.getElem?_append_left hk2]; exact hk
      obtain ⟨δ2, σ2, bn2, f1, f2, f3, f4, f5⟩ := ih c p δ1 σ1 bn1 _ _ hm (by omega) hW' hSI' e2 hL1
      refine ⟨δ2, σ2, bn2, ?_, by simpa [List.foldr_append] using f2, fun y hy => ?_, fun a i ha => ?_, ?_⟩
      · rw [De_cut_44]
        rw [show ((m + 1 : Nat) : Int) - 1 = (m : Int) by omega]
        simp (disch := omega) only [zI_lit, zI_lt, if_neg, zI_inb, if_pos, zI_ix, Int.toNat_natCast, hl1, e1, bd_some, bnd_ap, zI_add, zI_neg]
        rw [show (m : Int) + -1 = (m : Int) - 1 by omega, f1]
      · rw [f3 y ((hv_lv hW hx (by omega) y).mpr (.inr hy)), e3 y hy]
      · rw [f4 a i ha, e4 a i (by omega)]
      · rw [f5, e5, ← zI_of (δ 17 19), zI_add, zI_add, zI_add]
        congr 1; omega
theorem c_cut {n S : Nat} {s p t : Int} (hs1 : 0 ≤ s) (hs2 : s < 6) (hp1 : 0 ≤ p) (hp2 : p < 32) (ht1 : 1 ≤ t) (ht2 : t ≤ 4) : ∀ (m k i : Nat) (δ : Sl) (σ : Nat → Nat) (bn : Nat) (A : Ab) (dep : Nat → Nat), i + m = 3 → m < k → WF n S A dep → CRep δ σ bn A → (∀ d, cov A (32 * s + p).toNat = some d → NTs A d) →
    ∃ δ' σ' bn' dep', De_cut_3 k (zI s) (zI p) (zI (t - 1)) (zI (i : Int)) δ = some ((), δ') ∧ WF n S (aCut t (32 * s + p).toNat m A) dep' ∧ CRep δ' σ' bn' (aCut t (32 * s + p).toNat m A) ∧ (∀ x, Lv A x → σ' x = σ x) ∧ (∀ a i, a < 17 ∨ 33 < a → δ' a i = δ a i) ∧ δ' 17 19 = δ 17 19 + zI (nCut t (32 * s + p).toNat m A : Int) := by
  intro m
  have hz : ∀ x : Int32, x = x + zI ((0 : Nat) : Int) := fun x => by rw [← zI_of x, zI_add]; simp
  induction m with
  | zero =>
    intro k i δ σ bn A dep hi hk hW hC hN
    obtain ⟨c, rfl⟩ : ∃ c, k = c + 1 := ⟨k - 1, by omega⟩
    refine ⟨δ, σ, bn, dep, ?_, hW, hC, fun _ _ => rfl, fun _ _ _ => rfl, hz _⟩
    rw [De_cut_3]
    simp (disch := omega) only [zI_lit, zI_le, if_pos]
  | succ m ih =>
    intro k i δ σ bn A dep hi hk hW hC hN
    obtain ⟨c, rfl⟩ : ∃ c, k = c + 1 := ⟨k - 1, by omega⟩
    have hq : (32 * s + p).toNat < 192 := by omega
    have hf := cr_find hC.2.1 hs1 hs2 hp1 hp2
    unfold aCut nCut
    cases hc : cov A (32 * s + p).toNat with
    | none =>
      rw [hc] at hf
      refine ⟨δ, σ, bn, dep, ?_, hW, hC, fun _ _ => rfl, fun _ _ _ => rfl, hz _⟩
      rw [De_cut_3]
      simp (disch := omega) only [zI_lit, zI_le, if_neg, hf, bp_some, bnd_ap, sc, zI_lt, if_pos]
    | some d =>
      rw [hc] at hf
      have hd := (cs_some hq hc).1
      have b1 := cr_lt hC hd
      have hod := (hC.2.2.1 d hd).2.2.2.1
      have hoo := (hW.2.2.2.1 d hd).1
      have hoo2 := hd.2
      by_cases hlt : t < A.1 0 d
      · simp only [if_pos hlt]
        obtain ⟨δ1, a1, a2, a3, a4⟩ := cr_alike hW hC hd
        have hSI := SI_alk hW hd (hN d hc)
        obtain ⟨δ2, σ2, bn2, f1, f2, f3, f4, f5⟩ := c_cut44 (o := A.1 0 d) (by omega) (De_cut_3 c) (zI s) (zI p) (zI (t - 1)) i (alk A d).length FU (alk A d) δ1 σ bn A dep rfl (FU_gt (by have := len192 hSI.1 (fun y hy => (hSI.2.2.1 y hy).1.1); omega)) hW hSI a3 a2
        obtain ⟨dep2, hSQ⟩ := split_ok hW hd (by omega) (hN d hc)
        obtain ⟨e, g1, g2, g3, -⟩ := hSQ.2.2.2.2.2.2.1 _ hq hc
        obtain ⟨δ3, σ3, bn3, dep3, k1, k2, k3, k4, k5, k6⟩ := ih c (i + 1) δ2 σ2 bn2 (aSplit A d) dep2 (by omega) (by omega) hSQ.1 f2 (fun e' he' => by rw [g1] at he'; cases he'; exact g3)
        refine ⟨δ3, σ3, bn3, dep3, ?_, k2, k3, fun x hx => by rw [k4 x (hSQ.2.1 x hx), f3 x hx], fun a j ha => by rw [k5 a j ha, f4 a j ha, a4 a j (by omega)], ?_⟩
        · rw [De_cut_3]
          simp (disch := omega) only [zI_lit, zI_le, if_neg, hf, bp_some, bnd_ap, sc, zI_lt, zI_inb, if_pos, zI_ix, Int.toNat_natCast, hod, a1, bd_some, zI_sub]
          rw [f1, k1]
        · rw [k6, f5, a4 17 19 (by omega), ← zI_of (δ 17 19), zI_add, zI_add, zI_add]
          congr 1; omega
      · simp only [if_neg hlt]
        refine ⟨δ, σ, bn, dep, ?_, hW, hC, fun _ _ => rfl, fun _ _ _ => rfl, hz _⟩
        rw [De_cut_3]
        simp (disch := omega) only [zI_lit, zI_le, if_neg, hf, bp_some, bnd_ap, sc, zI_lt, zI_inb, if_pos, zI_ix, Int.toNat_natCast, hod]
