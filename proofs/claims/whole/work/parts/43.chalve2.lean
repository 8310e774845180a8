theorem cr_fld {δ : Sl} {σ : Nat → Nat} {bn : Nat} {A : Ab} (h : CRep δ σ bn A) {a j d : Nat} {v : Int} (ha : a = 22 ∧ j = 2 ∨ a = 29 ∧ j = 10 ∨ a = 30 ∧ j = 11 ∨ a = 31 ∧ j = 8) (hd : Lv A d) : CRep (wr δ a (σ d) (zI v)) σ bn (setA A j d v) := by
  have e0 : ∀ k x, k ≠ j → (setA A j d v).1 k x = A.1 k x := fun k x hk => if_neg (fun z => hk z.1)
  have el : ∀ x, Lv (setA A j d v) x ↔ Lv A x := fun x => by unfold Lv; rw [e0 0 x (by omega)]
  have er : ∀ b i, b ≠ a → wr δ a (σ d) (zI v) b i = δ b i := fun b i hb => if_neg (fun z => hb z.1)
  have hsv := CS_SV h.1
  obtain ⟨⟨s1, s2, s3, s4, s5⟩, hq, hf, ⟨n1, n2, n3⟩, F, L, N, P, k1, k2, k3⟩ := h
  refine ⟨⟨s1, by rw [er _ _ (by omega)]; exact s2, fun d hd => s3 d ((el d).mp hd), fun d e hd he => s4 d e ((el d).mp hd) ((el e).mp he), fun j h1 h2 => ?_⟩, ?_, ?_, ⟨?_, ?_, ?_⟩, F, L, N, P, ?_, ?_, ?_⟩
  · rw [er _ _ (by omega)] at h2
    obtain ⟨d, hd, e⟩ := s5 j h1 h2
    exact ⟨d, (el d).mpr hd, e⟩
  · intro q hq1
    have : cov (setA A j d v) q = cov A q := by unfold cov; rw [e0 0 _ (by omega), e0 0 _ (by omega), e0 0 _ (by omega), e0 0 _ (by omega)]
    rw [this, er _ _ (by omega)]; exact hq q hq1
  · intro x hx
    have h1 := (el x).mp hx
    obtain ⟨c1, c2, c3, c4, c5, c6, c7, c8, c9⟩ := hf x h1
    have hs : (σ x = σ d) = (x = d) := sv_eq hsv h1 hd
    unfold CF
    simp only [wr_ap, setA, hs]
    rcases ha with ⟨rfl, rfl⟩ | ⟨rfl, rfl⟩ | ⟨rfl, rfl⟩ | ⟨rfl, rfl⟩ <;> by_cases q : x = d <;> simp [q] <;> (try subst q) <;> simp [*]
  · have e : nlv (setA A j d v) = nlv A := fb_ct_cong (fun k hk => by rw [e0 0 _ (by omega)])
    rw [er _ _ (by omega), n1, e]
  · have e : ntp (setA A j d v) = ntp A := fb_ct_cong (fun k hk => by rw [e0 0 _ (by omega), e0 9 _ (by omega)])
    rw [er _ _ (by omega), n2, e]
  · intro x hx; rw [e0 9 _ (by omega)]; exact n3 x ((el x).mp hx)
  · intro x hx
    rw [er _ _ (by omega), er _ _ (by omega), er _ _ (by omega), er _ _ (by omega), er _ _ (by omega), e0 3 _ (by omega)]
    exact k1 x ((el x).mp hx)
  · intro x hx; exact k2 x ((el x).mp hx)
  · intro x hx h0; rw [e0 3 _ (by omega)] at h0; exact k3 x ((el x).mp hx) h0
theorem setA_ne (A : Ab) {j d k x : Nat} (v : Int) (h : ¬ (k = j ∧ x = d)) : (setA A j d v).1 k x = A.1 k x := if_neg h
theorem KW_same {A A' : Ab} (h : KW A) (el : ∀ x, Lv A' x ↔ Lv A x) (e3 : ∀ x, Lv A x → A'.1 3 x = A.1 3 x) (ek : ∀ x, Lv A x → A'.2 x = A.2 x) : KW A' := by
  obtain ⟨⟨a1, a2⟩, a3, a4⟩ := h
  refine ⟨⟨fun g hg => ?_, fun g g' x hg hg' h1 h2 => ?_⟩, fun x hx => ?_, fun g x hg hx => ?_⟩
  · have hg1 := (el g).mp hg
    rw [ek g hg1]; exact ⟨(a1 g hg1).1, fun x hx => (el x).mpr ((a1 g hg1).2 x hx)⟩
  · have hg1 := (el g).mp hg
    have hg2 := (el g').mp hg'
    rw [ek g hg1] at h1; rw [ek g' hg2] at h2
    exact a2 g g' x hg1 hg2 h1 h2
  · have hx1 := (el x).mp hx
    rw [e3 x hx1]
    rcases a3 x hx1 with z | ⟨g, g1, g2, g3⟩
    · exact .inl z
    · exact .inr ⟨g, g1, (el g).mpr g2, by rw [ek g g2]; exact g3⟩
  · have hg1 := (el g).mp hg
    rw [ek g hg1] at hx
    rw [e3 x ((a1 g hg1).2 x hx)]
    exact a4 g x hg1 hx
theorem KW_add {A : Ab} (h : KW A) {d : Nat} {o f r a : Int} (hd : ¬ Lv A d) (hd1 : d < 192) (ho : 0 < o) : KW (aAdd A d o f r 0 a) := by
  have en : ∀ k x, x ≠ d → (aAdd A d o f r 0 a).1 k x = A.1 k x := fun k x hx => if_neg hx
  have ekd : (aAdd A d o f r 0 a).2 d = [] := by simp [aAdd]
  have ek : ∀ x, x ≠ d → (aAdd A d o f r 0 a).2 x = A.2 x := fun x hx => by
    show (if x = d then [] else if (x : Int) + 1 = 0 then A.2 x ++ [d] else A.2 x) = _
    rw [if_neg hx, if_neg (by omega)]
  have el : ∀ x, Lv (aAdd A d o f r 0 a) x → x = d ∨ x ≠ d ∧ Lv A x := fun x hx => by
    by_cases q : x = d
    · exact .inl q
    · refine .inr ⟨q, hx.1, ?_⟩
      have := hx.2; rw [en _ _ q] at this; exact this
  have eln : ∀ x, Lv A x → x ≠ d ∧ Lv (aAdd A d o f r 0 a) x := fun x hx => by
    have q : x ≠ d := fun e => hd (e ▸ hx)
    exact ⟨q, hx.1, by rw [en _ _ q]; exact hx.2⟩
  obtain ⟨⟨a1, a2⟩, a3, a4⟩ := h
  refine ⟨⟨fun g hg => ?_, fun g g' x hg hg' h1 h2 => ?_⟩, fun x hx => ?_, fun g x hg hx => ?_⟩
  · rcases el g hg with rfl | ⟨q, hg1⟩
    · rw [ekd]; exact ⟨List.nodup_nil, fun x hx => by cases hx⟩
    · rw [ek g q]; exact ⟨(a1 g hg1).1, fun x hx => (eln x ((a1 g hg1).2 x hx)).2⟩
  · rcases el g hg with rfl | ⟨q, hg1⟩
    · rw [ekd] at h1; cases h1
    · rcases el g' hg' with rfl | ⟨q2, hg2⟩
      · rw [ekd] at h2; cases h2
      · rw [ek g q] at h1; rw [ek g' q2] at h2; exact a2 g g' x hg1 hg2 h1 h2
  · rcases el x hx with rfl | ⟨q, hx1⟩
    · left; simp [aAdd]
    · rw [en 3 x q]
      rcases a3 x hx1 with z | ⟨g, g1, g2, g3⟩
      · exact .inl z
      · exact .inr ⟨g, g1, (eln g g2).2, by rw [ek g (eln g g2).1]; exact g3⟩
  · rcases el g hg with rfl | ⟨q, hg1⟩
    · rw [ekd] at hx; cases hx
    · rw [ek g q] at hx
      rw [en 3 x (eln x ((a1 g hg1).2 x hx)).1]
      exact a4 g x hg1 hx
theorem len192 {l : List Nat} (h : l.Nodup) (hl : ∀ x, x ∈ l → x < 192) : l.length ≤ 192 := by
  refine fb_holes 192 l.length (fun i => l.getD i 0) (fun i hi => ?_) (fun i j hij hj e => ?_)
  · have : l.getD i 0 = l[i] := by simp [List.getD, hi]
    rw [this]; exact hl _ (List.getElem_mem hi)
  · have e1 : l.getD i 0 = l[i]'(by omega) := by simp [List.getD, show i < l.length by omega]
    have e2 : l.getD j 0 = l[j] := by simp [List.getD, hj]
    rw [e1, e2] at e
    have := (List.getElem_inj h).mp e
    omega
theorem zI_put0 {δ : Sl} {σ : Nat → Nat} {bn : Nat} {A : Ab} (h : CRep δ σ bn A) {c u : Nat} (hc : Lv A c) (hG : A.1 3 c = 0) : De_putBehind δ (zI (σ u : Int)) (zI (σ c : Int)) = some ((), δ) := by
  obtain ⟨F, L, N, P, k1, k2, k3⟩ := h.2.2.2.2
  exact cp_put0 (CS_SV h.1) k1 hc hG
theorem cr_halve {n S : Nat} {A : Ab} {dep : Nat → Nat} {δ : Sl} {σ : Nat → Nat} {bn d : Nat} (hW : WF n S A dep) (h : CRep δ σ bn A) (hd : Lv A d) (ho : 2 ≤ A.1 0 d) (hk : ∀ x, x ∈ A.2 d → A.1 0 x < A.1 0 d) (ht : A.1 9 d = 0) :
    ∃ δ' σ' bn', De_halve δ (zI (σ d : Int)) = some ((), δ') ∧ CRep δ' σ' bn' (aHalve A d) ∧ (∀ x, Lv A x → σ' x = σ x) ∧ (∀ a i, a < 17 ∨ 32 < a → δ' a i = δ a i) ∧ δ' 17 19 = δ 17 19 + zI 1 := by
  have hc := hf_cases hW hd ho
  have hwa := hW.2.2.2.1 d hd
  have hn6 := hW.1
  have hS32 := hW.2.1
  have hWS := WF_WS hW
  have hKW := WF_KW hW
  have hWh := WF_halve hW hd ho hk
  have hnu : ¬ Lv A (d + hfA A d) := fun hl => by
    have := hW.2.2.2.2.2.2.1 d (d + hfA A d) hd hl (by omega)
    have := pgs_pos hW hl
    omega
  have hlen : (A.2 d).length ≤ 192 := len192 (hKW.1.1 d hd).1 (fun x hx => ((hKW.1.1 d hd).2 x hx).1)
  have b1 := cr_lt h hd
  obtain ⟨c1, c2, c3, c4, c5, c6, c7, c8, c9⟩ := h.2.2.1 d hd
  have hsv := CS_SV h.1
  have hu32 : (d + hfA A d) / 32 = d / 32 ∧ (d + hfA A d) % 32 = d % 32 + hfA A d := by
    have := hwa.2.2.2.1; omega
  generalize hhf : hfA A d = hf at *
  generalize hu : d + hf = u at *
  have hhf2 : pg (A.1 0 d - 1) = hf := hhf
  have hud : u ≠ d := by omega
  -- the lower half shrinks
  have e0 : ∀ k x, ¬ (k = 0 ∧ x = d) → (setA A 0 d (A.1 0 d - 1)).1 k x = A.1 k x := fun k x hk => if_neg hk
  have e00 : (setA A 0 d (A.1 0 d - 1)).1 0 d = A.1 0 d - 1 := if_pos ⟨rfl, rfl⟩
  have el1 : ∀ x, Lv (setA A 0 d (A.1 0 d - 1)) x ↔ Lv A x := fun x => by
    by_cases q : x = d
    · subst q; unfold Lv; rw [e00]; have := hd.1; constructor <;> (intro z; exact ⟨this, by omega⟩)
    · unfold Lv; rw [e0 0 x (fun z => q z.2)]
  have p1d : pgs (setA A 0 d (A.1 0 d - 1)) d = hf := by unfold pgs; rw [e00]; exact hhf2
  have p1n : ∀ x, x ≠ d → pgs (setA A 0 d (A.1 0 d - 1)) x = pgs A x := fun x q => by unfold pgs; rw [e0 0 x (fun z => q z.2)]
  have er : ∀ b i, ¬ (b = 21 ∧ i = σ d) → wr δ 21 (σ d) (zI (A.1 0 d - 1 - 1)) b i = δ b i := fun b i hb => if_neg hb
  have er1 : wr δ 21 (σ d) (zI (A.1 0 d - 1 - 1)) 21 (σ d) = zI (A.1 0 d - 1 - 1) := if_pos ⟨rfl, rfl⟩
  have hWS1 : WS (setA A 0 d (A.1 0 d - 1)) := by
    refine ⟨fun x hx => ?_, fun x y hx hy hxy => ?_, fun x hx => ?_⟩
    · have hx1 := (el1 x).mp hx
      by_cases q : x = d
      · subst q; rw [e00, p1d]; have := hwa.2.1; have := hwa.2.2.2.1
        rcases hc with ⟨w1, w2, w3⟩ | ⟨w1, w2, w3⟩ | ⟨w1, w2, w3⟩ <;> rw [w2] at this <;> subst w3 <;> (have := hwa.2.1; rw [w2] at this; have := hwa.2.2.1; refine ⟨by omega, by omega, by omega⟩)
      · rw [e0 0 x (fun z => q z.2), p1n x q]; exact hWS.1 x hx1
    · have hx1 := (el1 x).mp hx
      have hy1 := (el1 y).mp hy
      have := hWS.2.1 x y hx1 hy1 hxy
      by_cases q1 : x = d <;> by_cases q2 : y = d
      · omega
      · subst q1; rw [p1d, p1n y q2]; omega
      · subst q2; rw [p1d, p1n x q1]; omega
      · rw [p1n x q1, p1n y q2]; exact this
    · by_cases q : x = d
      · subst q; rw [e00]; omega
      · rw [e0 0 x (fun z => q z.2)]; exact hWS.2.2 x hx
  have hKW1 : KW (setA A 0 d (A.1 0 d - 1)) := KW_same hKW el1 (fun x _ => e0 3 x (fun z => by omega)) (fun x _ => rfl)
  have hW2 : WS (aAdd (setA A 0 d (A.1 0 d - 1)) u (A.1 0 d - 1) (A.1 1 d + hf) (A.1 2 d) 0 0) := by
    have hh := WF_WS hWh
    have ee : ∀ x, (aAdd (setA A 0 d (A.1 0 d - 1)) u (A.1 0 d - 1) (A.1 1 d + hf) (A.1 2 d) 0 0).1 0 x = (aHalve A d).1 0 x := fun x => by
      unfold aHalve aAdd setA
      dsimp only
      rw [hhf, hu]
      by_cases q1 : x = u
      · simp [q1]
      · by_cases q2 : x = d
        · simp [q1, q2]
        · simp [q1, q2]
    have ell : ∀ x, Lv (aAdd (setA A 0 d (A.1 0 d - 1)) u (A.1 0 d - 1) (A.1 1 d + hf) (A.1 2 d) 0 0) x ↔ Lv (aHalve A d) x := fun x => by unfold Lv; rw [ee]
    have epp : ∀ x, pgs (aAdd (setA A 0 d (A.1 0 d - 1)) u (A.1 0 d - 1) (A.1 1 d + hf) (A.1 2 d) 0 0) x = pgs (aHalve A d) x := fun x => by unfold pgs; rw [ee]
    refine ⟨fun x hx => ?_, fun x y hx hy hxy => ?_, fun x hx => ?_⟩
    · rw [ee, epp]; exact hh.1 x ((ell x).mp hx)
    · rw [epp, epp]; exact hh.2.1 x y ((ell x).mp hx) ((ell y).mp hy) hxy
    · rw [ee]; exact hh.2.2 x hx
  have hS1 : CS (wr δ 21 (σ d) (zI (A.1 0 d - 1 - 1))) σ bn (setA A 0 d (A.1 0 d - 1)) := by
    obtain ⟨s1, s2, s3, s4, s5⟩ := h.1
    refine ⟨s1, by rw [er _ _ (by omega)]; exact s2, fun x hx => s3 x ((el1 x).mp hx), fun x y hx hy => s4 x y ((el1 x).mp hx) ((el1 y).mp hy), fun j h1 h2 => ?_⟩
    by_cases q : j = σ d
    · exact ⟨d, (el1 d).mpr hd, q.symm⟩
    · rw [er _ _ (fun z => q z.2)] at h2
      obtain ⟨x, hx, e⟩ := s5 j h1 h2
      exact ⟨x, (el1 x).mpr hx, e⟩
  have hQ1 : ∀ q, q < 192 → (q < u ∨ u + pg (A.1 0 d - 1) ≤ q) → wr δ 21 (σ d) (zI (A.1 0 d - 1 - 1)) 32 q = zI (sc σ (cov (setA A 0 d (A.1 0 d - 1)) q)) := by
    intro q hq ho
    rw [hhf2] at ho
    rw [er _ _ (by omega), h.2.1 q hq]
    congr 2
    cases hcv : cov A q with
    | none =>
      cases hcv2 : cov (setA A 0 d (A.1 0 d - 1)) q with
      | none => rfl
      | some e =>
        obtain ⟨z1, z2, z3⟩ := cs_some hq hcv2
        have := cs_none hWS hcv ((el1 e).mp z1)
        by_cases q2 : e = d
        · subst q2; rw [p1d] at z3; omega
        · rw [p1n e q2] at z3; omega
    | some e =>
      obtain ⟨z1, z2, z3⟩ := cs_some hq hcv
      symm
      by_cases q2 : e = d
      · subst q2; exact cs_of hWS1 ((el1 e).mpr z1) z2 (by rw [p1d]; omega)
      · exact cs_of hWS1 ((el1 e).mpr z1) z2 (by rw [p1n e q2]; exact z3)
  have hF1 : ∀ x, Lv (setA A 0 d (A.1 0 d - 1)) x → CF (wr δ 21 (σ d) (zI (A.1 0 d - 1 - 1))) σ (setA A 0 d (A.1 0 d - 1)) x := by
    intro x hx
    have hx1 := (el1 x).mp hx
    obtain ⟨g1, g2, g3, g4, g5, g6, g7, g8, g9⟩ := h.2.2.1 x hx1
    unfold CF
    rw [er 18 _ (by omega), er 19 _ (by omega), er 20 _ (by omega), er 22 _ (by omega), er 28 _ (by omega), er 29 _ (by omega), er 30 _ (by omega), er 31 _ (by omega), e0 1 x (by omega), e0 2 x (by omega), e0 8 x (by omega), e0 9 x (by omega), e0 10 x (by omega), e0 11 x (by omega)]
    refine ⟨g1, g2, g3, ?_, g5, g6, g7, g8, g9⟩
    by_cases q : x = d
    · subst q; rw [er1, e00]
    · rw [er _ _ (fun z => q (hsv.2 x d hx1 hd z.2)), e0 0 x (fun z => q z.2)]; exact g4
  have hN1 : CN (wr δ 21 (σ d) (zI (A.1 0 d - 1 - 1))) (setA A 0 d (A.1 0 d - 1)) := by
    obtain ⟨n1, n2, n3⟩ := h.2.2.2.1
    have e1 : nlv (setA A 0 d (A.1 0 d - 1)) = nlv A := fb_ct_cong (fun k hk => by
      have := el1 k; unfold Lv at this
      simp only [hk, true_and] at this
      rw [decide_eq_decide]; exact this)
    have e2 : ntp (setA A 0 d (A.1 0 d - 1)) = ntp A := fb_ct_cong (fun k hk => by
      have := el1 k; unfold Lv at this
      simp only [hk, true_and] at this
      rw [e0 9 k (by omega)]
      congr 1
      rw [decide_eq_decide]; exact this)
    refine ⟨by rw [er _ _ (by omega), n1, e1], by rw [er _ _ (by omega), n2, e2], fun x hx => by rw [e0 9 x (by omega)]; exact n3 x ((el1 x).mp hx)⟩
  have hK1 : CK (wr δ 21 (σ d) (zI (A.1 0 d - 1 - 1))) σ (setA A 0 d (A.1 0 d - 1)) := by
    obtain ⟨F, L, N, P, k1, k2, k3⟩ := h.2.2.2.2
    refine ⟨F, L, N, P, fun x hx => ?_, fun x hx => k2 x ((el1 x).mp hx), fun x hx hx0 => ?_⟩
    · rw [er _ _ (by omega), er _ _ (by omega), er _ _ (by omega), er _ _ (by omega), er _ _ (by omega), e0 3 x (by omega)]
      exact k1 x ((el1 x).mp hx)
    · rw [e0 3 x (by omega)] at hx0; exact k3 x ((el1 x).mp hx) hx0
  obtain ⟨j, bn', j1, j2, j3, j4⟩ := cr_make (f := A.1 1 d + hf) (r := A.1 2 d) hS1 hQ1 hF1 hN1 hK1 hWS1 hW2 hKW1 (by omega) (by omega) (by rw [hhf2]; have := hwa.2.2.2.1; have := hwa.2.2.1; omega) (fun z => hnu ((el1 u).mp z))
  have hmf : ∀ a i, a < 17 ∨ 32 < a → mkS (wr δ 21 (σ d) (zI (A.1 0 d - 1 - 1))) j bn u (A.1 1 d + hf) (A.1 0 d - 1) (A.1 2 d) a i = δ a i := fun a i ha => by
    unfold mkS
    rw [if_neg (by omega), if_neg (by omega), if_neg (by omega), if_neg (by omega), er _ _ (by omega)]
  have hm19 : mkS (wr δ 21 (σ d) (zI (A.1 0 d - 1 - 1))) j bn u (A.1 1 d + hf) (A.1 0 d - 1) (A.1 2 d) 17 19 = δ 17 19 := by
    unfold mkS
    rw [if_neg (by omega), if_neg (by omega), if_neg (by omega), if_neg (by omega), er _ _ (by omega)]
  have hm31 : mkS (wr δ 21 (σ d) (zI (A.1 0 d - 1 - 1))) j bn u (A.1 1 d + hf) (A.1 0 d - 1) (A.1 2 d) 31 (σ d) = zI (A.1 8 d) := by
    unfold mkS
    rw [if_neg (by omega), if_neg (fun z => j4 d ((el1 d).mpr hd) z.2.2), if_neg (by omega), if_neg (by omega), er _ _ (by omega), c9]
  have hKW2 := KW_add (o := A.1 0 d - 1) (f := A.1 1 d + hf) (r := A.1 2 d) (a := 0) hKW1 (fun z => hnu ((el1 u).mp z)) (by have := hwa.2.2.2.1; have := hwa.2.2.1; omega) (by omega)
  generalize hδ2 : mkS (wr δ 21 (σ d) (zI (A.1 0 d - 1 - 1))) j bn u (A.1 1 d + hf) (A.1 0 d - 1) (A.1 2 d) = δ2 at *
  generalize hσ2 : (fun x => if x = u then j else σ x) = σ2 at *
  have sd : σ2 d = σ d := by rw [← hσ2]; exact if_neg (Ne.symm hud)
  have su : σ2 u = j := by rw [← hσ2]; exact if_pos rfl
  have sx : ∀ x, Lv A x → σ2 x = σ x := fun x hx => by rw [← hσ2]; exact if_neg (show x ≠ u from fun z => hnu (z ▸ hx))
  generalize hA2 : aAdd (setA A 0 d (A.1 0 d - 1)) u (A.1 0 d - 1) (A.1 1 d + hf) (A.1 2 d) 0 0 = A2 at *
  have a2u : ∀ k, A2.1 k u = if k = 0 then A.1 0 d - 1 else if k = 1 then A.1 1 d + hf else if k = 2 then A.1 2 d else 0 := fun k => by
    rw [← hA2]; simp only [aAdd, if_true]
    split
    · rfl
    · split
      · rfl
      · split
        · rfl
        · split
          · rfl
          · split <;> rfl
  have a2n : ∀ k x, x ≠ u → A2.1 k x = if k = 0 ∧ x = d then A.1 0 d - 1 else A.1 k x := fun k x q => by rw [← hA2]; simp only [aAdd, if_neg q]; rfl
  have a2k : ∀ x, A2.2 x = if x = u then [] else A.2 x := fun x => by
    rw [← hA2]; simp only [aAdd]
    split
    · rfl
    · rw [if_neg (by omega)]; rfl
  have lu : Lv A2 u := ⟨by have := hwa.2.2.2.1; have := hwa.2.2.1; omega, by rw [a2u, if_pos rfl]; omega⟩
  have ld : Lv A2 d := ⟨hd.1, by rw [a2n 0 d (Ne.symm hud), if_pos ⟨rfl, rfl⟩]; omega⟩
  have ll : ∀ x, Lv A2 x ↔ x = u ∨ Lv A x := fun x => by
    constructor
    · intro z
      by_cases q : x = u
      · exact .inl q
      · right; refine ⟨z.1, ?_⟩
        have := z.2; rw [a2n 0 x q] at this
        by_cases q2 : x = d
        · subst q2; exact hd.2
        · rw [if_neg (fun z => q2 z.2)] at this; exact this
    · rintro (rfl | z)
      · exact lu
      · by_cases q2 : x = d
        · subst q2; exact ld
        · refine ⟨z.1, ?_⟩
          rw [a2n 0 x (fun e => hnu (e ▸ z)), if_neg (fun e => q2 e.2)]; exact z.2
  -- the age goes along
  have h3 := cr_fld (a := 31) (j := 8) (v := A.1 8 d) j3 (by omega) lu
  rw [su] at h3
  have hKW3 : KW (setA A2 8 u (A.1 8 d)) := KW_same hKW2 (fun x => by unfold Lv; rw [setA_ne A2 (A.1 8 d) (by omega)]) (fun x _ => setA_ne A2 (A.1 8 d) (by omega)) (fun x _ => rfl)
  generalize hA3 : setA A2 8 u (A.1 8 d) = A3 at *
  generalize hδ3 : wr δ2 31 j (zI (A.1 8 d)) = δ3 at *
  have a3 : ∀ k x, A3.1 k x = if k = 8 ∧ x = u then A.1 8 d else A2.1 k x := fun k x => by rw [← hA3]; rfl
  have a3k : A3.2 = A2.2 := by rw [← hA3]; rfl
  have l3 : ∀ x, Lv A3 x ↔ Lv A2 x := fun x => by unfold Lv; rw [a3 0 x, if_neg (by omega)]
  have r3 : ∀ a i, a ≠ 31 → δ3 a i = δ2 a i := fun a i ha => by rw [← hδ3]; exact if_neg (fun z => ha z.1)
  -- beside its lower half
  have h4 : ∃ δ4 A4, De_putBehind δ3 (zI (σ2 u : Int)) (zI (σ2 d : Int)) = some ((), δ4) ∧ CRep δ4 σ2 bn' A4 ∧ KW A4 ∧ (∀ a i, a < 23 ∨ 27 < a → δ4 a i = δ3 a i) ∧ (∀ k x, A4.1 k x = if k = 3 ∧ x = u then A.1 3 d else A3.1 k x) ∧ ∀ x, Lv A3 x → A4.2 x = if A.1 3 d = (x : Int) + 1 then insA d u (A2.2 x) else A2.2 x := by
    have g3 : A3.1 3 d = A.1 3 d := by rw [a3, if_neg (by omega), a2n 3 d (Ne.symm hud), if_neg (by omega)]
    have g3u : A3.1 3 u = 0 := by rw [a3, if_neg (by omega), a2u]; rfl
    rcases gv_or hW hd with ⟨g1, g2⟩ | ⟨g, g1, g2, g3'⟩
    · refine ⟨δ3, A3, zI_put0 h3 ((l3 d).mpr ld) (by rw [g3, g1]), h3, hKW3, fun _ _ _ => rfl, fun k x => ?_, fun x hx => ?_⟩
      · by_cases q : k = 3 ∧ x = u
        · rw [if_pos q, q.1, q.2, g3u, g1]
        · rw [if_neg q]
      · rw [if_neg (by omega), a3k]
    · have hg2 : Lv A2 g := (ll g).mpr (.inr g2)
      obtain ⟨δ4, z1, z2, z3, z4⟩ := cr_put h3 hKW3 ((l3 d).mpr ld) ((l3 g).mpr hg2) ((l3 u).mpr lu) (by rw [g3, g1]) g3u
      refine ⟨δ4, _, z1, z2, z3, z4, fun k x => ?_, fun x hx => ?_⟩
      · rw [g1]; rfl
      · show upK A3.2 g (insA d u (A3.2 g)) x = _
        rw [a3k]
        by_cases q : x = g
        · subst q; rw [upK_at, if_pos g1]
        · rw [upK_ne _ _ q, if_neg (by omega)]
  obtain ⟨δ4, A4, z1, z2, z3, z4, z5, z6⟩ := h4
  have l4 : ∀ x, Lv A4 x ↔ Lv A3 x := fun x => by unfold Lv; rw [z5 0 x, if_neg (by omega)]
  have l4d := (l4 d).mpr ((l3 d).mpr ld)
  have l4u := (l4 u).mpr ((l3 u).mpr lu)
  have k4d : A4.2 d = [] ++ A.2 d := by
    rw [z6 d ((l3 d).mpr ld), a2k, if_neg (Ne.symm hud)]
    rw [if_neg]; · rfl
    intro e; have := gv_live hW hd e; omega
  have k4u : A4.2 u = [] := by
    rw [z6 u ((l3 u).mpr lu), a2k, if_pos rfl]; split <;> rfl
  have f41 : ∀ x, x ≠ u → A4.1 1 x = A.1 1 x := fun x q => by rw [z5, if_neg (by omega), a3, if_neg (by omega), a2n 1 x q, if_neg (by omega)]
  have f4u : A4.1 1 u = A.1 1 d + hf := by rw [z5, if_neg (by omega), a3, if_neg (by omega), a2u]; rfl
  obtain ⟨δ5, A5, y1, y2, y3, y4, y5, y6, y7⟩ := halve_loop (Ne.symm hud) (A.1 1 d + hf) (by have := hwa.2.2.2.2.1; omega) (by have := hwa.2.2.2.2.2.2.1; omega) (A.2 d) [] FU 0 δ4 A4 z2 z3 l4d l4u f4u (fun x hx => by
    rcases (ll x).mp ((l3 x).mp ((l4 x).mp hx)) with rfl | hx1
    · rw [f4u]; have := hwa.2.2.2.2.1; have := hwa.2.2.2.2.2.2.1; omega
    · rw [f41 x (fun e => hnu (e ▸ hx1))]; have := (hW.2.2.2.1 x hx1).2.2.2.2.1; have := (hW.2.2.2.1 x hx1).2.2.2.2.2.2.1; omega) k4d (by omega) (FU_gt (by omega))
  refine ⟨wr δ5 17 19 (δ5 17 19 + zI 1), σ2, bn', ?_, ?_, sx, ?_, ?_⟩
  · have hfirst : δ4 24 (σ d) = enc σ2 (hd1 (A.2 d)) := by
      have := cr_first z2 l4d; rw [k4d, sd] at this; exact this
    rw [su, sd] at z1
    rw [su] at y1
    have hmake : De_make (wr δ 21 (σ d) (zI (A.1 0 d - 1 - 1))) (zI ((d / 32 : Nat) : Int)) (zI ((d % 32 : Nat) + (hf : Int))) (zI (A.1 1 d + hf)) (zI (A.1 0 d - 1 - 1)) (zI (A.1 2 d)) = some (zI (j : Int), δ2) := by
      rw [← j2, hu32.1, hu32.2]; rfl
    have hr : (zI (A.1 8 d)).toUInt32.toInt32 = zI (A.1 8 d) := by simp
    simp (disch := omega) only [De_halve, bnd_ap, zI_inb, zI_ix, Int.toNat_natCast, if_pos, c4, zI_lit, zI_sub, zI_pg, hhf2, er1]
    rw [er 18 _ (by omega), er 19 _ (by omega), er 20 _ (by omega), er 22 _ (by omega), c1, c2, c3, c5, zI_add, zI_add, hmake, bd_some]
    simp (disch := omega) only [zI_le, if_pos, zI_inb, zI_ix, Int.toNat_natCast, hm31, hr, hδ3, z1, bd_some, hfirst]
    rw [show (0 : Int) = ((0 : Nat) : Int) from rfl, y1]
    simp only [De_halve_155, bnd_ap, zI_lit]
  · have hfin : CRep (wr δ5 17 19 (δ5 17 19 + zI 1)) σ2 bn' A5 := by
      have ew : ∀ a i, ¬ (a = 17 ∧ i = 19) → wr δ5 17 19 (δ5 17 19 + zI 1) a i = δ5 a i := fun a i q => if_neg q
      obtain ⟨⟨s1, s2, s3, s4, s5⟩, hq, hf, ⟨n1, n2, n3⟩, F, L, N, P, k1, k2, k3⟩ := y2
      refine ⟨⟨s1, by rw [ew _ _ (by omega)]; exact s2, s3, s4, fun j h1 h2 => s5 j h1 (by rw [ew _ _ (by omega)] at h2; exact h2)⟩, fun q hq1 => by rw [ew _ _ (by omega)]; exact hq q hq1, fun x hx => ?_, ⟨by rw [ew _ _ (by omega)]; exact n1, by rw [ew _ _ (by omega)]; exact n2, n3⟩, F, L, N, P, fun x hx => ?_, k2, k3⟩
      · unfold CF
        rw [ew _ _ (by omega), ew _ _ (by omega), ew _ _ (by omega), ew _ _ (by omega), ew _ _ (by omega), ew _ _ (by omega), ew _ _ (by omega), ew _ _ (by omega), ew _ _ (by omega)]
        exact hf x hx
      · rw [ew _ _ (by omega), ew _ _ (by omega), ew _ _ (by omega), ew _ _ (by omega), ew _ _ (by omega)]
        exact k1 x hx
    have l5 : ∀ x, Lv A5 x ↔ x = u ∨ Lv A x := fun x => by
      rw [← ll, ← l3, ← l4]; unfold Lv; rw [y5 0 x (by decide)]
    have hun : u ∉ A.2 d := fun z => hnu ((hKW.1.1 d hd).2 u z)
    refine cr_ext hfin (fun x hx => ?_) (fun x hx k hk => ?_) (fun x hx => ?_)
    · rw [y5 0 x (by decide), z5, if_neg (by omega), a3, if_neg (by omega)]
      show (if x = d + hfA A d then (if 0 = 0 then A.1 0 d - 1 else _) else if x = d then (if 0 = 0 then A.1 0 d - 1 else _) else if 0 = 3 ∧ _ then _ else A.1 0 x) = _
      rw [hhf, hu]
      by_cases q1 : x = u
      · subst q1; rw [a2u]; simp
      · rw [a2n 0 x q1]
        by_cases q2 : x = d
        · simp [q1, q2]
        · simp [q1, q2]
    · show (if x = d + hfA A d then (if k = 0 then A.1 0 d - 1 else if k = 1 then A.1 1 d + hfA A d else if 10 ≤ k then 0 else A.1 k d) else if x = d then (if k = 0 then A.1 0 d - 1 else A.1 k d) else if k = 3 ∧ A.1 3 x = (d : Int) + 1 ∧ A.1 1 d + hfA A d ≤ A.1 1 x then ((d + hfA A d : Nat) : Int) + 1 else A.1 k x) = _
      rw [hhf, hu]
      by_cases k3 : k = 3
      · subst k3
        by_cases q1 : x = u
        · have hR : A5.1 3 u = A.1 3 d := by rw [y6, if_neg (fun z => hun z.1), z5, if_pos ⟨rfl, rfl⟩]
          rw [q1, hR]; simp
        · have hx1 : Lv A x := ((l5 x).mp hx).resolve_left q1
          have z53 : A4.1 3 x = A.1 3 x := by rw [z5, if_neg (fun z => q1 z.2), a3, if_neg (by omega), a2n 3 x q1, if_neg (by omega)]
          rw [y6, f41 x q1, z53]
          by_cases q2 : x = d
          · have hnd : d ∉ A.2 d := fun z => (kid_ne hW hd z).2.2.1 rfl
            rw [q2]; simp [hnd, Ne.symm hud]
          · have hm : x ∈ A.2 d ↔ A.1 3 x = (d : Int) + 1 := ⟨fun z => (kid_ne hW hd z).2.1, fun z => (gv_live hW hx1 z).2.1⟩
            simp only [hm, if_neg q1, if_neg q2, true_and]
      · have hR : A5.1 k x = if k = 8 ∧ x = u then A.1 8 d else A2.1 k x := by rw [y5 k x k3, z5, if_neg (fun z => k3 z.1), a3]
        rw [hR]
        by_cases q1 : x = u
        · rw [q1, a2u]
          by_cases w0 : k = 0
          · subst w0; simp
          · by_cases w1 : k = 1
            · subst w1; simp
            · by_cases w2 : k = 2
              · subst w2; simp
              · by_cases w8 : k = 8
                · subst w8; simp
                · by_cases w9 : k = 9
                  · subst w9; simp [ht]
                  · simp [w0, w1, w2, w8, show 10 ≤ k by omega]
        · rw [a2n k x q1]
          by_cases q2 : x = d
          · simp [q1, q2, Ne.symm hud]
          · simp [q1, q2, k3]
    · show (if x = d + hfA A d then (A.2 d).filter (fun h => decide (A.1 1 d + hfA A d ≤ A.1 1 h)) else if x = d then (A.2 d).filter (fun h => decide (A.1 1 h < A.1 1 d + hfA A d)) else if A.1 3 d = (x : Int) + 1 then insA d (d + hfA A d) (A.2 x) else A.2 x) = _
      rw [hhf, hu, y7, k4u]
      have hfl : ∀ g : Int → Bool, (A.2 d).filter (fun h => g (A4.1 1 h)) = (A.2 d).filter (fun h => g (A.1 1 h)) := fun g => List.filter_congr (fun y hy => by rw [f41 y (fun e => hun (e ▸ hy))])
      rw [hfl (fun v => decide (A.1 1 d + hf ≤ v)), hfl (fun v => decide (v < A.1 1 d + hf))]
      by_cases q1 : x = u
      · simp [q1]
      · by_cases q2 : x = d
        · simp [q1, q2, Ne.symm hud]
        · have hx1 : Lv A x := ((l5 x).mp hx).resolve_left q1
          rw [if_neg q1, if_neg q2, if_neg q1, if_neg q2, z6 x ((l3 x).mpr ((ll x).mpr (.inr hx1))), a2k, if_neg q1]
  · intro a i ha
    rw [wr_ap, if_neg (by omega), y4 a i (by omega), z4 a i (by omega), r3 a i (by omega), hmf a i ha]
  · rw [wr_ap, if_pos ⟨rfl, rfl⟩, y4 17 19 (by omega), z4 17 19 (by omega), r3 17 19 (by omega), hm19]
