/-! ===== how many pages ===== -/
def pgc (A : Ab) (lo n : Nat) : Nat := fb_ct (fun i => (cov A (lo + i)).isSome) n
theorem c_pagesIn_loop {δ : Sl} {σ : Nat → Nat} {bn : Nat} {A : Ab} (hC : CRep δ σ bn A) {s fr n : Nat} (hs : s < 6) (hf : fr + n ≤ 32) : ∀ (m k i : Nat), i + m = n → m < k → De_pagesIn_30 δ k (zI (s : Int)) (zI (fr : Int)) (zI (n : Int)) (zI (pgc A (32 * s + fr) i : Int)) (zI ((fr + i : Nat) : Int)) = some (zI (pgc A (32 * s + fr) n : Int)) := by
  have hle : ∀ i, pgc A (32 * s + fr) i ≤ i := fun i => fb_ct_le _ i
  intro m
  induction m with
  | zero =>
    intro k i hm hk
    obtain ⟨c, rfl⟩ : ∃ c, k = c + 1 := ⟨k - 1, by omega⟩
    have : i = n := by omega
    subst this
    rw [De_pagesIn_30]
    simp (disch := omega) only [zI_add, zI_le, if_pos]
  | succ m ih =>
    intro k i hm hk
    obtain ⟨c, rfl⟩ : ∃ c, k = c + 1 := ⟨k - 1, by omega⟩
    have hq := hC.2.1 (32 * s + fr + i) (by omega)
    have hr := sc_rng hC.1 (q := 32 * s + fr + i) (by omega)
    have hix : ((s : Int) * 32 + ((fr + i : Nat) : Int)).toNat = 32 * s + fr + i := by omega
    have hsucc : pgc A (32 * s + fr) (i + 1) = pgc A (32 * s + fr) i + (if (cov A (32 * s + fr + i)).isSome then 1 else 0) := rfl
    have hrec := ih c (i + 1) (by omega) (by omega)
    have hl := hle i
    rw [De_pagesIn_30]
    simp (disch := omega) only [zI_lit, zI_add, zI_mul, zI_le, if_neg, zI_inb, if_pos, zI_ix, hix, hq, zI_lt, De_pagesIn_56, bnd_ap]
    rw [show ((fr + i : Nat) : Int) + 1 = ((fr + (i + 1) : Nat) : Int) by omega]
    cases hc : cov A (32 * s + fr + i) with
    | none =>
      rw [hc] at hsucc
      simp at hsucc
      rw [if_pos (by simp [sc])]
      rw [hsucc] at hrec; exact hrec
    | some d =>
      rw [hc] at hsucc
      simp at hsucc
      rw [if_neg (by simp [sc]), show (pgc A (32 * s + fr) i : Int) + 1 = (pgc A (32 * s + fr) (i + 1) : Int) by omega]
      exact hrec
theorem c_pagesIn {δ : Sl} {σ : Nat → Nat} {bn : Nat} {A : Ab} (hC : CRep δ σ bn A) {s fr n : Nat} (hs : s < 6) (hf : fr + n ≤ 32) : De_pagesIn δ (zI (s : Int)) (zI (fr : Int)) (zI (n : Int)) = some (zI (pgc A (32 * s + fr) n : Int)) := by
  have := c_pagesIn_loop hC hs hf n FU 0 (by omega) (FU_gt (by omega))
  simp (disch := omega) only [De_pagesIn, zI_lit, zI_lt, zI_le, if_neg, zI_add, if_pos, bnd_ap]
  exact this
theorem c_pagesOf {δ : Sl} {σ : Nat → Nat} {bn : Nat} {A : Ab} (hC : CRep δ σ bn A) {s : Nat} (hs : s < 6) : De_pagesOf δ (zI (s : Int)) = some (zI (pgc A (32 * s) 32 : Int)) := by
  have := c_pagesIn hC (fr := 0) (n := 32) hs (by omega)
  unfold De_pagesOf
  rw [show (0 : Int32) = zI ((0 : Nat) : Int) from rfl, show (32 : Int32) = zI ((32 : Nat) : Int) from rfl, this]
  rfl
/-- places of a deed from q on, that begins ahead of q -/
def ovr (A : Ab) (q : Nat) : Nat := if q < 192 then (match cov A q with
  | some d => if d < q then d + pgs A d - q else 0
  | none => 0) else 0
theorem ovr_step {n S : Nat} {A : Ab} {dep : Nat → Nat} (h : WF n S A dep) {q : Nat} (hq : q < 192) : ovr A q + pg (A.1 0 q) = (if (cov A q).isSome then 1 else 0) + ovr A (q + 1) := by
  have hWS := WF_WS h
  have dead : ¬ Lv A q → pg (A.1 0 q) = 0 := fun hl => by
    have h0 := h.2.2.2.2.2.2.2 q hq
    have : ¬ 0 < A.1 0 q := fun z => hl ⟨hq, z⟩
    rw [show A.1 0 q = 0 by omega]; decide
  have nxt : ∀ e, q + 1 < 192 → cov A (q + 1) = some e → e < q + 1 → cov A q = some e := fun e h1 h2 h3 => by
    obtain ⟨a1, a2, a3⟩ := cs_some h1 h2
    exact cs_of hWS a1 (by omega) (by omega)
  cases hc : cov A q with
  | none =>
    have hl : ¬ Lv A q := fun z => by rw [cs_self hWS z] at hc; cases hc
    have o1 : ovr A q = 0 := by unfold ovr; rw [if_pos hq, hc]
    have o2 : ovr A (q + 1) = 0 := by
      unfold ovr
      by_cases h1 : q + 1 < 192
      · rw [if_pos h1]
        cases hc2 : cov A (q + 1) with
        | none => rfl
        | some e =>
          dsimp only
          by_cases h3 : e < q + 1
          · rw [nxt e h1 hc2 h3] at hc; cases hc
          · rw [if_neg h3]
      · rw [if_neg h1]
    rw [dead hl, o1, o2]; rfl
  | some d =>
    obtain ⟨a1, a2, a3⟩ := cs_some hq hc
    have hp := pgs_pos h a1
    have hend := (hWS.1 d a1).2.2
    have o2 : ovr A (q + 1) = d + pgs A d - (q + 1) := by
      unfold ovr
      by_cases h1 : q + 1 < 192
      · rw [if_pos h1]
        by_cases h4 : q + 1 < d + pgs A d
        · rw [cs_of hWS a1 (by omega) h4]; dsimp only; rw [if_pos (by omega)]
        · cases hc2 : cov A (q + 1) with
          | none => dsimp only; omega
          | some e =>
            dsimp only
            by_cases h3 : e < q + 1
            · have := nxt e h1 hc2 h3
              rw [hc] at this; cases this
              have := (cs_some h1 hc2).2.2; omega
            · rw [if_neg h3]; omega
      · rw [if_neg h1]; omega
    by_cases hdq : d = q
    · subst hdq
      have o1 : ovr A d = 0 := by unfold ovr; rw [if_pos hq, hc]; dsimp only; rw [if_neg (by omega)]
      have : pg (A.1 0 d) = pgs A d := rfl
      simp only [Option.isSome_some, if_true]
      rw [o1, o2, this]; omega
    · have hl : ¬ Lv A q := fun z => by rw [cs_self hWS z] at hc; cases hc; exact hdq rfl
      have o1 : ovr A q = d + pgs A d - q := by unfold ovr; rw [if_pos hq, hc]; dsimp only; rw [if_pos (by omega)]
      simp only [Option.isSome_some, if_true]
      rw [dead hl, o1, o2]; omega
theorem pages_sum {n S : Nat} {A : Ab} {dep : Nat → Nat} (h : WF n S A dep) {s : Nat} (hs : s < 6) : fb_sm (fun p => pg (A.1 0 (32 * s + p))) S = pgc A (32 * s) 32 := by
  have hWS := WF_WS h
  have hS := h.2.1
  have o0 : ovr A (32 * s) = 0 := by
    unfold ovr
    rw [if_pos (by omega)]
    cases hc : cov A (32 * s) with
    | none => rfl
    | some d =>
      obtain ⟨a1, a2, a3⟩ := cs_some (by omega) hc
      have := (h.2.2.2.1 d a1).2.2.2.1
      dsimp only; rw [if_neg (by omega)]
  have key : ∀ i, i ≤ 32 → fb_sm (fun p => pg (A.1 0 (32 * s + p))) i = pgc A (32 * s) i + ovr A (32 * s + i) := by
    intro i
    induction i with
    | zero => intro _; show 0 = 0 + ovr A (32 * s); rw [o0]
    | succ i ih =>
      intro hi
      have e1 : fb_sm (fun p => pg (A.1 0 (32 * s + p))) (i + 1) = fb_sm (fun p => pg (A.1 0 (32 * s + p))) i + pg (A.1 0 (32 * s + i)) := rfl
      have e2 : pgc A (32 * s) (i + 1) = pgc A (32 * s) i + (if (cov A (32 * s + i)).isSome then 1 else 0) := rfl
      have := ovr_step h (q := 32 * s + i) (by omega)
      have := ih (by omega)
      rw [e1, e2, show 32 * s + (i + 1) = 32 * s + i + 1 by omega]
      omega
  have o32 : ovr A (32 * s + 32) = 0 := by
    unfold ovr
    by_cases h1 : 32 * s + 32 < 192
    · rw [if_pos h1]
      cases hc : cov A (32 * s + 32) with
      | none => rfl
      | some d =>
        obtain ⟨a1, a2, a3⟩ := cs_some h1 hc
        have := (h.2.2.2.1 d a1).2.2.2.1
        dsimp only; rw [if_neg (by omega)]
    · rw [if_neg h1]
  have hz : ∀ i, S ≤ i → i ≤ 32 → fb_sm (fun p => pg (A.1 0 (32 * s + p))) i = fb_sm (fun p => pg (A.1 0 (32 * s + p))) S := by
    intro i
    induction i with
    | zero => intro h1 _; have : S = 0 := by omega
              subst this; rfl
    | succ i ih =>
      intro h1 h2
      by_cases e : S = i + 1
      · rw [e]
      · have e1 : fb_sm (fun p => pg (A.1 0 (32 * s + p))) (i + 1) = fb_sm (fun p => pg (A.1 0 (32 * s + p))) i + pg (A.1 0 (32 * s + i)) := rfl
        have hl : ¬ Lv A (32 * s + i) := fun z => by
          have := (h.2.2.2.1 _ z).2.2.2.1
          have := pgs_pos h z
          omega
        have h0 := h.2.2.2.2.2.2.2 (32 * s + i) (by omega)
        have : ¬ 0 < A.1 0 (32 * s + i) := fun z => hl ⟨by omega, z⟩
        have e0 : pg (A.1 0 (32 * s + i)) = 0 := by rw [show A.1 0 (32 * s + i) = 0 by omega]; decide
        rw [e1, e0, ih (by omega) (by omega)]; rfl
  rw [← hz 32 hS (Nat.le_refl _), key 32 (Nat.le_refl _), o32]; rfl
theorem m_pages {n S : Nat} {A : Ab} {dep : Nat → Nat} {μ : Sl} {b : Nat} {B : Nat → Int} (hb : MB μ b) (h : WF n S A dep) (hM : MRep B A) {x : Nat} (hx : x < 192) : Mo_pagesOf (bst μ b B) (zI (x : Int)) = some (zI (pg (A.1 0 x) : Int)) := by
  obtain ⟨e1, e2, e3⟩ := MR_0 h hM x hx
  unfold Mo_pagesOf Mo_orderOf
  rw [m_of0 hb hx, bp_some, e1]
  by_cases q : A.1 0 x = 0
  · rw [q]; rw [if_pos (show zI 0 = 0 from rfl)]; rfl
  · simp (disch := omega) only [zI_lit, zI_eq, if_neg, bp_some, zI_sub, zI_pg]
