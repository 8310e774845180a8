/-! ===== the class's deeds hold a forest ===== -/
def WS (A : Ab) : Prop := (∀ d, Lv A d → A.1 0 d ≤ 4 ∧ d % pgs A d = 0 ∧ d + pgs A d ≤ 192) ∧ WFn A ∧ ∀ d, d < 192 → 0 ≤ A.1 0 d
theorem WF_WS {n S : Nat} {A : Ab} {dep : Nat → Nat} (h : WF n S A dep) : WS A := by
  obtain ⟨h1, h2, h3, h4, h5, h6, h7, h8⟩ := h
  refine ⟨fun d hd => ?_, h7, h8⟩
  obtain ⟨a1, a2, a3, a4, -⟩ := h4 d hd
  exact ⟨a1, a2, by omega⟩
theorem WS_pgs {A : Ab} (h : WS A) {d : Nat} (hd : Lv A d) : (A.1 0 d = 1 ∧ pgs A d = 1) ∨ (A.1 0 d = 2 ∧ pgs A d = 2) ∨ (A.1 0 d = 3 ∧ pgs A d = 4) ∨ (A.1 0 d = 4 ∧ pgs A d = 8) :=
  pg_cases (by have := hd.2; omega) (h.1 d hd).1
theorem cs_some {A : Ab} {q d : Nat} (hq : q < 192) (hc : cov A q = some d) : Lv A d ∧ d ≤ q ∧ q < d + pgs A d := by
  unfold cov at hc
  split at hc
  · cases hc; refine ⟨⟨hq, by omega⟩, by omega, ?_⟩; rename_i e; unfold pgs; rw [e]; show _ < _ + 1; omega
  · split at hc
    · rename_i e; cases hc; refine ⟨⟨by omega, by omega⟩, by omega, ?_⟩; unfold pgs; rw [e]; show _ < _ + 2; omega
    · split at hc
      · rename_i e; cases hc; refine ⟨⟨by omega, by omega⟩, by omega, ?_⟩; unfold pgs; rw [e]; show _ < _ + 4; omega
      · split at hc
        · rename_i e; cases hc; refine ⟨⟨by omega, by omega⟩, by omega, ?_⟩; unfold pgs; rw [e]; show _ < _ + 8; omega
        · cases hc
theorem cs_of {A : Ab} (h : WS A) {q d : Nat} (hd : Lv A d) (h1 : d ≤ q) (h2 : q < d + pgs A d) : cov A q = some d := by
  have hq : q < 192 := by have := (h.1 d hd).2.2; omega
  have hs : ∃ e, cov A q = some e := by
    have ha := (h.1 d hd).2.1
    unfold cov
    rcases WS_pgs h hd with ⟨a, b⟩ | ⟨a, b⟩ | ⟨a, b⟩ | ⟨a, b⟩ <;> rw [b] at h2 ha
    · have : q = d := by omega
      subst this; simp [a]
    · have : q - q % 2 = d := by omega
      rw [this]; simp only [a]; split <;> simp
    · have : q - q % 4 = d := by omega
      rw [this]; simp only [a]; split <;> (try split) <;> simp
    · have : q - q % 8 = d := by omega
      rw [this]; simp only [a]; split <;> (try split) <;> (try split) <;> simp
  obtain ⟨e, he⟩ := hs
  have h3 := cs_some hq he
  by_cases hde : d = e
  · rw [he, hde]
  · have := h.2.1 d e hd h3.1 hde
    omega
theorem cs_self {A : Ab} (h : WS A) {d : Nat} (hd : Lv A d) : cov A d = some d :=
  cs_of h hd (Nat.le_refl d) (by rcases WS_pgs h hd with ⟨a, b⟩ | ⟨a, b⟩ | ⟨a, b⟩ | ⟨a, b⟩ <;> omega)
theorem cs_none {A : Ab} (h : WS A) {q : Nat} (hc : cov A q = none) {d : Nat} (hd : Lv A d) : q < d ∨ d + pgs A d ≤ q := by
  by_cases h1 : q < d
  · exact .inl h1
  · by_cases h2 : d + pgs A d ≤ q
    · exact .inr h2
    · rw [cs_of h hd (by omega) (by omega)] at hc; cases hc
def nlv (A : Ab) : Nat := fb_ct (fun d => decide (0 < A.1 0 d)) 192
def ntp (A : Ab) : Nat := fb_ct (fun d => decide (0 < A.1 0 d) && decide (A.1 9 d ≠ 0)) 192
theorem nlv_up {A A' : Ab} {d : Nat} (hd : d < 192) (h : ∀ x, x ≠ d → A'.1 0 x = A.1 0 x) : nlv A' + (if 0 < A.1 0 d then 1 else 0) = nlv A + (if 0 < A'.1 0 d then 1 else 0) := by
  have h1 := fb_ct_upd (fun x => decide (0 < A.1 0 x)) (decide (0 < A'.1 0 d)) hd
  have h2 : nlv A' = fb_ct (fun k => if k = d then decide (0 < A'.1 0 d) else decide (0 < A.1 0 k)) 192 := fb_ct_cong (fun k hk => by
    by_cases q : k = d
    · subst q; simp
    · simp [q, h k q])
  rw [h2]; unfold nlv; simpa using h1
theorem ntp_up {A A' : Ab} {d : Nat} (hd : d < 192) (h : ∀ x, x ≠ d → A'.1 0 x = A.1 0 x ∧ A'.1 9 x = A.1 9 x) : ntp A' + (if 0 < A.1 0 d ∧ A.1 9 d ≠ 0 then 1 else 0) = ntp A + (if 0 < A'.1 0 d ∧ A'.1 9 d ≠ 0 then 1 else 0) := by
  have h1 := fb_ct_upd (fun x => decide (0 < A.1 0 x) && decide (A.1 9 x ≠ 0)) (decide (0 < A'.1 0 d) && decide (A'.1 9 d ≠ 0)) hd
  have h2 : ntp A' = fb_ct (fun k => if k = d then decide (0 < A'.1 0 d) && decide (A'.1 9 d ≠ 0) else decide (0 < A.1 0 k) && decide (A.1 9 k ≠ 0)) 192 := fb_ct_cong (fun k hk => by
    by_cases q : k = d
    · subst q; simp
    · simp [q, h k q])
  rw [h2]; unfold ntp; simpa using h1
theorem nlv_le (A : Ab) : nlv A ≤ 192 := fb_ct_le _ _
theorem ntp_le (A : Ab) : ntp A ≤ 192 := fb_ct_le _ _
def sc (σ : Nat → Nat) (o : Option Nat) : Int := match o with
  | some d => (σ d : Int)
  | none => -1
def CS (δ : Sl) (σ : Nat → Nat) (bn : Nat) (A : Ab) : Prop := bn ≤ 192 ∧ δ 17 16 = zI (bn : Int) ∧ (∀ d, Lv A d → σ d < bn) ∧ (∀ d e, Lv A d → Lv A e → σ d = σ e → d = e) ∧ ∀ j, j < bn → ¬ δ 21 j < 0 → ∃ d, Lv A d ∧ σ d = j
def CQ (δ : Sl) (σ : Nat → Nat) (A : Ab) : Prop := ∀ q, q < 192 → δ 32 q = zI (sc σ (cov A q))
def CF (δ : Sl) (σ : Nat → Nat) (A : Ab) (d : Nat) : Prop :=
  δ 18 (σ d) = zI ((d / 32 : Nat) : Int) ∧ δ 19 (σ d) = zI ((d % 32 : Nat) : Int) ∧ δ 20 (σ d) = zI (A.1 1 d) ∧ δ 21 (σ d) = zI (A.1 0 d - 1) ∧ δ 22 (σ d) = zI (A.1 2 d) ∧ δ 28 (σ d) = zI (A.1 9 d) ∧ δ 29 (σ d) = zI (A.1 10 d) ∧ δ 30 (σ d) = zI (A.1 11 d) ∧ δ 31 (σ d) = zI (A.1 8 d)
def CN (δ : Sl) (A : Ab) : Prop := δ 17 17 = zI (nlv A : Int) ∧ δ 17 18 = zI (ntp A : Int) ∧ ∀ d, Lv A d → -2147483648 ≤ A.1 9 d ∧ A.1 9 d < 2147483648
def CK (δ : Sl) (σ : Nat → Nat) (A : Ab) : Prop := ∃ F L N P, CP δ σ (Lv A) F L N P (A.1 3) ∧ Lk F L N P (Lv A) A.2 ∧ ∀ d, Lv A d → A.1 3 d = 0 → N d = 0 ∧ P d = 0
def CRep (δ : Sl) (σ : Nat → Nat) (bn : Nat) (A : Ab) : Prop := CS δ σ bn A ∧ CQ δ σ A ∧ (∀ d, Lv A d → CF δ σ A d) ∧ CN δ A ∧ CK δ σ A
theorem CS_SV {δ : Sl} {σ : Nat → Nat} {bn : Nat} {A : Ab} (h : CS δ σ bn A) : SV σ (Lv A) := ⟨fun x hx => by have := h.2.2.1 x hx; have := h.1; omega, h.2.2.2.1⟩
theorem WF_KV {n S : Nat} {A : Ab} {dep : Nat → Nat} (h : WF n S A dep) : KV (Lv A) A.2 := by
  refine ⟨fun g hg => ⟨(h.2.2.2.2.2.1 g hg).1, fun x hx => ((h.2.2.2.2.2.1 g hg).2 x hx).1⟩, fun g g' x hg hg' h1 h2 => ?_⟩
  have e1 := ((h.2.2.2.2.2.1 g hg).2 x h1).2
  have e2 := ((h.2.2.2.2.2.1 g' hg').2 x h2).2
  omega
def PV (A : Ab) (v : Int) : Prop := v = 0 ∨ ∃ y : Nat, v = (y : Int) + 1 ∧ Lv A y
def KW (A : Ab) : Prop := KV (Lv A) A.2 ∧ (∀ x, Lv A x → A.1 3 x = 0 ∨ ∃ g : Nat, A.1 3 x = (g : Int) + 1 ∧ Lv A g ∧ x ∈ A.2 g) ∧ ∀ g h, Lv A g → h ∈ A.2 g → A.1 3 h = (g : Int) + 1
theorem WF_KW {n S : Nat} {A : Ab} {dep : Nat → Nat} (h : WF n S A dep) : KW A := by
  refine ⟨WF_KV h, fun x hx => ?_, fun g x hg hx => ((h.2.2.2.2.2.1 g hg).2 x hx).2⟩
  rcases h.2.2.2.2.1 x hx with ⟨h1, -⟩ | ⟨g, h1, h2, h3, -⟩
  · exact .inl h1
  · exact .inr ⟨g, h1, h2, h3⟩
theorem pv_hd {A : Ab} {l : List Nat} (h : ∀ x, x ∈ l → Lv A x) : PV A (hd1 l) := by
  cases l with
  | nil => exact .inl rfl
  | cons y l => exact .inr ⟨y, rfl, h y (by simp)⟩
theorem pv_ls {A : Ab} {l : List Nat} (h : ∀ x, x ∈ l → Lv A x) : PV A (ls1 l) := by
  rcases List.eq_nil_or_concat l with rfl | ⟨m, y, rfl⟩
  · exact .inl rfl
  · exact .inr ⟨y, by simp [ls1], h y (by simp)⟩
theorem pv_all {A : Ab} {F L N P : Nat → Int} (h : KW A) (hL : Lk F L N P (Lv A) A.2) (h0 : ∀ d, Lv A d → A.1 3 d = 0 → N d = 0 ∧ P d = 0) {x : Nat} (hx : Lv A x) :
    PV A (F x) ∧ PV A (L x) ∧ PV A (N x) ∧ PV A (P x) ∧ PV A (A.1 3 x) ∧ N x ≠ (x : Int) + 1 ∧ P x ≠ (x : Int) + 1 := by
  obtain ⟨f1, f2, f3⟩ := hL x hx
  have hk := (h.1.1 x hx).2
  refine ⟨by rw [f1]; exact pv_hd hk, by rw [f2]; exact pv_ls hk, ?_⟩
  rcases h.2.1 x hx with hg | ⟨g, g1, g2, g3⟩
  · obtain ⟨a, b⟩ := h0 x hx hg
    rw [a, b, hg]
    exact ⟨.inl rfl, .inl rfl, .inl rfl, by omega, by omega⟩
  · obtain ⟨l1, l2, e⟩ := List.append_of_mem g3
    obtain ⟨n1, n2⟩ := (hL g g2).2.2 l1 x l2 e
    have hkg := (h.1.1 g g2).2
    have hnd := (h.1.1 g g2).1
    rw [e] at hkg hnd
    have hd := List.nodup_append.mp hnd
    rw [n1, n2]
    refine ⟨pv_hd (fun y hy => hkg y (by simp [hy])), pv_ls (fun y hy => hkg y (by simp [hy])), .inr ⟨g, g1, g2⟩, ?_, ?_⟩
    · intro z; exact (List.nodup_cons.mp hd.2.1).1 (hd1_mem z)
    · intro z; exact hd.2.2 x (ls1_in z) x (by simp) rfl
theorem enc_up {A : Ab} {σ : Nat → Nat} {d j : Nat} {v : Int} (h : PV A v) (hd : ¬ Lv A d) : enc (fun x => if x = d then j else σ x) v = enc σ v := by
  rcases h with rfl | ⟨y, rfl, hy⟩
  · rfl
  · have q : y ≠ d := fun e => hd (e ▸ hy)
    rw [enc_s, enc_s, if_neg q]
theorem cr_ext {δ : Sl} {σ : Nat → Nat} {bn : Nat} {A A' : Ab} (h : CRep δ σ bn A) (e0 : ∀ x, x < 192 → A'.1 0 x = A.1 0 x) (ej : ∀ x, Lv A x → ∀ j, j < 4 ∨ 7 < j → A'.1 j x = A.1 j x) (ek : ∀ x, Lv A x → A'.2 x = A.2 x) : CRep δ σ bn A' := by
  have el : ∀ x, Lv A' x ↔ Lv A x := fun x => ⟨fun ⟨a, b⟩ => ⟨a, by rw [e0 x a] at b; exact b⟩, fun ⟨a, b⟩ => ⟨a, by rw [e0 x a]; exact b⟩⟩
  obtain ⟨⟨s1, s2, s3, s4, s5⟩, hq, hf, ⟨n1, n2, n3⟩, F, L, N, P, k1, k2, k3⟩ := h
  refine ⟨⟨s1, s2, fun d hd => s3 d ((el d).mp hd), fun d e hd he => s4 d e ((el d).mp hd) ((el e).mp he), fun j h1 h2 => ?_⟩, ?_, ?_, ⟨?_, ?_, ?_⟩, F, L, N, P, ?_, ?_, ?_⟩
  · obtain ⟨d, hd, e⟩ := s5 j h1 h2
    exact ⟨d, (el d).mpr hd, e⟩
  · intro q hq1
    have : cov A' q = cov A q := by unfold cov; rw [e0 q hq1, e0 (q - q % 2) (by omega), e0 (q - q % 4) (by omega), e0 (q - q % 8) (by omega)]
    rw [this]; exact hq q hq1
  · intro d hd
    have h1 := (el d).mp hd
    unfold CF
    rw [ej d h1 0 (by omega), ej d h1 1 (by omega), ej d h1 2 (by omega), ej d h1 8 (by omega), ej d h1 9 (by omega), ej d h1 10 (by omega), ej d h1 11 (by omega)]
    exact hf d h1
  · have e : nlv A' = nlv A := fb_ct_cong (fun k hk => by rw [e0 k hk])
    rw [n1, e]
  · have e : ntp A' = ntp A := fb_ct_cong (fun k hk => by
      rw [e0 k hk]
      by_cases q : 0 < A.1 0 k
      · rw [ej k ⟨hk, q⟩ 9 (by omega)]
      · simp [q])
    rw [n2, e]
  · intro d hd; have h1 := (el d).mp hd; rw [ej d h1 9 (by omega)]; exact n3 d h1
  · intro x hx; have h1 := (el x).mp hx; rw [ej x h1 3 (by omega)]; exact k1 x h1
  · intro g hg; have h1 := (el g).mp hg; rw [ek g h1]; exact k2 g h1
  · intro d hd h0; have h1 := (el d).mp hd; rw [ej d h1 3 (by omega)] at h0; exact k3 d h1 h0
theorem sc_rng {δ : Sl} {σ : Nat → Nat} {bn : Nat} {A : Ab} (h : CS δ σ bn A) {q : Nat} (hq : q < 192) : -1 ≤ sc σ (cov A q) ∧ sc σ (cov A q) < 192 := by
  unfold sc
  split
  · rename_i d hd
    have := (CS_SV h).1 d (cs_some hq hd).1
    omega
  · omega
theorem cr_find {δ : Sl} {σ : Nat → Nat} {A : Ab} (h : CQ δ σ A) {s p : Int} (h1 : 0 ≤ s) (h2 : s < 6) (h3 : 0 ≤ p) (h4 : p < 32) : De_find δ (zI s) (zI p) = some (zI (sc σ (cov A (32 * s + p).toNat))) := by
  simp (disch := omega) only [De_find, zI_lit, zI_lt, zI_le, if_neg, if_pos, zI_mul, zI_add, zI_inb, zI_ix]
  rw [show (s * 32 + p) = 32 * s + p by omega, h _ (by omega)]
theorem cr_make {δ : Sl} {σ : Nat → Nat} {bn : Nat} {A : Ab} {d : Nat} {f o r : Int} (hS : CS δ σ bn A) (hQ : ∀ q, q < 192 → (q < d ∨ d + pg o ≤ q) → δ 32 q = zI (sc σ (cov A q))) (hF : ∀ x, Lv A x → CF δ σ A x) (hN : CN δ A) (hK : CK δ σ A) (hW : WS A) (hW' : WS (aAdd A d o f r 0 0)) (hKW : KW A)
    (ho1 : 1 ≤ o) (ho2 : o ≤ 4) (hd : d + pg o ≤ 192) (hnl : ¬ Lv A d) :
    ∃ j bn' : Nat, j < 192 ∧ De_make δ (zI ((d / 32 : Nat) : Int)) (zI ((d % 32 : Nat) : Int)) (zI f) (zI (o - 1)) (zI r) = some (zI (j : Int), mkS δ j bn d f o r) ∧
      CRep (mkS δ j bn d f o r) (fun x => if x = d then j else σ x) bn' (aAdd A d o f r 0 0) ∧ (∀ x, Lv A x → σ x ≠ j) := by
  obtain ⟨s1, s2, s3, s4, s5⟩ := hS
  have hpo := pg_pos ho1 ho2
  obtain ⟨j, j1, j2, j3, j4, j5⟩ := make_find s1 s2 (zI ((d / 32 : Nat) : Int)) (zI ((d % 32 : Nat) : Int)) (zI f) (zI (o - 1)) (zI r) bn FU 0 (by omega) (FU_gt (by omega))
  have hj : j < 192 := by
    refine Classical.byContradiction fun hx => ?_
    have hb : bn = 192 := by omega
    have hall : ∀ i, i < 192 → ∃ x, Lv A x ∧ σ x = i := fun i hi => s5 i (by omega) (j4 i (by omega) (by omega))
    have hch : ∀ i, ∃ x, i < 192 → Lv A x ∧ σ x = i := fun i => by
      by_cases hi : i < 192
      · obtain ⟨x, hx⟩ := hall i hi; exact ⟨x, fun _ => hx⟩
      · exact ⟨0, fun z => absurd z hi⟩
    have hf := fun i => (Classical.choose_spec (hch i))
    obtain ⟨i, hi, he⟩ := fb_onto (n := 192) (f := fun i => Classical.choose (hch i)) (fun i hi => (hf i hi).1.1) (fun i k hik hk e => by
      have e1 := (hf i (by omega)).2
      have e2 := (hf k hk).2
      have e3 : Classical.choose (hch i) = Classical.choose (hch k) := e
      rw [e3] at e1; omega) (y := d) (by omega)
    exact hnl (by have e3 : Classical.choose (hch i) = d := he; rw [← e3]; exact (hf i hi).1)
  have hnj : ∀ x, Lv A x → σ x ≠ j := fun x hx e => by
    have h1 := s3 x hx
    have h2 := j3 (by omega)
    have h3 := (hF x hx).2.2.2.1
    rw [e] at h3
    rw [h3, zI_lit, zI_lt (by have := hx.2; omega) (by have := (hW.1 x hx).1; omega) (by omega) (by omega)] at h2
    have := hx.2; omega
  refine ⟨j, max bn (j + 1), hj, ?_, ?_, hnj⟩
  · simp only [De_make, bnd_ap]
    rw [show (0 : Int32) = zI ((0 : Nat) : Int) from rfl, j5]
    exact make_28 s1 s2 hj ho1 ho2 hd
  · have en : ∀ k x, x ≠ d → (aAdd A d o f r 0 0).1 k x = A.1 k x := fun k x hx => if_neg hx
    have e0 : (aAdd A d o f r 0 0).1 0 d = o := by simp [aAdd]
    have ek : ∀ x, x ≠ d → (aAdd A d o f r 0 0).2 x = A.2 x := fun x hx => by
      show (if x = d then [] else if (x : Int) + 1 = 0 then A.2 x ++ [d] else A.2 x) = _
      rw [if_neg hx, if_neg (by omega)]
    have ekd : (aAdd A d o f r 0 0).2 d = [] := by simp [aAdd]
    have el : ∀ x, Lv (aAdd A d o f r 0 0) x → x = d ∨ x ≠ d ∧ Lv A x := fun x hx => by
      by_cases q : x = d
      · exact .inl q
      · refine .inr ⟨q, hx.1, ?_⟩
        have := hx.2; rw [en _ _ q] at this; exact this
    have eln : ∀ x, Lv A x → x ≠ d ∧ Lv (aAdd A d o f r 0 0) x := fun x hx => by
      have q : x ≠ d := fun e => hnl (e ▸ hx)
      exact ⟨q, hx.1, by rw [en _ _ q]; exact hx.2⟩
    have eld : Lv (aAdd A d o f r 0 0) d := ⟨by omega, by rw [e0]; omega⟩
    have ep : pgs (aAdd A d o f r 0 0) d = pg o := by unfold pgs; rw [e0]
    have epn : ∀ x, x ≠ d → pgs (aAdd A d o f r 0 0) x = pgs A x := fun x hx => by unfold pgs; rw [en _ _ hx]
    have m1 : ∀ a i, 18 ≤ a → a ≤ 31 → i ≠ j → mkS δ j bn d f o r a i = δ a i := fun a i h1 h2 h3 => by
      unfold mkS
      rw [if_neg (by omega), if_neg (fun z => h3 z.2.2), if_neg (by omega), if_neg (by omega)]
    have m2 : ∀ a, 18 ≤ a → a ≤ 31 → mkS δ j bn d f o r a j = nfv ((d / 32 : Nat) : Int) ((d % 32 : Nat) : Int) f o r a := fun a h1 h2 => by
      unfold mkS
      rw [if_neg (by omega), if_pos ⟨h1, h2, rfl⟩]
    obtain ⟨F, L, N, P, k1, k2, k3⟩ := hK
    refine ⟨⟨by omega, ?_, ?_, ?_, ?_⟩, ?_, ?_, ⟨?_, ?_, ?_⟩, fun x => if x = d then 0 else F x, fun x => if x = d then 0 else L x, fun x => if x = d then 0 else N x, fun x => if x = d then 0 else P x, ?_, ?_, ?_⟩
    · unfold mkS; simp
    · intro x hx
      rcases el x hx with rfl | ⟨q, hx1⟩
      · dsimp only; rw [if_pos rfl]; omega
      · dsimp only; rw [if_neg q]; have := s3 x hx1; omega
    · intro x y hx hy e
      dsimp only at e
      rcases el x hx with rfl | ⟨q, hx1⟩ <;> rcases el y hy with rfl | ⟨q2, hy1⟩
      · rfl
      · rw [if_pos rfl, if_neg q2] at e; exact absurd e.symm (hnj y hy1)
      · rw [if_neg q, if_pos rfl] at e; exact absurd e (hnj x hx1)
      · rw [if_neg q, if_neg q2] at e; exact s4 x y hx1 hy1 e
    · intro i h1 h2
      by_cases q : i = j
      · exact ⟨d, eld, by dsimp only; rw [if_pos rfl, q]⟩
      · rw [m1 21 i (by decide) (by decide) q] at h2
        obtain ⟨x, hx, e⟩ := s5 i (by omega) h2
        exact ⟨x, (eln x hx).2, by dsimp only; rw [if_neg (eln x hx).1]; exact e⟩
    · intro q hq
      have hm : mkS δ j bn d f o r 32 q = if d ≤ q ∧ q < d + pg o then zI (j : Int) else δ 32 q := by unfold mkS; rw [if_pos rfl]
      rw [hm]
      by_cases hin : d ≤ q ∧ q < d + pg o
      · rw [if_pos hin, cs_of hW' eld hin.1 (by rw [ep]; exact hin.2)]
        unfold sc; simp
      · rw [if_neg hin, hQ q hq (by omega)]
        cases hc : cov A q with
        | none =>
          cases hc' : cov (aAdd A d o f r 0 0) q with
          | none => rfl
          | some e =>
            obtain ⟨c1, c2, c3⟩ := cs_some hq hc'
            rcases el e c1 with rfl | ⟨q2, c4⟩
            · rw [ep] at c3; omega
            · have := cs_none hW hc c4
              rw [epn e q2] at c3; omega
        | some e =>
          obtain ⟨c1, c2, c3⟩ := cs_some hq hc
          have q2 := (eln e c1).1
          rw [cs_of hW' (eln e c1).2 c2 (by rw [epn e q2]; exact c3)]
          unfold sc; dsimp only; rw [if_neg q2]
    · intro x hx
      rcases el x hx with rfl | ⟨q, hx1⟩
      · unfold CF
        dsimp only
        rw [if_pos rfl, m2 18 (by decide) (by decide), m2 19 (by decide) (by decide), m2 20 (by decide) (by decide), m2 21 (by decide) (by decide), m2 22 (by decide) (by decide), m2 28 (by decide) (by decide), m2 29 (by decide) (by decide), m2 30 (by decide) (by decide), m2 31 (by decide) (by decide)]
        simp [nfv, aAdd]
      · unfold CF
        dsimp only
        have hne := hnj x hx1
        rw [if_neg q, m1 18 _ (by decide) (by decide) hne, m1 19 _ (by decide) (by decide) hne, m1 20 _ (by decide) (by decide) hne, m1 21 _ (by decide) (by decide) hne, m1 22 _ (by decide) (by decide) hne, m1 28 _ (by decide) (by decide) hne, m1 29 _ (by decide) (by decide) hne, m1 30 _ (by decide) (by decide) hne, m1 31 _ (by decide) (by decide) hne]
        rw [en _ _ q, en _ _ q, en _ _ q, en _ _ q, en _ _ q, en _ _ q, en _ _ q]
        exact hF x hx1
    · have h1 := nlv_up (A := A) (A' := aAdd A d o f r 0 0) (d := d) (by omega) (fun x hx => en 0 x hx)
      rw [if_neg (fun z => hnl ⟨by omega, z⟩), e0, if_pos (by omega)] at h1
      have h2 : mkS δ j bn d f o r 17 17 = δ 17 17 + zI 1 := by unfold mkS; simp
      rw [h2, hN.1, zI_add, show (nlv A : Int) + 1 = (nlv (aAdd A d o f r 0 0) : Int) by omega]
    · have h1 := ntp_up (A := A) (A' := aAdd A d o f r 0 0) (d := d) (by omega) (fun x hx => ⟨en 0 x hx, en 9 x hx⟩)
      have h9 : (aAdd A d o f r 0 0).1 9 d = 0 := by simp [aAdd]
      rw [if_neg (fun z => hnl ⟨by omega, z.1⟩), h9, if_neg (by simp)] at h1
      have h2 : mkS δ j bn d f o r 17 18 = δ 17 18 := by unfold mkS; simp
      rw [h2, hN.2.1, show (ntp A : Int) = (ntp (aAdd A d o f r 0 0) : Int) by omega]
    · intro x hx
      rcases el x hx with rfl | ⟨q, hx1⟩
      · have h9 : (aAdd A x o f r 0 0).1 9 x = 0 := by simp [aAdd]
        rw [h9]; omega
      · rw [en 9 x q]; exact hN.2.2 x hx1
    · intro x hx
      rcases el x hx with rfl | ⟨q, hx1⟩
      · dsimp only
        rw [if_pos rfl, if_pos rfl, if_pos rfl, if_pos rfl, if_pos rfl, m2 24 (by decide) (by decide), m2 25 (by decide) (by decide), m2 26 (by decide) (by decide), m2 27 (by decide) (by decide), m2 23 (by decide) (by decide)]
        simp [nfv, aAdd, enc_0]
      · obtain ⟨v1, v2, v3, v4, v5, -⟩ := pv_all hKW k2 k3 hx1
        have hne := hnj x hx1
        dsimp only
        rw [if_neg q, if_neg q, if_neg q, if_neg q, if_neg q, en 3 x q, enc_up v1 hnl, enc_up v2 hnl, enc_up v3 hnl, enc_up v4 hnl, enc_up v5 hnl, m1 24 _ (by decide) (by decide) hne, m1 25 _ (by decide) (by decide) hne, m1 26 _ (by decide) (by decide) hne, m1 27 _ (by decide) (by decide) hne, m1 23 _ (by decide) (by decide) hne]
        exact k1 x hx1
    · intro g hg
      rcases el g hg with rfl | ⟨q, hg1⟩
      · rw [ekd]; dsimp only; rw [if_pos rfl, if_pos rfl]
        exact ⟨rfl, rfl, fun l1 y l2 e => by simp at e⟩
      · rw [ek g q]; dsimp only; rw [if_neg q, if_neg q]
        obtain ⟨f1, f2, f3⟩ := k2 g hg1
        refine ⟨f1, f2, fun l1 y l2 e => ?_⟩
        have hy : Lv A y := (hKW.1.1 g hg1).2 y (by rw [e]; simp)
        have q2 : y ≠ d := fun z => hnl (z ▸ hy)
        rw [if_neg q2, if_neg q2]
        exact f3 l1 y l2 e
    · intro x hx h0
      rcases el x hx with rfl | ⟨q, hx1⟩
      · dsimp only; rw [if_pos rfl, if_pos rfl]; exact ⟨rfl, rfl⟩
      · dsimp only; rw [if_neg q, if_neg q]; rw [en 3 x q] at h0; exact k3 x hx1 h0
