/-! ===== the class marks tops, and takes the marks back ===== -/
theorem cr_nine {δ : Sl} {σ : Nat → Nat} {bn : Nat} {A : Ab} (h : CRep δ σ bn A) {d : Nat} {v : Int} (hd : Lv A d) (hv1 : -2147483648 ≤ v) (hv2 : v < 2147483648) : CRep (wr (wr δ 28 (σ d) (zI v)) 17 18 (zI (ntp (setA A 9 d v) : Int))) σ bn (setA A 9 d v) := by
  have e0 : ∀ k x, k ≠ 9 → (setA A 9 d v).1 k x = A.1 k x := fun k x hk => if_neg (fun z => hk z.1)
  have el : ∀ x, Lv (setA A 9 d v) x ↔ Lv A x := fun x => by unfold Lv; rw [e0 0 x (by omega)]
  have er : ∀ b i, b ≠ 28 → (b ≠ 17 ∨ i ≠ 18) → wr (wr δ 28 (σ d) (zI v)) 17 18 (zI (ntp (setA A 9 d v) : Int)) b i = δ b i := fun b i hb hc => by
    rw [wr_ap, if_neg (by omega), wr_ap, if_neg (fun z => hb z.1)]
  have e28 : ∀ i, wr (wr δ 28 (σ d) (zI v)) 17 18 (zI (ntp (setA A 9 d v) : Int)) 28 i = if i = σ d then zI v else δ 28 i := fun i => by
    rw [wr_ap, if_neg (by omega), wr_ap]; simp
  have hsv := CS_SV h.1
  obtain ⟨⟨s1, s2, s3, s4, s5⟩, hq, hf, ⟨n1, n2, n3⟩, F, L, N, P, k1, k2, k3⟩ := h
  refine ⟨⟨s1, by rw [er _ _ (by omega) (by omega)]; exact s2, fun d hd => s3 d ((el d).mp hd), fun d e hd he => s4 d e ((el d).mp hd) ((el e).mp he), fun j h1 h2 => ?_⟩, ?_, ?_, ⟨?_, ?_, ?_⟩, F, L, N, P, ?_, ?_, ?_⟩
  · rw [er _ _ (by omega) (by omega)] at h2
    obtain ⟨d, hd, e⟩ := s5 j h1 h2
    exact ⟨d, (el d).mpr hd, e⟩
  · intro q hq1
    have : cov (setA A 9 d v) q = cov A q := by unfold cov; rw [e0 0 _ (by omega), e0 0 _ (by omega), e0 0 _ (by omega), e0 0 _ (by omega)]
    rw [this, er _ _ (by omega) (by omega)]; exact hq q hq1
  · intro x hx
    have h1 := (el x).mp hx
    obtain ⟨c1, c2, c3, c4, c5, c6, c7, c8, c9⟩ := hf x h1
    have hs : (σ x = σ d) = (x = d) := sv_eq hsv h1 hd
    unfold CF
    rw [e0 0 _ (by omega), e0 1 _ (by omega), e0 2 _ (by omega), e0 8 _ (by omega), e0 10 _ (by omega), e0 11 _ (by omega)]
    rw [er 18 _ (by omega) (by omega), er 19 _ (by omega) (by omega), er 20 _ (by omega) (by omega), er 21 _ (by omega) (by omega), er 22 _ (by omega) (by omega), er 29 _ (by omega) (by omega), er 30 _ (by omega) (by omega), er 31 _ (by omega) (by omega), e28]
    refine ⟨c1, c2, c3, c4, c5, ?_, c7, c8, c9⟩
    show _ = zI (if 9 = 9 ∧ x = d then v else A.1 9 x)
    by_cases q : x = d
    · rw [if_pos (by rw [q]), if_pos ⟨rfl, q⟩]
    · rw [if_neg (by rw [hs]; exact q), if_neg (fun z => q z.2), c6]
  · have e : nlv (setA A 9 d v) = nlv A := fb_ct_cong (fun k hk => by rw [e0 0 _ (by omega)])
    rw [er _ _ (by omega) (by omega), n1, e]
  · rw [wr_ap, if_pos ⟨rfl, rfl⟩]
  · intro x hx
    show -2147483648 ≤ (if 9 = 9 ∧ x = d then v else A.1 9 x) ∧ (if 9 = 9 ∧ x = d then v else A.1 9 x) < 2147483648
    by_cases q : x = d
    · rw [if_pos ⟨rfl, q⟩]; exact ⟨hv1, hv2⟩
    · rw [if_neg (fun z => q z.2)]; exact n3 x ((el x).mp hx)
  · intro x hx
    rw [er _ _ (by omega) (by omega), er _ _ (by omega) (by omega), er _ _ (by omega) (by omega), er _ _ (by omega) (by omega), er _ _ (by omega) (by omega), e0 3 _ (by omega)]
    exact k1 x ((el x).mp hx)
  · intro x hx; exact k2 x ((el x).mp hx)
  · intro x hx h0; rw [e0 3 _ (by omega)] at h0; exact k3 x ((el x).mp hx) h0
theorem ntp_set {A : Ab} {d : Nat} {v : Int} (hd : Lv A d) : (ntp (setA A 9 d v) : Int) = ntp A + (if v ≠ 0 then 1 else 0) - (if A.1 9 d ≠ 0 then 1 else 0) := by
  have e := ntp_up (A := A) (A' := setA A 9 d v) hd.1 (fun x hx => ⟨setA_ne A v (fun z => hx z.2), setA_ne A v (fun z => hx z.2)⟩)
  have e1 : (setA A 9 d v).1 0 d = A.1 0 d := setA_ne A v (by omega)
  have e2 : (setA A 9 d v).1 9 d = v := if_pos ⟨rfl, rfl⟩
  have h2 := hd.2
  rw [e1, e2] at e
  by_cases c1 : v = 0 <;> by_cases c2 : A.1 9 d = 0 <;> simp [c1, c2, h2] at e ⊢ <;> omega
theorem c_markTop {δ : Sl} {σ : Nat → Nat} {bn : Nat} {A : Ab} (h : CRep δ σ bn A) {d : Nat} {v : Int} (hd : Lv A d) (hv1 : 0 < v) (hv2 : v < 2147483648) (h0 : A.1 9 d = 0) :
    ∃ δ', De_markTop δ (zI (σ d : Int)) (zI v) = some ((), δ') ∧ CRep δ' σ bn (setA A 9 d v) ∧ ∀ a i, a ≠ 28 → (a ≠ 17 ∨ i ≠ 18) → δ' a i = δ a i := by
  have hC := cr_nine h (v := v) hd (by omega) hv2
  have b1 := cr_lt h hd
  have e := ntp_set (v := v) hd
  rw [if_pos (by omega), if_neg (by omega)] at e
  refine ⟨_, ?_, hC, fun a i h1 h2 => by rw [wr_ap, if_neg (by omega), wr_ap, if_neg (fun z => h1 z.1)]⟩
  have n2 := h.2.2.2.1.2.1
  have hr : wr δ 28 (σ d) (zI v) 17 18 = zI (ntp A : Int) := by rw [wr_ap, if_neg (by omega), n2]
  rw [De_markTop, if_pos (by rw [zI_inb (by omega) (by omega)]; omega), bnd_ap, bnd_ap, zI_ix (by omega) (by omega), Int.toNat_natCast, hr, show (1 : Int32) = zI 1 from rfl, zI_add, e, show (ntp A : Int) + 1 - 0 = ntp A + 1 by omega]
def aE (A : Ab) (j : Int) : Ab := (fun i x => if i = 9 ∧ A.1 9 x = j then 0 else A.1 i x, A.2)
def aEs (A : Ab) (σ : Nat → Nat) (j : Int) (i0 : Nat) : Ab := (fun i x => if i = 9 ∧ A.1 9 x = j ∧ σ x < i0 ∧ (x < 192 ∧ 0 < A.1 0 x) then 0 else A.1 i x, A.2)
theorem aEs_ne (A : Ab) (σ : Nat → Nat) (j : Int) (k : Nat) {i x : Nat} (h : i ≠ 9) : (aEs A σ j k).1 i x = A.1 i x := if_neg (fun z => h z.1)
theorem aEs_9 (A : Ab) (σ : Nat → Nat) (j : Int) (k : Nat) {i x : Nat} (h : ¬ σ x < k) : (aEs A σ j k).1 i x = A.1 i x := if_neg (fun z => h z.2.2.1)
theorem aE_ne (A : Ab) (j : Int) {i x : Nat} (h : i ≠ 9) : (aE A j).1 i x = A.1 i x := if_neg (fun z => h z.1)
theorem aE_9 (A : Ab) (j : Int) (x : Nat) : (aE A j).1 9 x = if A.1 9 x = j then 0 else A.1 9 x := by
  show (if 9 = 9 ∧ A.1 9 x = j then 0 else A.1 9 x) = _
  simp
theorem c_endJob_loop {σ : Nat → Nat} {bn : Nat} {A : Ab} {j : Int} (hj1 : 0 < j) (hj2 : j < 2147483648) (h9 : ∀ x, Lv A x → -2147483648 ≤ A.1 9 x ∧ A.1 9 x < 2147483648) (h4 : ∀ x, Lv A x → A.1 0 x ≤ 4) (hbn : bn ≤ 192) : ∀ (m i k : Nat) (δ : Sl), i + m = bn → m < k → CRep δ σ bn (aEs A σ j i) →
    ∃ δ', De_endJob_2 k (zI j) (zI (i : Int)) δ = some ((), δ') ∧ CRep δ' σ bn (aEs A σ j bn) ∧ ∀ a i, a ≠ 28 → (a ≠ 17 ∨ i ≠ 18) → δ' a i = δ a i := by
  have hlv : ∀ i x, Lv (aEs A σ j i) x ↔ Lv A x := fun i x => by
    unfold Lv; rw [aEs_ne A σ j i (by omega)]
  intro m
  induction m with
  | zero =>
    intro i k δ hi hk hC
    obtain ⟨c, rfl⟩ : ∃ c, k = c + 1 := ⟨k - 1, by omega⟩
    have e16 := hC.1.2.1
    have : i = bn := by omega
    subst this
    refine ⟨δ, ?_, hC, fun _ _ _ _ => rfl⟩
    rw [De_endJob_2, e16, if_pos (by rw [zI_le (by omega) (by omega) (by omega) (by omega)]; omega)]
  | succ m ih =>
    intro i k δ hi hk hC
    obtain ⟨c, rfl⟩ : ∃ c, k = c + 1 := ⟨k - 1, by omega⟩
    have e16 := hC.1.2.1
    have hib : inb (zI (i : Int)) 192 := by rw [zI_inb (by omega) (by omega)]; omega
    rw [De_endJob_2, e16, if_neg (by rw [zI_le (by omega) (by omega) (by omega) (by omega)]; omega), if_pos hib, zI_ix (by omega) (by omega), Int.toNat_natCast]
    have hnext : ∀ (δ1 : Sl), CRep δ1 σ bn (aEs A σ j (i + 1)) → (∀ a i, a ≠ 28 → (a ≠ 17 ∨ i ≠ 18) → δ1 a i = δ a i) → ∃ δ', De_endJob_46 (De_endJob_2 c) (zI j) (zI (i : Int)) δ1 = some ((), δ') ∧ CRep δ' σ bn (aEs A σ j bn) ∧ ∀ a i, a ≠ 28 → (a ≠ 17 ∨ i ≠ 18) → δ' a i = δ a i := fun δ1 h1 hf => by
      obtain ⟨δ', f1, f2, f3⟩ := ih (i + 1) c δ1 (by omega) (by omega) h1
      refine ⟨δ', ?_, f2, fun a i h1 h2 => by rw [f3 a i h1 h2, hf a i h1 h2]⟩
      rw [De_endJob_46, bnd_ap, show (1 : Int32) = zI 1 from rfl, zI_add, show (i : Int) + 1 = ((i + 1 : Nat) : Int) by omega, f1]
    have hsame : (∀ x, Lv A x → σ x = i → A.1 9 x ≠ j) → aEs A σ j (i + 1) = aEs A σ j i := fun hn => by
      unfold aEs
      refine Prod.ext ?_ rfl
      funext r x
      show (if r = 9 ∧ A.1 9 x = j ∧ σ x < i + 1 ∧ (x < 192 ∧ 0 < A.1 0 x) then 0 else A.1 r x) = (if r = 9 ∧ A.1 9 x = j ∧ σ x < i ∧ (x < 192 ∧ 0 < A.1 0 x) then 0 else A.1 r x)
      by_cases c1 : σ x = i ∧ Lv A x
      · have := hn x c1.2 c1.1
        rw [if_neg (fun z => this z.2.1), if_neg (fun z => this z.2.1)]
      · have : (r = 9 ∧ A.1 9 x = j ∧ σ x < i + 1 ∧ (x < 192 ∧ 0 < A.1 0 x)) ↔ (r = 9 ∧ A.1 9 x = j ∧ σ x < i ∧ (x < 192 ∧ 0 < A.1 0 x)) :=
          ⟨fun ⟨a, b, c, d⟩ => ⟨a, b, by have : σ x ≠ i := fun e => c1 ⟨e, d⟩
                                         omega, d⟩, fun ⟨a, b, c, d⟩ => ⟨a, b, by omega, d⟩⟩
        simp only [this]
    by_cases hu : δ 21 i < 0
    · rw [if_pos hu]
      refine hnext δ ?_ (fun _ _ _ _ => rfl)
      rw [hsame (fun x hx he _ => ?_)]
      · exact hC
      · have e21 := (hC.2.2.1 x ((hlv i x).mpr hx)).2.2.2.1
        rw [he] at e21
        have e0 : (aEs A σ j i).1 0 x = A.1 0 x := aEs_ne A σ j i (by omega)
        rw [e0] at e21
        have := hx.2
        have := h4 x hx
        rw [e21, zI_lit, zI_lt (by omega) (by omega) (by omega) (by omega)] at hu
        omega
    · rw [if_neg hu, if_pos hib]
      obtain ⟨x, hx', he⟩ := hC.1.2.2.2.2 i (by omega) hu
      have hx := (hlv i x).mp hx'
      have e28 := (hC.2.2.1 x hx').2.2.2.2.2.1
      have e9 : (aEs A σ j i).1 9 x = A.1 9 x := aEs_9 A σ j i (by omega)
      rw [he, e9] at e28
      have r9 := h9 x hx
      have hinj : ∀ y, Lv A y → σ y = i → y = x := fun y hy hyi => hC.1.2.2.2.1 y x ((hlv i y).mpr hy) hx' (by omega)
      rw [e28]
      by_cases c1 : A.1 9 x = j
      · rw [if_pos (by rw [c1]), if_pos hib, bnd_ap, bnd_ap]
        have hN := cr_nine hC (d := x) (v := 0) hx' (by omega) (by omega)
        have e := ntp_set (v := 0) hx'
        rw [e9, if_neg (by omega), if_pos (by omega)] at e
        have n2 := hC.2.2.2.1.2.1
        have hset : setA (aEs A σ j i) 9 x 0 = aEs A σ j (i + 1) := by
          unfold aEs setA
          refine Prod.ext ?_ rfl
          funext r y
          show (if r = 9 ∧ y = x then 0 else if r = 9 ∧ A.1 9 y = j ∧ σ y < i ∧ (y < 192 ∧ 0 < A.1 0 y) then 0 else A.1 r y) = (if r = 9 ∧ A.1 9 y = j ∧ σ y < i + 1 ∧ (y < 192 ∧ 0 < A.1 0 y) then 0 else A.1 r y)
          by_cases q : r = 9
          · by_cases q2 : y = x
            · rw [if_pos ⟨q, q2⟩, if_pos ⟨q, by rw [q2]; exact c1, by rw [q2]; omega, by rw [q2]; exact hx⟩]
            · rw [if_neg (fun z => q2 z.2)]
              by_cases q3 : A.1 9 y = j ∧ σ y < i ∧ Lv A y
              · rw [if_pos ⟨q, q3⟩, if_pos ⟨q, q3.1, by omega, q3.2.2⟩]
              · rw [if_neg (fun z => q3 z.2), if_neg (fun z => q3 ⟨z.2.1, by
                  have : σ y ≠ i := fun e => q2 (hinj y z.2.2.2 e)
                  have := z.2.2.1
                  omega, z.2.2.2⟩)]
          · rw [if_neg (fun z => q z.1), if_neg (fun z => q z.1), if_neg (fun z => q z.1)]
        rw [hset] at hN
        have hr : wr δ 28 i (0 : Int32) 17 18 = zI (ntp (aEs A σ j i) : Int) := by rw [wr_ap, if_neg (by omega), n2]
        rw [hr, show (1 : Int32) = zI 1 from rfl, zI_sub]
        rw [← hset, e, hset, he, show (ntp (aEs A σ j i) : Int) + 0 - 1 = (ntp (aEs A σ j i) : Int) - 1 by omega] at hN
        exact hnext _ hN (fun a i h1 h2 => by rw [wr_ap, if_neg (by omega), wr_ap, if_neg (fun z => h1 z.1)])
      · rw [if_neg (by rw [zI_eq (by omega) (by omega) (by omega) (by omega)]; exact c1)]
        refine hnext δ ?_ (fun _ _ _ _ => rfl)
        rw [hsame (fun y hy hyi => by rw [hinj y hy hyi]; exact c1)]
        exact hC
theorem c_endJob {n S : Nat} {dep : Nat → Nat} {σ : Nat → Nat} {bn : Nat} {A : Ab} {j : Int} {δ : Sl} (h : WF n S A dep) (hC : CRep δ σ bn A) (hj1 : 0 < j) (hj2 : j < 2147483648) :
    ∃ δ', De_endJob δ (zI j) = some ((), δ') ∧ CRep δ' σ bn (aE A j) ∧ ∀ a i, a ≠ 28 → (a ≠ 17 ∨ i ≠ 18) → δ' a i = δ a i := by
  have h00 : aEs A σ j 0 = A := by unfold aEs; simp
  obtain ⟨δ', e1, e2, e3⟩ := c_endJob_loop hj1 hj2 (A := A) (σ := σ) hC.2.2.2.1.2.2 (fun x hx => (h.2.2.2.1 x hx).1) hC.1.1 bn 0 FU δ (by omega) (FU_gt (by have := hC.1.1; omega)) (by rw [h00]; exact hC)
  refine ⟨δ', ?_, ?_, e3⟩
  · unfold De_endJob; rw [bnd_ap]; exact e1
  · refine cr_ext e2 (fun x _ => ?_) (fun x hx i _ => ?_) (fun x _ => rfl)
    · rw [aE_ne A j (by omega), aEs_ne A σ j bn (by omega)]
    · have hx1 : Lv A x := by
        refine ⟨hx.1, ?_⟩
        have := hx.2
        rw [aEs_ne A σ j bn (by omega)] at this; exact this
      show (if i = 9 ∧ A.1 9 x = j then 0 else A.1 i x) = (if i = 9 ∧ A.1 9 x = j ∧ σ x < bn ∧ (x < 192 ∧ 0 < A.1 0 x) then 0 else A.1 i x)
      have hb := hC.1.2.2.1 x hx1
      by_cases q : i = 9 ∧ A.1 9 x = j
      · rw [if_pos q, if_pos ⟨q.1, q.2, hb, hx1⟩]
      · rw [if_neg q, if_neg (fun z => q ⟨z.1, z.2.1⟩)]
