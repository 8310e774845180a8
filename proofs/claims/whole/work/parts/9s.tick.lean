/-! ===== tick ===== -/
theorem WF_8 {n S : Nat} {A A' : Ab} {dep : Nat → Nat} (hW : WF n S A dep) (e : ∀ j x, j ≠ 8 → A'.1 j x = A.1 j x) (ek : A'.2 = A.2) (h8 : ∀ x, Lv A x → 0 ≤ A'.1 8 x ∧ A'.1 8 x ≤ 1266679808) : WF n S A' dep := by
  have hlv : ∀ x, Lv A' x ↔ Lv A x := fun x => by unfold Lv; rw [e 0 x (by omega)]
  have hpg : ∀ x, pgs A' x = pgs A x := fun x => by unfold pgs; rw [e 0 x (by omega)]
  obtain ⟨h1, h2, h3, h4, h5, h6, h7, h9⟩ := hW
  refine ⟨h1, h2, h3, fun d hd => ?_, fun d hd => ?_, fun d hd => ?_, fun d e' hd he => ?_, fun d hd => by rw [e 0 d (by omega)]; exact h9 d hd⟩
  · have hd' := (hlv d).mp hd
    obtain ⟨a1, a2, a3, a4, a5, a6, a7, a8, a9, -, -⟩ := h4 d hd'
    unfold WFa
    rw [hpg, e 0 d (by omega), e 1 d (by omega), e 2 d (by omega)]
    exact ⟨a1, a2, a3, a4, a5, a6, a7, a8, a9, (h8 d hd').1, (h8 d hd').2⟩
  · have hd' := (hlv d).mp hd
    have := h5 d hd'
    unfold WFg at this ⊢
    simp only [hlv, hpg, ek, e 3 d (by omega), e 0 _ (show 0 ≠ 8 by omega), e 1 _ (show 1 ≠ 8 by omega)]
    exact this
  · have hd' := (hlv d).mp hd
    have := h6 d hd'
    unfold WFk at this ⊢
    simp only [hlv, ek, e 3 _ (show 3 ≠ 8 by omega)]
    exact this
  · rw [hpg, hpg]; exact h7 d e' ((hlv d).mp hd) ((hlv e').mp he)
def tkv (f : Nat) (a : Int) : Int := (rdB (whB a.toNat * whB f) 1 (pwB a.toNat + pwB f) : Int)
def aTk (A : Ab) (f : Nat) : Ab := (fun j x => if j = 8 then tkv f (A.1 8 x) else A.1 j x, A.2)
def aTs (A : Ab) (f : Nat) (P : Nat → Bool) : Ab := (fun j x => if j = 8 ∧ P x = true then tkv f (A.1 8 x) else A.1 j x, A.2)
theorem aTs_ne (A : Ab) (f : Nat) (P : Nat → Bool) {j x : Nat} (h : j ≠ 8) : (aTs A f P).1 j x = A.1 j x := if_neg (fun z => h z.1)
theorem aTs_n (A : Ab) (f : Nat) (P : Nat → Bool) {j x : Nat} (h : P x = false) : (aTs A f P).1 j x = A.1 j x := if_neg (fun z => by rw [h] at z; exact absurd z.2 (by decide))
theorem aTs_8 (A : Ab) (f : Nat) (P : Nat → Bool) {x : Nat} (h : P x = true) : (aTs A f P).1 8 x = tkv f (A.1 8 x) := if_pos ⟨rfl, h⟩
theorem aTs_set {A : Ab} {f : Nat} {P P' : Nat → Bool} {x : Nat} (h1 : P x = false) (h2 : P' x = true) (h3 : ∀ y, y ≠ x → P' y = P y) : setA (aTs A f P) 8 x (tkv f (A.1 8 x)) = aTs A f P' := by
  unfold setA
  refine Prod.ext ?_ rfl
  funext j y
  show (if j = 8 ∧ y = x then tkv f (A.1 8 x) else (aTs A f P).1 j y) = (aTs A f P').1 j y
  by_cases c : j = 8 ∧ y = x
  · rw [if_pos c, c.1, c.2, aTs_8 A f P' h2]
  · rw [if_neg c]
    by_cases c1 : j = 8
    · have c2 : y ≠ x := fun z => c ⟨c1, z⟩
      subst c1
      cases h : P y with
      | true => rw [aTs_8 A f P h, aTs_8 A f P' (by rw [h3 y c2]; exact h)]
      | false => rw [aTs_n A f P h, aTs_n A f P' (by rw [h3 y c2]; exact h)]
    · rw [aTs_ne A f P c1, aTs_ne A f P' c1]
theorem c_cool_loop {σ : Nat → Nat} {bn : Nat} {A : Ab} {f : Nat} (hf : f < 2139095040) (h4 : ∀ x, Lv A x → A.1 0 x ≤ 4) (h8 : ∀ x, Lv A x → 0 ≤ A.1 8 x ∧ A.1 8 x ≤ 1266679808) (hbn : bn ≤ 192) : ∀ (m i k : Nat) (δ : Sl), i + m = bn → m < k → CRep δ σ bn (aTs A f (fun x => decide (σ x < i ∧ x < 192 ∧ 0 < A.1 0 x))) →
    ∃ δ', De_coolDown_8 k (zI (f : Int)).toUInt32 (zI (i : Int)) δ = some ((), δ') ∧ CRep δ' σ bn (aTs A f (fun x => decide (σ x < bn ∧ x < 192 ∧ 0 < A.1 0 x))) ∧ ∀ a i, a ≠ 31 → δ' a i = δ a i := by
  have hlv : ∀ P x, Lv (aTs A f P) x ↔ Lv A x := fun P x => by unfold Lv; rw [aTs_ne A f P (by omega)]
  intro m
  induction m with
  | zero =>
    intro i k δ hi hk hC
    obtain ⟨c, rfl⟩ : ∃ c, k = c + 1 := ⟨k - 1, by omega⟩
    have e16 := hC.1.2.1
    have : i = bn := by omega
    subst this
    refine ⟨δ, ?_, hC, fun _ _ _ => rfl⟩
    rw [De_coolDown_8, e16, if_pos (by rw [zI_le (by omega) (by omega) (by omega) (by omega)]; omega)]
  | succ m ih =>
    intro i k δ hi hk hC
    obtain ⟨c, rfl⟩ : ∃ c, k = c + 1 := ⟨k - 1, by omega⟩
    have e16 := hC.1.2.1
    have hib : inb (zI (i : Int)) 192 := by rw [zI_inb (by omega) (by omega)]; omega
    rw [De_coolDown_8, e16, if_neg (by rw [zI_le (by omega) (by omega) (by omega) (by omega)]; omega), if_pos hib, zI_ix (by omega) (by omega), Int.toNat_natCast]
    have hnext : ∀ (δ1 : Sl), CRep δ1 σ bn (aTs A f (fun x => decide (σ x < i + 1 ∧ x < 192 ∧ 0 < A.1 0 x))) → (∀ a i, a ≠ 31 → δ1 a i = δ a i) → ∃ δ', De_coolDown_39 (De_coolDown_8 c) (zI (f : Int)).toUInt32 (zI (i : Int)) δ1 = some ((), δ') ∧ CRep δ' σ bn (aTs A f (fun x => decide (σ x < bn ∧ x < 192 ∧ 0 < A.1 0 x))) ∧ ∀ a i, a ≠ 31 → δ' a i = δ a i := fun δ1 h1 hf1 => by
      obtain ⟨δ', f1, f2, f3⟩ := ih (i + 1) c δ1 (by omega) (by omega) h1
      refine ⟨δ', ?_, f2, fun a i h1 => by rw [f3 a i h1, hf1 a i h1]⟩
      rw [De_coolDown_39, bnd_ap, show (1 : Int32) = zI 1 from rfl, zI_add, show (i : Int) + 1 = ((i + 1 : Nat) : Int) by omega, f1]
    by_cases hu : δ 21 i < 0
    · rw [if_pos hu]
      refine hnext δ ?_ (fun _ _ _ => rfl)
      have : (fun x => decide (σ x < i + 1 ∧ x < 192 ∧ 0 < A.1 0 x)) = (fun x => decide (σ x < i ∧ x < 192 ∧ 0 < A.1 0 x)) := by
        funext x
        refine decide_eq_decide.mpr ⟨fun z => ⟨?_, z.2⟩, fun z => ⟨by omega, z.2⟩⟩
        refine Classical.byContradiction fun w => ?_
        have he : σ x = i := by have := z.1; omega
        have hx : Lv A x := z.2
        have e21 := (hC.2.2.1 x ((hlv _ x).mpr hx)).2.2.2.1
        rw [he, aTs_ne A f _ (by omega)] at e21
        have := hx.2
        have := h4 x hx
        rw [e21, zI_lit, zI_lt (by omega) (by omega) (by omega) (by omega)] at hu
        omega
      rw [this]; exact hC
    · rw [if_neg hu, if_pos hib]
      obtain ⟨x, hx', he⟩ := hC.1.2.2.2.2 i (by omega) hu
      have hx := (hlv _ x).mp hx'
      have hx192 := hx.1
      have e31 := (hC.2.2.1 x hx').2.2.2.2.2.2.2.2
      have hPx : (fun x => decide (σ x < i ∧ x < 192 ∧ 0 < A.1 0 x)) x = false := decide_eq_false (by omega)
      rw [he, aTs_n A f _ hPx] at e31
      have r8 := h8 x hx
      obtain ⟨a, ha⟩ : ∃ a : Nat, A.1 8 x = (a : Int) := ⟨(A.1 8 x).toNat, by omega⟩
      have htk : tkv f (A.1 8 x) = (rdB (whB a * whB f) 1 (pwB a + pwB f) : Int) := by unfold tkv; rw [ha, Int.toNat_natCast]
      rw [ha] at e31 r8
      have hF := (F_mul (a := a) (b := f) (by omega) hf).2
      have hle := (rd_cases (whB a * whB f) (show 0 < 1 by omega) (pwB a + pwB f)).2
      rw [e31, if_pos (nn_of (k := rdB (whB a * whB f) 1 (pwB a + pwB f)) hle hF), if_pos hib, bnd_ap, hF]
      have hN := cr_fld hC (a := 31) (j := 8) (d := x) (v := tkv f (A.1 8 x)) (by omega) hx'
      rw [aTs_set (P' := fun x => decide (σ x < i + 1 ∧ x < 192 ∧ 0 < A.1 0 x)) hPx (decide_eq_true ⟨by omega, hx⟩) (fun y hy => by
        refine decide_eq_decide.mpr ⟨fun z => ⟨?_, z.2⟩, fun z => ⟨by omega, z.2⟩⟩
        refine Classical.byContradiction fun w => hy ?_
        exact hC.1.2.2.2.1 y x ((hlv _ y).mpr z.2) hx' (by have := z.1; omega)), he, htk] at hN
      exact hnext _ hN (fun a i h1 => by rw [wr_ap, if_neg (fun z => h1 z.1)])
theorem m_tick_loop {A : Ab} {f : Nat} (hf : f < 2139095040) {μ : Sl} {b : Nat} {B0 : Nat → Int} (hb : MB μ b) (hB : ∀ x, x < 192 → B0 x = A.1 0 x ∧ 0 ≤ A.1 0 x ∧ A.1 0 x ≤ 4) (hB8 : ∀ x, Lv A x → B0 (1536 + x) = A.1 8 x) (h8 : ∀ x, Lv A x → 0 ≤ A.1 8 x ∧ A.1 8 x ≤ 1266679808) : ∀ (m i k : Nat) (B : Nat → Int), i + m = 192 → m < k → (∀ q, B q = if 1536 ≤ q ∧ q < 1536 + i ∧ 0 < A.1 0 (q - 1536) then tkv f (A.1 8 (q - 1536)) else B0 q) →
    ∃ B', Mo_ticks_20 k (zI (f : Int)) (zI (i : Int)) (bst μ b B) = some ((), bst μ b B') ∧ ∀ q, B' q = if 1536 ≤ q ∧ q < 1728 ∧ 0 < A.1 0 (q - 1536) then tkv f (A.1 8 (q - 1536)) else B0 q := by
  intro m
  induction m with
  | zero =>
    intro i k B hi hk hq
    obtain ⟨c, rfl⟩ : ∃ c, k = c + 1 := ⟨k - 1, by omega⟩
    have : i = 192 := by omega
    subst this
    exact ⟨B, by rw [Mo_ticks_20, if_pos (by decide)], hq⟩
  | succ m ih =>
    intro i k B hi hk hq
    obtain ⟨c, rfl⟩ : ∃ c, k = c + 1 := ⟨k - 1, by omega⟩
    have hBi := hB i (by omega)
    have o1 := m_of hb B (k := (i : Int)) (by omega) (by omega)
    rw [Int.toNat_natCast, hq i, if_neg (by omega), hBi.1] at o1
    have hdd : Mo_isDeed (bst μ b B) (zI (i : Int)) = some (if A.1 0 i ≤ 0 then 0 else 1) := by
      rw [Mo_isDeed, show (0 : Int32) + zI (i : Int) = zI (i : Int) by rw [show (0 : Int32) = zI 0 from rfl, zI_add]; congr 1; omega, o1, bp_some]
      by_cases c1 : A.1 0 i ≤ 0
      · rw [if_pos (by rw [zI_lit, zI_le (by omega) (by omega) (by omega) (by omega)]; exact c1), if_pos c1]
      · rw [if_neg (by rw [zI_lit, zI_le (by omega) (by omega) (by omega) (by omega)]; exact c1), if_neg c1]
    have hnx : zI (i : Int) + 1 = zI ((i + 1 : Nat) : Int) := by rw [show (1 : Int32) = zI 1 from rfl, zI_add]; rfl
    rw [Mo_ticks_20, if_neg (by rw [zI_lit, zI_le (by omega) (by omega) (by omega) (by omega)]; omega), hdd, bp_some]
    by_cases c1 : A.1 0 i ≤ 0
    · rw [if_pos c1, if_pos rfl, Mo_ticks_57, bnd_ap, hnx]
      refine ih (i + 1) c B (by omega) (by omega) (fun q => ?_)
      rw [hq q]
      by_cases c2 : q = 1536 + i
      · subst c2
        rw [if_neg (by omega), if_neg (by rw [show 1536 + i - 1536 = i by omega]; omega)]
      · by_cases c3 : 1536 ≤ q ∧ q < 1536 + i ∧ 0 < A.1 0 (q - 1536)
        · rw [if_pos c3, if_pos ⟨c3.1, by omega, c3.2.2⟩]
        · rw [if_neg c3, if_neg (fun z => c3 ⟨z.1, by omega, z.2.2⟩)]
    · rw [if_neg c1, if_neg (by decide)]
      have hl : Lv A i := ⟨by omega, by omega⟩
      have r8 := h8 i hl
      obtain ⟨a, ha⟩ : ∃ a : Nat, A.1 8 i = (a : Int) := ⟨(A.1 8 i).toNat, by omega⟩
      have htk : tkv f (A.1 8 i) = (rdB (whB a * whB f) 1 (pwB a + pwB f) : Int) := by unfold tkv; rw [ha, Int.toNat_natCast]
      have o2 := m_of hb B (k := ((1536 + i : Nat) : Int)) (by omega) (by omega)
      rw [Int.toNat_natCast, hq, if_neg (by omega), hB8 i hl, ha] at o2
      have o3 := m_lay hb B (k := ((1536 + i : Nat) : Int)) (tkv f (A.1 8 i)) (by omega) (by omega)
      rw [Int.toNat_natCast] at o3
      rw [ha] at r8
      have hF := (F_mul (a := a) (b := f) (by omega) hf).1
      rw [← htk] at hF
      rw [show (1536 : Int32) = zI 1536 from rfl, zI_add, show (1536 : Int) + (i : Int) = ((1536 + i : Nat) : Int) by omega, o2, bp_some, hF, bp_some, o3, bd_some, Mo_ticks_57, bnd_ap, hnx]
      refine ih (i + 1) c _ (by omega) (by omega) (fun q => ?_)
      rw [upB_ap]
      by_cases c2 : q = 1536 + i
      · subst c2
        rw [if_pos rfl, if_pos ⟨by omega, by omega, by rw [show 1536 + i - 1536 = i by omega]; omega⟩, show 1536 + i - 1536 = i by omega]
      · rw [if_neg c2, hq q]
        by_cases c3 : 1536 ≤ q ∧ q < 1536 + i ∧ 0 < A.1 0 (q - 1536)
        · rw [if_pos c3, if_pos ⟨c3.1, by omega, c3.2.2⟩]
        · rw [if_neg c3, if_neg (fun z => c3 ⟨z.1, by omega, z.2.2⟩)]
/-- the factor -/
def tkF (v : Nat) : Nat := rdB (whB (rdB v 1 0)) (whB 1092616192) (pwB (rdB v 1 0) - pwB 1092616192)
theorem tkF_le : ∀ v : Fin 11, rdB v.val 1 0 < 2139095040 ∧ tkF v.val ≤ 1065353216 := by decide +kernel
theorem ten_f : rdB 10 1 0 = 1092616192 := by decide +kernel
theorem tick_on {ee : Int × Int} {n S : Nat} {A : Ab} {dep : Nat → Nat} {δ : Sl} {σ : Nat → Nat} {bn : Nat} {μ : Sl} {b : Nat} {B : Nat → Int} {J : List Jb} {N : Int} (hR : RC n S δ σ bn B A dep J N) (hX : WX ee n S δ B) (hb : MB μ b) {v : Nat} (hv : v ≤ 10) (hm : μ 41 5 = zI (v : Int)) :
    ∃ δ' B' A', De_coolDown δ (zI (v : Int)) = some ((), δ') ∧ Mo_ticks (bst μ b B) = some ((), bst μ b B') ∧ RC n S δ' σ bn B' A' dep J N ∧ WX ee n S δ' B' ∧ δ' 10 0 = δ 10 0 ∧ B' 2196 = B 2196 ∧ δ' 17 17 = zI (nlv A' : Int) ∧ QMq μ n S B B' := by
  have hv2 := tkF_le ⟨v, by omega⟩
  have hI := F_int (n := v) (by omega)
  have hT := F_int (n := 10) (by omega)
  rw [ten_f] at hT
  have hD := F_div (a := rdB v 1 0) (b := 1092616192) hv2.1 (by omega) (by omega)
  have hfl : tkF v < 2139095040 := by have := hv2.2; show tkF v < _; simp only at this; omega
  obtain ⟨h, hC, hM, hW, hwd, hJ, hJC, hJM, h4, h97⟩ := hR
  have h8 : ∀ x, Lv A x → 0 ≤ A.1 8 x ∧ A.1 8 x ≤ 1266679808 := fun x hx => by
    have := h.2.2.2.1 x hx
    exact ⟨this.2.2.2.2.2.2.2.2.2.1, this.2.2.2.2.2.2.2.2.2.2⟩
  have e00 : aTs A (tkF v) (fun x => decide (σ x < 0 ∧ x < 192 ∧ 0 < A.1 0 x)) = A := by
    refine Prod.ext ?_ rfl
    funext j x
    exact aTs_n A (tkF v) _ (decide_eq_false (by omega))
  obtain ⟨δ', c1, c2, c3⟩ := c_cool_loop hfl (fun x hx => (h.2.2.2.1 x hx).1) h8 hC.1.1 bn 0 FU δ (by omega) (FU_gt (by have := hC.1.1; omega)) (by rw [e00]; exact hC)
  obtain ⟨B', m1, m2⟩ := m_tick_loop (f := tkF v) hfl hb (MR_0 h hM) (fun x hx => (hM.2.1 x hx).2.2.2.1) h8 192 0 FU B (by omega) (FU_gt (by omega)) (fun q => by rw [if_neg (by omega)])
  have hle : ∀ x, Lv A x → 0 ≤ tkv (tkF v) (A.1 8 x) ∧ tkv (tkF v) (A.1 8 x) ≤ 1266679808 := fun x hx => by
    have r8 := h8 x hx
    have := ml_one (a := (A.1 8 x).toNat) (b := tkF v) hv2.2
    unfold tkv
    omega
  have hne : ∀ j x, j ≠ 8 → (aTk A (tkF v)).1 j x = A.1 j x := fun j x hj => if_neg hj
  have hlvT : ∀ x, Lv (aTk A (tkF v)) x ↔ Lv A x := fun x => by
    unfold Lv
    rw [hne 0 x (by omega)]
  have h88 : ∀ x, (aTk A (tkF v)).1 8 x = tkv (tkF v) (A.1 8 x) := fun x => rfl
  have hW' : WF n S (aTk A (tkF v)) dep := WF_8 h hne rfl (fun x hx => by rw [h88]; exact hle x hx)
  have hC' : CRep δ' σ bn (aTk A (tkF v)) := by
    refine cr_ext c2 (fun x _ => ?_) (fun x hx j hj => ?_) (fun x _ => rfl)
    · rw [hne 0 x (by omega), aTs_ne A _ _ (by omega)]
    · have hx1 : Lv A x := by
        refine ⟨hx.1, ?_⟩
        have := hx.2
        rw [aTs_ne A _ _ (by omega)] at this; exact this
      by_cases c : j = 8
      · subst c
        rw [h88, aTs_8 A _ _ (decide_eq_true ⟨hC.1.2.2.1 x hx1, hx1⟩)]
      · rw [hne j x c, aTs_ne A _ _ c]
  have hlow : ∀ k, k < 1536 ∨ 1728 ≤ k → B' k = B k := fun k hk => by rw [m2 k, if_neg (by omega)]
  have hM' : MRep B' (aTk A (tkF v)) := by
    obtain ⟨q1, q2, q3, q4⟩ := hM
    refine ⟨fun d hd => by rw [hlow d (by omega), hne 0 d (by omega)]; exact q1 d hd, fun d hd => ?_, fun g hg => ?_, fun d hd h3 => ?_⟩
    · have hd' := (hlvT d).mp hd
      have hl := hd.1
      obtain ⟨a1, a2, a3, a4, a5⟩ := q2 d hd'
      rw [hlow _ (by omega), hlow _ (by omega), hlow _ (by omega), hlow (1728 + d) (by omega), m2 (1536 + d), if_pos ⟨by omega, by omega, by rw [show 1536 + d - 1536 = d by omega]; exact hd'.2⟩, show 1536 + d - 1536 = d by omega, hne 1 d (by omega), hne 2 d (by omega), hne 3 d (by omega), hne 9 d (by omega), h88]
      exact ⟨a1, a2, a3, rfl, a5⟩
    · have hg' := (hlvT g).mp hg
      have hl := hg.1
      obtain ⟨a1, a2, a3⟩ := q3 g hg'
      refine ⟨(hlow (768 + g) (by omega)).trans a1, (hlow (960 + g) (by omega)).trans a2, fun l1 y l2 e => ?_⟩
      obtain ⟨b1, b2⟩ := a3 l1 y l2 e
      have hy : y < 192 := ((h.2.2.2.2.2.1 g hg').2 y (by
        have e' : A.2 g = l1 ++ y :: l2 := e
        rw [e']; simp)).1.1
      exact ⟨(hlow (1344 + y) (by omega)).trans b1, (hlow (1152 + y) (by omega)).trans b2⟩
    · have hd' := (hlvT d).mp hd
      have hl := hd.1
      rw [hne 3 d (by omega)] at h3
      obtain ⟨a1, a2⟩ := q4 d hd' h3
      exact ⟨(hlow _ (by omega)).trans a1, (hlow _ (by omega)).trans a2⟩
  have hl := jL_len hJ
  refine ⟨δ', B', aTk A (tkF v), ?_, ?_, ⟨hW', hC', hM', fun s hs => ?_, fun y hy ho => ?_, JA_ext hJ (fun j x hj => hne j x (by omega)), JC_keep hJC (c3 _ _ (by omega)) (fun i => c3 _ _ (by omega)), JM_keep hJM hJ.1.1 (fun k g1 g2 => hlow k (by omega)), by rw [c3 _ _ (by omega)]; exact h4, by rw [hlow _ (by omega)]; exact h97⟩, WX_keep hX (fun a i ha => c3 a i (by omega)) (fun i hi => c3 _ _ (by omega)) (fun k g1 g2 g3 g4 => hlow k (by omega)) ?_ ?_, c3 _ _ (by omega), hlow _ (by omega), hC'.2.2.2.1.1, QMq.same h.1 (fun k hk => hlow k (by omega))⟩
  · have hi := u_of (k := rdB v 1 0) (by have := hv2.1; simp only at this; omega) hI.2
    have hD2 : (FP.fdiv (FP.i2f (zI (v : Int))) (1092616192 : UInt32)).toInt32 = zI (tkF v : Int) := by
      rw [hi]; exact hD.2
    have hu := u_of (k := tkF v) (by omega) hD2
    rw [De_coolDown, if_pos (nn_of (k := tkF v) (by omega) hD2), bnd_ap, bnd_ap, hu]
    exact c1
  · have e41 : bst μ b B 41 5 = zI (v : Int) := by rw [bst_ne _ _ _ (by decide)]; exact hm
    have hT1 : Mo_floatOf (10 : Int32) = some (zI ((1092616192 : Nat) : Int)) := hT.1
    rw [Mo_ticks, if_pos (by decide), show ix (5 : Int32) = 5 from rfl, e41, hI.1, bp_some, hT1, bp_some, hD.1, bp_some, bnd_ap, bnd_ap]
    exact m1
  · rw [c3 _ _ (by omega), hlow _ (by omega), hlow _ (by omega), hlow _ (by omega), hlow _ (by omega)]; exact hW s hs
  · have hy' := (hlvT y).mp hy
    have hy1 := hy.1
    have : 1920 ≤ wdc y := by unfold wdc; omega
    rw [hne 0 y (by omega)] at ho
    rw [hlow _ (by omega)]; exact hwd y hy' ho
  · rw [c3 _ _ (by omega), hlow _ (by omega)]; exact hX.2.2.2.1.2.2.1
  · rw [c3 _ _ (by omega), hlow _ (by omega)]; exact hX.2.2.2.1.2.2.2
