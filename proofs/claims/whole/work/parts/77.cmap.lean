/-! ===== the class hands on ===== -/
theorem sh_n : ∀ k : Fin 32, ((zI (k.val : Int) &&& zI 31).toBitVec.smod 32).toNat = k.val := by decide +kernel
theorem zI_shr {a : Int} {k : Nat} (hk : k < 32) (h1 : 0 ≤ a) (h2 : a < 2147483648) : zI a >>> (zI (k : Int) &&& zI 31) = zI (a / 2 ^ k) := by
  apply Int32.toInt_inj.mp
  have e : (zI a >>> (zI (k : Int) &&& zI 31)).toInt = (zI a).toInt >>> k := by
    show ((zI a).toBitVec.sshiftRight' ((zI (k : Int) &&& zI 31).toBitVec.smod 32)).toInt = _
    rw [BitVec.toInt_sshiftRight', sh_n ⟨k, hk⟩]
    rfl
  have hp : (0 : Int) < 2 ^ k := Int.pow_pos (by decide)
  have b1 : 0 ≤ a / 2 ^ k := Int.ediv_nonneg h1 (Int.le_of_lt hp)
  have b2 : a / 2 ^ k < 2147483648 := by have := Int.ediv_le_self (2 ^ k) h1; omega
  rw [e, zI_toInt (by omega) h2, zI_toInt (by omega) b2, Int.shiftRight_eq_div_pow]
  rfl
theorem zI_shr2 {a : Int} (h1 : 0 ≤ a) (h2 : a < 2147483648) : zI a >>> (zI 2 &&& zI 31) = zI (a / 4) := zI_shr (k := 2) (by decide) h1 h2
theorem zI_and3 {a : Int} (h1 : 0 ≤ a) (h2 : a < 2147483648) : zI a &&& zI 3 = zI (a % 4) := by
  have e : ∀ x y : Nat, Int32.ofNat x &&& Int32.ofNat y = Int32.ofNat (x &&& y) := fun x y => by
    apply Int32.toBitVec_inj.1
    show BitVec.ofNat 32 x &&& BitVec.ofNat 32 y = BitVec.ofNat 32 (x &&& y)
    apply BitVec.eq_of_getLsbD_eq
    intro i hi
    simp [hi]
  have e1 : zI a = Int32.ofNat a.toNat := by rw [zI_nI]; congr 1; omega
  have e2 : zI 3 = Int32.ofNat 3 := rfl
  rw [e1, e2, e, show (a.toNat &&& 3) = a.toNat % 4 from Nat.and_two_pow_sub_one_eq_mod a.toNat 2, zI_nI]
  congr 1; omega
theorem stL_add (A : Ab) (q i : Nat) : ∀ w, stL A q (i + w) = stL A q i ++ stL A (q + i) w := by
  intro w
  induction w with
  | zero => simp [stL]
  | succ w ih =>
    rw [show i + (w + 1) = (i + w) + 1 by omega, stL_succ, ih, stL_succ, List.append_assoc, show q + (i + w) = q + i + w by omega]
theorem stL_own {n S : Nat} {A : Ab} {dep : Nat → Nat} (h : WF n S A dep) {d : Nat} (hd : Lv A d) : stL A d (pgs A d) = [d] := by
  have hp := pgs_pos h hd
  have key : ∀ k, k + 1 ≤ pgs A d → stL A d (k + 1) = [d] := by
    intro k
    induction k with
    | zero => intro _; rw [stL_succ]; simp [stL, hd.2]
    | succ k ih =>
      intro hk
      rw [stL_succ, ih (by omega), if_neg]
      · simp
      · intro z
        have hl : Lv A (d + (k + 1)) := ⟨by have := (WF_WS h).1 d hd; omega, z⟩
        have := h.2.2.2.2.2.2.1 d (d + (k + 1)) hd hl (by omega)
        have := pgs_pos h hl
        omega
  have := key (pgs A d - 1) (by omega)
  rw [show pgs A d - 1 + 1 = pgs A d by omega] at this
  exact this
theorem cov_MI {n S : Nat} {A0 A : Ab} {dep0 dep : Nat → Nat} {t r : Int} {q0 e0 : Nat} (hP : MP n S A0 dep0 t r q0 e0) {pre : List Nat} (hI : MI n S A0 t q0 e0 A dep pre) (hsub : ∀ y, y ∈ pre → y ∈ thr A0 q0 t) (hse : q0 / 32 ≠ e0 / 32) {q : Nat} (hq : q < 192) (hqs : q / 32 = q0 / 32) : cov A q = cov A0 q := by
  have h0 := hP.1
  have hWS := WF_WS hI.1
  have hWS0 := WF_WS h0
  cases hc : cov A0 q with
  | some d =>
    obtain ⟨a1, a2, a3⟩ := cs_some hq hc
    have hd := hI.2.1 d a1
    have hp : pgs A d = pgs A0 d := by unfold pgs; rw [hd.2 0]
    exact cs_of hWS hd.1 a2 (by rw [hp]; exact a3)
  | none =>
    cases hc2 : cov A q with
    | none => rfl
    | some e =>
      exfalso
      obtain ⟨a1, a2, a3⟩ := cs_some hq hc2
      rcases hI.2.2 e a1 with z | ⟨y, y1, y2, y3, -⟩
      · have hp : pgs A e = pgs A0 e := by unfold pgs; rw [(hI.2.1 e z).2 0]
        rw [cs_of hWS0 z a2 (by rw [← hp]; exact a3)] at hc; cases hc
      · have hw := hI.1.2.2.2.1 e a1
        have hS := hI.1.2.1
        have hw4 := hw.2.2.2.1
        obtain ⟨-, ht1, ht2, hq0, hqa, hqS, he, hea, hen, heS, -⟩ := hP
        have hcase := thr_cases h0 ht1 ht2 hq0 hqa hqS (hsub y y1)
        have hoff : moff A0 t q0 y < pg t := by
          have := pg_pos ht1 ht2
          rcases hcase with ⟨c1, -⟩ | ⟨c1, c2, c3, -⟩
          · unfold moff; rw [if_pos c1]; omega
          · have := pgs_pos h0 (thr_mem h0 ht1 ht2 (by omega) (hsub y y1))
            unfold moff; rw [if_neg c1]; omega
        omega
theorem c_map_step {n S : Nat} {A0 A : Ab} {dep0 dep : Nat → Nat} {t r : Int} {sf p st p1 fp : Nat} {δ : Sl} {σ : Nat → Nat} {bn : Nat} {B0 : Nat → Int} (hP : MP n S A0 dep0 t r (32 * sf + p) (32 * st + p1)) (hp32 : p < 32) (hp1 : p1 < 32) (M : Mem) {pre post : List Nat} {x : Nat} (hl : thr A0 (32 * sf + p) t = pre ++ x :: post) (hI : MI n S A0 t (32 * sf + p) (32 * st + p1) A dep pre) (hC : CRep δ σ bn A) (hWB : WB δ (wB A0 t r (32 * sf + p) (32 * st + p1) pre B0)) (hz : la (A0.1 2 x) r ≠ 0)
    (hfp : fp < 32) (hfx : A0.1 1 x + (fp : Int) - ((x % 32 : Nat) : Int) = mfr A0 t (32 * sf + p) x) :
    ∃ δ' σ' bn', Wo_addHeir M δ (zI (σ x : Int)) (zI (fp : Int)) (zI (st : Int)) (zI ((p1 + moff A0 t (32 * sf + p) x : Nat) : Int)) (zI (mo A0 t x - 1)) (zI (la (A0.1 2 x) r)) = some (zI (σ' (32 * st + p1 + moff A0 t (32 * sf + p) x) : Int), δ') ∧ CRep δ' σ' bn' (mstep A0 t r (32 * sf + p) (32 * st + p1) A x) ∧ (∀ y, Lv A y → σ' y = σ y) ∧ (∀ a i, a ≠ 15 → (a < 17 ∨ 32 < a) → δ' a i = δ a i) ∧ δ' 17 19 = δ 17 19 ∧ WB δ' (wB A0 t r (32 * sf + p) (32 * st + p1) (pre ++ [x]) B0) := by
  obtain ⟨hx0, hxl, hok, -⟩ := MI_step hP hl hI
  have hxf := (hI.2.1 x hx0).2
  have hS := hI.1.2.1
  have hd32 := hok.2.2.2.2.2.1
  have hpm := pg_pos hok.2.1 hok.2.2.1
  have hmod : p1 + moff A0 t (32 * sf + p) x < 32 := by
    obtain ⟨h0, ht1, ht2, hq0, hqa, hqS, he, hea, hen, heS, -⟩ := hP
    have hcase := thr_cases h0 ht1 ht2 hq0 hqa hqS (x := x) (by rw [hl]; simp)
    have := pg_pos ht1 ht2
    rcases hcase with ⟨c1, -⟩ | ⟨c1, c2, c3, -⟩
    · unfold moff; rw [if_pos c1]; omega
    · have := pgs_pos h0 hx0
      unfold moff; rw [if_neg c1]; omega
  have hst : st < 6 := by have := hok.1; omega
  obtain ⟨δ', σ', bn', e1, e2, e3, e4, e5, e6⟩ := c_addHeir (s := st) (p := p1 + moff A0 t (32 * sf + p) x) (g := x) (fp := fp) (o := mo A0 t x) (r := la (A0.1 2 x) r) hI.1 hC hWB M hst hmod (by rw [hxf 1, hfx, ← Nat.add_assoc]; exact hok) hfp
  rw [hxf 1, hfx, ← Nat.add_assoc] at e2
  rw [← Nat.add_assoc] at e1 e6
  refine ⟨δ', σ', bn', e1, by unfold mstep; rw [if_neg hz]; exact e2, e3, e4, e5, e6 _ (fun k h1 h2 => by rw [wB_snoc, if_neg hz])⟩
theorem c_map_loop {n S : Nat} {A0 : Ab} {dep0 : Nat → Nat} {t r : Int} {sf p st p1 : Nat} {B0 : Nat → Int} (hP : MP n S A0 dep0 t r (32 * sf + p) (32 * st + p1)) (hp32 : p < 32) (hp1 : p1 < 32) (hsf : sf ≠ st) (M : Mem) (hsm : ∀ d, cov A0 (32 * sf + p) = some d → ¬ t < A0.1 0 d) : ∀ (m k i : Nat) (δ : Sl) (σ : Nat → Nat) (bn : Nat) (dep : Nat → Nat), pg t ≤ i + m → m < k → i ≤ pg t → (∀ d, i < pg t → cov A0 (32 * sf + p + i) = some d → d = 32 * sf + p + i) → MI n S A0 t (32 * sf + p) (32 * st + p1) (aMap A0 t r (32 * sf + p) (32 * st + p1) (stL A0 (32 * sf + p) i)) dep (stL A0 (32 * sf + p) i) → CRep δ σ bn (aMap A0 t r (32 * sf + p) (32 * st + p1) (stL A0 (32 * sf + p) i)) → WB δ (wB A0 t r (32 * sf + p) (32 * st + p1) (stL A0 (32 * sf + p) i) B0) →
    ∃ δ' σ' bn', Wo_makeHeirs_22 M k (zI (sf : Int)) (zI (4 * (p : Int) + (t - 1))) (zI (st : Int)) (zI (p1 : Int)) (zI r) (zI (nMap A0 r (stL A0 (32 * sf + p) i) : Int)) (zI (p : Int)) (zI ((p + pg t : Nat) : Int)) (zI ((p + i : Nat) : Int)) δ = some (zI (nMap A0 r (stL A0 (32 * sf + p) (pg t)) : Int), δ') ∧ CRep δ' σ' bn' (aMap A0 t r (32 * sf + p) (32 * st + p1) (stL A0 (32 * sf + p) (pg t))) ∧ (∀ y, Lv A0 y → σ' y = σ y) ∧ (∀ a i, a ≠ 15 → (a < 17 ∨ 32 < a) → δ' a i = δ a i) ∧ δ' 17 19 = δ 17 19 ∧ WB δ' (wB A0 t r (32 * sf + p) (32 * st + p1) (stL A0 (32 * sf + p) (pg t)) B0) := by
  have hP' := hP
  obtain ⟨h0, ht1, ht2, hq, hqa, hqS, he, hea, hen, heS, hfree, hr1, hr2⟩ := hP'
  have hS32 := h0.2.1
  have hn6 := h0.1
  have hpt := pg_pos ht1 ht2
  have hWS0 := WF_WS h0
  have hthr : thr A0 (32 * sf + p) t = stL A0 (32 * sf + p) (pg t) := by
    unfold thr
    cases hc : cov A0 (32 * sf + p) with
    | none => rfl
    | some d => dsimp only; rw [if_neg (hsm d hc)]
  intro m
  induction m with
  | zero =>
    intro k i δ σ bn dep hm hk hi hbd hI hC hW
    obtain ⟨c, rfl⟩ : ∃ c, k = c + 1 := ⟨k - 1, by omega⟩
    have : i = pg t := by omega
    subst this
    refine ⟨δ, σ, bn, ?_, hC, fun _ _ => rfl, fun _ _ _ _ => rfl, rfl, hW⟩
    rw [Wo_makeHeirs_22]
    simp (disch := omega) only [zI_le, if_pos]
  | succ m ih =>
    intro k i δ σ bn dep hm hk hi hbd hI hC hW
    obtain ⟨c, rfl⟩ : ∃ c, k = c + 1 := ⟨k - 1, by omega⟩
    by_cases hlt : i = pg t
    · subst hlt
      refine ⟨δ, σ, bn, ?_, hC, fun _ _ => rfl, fun _ _ _ _ => rfl, rfl, hW⟩
      rw [Wo_makeHeirs_22]
      simp (disch := omega) only [zI_le, if_pos]
    · have hi2 : i < pg t := by omega
      have hsub : ∀ y, y ∈ stL A0 (32 * sf + p) i → y ∈ thr A0 (32 * sf + p) t := fun y hy => by
        rw [hthr, stL_mem]; have := stL_mem.mp hy; omega
      have hcv := cov_MI hP hI hsub (by omega) (q := 32 * sf + p + i) (by omega) (by omega)
      have hf := cr_find hC.2.1 (s := (sf : Int)) (p := ((p + i : Nat) : Int)) (by omega) (by omega) (by omega) (by omega)
      rw [show (32 * (sf : Int) + ((p + i : Nat) : Int)).toNat = 32 * sf + p + i by omega, hcv] at hf
      rw [Wo_makeHeirs_22, if_neg (by rw [zI_le (by omega) (by omega) (by omega) (by omega)]; omega), hf, bp_some, bnd_ap]
      cases hc : cov A0 (32 * sf + p + i) with
      | none =>
        have hnl : ¬ 0 < A0.1 0 (32 * sf + p + i) := fun z => by
          rw [cs_self hWS0 (d := 32 * sf + p + i) ⟨by omega, z⟩] at hc; cases hc
        have hst1 : stL A0 (32 * sf + p) (i + 1) = stL A0 (32 * sf + p) i := by rw [stL_succ, if_neg hnl]; simp
        obtain ⟨δ', σ', bn', f⟩ := ih c (i + 1) δ σ bn dep (by omega) (by omega) (by omega) (fun d hd1 hd2 => by
          obtain ⟨a1, a2, a3⟩ := cs_some (by omega) hd2
          by_cases z : d ≤ 32 * sf + p + i
          · rw [cs_of hWS0 a1 z (by omega)] at hc; cases hc
          · omega) (by rw [hst1]; exact hI) (by rw [hst1]; exact hC) (by rw [hst1]; exact hW)
        refine ⟨δ', σ', bn', ?_, f.2⟩
        rw [if_neg (show ¬ 0 ≤ zI (sc σ none) by show ¬ 0 ≤ zI (-1); rw [zI_lit, zI_le (by omega) (by omega) (by omega) (by omega)]; decide)]
        rw [← f.1, hst1]
        rw [zI_lit, zI_add]; rfl
      | some d =>
        have hdq := hbd d hi2 hc
        obtain ⟨a1, a2, a3⟩ := cs_some (by omega) hc
        have hd0 := a1
        subst hdq
        have hst2 : stL A0 (32 * sf + p) (i + pgs A0 (32 * sf + p + i)) = stL A0 (32 * sf + p) i ++ [32 * sf + p + i] := by rw [stL_add, stL_own h0 hd0]
        have hmemd : (32 * sf + p + i) ∈ thr A0 (32 * sf + p) t := by rw [hthr, stL_mem]; exact ⟨by omega, by omega, hd0.2⟩
        have hcase := thr_cases h0 ht1 ht2 hq hqa hqS hmemd
        have hsmall : ¬ t < A0.1 0 (32 * sf + p + i) ∧ i + pgs A0 (32 * sf + p + i) ≤ pg t := by
          rcases hcase with ⟨c1, c2, c3, c4⟩ | ⟨c1, c2, c3, c4⟩
          · have : i = 0 := by omega
            subst this
            exact absurd c1 (hsm _ (by rw [show 32 * sf + p + 0 = 32 * sf + p by omega] at hc; exact hc))
          · exact ⟨c1, by omega⟩
        have hpd := pgs_pos h0 hd0
        obtain ⟨rest, hrest⟩ : ∃ rest, thr A0 (32 * sf + p) t = stL A0 (32 * sf + p) i ++ (32 * sf + p + i) :: rest := by
          refine ⟨stL A0 (32 * sf + p + (i + pgs A0 (32 * sf + p + i))) (pg t - (i + pgs A0 (32 * sf + p + i))), ?_⟩
          have := stL_add A0 (32 * sf + p) (i + pgs A0 (32 * sf + p + i)) (pg t - (i + pgs A0 (32 * sf + p + i)))
          rw [show i + pgs A0 (32 * sf + p + i) + (pg t - (i + pgs A0 (32 * sf + p + i))) = pg t by omega, hst2] at this
          rw [hthr, this]; simp
        obtain ⟨hx0, hxl, hok, dep', hI'⟩ := MI_step hP hrest hI
        have hxf := (hI.2.1 _ hx0).2
        obtain ⟨w1, w2, w3, w4, w5, w6, w7, w8, w9, w10, w11⟩ := h0.2.2.2.1 _ hx0
        have hx02 := hx0.2
        have hand := zI_and7 w8 w9 hr1 hr2
        have b1 := cr_lt hC hxl
        obtain ⟨c1, c2, c3, c4, c5, -⟩ := hC.2.2.1 _ hxl
        rw [hxf 0] at c4
        rw [hxf 2] at c5
        have hem : mo A0 t (32 * sf + p + i) = A0.1 0 (32 * sf + p + i) := if_neg hsmall.1
        have heo : moff A0 t (32 * sf + p) (32 * sf + p + i) = i := by unfold moff; rw [if_neg hsmall.1]; omega
        have h3 : zI (4 * (p : Int) + (t - 1)) &&& zI 3 = zI (t - 1) := by rw [zI_and3 (by omega) (by omega)]; congr 1; omega
        have hbd' : ∀ d, i + pgs A0 (32 * sf + p + i) < pg t → cov A0 (32 * sf + p + (i + pgs A0 (32 * sf + p + i))) = some d → d = 32 * sf + p + (i + pgs A0 (32 * sf + p + i)) := fun d hd1 hd2 => by
          obtain ⟨z1, z2, z3⟩ := cs_some (by omega) hd2
          by_cases z : d = 32 * sf + p + i
          · subst z; omega
          · have := h0.2.2.2.2.2.2.1 (32 * sf + p + i) d hx0 z1 (Ne.symm z); omega
        have hpl : (zI ((p + i : Nat) : Int)) + zI (pgs A0 (32 * sf + p + i) : Int) = zI ((p + (i + pgs A0 (32 * sf + p + i)) : Nat) : Int) := by rw [zI_add]; congr 1; omega
        have hnm := nMap_snoc A0 r (stL A0 (32 * sf + p) i) (32 * sf + p + i)
        have hpgs : (pg (A0.1 0 (32 * sf + p + i)) : Int) = (pgs A0 (32 * sf + p + i) : Int) := rfl
        simp (disch := omega) only [sc, zI_lit, zI_le, if_pos, zI_inb, zI_ix, Int.toNat_natCast, c4, c5, h3, zI_lt, if_neg, hand.1]
        by_cases hz : la (A0.1 2 (32 * sf + p + i)) r = 0
        · have hA : aMap A0 t r (32 * sf + p) (32 * st + p1) (stL A0 (32 * sf + p) (i + pgs A0 (32 * sf + p + i))) = aMap A0 t r (32 * sf + p) (32 * st + p1) (stL A0 (32 * sf + p) i) := by rw [hst2, aMap_snoc]; unfold mstep; rw [if_pos hz]
          obtain ⟨δ', σ', bn', f1, f2⟩ := ih c (i + pgs A0 (32 * sf + p + i)) δ σ bn dep' (by omega) (by omega) hsmall.2 hbd' (by rw [hst2, aMap_snoc]; exact hI') (by rw [hA]; exact hC) (fun s' hs' => by rw [hst2, hW s' hs', wB_snoc, wB_snoc, wB_snoc, wB_snoc, if_pos hz, if_pos hz, if_pos hz, if_pos hz])
          refine ⟨δ', σ', bn', ?_, f2⟩
          rw [hz, bnd_ap, bnd_ap, if_pos rfl, ← f1, hst2, hnm, if_pos hz]
          unfold Wo_makeHeirs_115
          simp (disch := omega) only [bnd_ap, zI_lit, zI_pg, hpgs, hpl]
          rfl
        · have hfx : A0.1 1 (32 * sf + p + i) + ((p + i : Nat) : Int) - (((32 * sf + p + i) % 32 : Nat) : Int) = mfr A0 t (32 * sf + p) (32 * sf + p + i) := by
            unfold mfr; rw [if_neg hsmall.1]; omega
          obtain ⟨δ1, σ1, bn1, e1, e2, e3, e4, e5, e6⟩ := c_map_step (fp := p + i) hP hp32 hp1 M hrest hI hC hW hz (by omega) hfx
          rw [hem, heo] at e1
          rw [← hst2] at e6
          obtain ⟨δ', σ', bn', f1, f2, f3, f4, f5, f6⟩ := ih c (i + pgs A0 (32 * sf + p + i)) δ1 σ1 bn1 dep' (by omega) (by omega) hsmall.2 hbd' (by rw [hst2, aMap_snoc]; exact hI') (by rw [hst2, aMap_snoc]; exact e2) e6
          refine ⟨δ', σ', bn', ?_, f2, fun y hy => by rw [f3 y hy, e3 y (hI.2.1 y hy).1], fun a j h1 h2 => by rw [f4 a j h1 h2, e4 a j h1 h2], by rw [f5, e5], f6⟩
          have hat : (p1 : Int) + ((p + i : Nat) : Int) - (p : Int) = ((p1 + i : Nat) : Int) := by omega
          simp (disch := omega) only [zI_eq, if_neg, zI_add, zI_sub, hat, e1, bd_some, bnd_ap]
          rw [← f1, hst2, hnm, if_neg hz]
          unfold Wo_makeHeirs_115
          simp (disch := omega) only [bnd_ap, zI_lit, zI_pg, hpgs, hpl]
          rfl
