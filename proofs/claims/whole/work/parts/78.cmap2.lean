theorem c_big_end (M : Mem) (c : Nat) {p : Nat} {t : Int} (hp : p < 32) (ht1 : 1 ≤ t) (ht2 : t ≤ 4) (a b e f g v : Int32) (s : Sl) : Wo_makeHeirs_115 (Wo_makeHeirs_22 M (c + 1)) M a b e f g v (zI (p : Int)) (zI ((p + pg t : Nat) : Int)) (zI (p : Int)) (zI (t - 1)) s = some (v, s) := by
  have hpt := pg_pos ht1 ht2
  unfold Wo_makeHeirs_115
  simp (disch := omega) only [bnd_ap, zI_lit, zI_pg, zI_add]
  rw [Wo_makeHeirs_22, if_pos (by rw [zI_le (by omega) (by omega) (by omega) (by omega)]; omega)]
theorem c_big_step (M : Mem) (c : Nat) {p k : Nat} {t o ri r : Int} (hp : p < 32) (ht1 : 1 ≤ t) (ht2 : t ≤ 4) (hto : t < o) (ho : o ≤ 4) (a b e f v : Int32) (s : Sl) (h3 : b &&& zI 3 = zI (t - 1)) (hk : k < 192) (hf : De_find s a (zI (p : Int)) = some (zI (k : Int))) (c4 : s 21 k = zI (o - 1)) (c5 : s 22 k = zI ri) (hand : zI ri &&& zI r = zI (la ri r)) (hl1 : 0 ≤ la ri r) (hl2 : la ri r ≤ 7) :
    Wo_makeHeirs_22 M (c + 1 + 1) a b e f (zI r) v (zI (p : Int)) (zI ((p + pg t : Nat) : Int)) (zI (p : Int)) s = if la ri r = 0 then some (v, s) else (bd (Wo_addHeir M s (zI (k : Int)) (zI (p : Int)) e ((f + zI (p : Int)) - zI (p : Int)) (zI (t - 1)) (zI (la ri r))) fun _ d7 => some (v + zI 1, d7)) := by
  have hpt := pg_pos ht1 ht2
  have hlt2 : zI (t - 1) < zI (o - 1) := by rw [zI_lt (by omega) (by omega) (by omega) (by omega)]; omega
  rw [Wo_makeHeirs_22, if_neg (by rw [zI_le (by omega) (by omega) (by omega) (by omega)]; omega), hf, bp_some, bnd_ap]
  simp (disch := omega) only [zI_lit, zI_le, if_pos, zI_inb, zI_ix, Int.toNat_natCast, c4, c5, hand]
  rw [h3, if_pos hlt2, bnd_ap, bnd_ap]
  by_cases hz : la ri r = 0
  · rw [if_pos hz, hz, if_pos rfl, c_big_end M c hp ht1 ht2]
  · rw [if_neg hz, if_neg (by rw [zI_eq (by omega) (by omega) (by omega) (by omega)]; exact hz)]
    congr 1
    funext _ d7
    rw [bnd_ap, c_big_end M c hp ht1 ht2]
theorem c_makeHeirs_k {n S : Nat} {A0 : Ab} {dep0 : Nat → Nat} {t r : Int} {sf p st p1 : Nat} {B0 : Nat → Int} {δ : Sl} {σ : Nat → Nat} {bn : Nat} (hP : MP n S A0 dep0 t r (32 * sf + p) (32 * st + p1)) (hp32 : p < 32) (hp1 : p1 < 32) (hsf : sf ≠ st) (M : Mem) (hC : CRep δ σ bn A0) (hW : WB δ B0) (k : Nat) (hk : pg t < k) :
    ∃ δ' σ' bn', Wo_makeHeirs_22 M k (zI (sf : Int)) (zI (4 * (p : Int) + (t - 1))) (zI (st : Int)) (zI (p1 : Int)) (zI r) (zI 0) (zI (p : Int)) (zI ((p + pg t : Nat) : Int)) (zI (p : Int)) δ = some (zI (nMap A0 r (thr A0 (32 * sf + p) t) : Int), δ') ∧ CRep δ' σ' bn' (aMap A0 t r (32 * sf + p) (32 * st + p1) (thr A0 (32 * sf + p) t)) ∧ (∀ y, Lv A0 y → σ' y = σ y) ∧ (∀ a i, a ≠ 15 → (a < 17 ∨ 32 < a) → δ' a i = δ a i) ∧ δ' 17 19 = δ 17 19 ∧ WB δ' (wB A0 t r (32 * sf + p) (32 * st + p1) (thr A0 (32 * sf + p) t) B0) := by
  have hP' := hP
  obtain ⟨h0, ht1, ht2, hq, hqa, hqS, he, hea, hen, heS, hfree, hr1, hr2⟩ := hP'
  have hS32 := h0.2.1
  have hn6 := h0.1
  have hpt := pg_pos ht1 ht2
  have hWS0 := WF_WS h0
  have h3 : zI (4 * (p : Int) + (t - 1)) &&& zI 3 = zI (t - 1) := by rw [zI_and3 (by omega) (by omega)]; congr 1; omega
  have h2 : zI (4 * (p : Int) + (t - 1)) >>> (zI 2 &&& zI 31) = zI (p : Int) := by rw [zI_shr2 (by omega) (by omega)]; congr 1; omega
  by_cases hsm : ∀ d, cov A0 (32 * sf + p) = some d → ¬ t < A0.1 0 d
  · have hthr : thr A0 (32 * sf + p) t = stL A0 (32 * sf + p) (pg t) := by
      unfold thr
      cases hc : cov A0 (32 * sf + p) with
      | none => rfl
      | some d => dsimp only; rw [if_neg (hsm d hc)]
    have e0 : stL A0 (32 * sf + p) 0 = [] := rfl
    obtain ⟨δ', σ', bn', f⟩ := c_map_loop (B0 := B0) hP hp32 hp1 hsf M hsm (pg t) k 0 δ σ bn dep0 (by omega) hk (by omega) (fun d _ hd => (big_cov h0 ht1 ht2 (by omega) hqa hd).2 (hsm d hd)) (by rw [e0]; exact MI_start hP) (by rw [e0]; exact hC) (by rw [e0, wB_nil]; exact hW)
    rw [← hthr] at f
    exact ⟨δ', σ', bn', f⟩
  · have hsm' : ∃ d, cov A0 (32 * sf + p) = some d ∧ t < A0.1 0 d := by
      refine Classical.byContradiction fun hn => hsm fun d hd hlt => hn ⟨d, hd, hlt⟩
    obtain ⟨d, hc, hlt⟩ := hsm'
    have hthr : thr A0 (32 * sf + p) t = [] ++ [d] := by unfold thr; rw [hc]; dsimp only; rw [if_pos hlt]; rfl
    obtain ⟨a1, a2, a3⟩ := cs_some (by omega) hc
    have hI := MI_start hP
    obtain ⟨hx0, hxl, hok, dep', hI'⟩ := MI_step (post := []) hP hthr hI
    obtain ⟨w1, w2, w3, w4, w5, w6, w7, w8, w9, w10, w11⟩ := h0.2.2.2.1 d hx0
    have hand := zI_and7 w8 w9 hr1 hr2
    have b1 := cr_lt hC hx0
    obtain ⟨c1, c2, c3, c4, c5, -⟩ := hC.2.2.1 d hx0
    have hem : mo A0 t d = t := if_pos hlt
    have heo : moff A0 t (32 * sf + p) d = 0 := if_pos hlt
    have hf := cr_find hC.2.1 (s := (sf : Int)) (p := (p : Int)) (by omega) (by omega) (by omega) (by omega)
    rw [show (32 * (sf : Int) + (p : Int)).toNat = 32 * sf + p by omega, hc] at hf
    have hnm := nMap_snoc A0 r [] d
    have hn0 : nMap A0 r [] = 0 := rfl
    obtain ⟨c, rfl⟩ : ∃ c, k = (c + 1) + 1 := ⟨k - 2, by omega⟩
    have hd32 : d / 32 = sf := by have := w4; omega
    rw [c_big_step M c hp32 ht1 ht2 hlt (by omega) _ _ _ _ _ δ h3 b1 hf c4 c5 hand.1 hand.2.1 hand.2.2]
    rw [hthr, hnm, hn0]
    by_cases hz : la (A0.1 2 d) r = 0
    · rw [if_pos hz, if_pos hz]
      have hA : aMap A0 t r (32 * sf + p) (32 * st + p1) ([] ++ [d]) = A0 := by rw [aMap_snoc]; unfold mstep; rw [if_pos hz]; rfl
      rw [hA]
      exact ⟨δ, σ, bn, rfl, hC, fun _ _ => rfl, fun _ _ _ _ => rfl, rfl, fun s' hs' => by rw [hW s' hs', wB_snoc, wB_snoc, wB_snoc, wB_snoc, if_pos hz, if_pos hz, if_pos hz, if_pos hz, wB_nil]⟩
    · have hfx : A0.1 1 d + (p : Int) - ((d % 32 : Nat) : Int) = mfr A0 t (32 * sf + p) d := by
        unfold mfr; rw [if_pos hlt]; omega
      obtain ⟨δ1, σ1, bn1, e1, e2, e3, e4, e5, e6⟩ := c_map_step (fp := p) (B0 := B0) hP hp32 hp1 M hthr hI hC (by rw [wB_nil]; exact hW) hz hp32 hfx
      rw [hem, heo] at e1
      have hat : zI (p1 : Int) + zI (p : Int) - zI (p : Int) = zI ((p1 + 0 : Nat) : Int) := by rw [zI_add, zI_sub]; congr 1; omega
      rw [if_neg hz, if_neg hz, hat, e1, bd_some, zI_add]
      exact ⟨δ1, σ1, bn1, rfl, by rw [aMap_snoc]; exact e2, e3, e4, e5, e6⟩
theorem c_makeHeirs {n S : Nat} {A0 : Ab} {dep0 : Nat → Nat} {t r : Int} {sf p st p1 : Nat} {B0 : Nat → Int} {δ : Sl} {σ : Nat → Nat} {bn : Nat} (hP : MP n S A0 dep0 t r (32 * sf + p) (32 * st + p1)) (hp32 : p < 32) (hp1 : p1 < 32) (hsf : sf ≠ st) (M : Mem) (hC : CRep δ σ bn A0) (hW : WB δ B0) :
    ∃ δ' σ' bn', Wo_makeHeirs M δ (zI (sf : Int)) (zI (4 * (p : Int) + (t - 1))) (zI (st : Int)) (zI (p1 : Int)) (zI r) = some (zI (nMap A0 r (thr A0 (32 * sf + p) t) : Int), δ') ∧ CRep δ' σ' bn' (aMap A0 t r (32 * sf + p) (32 * st + p1) (thr A0 (32 * sf + p) t)) ∧ (∀ y, Lv A0 y → σ' y = σ y) ∧ (∀ a i, a ≠ 15 → (a < 17 ∨ 32 < a) → δ' a i = δ a i) ∧ δ' 17 19 = δ 17 19 ∧ WB δ' (wB A0 t r (32 * sf + p) (32 * st + p1) (thr A0 (32 * sf + p) t) B0) := by
  have hP' := hP
  obtain ⟨h0, ht1, ht2, hq, hqa, hqS, he, hea, hen, heS, hfree, hr1, hr2⟩ := hP'
  have hS32 := h0.2.1
  have hn6 := h0.1
  have hpt := pg_pos ht1 ht2
  have hWS0 := WF_WS h0
  have h3 : zI (4 * (p : Int) + (t - 1)) &&& zI 3 = zI (t - 1) := by rw [zI_and3 (by omega) (by omega)]; congr 1; omega
  have h2 : zI (4 * (p : Int) + (t - 1)) >>> (zI 2 &&& zI 31) = zI (p : Int) := by rw [zI_shr2 (by omega) (by omega)]; congr 1; omega
  have hpp := pg_pos ht1 ht2
  obtain ⟨δ', σ', bn', f, g⟩ := c_makeHeirs_k hP hp32 hp1 hsf M hC hW FU (FU_gt (by omega))
  refine ⟨δ', σ', bn', ?_, g⟩
  rw [← f]
  unfold Wo_makeHeirs
  simp (disch := omega) only [bnd_ap, zI_lit, h2, h3, zI_pg, zI_add]
  rw [show (p : Int) + (pg t : Int) = ((p + pg t : Nat) : Int) by omega]
/-! pages with a right -/
def pW (A : Ab) (r : Int) (q k : Nat) : Bool := match cov A (q + k) with
  | some d => decide (la (A.1 2 d) r ≠ 0)
  | none => false
def sW (A : Ab) (t r : Int) (l : List Nat) : Nat := ((l.filter (fun x => decide (la (A.1 2 x) r ≠ 0))).map (fun x => pg (mo A t x))).sum
theorem sW_snoc (A : Ab) (t r : Int) (l : List Nat) (x : Nat) : sW A t r (l ++ [x]) = sW A t r l + (if la (A.1 2 x) r = 0 then 0 else pg (mo A t x)) := by
  unfold sW
  by_cases h : la (A.1 2 x) r = 0
  · simp [h]
  · simp [h]
theorem pW_run {n S : Nat} {A : Ab} {dep : Nat → Nat} (h : WF n S A dep) (r : Int) {q d i : Nat} (hd : Lv A d) (h1 : d ≤ q + i) : ∀ w, q + i + w ≤ d + pgs A d → fb_ct (pW A r q) (i + w) = fb_ct (pW A r q) i + (if la (A.1 2 d) r = 0 then 0 else w) := by
  intro w
  induction w with
  | zero => intro _; simp
  | succ w ih =>
    intro hw
    have e : fb_ct (pW A r q) (i + (w + 1)) = fb_ct (pW A r q) (i + w) + (if pW A r q (i + w) then 1 else 0) := rfl
    have hc : cov A (q + (i + w)) = some d := cs_of (WF_WS h) hd (by omega) (by omega)
    have hp : pW A r q (i + w) = decide (la (A.1 2 d) r ≠ 0) := by unfold pW; rw [hc]
    rw [e, ih (by omega), hp]
    by_cases hz : la (A.1 2 d) r = 0
    · simp [hz]
    · simp [hz]; omega
theorem pW_sum {n S : Nat} {A : Ab} {dep : Nat → Nat} (h : WF n S A dep) {q : Nat} {t : Int} (r : Int) (ht1 : 1 ≤ t) (ht2 : t ≤ 4) (hq : q < 192) (hal : q % pg t = 0) (hS : q % 32 + pg t ≤ S) : fb_ct (pW A r q) (pg t) = sW A t r (thr A q t) := by
  have hWS := WF_WS h
  have hpt := pg_pos ht1 ht2
  have hS32 := h.2.1
  by_cases hsm : ∀ d, cov A q = some d → ¬ t < A.1 0 d
  · have hthr : thr A q t = stL A q (pg t) := by
      unfold thr
      cases hc : cov A q with
      | none => rfl
      | some d => dsimp only; rw [if_neg (hsm d hc)]
    have key : ∀ (m i : Nat), pg t ≤ i + m → i ≤ pg t → (∀ d, i < pg t → cov A (q + i) = some d → d = q + i) → fb_ct (pW A r q) i = sW A t r (stL A q i) → fb_ct (pW A r q) (pg t) = sW A t r (stL A q (pg t)) := by
      intro m
      induction m with
      | zero => intro i h1 h2 _ he; have : i = pg t := by omega
                subst this; exact he
      | succ m ih =>
        intro i h1 h2 hbd he
        by_cases hlt : i = pg t
        · subst hlt; exact he
        · cases hc : cov A (q + i) with
          | none =>
            have hnl : ¬ 0 < A.1 0 (q + i) := fun z => by
              rw [cs_self hWS (d := q + i) ⟨by omega, z⟩] at hc; cases hc
            refine ih (i + 1) (by omega) (by omega) (fun d hd1 hd2 => ?_) ?_
            · obtain ⟨a1, a2, a3⟩ := cs_some (by omega) hd2
              by_cases z : d ≤ q + i
              · rw [cs_of hWS a1 z (by omega)] at hc; cases hc
              · omega
            · have e : fb_ct (pW A r q) (i + 1) = fb_ct (pW A r q) i + (if pW A r q i then 1 else 0) := rfl
              have hp : pW A r q i = false := by unfold pW; rw [hc]
              rw [e, hp, stL_succ, if_neg hnl, he]; simp
          | some d =>
            have hdq := hbd d (by omega) hc
            subst hdq
            have hd0 := (cs_some (by omega) hc).1
            have hmemd : (q + i) ∈ thr A q t := by rw [hthr, stL_mem]; exact ⟨by omega, by omega, hd0.2⟩
            have hpd := pgs_pos h hd0
            have hsmall : ¬ t < A.1 0 (q + i) ∧ i + pgs A (q + i) ≤ pg t := by
              rcases thr_cases h ht1 ht2 hq hal hS hmemd with ⟨c1, c2, c3, c4⟩ | ⟨c1, c2, c3, c4⟩
              · have : i = 0 := by omega
                subst this
                exact absurd c1 (hsm _ (by rw [show q + 0 = q by omega] at hc; exact hc))
              · exact ⟨c1, by omega⟩
            refine ih (i + pgs A (q + i)) (by omega) hsmall.2 (fun d hd1 hd2 => ?_) ?_
            · obtain ⟨z1, z2, z3⟩ := cs_some (by omega) hd2
              by_cases z : d = q + i
              · subst z; omega
              · have := h.2.2.2.2.2.2.1 (q + i) d hd0 z1 (Ne.symm z); omega
            · rw [pW_run h r hd0 (Nat.le_refl _) (pgs A (q + i)) (Nat.le_refl _), stL_add, stL_own h hd0, sW_snoc, he]
              have : pg (mo A t (q + i)) = pgs A (q + i) := by unfold mo pgs; rw [if_neg hsmall.1]
              rw [this]
    rw [hthr]
    exact key (pg t) 0 (by omega) (by omega) (fun d _ hd => (big_cov h ht1 ht2 hq hal hd).2 (hsm d hd)) rfl
  · have hsm' : ∃ d, cov A q = some d ∧ t < A.1 0 d := by
      refine Classical.byContradiction fun hn => hsm fun d hd hlt => hn ⟨d, hd, hlt⟩
    obtain ⟨d, hc, hlt⟩ := hsm'
    have hthr : thr A q t = [] ++ [d] := by unfold thr; rw [hc]; dsimp only; rw [if_pos hlt]; rfl
    obtain ⟨a1, a2, a3⟩ := cs_some hq hc
    have hb := (big_cov h ht1 ht2 hq hal hc).1 hlt
    have := pW_run h r (q := q) (i := 0) a1 (by omega) (pg t) (by omega)
    rw [Nat.zero_add] at this
    rw [this, hthr, sW_snoc]
    have : mo A t d = t := if_pos hlt
    rw [this]; rfl
theorem c_pagesWith {n S : Nat} {A : Ab} {dep : Nat → Nat} {δ : Sl} {σ : Nat → Nat} {bn : Nat} (h : WF n S A dep) (hC : CRep δ σ bn A) (M : Mem) {s p : Nat} {t r : Int} (hs : s < 6) (ht1 : 1 ≤ t) (ht2 : t ≤ 4) (hp : p + pg t ≤ 32) (hr1 : 0 ≤ r) (hr2 : r ≤ 7) : Wo_pagesWith M δ (zI (s : Int)) (zI (p : Int)) (zI (t - 1)) (zI r) = some (zI (fb_ct (pW A r (32 * s + p)) (pg t) : Int)) := by
  have hpt := pg_pos ht1 ht2
  have hle : ∀ i, fb_ct (pW A r (32 * s + p)) i ≤ i := fun i => fb_ct_le _ i
  have key : ∀ (m k i : Nat), i + m = pg t → m < k → Wo_pagesWith_13 M δ k (zI (s : Int)) (zI r) (zI (fb_ct (pW A r (32 * s + p)) i : Int)) (zI ((p + pg t : Nat) : Int)) (zI ((p + i : Nat) : Int)) = some (zI (fb_ct (pW A r (32 * s + p)) (pg t) : Int)) := by
    intro m
    induction m with
    | zero =>
      intro k i hm hk
      obtain ⟨c, rfl⟩ : ∃ c, k = c + 1 := ⟨k - 1, by omega⟩
      have : i = pg t := by omega
      subst this
      rw [Wo_pagesWith_13, if_pos (by rw [zI_le (by omega) (by omega) (by omega) (by omega)]; omega)]
    | succ m ih =>
      intro k i hm hk
      obtain ⟨c, rfl⟩ : ∃ c, k = c + 1 := ⟨k - 1, by omega⟩
      have hrec := ih c (i + 1) (by omega) (by omega)
      have hf := cr_find hC.2.1 (s := (s : Int)) (p := ((p + i : Nat) : Int)) (by omega) (by omega) (by omega) (by omega)
      rw [show (32 * (s : Int) + ((p + i : Nat) : Int)).toNat = 32 * s + p + i by omega] at hf
      have e : fb_ct (pW A r (32 * s + p)) (i + 1) = fb_ct (pW A r (32 * s + p)) i + (if pW A r (32 * s + p) i then 1 else 0) := rfl
      have hl := hle i
      have h56 : ∀ v : Nat, Wo_pagesWith_56 (Wo_pagesWith_13 M δ c) M δ (zI (s : Int)) (zI r) (zI (v : Int)) (zI ((p + pg t : Nat) : Int)) (zI ((p + i : Nat) : Int)) = Wo_pagesWith_13 M δ c (zI (s : Int)) (zI r) (zI (v : Int)) (zI ((p + pg t : Nat) : Int)) (zI ((p + (i + 1) : Nat) : Int)) := fun v => by
        unfold Wo_pagesWith_56; rw [bnd_ap, zI_lit, zI_add]; rfl
      rw [Wo_pagesWith_13, if_neg (by rw [zI_le (by omega) (by omega) (by omega) (by omega)]; omega), hf, bp_some, bnd_ap]
      cases hc : cov A (32 * s + p + i) with
      | none =>
        have hp0 : pW A r (32 * s + p) i = false := by unfold pW; rw [hc]
        rw [if_pos (show zI (sc σ none) < 0 by show zI (-1) < 0; rw [zI_lit, zI_lt (by omega) (by omega) (by omega) (by omega)]; decide), h56, ← hrec, e, hp0]; simp
      | some d =>
        have hd := (cs_some (by omega) hc).1
        have b1 := cr_lt hC hd
        have c5 := (hC.2.2.1 d hd).2.2.2.2.1
        obtain ⟨w1, w2, w3, w4, w5, w6, w7, w8, w9, -⟩ := h.2.2.2.1 d hd
        have hand := zI_and7 w8 w9 hr1 hr2
        have hp0 : pW A r (32 * s + p) i = decide (la (A.1 2 d) r ≠ 0) := by unfold pW; rw [hc]
        simp (disch := omega) only [sc, zI_lit, zI_lt, if_neg, zI_inb, if_pos, zI_ix, Int.toNat_natCast, c5, hand.1]
        by_cases hz : la (A.1 2 d) r = 0
        · rw [hz, if_pos rfl, h56, ← hrec, e, hp0]; simp [hz]
        · rw [if_neg (by rw [zI_eq (by omega) (by omega) (by omega) (by omega)]; exact hz), bnd_ap, zI_add, show (fb_ct (pW A r (32 * s + p)) i : Int) + 1 = ((fb_ct (pW A r (32 * s + p)) i + 1 : Nat) : Int) by omega, h56, ← hrec, e, hp0]; simp [hz]
  have := key (pg t) FU 0 (by omega) (FU_gt (by omega))
  unfold Wo_pagesWith
  simp (disch := omega) only [bnd_ap, zI_lit, zI_pg, zI_add]
  exact this
