/-! ===== flush: the theorem ===== -/
theorem flush_go {n S : Nat} {A : Ab} {dep : Nat → Nat} {δ : Sl} {σ : Nat → Nat} {bn : Nat} {M : Mem} {μ : Sl} {b : Nat} {B : Nat → Int} {qv : Nat → Int} {J : List Jb} {N : Int} (hR : RC n S δ σ bn B A dep J N) (hb : MB μ b) (hN : N + 1 < 2147483648) (hn : SN n S qv) {sf p : Nat} {t r : Int} (hh : FN n S sf p t r) (a4 : Int32) (htd : ∀ x, x ∈ thr A (32 * sf + p) t → td A x = false) (hrt : a4 ≠ 0 → ∀ x, x ∈ thr A (32 * sf + p) t → A.1 3 x ≠ 0) (h6 : J.length < 6) :
    FOut n S δ μ b B N (Wo_startFlush_75 M (zI (sf : Int)) (zI (4 * (p : Int) + (t - 1))) (zI r) a4 (zI (p : Int)) (zI (t - 1)) δ) (Mo_flushed_79 (zI (sf : Int)) (zI r) a4 (zI (t - 1)) (zI (p : Int)) (bst μ b B)) := by
  obtain ⟨h, hC, hM, hW, hwd, hJ, hJC, hJM, h4, h97⟩ := hR
  obtain ⟨f1, f3, f5, f6, f8, f9⟩ := FN_facts hh hn
  obtain ⟨a1, ht1, ht2, a5, a6, a7⟩ := hh
  have hq : 32 * sf + p < 192 := by omega
  have hqa := al32 (s := sf) ht1 ht2 f6
  have hdt : ∀ d, cov A (32 * sf + p) = some d → NTs A d ∧ bsy A d = false := fun d hd => td_NTs h (cs_some hq hd).1 (htd d (thr_cov h ht1 ht2 hq hqa hd))
  have e1 : (32 * (sf : Int) + (p : Int)).toNat = 32 * sf + p := by omega
  obtain ⟨dep1, hct⟩ := cut_ok ht1 hq 3 A dep h (fun d hd => ⟨(hdt d hd).1, by have := (h.2.2.2.1 d (cs_some hq hd).1).1; omega⟩)
  obtain ⟨hth, hTs⟩ := cut_T ht1 ht2 (by omega) hqa h htd hct
  have hJ1 := JA_cut hq h hdt hct hJ
  obtain ⟨δ1, σ1, bn1, dep2, k1, k2, k3, k4, k5, k6⟩ := c_cut (s := (sf : Int)) (p := (p : Int)) (by omega) (by omega) (by omega) (by omega) ht1 ht2 3 FU 0 δ σ bn A dep (by omega) (FU_gt (by omega)) h hC (by rw [e1]; exact fun d hd => (hdt d hd).1)
  rw [e1] at k2 k3 k6
  obtain ⟨μ1, B1, m1, m2, m3, m4, m5, m6⟩ := mr_cut (s := (sf : Int)) (p := (p : Int)) (by omega) (by omega) (by omega) (by omega) ht1 ht2 hb h hM hwd (by rw [e1]; exact fun d hd => (hdt d hd).1)
  rw [e1] at m3 m4 m6
  have hb1 := SC_MB m2 hb
  have hW1 := hct.1
  generalize hA1 : aCut t (32 * sf + p) 3 A = A1 at *
  obtain ⟨μ2, n1, n2, n3⟩ := m_looks hb1 hW1 m3 f1 ht1 ht2 (p := p) (by omega)
  rw [hth] at n2
  have hb2 := SC_MB n3 hb1
  have hT8 : (stL A1 (32 * sf + p) (pg t)).length ≤ 8 := by have := stL_len A1 (32 * sf + p) (pg t); omega
  have hJM1 : JM B1 J := JM_keep hJM (by omega) (fun k h1 h2 => m5 k (by omega) (by have := jL_len hJ; omega))
  have hpm := m_pend hb2 hJM1 (by omega)
  have hLQ := JA_LQ hJ1
  have hp1 := hJ1.2.2.2.1
  have hfree : ∀ x, x ∈ stL A1 (32 * sf + p) (pg t) → ∀ w, Lv A1 w → bl A1 x w = true → Lv A1 w ∧ A1.1 10 w = 0 := fun x hx w hw hbw => ⟨hw, pf_of hW1 hp1 (hTs x hx).1 hw (hTs x hx).2.1 (hTs x hx).2.2.1 hbw⟩
  obtain ⟨B2, kk, g1, g2⟩ := m_fl_loop (a := (jL J).length) (v4 := a4) (B0 := B1) hb2 hW1 hLQ n2 hT8 (fun x hx => (hTs x hx).1) hfree (zI (sf : Int)) (zI r) (zI (p : Int)) (stL A1 (32 * sf + p) (pg t)) [] FU B1 rfl (FU_gt (by omega)) ⟨fun i y hi => by simp [lqs] at hi, fun y hy => by simp [lqs] at hy, by simp [lqs], m3, fun _ _ => rfl⟩
  have hT192 : ∀ x, x ∈ stL A1 (32 * sf + p) (pg t) → x < 192 := fun x hx => (hTs x hx).1.1
  obtain ⟨l1, l2, l3, l4, l5⟩ := g2
  have hll := hLQ.2 _ l3 l2
  have hl0 := jL_len hJ1
  have hB97 : B1 2197 = N := by rw [m5 _ (by omega) (by omega)]; exact h97
  have hB44 : B2 1944 = (J.length : Int) := by rw [l5 _ (by omega)]; exact hJM1.1
  have hend := m_fl_end (B := B2) (j := N + 1) (s := (sf : Int)) (p := (p : Int)) (r := r) (c := J.length) (a := (jL J).length) hb2 n2 hT8 hT192 (by rw [l5 _ (by omega), hB97]) hB44 h6 hll a4 kk
  have h43 : δ1 10 3 = zI (J.length : Int) := by rw [k5 _ _ (by omega)]; exact hJC.1
  have h44 : δ1 10 4 + 1 = zI (N + 1) := by rw [k5 _ _ (by omega), h4, show (1 : Int32) = zI 1 from rfl, zI_add]
  obtain ⟨q1, q2⟩ := c_queueJob (M := M) (v4 := a4) (r := zI r) (j := N + 1) (c0 := J.length) hW1 (by have := hJ.2.2.1.1; omega) hN f1 ht1 ht2 (by omega) (fun x hx => (hTs x hx).2.1 x (hTs x hx).1 (bl_self A1 x)) (fun x hx y hy hbl => (hfree x hx y hy hbl).2) h6 k3 h43 h44 (fun x hx => by have := (hJ1.2.2.1.2 x hx).2.1; omega)
  have hcls : Wo_startFlush_75 M (zI (sf : Int)) (zI (4 * (p : Int) + (t - 1))) (zI r) a4 (zI (p : Int)) (zI (t - 1)) δ = bd (Wo_queueJob M δ1 (zI (sf : Int)) (zI (4 * (p : Int) + (t - 1))) (zI r) a4) fun r3 d4 => some (r3, d4) := by
    have k1' : De_cut δ (zI (sf : Int)) (zI (p : Int)) (zI (t - 1)) = some ((), δ1) := k1
    rw [Wo_startFlush_75, hJC.1, if_pos (by rw [zI_lit, zI_lt (by omega) (by omega) (by omega) (by omega)]; omega), k1', bd_some]
  have o44 := m_of hb B (k := 1944) (by omega) (by omega)
  rw [show (1944 : Int).toNat = 1944 from rfl, hJM.1] at o44
  have hmod : Mo_flushed_79 (zI (sf : Int)) (zI r) a4 (zI (t - 1)) (zI (p : Int)) (bst μ b B) = Mo_flushed_125 (kk + 1) (zI (sf : Int)) (zI r) a4 (zI (p : Int)) (zI ((jL J).length : Int)) (zI (((jL J).length + (lqs A1 dep1 a4 (stL A1 (32 * sf + p) (pg t)) []).length : Nat) : Int)) (zI ((stL A1 (32 * sf + p) (pg t)).length : Int)) (bst μ2 b B2) := by
    rw [Mo_flushed_79, show (1944 : Int32) = zI 1944 from rfl, o44, bp_some, if_neg (by rw [zI_lit, zI_eq (by omega) (by omega) (by omega) (by omega)]; omega), m1, bd_some, n1, bd_some, hpm, bp_some, bnd_ap, bnd_ap, bnd_ap]
    exact g1
  rw [hend] at hmod
  have hWB : ∀ (δ' : Sl) (B' : Nat → Int), (∀ i, δ' 15 i = δ1 15 i) → (∀ k, 1920 ≤ k → k < 1944 → B' k = B2 k) → WB δ' B' := fun δ' B' e2 e3 s hs => by
    rw [e2, k5 15 s (by omega), e3 _ (by omega) (by omega), e3 _ (by omega) (by omega), e3 _ (by omega) (by omega), e3 _ (by omega) (by omega), l5 _ (by omega), l5 _ (by omega), l5 _ (by omega), l5 _ (by omega), m5 _ (by omega) (by omega), m5 _ (by omega) (by omega), m5 _ (by omega) (by omega), m5 _ (by omega) (by omega)]; exact hW s hs
  have hJM2 : JM B2 J := JM_keep hJM1 (by omega) (fun k h1 h2 => l5 k (by omega))
  have hwdc : ∀ x, x < 192 → 1920 ≤ wdc x ∧ wdc x < 1944 := fun x hx => by unfold wdc; omega
  generalize hL : lqs A1 dep1 a4 (stL A1 (32 * sf + p) (pg t)) [] = L at *
  generalize hT : stL A1 (32 * sf + p) (pg t) = T at *
  by_cases c0 : L = []
  · obtain ⟨δ2, u1, u2, u3⟩ := q1 c0
    rw [c0] at hmod
    rw [if_pos (show ([] : List Nat).length = 0 from rfl)] at hmod
    refine ⟨0, δ2, σ1, bn1, μ2, B2, A1, dep1, J, N, nCut t (32 * sf + p) 3 A, by rw [hcls, u1, bd_some]; rfl, by rw [hmod]; rfl, by omega, by omega, by omega, ⟨hW1, u2, l4, hWB δ2 B2 (fun i => u3 15 i (by omega) (by omega) (by omega) (by omega)) (fun _ _ _ => rfl), fun x hx ho => ?_, hJ1, JC_keep hJC (by rw [u3 _ _ (by omega) (by omega) (by omega) (by omega), k5 _ _ (by omega)]) (fun i => by rw [u3 _ _ (by omega) (by omega) (by omega) (by omega), k5 _ _ (by omega)]), hJM2, by rw [u3 _ _ (by omega) (by omega) (by omega) (by omega), k5 _ _ (by omega)]; exact h4, by rw [l5 _ (by omega)]; exact hB97⟩, by omega, by omega, SC_trans m2 n3, fun a i e1 e2 e3 => by rw [u3 a i (by omega) (by omega) (by omega) (by omega), k5 a i e3], by rw [u3 _ _ (by omega) (by omega) (by omega) (by omega), k6], fun j e1 e2 e3 e4 => by rw [l5 j (by omega), m5 j (by omega) e4], by rw [l5 _ (by omega), m6], QMq.MR h.1 hM l4 (fun s hs => Nat.le_of_eq (pgF_cut h hct hs))⟩
    have := hwdc x hx.1
    rw [l5 _ (by omega)]; exact m4 x hx ho
  · obtain ⟨δ2, u1, u2, u3⟩ := q2 c0
    have hlp : 0 < L.length := List.length_pos_iff.mpr c0
    rw [if_neg (by omega)] at hmod
    have hJ2 := JA_flush (s := (sf : Int)) (p := (p : Int)) (r := r) (v4 := a4) hW1 hJ1 h6 (fun x hx => ⟨(hTs x hx).1, (hTs x hx).2.1, (hTs x hx).2.2.1⟩) (by omega) (by omega) ⟨a6, a7⟩ (by rw [hL]; exact c0) (fun z x hx h0 => by
      obtain ⟨y, y1, y2⟩ := (hTs x hx).2.2.2 h0
      exact hrt z y y1 y2)
    rw [hL] at hJ2
    have hJC2 : JC δ2 J := JC_keep hJC (by rw [u3 _ _ (by omega) (by omega) (by omega) (by omega), k5 _ _ (by omega)]) (fun i => by rw [u3 _ _ (by omega) (by omega) (by omega) (by omega), k5 _ _ (by omega)])
    have hC3 : CRep (jbW δ2 J.length (zI (N + 1)) (zI (sf : Int)) (zI (p : Int)) (zI r)) σ1 bn1 (aF A1 (N + 1) T L) := cr_frame u2 (fun a i h1 h2 => jbW_ne (by omega) (by omega)) (jbW_ne (by omega) (by omega)) (jbW_ne (by omega) (by omega)) (jbW_ne (by omega) (by omega))
    have hhi : ∀ k, 1920 ≤ k → k < 1944 ∨ 1944 < k ∧ k < 1950 ∨ 2172 ≤ k → k ≠ 2197 → flB B2 T J.length (N + 1) (sf : Int) (p : Int) r (L.length : Int) k = B2 k := fun k e1 e2 e3 => by
      rw [flB_hi hT192 e1, if_neg (by omega)]
      unfold jbB
      simp only [upB_ap]
      simp (disch := omega) only [if_neg]
    refine ⟨(L.length : Int), _, σ1, bn1, μ2, flB B2 T J.length (N + 1) (sf : Int) (p : Int) r (L.length : Int), aF A1 (N + 1) T L, dep1, _, N + 1, nCut t (32 * sf + p) 3 A, by rw [hcls, u1, bd_some], by rw [hmod]; rfl, by omega, by omega, by omega, ⟨FC_WF (aF_FC _ _ _ _) hW1, hC3, fl_MRep hW1 l4, hWB _ _ (fun i => by rw [jbW_ne (by omega) (by omega)]; exact u3 15 i (by omega) (by omega) (by omega) (by omega)) (fun k e1 e2 => hhi k e1 (by omega) (by omega)), fun x hx ho => ?_, hJ2, fl_JC hJC2, fl_JM hJM2 h6 hT192 l1 hll, by unfold jbW; simp [wr_ap], ?_⟩, by omega, by omega, SC_trans m2 n3, fun a i e1 e2 e3 => ?_, by rw [jbW_ne (by omega) (by omega), u3 _ _ (by omega) (by omega) (by omega) (by omega), k6], fun j e1 e2 e3 e4 => by rw [hhi j e1 e2 e3, l5 j (by omega), m5 j (by omega) e4], by rw [hhi _ (by omega) (by omega) (by omega), l5 _ (by omega), m6], QMq.MR h.1 hM (fl_MRep hW1 l4) (fun s hs => by rw [pgF_cong (f := A1.1 0) (fun k _ => (aF_FC A1 (N + 1) T L).2 0 k (by omega)) hs]; exact Nat.le_of_eq (pgF_cut h hct hs))⟩
    · have hx' := (FC_lv (aF_FC A1 (N + 1) T L) x).mp hx
      have := hwdc x hx.1
      rw [hhi _ (by omega) (by omega) (by omega), l5 _ (by omega)]
      rw [(aF_FC A1 (N + 1) T L).2 0 x (by omega)] at ho
      exact m4 x hx' ho
    · rw [flB_hi hT192 (by omega), if_neg (by omega)]
      unfold jbB
      simp only [upB_ap]
      simp (disch := omega) only [if_neg, if_pos]
      simp
    · have h5 : jbW δ2 J.length (zI (N + 1)) (zI (sf : Int)) (zI (p : Int)) (zI r) a i = δ2 a i := by
        unfold jbW
        simp only [wr_ap]
        simp (disch := omega) only [if_neg]
      rw [h5, u3 a i (by omega) (by omega) (by omega) (by omega), k5 a i e3]
theorem flush_on {n S : Nat} {A : Ab} {dep : Nat → Nat} {δ : Sl} {σ : Nat → Nat} {bn : Nat} {M : Mem} {μ : Sl} {b : Nat} {B : Nat → Int} {qv : Nat → Int} {J : List Jb} {N : Int} (hR : RC n S δ σ bn B A dep J N) (hb : MB μ b) (hN : N + 1 < 2147483648) (hK : SK M δ n S qv) (hn : SN n S qv) {sf p : Nat} {t r : Int} (hh : FN n S sf p t r) (a4 : Int32) :
    FOut n S δ μ b B N (Wo_startFlush M δ (zI (sf : Int)) (zI (4 * (p : Int) + (t - 1))) (zI r) a4) (Mo_flushed (bst μ b B) (zI (sf : Int)) (zI (4 * (p : Int) + (t - 1))) (zI r) a4) := by
  have h9 := RC_T9 hR (by omega)
  obtain ⟨μ', hS, hT, hmod⟩ := m_flush hR.1 hb hR.2.2.1 h9 hn hh a4
  have hcl := c_flush hR.1 hR.2.1 hK hn hh a4
  have same : ∀ (v : Int) (R1 R2 : Option (Int32 × Sl)), -6 ≤ v → v < -1 → R1 = some (zI v, δ) → R2 = some (zI v, bst μ' b B) → FOut n S δ μ b B N R1 R2 := fun v R1 R2 h1 h2 e1 e2 => ⟨v, δ, σ, bn, μ', B, A, dep, J, N, 0, e1, e2, h1, by omega, by omega, hR, by omega, by omega, hS, fun _ _ _ _ _ => rfl, by rw [show zI 0 = 0 from rfl]; simp, fun _ _ _ _ _ => rfl, by simp, QMq.refl _ _ _ _⟩
  by_cases c1 : thr A (32 * sf + p) t = []
  · rw [if_pos c1] at hcl hmod; exact same (-2) _ _ (by omega) (by omega) hcl hmod
  · rw [if_neg c1] at hcl hmod
    by_cases c2 : (thr A (32 * sf + p) t).any (td A) = true
    · rw [if_pos c2] at hcl hmod; exact same (-3) _ _ (by omega) (by omega) hcl hmod
    · rw [if_neg c2] at hcl hmod
      by_cases c3 : a4 ≠ 0 ∧ (thr A (32 * sf + p) t).any (rtB A) = true
      · rw [if_pos c3] at hcl hmod; exact same (-4) _ _ (by omega) (by omega) hcl hmod
      · rw [if_neg c3] at hcl hmod
        have htd : ∀ x, x ∈ thr A (32 * sf + p) t → td A x = false := fun x hx => by
          cases z : td A x with
          | false => rfl
          | true => exact absurd (List.any_eq_true.mpr ⟨x, hx, z⟩) c2
        by_cases c4 : J.length < 6
        · rw [hcl, hmod]
          obtain ⟨v, δ', σ', bn', μ2, B', A', dep', J', N', nc, r1, r2, r3, r4, r4', r5, r6, r7, r8, r9⟩ := flush_go (M := M) hR (SC_MB hS hb) hN hn hh a4 htd (fun z x hx h0 => c3 ⟨z, List.any_eq_true.mpr ⟨x, hx, by unfold rtB; exact decide_eq_true h0⟩⟩) c4
          exact ⟨v, δ', σ', bn', μ2, B', A', dep', J', N', nc, r1, r2, r3, r4, r4', r5, r6, r7, SC_trans hS r8, r9.1, r9.2.1, r9.2.2.1, r9.2.2.2.1, QMq.trans (QMq.refl _ _ _ _) hS r9.2.2.2.2⟩
        · have h6 := hR.2.2.2.2.2.1.1.1
          have e6 : J.length = 6 := by omega
          have o44 := m_of (SC_MB hS hb) B (k := 1944) (by omega) (by omega)
          rw [show (1944 : Int).toNat = 1944 from rfl, hR.2.2.2.2.2.2.2.1.1, e6] at o44
          refine same (-5) _ _ (by omega) (by omega) ?_ ?_
          · rw [hcl, Wo_startFlush_75, hR.2.2.2.2.2.2.1.1, e6, if_neg (by decide)]; rfl
          · rw [hmod, Mo_flushed_79, show (1944 : Int32) = zI 1944 from rfl, o44, bp_some, if_pos (by rfl)]; rfl
