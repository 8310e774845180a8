/-! ===== handing on: class and reference alike ===== -/
theorem SC_SM {μ μ' : Sl} {n S : Nat} {qv : Nat → Int} (h : SC μ μ') (hm : SM μ n S qv) : SM μ' n S qv := ⟨by rw [h 34 11 (by decide) (by decide) (by omega)]; exact hm.1, by rw [h 41 3 (by decide) (by decide) (by omega)]; exact hm.2.1, fun s h1 h2 => by rw [h 40 s (by decide) (by decide) (by omega)]; exact hm.2.2 s h1 h2⟩
theorem bst_SM {μ : Sl} {n S : Nat} {qv : Nat → Int} (b : Nat) (B : Nat → Int) (hm : SM μ n S qv) : SM (bst μ b B) n S qv := ⟨by rw [bst_ne _ _ _ (by decide)]; exact hm.1, by rw [bst_ne _ _ _ (by decide)]; exact hm.2.1, fun s h1 h2 => by rw [bst_ne _ _ _ (by decide)]; exact hm.2.2 s h1 h2⟩
theorem m_hand {n S : Nat} {A : Ab} {dep : Nat → Nat} {μ : Sl} {b : Nat} {B : Nat → Int} {qv : Nat → Int} (h : WF n S A dep) (hb : MB μ b) (hM : MRep B A) (h9 : T9 A) (hm : SM μ n S qv) (hn : SN n S qv) {sf st p p1 : Nat} {t r : Int} (hh : HN n S sf st p p1 t r) :
    ∃ μ', SC μ μ' ∧ TH μ' (thr A (32 * sf + p) t) ∧ Mo_mapped (bst μ b B) (zI (sf : Int)) (zI (4 * (p : Int) + (t - 1))) (zI (st : Int)) (zI (p1 : Int)) (zI r) = if thr A (32 * sf + p) t = [] then some (zI (-2), bst μ' b B) else if (thr A (32 * sf + p) t).any (bsy A) = true then some (zI (-3), bst μ' b B) else if pgc A (32 * st + p1) (pg t) ≠ 0 then some (zI (-4), bst μ' b B) else if sW A t r (thr A (32 * sf + p) t) = 0 then some (zI (-5), bst μ' b B) else if qxB A qv st (sW A t r (thr A (32 * sf + p) t)) = true then some (zI (-6), bst μ' b B) else Mo_mapped_165 FU (zI (st : Int)) (zI (p1 : Int)) (zI r) (zI (t - 1)) (zI (p : Int)) (zI 0) (zI 0) (bst μ' b B) := by
  obtain ⟨f1, f2, f3, f4, f5, f6, f7, f8, f9⟩ := HN_facts hh hn
  obtain ⟨a1, a2, a3, ht1, ht2, a4, a5, a6, a7⟩ := hh
  have e4 : (4 * (p : Int) + (t - 1)) / 4 = (p : Int) := by omega
  have e5 : (4 * (p : Int) + (t - 1)) % 4 + 1 = t := by omega
  obtain ⟨μ', g1, hT, hS⟩ := m_looks hb h hM f1 ht1 ht2 (p := p) (by omega)
  refine ⟨μ', hS, hT, ?_⟩
  have hb' := SC_MB hS hb
  have hm' := SC_SM hS hm
  have hlv : ∀ x, x ∈ thr A (32 * sf + p) t → Lv A x := fun x hx => thr_mem h ht1 ht2 (by omega) hx
  have hl8 := thr_len (A := A) (q := 32 * sf + p) ht1 ht2
  have g2 := m_busyThere hb' h hM h9 hT hl8 hlv (thr A (32 * sf + p) t) [] FU rfl (FU_gt (by omega))
  have g3 := m_free hb' h hM f2 ht1 ht2 (p := p1) (by omega)
  have g4 := m_map_pages (p := p) hb' h hM ht1 ht2 (q0 := 32 * sf + p) (by omega) (by omega) a7 hT (zI (st : Int)) (zI (p1 : Int)) (thr A (32 * sf + p) t) [] FU rfl (FU_gt (by omega))
  have g5 := m_pagesIn hb' h hM hm'.2.1 f2
  have g6 := m_most (bst_SM b B hm') hn a2
  have g8 := pW_sum h r ht1 ht2 (q := 32 * sf + p) (by omega) (al32 ht1 ht2 f6) (by omega)
  have hw : fb_ct (pW A r (32 * sf + p)) (pg t) ≤ pg t := fb_ct_le _ _
  rw [g8] at hw
  have e30 : bst μ' b B 34 30 = zI ((thr A (32 * sf + p) t).length : Int) := by rw [bst_ne _ _ _ (by decide)]; exact hT.1
  have hpp : pgc A (32 * st) 32 ≤ 32 := fb_ct_le _ _
  have hroom : pgc A (32 * st + p1) (pg t) = 0 → pgc A (32 * st) 32 + pg t ≤ 32 := pgc_room (by omega)
  unfold Mo_mapped
  rw [if_pos four_ne, bnd_ap, if_pos four_ne, bnd_ap, lz4, zI_m4 (by omega) (by omega), e5, zI_div (by omega) (by omega) (by omega) (by omega), e4, g1, bd_some, e30]
  generalize hL : thr A (32 * sf + p) t = L at *
  by_cases c1 : L = []
  · rw [if_pos (by rw [c1]; rfl), if_pos c1]; rfl
  · have hlp : 0 < L.length := List.length_pos_iff.mpr c1
    rw [if_neg (by rw [zI_lit, zI_eq (by omega) (by omega) (by omega) (by omega)]; omega), if_neg c1]
    have g2' : Mo_isBusyThere (bst μ' b B) = some (bI (L.any (bsy A))) := g2
    rw [g2', bp_some, bI_if]
    by_cases c2 : L.any (bsy A) = true
    · rw [if_pos c2, if_pos c2]; rfl
    · rw [if_neg c2, if_neg c2, g3, bp_some, bI_if]
      by_cases c3 : pgc A (32 * st + p1) (pg t) = 0
      · have hr := hroom c3
        have g4' : Mo_mapped_60 FU (zI (st : Int)) (zI (p1 : Int)) (zI r) (zI (t - 1)) (zI (p : Int)) 0 0 (bst μ' b B) = _ := g4
        rw [if_pos (by simpa using c3), if_neg (by simpa using c3), bnd_ap, bnd_ap, g4']
        by_cases c4 : sW A t r L = 0
        · rw [if_pos c4, if_pos c4]
        · rw [if_neg c4, if_neg c4, g5, bp_some, g6, bp_some, zI_add]
          by_cases z : st = 0
          · rw [if_pos z, if_pos (by rw [zI_le (by omega) (by omega) (by omega) (by omega)]; omega), qxB_f (fun c => c.1 z), if_neg (by decide)]
          · obtain ⟨q1, q2⟩ := hn.2.2 st (by omega) a2
            rw [if_neg z]
            by_cases c : qxd A qv st (sW A t r L)
            · have := c.2
              rw [if_neg (by rw [zI_le (by omega) (by omega) (by omega) (by omega)]; omega), qxB_t c, if_pos rfl]
            · have : ¬ qv st < (pgc A (32 * st) 32 : Int) + (sW A t r L : Int) := fun y => c ⟨z, y⟩
              rw [if_pos (by rw [zI_le (by omega) (by omega) (by omega) (by omega)]; omega), qxB_f c, if_neg (by decide)]
      · rw [if_neg (by simpa using c3), if_pos c3]; rfl
/-- what handing on leaves: as it was, or the deeds that were made -/
def HO (n S : Nat) (A A' : Ab) (dep : Nat → Nat) (B B' : Nat → Int) : Prop := (A' = A ∧ B' = B) ∨ ∃ t r q0 e0, MP n S A dep t r q0 e0 ∧ A' = aMap A t r q0 e0 (thr A q0 t) ∧ ∀ j, 1920 ≤ j → B' j = wB A t r q0 e0 (thr A q0 t) B j
def HOut (n S : Nat) (A : Ab) (dep : Nat → Nat) (δ : Sl) (μ : Sl) (b : Nat) (B : Nat → Int) (R1 R2 : Option (Int32 × Sl)) : Prop :=
  ∃ v δ' σ' bn' μ' B' A' dep', R1 = some (zI v, δ') ∧ R2 = some (zI v, bst μ' b B') ∧ -6 ≤ v ∧ v ≤ 8 ∧ v ≠ -1 ∧ (v < 0 → δ' = δ ∧ B' = B ∧ A' = A) ∧ CRep δ' σ' bn' A' ∧ MRep B' A' ∧ WF n S A' dep' ∧ WB δ' B' ∧ SC μ μ' ∧ HO n S A A' dep B B' ∧ (∀ a i, a ≠ 15 → (a < 17 ∨ 32 < a) → δ' a i = δ a i) ∧ δ' 17 19 = δ 17 19 ∧ (∀ j, 1944 ≤ j → B' j = B j) ∧ QMq μ n S B B'
theorem hand_on {n S : Nat} {A : Ab} {dep : Nat → Nat} {δ : Sl} {σ : Nat → Nat} {bn : Nat} {M : Mem} {μ : Sl} {b : Nat} {B : Nat → Int} {qv : Nat → Int} (h : WF n S A dep) (hC : CRep δ σ bn A) (hb : MB μ b) (hM : MRep B A) (h9 : T9 A) (hW : WB δ B) (hK : SK M δ n S qv) (hm : SM μ n S qv) (hn : SN n S qv) {sf st p p1 : Nat} {t r : Int} (hh : HN n S sf st p p1 t r) :
    HOut n S A dep δ μ b B (Wo_handOn M δ (zI (sf : Int)) (zI (4 * (p : Int) + (t - 1))) (zI (st : Int)) (zI (p1 : Int)) (zI r)) (Mo_mapped (bst μ b B) (zI (sf : Int)) (zI (4 * (p : Int) + (t - 1))) (zI (st : Int)) (zI (p1 : Int)) (zI r)) := by
  obtain ⟨μ', hS, hT, hmod⟩ := m_hand h hb hM h9 hm hn hh
  have hcl := c_hand h hC hK hn hh
  obtain ⟨f1, f2, f3, f4, f5, f6, f7, f8, f9⟩ := HN_facts hh hn
  obtain ⟨a1, a2, a3, ht1, ht2, a4, a5, a6, a7⟩ := hh
  have same : ∀ v : Int, -6 ≤ v → v < -1 → Wo_handOn M δ (zI (sf : Int)) (zI (4 * (p : Int) + (t - 1))) (zI (st : Int)) (zI (p1 : Int)) (zI r) = some (zI v, δ) → Mo_mapped (bst μ b B) (zI (sf : Int)) (zI (4 * (p : Int) + (t - 1))) (zI (st : Int)) (zI (p1 : Int)) (zI r) = some (zI v, bst μ' b B) → HOut n S A dep δ μ b B (Wo_handOn M δ (zI (sf : Int)) (zI (4 * (p : Int) + (t - 1))) (zI (st : Int)) (zI (p1 : Int)) (zI r)) (Mo_mapped (bst μ b B) (zI (sf : Int)) (zI (4 * (p : Int) + (t - 1))) (zI (st : Int)) (zI (p1 : Int)) (zI r)) := fun v h1 h2 e1 e2 => ⟨v, δ, σ, bn, μ', B, A, dep, e1, e2, h1, by omega, by omega, fun _ => ⟨rfl, rfl, rfl⟩, hC, hM, h, hW, hS, .inl ⟨rfl, rfl⟩, fun _ _ _ _ => rfl, rfl, fun _ _ => rfl, QMq.refl _ _ _ _⟩
  by_cases c1 : thr A (32 * sf + p) t = []
  · rw [if_pos c1] at hcl hmod; exact same (-2) (by omega) (by omega) hcl hmod
  · rw [if_neg c1] at hcl hmod
    by_cases c2 : (thr A (32 * sf + p) t).any (bsy A) = true
    · rw [if_pos c2] at hcl hmod; exact same (-3) (by omega) (by omega) hcl hmod
    · rw [if_neg c2] at hcl hmod
      by_cases c3 : pgc A (32 * st + p1) (pg t) ≠ 0
      · rw [if_pos c3] at hcl hmod; exact same (-4) (by omega) (by omega) hcl hmod
      · rw [if_neg c3] at hcl hmod
        by_cases c4 : sW A t r (thr A (32 * sf + p) t) = 0
        · rw [if_pos c4] at hcl hmod; exact same (-5) (by omega) (by omega) hcl hmod
        · rw [if_neg c4] at hcl hmod
          by_cases c5 : qxB A qv st (sW A t r (thr A (32 * sf + p) t)) = true
          · rw [if_pos c5] at hcl hmod; exact same (-6) (by omega) (by omega) hcl hmod
          · rw [if_neg c5] at hcl hmod
            clear same
            have hl8 := thr_len (A := A) (q := 32 * sf + p) ht1 ht2
            have hP : MP n S A dep t r (32 * sf + p) (32 * st + p1) := ⟨h, ht1, ht2, by omega, al32 ht1 ht2 f6, by omega, by omega, al32 ht1 ht2 f7, by omega, by omega, by simpa using c3, by omega, a7⟩
            obtain ⟨δ', σ', bn', m1, m2, m3, m4, m5, m6⟩ := c_makeHeirs hP (by omega) (by omega) a3 M hC hW
            obtain ⟨B', k1, k2, ⟨dep', k3⟩, k4⟩ := m_map_loop (B0 := B) (SC_MB hS hb) (by omega) (by omega) hP hT (thr A (32 * sf + p) t) [] FU B dep rfl (FU_gt (by omega)) (MI_start hP) hM (fun j _ => by rw [wB_nil])
            have hnl : nMap A r (thr A (32 * sf + p) t) ≤ (thr A (32 * sf + p) t).length := by unfold nMap; exact List.length_filter_le _ _
            refine ⟨_, δ', σ', bn', μ', B', _, dep', hcl.trans m1, hmod.trans k1, by omega, by omega, by omega, fun z => by omega, m2, k2, k3.1, fun s hs => ?_, hS, .inr ⟨t, r, _, _, hP, rfl, k4⟩, m4, m5, fun j hj => ?_, QMq.mk hm hn (map_QL hP hM k2 (by rw [show (32 * st + p1) / 32 = st by omega]; exact Bool.eq_false_iff.mpr c5))⟩
            · rw [m6 s hs, k4 _ (by omega), k4 _ (by omega), k4 _ (by omega), k4 _ (by omega)]
            · rw [k4 j (by omega)]
              unfold wB
              rw [if_neg]
              unfold wM
              rw [List.any_eq_true]
              rintro ⟨x, hx, hx2⟩
              simp only [Bool.and_eq_true, decide_eq_true_eq] at hx2
              have hx3 := hx2.2.2
              have hlt : moff A t (32 * sf + p) x < pg t := by
                rcases thr_cases h ht1 ht2 (by omega) (al32 ht1 ht2 f6) (by omega) hx with ⟨z1, z2, z3, z4⟩ | ⟨z1, z2, z3, z4⟩
                · unfold moff; rw [if_pos z1]; omega
                · have := pgs_pos h (thr_mem h ht1 ht2 (by omega) hx)
                  unfold moff; rw [if_neg z1]; omega
              unfold wdc at hx3
              omega
