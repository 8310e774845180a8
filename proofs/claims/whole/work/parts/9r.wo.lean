/-! ===== map, grant, flush, work, touch: one form ===== -/
def WO (ee : Int × Int) (n S : Nat) (δ μ : Sl) (b : Nat) (B : Nat → Int) (N : Int) (R1 R2 : Option (Int32 × Sl)) : Prop :=
  ∃ v δ' σ' bn' μ' B' A' dep' J' N', R1 = some (zI v, δ') ∧ R2 = some (zI v, bst μ' b B') ∧ (-6 ≤ v ∧ v < 1000 ∧ v ≠ -1) ∧ RC n S δ' σ' bn' B' A' dep' J' N' ∧ WX ee n S δ' B' ∧ SC μ μ' ∧ δ' 10 0 = δ 10 0 ∧ N' ≤ N + 1 ∧ B' 2196 ≤ B 2196 + 1 ∧ QMq μ n S B B'
theorem map_wo {ee : Int × Int} {n S : Nat} {A : Ab} {dep : Nat → Nat} {δ : Sl} {σ : Nat → Nat} {bn : Nat} {M : Mem} {μ : Sl} {b : Nat} {B : Nat → Int} {qv : Nat → Int} {J : List Jb} {N : Int} (hR : RC n S δ σ bn B A dep J N) (hX : WX ee n S δ B) (hN : N < 2147483648) (hb : MB μ b) (hK : SK M δ n S qv) (hm : SM μ n S qv) (hn : SN n S qv) {sf st p p1 : Nat} {t r : Int} (hh : HN n S sf st p p1 t r) :
    WO ee n S δ μ b B N (Wo_handOn M δ (zI (sf : Int)) (zI (4 * (p : Int) + (t - 1))) (zI (st : Int)) (zI (p1 : Int)) (zI r)) (Mo_mapped (bst μ b B) (zI (sf : Int)) (zI (4 * (p : Int) + (t - 1))) (zI (st : Int)) (zI (p1 : Int)) (zI r)) := by
  have h9 := RC_T9 hR hN
  obtain ⟨h, hC, hM, hW, hwd, hJ, hJC, hJM, h4, h97⟩ := hR
  obtain ⟨v, δ', σ', bn', μ', B', A', dep', r1, r2, r3, r4, r5, r6, r7, r8, r9, r10, r11, r12, r13, r14, r15, r16⟩ := hand_on h hC hb hM h9 hW hK hm hn hh
  have hl := jL_len hJ
  have hwd' : WD B' A' := by
    rcases r12 with ⟨e1, e2⟩ | ⟨t', r', q0, e0, hP, e1, e2⟩
    · rw [e1, e2]; exact hwd
    · subst e1
      intro x hx ho
      have hx1 := hx.1
      have : 1920 ≤ wdc x := by unfold wdc; omega
      rw [e2 _ this]
      exact WD_map hwd _ _ rfl x hx ho
  have hJ' : JA A' J N := by
    rcases r12 with ⟨e1, e2⟩ | ⟨t', r', q0, e0, hP, e1, e2⟩
    · rw [e1]; exact hJ
    · obtain ⟨d', -, z⟩ := JA_map hP hJ
      rw [e1]; exact z
  refine ⟨v, δ', σ', bn', μ', B', A', dep', J, N, r1, r2, ⟨r3, by omega, r5⟩, ⟨r9, r7, r8, r10, hwd', hJ', JC_keep hJC (r13 _ _ (by omega) (by omega)) (fun i => r13 _ _ (by omega) (by omega)), JM_keep hJM hJ.1.1 (fun k g1 g2 => r15 k g1), by rw [r13 _ _ (by omega) (by omega)]; exact h4, by rw [r15 _ (by omega)]; exact h97⟩, WX_keep hX (fun a i ha => r13 a i (by omega) (by omega)) (fun i hi => r13 _ _ (by omega) (by omega)) (fun k g1 g2 g3 g4 => r15 k (by omega)) ?_ ?_, r11, r13 _ _ (by omega) (by omega), by omega, by rw [r15 _ (by omega)]; omega, r16⟩
  · rw [r13 _ _ (by omega) (by omega), r15 _ (by omega)]; exact hX.2.2.2.1.2.2.1
  · rw [r14, r15 _ (by omega)]; exact hX.2.2.2.1.2.2.2
theorem grant_wo {ee : Int × Int} {n S : Nat} {A : Ab} {dep : Nat → Nat} {δ : Sl} {σ : Nat → Nat} {bn : Nat} {M : Mem} {μ : Sl} {b : Nat} {B : Nat → Int} {qv : Nat → Int} {J : List Jb} {N : Int} (hR : RC n S δ σ bn B A dep J N) (hX : WX ee n S δ B) (hN : N < 2147483648) (hb : MB μ b) (hK : SK M δ n S qv) (hm : SM μ n S qv) (hn : SN n S qv) {sf st p p1 : Nat} {t : Int} (hh : HN n S sf st p p1 t 1) :
    WO ee n S δ μ b B N (Wo_giveAway M δ (zI (sf : Int)) (zI (4 * (p : Int) + (t - 1))) (zI (st : Int)) (zI (p1 : Int))) (Mo_granted (bst μ b B) (zI (sf : Int)) (zI (4 * (p : Int) + (t - 1))) (zI (st : Int)) (zI (p1 : Int))) := by
  have h9 := RC_T9 hR hN
  obtain ⟨h, hC, hM, hW, hwd, hJ, hJC, hJM, h4, h97⟩ := hR
  obtain ⟨v, δ', σ', bn', μ', B', A', dep', nc, r1, r2, r3, r4, r5, r6, r7, r8, r9, r10, r11, r12, r13, r14, r15, r16, r17, r18, r19⟩ := give_away h hC hb hM h9 hW hwd hK hm hn hh
  have hl := jL_len hJ
  have hJ' : JA A' J N := by
    rcases r14 with ⟨e1, e2⟩ | ⟨t', q, e, dep1, c1, c2, c3, c4, c5⟩
    · rw [e1]; exact hJ
    · have hq := c2.2.2.2.1
      have ht1 := c2.2.1
      have ht2 := c2.2.2.1
      have hqa := c2.2.2.2.2.1
      have hpg := pg_pos ht1 ht2
      have hqS := c2.2.2.2.2.2.1
      have hS := h.2.1
      have hdt : ∀ d, cov A q = some d → NTs A d ∧ bsy A d = false := fun d hd => td_NTs h (cs_some hq hd).1 (c3 d (thr_cov h ht1 ht2 hq hqa hd))
      have hJ1 := JA_cut hq h hdt c1 hJ
      obtain ⟨hth, hTs⟩ := cut_T ht1 ht2 (by omega) hqa h c3 c1
      rw [c4]
      refine JA_giv c2 _ [] _ dep1 rfl (GI_start c2) hJ1 (fun x hx => ?_)
      have hT := hTs x hx
      exact ⟨hT.2.1 x hT.1 (bl_self _ x), pf_of c1.1 hJ1.2.2.2.1 hT.1 hT.1 hT.2.1 hT.2.2.1 (bl_self _ x)⟩
  refine ⟨v, δ', σ', bn', μ', B', A', dep', J, N, r1, r2, ⟨r3, by omega, r5⟩, ⟨r9, r7, r8, r10, r11, hJ', JC_keep hJC (r15 _ _ (by omega) (by omega)) (fun i => r15 _ _ (by omega) (by omega)), JM_keep hJM hJ.1.1 (fun k g1 g2 => r17 k g1 (by omega)), by rw [r15 _ _ (by omega) (by omega)]; exact h4, by rw [r17 _ (by omega) (by omega)]; exact h97⟩, WX_keep hX (fun a i ha => r15 a i (by omega) (by omega)) (fun i hi => r15 _ _ (by omega) (by omega)) (fun k g1 g2 g3 g4 => r17 k (by omega) g3) ?_ ?_, r13, r15 _ _ (by omega) (by omega), by omega, by rw [r17 _ (by omega) (by omega)]; omega, r19⟩
  · rw [r15 _ _ (by omega) (by omega), r17 _ (by omega) (by omega)]; exact hX.2.2.2.1.2.2.1
  · rw [r16, r18, hX.2.2.2.1.2.2.2, zI_add]
theorem flush_wo {ee : Int × Int} {n S : Nat} {A : Ab} {dep : Nat → Nat} {δ : Sl} {σ : Nat → Nat} {bn : Nat} {M : Mem} {μ : Sl} {b : Nat} {B : Nat → Int} {qv : Nat → Int} {J : List Jb} {N : Int} (hR : RC n S δ σ bn B A dep J N) (hX : WX ee n S δ B) (hN : N + 1 < 2147483648) (hb : MB μ b) (hK : SK M δ n S qv) (hn : SN n S qv) {sf p : Nat} {t r : Int} (hh : FN n S sf p t r) (a4 : Int32) :
    WO ee n S δ μ b B N (Wo_startFlush M δ (zI (sf : Int)) (zI (4 * (p : Int) + (t - 1))) (zI r) a4) (Mo_flushed (bst μ b B) (zI (sf : Int)) (zI (4 * (p : Int) + (t - 1))) (zI r) a4) := by
  obtain ⟨v, δ', σ', bn', μ', B', A', dep', J', N', nc, r1, r2, r3, r4, r5, r6, r7, r8, r9, r10, r11, r12, r13, r14⟩ := flush_on (M := M) hR hb hN hK hn hh a4
  refine ⟨v, δ', σ', bn', μ', B', A', dep', J', N', r1, r2, ⟨r3, by omega, r5⟩, r6, WX_keep hX (fun a i ha => r10 a i (by omega) (by omega) (by omega)) (fun i hi => r10 _ _ (by omega) (by omega) (by omega)) (fun k g1 g2 g3 g4 => r12 k (by omega) (by omega) g2 g3) ?_ ?_, r9, r10 _ _ (by omega) (by omega) (by omega), r8, by rw [r12 _ (by omega) (by omega) (by omega) (by omega)]; omega, r14⟩
  · rw [r10 _ _ (by omega) (by omega) (by omega), r12 _ (by omega) (by omega) (by omega) (by omega)]; exact hX.2.2.2.1.2.2.1
  · rw [r11, r13, hX.2.2.2.1.2.2.2, zI_add]
theorem work_wo {ee : Int × Int} {n S : Nat} {A : Ab} {dep : Nat → Nat} {δ : Sl} {σ : Nat → Nat} {bn : Nat} {M : Mem} {μ : Sl} {b : Nat} {B : Nat → Int} {J : List Jb} {N : Int} (hR : RC n S δ σ bn B A dep J N) (hX : WX ee n S δ B) (hN : N < 2147483648) (hb : MB μ b) {w : Int} (hw1 : -2147483648 ≤ w) (hw2 : w < 2147483648) :
    WO ee n S δ μ b B N (Wo_workOn M δ (zI w)) (Mo_worked (bst μ b B) (zI w)) := by
  obtain ⟨c, δ', μ', B', A', J', r1, r2, r3, r4, r5, r6, r7, r8, r9, r10, r11⟩ := work_on M hR hb hN hw1 hw2
  refine ⟨(c : Int), δ', σ, bn, μ', B', A', dep, J', N, r1, r2, ⟨by omega, by omega, by omega⟩, r5, WX_keep hX (fun a i ha => r6 a i (by omega) (by omega) (by omega)) (fun i hi => r6 _ _ (by omega) (by omega) (by omega)) (fun k g1 g2 g3 g4 => r9 k (by omega) (by omega) g4) ?_ ?_, r4, r6 _ _ (by omega) (by omega) (by omega), by omega, by rw [r9 _ (by omega) (by omega) (by omega)]; omega, r11⟩
  · rw [r8, r10, hX.2.2.2.1.2.2.1, zI_add]
  · rw [r7, r9 _ (by omega) (by omega) (by omega)]; exact hX.2.2.2.1.2.2.2
theorem touch_wo {ee : Int × Int} {n S : Nat} {A : Ab} {dep : Nat → Nat} {δ : Sl} {σ : Nat → Nat} {bn : Nat} {M : Mem} {μ : Sl} {b : Nat} {B : Nat → Int} {qv pv : Nat → Int} {J : List Jb} {N : Int} (hR : RC n S δ σ bn B A dep J N) (hX : WX ee n S δ B) (hb : MB μ b) (hK : SK M δ n S qv) (hn : SN n S qv) (hpk : PK M δ n pv) (hpm : PM μ n pv) (hpn : PN n pv) {s p : Nat} {r : Int} (hs : s < n) (hp : p < S) (hr : r = 1 ∨ r = 2 ∨ r = 4) (hw : B (2172 + s) = 0) :
    WO ee n S δ μ b B N (Wo_touchPage M δ (zI (s : Int)) (zI (p : Int)) (zI r)) (Mo_touched (bst μ b B) (zI (s : Int)) (zI (p : Int)) (zI r)) := by
  obtain ⟨v, δ', B', A', r1, r2, r3, r4, r5, r6, r7, r8, r9⟩ := touch_on hR hX hb hK hn hpk hpm hpn hs hp hr hw
  exact ⟨v, δ', σ, bn, μ, B', A', dep, J, N, r1, r2, ⟨r3, by omega, r5⟩, r6, r7, fun _ _ _ _ _ => rfl, r8, by omega, r9⟩
