/-! ===== the class starts a job ===== -/
def jbW (δ : Sl) (c : Nat) (j s p r : Int32) : Sl := wr (wr (wr (wr (wr (wr δ 11 (4 * c) j) 11 (4 * c + 1) s) 11 (4 * c + 2) p) 11 (4 * c + 3) r) 10 3 (zI ((c + 1 : Nat) : Int))) 10 4 j
theorem jbW_ne {δ : Sl} {c : Nat} {j s p r : Int32} {a i : Nat} (h1 : a ≠ 10) (h2 : a ≠ 11) : jbW δ c j s p r a i = δ a i := by
  unfold jbW; simp [wr_ap, h1, h2]
theorem c_qj_end {M : Mem} {δ : Sl} {c : Nat} {j s p r v8 : Int32} {v7 v9 : Int} (hv : v7 ≤ v9) (h1 : -2147483648 ≤ v7) (h2 : v9 < 2147483648) (hc : c < 6) (h3 : δ 10 3 = zI (c : Int)) (h4 : δ 10 4 + 1 = j) (k : Nat) (v4 : Int32) :
    Wo_queueJob_30 M (k + 1) s r v4 j p (zI v7) v8 (zI v9) δ = if v8 = 0 then Wo_queueJob_117 M j δ else some (v8, jbW δ c j s p r) := by
  rw [Wo_queueJob_30, if_pos (by rw [zI_le (by omega) (by omega) (by omega) (by omega)]; exact hv)]
  by_cases c1 : v8 = 0
  · rw [if_pos c1, if_pos c1]
  · have e1 : zI (c : Int) * 4 = zI ((4 * c : Nat) : Int) := by rw [lz4, zI_mul]; congr 1; omega
    have e2 : zI ((4 * c : Nat) : Int) + 1 = zI ((4 * c + 1 : Nat) : Int) := by rw [show (1 : Int32) = zI 1 from rfl, zI_add]; rfl
    have e3 : zI ((4 * c : Nat) : Int) + 2 = zI ((4 * c + 2 : Nat) : Int) := by rw [lz2, zI_add]; rfl
    have e4 : zI ((4 * c : Nat) : Int) + 3 = zI ((4 * c + 3 : Nat) : Int) := by rw [lz3, zI_add]; rfl
    have i1 : ∀ k : Nat, k < 24 → inb (zI (k : Int)) 24 := fun k hk => by rw [zI_inb (by omega) (by omega)]; omega
    have x1 : ∀ k : Nat, k < 24 → ix (zI (k : Int)) = k := fun k hk => by rw [zI_ix (by omega) (by omega)]; omega
    rw [if_neg c1, if_neg c1, h3, if_pos (by rw [zI_lit, zI_lt (by omega) (by omega) (by omega) (by omega)]; omega), e1, bnd_ap, if_pos (i1 _ (by omega)), bnd_ap, e2, if_pos (i1 _ (by omega)), bnd_ap, e3, if_pos (i1 _ (by omega)), bnd_ap, e4, if_pos (i1 _ (by omega)), bnd_ap, bnd_ap, bnd_ap, x1 _ (by omega), x1 _ (by omega), x1 _ (by omega), x1 _ (by omega)]
    have f3 : wr (wr (wr (wr δ 11 (4 * c) j) 11 (4 * c + 1) s) 11 (4 * c + 2) p) 11 (4 * c + 3) r 10 3 = zI (c : Int) := by
      simp [wr_ap, h3]
    have f4 : ∀ v, wr (wr (wr (wr (wr δ 11 (4 * c) j) 11 (4 * c + 1) s) 11 (4 * c + 2) p) 11 (4 * c + 3) r) 10 3 v 10 4 = δ 10 4 := fun v => by
      simp [wr_ap]
    rw [f3, f4, h4, show (1 : Int32) = zI 1 from rfl, zI_add]
    rfl
theorem c_qj_loop {n S : Nat} {A : Ab} {dep : Nat → Nat} {σ : Nat → Nat} {bn : Nat} {M : Mem} {j : Int} {s p w : Nat} {v4 r : Int32} {c0 : Nat} (h : WF n S A dep) (hj1 : 0 < j) (hj2 : j < 2147483648) (hs : s < 6) (hp : p + w ≤ 32) (h9 : ∀ x, x ∈ stL A (32 * s + p) w → A.1 9 x = 0) (h10 : ∀ x, x ∈ stL A (32 * s + p) w → ∀ y, Lv A y → bl A x y = true → A.1 10 y = 0) (hc : c0 < 6) : ∀ (m i k : Nat) (δ : Sl), i + m = w → m < k → CRep δ σ bn (aF A j (stL A (32 * s + p) i) (lqs A dep v4 (stL A (32 * s + p) i) [])) → δ 10 3 = zI (c0 : Int) → δ 10 4 + 1 = zI j →
    ∃ δ1, CRep δ1 σ bn (aF A j (stL A (32 * s + p) w) (lqs A dep v4 (stL A (32 * s + p) w) [])) ∧ (∀ a i, a ≠ 28 → a ≠ 29 → a ≠ 30 → (a ≠ 17 ∨ i ≠ 18) → δ1 a i = δ a i) ∧
    Wo_queueJob_30 M k (zI (s : Int)) r v4 (zI j) (zI (p : Int)) (zI ((p + w : Nat) : Int)) (zI ((lqs A dep v4 (stL A (32 * s + p) i) []).length : Int)) (zI ((p + i : Nat) : Int)) δ = if (zI ((lqs A dep v4 (stL A (32 * s + p) w) []).length : Int)) = 0 then Wo_queueJob_117 M (zI j) δ1 else some (zI ((lqs A dep v4 (stL A (32 * s + p) w) []).length : Int), jbW δ1 c0 (zI j) (zI (s : Int)) (zI (p : Int)) r) := by
  intro m
  induction m with
  | zero =>
    intro i k δ hi hk hC h3 h4
    obtain ⟨c, rfl⟩ : ∃ c, k = c + 1 := ⟨k - 1, by omega⟩
    have : i = w := by omega
    subst this
    refine ⟨δ, hC, fun _ _ _ _ _ _ => rfl, ?_⟩
    exact c_qj_end (by omega) (by omega) (by omega) hc h3 h4 c v4
  | succ m ih =>
    intro i k δ hi hk hC h3 h4
    obtain ⟨c, rfl⟩ : ∃ c, k = c + 1 := ⟨k - 1, by omega⟩
    have hfc := aF_FC A j (stL A (32 * s + p) i) (lqs A dep v4 (stL A (32 * s + p) i) [])
    have hfd := cr_find hC.2.1 (s := (s : Int)) (p := ((p + i : Nat) : Int)) (by omega) (by omega) (by omega) (by omega)
    rw [show (32 * (s : Int) + ((p + i : Nat) : Int)).toNat = 32 * s + p + i by omega, FC_cov hfc] at hfd
    have hnx : zI ((p + i : Nat) : Int) + 1 = zI ((p + (i + 1) : Nat) : Int) := by rw [show (1 : Int32) = zI 1 from rfl, zI_add]; rfl
    have hws := WF_WS h
    have hsk : ¬ 0 < A.1 0 (32 * s + p + i) → ∃ δ1, CRep δ1 σ bn (aF A j (stL A (32 * s + p) w) (lqs A dep v4 (stL A (32 * s + p) w) [])) ∧ (∀ a i, a ≠ 28 → a ≠ 29 → a ≠ 30 → (a ≠ 17 ∨ i ≠ 18) → δ1 a i = δ a i) ∧ Wo_queueJob_97 (Wo_queueJob_30 M c) M (zI (s : Int)) r v4 (zI j) (zI (p : Int)) (zI ((p + w : Nat) : Int)) (zI ((lqs A dep v4 (stL A (32 * s + p) i) []).length : Int)) (zI ((p + i : Nat) : Int)) δ = if (zI ((lqs A dep v4 (stL A (32 * s + p) w) []).length : Int)) = 0 then Wo_queueJob_117 M (zI j) δ1 else some (zI ((lqs A dep v4 (stL A (32 * s + p) w) []).length : Int), jbW δ1 c0 (zI j) (zI (s : Int)) (zI (p : Int)) r) := fun hn => by
      have hst : stL A (32 * s + p) (i + 1) = stL A (32 * s + p) i := by rw [stL_succ, if_neg hn, List.append_nil]
      obtain ⟨δ1, e1, e2, e3⟩ := ih (i + 1) c δ (by omega) (by omega) (by rw [hst]; exact hC) h3 h4
      rw [hst] at e3
      refine ⟨δ1, e1, e2, ?_⟩
      rw [Wo_queueJob_97, bnd_ap, hnx, e3]
    rw [Wo_queueJob_30, if_neg (by rw [zI_le (by omega) (by omega) (by omega) (by omega)]; omega), hfd, bp_some, bnd_ap]
    cases hcv : cov A (32 * s + p + i) with
    | none =>
      rw [show sc σ none = (-1 : Int) from rfl]
      rw [if_pos (by rw [zI_lit, zI_lt (by omega) (by omega) (by omega) (by omega)]; decide)]
      refine hsk (fun z => ?_)
      have := cs_self hws (d := 32 * s + p + i) ⟨by omega, z⟩
      rw [hcv] at this; cases this
    | some d =>
      obtain ⟨d1, d2, d3⟩ := cs_some (by omega) hcv
      have hd' := (FC_lv hfc d).mpr d1
      have b1 := cr_lt hC hd'
      have e19 := (hC.2.2.1 d hd').2.1
      have hwa := (h.2.2.2.1 d d1)
      have hS32 := h.2.1
      have hm32 := hwa.2.2.2.1
      rw [show sc σ (some d) = (σ d : Int) from rfl]
      rw [if_neg (by rw [zI_lit, zI_lt (by omega) (by omega) (by omega) (by omega)]; omega), if_pos (by rw [zI_inb (by omega) (by omega)]; omega), zI_ix (by omega) (by omega), Int.toNat_natCast, e19]
      by_cases hde : d = 32 * s + p + i
      · rw [if_pos (by rw [hde]; congr 1; omega)]
        have hpos : 0 < A.1 0 (32 * s + p + i) := by rw [← hde]; exact d1.2
        have hst : stL A (32 * s + p) (i + 1) = stL A (32 * s + p) i ++ [d] := by rw [stL_succ, if_pos hpos, hde]
        have hdw : d ∈ stL A (32 * s + p) w := stL_mem.mpr ⟨by omega, by omega, d1.2⟩
        have hdT : d ∉ stL A (32 * s + p) i := fun z => by have := stL_mem.mp z; omega
        obtain ⟨δ1, m1, m2, m3⟩ := c_markTop hC (v := j) hd' hj1 hj2 (by rw [aF_9, if_neg hdT]; exact h9 d hdw)
        rw [← aF_top] at m2
        have hdl := dep_lt h d1
        have hla : (lqs A dep v4 (stL A (32 * s + p) i) []).length ≤ 192 := len192 (lqs_nodup _ _ _ _ _ (by simp)) (fun y hy => by
          rcases lqs_mem h _ _ (fun x hx => ⟨by have := stL_mem.mp hx; omega, (stL_mem.mp hx).2.2⟩) y hy with z | ⟨x, _, z, _⟩
          · simp at z
          · exact z.1)
        obtain ⟨δ2, q1, q2, q3⟩ := c_queue v4 h hj1 hj2 d1 (m := 191 - dep d) (by omega) (h10 d hdw) m2 hla
        rw [← lqs_snoc, ← hst] at q1 q2
        obtain ⟨δ3, e1, e2, e3⟩ := ih (i + 1) c δ2 (by omega) (by omega) q2 (by rw [q3 _ _ (by omega) (by omega), m3 _ _ (by omega) (by omega)]; exact h3) (by rw [q3 _ _ (by omega) (by omega), m3 _ _ (by omega) (by omega)]; exact h4)
        refine ⟨δ3, e1, fun a i h1 h2 h3 h4 => by rw [e2 a i h1 h2 h3 h4, q3 a i h2 h3, m3 a i h1 h4], ?_⟩
        rw [m1, bd_some, q1, bd_some, bnd_ap, Wo_queueJob_97, bnd_ap, hnx, e3]
      · rw [if_neg (by rw [zI_eq (by omega) (by omega) (by omega) (by omega)]; omega)]
        refine hsk (fun z => hde ?_)
        have := cs_self hws (d := 32 * s + p + i) ⟨by omega, z⟩
        rw [hcv] at this; cases this; rfl
theorem c_queueJob {n S : Nat} {A : Ab} {dep : Nat → Nat} {σ : Nat → Nat} {bn : Nat} {M : Mem} {j : Int} {s p : Nat} {t : Int} {v4 r : Int32} {c0 : Nat} {δ : Sl} (h : WF n S A dep) (hj1 : 0 < j) (hj2 : j < 2147483648) (hs : s < 6) (ht1 : 1 ≤ t) (ht2 : t ≤ 4) (hp : p + pg t ≤ 32) (h9 : ∀ x, x ∈ stL A (32 * s + p) (pg t) → A.1 9 x = 0) (h10 : ∀ x, x ∈ stL A (32 * s + p) (pg t) → ∀ y, Lv A y → bl A x y = true → A.1 10 y = 0) (hc : c0 < 6) (hC : CRep δ σ bn A) (h3 : δ 10 3 = zI (c0 : Int)) (h4 : δ 10 4 + 1 = zI j) (hnew : ∀ x, Lv A x → A.1 9 x ≠ j) :
    (lqs A dep v4 (stL A (32 * s + p) (pg t)) [] = [] → ∃ δ1, Wo_queueJob M δ (zI (s : Int)) (zI (4 * (p : Int) + (t - 1))) r v4 = some (0, δ1) ∧ CRep δ1 σ bn A ∧ ∀ a i, a ≠ 28 → a ≠ 29 → a ≠ 30 → (a ≠ 17 ∨ i ≠ 18) → δ1 a i = δ a i) ∧
    (lqs A dep v4 (stL A (32 * s + p) (pg t)) [] ≠ [] → ∃ δ1, Wo_queueJob M δ (zI (s : Int)) (zI (4 * (p : Int) + (t - 1))) r v4 = some (zI ((lqs A dep v4 (stL A (32 * s + p) (pg t)) []).length : Int), jbW δ1 c0 (zI j) (zI (s : Int)) (zI (p : Int)) r) ∧ CRep δ1 σ bn (aF A j (stL A (32 * s + p) (pg t)) (lqs A dep v4 (stL A (32 * s + p) (pg t)) [])) ∧ ∀ a i, a ≠ 28 → a ≠ 29 → a ≠ 30 → (a ≠ 17 ∨ i ≠ 18) → δ1 a i = δ a i) := by
  have hpp := pg_pos ht1 ht2
  have e4 : (4 * (p : Int) + (t - 1)) / 4 = (p : Int) := by omega
  have e5 : (4 * (p : Int) + (t - 1)) % 4 + 1 = t := by omega
  have h3' : zI (4 * (p : Int) + (t - 1)) &&& (3 : Int32) = zI (t - 1) := by rw [lz3, zI_a4 (by omega) (by omega), e5]
  have h2' : zI (4 * (p : Int) + (t - 1)) >>> ((2 : Int32) &&& 31) = zI (p : Int) := by rw [lz2, show (31 : Int32) = zI 31 from rfl, zI_shr2 (by omega) (by omega), e4]
  obtain ⟨δ1, g1, g2, g3⟩ := c_qj_loop (M := M) (r := r) (v4 := v4) (σ := σ) (bn := bn) h hj1 hj2 hs hp h9 h10 hc (pg t) 0 FU δ (by omega) (FU_gt (by omega)) (by
    have e : stL A (32 * s + p) 0 = [] := by unfold stL; rfl
    rw [e]; show CRep δ σ bn (aF A j [] []); rw [aF_nil]; exact hC) h3 h4
  have hrun : Wo_queueJob M δ (zI (s : Int)) (zI (4 * (p : Int) + (t - 1))) r v4 = Wo_queueJob_30 M FU (zI (s : Int)) r v4 (zI j) (zI (p : Int)) (zI ((p + pg t : Nat) : Int)) (zI ((lqs A dep v4 (stL A (32 * s + p) 0) []).length : Int)) (zI ((p + 0 : Nat) : Int)) δ := by
    unfold Wo_queueJob
    rw [bnd_ap, h4, bnd_ap, h2', bnd_ap, h3', show (1 : Int32) = zI 1 from rfl, show (31 : Int32) = zI 31 from rfl, zI_pg ht1 ht2, zI_add, bnd_ap, bnd_ap]
    rfl
  rw [hrun, g3]
  have hll : (lqs A dep v4 (stL A (32 * s + p) (pg t)) []).length ≤ 192 := len192 (lqs_nodup _ _ _ _ _ (by simp)) (fun y hy => by
    rcases lqs_mem h _ _ (fun x hx => ⟨by have := stL_mem.mp hx; omega, (stL_mem.mp hx).2.2⟩) y hy with z | ⟨x, _, z, _⟩
    · simp at z
    · exact z.1)
  refine ⟨fun hn => ?_, fun hn => ?_⟩
  · rw [hn] at g1 ⊢
    rw [if_pos (show zI (([] : List Nat).length : Int) = 0 from rfl)]
    obtain ⟨δ2, k1, k2, k3⟩ := c_endJob (FC_WF (aF_FC A j _ _) h) g1 hj1 hj2
    refine ⟨δ2, ?_, ?_, fun a i h1 h2 h3 h4 => by rw [k3 a i h1 h4, g2 a i h1 h2 h3 h4]⟩
    · rw [Wo_queueJob_117, k1, bd_some]
    · refine cr_ext k2 (fun x _ => ?_) (fun x hx i _ => ?_) (fun x _ => rfl)
      · rw [aE_ne _ j (by omega)]; exact ((aF_FC A j _ _).2 0 x (by omega)).symm
      · have hx1 : Lv A x := by
          refine ⟨hx.1, ?_⟩
          have := hx.2
          rw [aE_ne _ j (by omega), (aF_FC A j _ _).2 0 x (by omega)] at this; exact this
        by_cases q : i = 9
        · subst q
          rw [aE_9, aF_9]
          by_cases q2 : x ∈ stL A (32 * s + p) (pg t)
          · rw [if_pos q2, if_pos rfl]; exact h9 x q2
          · rw [if_neg q2, if_neg (hnew x hx1)]
        · rw [aE_ne _ j q]
          show A.1 i x = (if i = 9 ∧ _ then j else if i = 10 ∧ x ∈ [] then j else if i = 11 ∧ x ∈ [] then _ else A.1 i x)
          simp [q]
  · have hlp : 0 < (lqs A dep v4 (stL A (32 * s + p) (pg t)) []).length := List.length_pos_iff.mpr hn
    rw [if_neg (by rw [zI_lit, zI_eq (by omega) (by omega) (by omega) (by omega)]; omega)]
    exact ⟨δ1, rfl, g1, g2⟩
