/-! ===== trials: steps, tried ===== -/
/-- a state of the reference that stands at bank 1 -/
def TR0 (μ0 μ' : Sl) : Prop := QU μ0 μ' ∧ MB μ' 1 ∧ μ' 34 26 = μ0 34 26 ∧ ∀ i, ¬ (2227 ≤ i ∧ i < 4454) → μ' 45 i = μ0 45 i
theorem TR_bst {μ0 μ' : Sl} (h : TR0 μ0 μ') (B : Nat → Int) : TR0 μ0 (bst μ' 1 B) := by
  obtain ⟨h1, h2, h3, h4⟩ := h
  refine ⟨fun a i x y z w => by rw [bst_ne _ _ _ x]; exact h1 a i x y z w, ⟨by rw [bst_ne _ _ _ (by omega)]; exact h2.1, h2.2⟩, by rw [bst_ne _ _ _ (by omega)]; exact h3, fun i hi => ?_⟩
  unfold bst
  rw [if_neg (by omega)]; exact h4 i hi
theorem TR_SC {μ0 μ' μ'' : Sl} (h : TR0 μ0 μ') (hs : SC μ' μ'') : TR0 μ0 μ'' := by
  obtain ⟨h1, h2, h3, h4⟩ := h
  exact ⟨QU_trans h1 (QU_SC hs), ⟨by rw [hs _ _ (by omega) (by omega) (by omega)]; exact h2.1, h2.2⟩, by rw [hs _ _ (by omega) (by omega) (by omega)]; exact h3, fun i hi => by rw [hs _ _ (by omega) (by omega) (by omega)]; exact h4 i hi⟩
theorem asNow_on {μ0 : Sl} {B : Nat → Int} (hB : BK μ0 0 B) : ∃ μ1, Mo_asNow μ0 = some ((), μ1) ∧ bst μ1 1 B = μ1 ∧ TR0 μ0 μ1 := by
  have mb := m_bank (μ := μ0) (s := 0) (t := 1) (by omega) (by omega) (by omega)
  refine ⟨wr (cpn μ0 0 1 2227) 34 25 (1 : Int32), ?_, bst_BK (fun i hi => ?_), fun a i x y z w => ?_, ⟨?_, by omega⟩, ?_, fun i hi => ?_⟩
  · rw [Mo_asNow, show (0 : Int32) = zI ((0 : Nat) : Int) from rfl, show (1 : Int32) = zI ((1 : Nat) : Int) from rfl, mb, bd_some, bnd_ap]
  · rw [wr_ap, if_neg (by omega), cpn, if_pos (by omega), show 2227 * 0 + (2227 * 1 + i - 2227 * 1) = 2227 * 0 + i by omega]; exact hB i hi
  · rw [wr_ap, if_neg (by omega), cpn, if_neg (by omega)]
  · rw [wr_ap, if_pos ⟨rfl, rfl⟩]; rfl
  · rw [wr_ap, if_neg (by omega), cpn, if_neg (by omega)]
  · rw [wr_ap, if_neg (by omega), cpn, if_neg (by omega)]
section
variable {c n0 : Nat} {M : Mem} {μ : Sl}
/-- what a trial starts from -/
theorem top_try (hI : Inv c n0 M μ) : ∃ (n S k w t : Nat) (B : Nat → Int) (σ : Nat → Nat) (bn : Nat) (A : Ab) (dep : Nat → Nat) (J : List Jb) (N e : Int) (qv pv wv : Nat → Int) (δt : Sl),
    (M 0 0 4 = zI (w : Int) ∧ w < 1000 ∧ M w 10 0 = zI (k : Int) ∧ k < 2 ∧ 2 ≤ w) ∧ (M 0 0 6 = zI (t : Int) ∧ t < 1000 ∧ 2 ≤ t ∧ t ≠ w) ∧ (RC n S (M w) σ bn B A dep J N ∧ WX (e, 0) n S (M w) B) ∧ (RC n S δt σ bn B A dep J N ∧ WX (e, 0) n S δt B ∧ δt 10 0 = zI (k : Int)) ∧ Wo_copyFrom t w M = some ((), setS M t δt) ∧ SB M (M w) (wr μ 34 2 (0 : Int32)) n S qv pv wv ∧ (MB (wr μ 34 2 (0 : Int32)) 0 ∧ bst (wr μ 34 2 (0 : Int32)) 0 B = wr μ 34 2 (0 : Int32) ∧ BK (wr μ 34 2 (0 : Int32)) 0 B) ∧ (N ≤ 100 * (c : Int) ∧ B 2196 ≤ 100 * (c : Int)) ∧ (∀ δ' μ', QU (wr μ 34 2 (0 : Int32)) μ' → TX (setS M t δ') k μ' n S) ∧ (∀ δ', Inv (c + 1) n0 (setS M t δ') (wr μ 34 2 (0 : Int32))) ∧ ∀ μ0 δ' μ', QU (wr μ 34 2 (0 : Int32)) μ0 → (∀ i, μ0 45 i = μ 45 i) → μ0 34 26 = μ 34 26 → TR0 μ0 μ' → Inv (c + 1) n0 (setS M t δ') (wr μ' 34 25 (0 : Int32)) := by
  obtain ⟨n, S, k, w, t, B, σ, bn, A, dep, J, N, e, qv, pv, wv, ⟨a, a2, a3, a4, a5⟩, ⟨b1, b2, b3, b4⟩, ⟨hR, hX⟩, hSB, ⟨f1, f2⟩, hN, hT, hq, hfin⟩ := top_q hI
  obtain ⟨δt, c1, c2⟩ := wo_copy (M := M) (k := t) (q := w) (fun z => b4 z.symm) hR.2.1.1.1 hR.2.1.1.2.1 a3 (by omega)
  have g25 : wr μ 34 2 (0 : Int32) 34 25 = zI 0 := f1.1
  refine ⟨n, S, k, w, t, B, σ, bn, A, dep, J, N, e, qv, pv, wv, δt, ⟨a, a2, a3, a4, a5⟩, ⟨b1, b2, b3, b4⟩, ⟨hR, hX⟩, ⟨RC_copy hR c2, WX_copy hX c2, ?_⟩, c1, hSB, ⟨f1, f2, ?_⟩, hN, fun δ' μ' h => ?_, fun δ' => hfin δ' _ (QU_refl _) g25 (by rw [wr_ap, if_neg (by omega)]) (fun i _ => by rw [wr_ap, if_neg (by omega)]), fun μ0 δ' μ' h1 h2 h3 h4 => ?_⟩
  · rw [c2 10 0 (by omega)]; exact a3
  · intro i hi
    rw [← f2]; exact BK_bst _ 0 B i hi
  · exact TX_keep hT (fun a i _ _ => by rw [setS_ne _ _ (by omega)]) h
  · obtain ⟨t1, t2, t3, t4⟩ := h4
    refine hfin δ' _ (QU_trans h1 (QU_trans t1 (QU_wr μ' (i := 25) 0 (by omega)))) ?_ ?_ (fun i hi => ?_)
    · rw [wr_ap, if_pos ⟨rfl, rfl⟩]; rfl
    · rw [wr_ap, if_neg (by omega), t3, h3]
    · rw [wr_ap, if_neg (by omega), t4 i hi, h2]
theorem top_steps (hI : Inv c n0 M μ) (hc : c < 600) (a1 a2 : Int32) : TopM c n0 (Fh_steps M a1 a2) (Mo_steps μ a1 a2) := by
  obtain ⟨n, S, k, w, t, B, σ, bn, A, dep, J, N, e, qv, pv, wv, δt, ⟨a, a2', a3, a4, a5⟩, ⟨b1, b2, b3, b4⟩, ⟨hR, hX⟩, ⟨hR1, hX1, h10⟩, hcp, hSB, ⟨f1, f2, f3⟩, ⟨hN, hW⟩, hTX, hbad, hfin⟩ := top_try hI
  obtain ⟨x1, i1, rfl⟩ := zI_ex a1
  obtain ⟨x2, i2, rfl⟩ := zI_ex a2
  obtain ⟨μ1, u1, u2, u3⟩ := asNow_on f3
  obtain ⟨qv', pv', wv', cc', wb', kd', x', s1, s2, s3, s4⟩ := TX_SB (hTX δt μ1 u3.1)
  obtain ⟨hK, hm, hn, -⟩ := s1 _ h10
  have d6 : setS M t δt 0 0 6 = zI (t : Int) := by rw [setS_ne _ _ (by omega)]; exact b1
  have hcl : Fh_steps M (zI x1) (zI x2) = (bd (lft (setS M t δt) t (Wo_startFlush (setS M t δt) δt (zI x1) (zI x2) (7 : Int32) (0 : Int32))) fun r6 d7 => some (r6, d7)) := by
    rw [Fh_steps, b1, gref_z (by omega), a, gref_z (by omega), hcp, bd_some, d6, gref_z (by omega), setS_at]
  have hmo : Mo_steps μ (zI x1) (zI x2) = if decide (0 ≤ x1 ∧ x1 < (n : Int)) = true then if (decide (0 ≤ x2) && rgB S (x2 / 4) (x2 % 4 + 1)) = true then (bd (Mo_flushed μ1 (zI x1) (zI x2) (7 : Int32) (0 : Int32)) fun r6 d7 => some (r6, wr d7 34 25 (0 : Int32))) else some ((-1 : Int32), wr μ 34 2 (0 : Int32)) else some ((-1 : Int32), wr μ 34 2 (0 : Int32)) := by
    rw [Mo_steps, bnd_ap, m_isSpace hSB.2.1 hSB.2.2.1 i1, bp_some, bI_if, m_isRegion hSB.2.1 hSB.2.2.1 i2, bp_some, bI_if, u1, bd_some]
    rfl
  rw [hcl, hmo]
  cases c1 : fzB n S x1 x2 7 with
  | false =>
    refine ⟨zI (-1), setS M t δt, wr μ 34 2 (0 : Int32), ?_, ?_, hbad δt⟩
    · rw [show (7 : Int32) = zI 7 from rfl, flush_bad hK hn i1 i2 ⟨by omega, by omega⟩ (0 : Int32) c1, lft_some, bd_some, setS_setS]
    · unfold fzB at c1
      rw [show decide ((1 : Int) ≤ 7 ∧ (7 : Int) ≤ 7) = true by decide, Bool.and_true] at c1
      cases z1 : decide (0 ≤ x1 ∧ x1 < (n : Int)) with
      | false => rw [if_neg (by decide)]; rfl
      | true =>
        rw [z1, Bool.true_and] at c1
        rw [if_pos rfl, if_neg (by rw [c1]; decide)]; rfl
  | true =>
    obtain ⟨sf, p, t', hh, e1, e2⟩ := fl_good c1
    have kk := flush_wo (M := setS M t δt) hR1 hX1 (by omega) u3.2.1 hK hn hh (0 : Int32)
    rw [← e1, ← e2, u2] at kk
    unfold fzB at c1
    rw [Bool.and_eq_true, Bool.and_eq_true] at c1
    rw [if_pos c1.1.1, if_pos c1.1.2]
    obtain ⟨v, δ', σ', bn', μ', B', A', dep', J', N', k1, k2, -, -, -, k3, -⟩ := kk
    refine ⟨zI v, setS M t δ', wr (bst μ' 1 B') 34 25 (0 : Int32), ?_, ?_, hfin _ δ' _ (QU_refl _) (fun i => by rw [wr_ap, if_neg (by omega)]) (by rw [wr_ap, if_neg (by omega)]) (TR_bst (TR_SC u3 k3) B')⟩
    · rw [show (7 : Int32) = zI 7 from rfl, k1, lft_some, bd_some, setS_setS]
    · rw [show (7 : Int32) = zI 7 from rfl, k2, bd_some]
theorem tried_54 {n : Nat} {x : Int32} (hx : ¬ x = (4 : Int32)) (v2 v3 : Int32) (d : Sl) : Mo_tried_54 x v2 v3 d = Mo_tried_84 x v2 v3 d := by
  obtain ⟨f, hf⟩ : ∃ f, FU = f + 1 := ⟨999999, rfl⟩
  rw [Mo_tried_54, bnd_ap, hf, Mo_tried_57, if_neg hx]
  split <;> rfl
/-- tidying every space of a trial -/
theorem tried_l {n S k t : Nat} (hk : k < 2) (ht : 2 ≤ t) (ht2 : t < 1000) (h6 : M 0 0 6 = zI (t : Int)) {μ0 : Sl} (hTX : ∀ δ' μ', QU μ0 μ' → TX (setS M t δ') k μ' n S) (hn6 : n ≤ 6) {v2 v3 : Int32} : ∀ (m i f g : Nat) (δ μ1 : Sl) (σ : Nat → Nat) (bn : Nat) (B : Nat → Int) (A : Ab) (dep : Nat → Nat) (J : List Jb) (N e : Int), i + m = n → m < f → m < g → RC n S δ σ bn B A dep J N → WX (e, 0) n S δ B → δ 10 0 = zI (k : Int) → N + m < 2147483648 → TR0 μ0 μ1 →
    ∃ (r : Int32) (δ' μ' : Sl), Fh_tried_165 f (zI (i : Int)) (setS M t δ) = some (r, setS M t δ') ∧ Mo_tried_57 g (4 : Int32) v2 v3 (zI (i : Int)) (bst μ1 1 B) = some (r, wr μ' 34 25 (0 : Int32)) ∧ TR0 μ0 μ' := by
  have d6 : ∀ δ, setS M t δ 0 0 6 = zI (t : Int) := fun δ => by rw [setS_ne _ _ (by omega)]; exact h6
  intro m
  induction m with
  | zero =>
    intro i f g δ μ1 σ bn B A dep J N e hi hf hg hR hX h10 hN hT
    obtain ⟨f', rfl⟩ : ∃ f', f = f' + 1 := ⟨f - 1, by omega⟩
    obtain ⟨g', rfl⟩ : ∃ g', g = g' + 1 := ⟨g - 1, by omega⟩
    obtain ⟨qv, pv, wv, cc, wb, kd, x, s1, s2, s3, s4⟩ := TX_SB (hTX δ (bst μ1 1 B) (TR_bst hT B).1)
    obtain ⟨⟨k', y1, y2, y3, -⟩, -⟩ := s1 _ h10
    have ek : k' = k := zN (by omega) (by omega) (y1.symm.trans h10)
    rw [ek] at y3
    refine ⟨zI (nlv A : Int), δ, bst μ1 1 B, ?_, ?_, TR_bst hT B⟩
    · rw [Fh_tried_165, d6, gref_z (by omega), setS_at, h10, gref_z (by omega), y3, if_pos (by rw [zI_le (by omega) (by omega) (by omega) (by omega)]; omega), gref_z (by omega), setS_at, hR.2.1.2.2.2.1.1]
    · rw [Mo_tried_57, s3.1, if_pos (by rw [zI_le (by omega) (by omega) (by omega) (by omega)]; omega), Mo_tried_84, if_neg (by decide), if_neg (by decide), if_pos rfl, m_many hT.2.1 hR.1 hR.2.2.1, bp_some, Mo_tried_126, bnd_ap, bnd_ap]
  | succ m ih =>
    intro i f g δ μ1 σ bn B A dep J N e hi hf hg hR hX h10 hN hT
    obtain ⟨f', rfl⟩ : ∃ f', f = f' + 1 := ⟨f - 1, by omega⟩
    obtain ⟨g', rfl⟩ : ∃ g', g = g' + 1 := ⟨g - 1, by omega⟩
    obtain ⟨qv, pv, wv, cc, wb, kd, x, s1, s2, s3, s4⟩ := TX_SB (hTX δ μ1 hT.1)
    obtain ⟨⟨k', y1, y2, y3, y4⟩, hm, hn, -⟩ := s1 _ h10
    have ek : k' = k := zN (by omega) (by omega) (y1.symm.trans h10)
    rw [ek] at y3
    obtain ⟨v, δ', σ', bn', μ', B', A', dep', J', N', k1, k2, -, k3, k4, k5, k6, k7, k8⟩ := tidy_on (M := setS M t δ) hR hX (by omega) hT.2.1 (s1 _ h10).1 hm hn (s := i) (by omega)
    obtain ⟨r, δ2, μ2, t1, t2, t3⟩ := ih (i + 1) f' g' δ' μ' σ' bn' B' A' dep' J' N' e (by omega) (by omega) (by omega) k3 k4 (by rw [k6]; exact h10) (by omega) (TR_SC hT k5)
    refine ⟨r, δ2, μ2, ?_, ?_, t3⟩
    · rw [Fh_tried_165, d6, gref_z (by omega), setS_at, h10, gref_z (by omega), y3, if_neg (by rw [zI_le (by omega) (by omega) (by omega) (by omega)]; omega), gref_z (by omega), setS_at, k1, lft_some, bd_some, bnd_ap, zI_s1, setS_setS, t1]
    · have e11 : bst μ1 1 B 34 11 = zI (n : Int) := by rw [bst_ne _ _ _ (by omega)]; exact s3.1
      rw [Mo_tried_57, e11, if_neg (by rw [zI_le (by omega) (by omega) (by omega) (by omega)]; omega), if_pos rfl, k2, bd_some, bnd_ap, zI_s1, t2]
end
