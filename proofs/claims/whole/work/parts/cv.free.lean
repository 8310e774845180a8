/-! ===== free ===== -/
theorem pgc_S {n S : Nat} {A : Ab} {dep : Nat → Nat} {qv : Nat → Int} (h : WF n S A dep) (hn : SN n S qv) {s : Nat} (hs : s < 6) : pgc A (32 * s) 32 ≤ S := by
  have hsub := fb_ct_sub (p := fun i => (cov A (32 * s + i)).isSome) (q := fun i => decide (i < S)) (n := 32) (fun k hk hp => by
    have hp' : (cov A (32 * s + k)).isSome = true := hp
    show decide (k < S) = true
    cases hc : cov A (32 * s + k) with
    | none => rw [hc] at hp'; cases hp'
    | some d =>
      obtain ⟨a1, a2, a3⟩ := cs_some (by omega) hc
      have a4 := (h.2.2.2.1 d a1).2.2.2.1
      have a5 := h.2.1
      refine decide_eq_true ?_
      omega)
  unfold pgc
  have e : fb_ct (fun i => decide (i < S)) 32 = S := by
    rcases hn.2.1 with z | z | z <;> subst z <;> decide
  rw [e] at hsub
  exact hsub
theorem c_room {n S : Nat} {A : Ab} {dep : Nat → Nat} {δ : Sl} {σ : Nat → Nat} {bn : Nat} {M : Mem} {qv : Nat → Int} (h : WF n S A dep) (hC : CRep δ σ bn A) (hK : SK M δ n S qv) (hn : SN n S qv) {s : Nat} (hs : s < n) (hq : s ≠ 0 → (pgc A (32 * s) 32 : Int) ≤ qv s) : Wo_roomOf M δ (zI (s : Int)) = some (zI ((if s = 0 then (S : Int) else if qv s < S then qv s else (S : Int)) - (pgc A (32 * s) 32 : Int))) := by
  obtain ⟨k, k1, k2, k3, k4, k5⟩ := hK
  have hn6 := hn.1
  have hp := pgc_S h hn (s := s) (by omega)
  have hS : S ≤ 32 := by rcases hn.2.1 with z | z | z <;> omega
  have key : ∀ x : Int, (pgc A (32 * s) 32 : Int) ≤ x → x ≤ 32 → Wo_roomOf_33 M δ (zI (s : Int)) (zI x) = some (zI (x - (pgc A (32 * s) 32 : Int))) := fun x h1 h2 => by
    rw [Wo_roomOf_33, bnd_ap, c_pagesOf hC (by omega), bp_some, zI_sub]
    by_cases z : 0 < x - (pgc A (32 * s) 32 : Int)
    · rw [if_pos (by rw [zI_lit, zI_lt (by omega) (by omega) (by omega) (by omega)]; exact z)]
    · rw [if_neg (by rw [zI_lit, zI_lt (by omega) (by omega) (by omega) (by omega)]; exact z), show x - (pgc A (32 * s) 32 : Int) = 0 by omega]; rfl
  rw [Wo_roomOf]
  by_cases z : s = 0
  · subst z
    rw [if_pos (by rfl), k1, gref_z k2, k4, if_pos rfl]
    exact key _ (by omega) (by omega)
  · have g := hn.2.2 s (by omega) hs
    have hq := hq z
    rw [if_neg (by rw [zI_lit, zI_eq (by omega) (by omega) (by omega) (by omega)]; omega), k1, gref_z k2, gref_z k2, if_pos (by rw [zI_inb (by omega) (by omega)]; omega), zI_ix (by omega) (by omega), Int.toNat_natCast, k4, k5 s (by omega) hs, if_neg z]
    by_cases y : qv s < S
    · rw [if_pos (by rw [zI_lt (by omega) (by omega) (by omega) (by omega)]; exact y), if_pos y]
      exact key _ (by omega) (by omega)
    · rw [if_neg (by rw [zI_lt (by omega) (by omega) (by omega) (by omega)]; exact y), if_neg y]
      exact key _ (by omega) (by omega)
theorem top_free {c n0 : Nat} {M : Mem} {μ : Sl} (hI : Inv c n0 M μ) (a1 : Int32) : TopQ c n0 M (Fh_free M a1) (Mo_free μ a1) := by
  obtain ⟨n, S, k, w, s, t, nx, κ, B, C, h0, hR, hk, hT, hP, hTB, ⟨h1, h2, h3⟩, hw, hKK⟩ := id hI
  obtain ⟨⟨r1, r2, r3, r4, r5⟩, ⟨b1, b2, b3, b4, b5, b6, b7, b8, b9, b10, b11, b12⟩, hc1, hi⟩ := id hR
  obtain ⟨σ, bn, A, dep, J, N, e, w1, w2, w3, w4, w5⟩ := id hw
  have hq1 : QU μ (wr μ 34 2 (0 : Int32)) := QU_wr μ (i := 2) 0 (by omega)
  have hT0 : TX M k (wr μ 34 2 (0 : Int32)) n S := TX_keep hT (fun _ _ _ _ => rfl) hq1
  obtain ⟨qv, pv, wv, cc, wb, kd, x, t1, t2, t3, t4⟩ := TX_SB hT0
  have hQ : QB n qv B := QJ_QU hKK.2.1 hq1 qv t3 t4
  have hb0 : MB (wr μ 34 2 (0 : Int32)) 0 := ⟨by rw [wr_ap, if_neg (by omega)]; exact h1.1, h1.2⟩
  have hbs : bst (wr μ 34 2 (0 : Int32)) 0 B = wr μ 34 2 (0 : Int32) := bst_BK (BK_wr h2 (by omega))
  obtain ⟨hK, hm, hn, -⟩ := t1 _ w3
  have hn6 := hn.1
  have hS : S ≤ 32 := by rcases hn.2.1 with z | z | z <;> omega
  obtain ⟨x1, i1, rfl⟩ := zI_ex a1
  have his := c_isSpace hK hn i1
  have him := m_isSpace t3 t4 i1
  by_cases z : 0 ≤ x1 ∧ x1 < (n : Int)
  · obtain ⟨s0, rfl⟩ : ∃ s0 : Nat, x1 = (s0 : Int) := ⟨x1.toNat, by omega⟩
    have hs0 : s0 < n := by omega
    have hp := pgc_S w1.1 hn (s := s0) (by omega)
    have hq : s0 ≠ 0 → (pgc A (32 * s0) 32 : Int) ≤ qv s0 := fun y => by
      have := hQ s0 (by omega) hs0
      rw [pgF_MR w1.2.2.1 (by omega), pgF_pgc w1.1 (by omega)] at this
      exact this
    have hro := c_room w1.1 w1.2.1 hK hn hs0 hq
    have hmo := m_most t3 t4 hs0
    have hsz : Mo_size (wr μ 34 2 (0 : Int32)) = some (zI (S : Int)) := by
      rw [Mo_size, if_pos (by decide), show ix (3 : Int32) = 3 from rfl, t3.2.1]
    have hpi := m_pagesIn hb0 w1.1 w1.2.2.1 t3.2.1 (s := s0) (by omega)
    rw [hbs] at hpi
    refine ⟨zI ((if s0 = 0 then (S : Int) else if qv s0 < S then qv s0 else (S : Int)) - (pgc A (32 * s0) 32 : Int)), wr μ 34 2 (0 : Int32), ?_, ?_, inv_wr hI 0⟩
    · rw [Fh_free, r1, gref_z (by omega), his, bp_some, bI_if, if_pos (decide_eq_true z), gref_z (by omega), hro, bp_some]
    · rw [Mo_free, bnd_ap, him, bp_some, bI_if, if_pos (decide_eq_true z), hmo, bp_some, hsz, bp_some, bp_some, bp_some]
      by_cases y : s0 = 0
      · rw [if_pos y, if_pos y, if_pos (by rw [zI_le (by omega) (by omega) (by omega) (by omega)]; omega), Mo_free_39, bnd_ap, hpi, bp_some, zI_sub]
      · have g := hn.2.2 s0 (by omega) hs0
        rw [if_neg y, if_neg y]
        by_cases v : qv s0 < S
        · rw [if_neg (by rw [zI_le (by omega) (by omega) (by omega) (by omega)]; omega), if_pos v, Mo_free_39, bnd_ap, hpi, bp_some, zI_sub]
        · rw [if_pos (by rw [zI_le (by omega) (by omega) (by omega) (by omega)]; omega), if_neg v, Mo_free_39, bnd_ap, hpi, bp_some, zI_sub]
  · refine ⟨(-1 : Int32), wr μ 34 2 (0 : Int32), ?_, ?_, inv_wr hI 0⟩
    · rw [Fh_free, r1, gref_z (by omega), his, bp_some, bI_if, if_neg (by rw [decide_eq_true_eq]; exact z)]
    · rw [Mo_free, bnd_ap, him, bp_some, bI_if, if_neg (by rw [decide_eq_true_eq]; exact z)]
