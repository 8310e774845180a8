/-! ===== handing on: what both look at first ===== -/
def qxd (A : Ab) (qv : Nat → Int) (st w : Nat) : Prop := st ≠ 0 ∧ qv st < (pgc A (32 * st) 32 : Int) + (w : Int)
def qxB (A : Ab) (qv : Nat → Int) (st w : Nat) : Bool := decide (st ≠ 0 ∧ qv st < (pgc A (32 * st) 32 : Int) + (w : Int))
theorem qxB_t {A : Ab} {qv : Nat → Int} {st w : Nat} (h : qxd A qv st w) : qxB A qv st w = true := decide_eq_true h
theorem qxB_f {A : Ab} {qv : Nat → Int} {st w : Nat} (h : ¬ qxd A qv st w) : qxB A qv st w = false := decide_eq_false h
def HN (n S : Nat) (sf st p p1 : Nat) (t r : Int) : Prop := sf < n ∧ st < n ∧ sf ≠ st ∧ 1 ≤ t ∧ t ≤ 4 ∧ rgP S (p : Int) t ∧ rgP S (p1 : Int) t ∧ 1 ≤ r ∧ r ≤ 7
theorem HN_facts {n S : Nat} {qv : Nat → Int} {sf st p p1 : Nat} {t r : Int} (h : HN n S sf st p p1 t r) (hn : SN n S qv) : sf < 6 ∧ st < 6 ∧ p + pg t ≤ S ∧ p1 + pg t ≤ S ∧ S ≤ 32 ∧ p % pg t = 0 ∧ p1 % pg t = 0 ∧ 1 ≤ pg t ∧ pg t ≤ 8 := by
  obtain ⟨h1, h2, h3, h4, h5, h6, h7, h8, h9⟩ := h
  obtain ⟨g1, g2, g3⟩ := hn
  have e1 := rg_end g2 h4 h5 h6
  have e2 := rg_end g2 h4 h5 h7
  have hp := pg_pos h4 h5
  have e3 := h6.2.2
  have e4 := h7.2.2
  refine ⟨by omega, by omega, by omega, by omega, by omega, by omega, by omega, hp.1, hp.2⟩
theorem al32 {s p : Nat} {t : Int} (ht1 : 1 ≤ t) (ht2 : t ≤ 4) (h : p % pg t = 0) : (32 * s + p) % pg t = 0 := by
  rcases pg_cases ht1 ht2 with ⟨-, e⟩ | ⟨-, e⟩ | ⟨-, e⟩ | ⟨-, e⟩ <;> rw [e] at h ⊢ <;> omega
theorem pgc_room {A : Ab} {s p w : Nat} (hp : p + w ≤ 32) (h : pgc A (32 * s + p) w = 0) : pgc A (32 * s) 32 + w ≤ 32 := by
  have h1 : pgc A (32 * s) 32 = pgc A (32 * s) p + pgc A (32 * s + p) (32 - p) := by
    have := fb_ct_split (fun i => (cov A (32 * s + i)).isSome) p (32 - p)
    rw [show p + (32 - p) = 32 by omega] at this
    unfold pgc
    rw [this]
    congr 1
    exact fb_ct_cong fun k _ => by rw [Nat.add_assoc]
  have h2 : pgc A (32 * s + p) (32 - p) = pgc A (32 * s + p) w + pgc A (32 * s + p + w) (32 - p - w) := by
    have := fb_ct_split (fun i => (cov A (32 * s + p + i)).isSome) w (32 - p - w)
    rw [show w + (32 - p - w) = 32 - p by omega] at this
    unfold pgc
    rw [this]
    congr 1
    exact fb_ct_cong fun k _ => by rw [← Nat.add_assoc]
  have h3 : pgc A (32 * s) p ≤ p := fb_ct_le _ _
  have h4 : pgc A (32 * s + p + w) (32 - p - w) ≤ 32 - p - w := fb_ct_le _ _
  omega
theorem c_quota {n S : Nat} {A : Ab} {δ : Sl} {σ : Nat → Nat} {bn : Nat} {M : Mem} {qv : Nat → Int} (hC : CRep δ σ bn A) (hK : SK M δ n S qv) (hn : SN n S qv) {st w : Nat} (hsn : st < n) (hw : w ≤ 64) : Wo_exceedsQuota M δ (zI (st : Int)) (zI (w : Int)) = some (bI (qxB A qv st w)) := by
  obtain ⟨k, h1, h2, h3, h4, h5⟩ := hK
  have hs : st < 6 := by have := hn.1; omega
  unfold Wo_exceedsQuota
  by_cases z : st = 0
  · rw [if_pos (by rw [z]; rfl), qxB_f (fun c => c.1 z)]; rfl
  · obtain ⟨q1, q2⟩ := hn.2.2 st (by omega) hsn
    have hp : pgc A (32 * st) 32 ≤ 32 := fb_ct_le _ _
    rw [if_neg (by rw [zI_lit, zI_eq (by omega) (by omega) (by omega) (by omega)]; omega), c_pagesOf hC hs, bp_some, h1, gref_z h2, if_pos (by rw [zI_inb (by omega) (by omega)]; omega), zI_ix (by omega) (by omega), Int.toNat_natCast, h5 st (by omega) hsn, zI_add]
    by_cases c : qxd A qv st w
    · have := c.2
      rw [if_neg (by rw [zI_le (by omega) (by omega) (by omega) (by omega)]; omega), qxB_t c]; rfl
    · have : ¬ qv st < (pgc A (32 * st) 32 : Int) + (w : Int) := fun y => c ⟨z, y⟩
      rw [if_pos (by rw [zI_le (by omega) (by omega) (by omega) (by omega)]; omega), qxB_f c]; rfl
theorem m_most {n S : Nat} {μ : Sl} {qv : Nat → Int} (hm : SM μ n S qv) (hn : SN n S qv) {st : Nat} (hsn : st < n) : Mo_mostOf μ (zI (st : Int)) = some (zI (if st = 0 then 32 else qv st)) := by
  have hs : st < 6 := by have := hn.1; omega
  unfold Mo_mostOf
  by_cases z : st = 0
  · rw [if_pos (by rw [z]; rfl), if_pos z]; rfl
  · obtain ⟨q1, q2⟩ := hn.2.2 st (by omega) hsn
    rw [if_neg (by rw [zI_lit, zI_eq (by omega) (by omega) (by omega) (by omega)]; omega), if_neg z, if_pos (by rw [zI_inb (by omega) (by omega)]; omega), zI_ix (by omega) (by omega), Int.toNat_natCast]
    rcases hm.2.2 st (by omega) hsn with e | ⟨e1, e2⟩
    · rw [e, if_neg (by rw [zI_lit, zI_eq (by omega) (by omega) (by omega) (by omega)]; omega), if_pos (by rw [zI_inb (by omega) (by omega)]; omega)]
    · rw [e2, if_pos (show zI 0 = 0 from rfl), e1]; rfl
theorem c_hand {n S : Nat} {A : Ab} {dep : Nat → Nat} {δ : Sl} {σ : Nat → Nat} {bn : Nat} {M : Mem} {qv : Nat → Int} (h : WF n S A dep) (hC : CRep δ σ bn A) (hK : SK M δ n S qv) (hn : SN n S qv) {sf st p p1 : Nat} {t r : Int} (hh : HN n S sf st p p1 t r) :
    Wo_handOn M δ (zI (sf : Int)) (zI (4 * (p : Int) + (t - 1))) (zI (st : Int)) (zI (p1 : Int)) (zI r) = if thr A (32 * sf + p) t = [] then some (zI (-2), δ) else if (thr A (32 * sf + p) t).any (bsy A) = true then some (zI (-3), δ) else if pgc A (32 * st + p1) (pg t) ≠ 0 then some (zI (-4), δ) else if sW A t r (thr A (32 * sf + p) t) = 0 then some (zI (-5), δ) else if qxB A qv st (sW A t r (thr A (32 * sf + p) t)) = true then some (zI (-6), δ) else Wo_makeHeirs M δ (zI (sf : Int)) (zI (4 * (p : Int) + (t - 1))) (zI (st : Int)) (zI (p1 : Int)) (zI r) := by
  obtain ⟨f1, f2, f3, f4, f5, f6, f7, f8, f9⟩ := HN_facts hh hn
  obtain ⟨a1, a2, a3, ht1, ht2, a4, a5, a6, a7⟩ := hh
  have e4 : (4 * (p : Int) + (t - 1)) / 4 = (p : Int) := by omega
  have e5 : (4 * (p : Int) + (t - 1)) % 4 + 1 = t := by omega
  have h3 : zI (4 * (p : Int) + (t - 1)) &&& (3 : Int32) = zI (t - 1) := by rw [lz3, zI_a4 (by omega) (by omega), e5]
  have h2 : zI (4 * (p : Int) + (t - 1)) >>> ((2 : Int32) &&& 31) = zI (p : Int) := by rw [lz2, show (31 : Int32) = zI 31 from rfl, zI_shr2 (by omega) (by omega), e4]
  have g1 := c_areTwo hK hn (x1 := (sf : Int)) (x3 := (st : Int)) ⟨by omega, by omega⟩ ⟨by omega, by omega⟩
  have g2 := c_isRegionOf hK hn (x1 := (sf : Int)) (x2 := 4 * (p : Int) + (t - 1)) ⟨by omega, by omega⟩ ⟨by omega, by omega⟩
  have g3 := c_isRegion hK hn (x := (p1 : Int)) ⟨by omega, by omega⟩ ht1 ht2
  have g4 := c_rights (x := r) ⟨by omega, by omega⟩
  rw [decide_eq_true (show 0 ≤ (sf : Int) ∧ (sf : Int) < (n : Int) by omega), decide_eq_true (show 0 ≤ (st : Int) ∧ (st : Int) < (n : Int) by omega), decide_eq_true (show (sf : Int) ≠ (st : Int) by omega)] at g1
  rw [decide_eq_true (show 0 ≤ (sf : Int) ∧ (sf : Int) < (n : Int) by omega), decide_eq_true (show 0 ≤ 4 * (p : Int) + (t - 1) by omega), e4, e5, rgB_t a4] at g2
  rw [rgB_t a5] at g3
  rw [decide_eq_true (show 1 ≤ r ∧ r ≤ 7 from ⟨a6, a7⟩)] at g4
  have g5 := c_seen h hC M f1 ht1 ht2 (p := p) (by omega) f6
  have g6 := c_pagesIn hC f2 (fr := p1) (n := pg t) (by omega)
  have g7 := c_pagesWith h hC M f1 ht1 ht2 (p := p) (r := r) (by omega) (by omega) a7
  have g8 := pW_sum h r ht1 ht2 (q := 32 * sf + p) (by omega) (al32 ht1 ht2 f6) (by omega)
  have hw : fb_ct (pW A r (32 * sf + p)) (pg t) ≤ pg t := fb_ct_le _ _
  rw [g8] at g7 hw
  have g9 := c_quota hC hK hn a2 (w := sW A t r (thr A (32 * sf + p) t)) (by omega)
  have hpc : pgc A (32 * st + p1) (pg t) ≤ pg t := fb_ct_le _ _
  unfold Wo_handOn
  rw [bnd_ap, g1, bp_some, bI_if, if_pos (by rfl), g2, bp_some, bI_if, if_pos (by rfl), h3, g3, bp_some, bI_if, if_pos rfl, g4, bp_some, bI_if, if_pos rfl, bnd_ap, h2, g5, bp_some, bnd_ap]
  unfold snl
  generalize hL : thr A (32 * sf + p) t = L at *
  by_cases c1 : L = []
  · rw [if_pos (by rw [svv_a1, c1]; rfl), if_pos c1]; rfl
  · rw [if_neg (by rw [svv_a1]; cases L with | nil => exact absurd rfl c1 | cons _ _ => simp), if_neg c1]
    by_cases c2 : L.any (bsy A) = true
    · rw [if_neg (by rw [svv_a2, c2]; simp), if_pos c2]; rfl
    · rw [if_pos (by rw [svv_a2]; simpa using c2), if_neg c2, show (1 : Int32) = zI 1 from rfl, show (31 : Int32) = zI 31 from rfl, zI_pg ht1 ht2, g6, bp_some]
      by_cases c3 : pgc A (32 * st + p1) (pg t) = 0
      · rw [if_pos (by rw [zI_lit, zI_le (by omega) (by omega) (by omega) (by omega)]; omega), if_neg (by simpa using c3), g7, bp_some, bnd_ap]
        by_cases c4 : sW A t r L = 0
        · rw [if_pos (by rw [c4]; rfl), if_pos c4]; rfl
        · rw [if_neg (by rw [zI_lit, zI_eq (by omega) (by omega) (by omega) (by omega)]; omega), if_neg c4, g9, bp_some, bI_if]
          by_cases c5 : qxB A qv st (sW A t r L) = true
          · rw [if_pos c5, if_pos c5]; rfl
          · rw [if_neg c5, if_neg c5]
            cases Wo_makeHeirs M δ (zI (sf : Int)) (zI (4 * (p : Int) + (t - 1))) (zI (st : Int)) (zI (p1 : Int)) (zI r) with
            | none => rfl
            | some y => rfl
      · rw [if_neg (by rw [zI_lit, zI_le (by omega) (by omega) (by omega) (by omega)]; omega), if_pos c3]; rfl
