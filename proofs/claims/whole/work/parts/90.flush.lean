/-! ===== flush: what both look at first ===== -/
def FN (n S : Nat) (sf p : Nat) (t r : Int) : Prop := sf < n ∧ 1 ≤ t ∧ t ≤ 4 ∧ rgP S (p : Int) t ∧ 1 ≤ r ∧ r ≤ 7
theorem FN_facts {n S : Nat} {qv : Nat → Int} {sf p : Nat} {t r : Int} (h : FN n S sf p t r) (hn : SN n S qv) : sf < 6 ∧ p + pg t ≤ S ∧ S ≤ 32 ∧ p % pg t = 0 ∧ 1 ≤ pg t ∧ pg t ≤ 8 := by
  obtain ⟨h1, h4, h5, h6, h8, h9⟩ := h
  obtain ⟨g1, g2, g3⟩ := hn
  have e1 := rg_end g2 h4 h5 h6
  have hp := pg_pos h4 h5
  have e3 := h6.2.2
  exact ⟨by omega, by omega, by omega, by omega, hp.1, hp.2⟩
def rtB (A : Ab) (x : Nat) : Bool := decide (A.1 3 x = 0)
theorem c_flush {n S : Nat} {A : Ab} {dep : Nat → Nat} {δ : Sl} {σ : Nat → Nat} {bn : Nat} {M : Mem} {qv : Nat → Int} (h : WF n S A dep) (hC : CRep δ σ bn A) (hK : SK M δ n S qv) (hn : SN n S qv) {sf p : Nat} {t r : Int} (hh : FN n S sf p t r) (a4 : Int32) :
    Wo_startFlush M δ (zI (sf : Int)) (zI (4 * (p : Int) + (t - 1))) (zI r) a4 = if thr A (32 * sf + p) t = [] then some (zI (-2), δ) else if (thr A (32 * sf + p) t).any (td A) = true then some (zI (-3), δ) else if a4 ≠ 0 ∧ (thr A (32 * sf + p) t).any (rtB A) = true then some (zI (-4), δ) else Wo_startFlush_75 M (zI (sf : Int)) (zI (4 * (p : Int) + (t - 1))) (zI r) a4 (zI (p : Int)) (zI (t - 1)) δ := by
  obtain ⟨f1, f3, f5, f6, f8, f9⟩ := FN_facts hh hn
  obtain ⟨a1, ht1, ht2, a5, a6, a7⟩ := hh
  have e4 : (4 * (p : Int) + (t - 1)) / 4 = (p : Int) := by omega
  have e5 : (4 * (p : Int) + (t - 1)) % 4 + 1 = t := by omega
  have h3 : zI (4 * (p : Int) + (t - 1)) &&& (3 : Int32) = zI (t - 1) := by rw [lz3, zI_a4 (by omega) (by omega), e5]
  have h2 : zI (4 * (p : Int) + (t - 1)) >>> ((2 : Int32) &&& 31) = zI (p : Int) := by rw [lz2, show (31 : Int32) = zI 31 from rfl, zI_shr2 (by omega) (by omega), e4]
  have g2 := c_isRegionOf hK hn (x1 := (sf : Int)) (x2 := 4 * (p : Int) + (t - 1)) ⟨by omega, by omega⟩ ⟨by omega, by omega⟩
  have g4 := c_rights (x := r) ⟨by omega, by omega⟩
  rw [decide_eq_true (show 0 ≤ (sf : Int) ∧ (sf : Int) < (n : Int) by omega), decide_eq_true (show 0 ≤ 4 * (p : Int) + (t - 1) by omega), e4, e5, rgB_t a5] at g2
  rw [decide_eq_true (show 1 ≤ r ∧ r ≤ 7 from ⟨a6, a7⟩)] at g4
  have g5 := c_seen h hC M f1 ht1 ht2 (p := p) (by omega) f6
  unfold Wo_startFlush
  rw [g2, bp_some, bI_if, if_pos (by rfl), g4, bp_some, bI_if, if_pos rfl, bnd_ap, h2, bnd_ap, h3, g5, bp_some, bnd_ap]
  unfold snl
  generalize hL : thr A (32 * sf + p) t = L at *
  by_cases c1 : L = []
  · rw [if_pos (by rw [svv_a1, c1]; rfl), if_pos c1]; rfl
  · rw [if_neg (by rw [svv_a1]; cases L with | nil => exact absurd rfl c1 | cons _ _ => simp), if_neg c1]
    by_cases c2 : L.any (td A) = true
    · rw [if_neg (by rw [svv_a4, c2]; simp), if_pos c2]; rfl
    · rw [if_pos (by rw [svv_a4]; simpa using c2), if_neg c2]
      by_cases c3 : a4 = 0
      · rw [if_pos c3, if_neg (fun z => z.1 c3)]
      · rw [if_neg c3]
        by_cases c4 : L.any (rtB A) = true
        · have c4' : (L.any fun x => decide (A.1 3 x = 0)) = true := c4
          rw [if_neg (by rw [svv_a8, c4']; simp), if_pos ⟨c3, c4⟩]; rfl
        · have c4' : (L.any fun x => decide (A.1 3 x = 0)) = false := by
            cases z : (L.any fun x => decide (A.1 3 x = 0)) with
            | false => rfl
            | true => exact absurd z c4
          rw [if_pos (by rw [svv_a8, c4']), if_neg (fun z => c4 z.2)]
theorem m_flush_roots {n S : Nat} {A : Ab} {dep : Nat → Nat} {t : Int} {q0 : Nat} {b : Nat} {μ : Sl} {B : Nat → Int} (hb : MB μ b) (h : WF n S A dep) (hM : MRep B A) (ht1 : 1 ≤ t) (ht2 : t ≤ 4) (hq : q0 + pg t ≤ 192) (hT : TH μ (thr A q0 t)) (v1 v3 v4 v5 v6 : Int32) : ∀ (q pre : List Nat) (k : Nat), thr A q0 t = pre ++ q → q.length < k →
    Mo_flushed_42 k v1 v3 v4 v5 v6 (zI (pre.length : Int)) (bst μ b B) = if v4 ≠ 0 ∧ q.any (rtB A) = true then some (zI (-4), bst μ b B) else Mo_flushed_79 v1 v3 v4 v5 v6 (bst μ b B) := by
  have hlen8 := thr_len (A := A) (q := q0) ht1 ht2
  intro q
  induction q with
  | nil =>
    intro pre k hl hk
    obtain ⟨c, rfl⟩ : ∃ c, k = c + 1 := ⟨k - 1, by omega⟩
    simp at hl
    have e30 : bst μ b B 34 30 = zI (pre.length : Int) := by rw [bst_ne _ _ _ (by decide)]; rw [← hl]; exact hT.1
    rw [hl] at hlen8
    rw [Mo_flushed_42, e30, if_pos (by rw [zI_le (by omega) (by omega) (by omega) (by omega)]; omega), if_neg (by simp)]
  | cons x q ih =>
    intro pre k hl hk
    obtain ⟨c, rfl⟩ : ∃ c, k = c + 1 := ⟨k - 1, by omega⟩
    have hlen : (thr A q0 t).length = pre.length + q.length + 1 := by rw [hl]; simp; omega
    have e30 : bst μ b B 34 30 = zI ((pre.length + q.length + 1 : Nat) : Int) := by rw [bst_ne _ _ _ (by decide), hT.1, hlen]
    have hlx : bst μ b B 47 pre.length = zI (x : Int) := by rw [bst_ne _ _ _ (by decide)]; exact hT.2 pre.length x (by rw [hl]; simp)
    have hx0 := thr_mem h ht1 ht2 hq (x := x) (by rw [hl]; simp)
    have hx192 := hx0.1
    have t3 := (hM.2.1 x hx0).2.2.1
    have hgv := m_giver hb (B := B) hx192
    rw [t3] at hgv
    have hrec := ih (pre ++ [x]) c (by rw [hl]; simp) (by simp at hk; omega)
    have hplen : (pre ++ [x]).length = pre.length + 1 := by simp
    have hib : inb (zI (pre.length : Int)) 8 := by rw [zI_inb (by omega) (by omega)]; omega
    have hgr : A.1 3 x = 0 ∨ (1 ≤ A.1 3 x ∧ A.1 3 x ≤ 192) := by
      rcases h.2.2.2.2.1 x hx0 with z | ⟨g, z1, z2, -⟩
      · exact .inl z.1
      · have := z2.1; exact .inr (by omega)
    rw [Mo_flushed_42, e30, if_neg (by rw [zI_le (by omega) (by omega) (by omega) (by omega)]; omega)]
    by_cases c3 : v4 = 0
    · rw [if_pos c3, if_neg (fun z => z.1 c3)]
    · rw [if_neg c3, if_pos hib, zI_ix (by omega) (by omega), Int.toNat_natCast, hlx, hgv, bp_some]
      rcases hgr with z | ⟨z1, z2⟩
      · rw [if_neg (by rw [zI_lit, zI_le (by omega) (by omega) (by omega) (by omega)]; omega), if_pos ⟨c3, by simp [rtB, z]⟩]; rfl
      · have hx3 : rtB A x = false := decide_eq_false (by omega)
        rw [if_pos (by rw [zI_lit, zI_le (by omega) (by omega) (by omega) (by omega)]; omega), bnd_ap, show (1 : Int32) = zI 1 from rfl, zI_add]
        rw [hplen] at hrec
        rw [show (pre.length : Int) + 1 = ((pre.length + 1 : Nat) : Int) by omega, hrec, List.any_cons, hx3, Bool.false_or]
theorem m_flush {n S : Nat} {A : Ab} {dep : Nat → Nat} {μ : Sl} {b : Nat} {B : Nat → Int} {qv : Nat → Int} (h : WF n S A dep) (hb : MB μ b) (hM : MRep B A) (h9 : T9 A) (hn : SN n S qv) {sf p : Nat} {t r : Int} (hh : FN n S sf p t r) (a4 : Int32) :
    ∃ μ', SC μ μ' ∧ TH μ' (thr A (32 * sf + p) t) ∧ Mo_flushed (bst μ b B) (zI (sf : Int)) (zI (4 * (p : Int) + (t - 1))) (zI r) a4 = if thr A (32 * sf + p) t = [] then some (zI (-2), bst μ' b B) else if (thr A (32 * sf + p) t).any (td A) = true then some (zI (-3), bst μ' b B) else if a4 ≠ 0 ∧ (thr A (32 * sf + p) t).any (rtB A) = true then some (zI (-4), bst μ' b B) else Mo_flushed_79 (zI (sf : Int)) (zI r) a4 (zI (t - 1)) (zI (p : Int)) (bst μ' b B) := by
  obtain ⟨f1, f3, f5, f6, f8, f9⟩ := FN_facts hh hn
  obtain ⟨a1, ht1, ht2, a5, a6, a7⟩ := hh
  have e4 : (4 * (p : Int) + (t - 1)) / 4 = (p : Int) := by omega
  have e5 : (4 * (p : Int) + (t - 1)) % 4 + 1 = t := by omega
  obtain ⟨μ', g1, hT, hS⟩ := m_looks hb h hM f1 ht1 ht2 (p := p) (by omega)
  refine ⟨μ', hS, hT, ?_⟩
  have hb' := SC_MB hS hb
  have hlv : ∀ x, x ∈ thr A (32 * sf + p) t → Lv A x := fun x hx => thr_mem h ht1 ht2 (by omega) hx
  have hl8 := thr_len (A := A) (q := 32 * sf + p) ht1 ht2
  have g2 := m_belowThere hb' h hM h9 hT hl8 hlv (thr A (32 * sf + p) t) [] FU rfl (FU_gt (by omega))
  have g4 := m_flush_roots hb' h hM ht1 ht2 (q0 := 32 * sf + p) (by omega) hT (zI (sf : Int)) (zI r) a4 (zI (t - 1)) (zI (p : Int)) (thr A (32 * sf + p) t) [] FU rfl (FU_gt (by omega))
  have e30 : bst μ' b B 34 30 = zI ((thr A (32 * sf + p) t).length : Int) := by rw [bst_ne _ _ _ (by decide)]; exact hT.1
  unfold Mo_flushed
  rw [if_pos four_ne, bnd_ap, if_pos four_ne, bnd_ap, lz4, zI_m4 (by omega) (by omega), e5, zI_div (by omega) (by omega) (by omega) (by omega), e4, g1, bd_some, e30]
  generalize hL : thr A (32 * sf + p) t = L at *
  by_cases c1 : L = []
  · rw [if_pos (by rw [c1]; rfl), if_pos c1]; rfl
  · have hlp : 0 < L.length := List.length_pos_iff.mpr c1
    rw [if_neg (by rw [zI_lit, zI_eq (by omega) (by omega) (by omega) (by omega)]; omega), if_neg c1]
    have g2' : Mo_isBusyBelowThere (bst μ' b B) = some (bI (L.any (td A))) := g2
    rw [g2', bp_some, bI_if]
    by_cases c2 : L.any (td A) = true
    · rw [if_pos c2, if_pos c2]; rfl
    · rw [if_neg c2, if_neg c2, bnd_ap]
      exact g4
