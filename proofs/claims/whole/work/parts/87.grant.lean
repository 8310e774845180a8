/-! ===== giving away: what both look at first ===== -/
theorem sG_le {A : Ab} {t : Int} (ht1 : 1 ≤ t) (ht2 : t ≤ 4) : ∀ (l : List Nat), (∀ x, x ∈ l → 1 ≤ A.1 0 x) → sG A t l ≤ 8 * l.length := by
  intro l
  unfold sG
  induction l with
  | nil => intro _; simp
  | cons x l ih =>
    intro hl
    have h1 := ih (fun y hy => hl y (by simp [hy]))
    have hx := hl x (by simp)
    have hm : pg (mo A t x) ≤ 8 := by
      unfold mo
      split
      · exact (pg_pos ht1 ht2).2
      · exact (pg_pos hx (by omega)).2
    simp at *; omega
theorem m_grant_pages {n S : Nat} {A : Ab} {dep : Nat → Nat} {t : Int} {q0 : Nat} {b : Nat} {μ : Sl} {B : Nat → Int} (hb : MB μ b) (h : WF n S A dep) (hM : MRep B A) (ht1 : 1 ≤ t) (ht2 : t ≤ 4) (hq : q0 + pg t ≤ 192) (hT : TH μ (thr A q0 t)) (sf st p1 p : Int32) : ∀ (q pre : List Nat) (k : Nat), thr A q0 t = pre ++ q → q.length < k →
    Mo_granted_60 k sf st p1 (zI (t - 1)) p (zI (sG A t pre : Int)) (zI (pre.length : Int)) (bst μ b B) = (bp (Mo_pagesIn (bst μ b B) st) fun r16 => bp (Mo_mostOf (bst μ b B) st) fun r17 => if r16 + zI (sG A t (thr A q0 t) : Int) ≤ r17 then (bd (Mo_cuts (bst μ b B) sf p (zI (t - 1))) fun _ d9 => bd (Mo_looks d9 sf p (zI (t - 1))) fun _ d11 => Mo_granted_156 FU st p1 p (zI 0) d11) else some (zI (-5), bst μ b B)) := by
  have hlen8 := thr_len (A := A) (q := q0) ht1 ht2
  have hmem : ∀ x, x ∈ thr A q0 t → Lv A x := fun x hx => thr_mem h ht1 ht2 hq hx
  have hpt := pg_pos ht1 ht2
  intro q
  induction q with
  | nil =>
    intro pre k hl hk
    obtain ⟨c, rfl⟩ : ∃ c, k = c + 1 := ⟨k - 1, by omega⟩
    simp at hl
    have e30 : bst μ b B 34 30 = zI (pre.length : Int) := by rw [bst_ne _ _ _ (by decide)]; rw [← hl]; exact hT.1
    rw [hl] at hlen8 ⊢
    rw [Mo_granted_60, e30, if_pos (by rw [zI_le (by omega) (by omega) (by omega) (by omega)]; omega)]
    rfl
  | cons x q ih =>
    intro pre k hl hk
    obtain ⟨c, rfl⟩ : ∃ c, k = c + 1 := ⟨k - 1, by omega⟩
    have hlen : (thr A q0 t).length = pre.length + q.length + 1 := by rw [hl]; simp; omega
    have e30 : bst μ b B 34 30 = zI ((pre.length + q.length + 1 : Nat) : Int) := by rw [bst_ne _ _ _ (by decide), hT.1, hlen]
    have hlx : bst μ b B 47 pre.length = zI (x : Int) := by rw [bst_ne _ _ _ (by decide)]; exact hT.2 pre.length x (by rw [hl]; simp)
    have hx0 := hmem x (by rw [hl]; simp)
    have hx192 := hx0.1
    have hx02 := hx0.2
    obtain ⟨w1, -⟩ := h.2.2.2.1 x hx0
    have hpg := m_pages hb h hM hx192
    have hl2 : thr A q0 t = (pre ++ [x]) ++ q := by rw [hl]; simp
    have hrec := ih (pre ++ [x]) c hl2 (by simp at hk; omega)
    have hpx := pg_pos (o := A.1 0 x) (by omega) (by omega)
    have hsn := sG_snoc A t pre x
    have hplen : (pre ++ [x]).length = pre.length + 1 := by simp
    have hib : inb (zI (pre.length : Int)) 8 := by rw [zI_inb (by omega) (by omega)]; omega
    have h107 : ∀ v : Int, Mo_granted_107 (Mo_granted_60 c) sf st p1 (zI (t - 1)) p (zI (pre.length : Int)) (zI v) (zI (sG A t pre : Int)) (bst μ b B) = Mo_granted_60 c sf st p1 (zI (t - 1)) p (zI ((sG A t pre : Int) + v)) (zI ((pre ++ [x]).length : Int)) (bst μ b B) := fun v => by
      unfold Mo_granted_107; rw [bnd_ap, bnd_ap, show (1 : Int32) = zI 1 from rfl, zI_add, zI_add, hplen]; rfl
    rw [Mo_granted_60, e30, if_neg (by rw [zI_le (by omega) (by omega) (by omega) (by omega)]; omega), if_pos hib, if_pos hib, zI_ix (by omega) (by omega), Int.toNat_natCast, hlx, hpg, bp_some, bp_some, show (1 : Int32) = zI 1 from rfl, show (31 : Int32) = zI 31 from rfl, zI_pg ht1 ht2, h107, h107]
    by_cases hb' : t < A.1 0 x
    · rw [if_neg (by rw [zI_le (by omega) (by omega) (by omega) (by omega)]; have := pg_le (a := A.1 0 x) (c := t) (by omega) (by omega) ht1 ht2; omega), ← hrec, hsn, show mo A t x = t from if_pos hb']; rfl
    · rw [if_pos (by rw [zI_le (by omega) (by omega) (by omega) (by omega)]; have := pg_le (a := A.1 0 x) (c := t) (by omega) (by omega) ht1 ht2; omega), ← hrec, hsn, show mo A t x = A.1 0 x from if_neg hb']; rfl
theorem c_grant {n S : Nat} {A : Ab} {dep : Nat → Nat} {δ : Sl} {σ : Nat → Nat} {bn : Nat} {M : Mem} {qv : Nat → Int} (h : WF n S A dep) (hC : CRep δ σ bn A) (hK : SK M δ n S qv) (hn : SN n S qv) {sf st p p1 : Nat} {t : Int} (hh : HN n S sf st p p1 t 1) :
    Wo_giveAway M δ (zI (sf : Int)) (zI (4 * (p : Int) + (t - 1))) (zI (st : Int)) (zI (p1 : Int)) = if thr A (32 * sf + p) t = [] then some (zI (-2), δ) else if (thr A (32 * sf + p) t).any (td A) = true then some (zI (-3), δ) else if pgc A (32 * st + p1) (pg t) ≠ 0 then some (zI (-4), δ) else if qxB A qv st (pgc A (32 * sf + p) (pg t)) = true then some (zI (-5), δ) else bd (De_cut_3 FU (zI (sf : Int)) (zI (p : Int)) (zI (t - 1)) (zI 0) δ) fun _ d21 => Wo_giveAway_137 M FU (zI (sf : Int)) (zI (st : Int)) (zI (p1 : Int)) (zI (p : Int)) (zI (pg t : Int)) (zI 0) (zI 0) d21 := by
  obtain ⟨f1, f2, f3, f4, f5, f6, f7, f8, f9⟩ := HN_facts hh hn
  obtain ⟨a1, a2, a3, ht1, ht2, a4, a5, -, -⟩ := hh
  have e4 : (4 * (p : Int) + (t - 1)) / 4 = (p : Int) := by omega
  have e5 : (4 * (p : Int) + (t - 1)) % 4 + 1 = t := by omega
  have h3 : zI (4 * (p : Int) + (t - 1)) &&& (3 : Int32) = zI (t - 1) := by rw [lz3, zI_a4 (by omega) (by omega), e5]
  have h2 : zI (4 * (p : Int) + (t - 1)) >>> ((2 : Int32) &&& 31) = zI (p : Int) := by rw [lz2, show (31 : Int32) = zI 31 from rfl, zI_shr2 (by omega) (by omega), e4]
  have hpw : (1 : Int32) <<< (zI (t - 1) &&& 31) = zI (pg t : Int) := by rw [show (1 : Int32) = zI 1 from rfl, show (31 : Int32) = zI 31 from rfl, zI_pg ht1 ht2]
  have g1 := c_areTwo hK hn (x1 := (sf : Int)) (x3 := (st : Int)) ⟨by omega, by omega⟩ ⟨by omega, by omega⟩
  have g2 := c_isRegionOf hK hn (x1 := (sf : Int)) (x2 := 4 * (p : Int) + (t - 1)) ⟨by omega, by omega⟩ ⟨by omega, by omega⟩
  have g3 := c_isRegion hK hn (x := (p1 : Int)) ⟨by omega, by omega⟩ ht1 ht2
  rw [decide_eq_true (show 0 ≤ (sf : Int) ∧ (sf : Int) < (n : Int) by omega), decide_eq_true (show 0 ≤ (st : Int) ∧ (st : Int) < (n : Int) by omega), decide_eq_true (show (sf : Int) ≠ (st : Int) by omega)] at g1
  rw [decide_eq_true (show 0 ≤ (sf : Int) ∧ (sf : Int) < (n : Int) by omega), decide_eq_true (show 0 ≤ 4 * (p : Int) + (t - 1) by omega), e4, e5, rgB_t a4] at g2
  rw [rgB_t a5] at g3
  have g5 := c_seen h hC M f1 ht1 ht2 (p := p) (by omega) f6
  have g6 := c_pagesIn hC f2 (fr := p1) (n := pg t) (by omega)
  have g7 := c_pagesIn hC f1 (fr := p) (n := pg t) (by omega)
  have hw : pgc A (32 * sf + p) (pg t) ≤ pg t := fb_ct_le _ _
  have g9 := c_quota hC hK hn a2 (w := pgc A (32 * sf + p) (pg t)) (by omega)
  have hpc : pgc A (32 * st + p1) (pg t) ≤ pg t := fb_ct_le _ _
  unfold Wo_giveAway
  rw [bnd_ap, g1, bp_some, bI_if, if_pos (by rfl), g2, bp_some, bI_if, if_pos (by rfl), h3, g3, bp_some, bI_if, if_pos rfl, bnd_ap, h2, bnd_ap, hpw, g5, bp_some, bnd_ap]
  unfold snl
  generalize hL : thr A (32 * sf + p) t = L at *
  by_cases c1 : L = []
  · rw [if_pos (by rw [svv_a1, c1]; rfl), if_pos c1]; rfl
  · rw [if_neg (by rw [svv_a1]; cases L with | nil => exact absurd rfl c1 | cons _ _ => simp), if_neg c1]
    by_cases c2 : L.any (td A) = true
    · rw [if_neg (by rw [svv_a4, c2]; simp), if_pos c2]; rfl
    · rw [if_pos (by rw [svv_a4]; simpa using c2), if_neg c2, g6, bp_some]
      by_cases c3 : pgc A (32 * st + p1) (pg t) = 0
      · rw [if_pos (by rw [zI_lit, zI_le (by omega) (by omega) (by omega) (by omega)]; omega), if_neg (by simpa using c3), g7, bp_some, g9, bp_some, bI_if]
        by_cases c5 : qxB A qv st (pgc A (32 * sf + p) (pg t)) = true
        · rw [if_pos c5, if_pos c5]; rfl
        · rw [if_neg c5, if_neg c5]; rfl
      · rw [if_neg (by rw [zI_lit, zI_le (by omega) (by omega) (by omega) (by omega)]; omega), if_pos c3]; rfl
theorem m_grant {n S : Nat} {A : Ab} {dep : Nat → Nat} {μ : Sl} {b : Nat} {B : Nat → Int} {qv : Nat → Int} (h : WF n S A dep) (hb : MB μ b) (hM : MRep B A) (h9 : T9 A) (hm : SM μ n S qv) (hn : SN n S qv) {sf st p p1 : Nat} {t : Int} (hh : HN n S sf st p p1 t 1) :
    ∃ μ', SC μ μ' ∧ TH μ' (thr A (32 * sf + p) t) ∧ Mo_granted (bst μ b B) (zI (sf : Int)) (zI (4 * (p : Int) + (t - 1))) (zI (st : Int)) (zI (p1 : Int)) = if thr A (32 * sf + p) t = [] then some (zI (-2), bst μ' b B) else if (thr A (32 * sf + p) t).any (td A) = true then some (zI (-3), bst μ' b B) else if pgc A (32 * st + p1) (pg t) ≠ 0 then some (zI (-4), bst μ' b B) else if qxB A qv st (pgc A (32 * sf + p) (pg t)) = true then some (zI (-5), bst μ' b B) else (bd (Mo_cuts (bst μ' b B) (zI (sf : Int)) (zI (p : Int)) (zI (t - 1))) fun _ d9 => bd (Mo_looks d9 (zI (sf : Int)) (zI (p : Int)) (zI (t - 1))) fun _ d11 => Mo_granted_156 FU (zI (st : Int)) (zI (p1 : Int)) (zI (p : Int)) (zI 0) d11) := by
  obtain ⟨f1, f2, f3, f4, f5, f6, f7, f8, f9⟩ := HN_facts hh hn
  obtain ⟨a1, a2, a3, ht1, ht2, a4, a5, -, -⟩ := hh
  have e4 : (4 * (p : Int) + (t - 1)) / 4 = (p : Int) := by omega
  have e5 : (4 * (p : Int) + (t - 1)) % 4 + 1 = t := by omega
  obtain ⟨μ', g1, hT, hS⟩ := m_looks hb h hM f1 ht1 ht2 (p := p) (by omega)
  refine ⟨μ', hS, hT, ?_⟩
  have hb' := SC_MB hS hb
  have hm' := SC_SM hS hm
  have hlv : ∀ x, x ∈ thr A (32 * sf + p) t → Lv A x := fun x hx => thr_mem h ht1 ht2 (by omega) hx
  have hl8 := thr_len (A := A) (q := 32 * sf + p) ht1 ht2
  have g2 := m_belowThere hb' h hM h9 hT hl8 hlv (thr A (32 * sf + p) t) [] FU rfl (FU_gt (by omega))
  have g3 := m_free hb' h hM f2 ht1 ht2 (p := p1) (by omega)
  have g4 := m_grant_pages hb' h hM ht1 ht2 (q0 := 32 * sf + p) (by omega) hT (zI (sf : Int)) (zI (st : Int)) (zI (p1 : Int)) (zI (p : Int)) (thr A (32 * sf + p) t) [] FU rfl (FU_gt (by omega))
  have g5 := m_pagesIn hb' h hM hm'.2.1 f2
  have g6 := m_most (bst_SM b B hm') hn a2
  have g8 := sG_pgc h ht1 ht2 (q := 32 * sf + p) (by omega) (al32 ht1 ht2 f6) (by omega)
  have hw : pgc A (32 * sf + p) (pg t) ≤ pg t := fb_ct_le _ _
  rw [g8] at g4
  have e30 : bst μ' b B 34 30 = zI ((thr A (32 * sf + p) t).length : Int) := by rw [bst_ne _ _ _ (by decide)]; exact hT.1
  have hpp : pgc A (32 * st) 32 ≤ 32 := fb_ct_le _ _
  have hroom : pgc A (32 * st + p1) (pg t) = 0 → pgc A (32 * st) 32 + pg t ≤ 32 := pgc_room (by omega)
  unfold Mo_granted
  rw [if_pos four_ne, bnd_ap, if_pos four_ne, bnd_ap, lz4, zI_m4 (by omega) (by omega), e5, zI_div (by omega) (by omega) (by omega) (by omega), e4, g1, bd_some, e30]
  generalize hL : thr A (32 * sf + p) t = L at *
  by_cases c1 : L = []
  · rw [if_pos (by rw [c1]; rfl), if_pos c1]; rfl
  · have hlp : 0 < L.length := List.length_pos_iff.mpr c1
    rw [if_neg (by rw [zI_lit, zI_eq (by omega) (by omega) (by omega) (by omega)]; omega), if_neg c1]
    have g2' : Mo_isBusyBelowThere (bst μ' b B) = some (bI (L.any (td A))) := g2
    rw [g2', bp_some, bI_if]
    by_cases c2 : L.any (td A) = true
    · rw [if_pos c2, if_pos c2]; rfl
    · rw [if_neg c2, if_neg c2, g3, bp_some, bI_if]
      by_cases c3 : pgc A (32 * st + p1) (pg t) = 0
      · have hr := hroom c3
        have g4' : Mo_granted_60 FU (zI (sf : Int)) (zI (st : Int)) (zI (p1 : Int)) (zI (t - 1)) (zI (p : Int)) 0 0 (bst μ' b B) = _ := g4
        rw [if_pos (by simpa using c3), if_neg (by simpa using c3), bnd_ap, bnd_ap, g4', g5, bp_some, g6, bp_some, zI_add]
        by_cases z : st = 0
        · rw [if_pos z, if_pos (by rw [zI_le (by omega) (by omega) (by omega) (by omega)]; omega), qxB_f (fun c => c.1 z), if_neg (by decide)]
        · obtain ⟨q1, q2⟩ := hn.2.2 st (by omega) a2
          rw [if_neg z]
          by_cases c : qxd A qv st (pgc A (32 * sf + p) (pg t))
          · have := c.2
            rw [if_neg (by rw [zI_le (by omega) (by omega) (by omega) (by omega)]; omega), qxB_t c, if_pos rfl]
          · have : ¬ qv st < (pgc A (32 * st) 32 : Int) + (pgc A (32 * sf + p) (pg t) : Int) := fun y => c ⟨z, y⟩
            rw [if_pos (by rw [zI_le (by omega) (by omega) (by omega) (by omega)]; omega), qxB_f c, if_neg (by decide)]
      · rw [if_neg (by simpa using c3), if_pos c3]; rfl
