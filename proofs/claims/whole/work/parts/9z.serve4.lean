/-! ===== serve answers alike ===== -/
theorem nlt0 {x : Nat} (h : x < 2147483648) : ¬ zI (x : Int) < 0 := by rw [zI_lit, zI_lt (by omega) (by omega) (by omega) (by omega)]; omega
theorem le0 {x : Nat} (h : x < 2147483648) : 0 ≤ zI (x : Int) := by rw [zI_lit, zI_le (by omega) (by omega) (by omega) (by omega)]; omega
theorem serve_166 {ee : Int × Int} {n S : Nat} {M : Mem} {δ : Sl} {σ : Nat → Nat} {bn : Nat} {B : Nat → Int} {A : Ab} {dep : Nat → Nat} {J : List Jb} {N : Int} {μ : Sl} {b : Nat} {qv : Nat → Int} (hR : RC n S δ σ bn B A dep J N) (hX : WX ee n S δ B) (hN : N < 2147483648) (hb : MB μ b) (hK : SK M δ n S qv) (hm : SM μ n S qv) (hn : SN n S qv) {s p a q : Nat} {r : Int} (hs : s < n) (hp : p < S) (ha : a < n) (hq : q < S) (hr : r = 1 ∨ r = 2 ∨ r = 4) (hc : cov A (32 * s + p) = none) :
    WM ee n S δ μ b B J N (Wo_serveFirst_166 M (zI (a : Int)) (zI (s : Int)) (zI (p : Int)) (zI r) (zI (q : Int)) δ) (Mo_served_171 FU (zI (a : Int)) (zI (s : Int)) (zI (p : Int)) (zI r) (zI (q : Int)) (bst μ b B)) := by
  obtain ⟨g1, g2, g3⟩ := id hn
  have h31 := pgc_31 (A := A) (s := s) (p := p) (by omega) hc
  obtain ⟨ok, δ', μ', B', A', s1, s2, s3, s4, s5, s6, s7, s8, s9, s10⟩ := room_loop (M := M) (b := b) hN hn hs hp (zI (a : Int)) (zI (p : Int)) (zI r) (zI (q : Int)) 31 0 FU δ μ B A h31 (by omega) (FU_gt (by omega)) hR hb hK hm hc
  have hX' : WX ee n S δ' B' := WX_go hX (fun a i _ h => s6 a i (by omega)) (fun k g _ => s8 k (by omega)) (by rw [s7, s8 _ (by omega)]; exact hX.2.2.2.1.2.2.2)
  have s1' : Wo_makeRoom M δ (zI (s : Int)) = some (bI ok, δ') := by unfold Wo_makeRoom; rw [bnd_ap]; exact s1
  have hcl : Wo_serveFirst_166 M (zI (a : Int)) (zI (s : Int)) (zI (p : Int)) (zI r) (zI (q : Int)) δ = if ok = true then srvC M (zI (a : Int)) (zI (s : Int)) (zI (p : Int)) (zI r) (zI (q : Int)) δ' else (bd (Wo_refuse M δ' (zI (s : Int))) fun r14 d15 => some (r14, d15)) := by
    rw [Wo_serveFirst_166, s1', bd_some, bI_if]; rfl
  rw [hcl, s2]
  cases ok with
  | true =>
    rw [if_pos rfl, if_pos rfl]
    exact WO_of (serve_end s4 hX' (SC_MB s3 hb) g1 hs hp ha hq hr s5 (SC_SM s3 hm) hn (s10 rfl)) (s6 _ _ (by omega)) s3 (s8 _ (by omega)) s9
  | false =>
    rw [if_neg (by decide), if_neg (by decide), bd_eta, bd_eta]
    exact WO_of (refuse_wo M s4 hX' (SC_MB s3 hb) (by omega)) (s6 _ _ (by omega)) s3 (s8 _ (by omega)) s9
theorem cov_lone {n S : Nat} {A : Ab} {dep : Nat → Nat} (h : WF n S A dep) {q : Nat} (hq : q < 192) (hl : Lv A q) (h1 : A.1 0 q = 1) : cov (aGo A q) q = none := by
  cases hc : cov (aGo A q) q with
  | none => rfl
  | some y =>
    have := cov_go h hq hc
    rw [cs_self (WF_WS h) hl] at this
    have h3 := this.1
    cases h3
    rw [bl_self] at this; exact absurd this.2 (by decide)
theorem serve_own {ee : Int × Int} {n S : Nat} {M : Mem} {δ : Sl} {σ : Nat → Nat} {bn : Nat} {B : Nat → Int} {A : Ab} {dep : Nat → Nat} {J : List Jb} {N : Int} {μ : Sl} {b : Nat} {qv : Nat → Int} (hR : RC n S δ σ bn B A dep J N) (hX : WX ee n S δ B) (hN : N < 2147483648) (hb : MB μ b) (hK : SK M δ n S qv) (hm : SM μ n S qv) (hn : SN n S qv) {s p a q : Nat} {r : Int} (hs : s < n) (hp : p < S) (ha : a < n) (hq : q < S) (hr : r = 1 ∨ r = 2 ∨ r = 4) (htd : ∀ d, cov A (32 * s + p) = some d → td A d = false) :
    WM ee n S δ μ b B J N (Wo_serveFirst_116 M (zI (a : Int)) (zI (s : Int)) (zI (p : Int)) (zI r) (zI (q : Int)) (zI (sc σ (cov A (32 * s + p)))) δ) (Mo_served_134 (zI (a : Int)) (zI (s : Int)) (zI (p : Int)) (zI r) (zI (q : Int)) (zI (cv (cov A (32 * s + p)))) (bst μ b B)) := by
  obtain ⟨g1, g2, g3⟩ := id hn
  have h := hR.1
  have hS32 := h.2.1
  rw [Wo_serveFirst_116, Mo_served_134]
  cases hc : cov A (32 * s + p) with
  | none =>
    rw [show sc σ none = (-1 : Int) from rfl, show cv none = (-1 : Int) from rfl, if_pos (show zI (-1) < 0 by decide), if_pos (show zI (-1) < 0 by decide)]
    exact serve_166 hR hX hN hb hK hm hn hs hp ha hq hr hc
  | some d =>
    obtain ⟨d1, d2, d3⟩ := cs_some (by omega) hc
    have hd192 := d1.1
    have b1 := cr_lt hR.2.1 d1
    have hibd : inb (zI (σ d : Int)) 192 := by rw [zI_inb (by omega) (by omega)]; omega
    rw [show sc σ (some d) = (σ d : Int) from rfl, show cv (some d) = (d : Int) from rfl, if_neg (nlt0 (x := σ d) (by omega)), if_neg (nlt0 (x := d) (by omega)), if_pos hibd, zI_ix (by omega) (by omega), Int.toNat_natCast, cr_giver hR.2.1 d1, m_giver hb hd192, bp_some, (hR.2.2.1.2.1 d d1).2.2.1]
    rcases gv_or h d1 with ⟨z1, -⟩ | ⟨g, z1, z2, -⟩
    · rw [z1, enc_0, if_neg (show ¬ 0 ≤ zI (-1) by decide), if_neg (show ¬ 0 ≤ zI (0 - 1) by decide), bd_eta, bd_eta]
      exact refuse_wo M hR hX hb (by omega)
    · have bg := cr_lt hR.2.1 z2
      have hg192 := z2.1
      rw [z1, enc_s, show (g : Int) + 1 - 1 = (g : Int) by omega, if_pos (le0 (x := σ g) (by omega)), if_pos (le0 (x := g) (by omega))]
      have hdt : ∀ d', cov A (32 * s + p) = some d' → NTs A d' ∧ bsy A d' = false := fun d' hd' => td_NTs h (cs_some (by omega) hd').1 (htd d' hd')
      obtain ⟨δ1, σ1, bn1, dep1, μ1, B1, c1, c2, c3, c4, c5, c6, c7, c8, c9⟩ := RC_cut hR hb (s := s) (p := p) (t := 1) (by omega) (by omega) (by omega) (by omega) hdt
      have hthr : ∀ x, x ∈ thr A (32 * s + p) 1 → x = d := fun x hx => by
        unfold thr at hx
        rw [hc] at hx
        by_cases w : (1 : Int) < A.1 0 d
        · simp only [if_pos w] at hx
          simpa using hx
        · simp only [if_neg w] at hx
          have hx2 := stL_mem.mp hx
          have e1 : pg 1 = 1 := rfl
          rw [e1] at hx2
          have hxe : x = 32 * s + p := by omega
          have := cs_self (WF_WS h) (d := x) ⟨by omega, hx2.2.2⟩
          rw [hxe, hc] at this
          cases this; exact hxe
      obtain ⟨hth, hTs⟩ := cut_T (t := 1) (by omega) (by omega) (show 32 * s + p + pg 1 ≤ 192 by show 32 * s + p + 1 ≤ 192; omega) (by show (32 * s + p) % 1 = 0; omega) h (fun x hx => by rw [hthr x hx]; exact htd d hc) c5
      obtain ⟨e, e1, e2⟩ : ∃ e, cov (aCut 1 (32 * s + p) 3 A) (32 * s + p) = some e ∧ (aCut 1 (32 * s + p) 3 A).1 0 e = 1 := by
        by_cases w : (1 : Int) ≤ A.1 0 d
        · exact ord_cut (by omega) (by omega) 3 A dep d h hc (hdt d hc).1 w (by have := (h.2.2.2.1 d d1).1; omega)
        · have := d1.2; omega
      have hee := cs_some (by omega) e1
      have hpe : pgs (aCut 1 (32 * s + p) 3 A) e = 1 := by unfold pgs; rw [e2]; rfl
      rw [hpe] at hee
      have heq : e = 32 * s + p := by omega
      subst heq
      have hin : 32 * s + p ∈ stL (aCut 1 (32 * s + p) 3 A) (32 * s + p) (pg 1) := stL_mem.mpr ⟨by omega, by show 32 * s + p < 32 * s + p + 1; omega, hee.1.2⟩
      obtain ⟨t1, t2, t3, t4⟩ := hTs _ hin
      have hng : (aCut 1 (32 * s + p) 3 A).1 3 (32 * s + p) ≠ 0 := fun z => by
        obtain ⟨y, y1, y2⟩ := t4 z
        rw [hthr y y1] at y2
        omega
      have hfd := cr_find c4.2.1.2.1 (s := (s : Int)) (p := (p : Int)) (by omega) (by omega) (by omega) (by omega)
      rw [show (32 * (s : Int) + (p : Int)).toNat = 32 * s + p by omega, e1] at hfd
      obtain ⟨δ2, μ2, B2, r1, r2, r3, r4, r5, r6, r7⟩ := RC_go c4 (SC_MB c3 hb) hee.1 hng (fun y hy hb' => pf_of c4.1 c4.2.2.2.2.2.1.2.2.2.1 hee.1 hy t2 t3 hb')
      have c1' : De_cut δ (zI (s : Int)) (zI (p : Int)) (0 : Int32) = some ((), δ1) := c1
      have c2' : Mo_cuts (bst μ b B) (zI (s : Int)) (zI (p : Int)) (0 : Int32) = some ((), bst μ1 b B1) := c2
      rw [c1', bd_some, hfd, bp_some, show sc σ1 (some (32 * s + p)) = (σ1 (32 * s + p) : Int) from rfl, r1, bd_some, c2', bd_some, show (32 : Int32) = zI 32 from rfl, zI_mul, zI_add, show 32 * (s : Int) + (p : Int) = ((32 * s + p : Nat) : Int) by omega, r2, bd_some]
      have hX2 : WX ee n S δ2 B2 := WX_go hX (fun a i _ w => by rw [r5 a i (by omega), c6 a i (by omega)]) (fun k w1 w2 => by rw [r7 k (by omega), c8 k (by omega) w2]) (by rw [r6, r7 _ (by omega), c7, c9, hX.2.2.2.1.2.2.2, zI_add])
      have hK2 : SK M δ2 n S qv := by
        obtain ⟨k0, k1, k2, k3, k4, k5⟩ := hK
        exact ⟨k0, by rw [r5 _ _ (by omega), c6 _ _ (by omega)]; exact k1, k2, k3, k4, k5⟩
      exact WO_of (serve_166 r4 hX2 hN (SC_MB r3 (SC_MB c3 hb)) hK2 (SC_SM r3 (SC_SM c3 hm)) hn hs hp ha hq hr (cov_lone c4.1 (by omega) hee.1 e2)) (by rw [r5 _ _ (by omega), c6 _ _ (by omega)]) (SC_trans c3 r3) (by rw [r7 _ (by omega), c8 _ (by omega) (by omega)]) (QMq.trans (QMq.MR g1 hR.2.2.1 c4.2.2.1 (fun s hs => Nat.le_of_eq (pgF_cut h c5 hs))) c3 (QMq.MR g1 c4.2.2.1 r4.2.2.1 (fun s hs => pgF_le (aGo_or _ _) hs)))
/-- what serving leaves -/
def WV (ee : Int × Int) (n S : Nat) (δ μ : Sl) (b : Nat) (B : Nat → Int) (J : List Jb) (N : Int) (R1 R2 : Option (Int32 × Sl)) : Prop :=
  ∃ v δ' σ' bn' μ' B' A' dep', R1 = some (zI v, δ') ∧ R2 = some (zI v, bst μ' b B') ∧ (-6 ≤ v ∧ v < 1000 ∧ v ≠ -1) ∧ (0 ≤ v ∨ v ≤ -5 ∨ (δ' = δ ∧ B' = B)) ∧ RC n S δ' σ' bn' B' A' dep' J N ∧ WX ee n S δ' B' ∧ SC μ μ' ∧ δ' 10 0 = δ 10 0 ∧ B' 2196 ≤ B 2196 + 1 ∧ QMq μ n S B B'
theorem WM_V {ee : Int × Int} {n S : Nat} {δ μ : Sl} {b : Nat} {B : Nat → Int} {J : List Jb} {N : Int} {R1 R2 : Option (Int32 × Sl)} (h : WM ee n S δ μ b B J N R1 R2) : WV ee n S δ μ b B J N R1 R2 := by
  obtain ⟨v, δ', σ', bn', μ', B', A', dep', r1, r2, r3, r4, r5, r6, r7, r9⟩ := h
  exact ⟨v, δ', σ', bn', μ', B', A', dep', r1, r2, by omega, by omega, r4, r5, r6, r7, r9⟩
theorem WV_O {ee : Int × Int} {n S : Nat} {δ μ : Sl} {b : Nat} {B : Nat → Int} {J : List Jb} {N : Int} {R1 R2 : Option (Int32 × Sl)} (h : WV ee n S δ μ b B J N R1 R2) : WO ee n S δ μ b B N R1 R2 := by
  obtain ⟨v, δ', σ', bn', μ', B', A', dep', r1, r2, r3, r3', r4, r5, r6, r7, r9⟩ := h
  exact ⟨v, δ', σ', bn', μ', B', A', dep', J, N, r1, r2, r3, r4, r5, r6, r7, by omega, r9⟩
theorem serve_on {ee : Int × Int} {n S : Nat} {M : Mem} {δ : Sl} {σ : Nat → Nat} {bn : Nat} {B : Nat → Int} {A : Ab} {dep : Nat → Nat} {J : List Jb} {N : Int} {μ : Sl} {b : Nat} {qv pv wv : Nat → Int} (hR : RC n S δ σ bn B A dep J N) (hX : WX ee n S δ B) (hN : N < 2147483648) (hW : B 2196 + 1 < 2147483648) (hb : MB μ b) (hK : SK M δ n S qv) (hm : SM μ n S qv) (hn : SN n S qv) (hpk : PK M δ n pv) (hpm : PM μ n pv) (hpn : PN n pv) (hwk : WK M δ n wv) (hwm : WMo μ n wv) (hwn : WN n wv) {a : Nat} (ha : a < n) :
    WV ee n S δ μ b B J N (Wo_serveFirst M δ (zI (a : Int))) (Mo_served (bst μ b B) (zI (a : Int))) := by
  obtain ⟨g1, g2, g3⟩ := id hn
  have h := hR.1
  have hS32 := h.2.1
  have his := c_isSpace hK hn (x := (a : Int)) ⟨by omega, by omega⟩
  rw [decide_eq_true (show 0 ≤ (a : Int) ∧ (a : Int) < (n : Int) by omega)] at his
  have hcf := c_fw hX (by omega) hK hpk hpn g1 ha
  have hmf := m_fw hb hX (by omega) hm.1 hpm hpn g1 ha
  have same : ∀ (v : Int) (R1 R2 : Option (Int32 × Sl)), -6 ≤ v → v < -1 → R1 = some (zI v, δ) → R2 = some (zI v, bst μ b B) → WV ee n S δ μ b B J N R1 R2 := fun v R1 R2 h1 h2 e1 e2 => ⟨v, δ, σ, bn, μ, B, A, dep, e1, e2, ⟨h1, by omega, by omega⟩, .inr (.inr ⟨rfl, rfl⟩), hR, hX, fun _ _ _ _ _ => rfl, rfl, by omega, QMq.refl _ _ _ _⟩
  have hcl0 : Wo_serveFirst M δ (zI (a : Int)) = (bnd (zI (cv (fwt B pv n a))) fun v2_25 => if 0 ≤ v2_25 then (if inb v2_25 6 then bnd (δ 12 (ix v2_25)) fun v3_26 => if inb v2_25 6 then bnd (δ 13 (ix v2_25)) fun v4_27 => bp (Wo_sourceFor M δ v2_25 (zI (a : Int))) fun r28 => bnd r28 fun v5_29 => bp (Wo_withRight M δ (zI (a : Int)) v5_29 v4_27) fun r30 => bnd r30 fun v6_31 =>
      if 0 ≤ v6_31 then
        (bp (De_find δ v2_25 v3_26) fun r32 =>
        bnd r32 fun v7_33 =>
        bp (De_isBusy δ v6_31) fun r34 =>
        if r34 = 0 then
          (if v7_33 < 0 then
            (Wo_serveFirst_116 M (zI (a : Int)) v2_25 v3_26 v4_27 v5_29 v7_33 δ)
          else
            (bp (De_isTied δ v7_33) fun r35 =>
            if r35 = 0 then
              (Wo_serveFirst_116 M (zI (a : Int)) v2_25 v3_26 v4_27 v5_29 v7_33 δ)
            else
              (some ((-3 : Int32), δ))))
        else
          (some ((-3 : Int32), δ)))
      else
        (bd (Wo_passOn M δ v2_25 (zI (a : Int)) v5_29 v4_27) fun r36 d37 =>
        some (r36, d37)) else none else none) else some ((-2 : Int32), δ)) := by
    rw [Wo_serveFirst, his, bp_some, bI_if, if_pos rfl, hcf, bp_some]
  have hmo0 := hmf
  cases hfw : fwt B pv n a with
  | none =>
    rw [hfw] at hcl0 hmf
    refine same (-2) _ _ (by omega) (by omega) ?_ ?_
    · rw [hcl0, bnd_ap, show cv none = (-1 : Int) from rfl, if_neg (by decide)]; rfl
    · rw [Mo_served, hmf, bp_some, bnd_ap, show cv none = (-1 : Int) from rfl, if_neg (by decide)]; rfl
  | some s =>
    rw [hfw] at hcl0 hmf
    have hmem : s < n ∧ B (2172 + s) = 1 ∧ pv s = (a : Int) := by
      rcases fw_mem n 0 none s hfw with z | ⟨-, z2, z3, z4⟩
      · cases z
      · exact ⟨by omega, z3, z4⟩
    obtain ⟨hs, hws, -⟩ := hmem
    obtain ⟨w1, w2, w3, w4, w5, w6, w7, w8, -⟩ := wx_w hX (show s < 6 by omega) hws
    have hib : inb (zI (s : Int)) 6 := by rw [zI_inb (by omega) (by omega)]; omega
    obtain ⟨p, hp⟩ : ∃ p : Nat, B (2178 + s) = (p : Int) := ⟨(B (2178 + s)).toNat, by omega⟩
    have hpS : p < S := by omega
    have o1 := m_of hb B (k := ((2178 + s : Nat) : Int)) (by omega) (by omega)
    have o2 := m_of hb B (k := ((2184 + s : Nat) : Int)) (by omega) (by omega)
    rw [Int.toNat_natCast] at o1 o2
    rw [hp] at o1 w4
    generalize hr : B (2184 + s) = r at *
    have hsrc := c_src h hR.2.1 hK hn hwk hwn (a := a) hs ha hpS (show 0 ≤ r by omega) (show r ≤ 7 by omega) w4 w7
    have hsrm := m_src hb h hR.2.2.1 hm.2.1 hn hwm hwn (a := a) hs ha hpS (show 0 ≤ r by omega) (show r ≤ 7 by omega)
    have hql := src_lt (A := A) (S := S) (w := wv s) (s := s) (a := a) (r := r) hpS
    generalize hq : srcP A S (wv s) s a r p = q at *
    have hw := c_with M h hR.2.1 (s := a) (p := q) (r := r) (by omega) (by omega) (by omega) (by omega)
    have hh := m_has hb h hR.2.2.1 (s := a) (p := q) (r := r) (by omega) (by omega) (by omega) (by omega)
    rw [bnd_ap, show cv (some s) = (s : Int) from rfl, if_pos (le0 (by omega)), if_pos hib, zI_ix (by omega) (by omega), Int.toNat_natCast, w4, bnd_ap, if_pos hib, w7, bnd_ap, hsrc, bp_some, bnd_ap, hw, bp_some, bnd_ap] at hcl0
    have hmo : Mo_served (bst μ b B) (zI (a : Int)) = if hsB A (32 * a + q) r = true then (bp (Mo_cover (bst μ b B) (zI (s : Int)) (zI (p : Int))) fun r37 => bnd r37 fun v6_38 => bp (Mo_cover (bst μ b B) (zI (a : Int)) (zI (q : Int))) fun r39 => bp (Mo_isBusy (bst μ b B) r39) fun r40 =>
      if r40 = 0 then
        (if v6_38 < 0 then
          (Mo_served_134 (zI (a : Int)) (zI (s : Int)) (zI (p : Int)) (zI r) (zI (q : Int)) v6_38 (bst μ b B))
        else
          (bp (Mo_isBusyBelow (bst μ b B) v6_38) fun r41 =>
          if r41 = 0 then
            (Mo_served_134 (zI (a : Int)) (zI (s : Int)) (zI (p : Int)) (zI r) (zI (q : Int)) v6_38 (bst μ b B))
          else
            (some ((-3 : Int32), (bst μ b B)))))
      else
        (some ((-3 : Int32), (bst μ b B)))) else (bp (Mo_isWaiting (bst μ b B) (zI (a : Int))) fun r42 =>
      if r42 = 0 then
        (if inb (zI (a : Int)) 12 then
        if 0 ≤ ((bst μ b B) 38 (ix (zI (a : Int)))) then
          (bd (Mo_waitsFor (bst μ b B) (zI (a : Int)) (zI (q : Int)) (zI r)) fun r43 d44 =>
          some ((-6 : Int32), d44))
        else
          (bd (Mo_refuses (bst μ b B) (zI (s : Int))) fun r45 d46 =>
          some (r45, d46))
        else none)
      else
        (some ((-4 : Int32), (bst μ b B)))) := by
      rw [Mo_served, hmf, bp_some, bnd_ap, show cv (some s) = (s : Int) from rfl, if_pos (le0 (by omega)), show (2178 : Int32) = zI 2178 from rfl, zI_add, show (2178 : Int) + (s : Int) = ((2178 + s : Nat) : Int) by omega, o1, bp_some, bnd_ap, show (2184 : Int32) = zI 2184 from rfl, zI_add, show (2184 : Int) + (s : Int) = ((2184 + s : Nat) : Int) by omega, o2, bp_some, bnd_ap, hsrm, bp_some, bnd_ap, hh, bp_some, bI_if]
    by_cases c1 : hsB A (32 * a + q) r = true
    · rw [if_pos c1] at hmo hcl0
      obtain ⟨g, hcv⟩ : ∃ g, cov A (32 * a + q) = some g := by
        unfold hsB at c1
        cases hcv : cov A (32 * a + q) with
        | none => rw [hcv] at c1; simp at c1
        | some d => exact ⟨d, rfl⟩
      obtain ⟨d1, d2, d3⟩ := cs_some (by omega) hcv
      have bg := cr_lt hR.2.1 d1
      have hfd := cr_find hR.2.1.2.1 (s := (s : Int)) (p := (p : Int)) (by omega) (by omega) (by omega) (by omega)
      rw [show (32 * (s : Int) + (p : Int)).toNat = 32 * s + p by omega] at hfd
      have hc1 := m_cover hb (MR_0 h hR.2.2.1) (s := (s : Int)) (p := (p : Int)) (by omega) (by omega) (by omega) (by omega)
      rw [show (32 * (s : Int) + (p : Int)).toNat = 32 * s + p by omega] at hc1
      have hc2 := m_cover hb (MR_0 h hR.2.2.1) (s := (a : Int)) (p := (q : Int)) (by omega) (by omega) (by omega) (by omega)
      rw [show (32 * (a : Int) + (q : Int)).toNat = 32 * a + q by omega, hcv] at hc2
      have h9 := RC_T9 hR hN
      rw [hcv, show sc σ (some g) = (σ g : Int) from rfl, if_pos (le0 (by omega)), hfd, bp_some, bnd_ap, c_busy h hR.2.1 d1, bp_some, bI_if] at hcl0
      rw [hc1, bp_some, bnd_ap, hc2, bp_some, show cv (some g) = (g : Int) from rfl, m_busy hb h hR.2.2.1 h9 d1, bp_some, bI_if] at hmo
      by_cases c2 : bsy A g = true
      · rw [if_pos c2] at hcl0 hmo
        exact same (-3) _ _ (by omega) (by omega) (by rw [hcl0]; rfl) (by rw [hmo]; rfl)
      · rw [if_neg c2] at hcl0 hmo
        cases hco : cov A (32 * s + p) with
        | none =>
          have := serve_own (M := M) hR hX hN hb hK hm hn (s := s) (p := p) (a := a) (q := q) hs hpS ha hql w8 (fun d hd => by rw [hco] at hd; cases hd)
          rw [hco] at this hcl0 hmo
          rw [show sc σ none = (-1 : Int) from rfl, if_pos (show zI (-1) < 0 by decide)] at hcl0
          rw [show cv none = (-1 : Int) from rfl, if_pos (show zI (-1) < 0 by decide)] at hmo
          rw [hcl0, hmo]
          exact WM_V this
        | some d =>
          obtain ⟨x1, x2, x3⟩ := cs_some (by omega) hco
          have hx192 := x1.1
          have bx := cr_lt hR.2.1 x1
          rw [hco, show sc σ (some d) = (σ d : Int) from rfl, if_neg (nlt0 (by omega)), c_tied h hR.2.1 x1, bp_some, bI_if] at hcl0
          rw [hco, show cv (some d) = (d : Int) from rfl, if_neg (nlt0 (by omega)), m_below hb h hR.2.2.1 h9 x1, bp_some, bI_if] at hmo
          by_cases c3 : td A d = true
          · rw [if_pos c3] at hcl0 hmo
            exact same (-3) _ _ (by omega) (by omega) (by rw [hcl0]; rfl) (by rw [hmo]; rfl)
          · rw [if_neg c3] at hcl0 hmo
            have := serve_own (M := M) hR hX hN hb hK hm hn (s := s) (p := p) (a := a) (q := q) hs hpS ha hql w8 (fun d' hd' => by
              rw [hco] at hd'; cases hd'
              cases z : td A d with
              | false => rfl
              | true => exact absurd z c3)
            rw [hco] at this
            rw [hcl0, hmo]
            exact WM_V this
    · rw [if_neg c1] at hmo hcl0
      rw [if_neg (show ¬ 0 ≤ zI (-1) by decide), bd_eta] at hcl0
      rw [m_wtg hb hX (show a < 6 by omega), bp_some, bI_if] at hmo
      have hiba : inb (zI (a : Int)) 6 := by rw [zI_inb (by omega) (by omega)]; omega
      obtain ⟨z1, z2⟩ := wx_z hX (by omega) (show a < 6 by omega)
      rw [Wo_passOn, if_pos hiba, zI_ix (by omega) (by omega), Int.toNat_natCast] at hcl0
      by_cases c2 : B (2172 + a) = 1
      · rw [if_neg (fun w => (z1.mp w) c2)] at hcl0
        rw [decide_eq_true c2, if_pos rfl] at hmo
        exact same (-4) _ _ (by omega) (by omega) (by rw [hcl0]; rfl) (by rw [hmo]; rfl)
      · obtain ⟨k, k1, k2, k3⟩ := hpk
        have hpv := hpn a ha
        have e38 : bst μ b B 38 a = zI (pv a) := by rw [bst_ne _ _ _ (by decide)]; exact hpm a ha
        rw [if_pos (z1.mpr c2), k1, gref_z k2, if_pos hiba, k3 a ha] at hcl0
        rw [decide_eq_false c2, if_neg (by simp), if_pos (by rw [zI_inb (by omega) (by omega)]; omega), zI_ix (by omega) (by omega), Int.toNat_natCast, e38] at hmo
        by_cases c3 : 0 ≤ pv a
        · rw [if_pos (by rw [zI_lit, zI_le (by omega) (by omega) (by omega) (by omega)]; exact c3), c_wait (show a < 6 by omega) hX.2.2.1.1, bd_some] at hcl0
          rw [if_pos (by rw [zI_lit, zI_le (by omega) (by omega) (by omega) (by omega)]; exact c3), m_wait hb (show a < 6 by omega), bd_some] at hmo
          have h0 : B (2172 + a) = 0 := by rcases z2 with z | z; · exact z
                                           · exact absurd z c2
          refine ⟨-6, wtS δ a (q : Int) r (B 2196 + 1), σ, bn, μ, wtB B a (q : Int) r, A, dep, by rw [hcl0]; rfl, by rw [hmo]; rfl, by omega, by omega, wt_RC hR (by omega), wt_WX hX (by omega) ha h0 (by omega) (by omega) w8, fun _ _ _ _ _ => rfl, ?_, ?_, QMq.same g1 (fun k hk => ?_)⟩
          · unfold wtS; simp only [wr_ap]; simp (disch := omega) only [if_neg]
          · unfold wtB; simp only [upB_ap]; simp (disch := omega) only [if_neg, if_pos]; simp
          · unfold wtB; simp only [upB_ap]; simp (disch := omega) only [if_neg]
        · rw [if_neg (by rw [zI_lit, zI_le (by omega) (by omega) (by omega) (by omega)]; exact c3), bd_eta] at hcl0
          rw [if_neg (by rw [zI_lit, zI_le (by omega) (by omega) (by omega) (by omega)]; exact c3), bd_eta] at hmo
          rw [hcl0, hmo]
          exact WM_V (refuse_wo M hR hX hb (by omega))
