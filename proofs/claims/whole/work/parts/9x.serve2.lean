/-! ===== serve ===== -/
theorem st_WX {ee : Int × Int} {n S : Nat} {δ : Sl} {B : Nat → Int} {s : Nat} (h : WX ee n S δ B) (hs : s < 6) : WX ee n S (wr δ 14 s (zI 0)) (upB B (2172 + s) 0) := by
  obtain ⟨h1, h2, ⟨h3, h3'⟩, ⟨h4, h5, h6, h7⟩, ⟨h8, h9, h9'⟩, h10⟩ := h
  have bo : ∀ k, k ≠ 2172 + s → upB B (2172 + s) 0 k = B k := fun k hk => by rw [upB_ap, if_neg hk]
  have bs : upB B (2172 + s) 0 (2172 + s) = 0 := by rw [upB_ap, if_pos rfl]
  have dn : ∀ a i, ¬ (a = 14 ∧ i = s) → wr δ 14 s (zI 0) a i = δ a i := fun a i g => by rw [wr_ap, if_neg g]
  refine ⟨fun t ht => ?_, fun t u ht hu g1 g2 g3 => ?_, ⟨?_, ?_⟩, ⟨?_, ?_, ?_, ?_⟩, ⟨?_, ?_, ?_⟩, fun i hi => ?_⟩
  · by_cases c : t = s
    · subst c
      exact .inl ⟨bs, by rw [wr_ap, if_pos ⟨rfl, rfl⟩]⟩
    · have := h1 t ht
      unfold WT at this ⊢
      rw [dn 14 t (by omega), dn 13 t (by omega), dn 12 t (by omega), bo _ (by omega), bo _ (by omega), bo _ (by omega), bo _ (by omega), bo _ (by omega)]
      exact this
  · have c1 : t ≠ s := fun z => by rw [z, bs] at g1; omega
    have c2 : u ≠ s := fun z => by rw [z, bs] at g2; omega
    rw [bo _ (by omega)] at g1 g2
    rw [bo _ (by omega), bo _ (by omega)] at g3
    exact h2 t u ht hu g1 g2 g3
  · rw [dn _ _ (by omega), bo _ (by omega)]; exact h3
  · rw [bo _ (by omega)]; exact h3'
  · rw [dn _ _ (by omega), bo _ (by omega)]; exact h4
  · rw [dn _ _ (by omega), bo _ (by omega)]; exact h5
  · rw [dn _ _ (by omega), bo _ (by omega)]; exact h6
  · rw [dn _ _ (by omega), bo _ (by omega)]; exact h7
  · rw [dn _ _ (by omega)]; exact h8
  · rw [bo _ (by omega)]; exact h9
  · exact h9'
  · have hi24 : i < 24 := by have := h9'.2; omega
    rw [dn _ _ (by omega), bo _ (by omega)]; exact h10 i hi
theorem rf_WX {ee : Int × Int} {n S : Nat} {δ : Sl} {B : Nat → Int} (h : WX ee n S δ B) : WX ee n S (wr δ 10 13 (δ 10 13 + 1)) (upB B 2200 (B 2200 + 1)) := by
  obtain ⟨h1, h2, ⟨h3, h3'⟩, ⟨h4, h5, h6, h7⟩, ⟨h8, h9, h9'⟩, h10⟩ := h
  have bo : ∀ k, k ≠ 2200 → upB B 2200 (B 2200 + 1) k = B k := fun k hk => by rw [upB_ap, if_neg hk]
  have dn : ∀ a i, ¬ (a = 10 ∧ i = 13) → wr δ 10 13 (δ 10 13 + 1) a i = δ a i := fun a i g => by rw [wr_ap, if_neg g]
  refine ⟨fun t ht => ?_, fun t u ht hu g1 g2 g3 => ?_, ⟨?_, ?_⟩, ⟨?_, ?_, ?_, ?_⟩, ⟨?_, ?_, ?_⟩, fun i hi => ?_⟩
  · have := h1 t ht
    unfold WT at this ⊢
    rw [dn 14 t (by omega), dn 13 t (by omega), dn 12 t (by omega), bo _ (by omega), bo _ (by omega), bo _ (by omega), bo _ (by omega), bo _ (by omega)]
    exact this
  · rw [bo _ (by omega)] at g1 g2
    rw [bo _ (by omega), bo _ (by omega)] at g3
    exact h2 t u ht hu g1 g2 g3
  · rw [dn _ _ (by omega), bo _ (by omega)]; exact h3
  · rw [bo _ (by omega)]; exact h3'
  · rw [dn _ _ (by omega), bo _ (by omega)]; exact h4
  · rw [wr_ap, if_pos ⟨rfl, rfl⟩, upB_ap, if_pos rfl, h5, show (1 : Int32) = zI 1 from rfl, zI_add]
  · rw [dn _ _ (by omega), bo _ (by omega)]; exact h6
  · rw [dn _ _ (by omega), bo _ (by omega)]; exact h7
  · rw [dn _ _ (by omega)]; exact h8
  · rw [bo _ (by omega)]; exact h9
  · exact h9'
  · have hi24 : i < 24 := by have := h9'.2; omega
    rw [dn _ _ (by omega), bo _ (by omega)]; exact h10 i hi
theorem st_RC {n S : Nat} {δ : Sl} {σ : Nat → Nat} {bn : Nat} {B : Nat → Int} {A : Ab} {dep : Nat → Nat} {J : List Jb} {N : Int} {s : Nat} (h : RC n S δ σ bn B A dep J N) (hs : s < 6) : RC n S (wr δ 14 s (zI 0)) σ bn (upB B (2172 + s) 0) A dep J N :=
  RC_bank (RC_fld h (fun a i ha => by rw [wr_ap, if_neg (by omega)]) (by rw [wr_ap, if_neg (by omega)]) (by rw [wr_ap, if_neg (by omega)])) (fun k hk => by rw [upB_ap, if_neg (by omega)])
/-- what serving leaves when it moves -/
def WM (ee : Int × Int) (n S : Nat) (δ μ : Sl) (b : Nat) (B : Nat → Int) (J : List Jb) (N : Int) (R1 R2 : Option (Int32 × Sl)) : Prop :=
  ∃ v δ' σ' bn' μ' B' A' dep', R1 = some (zI v, δ') ∧ R2 = some (zI v, bst μ' b B') ∧ (-6 ≤ v ∧ v < 1000 ∧ (0 ≤ v ∨ v ≤ -5)) ∧ RC n S δ' σ' bn' B' A' dep' J N ∧ WX ee n S δ' B' ∧ SC μ μ' ∧ δ' 10 0 = δ 10 0 ∧ B' 2196 ≤ B 2196 + 1 ∧ QMq μ n S B B'
/-- a wait is refused -/
theorem refuse_wo {ee : Int × Int} {n S : Nat} {δ : Sl} {σ : Nat → Nat} {bn : Nat} {B : Nat → Int} {A : Ab} {dep : Nat → Nat} {J : List Jb} {N : Int} {μ : Sl} {b : Nat} (M : Mem) (hR : RC n S δ σ bn B A dep J N) (hX : WX ee n S δ B) (hb : MB μ b) {s : Nat} (hs : s < 6) : WM ee n S δ μ b B J N (Wo_refuse M δ (zI (s : Int))) (Mo_refuses (bst μ b B) (zI (s : Int))) := by
  have hib : inb (zI (s : Int)) 6 := by rw [zI_inb (by omega) (by omega)]; omega
  have o1 := m_lay hb B (k := ((2172 + s : Nat) : Int)) 0 (by omega) (by omega)
  rw [Int.toNat_natCast] at o1
  have o2 := m_more hb (upB B (2172 + s) 0) (k := 2200) (by omega) (by omega)
  rw [show (2200 : Int).toNat = 2200 from rfl] at o2
  have hR1 := st_RC hR hs
  have hX1 := st_WX hX hs
  refine ⟨-5, _, σ, bn, μ, _, A, dep, ?_, ?_, by omega, RC_bank (RC_fld hR1 (fun a i ha => ?_) ?_ ?_) (fun k hk => ?_), rf_WX hX1, fun _ _ _ _ _ => rfl, ?_, ?_, QMq.same hR.1.1 (fun k hk => by rw [upB_ap, if_neg (by omega), upB_ap, if_neg (by omega)])⟩
  · rw [Wo_refuse, if_pos hib, bnd_ap, bnd_ap, zI_ix (by omega) (by omega), Int.toNat_natCast]; rfl
  · rw [Mo_refuses, show (2172 : Int32) = zI 2172 from rfl, zI_add, show (2172 : Int) + (s : Int) = ((2172 + s : Nat) : Int) by omega]
    have o1' : Mo_lay (bst μ b B) (zI ((2172 + s : Nat) : Int)) (0 : Int32) = _ := o1
    rw [o1', bd_some, show (2200 : Int32) = zI 2200 from rfl, o2, bd_some]; rfl
  · rw [wr_ap, if_neg (by omega)]
  · rw [wr_ap, if_neg (by omega)]
  · rw [wr_ap, if_neg (by omega)]
  · rw [upB_ap, if_neg (by omega)]
  · rw [wr_ap, if_neg (by omega), wr_ap, if_neg (by omega)]
  · rw [upB_ap, if_neg (by omega), upB_ap, if_neg (by omega)]; omega
theorem cov_go {n S : Nat} {A : Ab} {dep : Nat → Nat} (h : WF n S A dep) {d q y : Nat} (hq : q < 192) (hc : cov (aGo A d) q = some y) : cov A q = some y ∧ bl A d y = false := by
  obtain ⟨y1, y2, y3⟩ := cs_some hq hc
  have hl := aGo_lv.mp y1
  have hp : pgs (aGo A d) y = pgs A y := by unfold pgs; rw [aGo_0 y1]
  rw [hp] at y3
  exact ⟨cs_of (WF_WS h) hl.1 y2 y3, hl.2⟩
theorem pgc_go {n S : Nat} {A : Ab} {dep : Nat → Nat} (h : WF n S A dep) {d s : Nat} (hs : s < 6) (hd : Lv A d) (h1 : 32 * s ≤ d) (h2 : d < 32 * s + 32) : pgc (aGo A d) (32 * s) 32 < pgc A (32 * s) 32 := by
  have hcd : (cov A d).isSome = true := by rw [cs_self (WF_WS h) hd]; rfl
  have hnd : (cov (aGo A d) d).isSome = false := by
    cases hc : cov (aGo A d) d with
    | none => rfl
    | some y =>
      have := cov_go h hd.1 hc
      rw [cs_self (WF_WS h) hd] at this
      have h3 := this.1
      cases h3
      rw [bl_self] at this; exact absurd this.2 (by decide)
  have hup := fb_ct_upd (fun i => (cov (aGo A d) (32 * s + i)).isSome) true (i := d - 32 * s) (n := 32) (by omega)
  have hsub := fb_ct_sub (p := fun k => if k = d - 32 * s then true else (cov (aGo A d) (32 * s + k)).isSome) (q := fun i => (cov A (32 * s + i)).isSome) (n := 32) (fun k hk hp => by
    by_cases c : k = d - 32 * s
    · show (cov A (32 * s + k)).isSome = true
      rw [c, show 32 * s + (d - 32 * s) = d by omega]; exact hcd
    · have hp' : (if k = d - 32 * s then true else (cov (aGo A d) (32 * s + k)).isSome) = true := hp
      rw [if_neg c] at hp'
      show (cov A (32 * s + k)).isSome = true
      cases hc : cov (aGo A d) (32 * s + k) with
      | none => rw [hc] at hp'; cases hp'
      | some y => rw [(cov_go h (by omega) hc).1]; rfl)
  have hpi : (cov (aGo A d) (32 * s + (d - 32 * s))).isSome = false := by
    rw [show 32 * s + (d - 32 * s) = d by omega]; exact hnd
  rw [hpi, if_neg (by decide), if_pos rfl] at hup
  unfold pgc
  omega
theorem pgc_31 {A : Ab} {s p : Nat} (hp : p < 32) (hc : cov A (32 * s + p) = none) : pgc A (32 * s) 32 ≤ 31 := by
  have := pgc_room (A := A) (s := s) (p := p) (w := 1) (by omega) (by
    unfold pgc
    rw [fb_ct_zero]
    intro k hk
    have : k = 0 := by omega
    subst this
    rw [Nat.add_zero, hc]; rfl)
  omega
theorem aGo_or (A : Ab) (d : Nat) : ∀ k, k < 192 → (aGo A d).1 0 k = A.1 0 k ∨ (aGo A d).1 0 k = 0 := fun k _ => by
  show (if 0 = 0 ∧ bl A d k = true then (0 : Int) else A.1 0 k) = _ ∨ (if 0 = 0 ∧ bl A d k = true then (0 : Int) else A.1 0 k) = 0
  by_cases y : bl A d k = true
  · right; rw [if_pos ⟨rfl, y⟩]
  · left; rw [if_neg (fun q => y q.2)]
/-- room is made -/
theorem room_loop {n S : Nat} {M : Mem} {b : Nat} {qv : Nat → Int} {J : List Jb} {N : Int} (hN : N < 2147483648) (hn : SN n S qv) {s p : Nat} (hs : s < n) (hp : p < S) {σ : Nat → Nat} {bn : Nat} {dep : Nat → Nat} (v1 v3 v4 v5 : Int32) : ∀ (T i k : Nat) (δ μ : Sl) (B : Nat → Int) (A : Ab), pgc A (32 * s) 32 ≤ T → i + T ≤ 31 → T < k → RC n S δ σ bn B A dep J N → MB μ b → SK M δ n S qv → SM μ n S qv → cov A (32 * s + p) = none →
    ∃ (ok : Bool) (δ' μ' : Sl) (B' : Nat → Int) (A' : Ab), Wo_makeRoom_2 M k (zI (s : Int)) (zI (i : Int)) δ = some (bI ok, δ') ∧ Mo_served_171 k v1 (zI (s : Int)) v3 v4 v5 (bst μ b B) = (if ok = true then Mo_served_225 v1 (zI (s : Int)) v3 v4 v5 (bst μ' b B') else bd (Mo_refuses (bst μ' b B') (zI (s : Int))) fun r19 d20 => some (r19, d20)) ∧ SC μ μ' ∧ RC n S δ' σ bn B' A' dep J N ∧ cov A' (32 * s + p) = none ∧ (∀ a i, a < 17 ∨ 32 < a → δ' a i = δ a i) ∧ δ' 17 19 = δ 17 19 ∧ (∀ k, 1920 ≤ k → B' k = B k) ∧ QMq μ n S B B' ∧ (ok = true → qxB A' qv s 1 = false) := by
  obtain ⟨g1, g2, g3⟩ := id hn
  intro T
  induction T with
  | zero =>
    intro i k δ μ B A hT hi hk hR hb hK hm hc
    obtain ⟨c, rfl⟩ : ∃ c, k = c + 1 := ⟨k - 1, by omega⟩
    have hq := c_quota hR.2.1 hK hn (st := s) (w := 1) (by omega) (by omega)
    have hqf : qxB A qv s 1 = false := by
      unfold qxB
      refine decide_eq_false (fun z => ?_)
      have := (g3 s (by omega) (by omega)).1
      omega
    rw [hqf] at hq
    have hpi := m_pagesIn hb hR.1 hR.2.2.1 hm.2.1 (s := s) (by omega)
    have hmo := m_most (bst_SM b B hm) hn (st := s) (by omega)
    refine ⟨true, δ, μ, B, A, ?_, ?_, fun _ _ _ _ _ => rfl, hR, hc, fun _ _ _ => rfl, rfl, fun _ _ => rfl, QMq.refl _ _ _ _, fun _ => hqf⟩
    · have hq' : Wo_exceedsQuota M δ (zI (s : Int)) (1 : Int32) = some (bI false) := hq
      rw [Wo_makeRoom_2, if_neg (by rw [zI_lit, zI_le (by omega) (by omega) (by omega) (by omega)]; omega), hq', bp_some, if_pos (by rfl)]; rfl
    · rw [Mo_served_171, hpi, bp_some, hmo, bp_some, if_pos (by
        by_cases c0 : s = 0
        · rw [if_pos c0, zI_lt (by omega) (by omega) (by omega) (by omega)]; omega
        · have := (g3 s (by omega) (by omega))
          rw [if_neg c0, zI_lt (by omega) (by omega) (by omega) (by omega)]; omega), if_pos rfl]
  | succ T ih =>
    intro i k δ μ B A hT hi hk hR hb hK hm hc
    obtain ⟨c, rfl⟩ : ∃ c, k = c + 1 := ⟨k - 1, by omega⟩
    have h := hR.1
    have h31 := pgc_31 (A := A) (s := s) (p := p) (by omega) hc
    have hq := c_quota hR.2.1 hK hn (st := s) (w := 1) (by omega) (by omega)
    have hq' : Wo_exceedsQuota M δ (zI (s : Int)) (1 : Int32) = some (bI (qxB A qv s 1)) := hq
    have hpi := m_pagesIn hb h hR.2.2.1 hm.2.1 (s := s) (by omega)
    have hmo := m_most (bst_SM b B hm) hn (st := s) (by omega)
    have hcls : Wo_makeRoom_2 M (c + 1) (zI (s : Int)) (zI (i : Int)) δ = if qxB A qv s 1 = true then (bp (De_coldestOf δ (zI (s : Int)) (1 : Int32)) fun r2 => bnd r2 fun v3_3 => if 0 ≤ v3_3 then (bd (De_remove δ v3_3) fun _ d5 => bnd (zI (i : Int) + (1 : Int32)) fun v2_6 => Wo_makeRoom_2 M c (zI (s : Int)) v2_6 d5) else (some ((0 : Int32), δ))) else some ((1 : Int32), δ) := by
      rw [Wo_makeRoom_2, if_neg (by rw [zI_lit, zI_le (by omega) (by omega) (by omega) (by omega)]; omega), hq', bp_some, bI_if]
    by_cases cq : qxB A qv s 1 = true
    · have hqd := of_decide_eq_true cq
      have hs0 : s ≠ 0 := hqd.1
      have hqr := g3 s (by omega) (by omega)
      have h40 : ¬ bst μ b B 40 s ≤ 0 := by
        rw [bst_ne _ _ _ (by decide)]
        rcases hm.2.2 s (by omega) (by omega) with z | ⟨z1, z2⟩
        · rw [z, zI_lit, zI_le (by omega) (by omega) (by omega) (by omega)]; omega
        · have := hqd.2; omega
      have hmod : Mo_served_171 (c + 1) v1 (zI (s : Int)) v3 v4 v5 (bst μ b B) = (bp (Mo_coldestOf (bst μ b B) (zI (s : Int)) (1 : Int32)) fun r15 => bnd r15 fun v7_16 => if 0 ≤ v7_16 then (bd (Mo_goes (bst μ b B) v7_16) fun _ d18 => Mo_served_171 c v1 (zI (s : Int)) v3 v4 v5 d18) else (bd (Mo_refuses (bst μ b B) (zI (s : Int))) fun r19 d20 => some (r19, d20))) := by
        rw [Mo_served_171, hpi, bp_some, hmo, bp_some, if_neg (by
          rw [if_neg hs0, zI_lt (by omega) (by omega) (by omega) (by omega)]
          have := hqd.2; omega), if_neg (by rw [zI_lit, zI_le (by omega) (by omega) (by omega) (by omega)]; omega), if_pos (by rw [zI_inb (by omega) (by omega)]; omega), zI_ix (by omega) (by omega), Int.toNat_natCast, if_neg h40]
      rw [if_pos cq, c_cold h hR.2.1 (s := s) (by omega), bp_some, bnd_ap] at hcls
      rw [m_cold hb h hR.2.2.1 (RC_T9 hR hN) hm.2.1 (s := s) (by omega), bp_some, bnd_ap] at hmod
      cases hcl : cld A 1 s with
      | none =>
        rw [hcl, show sc σ none = (-1 : Int) from rfl, if_neg (by decide)] at hcls
        rw [hcl, show cv none = (-1 : Int) from rfl, if_neg (by decide)] at hmod
        exact ⟨false, δ, μ, B, A, hcls, by rw [hmod]; rfl, fun _ _ _ _ _ => rfl, hR, hc, fun _ _ _ => rfl, rfl, fun _ _ => rfl, QMq.refl _ _ _ _, fun z => absurd z (by decide)⟩
      | some x =>
        obtain ⟨x1, x2, x3, x4⟩ := cld_lv (by omega) hcl
        have bx := cr_lt hR.2.1 x1
        have hx192 := x1.1
        have hok : A.1 3 x ≠ 0 ∧ td A x = false := by
          unfold okG at x2
          have h10 : ¬ ((1 : Int32) = 0) := by decide
          simp [h10] at x2
          exact x2
        obtain ⟨t1, t2⟩ := td_NTs h x1 hok.2
        obtain ⟨δ1, μ1, B1, r1, r2, r3, r4, r5, r6, r7⟩ := RC_go hR hb x1 hok.1 (fun y hy hb' => pf_of h hR.2.2.2.2.2.1.2.2.2.1 x1 hy t1 t2 hb')
        have hlt := pgc_go h (s := s) (by omega) x1 x3 x4
        have hK1 : SK M δ1 n S qv := by
          obtain ⟨k0, k1, k2, k3, k4, k5⟩ := hK
          exact ⟨k0, by rw [r5 _ _ (by omega)]; exact k1, k2, k3, k4, k5⟩
        obtain ⟨ok, δ', μ', B', A', s1, s2, s3, s4, s5, s6, s7, s8, s9, s10⟩ := ih (i + 1) c δ1 μ1 B1 (aGo A x) (by omega) (by omega) (by omega) r4 (SC_MB r3 hb) hK1 (SC_SM r3 hm) (by
          cases hc2 : cov (aGo A x) (32 * s + p) with
          | none => rfl
          | some y => rw [(cov_go h (by omega) hc2).1] at hc; cases hc)
        refine ⟨ok, δ', μ', B', A', ?_, ?_, SC_trans r3 s3, s4, s5, fun a i g => by rw [s6 a i g, r5 a i g], by rw [s7, r6], fun k g => by rw [s8 k g, r7 k g], QMq.trans (QMq.MR h.1 hR.2.2.1 r4.2.2.1 (fun s hs => pgF_le (aGo_or A x) hs)) r3 s9, s10⟩
        · rw [hcls, hcl, show sc σ (some x) = (σ x : Int) from rfl, if_pos (by rw [zI_lit, zI_le (by omega) (by omega) (by omega) (by omega)]; omega), r1, bd_some, bnd_ap, show (1 : Int32) = zI 1 from rfl, zI_add, show (i : Int) + 1 = ((i + 1 : Nat) : Int) by omega, s1]
        · rw [hmod, hcl, show cv (some x) = (x : Int) from rfl, if_pos (by rw [zI_lit, zI_le (by omega) (by omega) (by omega) (by omega)]; omega), r2, bd_some, s2]
    · rw [if_neg cq] at hcls
      have hqd := of_decide_eq_false (show qxB A qv s 1 = false by cases hx : qxB A qv s 1 with | false => rfl | true => exact absurd hx cq)
      refine ⟨true, δ, μ, B, A, hcls, ?_, fun _ _ _ _ _ => rfl, hR, hc, fun _ _ _ => rfl, rfl, fun _ _ => rfl, QMq.refl _ _ _ _, fun _ => Bool.eq_false_iff.mpr cq⟩
      rw [Mo_served_171, hpi, bp_some, hmo, bp_some, if_pos (by
        by_cases c0 : s = 0
        · rw [if_pos c0, zI_lt (by omega) (by omega) (by omega) (by omega)]; omega
        · have := (g3 s (by omega) (by omega))
          rw [if_neg c0, zI_lt (by omega) (by omega) (by omega) (by omega)]
          refine Classical.byContradiction fun w => hqd ⟨c0, ?_⟩
          omega), if_pos rfl]
