/-! ===== churn ===== -/
def lcg (x : Nat) : Nat := (x * 1103515245 + 12345) % 2147483648
theorem lcg_lt (x : Nat) : lcg x < 2147483648 := Nat.mod_lt _ (by omega)
theorem and31 (m : Nat) : zI (m : Int) &&& (2147483647 : Int32) = zI ((m % 2147483648 : Nat) : Int) := by
  rw [← zI_nI, ← zI_nI]
  apply Int32.toBitVec_inj.mp
  apply BitVec.eq_of_toNat_eq
  rw [Int32.toBitVec_and, BitVec.toNat_and]
  show (BitVec.ofNat 32 m).toNat &&& 2147483647 = (BitVec.ofNat 32 (m % 2147483648)).toNat
  rw [BitVec.toNat_ofNat, BitVec.toNat_ofNat, Nat.and_two_pow_sub_one_eq_mod (m % 2 ^ 32) 31]
  omega
theorem and63 (m : Nat) : zL (m : Int) &&& (2147483647 : Int64) = zL ((m % 2147483648 : Nat) : Int) := by
  have e : ∀ k : Nat, zL (k : Int) = Int64.ofNat k := fun k => Int64.ofInt_eq_ofNat
  rw [e, e]
  apply Int64.toBitVec_inj.mp
  apply BitVec.eq_of_toNat_eq
  rw [Int64.toBitVec_and, BitVec.toNat_and]
  show (BitVec.ofNat 64 m).toNat &&& 2147483647 = (BitVec.ofNat 64 (m % 2147483648)).toNat
  rw [BitVec.toNat_ofNat, BitVec.toNat_ofNat, Nat.and_two_pow_sub_one_eq_mod (m % 2 ^ 64) 31]
  omega
theorem c_drawn (x : Nat) : Fh_drawnAfter (zI (x : Int)) = some (zI (lcg x : Int)) := by
  rw [Fh_drawnAfter, show (1103515245 : Int32) = zI 1103515245 from rfl, show (12345 : Int32) = zI 12345 from rfl, zI_mul, zI_add, show (x : Int) * 1103515245 + 12345 = ((x * 1103515245 + 12345 : Nat) : Int) by omega, and31]
  rfl
theorem c_mod {x m : Nat} (hx : x < 2147483648) (hm : 1 ≤ m) (hm2 : m < 1000) : (zI (x : Int) >>> ((16 : Int32) &&& 31)) - (zI (x : Int) >>> ((16 : Int32) &&& 31)) / zI (m : Int) * zI (m : Int) = zI ((x / 65536 % m : Nat) : Int) := by
  have e : zI (x : Int) >>> ((16 : Int32) &&& 31) = zI ((x / 65536 : Nat) : Int) := by
    have := zI_shr (a := (x : Int)) (k := 16) (by omega) (by omega) (by omega)
    rw [show (16 : Int32) = zI ((16 : Nat) : Int) from rfl, show (31 : Int32) = zI 31 from rfl, this]
    congr 1
  have h1 : x / 65536 < 2147483648 := Nat.lt_of_le_of_lt (Nat.div_le_self _ _) hx
  rw [e, zI_div (by omega) (by omega) (by omega) (by omega), zI_mul, zI_sub]
  congr 1
  have := Nat.div_add_mod (x / 65536) m
  have e2 : ((x / 65536 : Nat) : Int) / (m : Int) * (m : Int) = (((x / 65536) / m * m : Nat) : Int) := by rw [Int.natCast_mul, ← Int.natCast_ediv]
  rw [e2]
  have e3 : x / 65536 / m * m = m * (x / 65536 / m) := Nat.mul_comm _ _
  omega
theorem m_drawn {μ : Sl} {b : Nat} (B : Nat → Int) {x m : Nat} (hx : x < 2147483648) (hm : 1 ≤ m) (hm2 : m < 1000) (h : dl (μ 34 31) (μ 34 95) = zL (x : Int)) : ∃ μ', Mo_drawnBy (bst μ b B) (zI (m : Int)) = some (zI ((lcg x / 65536 % m : Nat) : Int), bst μ' b B) ∧ dl (μ' 34 31) (μ' 34 95) = zL (lcg x : Int) ∧ ∀ a i, ¬ (a = 34 ∧ (i = 31 ∨ i = 95)) → μ' a i = μ a i := by
  have e31 : bst μ b B 34 31 = μ 34 31 := bst_ne _ _ _ (by omega)
  have e95 : bst μ b B 34 95 = μ 34 95 := bst_ne _ _ _ (by omega)
  have hl := lcg_lt x
  have ev : (zL (x : Int) * (1103515245 : Int64) + (12345 : Int64)) &&& (2147483647 : Int64) = zL (lcg x : Int) := by
    rw [show (1103515245 : Int64) = zL 1103515245 from rfl, show (12345 : Int64) = zL 12345 from rfl, zL_mul, zL_add, show (x : Int) * 1103515245 + 12345 = ((x * 1103515245 + 12345 : Nat) : Int) by omega, and63]
    rfl
  have ed : dl (lo32 (zL (lcg x : Int))) (hi32 (zL (lcg x : Int))) = zL (lcg x : Int) := dl_of _
  have n31 : ∀ v w, wr (wr (bst μ b B) 34 31 v) 34 95 w 34 31 = v := fun v w => by rw [wr_ap, if_neg (by omega), wr_ap, if_pos ⟨rfl, rfl⟩]
  have n95 : ∀ v w, wr (wr (bst μ b B) 34 31 v) 34 95 w 34 95 = w := fun v w => by rw [wr_ap, if_pos ⟨rfl, rfl⟩]
  have mm : ¬ Int32.toInt64 (zI (m : Int)) = 0 := by
    rw [zL_32 (by omega) (by omega)]
    intro z
    have := congrArg Int64.toInt z
    rw [zL_toInt (by omega) (by omega)] at this
    have z0 : (0 : Int64).toInt = 0 := rfl
    omega
  have h1 : lcg x / 65536 < 2147483648 := Nat.lt_of_le_of_lt (Nat.div_le_self _ _) hl
  refine ⟨wr (wr μ 34 31 (lo32 (zL (lcg x : Int)))) 34 95 (hi32 (zL (lcg x : Int))), ?_, ?_, fun a i z => ?_⟩
  · rw [Mo_drawnBy, show 31 + 64 = 95 from rfl, e31, e95, h, ev, bnd_ap, if_pos (by decide), if_pos mm, n31, n95, ed, show (65536 : Int64) = zL ((65536 : Nat) : Int) from rfl, zL_div (by omega) (by omega), zL_32 (by omega) (by omega), zL_div (by omega) (by omega), zL_mul, zL_sub]
    have e2 : ((lcg x / 65536 : Nat) : Int) - ((lcg x / 65536 / m : Nat) : Int) * (m : Int) = ((lcg x / 65536 % m : Nat) : Int) := by
      have := Nat.div_add_mod (lcg x / 65536) m
      have e3 : lcg x / 65536 / m * m = m * (lcg x / 65536 / m) := Nat.mul_comm _ _
      have e4 : ((lcg x / 65536 / m : Nat) : Int) * (m : Int) = ((lcg x / 65536 / m * m : Nat) : Int) := by omega
      rw [e4]; omega
    have h2 : lcg x / 65536 % m < m := Nat.mod_lt _ (by omega)
    rw [e2, zL_to32 (by omega) (by omega), bst_wr (by omega), bst_wr (by omega)]
  · rw [wr_ap, if_neg (by omega), wr_ap, if_pos ⟨rfl, rfl⟩, wr_ap, if_pos ⟨rfl, rfl⟩]; exact ed
  · rw [wr_ap, if_neg (by omega), wr_ap, if_neg (by omega)]
theorem shc3 : ∀ j : Fin 3, (1 : Int32) <<< (zI (j.val : Int) &&& 31) = zI (if j.val = 0 then 1 else if j.val = 1 then 2 else 4) := by decide
section
variable {c n0 : Nat} {M : Mem} {μ : Sl}
theorem TR_34 {μ0 μ1 μ2 : Sl} (h : TR0 μ0 μ1) (e : ∀ a i, ¬ (a = 34 ∧ (i = 31 ∨ i = 95)) → μ2 a i = μ1 a i) : TR0 μ0 μ2 := by
  obtain ⟨h1, h2, h3, h4⟩ := h
  exact ⟨fun a i x y z w => by rw [e a i (by omega)]; exact h1 a i x y z w, ⟨by rw [e _ _ (by omega)]; exact h2.1, h2.2⟩, by rw [e _ _ (by omega)]; exact h3, fun i hi => by rw [e _ _ (by omega)]; exact h4 i hi⟩
theorem churn_l {n S k t K : Nat} (hk : k < 2) (ht : 2 ≤ t) (ht2 : t < 1000) (h6 : M 0 0 6 = zI (t : Int)) {μ0 : Sl} (hTX : ∀ δ' μ', QU μ0 μ' → TX (setS M t δ') k μ' n S) (hn1 : 1 ≤ n) (hn6 : n ≤ 6) (hS : S = 8 ∨ S = 16 ∨ S = 32) (hK : K ≤ 20) : ∀ (m i f g x cnt : Nat) (δ μ1 : Sl) (σ : Nat → Nat) (bn : Nat) (B : Nat → Int) (A : Ab) (dep : Nat → Nat) (J : List Jb) (N e : Int), i + m = K → m < f → m < g → cnt ≤ i → x < 2147483648 → dl (μ1 34 31) (μ1 34 95) = zL (x : Int) → RC n S δ σ bn B A dep J N → WX (e, 0) n S δ B → δ 10 0 = zI (k : Int) → N + m < 2147483648 → B 2196 + 100 * m < 2147483648 → TR0 μ0 μ1 →
    ∃ (r : Int32) (δ' μ' : Sl), Fh_churn_92 f (zI (K : Int)) (zI (n : Int)) (zI (S : Int)) (zI (x : Int)) (zI (cnt : Int)) (zI (i : Int)) (setS M t δ) = some (r, setS M t δ') ∧ Mo_churn_62 g (zI (K : Int)) (zI (cnt : Int)) (zI (i : Int)) (bst μ1 1 B) = some (r, wr μ' 34 25 (0 : Int32)) ∧ TR0 μ0 μ' := by
  have d6 : ∀ δ, setS M t δ 0 0 6 = zI (t : Int) := fun δ => by rw [setS_ne _ _ (by omega)]; exact h6
  intro m
  induction m with
  | zero =>
    intro i f g x cnt δ μ1 σ bn B A dep J N e hi hf hg hcn hx hdl hR hX h10 hN hW hT
    obtain ⟨f', rfl⟩ : ∃ f', f = f' + 1 := ⟨f - 1, by omega⟩
    obtain ⟨g', rfl⟩ : ∃ g', g = g' + 1 := ⟨g - 1, by omega⟩
    refine ⟨zI (cnt : Int), δ, bst μ1 1 B, ?_, ?_, TR_bst hT B⟩
    · rw [Fh_churn_92, if_pos (by rw [zI_le (by omega) (by omega) (by omega) (by omega)]; omega)]
    · rw [Mo_churn_62, if_pos (by rw [zI_le (by omega) (by omega) (by omega) (by omega)]; omega), bnd_ap]
  | succ m ih =>
    intro i f g x cnt δ μ1 σ bn B A dep J N e hi hf hg hcn hx hdl hR hX h10 hN hW hT
    obtain ⟨f', rfl⟩ : ∃ f', f = f' + 1 := ⟨f - 1, by omega⟩
    obtain ⟨g', rfl⟩ : ∃ g', g = g' + 1 := ⟨g - 1, by omega⟩
    have l1 := lcg_lt x
    have l2 := lcg_lt (lcg x)
    have l3 := lcg_lt (lcg (lcg x))
    obtain ⟨μ2, a1, a2, a3⟩ := m_drawn (b := 1) B (m := n) hx hn1 (by omega) hdl
    obtain ⟨μ3, b1, b2, b3⟩ := m_drawn (b := 1) B (m := S) l1 (by omega) (by omega) a2
    obtain ⟨μ4, c1, c2, c3⟩ := m_drawn (b := 1) B (m := 3) l2 (by omega) (by omega) b2
    have T2 := TR_34 hT a3
    have T3 := TR_34 T2 b3
    have T4 := TR_34 T3 c3
    have ps : lcg x / 65536 % n < n := Nat.mod_lt _ (by omega)
    have pp : lcg (lcg x) / 65536 % S < S := Nat.mod_lt _ (by omega)
    have pr : lcg (lcg (lcg x)) / 65536 % 3 < 3 := Nat.mod_lt _ (by omega)
    have es := c_mod (m := n) l1 (by omega) (by omega)
    have ep := c_mod (m := S) l2 (by omega) (by omega)
    have er := c_mod (m := 3) l3 (by omega) (by omega)
    rw [show zI ((3 : Nat) : Int) = (3 : Int32) from rfl] at er c1
    have esh := shc3 ⟨_, pr⟩
    dsimp only at esh
    generalize lcg x / 65536 % n = s at *
    generalize lcg (lcg x) / 65536 % S = p at *
    generalize lcg (lcg (lcg x)) / 65536 % 3 = j at *
    obtain ⟨r, hr⟩ : ∃ r : Int, (if j = 0 then 1 else if j = 1 then 2 else 4) = r := ⟨_, rfl⟩
    have hr3 : r = 1 ∨ r = 2 ∨ r = 4 := by rw [← hr]; split <;> (try split) <;> omega
    rw [hr] at esh
    obtain ⟨qv, pv, wv, cc, wb, kd, xx, s1, s2, s3, s4⟩ := TX_SB (hTX δ μ4 T4.1)
    have hSB := s1 _ h10
    obtain ⟨hSK, hSM, hSN, hPK, hPM, hPN, -⟩ := id hSB
    have m11 : bst μ1 1 B 34 11 = zI (n : Int) := by
      rw [bst_ne _ _ _ (by omega), ← a3 _ _ (by omega), ← b3 _ _ (by omega), ← c3 _ _ (by omega)]; exact hSM.1
    have msz : Mo_size (bst μ2 1 B) = some (zI (S : Int)) := by
      rw [Mo_size, if_pos (by decide), show ix (3 : Int32) = 3 from by decide, bst_ne _ _ _ (by omega), ← b3 _ _ (by omega), ← c3 _ _ (by omega), hSM.2.1]
    have mw : Mo_isWaiting (bst μ4 1 B) (zI (s : Int)) = if zI (B (2172 + s)) = (1 : Int32) then some (1 : Int32) else some (0 : Int32) := by
      rw [Mo_isWaiting, show (2172 : Int32) = zI 2172 from rfl, zI_add, m_of T4.2.1 B (by omega) (by omega), bp_some, show (2172 + (s : Int)).toNat = 2172 + s by omega]
    have cl0 : Fh_churn_92 (f' + 1) (zI (K : Int)) (zI (n : Int)) (zI (S : Int)) (zI (x : Int)) (zI (cnt : Int)) (zI (i : Int)) (setS M t δ) = (bd (lft (setS M t δ) t (Wo_touchPage (setS M t δ) δ (zI (s : Int)) (zI (p : Int)) (zI r))) fun r14 d15 => if r14 < 0 then (Fh_churn_164 (Fh_churn_92 f') (zI (K : Int)) (zI (n : Int)) (zI (S : Int)) (zI (lcg (lcg (lcg x)) : Int)) (zI (cnt : Int)) (zI (i : Int)) d15) else (bnd (zI (cnt : Int) + (1 : Int32)) fun v6_16 => Fh_churn_164 (Fh_churn_92 f') (zI (K : Int)) (zI (n : Int)) (zI (S : Int)) (zI (lcg (lcg (lcg x)) : Int)) v6_16 (zI (i : Int)) d15)) := by
      rw [Fh_churn_92, if_neg (by rw [zI_le (by omega) (by omega) (by omega) (by omega)]; omega), c_drawn, bp_some, bnd_ap, if_pos (by rw [zI_lit, zI_eq (by omega) (by omega) (by omega) (by omega)]; omega), es, bnd_ap, c_drawn, bp_some, bnd_ap, if_pos (by rw [zI_lit, zI_eq (by omega) (by omega) (by omega) (by omega)]; omega), ep, bnd_ap, c_drawn, bp_some, bnd_ap, d6, gref_z (by omega), if_pos (by decide), er, esh, setS_at]
    have mo0 : Mo_churn_62 (g' + 1) (zI (K : Int)) (zI (cnt : Int)) (zI (i : Int)) (bst μ1 1 B) = (bp (Mo_isWaiting (bst μ4 1 B) (zI (s : Int))) fun r16 => if r16 = 0 then (bd (Mo_touched (bst μ4 1 B) (zI (s : Int)) (zI (p : Int)) (zI r)) fun r17 d18 => if r17 < 0 then (Mo_churn_125 (Mo_churn_62 g') (zI (K : Int)) (zI (i : Int)) (0 : Int32) (zI (cnt : Int)) d18) else (Mo_churn_125 (Mo_churn_62 g') (zI (K : Int)) (zI (i : Int)) (1 : Int32) (zI (cnt : Int)) d18)) else (Mo_churn_127 (Mo_churn_62 g') (zI (K : Int)) (zI (cnt : Int)) (zI (i : Int)) (bst μ4 1 B))) := by
      rw [Mo_churn_62, if_neg (by rw [zI_le (by omega) (by omega) (by omega) (by omega)]; omega), m11, a1, bd_some, bnd_ap, msz, bp_some, b1, bd_some, bnd_ap, c1, bd_some, esh, bnd_ap]
    -- behind the touch: settle, and on
    have go : ∀ (cnt' : Nat) (δ1 μ5 : Sl) (σ1 : Nat → Nat) (bn1 : Nat) (B1 : Nat → Int) (A1 : Ab) (dep1 : Nat → Nat) (J1 : List Jb) (N1 : Int), cnt' ≤ i + 1 → RC n S δ1 σ1 bn1 B1 A1 dep1 J1 N1 → WX (e, 0) n S δ1 B1 → δ1 10 0 = zI (k : Int) → N1 ≤ N + 1 → B1 2196 ≤ B 2196 + 1 → SC μ4 μ5 → ∃ (r : Int32) (δ' μ' : Sl), Fh_churn_164 (Fh_churn_92 f') (zI (K : Int)) (zI (n : Int)) (zI (S : Int)) (zI (lcg (lcg (lcg x)) : Int)) (zI (cnt' : Int)) (zI (i : Int)) (setS M t δ1) = some (r, setS M t δ') ∧ Mo_churn_127 (Mo_churn_62 g') (zI (K : Int)) (zI (cnt' : Int)) (zI (i : Int)) (bst μ5 1 B1) = some (r, wr μ' 34 25 (0 : Int32)) ∧ TR0 μ0 μ' := fun cnt' δ1 μ5 σ1 bn1 B1 A1 dep1 J1 N1 h0 h1 h2 h3 h4 h5 h7 => by
      have T5 := TR_SC T4 h7
      obtain ⟨qv1, pv1, wv1, cc1, wb1, kd1, xx1, t1, -⟩ := TX_SB (hTX δ1 μ5 T5.1)
      obtain ⟨cn, δ2, μ6, σ2, bn2, B2, A2, dep2, v1, r1, r2, r4, r5, r6, r7, r8⟩ := settle_on (M := setS M t δ1) h1 h2 (by omega) (by omega) T5.2.1 (t1 _ h3)
      have hd6 : dl (μ6 34 31) (μ6 34 95) = zL (lcg (lcg (lcg x)) : Int) := by
        rw [r6 _ _ (by omega) (by omega) (by omega), r6 _ _ (by omega) (by omega) (by omega), h7 _ _ (by omega) (by omega) (by omega), h7 _ _ (by omega) (by omega) (by omega)]; exact c2
      obtain ⟨r, δ', μ', y1, y2, y3⟩ := ih (i + 1) f' g' (lcg (lcg (lcg x))) cnt' δ2 μ6 σ2 bn2 B2 A2 dep2 J1 N1 e (by omega) (by omega) (by omega) h0 l3 hd6 r4 r5 (by rw [r7]; exact h3) (by omega) (by omega) (TR_SC T5 r6)
      refine ⟨r, δ', μ', ?_, ?_, y3⟩
      · rw [Fh_churn_164, d6, gref_z (by omega), setS_at, r1, lft_some, bd_some, setS_setS, bnd_ap, zI_s1, y1]
      · rw [Mo_churn_127, r2, bd_some, bnd_ap, zI_s1, y2]
    rw [cl0, mo0, mw]
    by_cases zw : B (2172 + s) = 0
    · rw [if_neg (by rw [zw]; decide), bp_some, if_pos rfl]
      obtain ⟨v, δ1, σ1, bn1, μ5, B1, A1, dep1, J1, N1, k1, k2, ⟨k3, k3', k3''⟩, k4, k5, k6, k7, k8, k9, -⟩ := touch_wo (M := setS M t δ) hR hX T4.2.1 hSK hSN hPK hPM hPN ps pp hr3 zw
      rw [k1, k2, lft_some, bd_some, bd_some, setS_setS]
      by_cases zv : v < 0
      · have zv' : zI v < (0 : Int32) := by rw [zI_lit, zI_lt (by omega) (by omega) (by omega) (by omega)]; omega
        rw [if_pos zv', if_pos zv', Mo_churn_125, bnd_ap, show zI (cnt : Int) + (0 : Int32) = zI (cnt : Int) by rw [show (0 : Int32) = zI 0 from rfl, zI_add, Int.add_zero]]
        exact go cnt δ1 μ5 σ1 bn1 B1 A1 dep1 J1 N1 (by omega) k4 k5 (by rw [k7]; exact h10) k8 k9 k6
      · have zv' : ¬ zI v < (0 : Int32) := by rw [zI_lit, zI_lt (by omega) (by omega) (by omega) (by omega)]; omega
        rw [if_neg zv', if_neg zv', Mo_churn_125, bnd_ap, bnd_ap, zI_s1]
        exact go (cnt + 1) δ1 μ5 σ1 bn1 B1 A1 dep1 J1 N1 (by omega) k4 k5 (by rw [k7]; exact h10) k8 k9 k6
    · have zw1 : B (2172 + s) = 1 := by
        rcases hX.1 s (by omega) with h | h
        · exact absurd h.1 zw
        · exact h.1
      have tb := touch_bad (M := setS M t δ) hX (by omega) hSK hSN (x := (s : Int)) (y := (p : Int)) (r := r) ⟨by omega, by omega⟩ ⟨by omega, by omega⟩ ⟨by omega, by omega⟩ (by
        unfold tcB
        rw [show ((s : Int)).toNat = s by omega, decide_eq_false (p := B (2172 + s) = 0) zw, Bool.and_false, Bool.and_false, Bool.and_false])
      rw [if_pos (by rw [zw1]; decide), bp_some, if_neg (by decide), tb, lft_some, bd_some, setS_setS, if_pos zI_m1]
      exact go cnt δ μ4 σ bn B A dep J N (by omega) hR hX h10 (by omega) (by omega) (SC_refl μ4)
theorem top_churn (hI : Inv c n0 M μ) (hc : c < 600) (a1 a2 : Int32) : TopM c n0 (Fh_churn M a1 a2) (Mo_churn μ a1 a2) := by
  obtain ⟨n, S, k, w, t, B, σ, bn, A, dep, J, N, e, qv, pv, wv, δt, ⟨a, a2', a3, a4, a5⟩, ⟨b1, b2, b3, b4⟩, ⟨hR, hX⟩, ⟨hR1, hX1, h10⟩, hcp, hSB, ⟨f1, f2, f3⟩, ⟨hN, hW⟩, hTX, hbad, hfin⟩ := top_try hI
  obtain ⟨x1, ⟨i1, i2⟩, rfl⟩ := zI_ex a1
  obtain ⟨x2, ⟨j1, j2⟩, rfl⟩ := zI_ex a2
  have hn6 := hSB.2.2.1.1
  have hS := hSB.2.2.1.2.1
  have h11 : wr μ 34 2 (0 : Int32) 34 11 = zI (n : Int) := hSB.2.1.1
  have hT := hTX (M t) _ (QU_refl _)
  rw [setS_self] at hT
  obtain ⟨_, _, _, cc, wb, dc, sd, kd, xx, ⟨_, y5, y6, -⟩, -, -, -, y9, y10, y11, y12⟩ := id hT
  have hb := hbad (M t)
  rw [setS_self] at hb
  have q0 : ∀ r : Int32, ∀ R1 R2, R1 = some (r, M) → R2 = some (r, wr μ 34 2 (0 : Int32)) → TopM c n0 R1 R2 := fun r R1 R2 h1 h2 => ⟨r, M, _, h1, h2, hb⟩
  have hin : Mo_isIn (zI x2) (1 : Int32) (20 : Int32) = some (bI (decide ((1 : Int) ≤ x2 ∧ x2 ≤ 20))) := m_isIn (lo := 1) (hi := 20) ⟨j1, j2⟩ ⟨by omega, by omega⟩ ⟨by omega, by omega⟩
  by_cases z1 : x1 < -1
  · have z1' : zI x1 < (-1 : Int32) := by rw [show (-1 : Int32) = zI (-1) from rfl, zI_lt (by omega) (by omega) (by omega) (by omega)]; omega
    exact q0 (-1) _ _ (by rw [Fh_churn, if_pos z1']) (by rw [Mo_churn, bnd_ap, if_pos z1'])
  have z1' : ¬ zI x1 < (-1 : Int32) := by rw [show (-1 : Int32) = zI (-1) from rfl, zI_lt (by omega) (by omega) (by omega) (by omega)]; omega
  by_cases z2 : 1 ≤ x2 ∧ x2 ≤ 20
  · have c1 : ¬ zI x2 < (1 : Int32) := by rw [show (1 : Int32) = zI 1 from rfl, zI_lt (by omega) (by omega) (by omega) (by omega)]; omega
    have c2 : zI x2 ≤ (20 : Int32) := by rw [show (20 : Int32) = zI 20 from rfl, zI_le (by omega) (by omega) (by omega) (by omega)]; omega
    by_cases z3 : n = 0
    · exact q0 (-2) _ _ (by rw [Fh_churn, if_neg z1', if_neg c1, if_pos c2, a, gref_z (by omega), a3, gref_z (by omega), y5, bnd_ap, gref_z (by omega), a3, gref_z (by omega), bnd_ap, if_pos (by rw [z3]; decide)]) (by rw [Mo_churn, bnd_ap, if_neg z1', hin, bp_some, bI_if, if_pos (decide_eq_true z2), h11, if_pos (by rw [z3]; decide)])
    · have c3 : ¬ zI (n : Int) < (1 : Int32) := by rw [show (1 : Int32) = zI 1 from rfl, zI_lt (by omega) (by omega) (by omega) (by omega)]; omega
      have c4 : (1 : Int32) ≤ zI (S : Int) := by rw [show (1 : Int32) = zI 1 from rfl, zI_le (by omega) (by omega) (by omega) (by omega)]; omega
      have d4 : setS M t δt 0 0 4 = zI (w : Int) := by rw [setS_ne _ _ (by omega)]; exact a
      have dw : setS M t δt w = M w := setS_ne _ _ (fun z => b4 z.symm)
      have dk : setS M t δt k = M k := setS_ne _ _ (by omega)
      obtain ⟨xs, hxs, hxe⟩ : ∃ xs : Nat, xs < 2147483648 ∧ ((0 ≤ x1 ∧ x1 = (xs : Int)) ∨ (x1 = -1 ∧ sd = (xs : Int))) := by
        by_cases z : 0 ≤ x1
        · exact ⟨x1.toNat, by omega, .inl ⟨z, by omega⟩⟩
        · exact ⟨sd.toNat, by omega, .inr ⟨by omega, by omega⟩⟩
      have cl : Fh_churn M (zI x1) (zI x2) = Fh_churn_92 FU (zI x2) (zI (n : Int)) (zI (S : Int)) (zI (xs : Int)) (0 : Int32) (0 : Int32) (setS M t δt) := by
        rw [Fh_churn, if_neg z1', if_neg c1, if_pos c2, a, gref_z (by omega), a3, gref_z (by omega), y5, bnd_ap, gref_z (by omega), a3, gref_z (by omega), y6, bnd_ap, if_neg c3, if_pos c4, b1, gref_z (by omega), gref_z (by omega), hcp, bd_some]
        rcases hxe with ⟨h1, h2⟩ | ⟨h1, h2⟩
        · rw [if_pos (by rw [zI_lit, zI_le (by omega) (by omega) (by omega) (by omega)]; omega), Fh_churn_84, bnd_ap, bnd_ap, bnd_ap, h2]
        · rw [if_neg (by rw [zI_lit, zI_le (by omega) (by omega) (by omega) (by omega)]; omega), d4, gref_z (by omega), dw, a3, gref_z (by omega), dk, y9, Fh_churn_84, bnd_ap, bnd_ap, bnd_ap, h2]
      have mo : Mo_churn μ (zI x1) (zI x2) = Mo_churn_50 (zI x2) (zL (xs : Int)) (wr μ 34 2 (0 : Int32)) := by
        rw [Mo_churn, bnd_ap, if_neg z1', hin, bp_some, bI_if, if_pos (decide_eq_true z2), h11, if_neg (by rw [zI_lit, zI_eq (by omega) (by omega) (by omega) (by omega)]; omega)]
        rcases hxe with ⟨h1, h2⟩ | ⟨h1, h2⟩
        · rw [if_pos (by rw [zI_lit, zI_le (by omega) (by omega) (by omega) (by omega)]; omega), h2, zL_32 (by omega) (by omega)]
        · rw [if_neg (by rw [zI_lit, zI_le (by omega) (by omega) (by omega) (by omega)]; omega), if_pos (by decide), show ix (6 : Int32) = 6 from by decide, y10, h2, zL_32 (by omega) (by omega)]
      obtain ⟨μ0, hμ0⟩ : ∃ μ0, wr (wr (wr μ 34 2 (0 : Int32)) 34 31 (lo32 (zL (xs : Int)))) 34 95 (hi32 (zL (xs : Int))) = μ0 := ⟨_, rfl⟩
      have k0 : ∀ a i, ¬ (a = 34 ∧ (i = 31 ∨ i = 95)) → μ0 a i = wr μ 34 2 (0 : Int32) a i := fun a i z => by rw [← hμ0, wr_ap, if_neg (by omega), wr_ap, if_neg (by omega)]
      have e31 : μ0 34 31 = lo32 (zL (xs : Int)) := by rw [← hμ0, wr_ap, if_neg (by omega), wr_ap, if_pos ⟨rfl, rfl⟩]
      have e95 : μ0 34 95 = hi32 (zL (xs : Int)) := by rw [← hμ0, wr_ap, if_pos ⟨rfl, rfl⟩]
      have hq0 : QU (wr μ 34 2 (0 : Int32)) μ0 := fun a i _ _ _ z => k0 a i (by omega)
      obtain ⟨μ1, u1, u2, u3⟩ := asNow_on (μ0 := μ0) (B := B) (fun i hi => by rw [k0 _ _ (by omega)]; exact f3 i hi)
      have w1 : ∀ i, i = 31 ∨ i = 95 → μ1 34 i = μ0 34 i := fun i hi => by
        have hm := m_bank (μ := μ0) (s := 0) (t := 1) (by omega) (by omega) (by omega)
        rw [Mo_asNow, show (0 : Int32) = zI ((0 : Nat) : Int) from rfl, show (1 : Int32) = zI ((1 : Nat) : Int) from rfl, hm, bd_some, bnd_ap] at u1
        have e1 : wr (cpn μ0 0 1 2227) 34 25 (zI ((1 : Nat) : Int)) = μ1 := by
          have := Option.some.inj u1
          exact (Prod.mk.inj this).2
        rw [← e1, wr_ap, if_neg (by omega), cpn, if_neg (by omega)]
      obtain ⟨r, δ', μ', g1, g2, g3⟩ := churn_l (M := M) (K := x2.toNat) a4 b3 b2 b1 (μ0 := μ0) (fun δ' μ' h => hTX δ' μ' (QU_trans hq0 h)) (by omega) hn6 hS (by omega) x2.toNat 0 FU FU xs 0 δt μ1 σ bn B A dep J N e (by omega) (FU_gt (by omega)) (FU_gt (by omega)) (by omega) hxs (by rw [w1 31 (by omega), w1 95 (by omega), e31, e95]; exact dl_of _) hR1 hX1 h10 (by omega) (by omega) u3
      have z0 : zI ((0 : Nat) : Int) = (0 : Int32) := rfl
      rw [z0, show ((x2.toNat : Nat) : Int) = x2 by omega] at g1
      rw [z0, show ((x2.toNat : Nat) : Int) = x2 by omega, u2] at g2
      refine ⟨r, setS M t δ', wr μ' 34 25 (0 : Int32), ?_, ?_, hfin μ0 δ' μ' hq0 (fun i => ?_) ?_ g3⟩
      · rw [cl, g1]
      · rw [mo, Mo_churn_50, show 31 + 64 = 95 from rfl, hμ0, bnd_ap, u1, bd_some, bnd_ap, bnd_ap, g2]
      · rw [k0 _ _ (by omega), wr_ap, if_neg (by omega)]
      · rw [k0 _ _ (by omega), wr_ap, if_neg (by omega)]
  · refine q0 (-1) _ _ ?_ (by rw [Mo_churn, bnd_ap, if_neg z1', hin, bp_some, bI_if, if_neg (by rw [decide_eq_true_eq]; exact z2)])
    rw [Fh_churn, if_neg z1']
    by_cases z : x2 < 1
    · rw [if_pos (by rw [show (1 : Int32) = zI 1 from rfl, zI_lt (by omega) (by omega) (by omega) (by omega)]; omega)]
    · rw [if_neg (by rw [show (1 : Int32) = zI 1 from rfl, zI_lt (by omega) (by omega) (by omega) (by omega)]; omega), if_neg (by rw [show (20 : Int32) = zI 20 from rfl, zI_le (by omega) (by omega) (by omega) (by omega)]; omega)]
end
