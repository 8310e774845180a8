/-! ===== settle ===== -/
def SB (M : Mem) (δ μ : Sl) (n S : Nat) (qv pv wv : Nat → Int) : Prop := SK M δ n S qv ∧ SM μ n S qv ∧ SN n S qv ∧ PK M δ n pv ∧ PM μ n pv ∧ PN n pv ∧ WK M δ n wv ∧ WMo μ n wv ∧ WN n wv
theorem SB_d {M : Mem} {δ δ' μ μ' : Sl} {n S : Nat} {qv pv wv : Nat → Int} (h : SB M δ μ n S qv pv wv) (e : δ' 10 0 = δ 10 0) (hs : SC μ μ') : SB M δ' μ' n S qv pv wv := by
  obtain ⟨⟨k, k1, k2⟩, h2, h3, ⟨p, p1, p2⟩, h5, h6, ⟨w, w1, w2⟩, h8, h9⟩ := h
  exact ⟨⟨k, by rw [e]; exact k1, k2⟩, SC_SM hs h2, h3, ⟨p, by rw [e]; exact p1, p2⟩, fun s q => by rw [hs 38 s (by omega) (by omega) (by omega)]; exact h5 s q, h6, ⟨w, by rw [e]; exact w1, w2⟩, fun s q => by rw [hs 39 s (by omega) (by omega) (by omega)]; exact h8 s q, h9⟩
theorem serve_sb {ee : Int × Int} {n S : Nat} {M : Mem} {δ : Sl} {σ : Nat → Nat} {bn : Nat} {B : Nat → Int} {A : Ab} {dep : Nat → Nat} {J : List Jb} {N : Int} {μ : Sl} {b : Nat} {qv pv wv : Nat → Int} (hR : RC n S δ σ bn B A dep J N) (hX : WX ee n S δ B) (hN : N < 2147483648) (hW : B 2196 + 1 < 2147483648) (hb : MB μ b) (hS : SB M δ μ n S qv pv wv) {a : Nat} (ha : a < n) : WV ee n S δ μ b B J N (Wo_serveFirst M δ (zI (a : Int))) (Mo_served (bst μ b B) (zI (a : Int))) := by
  obtain ⟨h1, h2, h3, h4, h5, h6, h7, h8, h9⟩ := hS
  exact serve_on hR hX hN hW hb h1 h2 h3 h4 h5 h6 h7 h8 h9 ha
theorem serve_none {ee : Int × Int} {n S : Nat} {M : Mem} {δ : Sl} {B : Nat → Int} {qv pv : Nat → Int} (hX : WX ee n S δ B) (hW : B 2196 < 2147483648) (hK : SK M δ n S qv) (hn : SN n S qv) (hpk : PK M δ n pv) (hpn : PN n pv) {a : Nat} (ha : a < n) (hf : fwt B pv n a = none) : Wo_serveFirst M δ (zI (a : Int)) = some (zI (-2), δ) := by
  obtain ⟨g1, g2, g3⟩ := id hn
  have his := c_isSpace hK hn (x := (a : Int)) ⟨by omega, by omega⟩
  rw [decide_eq_true (show 0 ≤ (a : Int) ∧ (a : Int) < (n : Int) by omega)] at his
  have hcf := c_fw hX hW hK hpk hpn g1 ha
  rw [Wo_serveFirst, his, bp_some, bI_if, if_pos rfl, hcf, bp_some, bnd_ap, hf, show cv none = (-1 : Int) from rfl, if_neg (by decide)]
  rfl
/-- nothing moves any more -/
def QT (M : Mem) (δ : Sl) (n i : Nat) : Prop := ∀ a, i ≤ a → a < n → ∃ v : Int, -4 ≤ v ∧ v ≤ -2 ∧ Wo_serveFirst M δ (zI (a : Int)) = some (zI v, δ)
theorem set_in {ee : Int × Int} {n S : Nat} {M : Mem} {J : List Jb} {N : Int} {b : Nat} {qv pv wv : Nat → Int} (hN : N < 2147483648) (v3 v2' : Int32) : ∀ (m i k c0 : Nat) (mv0 : Bool) (δ μ : Sl) (σ : Nat → Nat) (bn : Nat) (B : Nat → Int) (A : Ab) (dep : Nat → Nat), i + m = n → m < k → c0 + m < 1000 → RC n S δ σ bn B A dep J N → WX ee n S δ B → MB μ b → SB M δ μ n S qv pv wv → B 2196 + (m : Int) < 2147483648 →
    ∃ (c : Nat) (mv : Bool) (δ' μ' : Sl) (σ' : Nat → Nat) (bn' : Nat) (B' : Nat → Int) (A' : Ab) (dep' : Nat → Nat), c ≤ m ∧ (∀ k6, Wo_settleAll_21 k6 M k (zI (c0 : Int)) (bI mv0) v3 (zI (i : Int)) δ = k6 (zI ((c0 + c : Nat) : Int)) (bI (mv0 || mv)) (v3 + 1) δ') ∧ (∀ k4, Mo_settles_12 k4 k (zI (c0 : Int)) v2' (zI (i : Int)) (bst μ b B) = k4 (zI ((c0 + c : Nat) : Int)) (v2' + 1) (bst μ' b B')) ∧ RC n S δ' σ' bn' B' A' dep' J N ∧ WX ee n S δ' B' ∧ SC μ μ' ∧ δ' 10 0 = δ 10 0 ∧ B' 2196 ≤ B 2196 + (m : Int) ∧ (mv = false → c = 0 ∧ δ' = δ ∧ B' = B ∧ QT M δ n i) ∧ QMq μ n S B B' := by
  intro m
  induction m with
  | zero =>
    intro i k c0 mv0 δ μ σ bn B A dep hi hk hc hR hX hb hS hW
    obtain ⟨q, rfl⟩ : ∃ q, k = q + 1 := ⟨k - 1, by omega⟩
    obtain ⟨k0, k1, k2, k3, k4⟩ := hS.1
    have g1 := hS.2.2.1.1
    have e11 : bst μ b B 34 11 = zI (n : Int) := by rw [bst_ne _ _ _ (by decide)]; exact hS.2.1.1
    refine ⟨0, false, δ, μ, σ, bn, B, A, dep, by omega, fun k6 => ?_, fun k4 => ?_, hR, hX, fun _ _ _ _ _ => rfl, rfl, by omega, fun _ => ⟨rfl, rfl, rfl, fun a h1 h2 => by omega⟩, QMq.refl _ _ _ _⟩
    · rw [Wo_settleAll_21, k1, gref_z k2, k3, if_pos (by rw [zI_le (by omega) (by omega) (by omega) (by omega)]; omega), bnd_ap, Bool.or_false]; rfl
    · rw [Mo_settles_12, e11, if_pos (by rw [zI_le (by omega) (by omega) (by omega) (by omega)]; omega), bnd_ap]; rfl
  | succ m ih =>
    intro i k c0 mv0 δ μ σ bn B A dep hi hk hc hR hX hb hS hW
    obtain ⟨q, rfl⟩ : ∃ q, k = q + 1 := ⟨k - 1, by omega⟩
    obtain ⟨k0, k1, k2, k3, k4⟩ := hS.1
    have g1 := hS.2.2.1.1
    have e11 : bst μ b B 34 11 = zI (n : Int) := by rw [bst_ne _ _ _ (by decide)]; exact hS.2.1.1
    push_cast at hW
    have hnx : zI (i : Int) + 1 = zI ((i + 1 : Nat) : Int) := by rw [show (1 : Int32) = zI 1 from rfl, zI_add]; rfl
    have hserve := serve_sb hR hX hN (by omega) hb hS (a := i) (by omega)
    have hmf := m_fw hb hX (by omega) hS.2.1.1 hS.2.2.2.2.1 hS.2.2.2.2.2.1 g1 (a := i) (by omega)
    have hclass : ∀ k6, Wo_settleAll_21 k6 M (q + 1) (zI (c0 : Int)) (bI mv0) v3 (zI (i : Int)) δ = (bd (Wo_serveFirst M δ (zI (i : Int))) fun r5 d6 => bnd r5 fun v5_7 => if v5_7 < 0 then (Wo_settleAll_49 k6 (Wo_settleAll_21 k6 M q) M (zI (c0 : Int)) (bI mv0) v3 (zI (i : Int)) v5_7 d6) else (bnd (zI (c0 : Int) + (1 : Int32)) fun v1_8 => Wo_settleAll_49 k6 (Wo_settleAll_21 k6 M q) M v1_8 (bI mv0) v3 (zI (i : Int)) v5_7 d6)) := fun k6 => by
      rw [Wo_settleAll_21, k1, gref_z k2, k3, if_neg (by rw [zI_le (by omega) (by omega) (by omega) (by omega)]; omega)]
    have hmodel : ∀ k4, Mo_settles_12 k4 (q + 1) (zI (c0 : Int)) v2' (zI (i : Int)) (bst μ b B) = (if zI (cv (fwt B pv n i)) < 0 then (Mo_settles_41 k4 (Mo_settles_12 k4 q) v2' (zI (i : Int)) (zI (c0 : Int)) (bst μ b B)) else (bd (Mo_served (bst μ b B) (zI (i : Int))) fun r5 d6 => if r5 < 0 then (Mo_settles_41 k4 (Mo_settles_12 k4 q) v2' (zI (i : Int)) (zI (c0 : Int)) d6) else (Mo_settles_42 k4 (Mo_settles_12 k4 q) v2' (zI (i : Int)) (1 : Int32) (zI (c0 : Int)) d6))) := fun k4 => by
      rw [Mo_settles_12, e11, if_neg (by rw [zI_le (by omega) (by omega) (by omega) (by omega)]; omega), hmf, bp_some]
    have h41 : ∀ k4 B1 μ1, Mo_settles_41 k4 (Mo_settles_12 k4 q) v2' (zI (i : Int)) (zI (c0 : Int)) (bst μ1 b B1) = Mo_settles_12 k4 q (zI (c0 : Int)) v2' (zI ((i + 1 : Nat) : Int)) (bst μ1 b B1) := fun k4 B1 μ1 => by
      rw [Mo_settles_41, Mo_settles_42, bnd_ap, bnd_ap, hnx, show zI (c0 : Int) + 0 = zI (c0 : Int) by rw [show (0 : Int32) = zI 0 from rfl, zI_add, Int.add_zero]]
    have h42 : ∀ k4 B1 μ1, Mo_settles_42 k4 (Mo_settles_12 k4 q) v2' (zI (i : Int)) (1 : Int32) (zI (c0 : Int)) (bst μ1 b B1) = Mo_settles_12 k4 q (zI ((c0 + 1 : Nat) : Int)) v2' (zI ((i + 1 : Nat) : Int)) (bst μ1 b B1) := fun k4 B1 μ1 => by
      rw [Mo_settles_42, bnd_ap, bnd_ap, hnx, show zI (c0 : Int) + 1 = zI ((c0 + 1 : Nat) : Int) by rw [show (1 : Int32) = zI 1 from rfl, zI_add]; rfl]
    have h63 : ∀ k6 v1 v2 d, Wo_settleAll_63 k6 (Wo_settleAll_21 k6 M q) M v1 v2 v3 (zI (i : Int)) d = Wo_settleAll_21 k6 M q v1 v2 v3 (zI ((i + 1 : Nat) : Int)) d := fun k6 v1 v2 d => by rw [Wo_settleAll_63, bnd_ap, hnx]
    have h61 : ∀ k6 v1 d, Wo_settleAll_61 k6 (Wo_settleAll_21 k6 M q) M v1 v3 (zI (i : Int)) d = Wo_settleAll_21 k6 M q v1 (bI true) v3 (zI ((i + 1 : Nat) : Int)) d := fun k6 v1 d => by rw [Wo_settleAll_61, bnd_ap, h63]; rfl
    by_cases cq : ∃ v : Int, -4 ≤ v ∧ v ≤ -2 ∧ Wo_serveFirst M δ (zI (i : Int)) = some (zI v, δ)
    · -- nothing moves here
      obtain ⟨v, v1, v2, v3'⟩ := cq
      obtain ⟨μ1, hs1, hm1⟩ : ∃ μ1, SC μ μ1 ∧ ∀ k4, Mo_settles_12 k4 (q + 1) (zI (c0 : Int)) v2' (zI (i : Int)) (bst μ b B) = Mo_settles_12 k4 q (zI (c0 : Int)) v2' (zI ((i + 1 : Nat) : Int)) (bst μ1 b B) := by
        cases hf : fwt B pv n i with
        | none =>
          refine ⟨μ, fun _ _ _ _ _ => rfl, fun k4 => ?_⟩
          rw [hmodel k4, hf, show cv none = (-1 : Int) from rfl, if_pos (by decide), h41]
        | some x =>
          have hx6 : x < 6 := by
            rcases fw_mem n 0 none x hf with z | ⟨-, z2, -, -⟩
            · cases z
            · omega
          obtain ⟨w, δ', σ', bn', μ', B', A', dep', r1, r2, r3, r3', r4, r5, r6, r7, r9⟩ := hserve
          rw [v3'] at r1
          have r1' := Option.some.inj r1
          have hwv : zI v = zI w := congrArg Prod.fst r1'
          rw [zI_eq (by omega) (by omega) (by omega) (by omega)] at hwv
          have hB : B' = B := by
            rcases r3' with z | z | z
            · omega
            · omega
            · exact z.2
          refine ⟨μ', r6, fun k4 => ?_⟩
          rw [hmodel k4, hf, show cv (some x) = (x : Int) from rfl, if_neg (nlt0 (by omega)), r2, bd_some, if_pos (by rw [zI_lit, zI_lt (by omega) (by omega) (by omega) (by omega)]; omega), h41, hB]
      obtain ⟨c, mv, δ', μ', σ', bn', B', A', dep', q1, q2, q3, q4, q5, q6, q7, q8, q9, q10⟩ := ih (i + 1) q c0 mv0 δ μ1 σ bn B A dep (by omega) (by omega) (by omega) hR hX (SC_MB hs1 hb) (SB_d hS rfl hs1) (by omega)
      refine ⟨c, mv, δ', μ', σ', bn', B', A', dep', by omega, fun k6 => ?_, fun k4 => by rw [hm1 k4, q3 k4], q4, q5, SC_trans hs1 q6, q7, by push_cast; omega, fun hmv => ?_, QMq.trans (QMq.refl _ _ _ _) hs1 q10⟩
      · rw [hclass k6, v3', bd_some, bnd_ap, if_pos (by rw [zI_lit, zI_lt (by omega) (by omega) (by omega) (by omega)]; omega), Wo_settleAll_49, if_neg (by rw [zI_lit, zI_le (by omega) (by omega) (by omega) (by omega)]; omega), if_pos (by rw [show (-4 : Int32) = zI (-4) from rfl, zI_le (by omega) (by omega) (by omega) (by omega)]; omega), h63, q2 k6]
      · obtain ⟨z1, z2, z3, z4⟩ := q9 hmv
        refine ⟨z1, z2, z3, fun a h1 h2 => ?_⟩
        by_cases ca : a = i
        · subst ca; exact ⟨v, v1, v2, v3'⟩
        · exact z4 a (by omega) h2
    · -- something moves
      have hfs : fwt B pv n i ≠ none := fun z => cq ⟨-2, by omega, by omega, serve_none hX (by omega) hS.1 hS.2.2.1 hS.2.2.2.1 hS.2.2.2.2.2.1 (by omega) z⟩
      obtain ⟨x, hf⟩ := Option.ne_none_iff_exists'.mp hfs
      have hx6 : x < 6 := by
        rcases fw_mem n 0 none x hf with z | ⟨-, z2, -, -⟩
        · cases z
        · omega
      obtain ⟨w, δ1, σ1, bn1, μ1, B1, A1, dep1, r1, r2, r3, r3', r4, r5, r6, r7, r9⟩ := hserve
      have hmoved : 0 ≤ w ∨ w ≤ -5 := by
        rcases r3' with z | z | z
        · exact .inl z
        · exact .inr z
        · refine Classical.byContradiction fun hn => cq ⟨w, by omega, by omega, ?_⟩
          rw [r1, z.1]
      by_cases cw : 0 ≤ w
      · obtain ⟨c, mv, δ', μ', σ', bn', B', A', dep', q1, q2, q3, q4, q5, q6, q7, q8, q9, q10⟩ := ih (i + 1) q (c0 + 1) true δ1 μ1 σ1 bn1 B1 A1 dep1 (by omega) (by omega) (by omega) r4 r5 (SC_MB r6 hb) (SB_d hS r7 r6) (by omega)
        refine ⟨c + 1, true, δ', μ', σ', bn', B', A', dep', by omega, fun k6 => ?_, fun k4 => ?_, q4, q5, SC_trans r6 q6, by rw [q7, r7], by push_cast; omega, (fun z => by cases z), QMq.trans r9.2 r6 q10⟩
        · rw [hclass k6, r1, bd_some, bnd_ap, if_neg (by rw [zI_lit, zI_lt (by omega) (by omega) (by omega) (by omega)]; omega), bnd_ap, Wo_settleAll_49, if_pos (by rw [zI_lit, zI_le (by omega) (by omega) (by omega) (by omega)]; omega), h61, show zI (c0 : Int) + 1 = zI ((c0 + 1 : Nat) : Int) by rw [show (1 : Int32) = zI 1 from rfl, zI_add]; rfl, q2 k6, Bool.true_or, Bool.or_true, show c0 + 1 + c = c0 + (c + 1) by omega]
        · rw [hmodel k4, hf, show cv (some x) = (x : Int) from rfl, if_neg (nlt0 (by omega)), r2, bd_some, if_neg (by rw [zI_lit, zI_lt (by omega) (by omega) (by omega) (by omega)]; omega), h42, q3 k4, show c0 + 1 + c = c0 + (c + 1) by omega]
      · obtain ⟨c, mv, δ', μ', σ', bn', B', A', dep', q1, q2, q3, q4, q5, q6, q7, q8, q9, q10⟩ := ih (i + 1) q c0 true δ1 μ1 σ1 bn1 B1 A1 dep1 (by omega) (by omega) (by omega) r4 r5 (SC_MB r6 hb) (SB_d hS r7 r6) (by omega)
        refine ⟨c, true, δ', μ', σ', bn', B', A', dep', by omega, fun k6 => ?_, fun k4 => ?_, q4, q5, SC_trans r6 q6, by rw [q7, r7], by push_cast; omega, (fun z => by cases z), QMq.trans r9.2 r6 q10⟩
        · rw [hclass k6, r1, bd_some, bnd_ap, if_pos (by rw [zI_lit, zI_lt (by omega) (by omega) (by omega) (by omega)]; omega), Wo_settleAll_49, if_neg (by rw [zI_lit, zI_le (by omega) (by omega) (by omega) (by omega)]; omega), if_neg (by rw [show (-4 : Int32) = zI (-4) from rfl, zI_le (by omega) (by omega) (by omega) (by omega)]; omega), h61, q2 k6, Bool.true_or, Bool.or_true]
        · rw [hmodel k4, hf, show cv (some x) = (x : Int) from rfl, if_neg (nlt0 (by omega)), r2, bd_some, if_pos (by rw [zI_lit, zI_lt (by omega) (by omega) (by omega) (by omega)]; omega), h41, q3 k4]
/-- further rounds, when nothing moves -/
theorem set_rest {ee : Int × Int} {n S : Nat} {M : Mem} {J : List Jb} {N : Int} {b : Nat} {qv pv wv : Nat → Int} (hN : N < 2147483648) {δ : Sl} {σ : Nat → Nat} {bn : Nat} {B : Nat → Int} {A : Ab} {dep : Nat → Nat} (hR : RC n S δ σ bn B A dep J N) (hX : WX ee n S δ B) (hW : B 2196 + 6 < 2147483648) (hQ : QT M δ n 0) : ∀ (m j k c0 : Nat) (μ : Sl), j + m = 12 → m < k → c0 < 900 → MB μ b → SB M δ μ n S qv pv wv →
    ∃ μ', SC μ μ' ∧ Mo_settles_4 k (zI (c0 : Int)) (zI (j : Int)) (bst μ b B) = some (zI (c0 : Int), bst μ' b B) := by
  intro m
  induction m with
  | zero =>
    intro j k c0 μ hj hk hc hb hS
    obtain ⟨q, rfl⟩ : ∃ q, k = q + 1 := ⟨k - 1, by omega⟩
    exact ⟨μ, fun _ _ _ _ _ => rfl, by rw [Mo_settles_4, if_pos (by rw [zI_lit, zI_le (by omega) (by omega) (by omega) (by omega)]; omega)]⟩
  | succ m ih =>
    intro j k c0 μ hj hk hc hb hS
    obtain ⟨q, rfl⟩ : ∃ q, k = q + 1 := ⟨k - 1, by omega⟩
    have g1 := hS.2.2.1.1
    obtain ⟨c, mv, δ', μ', σ', bn', B', A', dep', q1, q2, q3, q4, q5, q6, q7, q8, q9, q10⟩ := set_in (M := M) (b := b) hN 0 (zI (j : Int)) n 0 FU c0 false δ μ σ bn B A dep (by omega) (FU_gt (by omega)) (by omega) hR hX hb hS (by omega)
    -- the class doesn't move, so it is the same state
    have hmv : mv = false := by
      cases hm : mv with
      | false => rfl
      | true =>
        exfalso
        have key : ∀ (m i k : Nat) (v1 v2 : Int32), i + m = n → m < k → Wo_settleAll_21 (fun _ v2 _ d => some (v2, d)) M k v1 v2 0 (zI (i : Int)) δ = some (v2, δ) := by
          obtain ⟨k0, k1, k2, k3, k4⟩ := hS.1
          intro m
          induction m with
          | zero =>
            intro i k v1 v2 hi hk
            obtain ⟨q, rfl⟩ : ∃ q, k = q + 1 := ⟨k - 1, by omega⟩
            rw [Wo_settleAll_21, k1, gref_z k2, k3, if_pos (by rw [zI_le (by omega) (by omega) (by omega) (by omega)]; omega), bnd_ap]
          | succ m ih2 =>
            intro i k v1 v2 hi hk
            obtain ⟨q, rfl⟩ : ∃ q, k = q + 1 := ⟨k - 1, by omega⟩
            obtain ⟨v, w1, w2, w3⟩ := hQ i (by omega) (by omega)
            rw [Wo_settleAll_21, k1, gref_z k2, k3, if_neg (by rw [zI_le (by omega) (by omega) (by omega) (by omega)]; omega), w3, bd_some, bnd_ap, if_pos (by rw [zI_lit, zI_lt (by omega) (by omega) (by omega) (by omega)]; omega), Wo_settleAll_49, if_neg (by rw [zI_lit, zI_le (by omega) (by omega) (by omega) (by omega)]; omega), if_pos (by rw [show (-4 : Int32) = zI (-4) from rfl, zI_le (by omega) (by omega) (by omega) (by omega)]; omega), Wo_settleAll_63, bnd_ap, show zI (i : Int) + 1 = zI ((i + 1 : Nat) : Int) by rw [show (1 : Int32) = zI 1 from rfl, zI_add]; rfl]
            exact ih2 (i + 1) q v1 v2 (by omega) (by omega)
        have e1 := q2 (fun _ v2 _ d => some (v2, d))
        have e2 := key n 0 FU (zI (c0 : Int)) (bI false) (by omega) (FU_gt (by omega))
        have e2' : Wo_settleAll_21 (fun _ v2 _ d => some (v2, d)) M FU (zI (c0 : Int)) (bI false) 0 (zI ((0 : Nat) : Int)) δ = some (bI false, δ) := e2
        rw [e2', hm] at e1
        have := congrArg Prod.fst (Option.some.inj e1)
        have this2 : bI false = bI (false || true) := this
        exact absurd this2 (by decide)
    obtain ⟨z1, z2, z3, -⟩ := q9 hmv
    obtain ⟨μ2, s1, s2⟩ := ih (j + 1) q c0 μ' (by omega) (by omega) hc (SC_MB q6 hb) (SB_d hS rfl q6)
    refine ⟨μ2, SC_trans q6 s1, ?_⟩
    have q3' : Mo_settles_12 (Mo_settles_4 q) FU (zI (c0 : Int)) (zI (j : Int)) (0 : Int32) (bst μ b B) = _ := q3 (Mo_settles_4 q)
    rw [Mo_settles_4, if_neg (by rw [zI_lit, zI_le (by omega) (by omega) (by omega) (by omega)]; omega), bnd_ap, q3', z1, z3, Nat.add_zero, show (1 : Int32) = zI 1 from rfl, zI_add, show (j : Int) + 1 = ((j + 1 : Nat) : Int) by omega, s2]
theorem set_out {ee : Int × Int} {n S : Nat} {M : Mem} {J : List Jb} {N : Int} {b : Nat} {qv pv wv : Nat → Int} (hN : N < 2147483648) : ∀ (m j k c0 : Nat) (mv : Bool) (δ μ : Sl) (σ : Nat → Nat) (bn : Nat) (B : Nat → Int) (A : Ab) (dep : Nat → Nat), j + m = 12 → m < k → c0 + 6 * m ≤ 72 → RC n S δ σ bn B A dep J N → WX ee n S δ B → MB μ b → SB M δ μ n S qv pv wv → B 2196 + 6 * (m : Int) + 6 < 2147483648 → (mv = false → QT M δ n 0) →
    ∃ (c : Nat) (δ' μ' : Sl) (σ' : Nat → Nat) (bn' : Nat) (B' : Nat → Int) (A' : Ab) (dep' : Nat → Nat), c ≤ 72 ∧ Wo_settleAll_6 M k (zI (c0 : Int)) (bI mv) (zI (j : Int)) δ = some (zI (c : Int), δ') ∧ Mo_settles_4 k (zI (c0 : Int)) (zI (j : Int)) (bst μ b B) = some (zI (c : Int), bst μ' b B') ∧ RC n S δ' σ' bn' B' A' dep' J N ∧ WX ee n S δ' B' ∧ SC μ μ' ∧ δ' 10 0 = δ 10 0 ∧ B' 2196 ≤ B 2196 + 6 * (m : Int) ∧ QMq μ n S B B' := by
  intro m
  induction m with
  | zero =>
    intro j k c0 mv δ μ σ bn B A dep hj hk hc hR hX hb hS hW hQ
    obtain ⟨q, rfl⟩ : ∃ q, k = q + 1 := ⟨k - 1, by omega⟩
    refine ⟨c0, δ, μ, σ, bn, B, A, dep, by omega, ?_, ?_, hR, hX, fun _ _ _ _ _ => rfl, rfl, by omega, QMq.refl _ _ _ _⟩
    · rw [Wo_settleAll_6, if_pos (by rw [zI_lit, zI_le (by omega) (by omega) (by omega) (by omega)]; omega)]
    · rw [Mo_settles_4, if_pos (by rw [zI_lit, zI_le (by omega) (by omega) (by omega) (by omega)]; omega)]
  | succ m ih =>
    intro j k c0 mv δ μ σ bn B A dep hj hk hc hR hX hb hS hW hQ
    obtain ⟨q, rfl⟩ : ∃ q, k = q + 1 := ⟨k - 1, by omega⟩
    have g1 := hS.2.2.1.1
    push_cast at hW
    cases mv with
    | false =>
      obtain ⟨μ', s1, s2⟩ := set_rest (M := M) (b := b) hN hR hX (by omega) (hQ rfl) (m + 1) j (q + 1) c0 μ hj hk (by omega) hb hS
      refine ⟨c0, δ, μ', σ, bn, B, A, dep, by omega, ?_, s2, hR, hX, s1, rfl, by push_cast; omega, QMq.refl _ _ _ _⟩
      rw [Wo_settleAll_6, if_neg (by rw [zI_lit, zI_le (by omega) (by omega) (by omega) (by omega)]; omega), if_pos (by rfl)]
    | true =>
      obtain ⟨c, mv', δ1, μ1, σ1, bn1, B1, A1, dep1, q1, q2, q3, q4, q5, q6, q7, q8, q9, q10⟩ := set_in (M := M) (b := b) hN (zI (j : Int)) (zI (j : Int)) n 0 FU c0 false δ μ σ bn B A dep (by omega) (FU_gt (by omega)) (by omega) hR hX hb hS (by omega)
      obtain ⟨c', δ2, μ2, σ2, bn2, B2, A2, dep2, s1, s2, s3, s4, s5, s6, s7, s8⟩ := ih (j + 1) q (c0 + c) mv' δ1 μ1 σ1 bn1 B1 A1 dep1 (by omega) (by omega) (by omega) q4 q5 (SC_MB q6 hb) (SB_d hS q7 q6) (by omega) (fun z => by
        obtain ⟨z1, z2, z3, z4⟩ := q9 z
        rw [z2]; exact z4)
      have hnx : zI (j : Int) + 1 = zI ((j + 1 : Nat) : Int) := by rw [show (1 : Int32) = zI 1 from rfl, zI_add]; rfl
      refine ⟨c', δ2, μ2, σ2, bn2, B2, A2, dep2, s1, ?_, ?_, s4, s5, SC_trans q6 s6, by rw [s7, q7], by push_cast; omega, QMq.trans q10 q6 s8.2⟩
      · have q2' : Wo_settleAll_21 (Wo_settleAll_6 M q) M FU (zI (c0 : Int)) (0 : Int32) (zI (j : Int)) (0 : Int32) δ = _ := q2 (Wo_settleAll_6 M q)
        rw [Wo_settleAll_6, if_neg (by rw [zI_lit, zI_le (by omega) (by omega) (by omega) (by omega)]; omega), if_neg (by decide), bnd_ap, bnd_ap, q2', Bool.false_or, hnx, s2]
      · have q3' : Mo_settles_12 (Mo_settles_4 q) FU (zI (c0 : Int)) (zI (j : Int)) (0 : Int32) (bst μ b B) = _ := q3 (Mo_settles_4 q)
        rw [Mo_settles_4, if_neg (by rw [zI_lit, zI_le (by omega) (by omega) (by omega) (by omega)]; omega), bnd_ap, q3', hnx, s3]
theorem settle_on {ee : Int × Int} {n S : Nat} {M : Mem} {δ : Sl} {σ : Nat → Nat} {bn : Nat} {B : Nat → Int} {A : Ab} {dep : Nat → Nat} {J : List Jb} {N : Int} {μ : Sl} {b : Nat} {qv pv wv : Nat → Int} (hR : RC n S δ σ bn B A dep J N) (hX : WX ee n S δ B) (hN : N < 2147483648) (hW : B 2196 + 78 < 2147483648) (hb : MB μ b) (hS : SB M δ μ n S qv pv wv) :
    ∃ (c : Nat) (δ' μ' : Sl) (σ' : Nat → Nat) (bn' : Nat) (B' : Nat → Int) (A' : Ab) (dep' : Nat → Nat), c ≤ 72 ∧ Wo_settleAll M δ = some (zI (c : Int), δ') ∧ Mo_settles (bst μ b B) = some (zI (c : Int), bst μ' b B') ∧ RC n S δ' σ' bn' B' A' dep' J N ∧ WX ee n S δ' B' ∧ SC μ μ' ∧ δ' 10 0 = δ 10 0 ∧ B' 2196 ≤ B 2196 + 72 ∧ QMq μ n S B B' := by
  obtain ⟨c, δ', μ', σ', bn', B', A', dep', s1, s2, s3, s4, s5, s6, s7, s8⟩ := set_out (M := M) (b := b) hN 12 0 FU 0 true δ μ σ bn B A dep (by omega) (FU_gt (by omega)) (by omega) hR hX hb hS (by omega) (fun z => by cases z)
  refine ⟨c, δ', μ', σ', bn', B', A', dep', s1, ?_, ?_, s4, s5, s6, s7, by omega, s8.2⟩
  · unfold Wo_settleAll
    rw [bnd_ap, bnd_ap, bnd_ap]
    exact s2
  · unfold Mo_settles
    rw [bnd_ap, bnd_ap]
    exact s3
