/-! ===== gates: the highest gate in a chain ===== -/
/-- the highest gate at x or above -/
def tgO (A : Ab) (dep : Nat → Nat) (s : Nat) : Nat → Nat → Option Nat
  | 0, x => if isG A dep s x = true then some x else none
  | k + 1, x => match tgO A dep s k (A.1 3 x - 1).toNat with
    | some g => some g
    | none => if isG A dep s x = true then some x else none
section
variable {n S : Nat} {A : Ab} {dep : Nat → Nat} {δ : Sl} {σ : Nat → Nat} {bn : Nat}
theorem hg_tg (h : WF n S A dep) (s : Nat) : ∀ (k x : Nat) (v3 v4 : Option Nat), dep x = k → Lv A x → hgF A s k v3 v4 x = match tgO A dep s k x with | some g => some g | none => if haF A s k x = true then v4 else v3 := by
  intro k
  induction k with
  | zero =>
    intro x v3 v4 hk hx
    rcases gv_or h hx with ⟨g1, -⟩ | ⟨g, g1, g2, g3⟩
    · have e : isG A dep s x = false := by
        unfold isG haB
        rw [g1, decide_eq_false (show ¬ (0 : Int) ≠ 0 from fun h => h rfl), Bool.false_and, Bool.and_false]
      have e2 : tgO A dep s 0 x = none := by rw [tgO, if_neg (by rw [e]; decide)]
      rw [e2, hgF, haF]
      dsimp only
      by_cases z : x / 32 = s
      · rw [if_pos z, if_pos (decide_eq_true z)]
      · rw [if_neg z, if_neg (by rw [decide_eq_true_eq]; exact z)]
    · omega
  | succ k ih =>
    intro x v3 v4 hk hx
    rcases gv_or h hx with ⟨g1, g0⟩ | ⟨g, g1, g2, g3⟩
    · omega
    · have eg : (A.1 3 x - 1).toNat = g := by rw [g1]; omega
      have e : isG A dep s x = (!decide (x / 32 = s) && haF A s k g) := by
        unfold isG haB
        rw [eg, decide_eq_true (show A.1 3 x ≠ 0 by omega), Bool.true_and, show dep x - 1 = k by omega]
      rw [hgF, tgO, haF, eg, ih g v4 v4 (by omega) g2, ih g v3 (some x) (by omega) g2, e]
      cases tgO A dep s k g with
      | some y => dsimp only; by_cases z : x / 32 = s
                  · rw [if_pos z]
                  · rw [if_neg z]
      | none =>
        dsimp only
        by_cases z : x / 32 = s
        · rw [if_pos z, decide_eq_true z]
          cases haF A s k g <;> rfl
        · rw [if_neg z, decide_eq_false z]
          cases haF A s k g <;> rfl
theorem tg_ng (s : Nat) : ∀ (k x : Nat), tgO A dep s k x = none ↔ ngF A dep s k x = true := by
  intro k
  induction k with
  | zero =>
    intro x
    rw [tgO, ngF]
    cases isG A dep s x with
    | true => exact ⟨fun t => by simp at t, fun t => by simp at t⟩
    | false => exact ⟨fun _ => rfl, fun _ => rfl⟩
  | succ k ih =>
    intro x
    have i := ih (A.1 3 x - 1).toNat
    rw [tgO, ngF]
    cases hh : tgO A dep s k (A.1 3 x - 1).toNat with
    | some y =>
      rw [hh] at i
      have : ngF A dep s k (A.1 3 x - 1).toNat = false := by
        cases q : ngF A dep s k (A.1 3 x - 1).toNat with
        | true => exact absurd (i.mpr q) (by simp)
        | false => rfl
      rw [this]
      dsimp only
      exact ⟨fun t => by simp at t, fun t => by simp at t⟩
    | none =>
      rw [i.mp hh]
      dsimp only
      cases isG A dep s x with
      | true => exact ⟨fun t => by simp at t, fun t => by simp at t⟩
      | false => exact ⟨fun _ => rfl, fun _ => rfl⟩
theorem tg_iff (h : WF n S A dep) (s : Nat) : ∀ (k x y : Nat), dep x = k → Lv A x → (tgO A dep s k x = some y ↔ bl A y x = true ∧ topG A dep s y = true) := by
  intro k
  induction k with
  | zero =>
    intro x y hk hx
    rcases gv_or h hx with ⟨g1, -⟩ | ⟨g, g1, g2, g3⟩
    · rw [tgO, bl_root g1]
      constructor
      · intro t
        by_cases z : isG A dep s x = true
        · rw [if_pos z] at t
          have := Option.some.inj t
          subst this
          exact ⟨by simp, by unfold topG; rw [z, g1, decide_eq_true rfl, Bool.true_or]; rfl⟩
        · rw [if_neg z] at t; exact absurd t (by simp)
      · rintro ⟨t1, t2⟩
        have : x = y := by simpa using t1
        subst this
        unfold topG at t2
        rw [Bool.and_eq_true] at t2
        rw [if_pos t2.1]
    · omega
  | succ k ih =>
    intro x y hk hx
    rcases gv_or h hx with ⟨g1, g0⟩ | ⟨g, g1, g2, g3⟩
    · omega
    · have eg : (A.1 3 x - 1).toNat = g := by rw [g1]; omega
      have i := ih g y (by omega) g2
      have tn := tg_ng (A := A) (dep := dep) s k g
      have et : topG A dep s x = (isG A dep s x && ngF A dep s k g) := by
        unfold topG
        rw [eg, decide_eq_false (show ¬ A.1 3 x = 0 by omega), Bool.false_or, show dep x - 1 = k by omega]
      rw [tgO, eg, bl_step h y hx g1]
      cases hh : tgO A dep s k g with
      | some y' =>
        dsimp only
        rw [hh] at i
        rw [i]
        have nf : topG A dep s x = false := by
          rw [et]
          cases q : ngF A dep s k g with
          | true => rw [tn.mpr q] at hh; exact absurd hh (by simp)
          | false => rw [Bool.and_false]
        constructor
        · rintro ⟨t1, t2⟩; exact ⟨by rw [t1, Bool.or_true], t2⟩
        · rintro ⟨t1, t2⟩
          refine ⟨?_, t2⟩
          rw [Bool.or_eq_true] at t1
          rcases t1 with t1 | t1
          · have : x = y := by simpa using t1
            subst this
            rw [nf] at t2; exact absurd t2 (by decide)
          · exact t1
      | none =>
        dsimp only
        rw [hh] at i
        constructor
        · intro t
          by_cases z : isG A dep s x = true
          · rw [if_pos z] at t
            have := Option.some.inj t
            subst this
            exact ⟨by simp, by rw [et, z, tn.mp hh]; rfl⟩
          · rw [if_neg z] at t; exact absurd t (by simp)
        · rintro ⟨t1, t2⟩
          rw [Bool.or_eq_true] at t1
          rcases t1 with t1 | t1
          · have : x = y := by simpa using t1
            subst this
            rw [et, Bool.and_eq_true] at t2
            rw [if_pos t2.1]
          · exact absurd (i.mpr ⟨t1, t2⟩) (by simp)
/-- the class's way: gates found so far -/
def gst (A : Ab) (dep : Nat → Nat) (s1 s2 : Nat) (K : List Nat) (x : Nat) : List Nat := if x / 32 = s2 then (match tgO A dep s1 (dep x) x with | some g => adl K g | none => K) else K
theorem gst_nd {s1 s2 : Nat} : ∀ (l K : List Nat), K.Nodup → (l.foldl (gst A dep s1 s2) K).Nodup ∧ ∀ y, y ∈ l.foldl (gst A dep s1 s2) K ↔ y ∈ K ∨ ∃ x, x ∈ l ∧ x / 32 = s2 ∧ tgO A dep s1 (dep x) x = some y := by
  intro l
  induction l with
  | nil => intro K hK; exact ⟨hK, fun y => ⟨fun t => .inl t, fun t => by rcases t with t | ⟨x, t, -⟩; exact t; simp at t⟩⟩
  | cons x l ih =>
    intro K hK
    rw [List.foldl_cons]
    have hnd : (gst A dep s1 s2 K x).Nodup := by
      unfold gst
      split
      · split
        · exact adl_nodup hK _
        · exact hK
      · exact hK
    obtain ⟨i1, i2⟩ := ih _ hnd
    refine ⟨i1, fun y => ?_⟩
    rw [i2 y]
    have hm : y ∈ gst A dep s1 s2 K x ↔ y ∈ K ∨ (x / 32 = s2 ∧ tgO A dep s1 (dep x) x = some y) := by
      unfold gst
      by_cases z : x / 32 = s2
      · rw [if_pos z]
        cases tgO A dep s1 (dep x) x with
        | some g =>
          dsimp only
          rw [adl_mem]
          constructor
          · rintro (t | t)
            · exact .inl t
            · exact .inr ⟨z, by rw [t]⟩
          · rintro (t | ⟨-, t⟩)
            · exact .inl t
            · exact .inr (Option.some.inj t).symm
        | none =>
          dsimp only
          exact ⟨fun t => .inl t, fun t => by rcases t with t | ⟨-, t⟩; exact t; simp at t⟩
      · rw [if_neg z]
        exact ⟨fun t => .inl t, fun t => by rcases t with t | ⟨t, -⟩; exact t; exact absurd t z⟩
    rw [hm]
    constructor
    · rintro ((t | ⟨t1, t2⟩) | ⟨x', t1, t2⟩)
      · exact .inl t
      · exact .inr ⟨x, by simp, t1, t2⟩
      · exact .inr ⟨x', by simp [t1], t2⟩
    · rintro (t | ⟨x', t1, t2⟩)
      · exact .inl (.inl t)
      · rw [List.mem_cons] at t1
        rcases t1 with t1 | t1
        · rw [t1] at t2; exact .inl (.inr t2)
        · exact .inr ⟨x', t1, t2⟩
theorem ct_fl (P : Nat → Bool) : ∀ m, fb_ct P m = ((List.range m).filter P).length := by
  intro m
  induction m with
  | zero => rfl
  | succ m ih =>
    rw [fb_ct_succ, List.range_succ, List.filter_append, List.length_append, ih]
    cases hh : P m with
    | true => rw [if_pos rfl]; simp [hh]
    | false => rw [if_neg (by decide)]; simp [hh]
theorem gates_eq (h : WF n S A dep) (hC : CRep δ σ bn A) {s1 s2 : Nat} : ((ldf σ A 0 bn).foldl (gst A dep s1 s2) []).length = fb_ct (gtB A dep s1 s2) 192 := by
  obtain ⟨i1, i2⟩ := gst_nd (A := A) (dep := dep) (s1 := s1) (s2 := s2) (ldf σ A 0 bn) [] List.nodup_nil
  rw [ct_fl]
  refine List.Perm.length_eq ((List.perm_ext_iff_of_nodup i1 (List.Nodup.sublist List.filter_sublist List.nodup_range)).mpr (fun y => ?_))
  rw [i2 y, List.mem_filter, List.mem_range]
  have hl : ∀ x, x ∈ ldf σ A 0 bn ↔ Lv A x := fun x => by rw [(ldf_perm hC).mem_iff, lvl_mem]
  unfold gtB
  rw [Bool.and_eq_true, decide_eq_true_eq, Bool.and_eq_true, List.any_eq_true]
  constructor
  · rintro (t | ⟨x, t1, t2, t3⟩)
    · simp at t
    · have hx := (hl x).mp t1
      obtain ⟨u1, u2⟩ := (tg_iff h s1 (dep x) x y rfl hx).mp t3
      have hy := bl_lv h hx u1
      exact ⟨hy.1, hy.2, u2, x, (tre_mem h hy).mpr ⟨hx, u1⟩, decide_eq_true t2⟩
  · rintro ⟨y1, y2, y3, x, x1, x2⟩
    obtain ⟨u1, u2⟩ := (tre_mem h ⟨y1, y2⟩).mp x1
    exact .inr ⟨x, (hl x).mpr u1, of_decide_eq_true x2, (tg_iff h s1 (dep x) x y rfl u1).mpr ⟨u2, y3⟩⟩
theorem c_part_l (h : WF n S A dep) (hC : CRep δ σ bn A) {s1 s2 : Nat} (h1 : s1 < 6) (h2 : s2 < 6) : ∀ (m i k : Nat) (K : List Nat) (δ1 : Sl), i + m = bn → m < k → (∀ a j, a ≠ 33 → δ1 a j = δ a j) → (∀ y, Lv A y → (δ1 33 (σ y) = 0 ↔ y ∉ K)) → ∃ δ2, Qu_partings_13 k (zI (s1 : Int)) (zI (s2 : Int)) (zI (K.length : Int)) (zI (i : Int)) δ1 = some (zI (((ldf σ A i m).foldl (gst A dep s1 s2) K).length : Int), δ2) ∧ ∀ a j, a ≠ 33 → δ2 a j = δ a j := by
  have hbn := hC.1.1
  intro m
  induction m with
  | zero =>
    intro i k K δ1 hi hk he hm
    obtain ⟨c, rfl⟩ : ∃ c, k = c + 1 := ⟨k - 1, by omega⟩
    have e16 : δ1 17 16 = zI (bn : Int) := by rw [he _ _ (by omega)]; exact hC.1.2.1
    exact ⟨δ1, by rw [Qu_partings_13, e16, if_pos (by rw [zI_le (by omega) (by omega) (by omega) (by omega)]; omega), ldf_0]; rfl, he⟩
  | succ m ih =>
    intro i k K δ1 hi hk he hm
    obtain ⟨c, rfl⟩ : ∃ c, k = c + 1 := ⟨k - 1, by omega⟩
    have hC1 : CRep δ1 σ bn A := cr_frame hC (fun a i _ _ => he a i (by omega)) (he _ _ (by omega)) (he _ _ (by omega)) (he _ _ (by omega))
    have e16 := hC1.1.2.1
    have hib : inb (zI (i : Int)) 192 := by rw [zI_inb (by omega) (by omega)]; omega
    have skip : ∀ K', ldf σ A i (m + 1) = ldf σ A (i + 1) m → K' = K → ∃ δ2, Qu_partings_81 (Qu_partings_13 c) (zI (s1 : Int)) (zI (s2 : Int)) (zI (K.length : Int)) (zI (i : Int)) δ1 = some (zI (((ldf σ A i (m + 1)).foldl (gst A dep s1 s2) K').length : Int), δ2) ∧ ∀ a j, a ≠ 33 → δ2 a j = δ a j := fun K' e eK => by
      obtain ⟨δ2, t1, t2⟩ := ih (i + 1) c K δ1 (by omega) (by omega) he hm
      exact ⟨δ2, by rw [Qu_partings_81, bnd_ap, zI_s1, t1, e, eK], t2⟩
    rw [Qu_partings_13, e16, if_neg (by rw [zI_le (by omega) (by omega) (by omega) (by omega)]; omega), if_pos hib, zI_ixn (by omega)]
    by_cases hu : δ1 21 i < 0
    · rw [if_pos hu]
      exact skip K (ldf_none (sl_none hC1 (wf4 h) hu) m) rfl
    · obtain ⟨x, e, hx, hex⟩ := sl_live hC1 (by omega) hu
      have e18 := (hC1.2.2.1 x hx).1
      have hh := c_high h hC1 h1 hx
      rw [hex] at e18 hh
      have hx1 := hx.1
      rw [if_neg hu, if_pos hib, e18, hh, bp_some, bnd_ap, ldf_some e, List.foldl_cons]
      have skip2 : gst A dep s1 s2 K x = K → ∃ δ2, Qu_partings_81 (Qu_partings_13 c) (zI (s1 : Int)) (zI (s2 : Int)) (zI (K.length : Int)) (zI (i : Int)) δ1 = some (zI (((ldf σ A (i + 1) m).foldl (gst A dep s1 s2) (gst A dep s1 s2 K x)).length : Int), δ2) ∧ ∀ a j, a ≠ 33 → δ2 a j = δ a j := fun eK => by
        obtain ⟨δ2, t1, t2⟩ := ih (i + 1) c K δ1 (by omega) (by omega) he hm
        exact ⟨δ2, by rw [Qu_partings_81, bnd_ap, zI_s1, t1, eK], t2⟩
      by_cases z : x / 32 = s2
      · rw [if_pos (by rw [z])]
        have ht := hg_tg h s1 (dep x) x none none rfl hx
        cases hg : tgO A dep s1 (dep x) x with
        | none =>
          have ht2 : hgF A s1 (dep x) none none x = none := by
            rw [ht, hg]; dsimp only; split <;> rfl
          rw [ht2, show eo σ none = zI (-1) from rfl, if_pos zI_m1]
          exact skip2 (by unfold gst; rw [if_pos z, hg])
        | some y =>
          have ht2 : hgF A s1 (dep x) none none x = some y := by
            rw [ht, hg]
          obtain ⟨u1, -⟩ := (tg_iff h s1 (dep x) x y rfl hx).mp hg
          have hy := bl_lv h hx u1
          have b1 := cr_lt hC hy
          rw [ht2, show eo σ (some y) = zI (σ y : Int) from rfl, if_neg (zI_n0 (by omega)), if_pos (zI_in b1 (by omega)), zI_ixn (by omega)]
          by_cases w : y ∈ K
          · rw [if_neg (fun t => (hm y hy).mp t w)]
            exact skip2 (by unfold gst; rw [if_pos z, hg]; dsimp only; unfold adl; rw [if_pos w])
          · rw [if_pos ((hm y hy).mpr w), if_pos (zI_in b1 (by omega)), bnd_ap, bnd_ap, zI_s1]
            have eK : gst A dep s1 s2 K x = K ++ [y] := by unfold gst; rw [if_pos z, hg]; dsimp only; unfold adl; rw [if_neg w]
            obtain ⟨δ2, t1, t2⟩ := ih (i + 1) c (K ++ [y]) (wr δ1 33 (σ y) (1 : Int32)) (by omega) (by omega) (fun a j ha => by rw [wr_ap, if_neg (by omega)]; exact he a j ha) (fun y' hy' => by
              rw [wr_ap]
              by_cases q : y' = y
              · rw [q, if_pos ⟨rfl, rfl⟩]
                exact ⟨fun t => absurd t (by decide), fun t => absurd (by simp) t⟩
              · rw [if_neg (fun t => q (hC.1.2.2.2.1 y' y hy' hy t.2)), hm y' hy']
                simp [q])
            refine ⟨δ2, ?_, t2⟩
            rw [Qu_partings_81, bnd_ap, zI_s1]
            rw [List.length_append, List.length_singleton] at t1
            rw [t1, eK]
      · rw [if_neg (by rw [zI_eq (by omega) (by omega) (by omega) (by omega)]; omega)]
        exact skip2 (by unfold gst; rw [if_neg z])
theorem c_part (h : WF n S A dep) (hC : CRep δ σ bn A) {s1 s2 : Nat} (h1 : s1 < 6) (h2 : s2 < 6) : ∃ δ2, Qu_partings δ (zI (s1 : Int)) (zI (s2 : Int)) = some (zI (fb_ct (gtB A dep s1 s2) 192 : Int), δ2) ∧ ∀ a j, a ≠ 33 → δ2 a j = δ a j := by
  have hbn := hC.1.1
  obtain ⟨δ2, t1, t2⟩ := c_part_l h hC h1 h2 bn 0 FU [] (flS δ 33 192 (0 : Int32)) (by omega) (FU_gt (by omega)) (fun a j ha => by rw [flS_ap, if_neg (by omega)]) (fun y hy => by
    rw [flS_ap, if_pos ⟨rfl, cr_lt hC hy⟩]
    simp)
  refine ⟨δ2, ?_, t2⟩
  rw [Qu_partings, fill_on (by omega), bd_some, bnd_ap, bnd_ap]
  rw [gates_eq h hC] at t1
  exact t1
end
theorem top_gates {c n0 : Nat} {M : Mem} {μ : Sl} (hI : Inv c n0 M μ) (a1 a2 : Int32) : TopM c n0 (Fh_gates M a1 a2) (Mo_gates μ a1 a2) := by
  obtain ⟨n, S, k, w, t, B, σ, bn, A, dep, J, N, e, qv, pv, wv, ⟨a, a2', a3, a4, a5⟩, -, ⟨⟨hW, hC, hM, -, -, hJ, hJC, hJM, -, -⟩, hX⟩, hSB, ⟨f1, f2⟩, ⟨hN, -⟩, hT, hq, -⟩ := top_q hI
  obtain ⟨x1, i1, rfl⟩ := zI_ex a1
  obtain ⟨x2, i2, rfl⟩ := zI_ex a2
  have iw := inv_wr hI (0 : Int32)
  have hn6 := hSB.2.2.1.1
  have cl : Fh_gates M (zI x1) (zI x2) = if (decide (0 ≤ x1 ∧ x1 < (n : Int)) && (decide (0 ≤ x2 ∧ x2 < (n : Int)) && decide (x1 ≠ x2))) = true then (bd (lft M w (Qu_partings (M w) (zI x1) (zI x2))) fun r4 d5 => some (r4, d5)) else some ((-1 : Int32), M) := by
    rw [Fh_gates, a, gref_z (by omega), c_areTwo hSB.1 hSB.2.2.1 i1 i2, bp_some, bI_if, gref_z (by omega)]
  have mo : Mo_gates μ (zI x1) (zI x2) = if decide (0 ≤ x1 ∧ x1 < (n : Int)) = true then (if decide (0 ≤ x2 ∧ x2 < (n : Int)) = true then (if zI x1 = zI x2 then some ((-1 : Int32), wr μ 34 2 (0 : Int32)) else Mo_gates_33 FU (zI x1) (zI x2) (0 : Int32) (0 : Int32) (wr μ 34 2 (0 : Int32))) else some ((-1 : Int32), wr μ 34 2 (0 : Int32))) else some ((-1 : Int32), wr μ 34 2 (0 : Int32)) := by
    rw [Mo_gates, bnd_ap, m_isSpace hSB.2.1 hSB.2.2.1 i1, bp_some, bI_if, m_isSpace hSB.2.1 hSB.2.2.1 i2, bp_some, bI_if, bnd_ap, bnd_ap]
  have bad : (decide (0 ≤ x1 ∧ x1 < (n : Int)) && (decide (0 ≤ x2 ∧ x2 < (n : Int)) && decide (x1 ≠ x2))) = false → TopM c n0 (Fh_gates M (zI x1) (zI x2)) (some ((-1 : Int32), wr μ 34 2 (0 : Int32))) := fun hf => by
    rw [cl, hf, if_neg (by decide)]
    exact ⟨_, _, _, rfl, rfl, iw⟩
  rw [mo]
  by_cases z1 : 0 ≤ x1 ∧ x1 < (n : Int)
  · rw [if_pos (decide_eq_true z1)]
    by_cases z2 : 0 ≤ x2 ∧ x2 < (n : Int)
    · rw [if_pos (decide_eq_true z2)]
      by_cases z3 : x1 = x2
      · rw [if_pos (by rw [z3])]
        exact bad (by rw [decide_eq_false (show ¬ x1 ≠ x2 from fun t => t z3), Bool.and_false, Bool.and_false])
      · rw [if_neg (by rw [zI_eq i1.1 i1.2 i2.1 i2.2]; exact z3), cl, decide_eq_true z1, decide_eq_true z2, decide_eq_true z3, if_pos (by decide)]
        obtain ⟨s1, rfl⟩ : ∃ s1 : Nat, x1 = (s1 : Int) := ⟨x1.toNat, by omega⟩
        obtain ⟨s2, rfl⟩ : ∃ s2 : Nat, x2 = (s2 : Int) := ⟨x2.toNat, by omega⟩
        obtain ⟨δ2, t1, t2⟩ := c_part hW hC (s1 := s1) (s2 := s2) (by omega) (by omega)
        obtain ⟨μ', u1, u2⟩ := m_gates_l hW hM (b := 0) (s1 := s1) (s2 := s2) (by omega) (by omega) 192 0 FU 0 (wr μ 34 2 (0 : Int32)) f1 (by omega) (FU_gt (by omega))
        have z0 : zI ((0 : Nat) : Int) = (0 : Int32) := rfl
        rw [z0, f2] at u1
        simp only [Nat.zero_add] at u1
        have hbk : bst μ' 0 B = μ' := by
          funext a' i'
          by_cases q : a' = 45
          · subst q
            have f3 := congrFun (congrFun f2 45) i'
            unfold bst at f3 ⊢
            rw [u2 45 i' (by omega) (by omega) (by omega)]
            exact f3
          · exact bst_ne _ _ _ q
        rw [hbk] at u1
        exact ⟨_, _, _, by rw [t1]; rfl, u1, inv_33 hI a (by omega) t2 u2⟩
    · rw [if_neg (by rw [decide_eq_true_eq]; exact z2)]
      exact bad (by rw [decide_eq_false z2, Bool.false_and, Bool.and_false])
  · rw [if_neg (by rw [decide_eq_true_eq]; exact z1)]
    exact bad (by rw [decide_eq_false z1, Bool.false_and])
