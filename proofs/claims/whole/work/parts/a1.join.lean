/-! ===== two become one ===== -/
def rhj (d u x : Nat) : Nat := if x = u then d else x
theorem bl_join {n S : Nat} {A : Ab} {dep dep' : Nat → Nat} (h : WF n S A dep) {d u : Nat} {a : Int} (hd : Lv A d) (hu : Lv A u) (hdu : d ≠ u) (hg : A.1 3 u = A.1 3 d) (h' : WF n S (aJoin A d u a) dep') {t : Nat} (ht1 : t ≠ d) (ht2 : t ≠ u) : ∀ (k y : Nat), dep y ≤ k → Lv A y → bl (aJoin A d u a) t (rhj d u y) = bl A t y := by
  have h3 : ∀ x, (aJoin A d u a).1 3 x = if A.1 3 x = (u : Int) + 1 then (d : Int) + 1 else A.1 3 x := fun x => by
    show (if x = u ∧ 3 = 0 then 0 else if x = d ∧ 3 = 0 then A.1 0 d + 1 else if x = d ∧ 3 = 8 then a else if 3 = 3 ∧ A.1 3 x = (u : Int) + 1 then (d : Int) + 1 else A.1 3 x) = _
    simp
  have h0 : ∀ x, x ≠ u → x ≠ d → (aJoin A d u a).1 0 x = A.1 0 x := fun x h1 h2 => by
    show (if x = u ∧ 0 = 0 then 0 else if x = d ∧ 0 = 0 then A.1 0 d + 1 else if x = d ∧ 0 = 8 then a else if 0 = 3 ∧ A.1 3 x = (u : Int) + 1 then (d : Int) + 1 else A.1 0 x) = _
    simp [h1, h2]
  have h0d : (aJoin A d u a).1 0 d = A.1 0 d + 1 := by
    show (if d = u ∧ 0 = 0 then 0 else if d = d ∧ 0 = 0 then A.1 0 d + 1 else _) = _
    simp [hdu]
  have hlv : ∀ y, Lv A y → Lv (aJoin A d u a) (rhj d u y) := fun y hy => by
    unfold rhj
    by_cases c : y = u
    · rw [if_pos c]; exact ⟨hd.1, by rw [h0d]; have := hd.2; omega⟩
    · rw [if_neg c]
      by_cases c2 : y = d
      · rw [c2]; exact ⟨hd.1, by rw [h0d]; have := hd.2; omega⟩
      · exact ⟨hy.1, by rw [h0 y c c2]; exact hy.2⟩
  have he : ∀ y, (rhj d u y == t) = (y == t) := fun y => by
    unfold rhj
    by_cases c : y = u
    · rw [if_pos c, c]
      rw [Bool.eq_iff_iff]; simp only [beq_iff_eq]
      exact ⟨fun z => absurd z.symm ht1, fun z => absurd z.symm ht2⟩
    · rw [if_neg c]
  have hr3 : ∀ y, Lv A y → (aJoin A d u a).1 3 (rhj d u y) = if A.1 3 y = (u : Int) + 1 then (d : Int) + 1 else A.1 3 y := fun y hy => by
    unfold rhj
    by_cases c : y = u
    · rw [if_pos c, h3, c, hg]
    · rw [if_neg c, h3]
  intro k
  induction k with
  | zero =>
    intro y hk hy
    rcases gv_or h hy with ⟨g1, -⟩ | ⟨g, g1, g2, g3⟩
    · have e3 := hr3 y hy
      rw [g1, if_neg (by omega)] at e3
      rw [bl_root g1, bl_root e3, he y]
    · omega
  | succ k ih =>
    intro y hk hy
    rcases gv_or h hy with ⟨g1, -⟩ | ⟨g, g1, g2, g3⟩
    · have e3 := hr3 y hy
      rw [g1, if_neg (by omega)] at e3
      rw [bl_root g1, bl_root e3, he y]
    · have e3 := hr3 y hy
      have e3' : (aJoin A d u a).1 3 (rhj d u y) = ((rhj d u g : Nat) : Int) + 1 := by
        rw [e3, g1]
        unfold rhj
        by_cases c : g = u
        · rw [if_pos (by omega), if_pos c]
        · rw [if_neg (by omega), if_neg c]
      rw [bl_step h t hy g1, bl_step h' t (hlv y hy) e3', he y, ih g (by omega) g2]
theorem JA_join {n S : Nat} {A : Ab} {dep dep' : Nat → Nat} {J : List Jb} {N : Int} (h : WF n S A dep) (hJ : JA A J N) {d u : Nat} {a : Int} (hd : Lv A d) (hu : Lv A u) (hdu : d ≠ u) (hg : A.1 3 u = A.1 3 d) (h' : WF n S (aJoin A d u a) dep') (b1 : bsy A d = false) (b2 : bsy A u = false) : JA (aJoin A d u a) J N := by
  have hz : ∀ x, Lv A x → bsy A x = false → A.1 9 x = 0 ∧ A.1 10 x = 0 := fun x hx hb => by
    have h9 : A.1 9 x = 0 := Classical.byContradiction fun z => by
      have := (bsy_iff h hx).mpr ⟨x, hx, bl_self A x, z⟩
      rw [hb] at this; cases this
    refine ⟨h9, Classical.byContradiction fun z => ?_⟩
    obtain ⟨t, t1, t2, t3⟩ := hJ.2.2.2.1 x hx z
    have := (bsy_iff h hx).mpr ⟨t, t1, t2, by omega⟩
    rw [hb] at this; cases this
  obtain ⟨d9, d10⟩ := hz d hd b1
  obtain ⟨u9, u10⟩ := hz u hu b2
  have hj : ∀ j x, j ≠ 0 → j ≠ 3 → j ≠ 8 → (aJoin A d u a).1 j x = A.1 j x := fun j x h0 h3 h8 => by
    show (if x = u ∧ j = 0 then 0 else if x = d ∧ j = 0 then A.1 0 d + 1 else if x = d ∧ j = 8 then a else if j = 3 ∧ A.1 3 x = (u : Int) + 1 then (d : Int) + 1 else A.1 j x) = _
    rw [if_neg (fun z => h0 z.2), if_neg (fun z => h0 z.2), if_neg (fun z => h8 z.2), if_neg (fun z => h3 z.1)]
  have hsp : ∀ x, Sp A x → x ≠ d ∧ x ≠ u := fun x hx => by
    refine ⟨fun z => ?_, fun z => ?_⟩
    · rcases hx.2 with w | w
      · exact w (z ▸ d9)
      · exact w (z ▸ d10)
    · rcases hx.2 with w | w
      · exact w (z ▸ u9)
      · exact w (z ▸ u10)
  have h0 : ∀ x, x ≠ u → x ≠ d → (aJoin A d u a).1 0 x = A.1 0 x := fun x h1 h2 => by
    show (if x = u ∧ 0 = 0 then 0 else if x = d ∧ 0 = 0 then A.1 0 d + 1 else if x = d ∧ 0 = 8 then a else if 0 = 3 ∧ A.1 3 x = (u : Int) + 1 then (d : Int) + 1 else A.1 0 x) = _
    simp [h1, h2]
  have hnu : ¬ Lv (aJoin A d u a) u := fun z => by
    have := z.2
    have e : (aJoin A d u a).1 0 u = 0 := by
      show (if u = u ∧ 0 = 0 then 0 else _) = (0 : Int)
      simp
    omega
  refine JA_tr hJ (fun x hx => ?_) (fun x hx => ?_) (fun x hx hx2 => ⟨hj 9 x (by omega) (by omega) (by omega), hj 10 x (by omega) (by omega) (by omega)⟩) (fun t y ht hy => ?_)
  · obtain ⟨n1, n2⟩ := hsp x hx
    refine ⟨⟨hx.1.1, by rw [h0 x n2 n1]; exact hx.1.2⟩, hj 9 x (by omega) (by omega) (by omega), hj 10 x (by omega) (by omega) (by omega), hj 11 x (by omega) (by omega) (by omega), fun z => ?_⟩
    show (if x = u ∧ 3 = 0 then 0 else if x = d ∧ 3 = 0 then A.1 0 d + 1 else if x = d ∧ 3 = 8 then a else if 3 = 3 ∧ A.1 3 x = (u : Int) + 1 then (d : Int) + 1 else A.1 3 x) ≠ 0
    by_cases c : A.1 3 x = (u : Int) + 1
    · simp [c]; omega
    · simp [c]; exact z
  · by_cases c : x = u
    · exact absurd hx.1 (c ▸ hnu)
    · by_cases c2 : x = d
      · exact c2 ▸ hd
      · refine ⟨hx.1.1, ?_⟩
        have := hx.1.2
        rw [h0 x c c2] at this; exact this
  · have ht' := hsp t ht
    have hy' := hsp y hy
    have := bl_join h hd hu hdu hg h' ht'.1 ht'.2 (dep y) y (Nat.le_refl _) hy.1
    unfold rhj at this
    rw [if_neg hy'.2] at this
    exact this
/-- halves that may be joined -/
def prB (A : Ab) (o : Int) (d : Nat) : Bool := decide (A.1 0 d = o ∧ A.1 0 (d + pg o) = o ∧ A.1 1 d % (2 * (pg o : Int)) = 0 ∧ A.1 1 (d + pg o) = A.1 1 d + (pg o : Int) ∧ A.1 2 (d + pg o) = A.1 2 d ∧ A.1 3 (d + pg o) = A.1 3 d) && (!bsy A d && !bsy A (d + pg o))
def jnV (A : Ab) (d u : Nat) : Int := (rdB (whB (sdB (A.1 8 d).toNat (A.1 8 u).toNat)) 8388608 (pwB (sdB (A.1 8 d).toNat (A.1 8 u).toNat) + 22) : Int)
/-- the relation without the wide lines of the classes' space s -/
def RD (n S : Nat) (s : Nat) (δ : Sl) (σ : Nat → Nat) (bn : Nat) (B : Nat → Int) (A : Ab) (dep : Nat → Nat) (J : List Jb) (N : Int) : Prop :=
  WF n S A dep ∧ CRep δ σ bn A ∧ MRep B A ∧ (∀ t, t < 6 → t ≠ s → δ 15 t = svv (decide (zI (B (1920 + 4 * t)) = zI 1)) (decide (zI (B (1921 + 4 * t)) = zI 1)) (decide (zI (B (1922 + 4 * t)) = zI 1)) (decide (zI (B (1923 + 4 * t)) = zI 1))) ∧ WD B A ∧ JA A J N ∧ JC δ J ∧ JM B J ∧ δ 10 4 = zI N ∧ B 2197 = N
theorem RD_join {n S : Nat} {A : Ab} {dep : Nat → Nat} {δ : Sl} {σ : Nat → Nat} {bn : Nat} {μ : Sl} {b : Nat} {B : Nat → Int} {J : List Jb} {N : Int} {s : Nat} (hR : RD n S s δ σ bn B A dep J N) (hb : MB μ b) {o : Int} {d : Nat} (ho1 : 1 ≤ o) (ho2 : o ≤ 3) (hs : s < 6) (hd1 : 32 * s ≤ d) (hd2 : d + 2 * pg o ≤ 32 * s + 32) (hal : d % (2 * pg o) = 0) (hp : prB A o d = true) :
    ∃ δ' B', De_join δ (zI (σ d : Int)) (zI (σ (d + pg o) : Int)) = some ((), δ') ∧ Mo_oneOf (bst μ b B) (zI (d : Int)) (zI ((d + pg o : Nat) : Int)) = some ((), bst μ b B') ∧ RD n S s δ' σ bn B' (aJoin A d (d + pg o) (jnV A d (d + pg o))) dep J N ∧ (∀ a i, a < 17 ∨ 32 < a → δ' a i = δ a i) ∧ δ' 17 19 = δ 17 19 ∧ ∀ k, 1944 ≤ k → B' k = B k := by
  obtain ⟨h, hC, hM, hW, hwd, hJ, hJC, hJM, h4, h97⟩ := hR
  unfold prB at hp
  rw [Bool.and_eq_true, Bool.and_eq_true, decide_eq_true_eq] at hp
  obtain ⟨⟨p1, p2, p3, p4, p5, p6⟩, p7, p8⟩ := hp
  have hpg := pg_pos (o := o) ho1 (by omega)
  have b1 : bsy A d = false := by simpa using p7
  have b2 : bsy A (d + pg o) = false := by simpa using p8
  have hd : Lv A d := ⟨by omega, by omega⟩
  have hu : Lv A (d + pg o) := ⟨by omega, by omega⟩
  have hpgs : pgs A d = pg o := by unfold pgs; rw [p1]
  have h8d : 0 ≤ A.1 8 d ∧ A.1 8 d ≤ 1266679808 := by have := h.2.2.2.1 d hd; exact ⟨this.2.2.2.2.2.2.2.2.2.1, this.2.2.2.2.2.2.2.2.2.2⟩
  have h8u : 0 ≤ A.1 8 (d + pg o) ∧ A.1 8 (d + pg o) ≤ 1266679808 := by have := h.2.2.2.1 _ hu; exact ⟨this.2.2.2.2.2.2.2.2.2.1, this.2.2.2.2.2.2.2.2.2.2⟩
  obtain ⟨x, hx⟩ : ∃ x : Nat, A.1 8 d = (x : Int) := ⟨(A.1 8 d).toNat, by omega⟩
  obtain ⟨y, hy⟩ : ∃ y : Nat, A.1 8 (d + pg o) = (y : Int) := ⟨(A.1 8 (d + pg o)).toNat, by omega⟩
  have e24 : pB 24 = 1266679808 := by decide
  have hsd : sdB x y ≤ pB 25 := sd_pow (k := 24) (by rw [e24]; omega) (by rw [e24]; omega)
  have e25 : pB 25 = 1275068416 := by decide
  have hFa := F_add (a := x) (b := y) (by omega) (by omega)
  have hFh := F_half (a := sdB x y) (by omega)
  have hhl := half_le (a := sdB x y) (k := 24) hsd
  have hjv : jnV A d (d + pg o) = (rdB (whB (sdB x y)) 8388608 (pwB (sdB x y) + 22) : Int) := by unfold jnV; rw [hx, hy, Int.toNat_natCast, Int.toNat_natCast]
  have hu2 := u_of (k := sdB x y) (by omega) hFa.2
  have hFh2 : (FP.fdiv (FP.fadd (zI (A.1 8 d)).toUInt32 (zI (A.1 8 (d + pg o))).toUInt32) FP.fconst2).toInt32 = zI (jnV A d (d + pg o)) := by
    rw [hx, hy, hu2, hFh.2, hjv]
  have hv1 : 0 ≤ jnV A d (d + pg o) ∧ jnV A d (d + pg o) ≤ 1266679808 := by rw [hjv]; omega
  have hW' := WF_join (a := jnV A d (d + pg o)) h hd hu (by rw [hpgs]) (by omega) (by omega) (by rw [hpgs]; exact hal) (by rw [hpgs]; exact p3) (by rw [hpgs]; exact p4) p6 hv1.1 hv1.2
  obtain ⟨δ', c1, c2, c3, c4⟩ := cr_join (v := jnV A d (d + pg o)) h hC hd hu (by rw [hpgs]) (by omega) (by omega) (by rw [hpgs]; exact hal) (by rw [hpgs]; exact p3) (by rw [hpgs]; exact p4) p6 hv1.1 hv1.2 (by
    rw [hx, hy]; exact nn_of (k := sdB x y) (by omega) hFa.2) (nn_of (k := rdB (whB (sdB x y)) 8388608 (pwB (sdB x y) + 22)) (by omega) (by rw [hFh2, hjv])) hFh2
  obtain ⟨B', m1, m2, m3⟩ := mr_join (s := (sdB x y : Int)) (v := jnV A d (d + pg o)) hb h hM hd hu (by omega) (by omega) p6 (by rw [hx, hy]; exact hFa.1) (by rw [hjv]; exact hFh.1)
  have hwd0 : 1920 + 4 * s ≤ wdc d ∧ wdc d < 1924 + 4 * s := by unfold wdc; omega
  have hl := jL_len hJ
  have hge : ∀ k, 1944 ≤ k → B' k = B k := fun k hk => by rw [m3 k (by omega), if_neg (by omega)]
  refine ⟨δ', B', c1, m1, ⟨hW', c2, m2, fun t ht hts => ?_, fun z hz hzo => ?_, JA_join h hJ hd hu (by omega) p6 hW' b1 b2, JC_keep hJC (c3 _ _ (by omega)) (fun i => c3 _ _ (by omega)), JM_keep hJM hJ.1.1 (fun k g1 g2 => hge k g1), by rw [c3 _ _ (by omega)]; exact h4, by rw [hge _ (by omega)]; exact h97⟩, c3, c4, hge⟩
  · have e : ∀ j, j < 4 → B' (1920 + j + 4 * t) = B (1920 + j + 4 * t) := fun j hj => by rw [m3 _ (by omega), if_neg (by omega)]
    have e0 := e 0 (by omega)
    have e1 := e 1 (by omega)
    have e2 := e 2 (by omega)
    have e3 := e 3 (by omega)
    rw [c3 _ _ (by omega), show 1920 + 4 * t = 1920 + 0 + 4 * t by omega, e0, show 1921 + 4 * t = 1920 + 1 + 4 * t by omega, e1, show 1922 + 4 * t = 1920 + 2 + 4 * t by omega, e2, show 1923 + 4 * t = 1920 + 3 + 4 * t by omega, e3]
    exact hW t ht hts
  · have hz1 := hz.1
    have hw0 : 1920 ≤ wdc z := by unfold wdc; omega
    rw [m3 _ hw0]
    by_cases c : wdc z = wdc d
    · rw [if_pos c]
    · rw [if_neg c]
      have czd : z ≠ d := fun w => c (by rw [w])
      have czu : z ≠ d + pg o := fun w => by
        have := hz.2
        have e : (aJoin A d (d + pg o) (jnV A d (d + pg o))).1 0 z = 0 := by
          show (if z = d + pg o ∧ 0 = 0 then 0 else _) = (0 : Int)
          rw [if_pos ⟨w, rfl⟩]
        omega
      have e0 : (aJoin A d (d + pg o) (jnV A d (d + pg o))).1 0 z = A.1 0 z := by
        show (if z = d + pg o ∧ 0 = 0 then 0 else if z = d ∧ 0 = 0 then A.1 0 d + 1 else if z = d ∧ 0 = 8 then _ else if 0 = 3 ∧ A.1 3 z = ((d + pg o : Nat) : Int) + 1 then (d : Int) + 1 else A.1 0 z) = _
        rw [if_neg (fun w => czu w.1), if_neg (fun w => czd w.1), if_neg (fun w => czd w.1), if_neg (by omega)]
      rw [e0] at hzo
      exact hwd z ⟨hz1, by omega⟩ hzo
