/-! ===== tidy ===== -/
def pF (A : Ab) (s : Nat) : Option (Int × Nat) := match psL A 1 s 16 0 with
  | some d => some (1, d)
  | none => match psL A 2 s 8 0 with
    | some d => some (2, d)
    | none => match psL A 3 s 4 0 with
      | some d => some (3, d)
      | none => none
def cvP : Option (Int × Nat) → Int
  | none => -1
  | some x => (x.2 : Int)
theorem pF_mem {A : Ab} {s : Nat} {o : Int} {d : Nat} (h : pF A s = some (o, d)) : 1 ≤ o ∧ o ≤ 3 ∧ prB A o d = true ∧ 32 * s ≤ d ∧ d + 2 * pg o ≤ 32 * s + 32 ∧ d % (2 * pg o) = 0 := by
  unfold pF at h
  have key : ∀ (o' : Int) (m x : Nat), 1 ≤ o' → o' ≤ 3 → m * (2 * pg o') = 32 → psL A o' s m 0 = some x → prB A o' x = true ∧ 32 * s ≤ x ∧ x + 2 * pg o' ≤ 32 * s + 32 ∧ x % (2 * pg o') = 0 := fun o' m x h1 h2 h3 hx => by
    obtain ⟨a1, a2, a3, j, a4⟩ := ps_mem m 0 x hx
    refine ⟨a1, by omega, by omega, ?_⟩
    rcases pg_cases (o := o') h1 (by omega) with ⟨-, e⟩ | ⟨-, e⟩ | ⟨-, e⟩ | ⟨-, e⟩ <;> rw [e] at a4 ⊢ <;> omega
  split at h
  · rename_i x hx
    cases h
    exact ⟨by omega, by omega, key 1 16 d (by omega) (by omega) (by decide) hx⟩
  · split at h
    · rename_i x hx
      cases h
      exact ⟨by omega, by omega, key 2 8 d (by omega) (by omega) (by decide) hx⟩
    · split at h
      · rename_i x hx
        cases h
        exact ⟨by omega, by omega, key 3 4 d (by omega) (by omega) (by decide) hx⟩
      · cases h
theorem c_two {n S : Nat} {A : Ab} {dep : Nat → Nat} {δ : Sl} {σ : Nat → Nat} {bn : Nat} (h : WF n S A dep) (hC : CRep δ σ bn A) {s : Nat} (hs : s < 6) : De_joinTwo δ (zI (s : Int)) = match pF A s with
    | none => some ((0 : Int32), δ)
    | some x => bd (De_join δ (zI (σ x.2 : Int)) (zI (σ (x.2 + pg x.1) : Int))) fun _ d9 => some ((1 : Int32), d9) := by
  have e1 := c_two_14 h hC (o := 1) (by omega) (by omega) hs (De_joinTwo_2 999999) 16 0 FU (by decide) (by decide) (FU_gt (by omega))
  have e2 := c_two_14 h hC (o := 2) (by omega) (by omega) hs (De_joinTwo_2 999998) 8 0 FU (by decide) (by decide) (FU_gt (by omega))
  have e3 := c_two_14 h hC (o := 3) (by omega) (by omega) hs (De_joinTwo_2 999997) 4 0 FU (by decide) (by decide) (FU_gt (by omega))
  have s0 : De_joinTwo δ (zI (s : Int)) = De_joinTwo_14 (De_joinTwo_2 999999) FU (zI (s : Int)) (zI (1 - 1)) (zI (pg 1 : Int)) (zI ((0 : Nat) : Int)) δ := by
    unfold De_joinTwo
    rw [bnd_ap]
    show De_joinTwo_2 (999999 + 1) (zI (s : Int)) 0 δ = _
    rw [De_joinTwo_2, if_neg (by decide), bnd_ap, bnd_ap]
    rfl
  have s1 : De_joinTwo_2 999999 (zI (s : Int)) (zI 1) δ = De_joinTwo_14 (De_joinTwo_2 999998) FU (zI (s : Int)) (zI (2 - 1)) (zI (pg 2 : Int)) (zI ((0 : Nat) : Int)) δ := by
    show De_joinTwo_2 (999998 + 1) (zI (s : Int)) (zI 1) δ = _
    rw [De_joinTwo_2, if_neg (by decide), bnd_ap, bnd_ap]
    rfl
  have s2 : De_joinTwo_2 999998 (zI (s : Int)) (zI 2) δ = De_joinTwo_14 (De_joinTwo_2 999997) FU (zI (s : Int)) (zI (3 - 1)) (zI (pg 3 : Int)) (zI ((0 : Nat) : Int)) δ := by
    show De_joinTwo_2 (999997 + 1) (zI (s : Int)) (zI 2) δ = _
    rw [De_joinTwo_2, if_neg (by decide), bnd_ap, bnd_ap]
    rfl
  have s3 : De_joinTwo_2 999997 (zI (s : Int)) (zI 3) δ = some ((0 : Int32), δ) := by
    show De_joinTwo_2 (999996 + 1) (zI (s : Int)) (zI 3) δ = _
    rw [De_joinTwo_2, if_pos (by decide)]
  rw [s0, e1]
  unfold pF
  cases psL A 1 s 16 0 with
  | some d => rfl
  | none =>
    dsimp only
    rw [s1, e2]
    cases psL A 2 s 8 0 with
    | some d => rfl
    | none =>
      dsimp only
      rw [s2, e3]
      cases psL A 3 s 4 0 with
      | some d => rfl
      | none => dsimp only; exact s3
theorem m_pair {n S : Nat} {A : Ab} {dep : Nat → Nat} {μ : Sl} {b : Nat} {B : Nat → Int} {qv : Nat → Int} (hb : MB μ b) (h : WF n S A dep) (hM : MRep B A) (h9 : T9 A) (hS : μ 41 3 = zI (S : Int)) (hn : SN n S qv) {s : Nat} (hs : s < 6) : Mo_pairIn (bst μ b B) (zI (s : Int)) = some (zI (cvP (pF A s))) := by
  have hS3 := hn.2.1
  have red : ∀ (o : Int) (mS m32 : Nat), 1 ≤ o → o ≤ 3 → mS * (2 * pg o) = S → m32 * (2 * pg o) = 32 → psL A o s mS 0 = psL A o s m32 0 := fun o mS m32 h1 h2 e1 e2 => by
    have hpg := pg_pos (o := o) h1 (by omega)
    have hle : mS ≤ m32 := by
      refine Nat.le_of_mul_le_mul_right (c := 2 * pg o) ?_ (by omega)
      rw [e1, e2]; omega
    obtain ⟨r, rfl⟩ : ∃ r, m32 = mS + r := ⟨m32 - mS, by omega⟩
    rw [Nat.add_mul] at e2
    rw [ps_add, Nat.zero_add, ps_none h h1 h2 hs r _ (by omega) (by omega)]
    cases psL A o s mS 0 <;> rfl
  have e1 := m_two_9 hb h hM h9 hS (o := 1) (by omega) (by omega) hs (Mo_pairIn_2 (bst μ b B) 999999) (S / 2) 0 FU (by show 0 + S / 2 * (2 * 1) = S; omega) (FU_gt (by omega))
  have e2 := m_two_9 hb h hM h9 hS (o := 2) (by omega) (by omega) hs (Mo_pairIn_2 (bst μ b B) 999998) (S / 4) 0 FU (by show 0 + S / 4 * (2 * 2) = S; omega) (FU_gt (by omega))
  have e3 := m_two_9 hb h hM h9 hS (o := 3) (by omega) (by omega) hs (Mo_pairIn_2 (bst μ b B) 999997) (S / 8) 0 FU (by show 0 + S / 8 * (2 * 4) = S; omega) (FU_gt (by omega))
  rw [red 1 (S / 2) 16 (by omega) (by omega) (by show S / 2 * (2 * 1) = S; omega) (by decide)] at e1
  rw [red 2 (S / 4) 8 (by omega) (by omega) (by show S / 4 * (2 * 2) = S; omega) (by decide)] at e2
  rw [red 3 (S / 8) 4 (by omega) (by omega) (by show S / 8 * (2 * 4) = S; omega) (by decide)] at e3
  have s0 : Mo_pairIn (bst μ b B) (zI (s : Int)) = Mo_pairIn_9 (Mo_pairIn_2 (bst μ b B) 999999) (bst μ b B) FU (zI (s : Int)) (zI (1 - 1)) (zI ((0 : Nat) : Int)) := by
    unfold Mo_pairIn
    rw [bnd_ap]
    show Mo_pairIn_2 (bst μ b B) (999999 + 1) (zI (s : Int)) 0 = _
    rw [Mo_pairIn_2, if_neg (by decide), bnd_ap]
    rfl
  have s1 : Mo_pairIn_2 (bst μ b B) 999999 (zI (s : Int)) (zI 1) = Mo_pairIn_9 (Mo_pairIn_2 (bst μ b B) 999998) (bst μ b B) FU (zI (s : Int)) (zI (2 - 1)) (zI ((0 : Nat) : Int)) := by
    show Mo_pairIn_2 (bst μ b B) (999998 + 1) (zI (s : Int)) (zI 1) = _
    rw [Mo_pairIn_2, if_neg (by decide), bnd_ap]
    rfl
  have s2 : Mo_pairIn_2 (bst μ b B) 999998 (zI (s : Int)) (zI 2) = Mo_pairIn_9 (Mo_pairIn_2 (bst μ b B) 999997) (bst μ b B) FU (zI (s : Int)) (zI (3 - 1)) (zI ((0 : Nat) : Int)) := by
    show Mo_pairIn_2 (bst μ b B) (999997 + 1) (zI (s : Int)) (zI 2) = _
    rw [Mo_pairIn_2, if_neg (by decide), bnd_ap]
    rfl
  have s3 : Mo_pairIn_2 (bst μ b B) 999997 (zI (s : Int)) (zI 3) = some (-1 : Int32) := by
    show Mo_pairIn_2 (bst μ b B) (999996 + 1) (zI (s : Int)) (zI 3) = _
    rw [Mo_pairIn_2, if_pos (by decide)]
  rw [s0, e1]
  unfold pF
  cases psL A 1 s 16 0 with
  | some d => rfl
  | none =>
    dsimp only
    rw [s1, e2]
    cases psL A 2 s 8 0 with
    | some d => rfl
    | none =>
      dsimp only
      rw [s2, e3]
      cases psL A 3 s 4 0 with
      | some d => rfl
      | none => dsimp only; exact s3
theorem nlv_join {A : Ab} {d u : Nat} {a : Int} (hd : Lv A d) (hu : Lv A u) (hdu : d ≠ u) : nlv (aJoin A d u a) + 1 = nlv A := by
  have hup := fb_ct_upd (fun x => decide (0 < A.1 0 x)) false (i := u) (n := 192) hu.1
  have e : nlv (aJoin A d u a) = fb_ct (fun k => if k = u then false else decide (0 < A.1 0 k)) 192 := fb_ct_cong (fun k hk => by
    by_cases c : k = u
    · have e0 : (aJoin A d u a).1 0 k = 0 := by
        show (if k = u ∧ 0 = 0 then 0 else _) = (0 : Int)
        rw [if_pos ⟨c, rfl⟩]
      rw [e0, if_pos c]; rfl
    · rw [if_neg c]
      by_cases c2 : k = d
      · have e0 : (aJoin A d u a).1 0 k = A.1 0 d + 1 := by
          show (if k = u ∧ 0 = 0 then 0 else if k = d ∧ 0 = 0 then A.1 0 d + 1 else _) = _
          rw [if_neg (fun z => c z.1), if_pos ⟨c2, rfl⟩]
        rw [e0, c2]
        have := hd.2
        rw [decide_eq_true (show 0 < A.1 0 d + 1 by omega), decide_eq_true this]
      · have e0 : (aJoin A d u a).1 0 k = A.1 0 k := by
          show (if k = u ∧ 0 = 0 then 0 else if k = d ∧ 0 = 0 then A.1 0 d + 1 else if k = d ∧ 0 = 8 then a else if 0 = 3 ∧ A.1 3 k = (u : Int) + 1 then (d : Int) + 1 else A.1 0 k) = _
          rw [if_neg (fun z => c z.1), if_neg (fun z => c2 z.1), if_neg (fun z => c2 z.1), if_neg (by omega)]
        rw [e0])
  have hpu : decide (0 < A.1 0 u) = true := decide_eq_true hu.2
  rw [hpu, if_pos rfl, if_neg (by decide)] at hup
  rw [e]
  unfold nlv
  omega
theorem pgF_join {A : Ab} {d u : Nat} {a o : Int} (hdu : d ≠ u) (h1 : A.1 0 d = o) (h2 : A.1 0 u = o) (ho1 : 1 ≤ o) (ho2 : o ≤ 3) (hs : d / 32 = u / 32) (s : Nat) : pgF ((aJoin A d u a).1 0) s = pgF (A.1 0) s := by
  have eA : (aJoin A d u a).1 0 = updF (updF (A.1 0) u 0) d (o + 1) := by
    funext y
    unfold aJoin updF
    dsimp only
    by_cases z : y = u
    · rw [if_pos ⟨z, rfl⟩, if_neg (fun w => hdu (by rw [← w, z])), if_pos z]
    · rw [if_neg (fun w => z w.1)]
      by_cases w : y = d
      · rw [if_pos ⟨w, rfl⟩, if_pos w, h1]
      · rw [if_neg (fun x => w x.1), if_neg (fun x => w x.1), if_neg (fun x => absurd x.1 (by decide)), if_neg w, if_neg z]
  rw [eA]
  have u1 := pgF_upd (A.1 0) (d := u) 0 s
  have u2 := pgF_upd (updF (A.1 0) u 0) (d := d) (o + 1) s
  have e0 : updF (A.1 0) u 0 d = o := by unfold updF; rw [if_neg hdu, h1]
  have p0 : pg 0 = 0 := by decide
  have p2 : pg (o + 1) = 2 * pg o := by
    rcases (show o = 1 ∨ o = 2 ∨ o = 3 by omega) with z | z | z <;> rw [z] <;> rfl
  rw [e0, p2, hs] at u2
  rw [h2, p0] at u1
  by_cases z : u / 32 = s
  · rw [if_pos z, if_pos z] at u1 u2
    omega
  · rw [if_neg z, if_neg z] at u1 u2
    omega
theorem tidy_loop {n S : Nat} {M : Mem} {J : List Jb} {N : Int} {b : Nat} {qv : Nat → Int} (hN : N < 2147483648) (hn : SN n S qv) {s : Nat} (hs : s < 6) {σ : Nat → Nat} {bn : Nat} {dep : Nat → Nat} {μ : Sl} (hb : MB μ b) (hS : μ 41 3 = zI (S : Int)) : ∀ (T i k : Nat) (δ : Sl) (B : Nat → Int) (A : Ab), nlv A ≤ T → i + T ≤ 192 → T < k → RD n S s δ σ bn B A dep J N →
    ∃ (c : Nat) (δ' : Sl) (B' : Nat → Int) (A' : Ab), c ≤ T ∧ Wo_joinAll_12 M k (zI (s : Int)) (zI (i : Int)) δ = Wo_joinAll_36 M (zI (s : Int)) (zI ((i + c : Nat) : Int)) δ' ∧ Mo_tidies_8 k (zI (s : Int)) (zI (i : Int)) (zI (cvP (pF A s))) (bst μ b B) = Mo_tidies_39 FU (zI (s : Int)) (zI ((i + c : Nat) : Int)) (0 : Int32) (bst μ b B') ∧ RD n S s δ' σ bn B' A' dep J N ∧ (∀ a i, a < 17 ∨ 32 < a → δ' a i = δ a i) ∧ δ' 17 19 = δ 17 19 ∧ (∀ k, 1944 ≤ k → B' k = B k) ∧ ∀ t, pgF (A'.1 0) t = pgF (A.1 0) t := by
  intro T
  induction T with
  | zero =>
    intro i k δ B A hT hi hk hR
    obtain ⟨q, rfl⟩ : ∃ q, k = q + 1 := ⟨k - 1, by omega⟩
    have hnone : pF A s = none := by
      cases hp : pF A s with
      | none => rfl
      | some x =>
        obtain ⟨o, d⟩ := x
        obtain ⟨a1, a2, a3, a4, a5, a6⟩ := pF_mem hp
        have hpg := pg_pos (o := o) a1 (by omega)
        unfold prB at a3
        rw [Bool.and_eq_true, decide_eq_true_eq] at a3
        have : 0 < nlv A := fb_ct_pos.mpr ⟨d, by omega, decide_eq_true (by omega)⟩
        omega
    refine ⟨0, δ, B, A, by omega, ?_, ?_, hR, fun _ _ _ => rfl, rfl, fun _ _ => rfl, fun _ => rfl⟩
    · rw [Wo_joinAll_12]
      by_cases c : (192 : Int32) ≤ zI (i : Int)
      · rw [if_pos c]; rfl
      · rw [if_neg c, c_two hR.1 hR.2.1 hs, hnone]
        dsimp only
        rw [bd_some, if_pos rfl]; rfl
    · rw [Mo_tidies_8, hnone, show cvP none = (-1 : Int) from rfl, if_pos (by decide), bnd_ap]; rfl
  | succ T ih =>
    intro i k δ B A hT hi hk hR
    obtain ⟨q, rfl⟩ : ∃ q, k = q + 1 := ⟨k - 1, by omega⟩
    have h := hR.1
    have hcl := c_two h hR.2.1 hs
    have h9 : T9 A := fun x hx => by have := hR.2.2.2.2.2.1.2.2.1.2 x hx; omega
    cases hp : pF A s with
    | none =>
      rw [hp] at hcl
      dsimp only at hcl
      refine ⟨0, δ, B, A, by omega, ?_, ?_, hR, fun _ _ _ => rfl, rfl, fun _ _ => rfl, fun _ => rfl⟩
      · rw [Wo_joinAll_12, if_neg (by rw [zI_lit, zI_le (by omega) (by omega) (by omega) (by omega)]; omega), hcl, bd_some, if_pos rfl]; rfl
      · rw [Mo_tidies_8, show cvP none = (-1 : Int) from rfl, if_pos (by decide), bnd_ap]; rfl
    | some x =>
      obtain ⟨o, d⟩ := x
      obtain ⟨a1, a2, a3, a4, a5, a6⟩ := pF_mem hp
      have hpg := pg_pos (o := o) a1 (by omega)
      have a3' := a3
      unfold prB at a3'
      rw [Bool.and_eq_true, decide_eq_true_eq] at a3'
      rw [hp] at hcl
      dsimp only at hcl
      obtain ⟨δ1, B1, j1, j2, j3, j4, j5, j6⟩ := RD_join hR hb a1 a2 hs a4 a5 a6 a3
      have hnl := nlv_join (A := A) (d := d) (u := d + pg o) (a := jnV A d (d + pg o)) ⟨by omega, by omega⟩ ⟨by omega, by omega⟩ (by omega)
      have h91 : T9 (aJoin A d (d + pg o) (jnV A d (d + pg o))) := fun x hx => by have := j3.2.2.2.2.2.1.2.2.1.2 x hx; omega
      obtain ⟨c, δ', B', A', q1, q2, q3, q4, q5, q6, q7, q8⟩ := ih (i + 1) q δ1 B1 _ (by omega) (by omega) (by omega) j3
      have hnx : zI (i : Int) + 1 = zI ((i + 1 : Nat) : Int) := by rw [show (1 : Int32) = zI 1 from rfl, zI_add]; rfl
      have hpo := m_pages hb h hR.2.2.1 (x := d) (by omega)
      rw [a3'.1.1] at hpo
      refine ⟨c + 1, δ', B', A', by omega, ?_, ?_, q4, fun a i g => by rw [q5 a i g, j4 a i g], by rw [q6, j5], fun k g => by rw [q7 k g, j6 k g], fun t => by rw [q8 t, pgF_join (by omega) a3'.1.1 a3'.1.2.1 a1 a2 (by omega)]⟩
      · rw [Wo_joinAll_12, if_neg (by rw [zI_lit, zI_le (by omega) (by omega) (by omega) (by omega)]; omega), hcl, j1, bd_some, bd_some, if_neg (by decide), bnd_ap, hnx, q2, show i + 1 + c = i + (c + 1) by omega]
      · rw [Mo_tidies_8, show cvP (some (o, d)) = (d : Int) from rfl, if_neg (nlt0 (by omega)), hpo, bp_some, zI_add, show (d : Int) + (pg o : Int) = ((d + pg o : Nat) : Int) by omega, j2, bd_some, bnd_ap, hnx, m_pair hb j3.1 j3.2.2.1 h91 hS hn hs, bp_some, bnd_ap, q3, show i + 1 + c = i + (c + 1) by omega]
