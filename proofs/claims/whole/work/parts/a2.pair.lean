/-! ===== the pair that is joined next ===== -/
theorem zI_mk {a : Nat} {k : Nat} (hk : k < 31) (ha : a < 2147483648) : zI (a : Int) &&& zI ((2 ^ k - 1 : Nat) : Int) = zI ((a % 2 ^ k : Nat) : Int) := by
  apply Int32.toBitVec_inj.mp
  apply BitVec.eq_of_toNat_eq
  have t : ∀ n : Nat, n < 4294967296 → (zI (n : Int)).toBitVec.toNat = n := fun n hn => by
    show (BitVec.ofInt 32 (n : Int)).toNat = n
    rw [BitVec.ofInt_natCast, BitVec.toNat_ofNat, Nat.mod_eq_of_lt (by omega)]
  have hp : 2 ^ k ≤ 2 ^ 30 := Nat.pow_le_pow_right (by omega) (by omega)
  have hm := Nat.mod_le a (2 ^ k)
  rw [Int32.toBitVec_and, BitVec.toNat_and, t a (by omega), t _ (by omega), t _ (by omega), Nat.and_two_pow_sub_one_eq_mod]
def prG (A : Ab) (o : Int) (d u : Nat) : Bool := decide (A.1 0 d = o ∧ A.1 0 u = o ∧ A.1 1 d % (2 * (pg o : Int)) = 0 ∧ A.1 1 u = A.1 1 d + (pg o : Int) ∧ A.1 2 u = A.1 2 d ∧ A.1 3 u = A.1 3 d) && (!bsy A d && !bsy A u)
theorem c_halves {n S : Nat} {A : Ab} {dep : Nat → Nat} {δ : Sl} {σ : Nat → Nat} {bn : Nat} (h : WF n S A dep) (hC : CRep δ σ bn A) {d u : Nat} (hd : Lv A d) (hu : Lv A u) {o : Int} (ho1 : 1 ≤ o) (ho2 : o ≤ 3) : De_areHalves δ (zI (σ d : Int)) (zI (σ u : Int)) (zI (o - 1)) = some (bI (prG A o d u)) := by
  have bd' := cr_lt hC hd
  have bu := cr_lt hC hu
  have hid : inb (zI (σ d : Int)) 192 := by rw [zI_inb (by omega) (by omega)]; omega
  have hiu : inb (zI (σ u : Int)) 192 := by rw [zI_inb (by omega) (by omega)]; omega
  have cd := hC.2.2.1 d hd
  have cu := hC.2.2.1 u hu
  have wd := h.2.2.2.1 d hd
  have wu := h.2.2.2.1 u hu
  have hS := h.2.1
  have od := wd.1
  have ou := wu.1
  have fd := wd.2.2.2.2.1
  have fd2 := wd.2.2.2.2.2.2.1
  have fu := wu.2.2.2.2.1
  have fu2 := wu.2.2.2.2.2.2.1
  have rd : 0 ≤ A.1 2 d ∧ A.1 2 d ≤ 7 := ⟨wd.2.2.2.2.2.2.2.1, wd.2.2.2.2.2.2.2.2.1⟩
  have ru : 0 ≤ A.1 2 u ∧ A.1 2 u ≤ 7 := ⟨wu.2.2.2.2.2.2.2.1, wu.2.2.2.2.2.2.2.2.1⟩
  have pd := hd.2
  have pu := hu.2
  have hpg := pg_pos (o := o) ho1 (by omega)
  obtain ⟨f, hf⟩ : ∃ f : Nat, A.1 1 d = (f : Int) := ⟨(A.1 1 d).toNat, by omega⟩
  have hmask : zI (A.1 1 d) &&& (((2 : Int32) * zI (pg o : Int)) - (1 : Int32)) = zI (A.1 1 d % (2 * (pg o : Int))) := by
    rw [lz2, zI_mul, show (1 : Int32) = zI 1 from rfl, zI_sub, hf]
    have ho : o = 1 ∨ o = 2 ∨ o = 3 := by omega
    rcases ho with rfl | rfl | rfl
    · exact zI_mk (a := f) (k := 1) (by omega) (by omega)
    · exact zI_mk (a := f) (k := 2) (by omega) (by omega)
    · exact zI_mk (a := f) (k := 3) (by omega) (by omega)
  have hmr : 0 ≤ A.1 1 d % (2 * (pg o : Int)) ∧ A.1 1 d % (2 * (pg o : Int)) < 64 := ⟨Int.emod_nonneg _ (by omega), by have := Int.emod_lt_of_pos (A.1 1 d) (show (0 : Int) < 2 * (pg o : Int) by omega); omega⟩
  have hgv : (enc σ (A.1 3 d) = enc σ (A.1 3 u)) ↔ A.1 3 d = A.1 3 u := by
    rcases gv_or h hd with ⟨a1, -⟩ | ⟨g, a1, a2, -⟩ <;> rcases gv_or h hu with ⟨c1, -⟩ | ⟨g', c1, c2, -⟩
    · rw [a1, c1]; exact ⟨fun _ => rfl, fun _ => rfl⟩
    · rw [a1, c1, enc_0, enc_s]
      have := cr_lt hC c2
      rw [zI_eq (by omega) (by omega) (by omega) (by omega)]; omega
    · rw [a1, c1, enc_0, enc_s]
      have := cr_lt hC a2
      rw [zI_eq (by omega) (by omega) (by omega) (by omega)]; omega
    · rw [a1, c1, enc_s, enc_s]
      have h1 := cr_lt hC a2
      have h2 := cr_lt hC c2
      rw [zI_eq (by omega) (by omega) (by omega) (by omega)]
      constructor
      · intro z
        have := hC.1.2.2.2.1 g g' a2 c2 (by omega)
        omega
      · intro z
        have : g = g' := by omega
        rw [this]
  unfold De_areHalves prG
  rw [bnd_ap, show (1 : Int32) <<< (zI (o - 1) &&& 31) = zI (pg o : Int) from zI_pg ho1 (by omega), if_pos hid, zI_ix (by omega) (by omega), Int.toNat_natCast, cd.2.2.2.1]
  by_cases k1 : A.1 0 d = o
  · rw [if_pos (by rw [k1]), if_pos hiu, zI_ix (by omega) (by omega), Int.toNat_natCast, cu.2.2.2.1]
    by_cases k2 : A.1 0 u = o
    · rw [if_pos (by rw [k2]), if_pos hid, cd.2.2.1, hmask]
      by_cases k3 : A.1 1 d % (2 * (pg o : Int)) = 0
      · rw [if_pos (by rw [k3]; rfl), if_pos hiu, if_pos hid, cu.2.2.1, zI_add]
        by_cases k4 : A.1 1 u = A.1 1 d + (pg o : Int)
        · rw [if_pos (by rw [k4]), if_pos hid, if_pos hiu, cd.2.2.2.2.1, cu.2.2.2.2.1]
          by_cases k5 : A.1 2 u = A.1 2 d
          · rw [if_pos (by rw [k5]), if_pos hid, if_pos hiu, cr_giver hC hd, cr_giver hC hu]
            by_cases k6 : A.1 3 u = A.1 3 d
            · rw [if_pos (hgv.mpr k6.symm), c_busy h hC hd, bp_some, bI_if, decide_eq_true ⟨k1, k2, k3, k4, k5, k6⟩, Bool.true_and]
              by_cases k7 : bsy A d = true
              · rw [if_pos k7, k7]; rfl
              · have k7' : bsy A d = false := by simpa using k7
                rw [if_neg k7, c_busy h hC hu, bp_some, bI_if, k7']
                by_cases k8 : bsy A u = true
                · rw [if_pos k8, k8]; rfl
                · have k8' : bsy A u = false := by simpa using k8
                  rw [if_neg k8, k8']; rfl
            · rw [if_neg (fun z => k6 (hgv.mp z).symm), decide_eq_false (fun z => k6 z.2.2.2.2.2)]; rfl
          · rw [if_neg (by rw [zI_eq (by omega) (by omega) (by omega) (by omega)]; exact fun z => k5 z.symm), decide_eq_false (fun z => k5 z.2.2.2.2.1)]; rfl
        · rw [if_neg (by rw [zI_eq (by omega) (by omega) (by omega) (by omega)]; exact k4), decide_eq_false (fun z => k4 z.2.2.2.1)]; rfl
      · rw [if_neg (by rw [zI_lit, zI_eq (by omega) (by omega) (by omega) (by omega)]; exact k3), decide_eq_false (fun z => k3 z.2.2.1)]; rfl
    · rw [if_neg (by rw [zI_eq (by omega) (by omega) (by omega) (by omega)]; omega), decide_eq_false (fun z => k2 z.2.1)]; rfl
  · rw [if_neg (by rw [zI_eq (by omega) (by omega) (by omega) (by omega)]; omega), decide_eq_false (fun z => k1 z.1)]; rfl
theorem m_isPair {n S : Nat} {A : Ab} {dep : Nat → Nat} {μ : Sl} {b : Nat} {B : Nat → Int} (hb : MB μ b) (h : WF n S A dep) (hM : MRep B A) (h9 : T9 A) {d : Nat} {o : Int} (ho1 : 1 ≤ o) (ho2 : o ≤ 3) (hd : d + pg o < 192) (h0 : A.1 0 d = o) : Mo_isPair (bst μ b B) (zI (d : Int)) (zI ((d + pg o : Nat) : Int)) = some (bI (prB A o d)) := by
  have hpg := pg_pos (o := o) ho1 (by omega)
  have hl : Lv A d := ⟨by omega, by omega⟩
  have hp := m_pages hb h hM (x := d) (by omega)
  rw [h0] at hp
  have rdd : ∀ (c x : Nat), c + x < 1920 → Mo_of (bst μ b B) (zI (c : Int) + zI (x : Int)) = some (zI (B (c + x))) := fun c x hc => by
    have := m_of hb B (k := ((c + x : Nat) : Int)) (by omega) (by omega)
    rw [Int.toNat_natCast] at this
    rw [zI_add]; exact this
  have wd := h.2.2.2.1 d hl
  have hS := h.2.1
  have fd := wd.2.2.2.2.1
  have fd2 := wd.2.2.2.2.2.2.1
  have rd : 0 ≤ A.1 2 d ∧ A.1 2 d ≤ 7 := ⟨wd.2.2.2.2.2.2.2.1, wd.2.2.2.2.2.2.2.2.1⟩
  have m0 := hM.1 d (by omega)
  have m0u := hM.1 (d + pg o) (by omega)
  have hu0 := h.2.2.2.2.2.2.2 (d + pg o) (by omega)
  have md := hM.2.1 d hl
  have ho4 : A.1 0 (d + pg o) ≤ 4 := (MR_0 h hM (d + pg o) (by omega)).2.2
  have hrem := zI_rem (x := A.1 1 d) (t := o + 1) fd (by omega) (by omega) (by omega)
  have hp2 : (2 : Int32) * zI (pg o : Int) = zI (pg (o + 1) : Int) := by
    have ho : o = 1 ∨ o = 2 ∨ o = 3 := by omega
    rcases ho with rfl | rfl | rfl <;> decide
  have hp2' : (pg (o + 1) : Int) = 2 * (pg o : Int) := by
    have ho : o = 1 ∨ o = 2 ∨ o = 3 := by omega
    rcases ho with rfl | rfl | rfl <;> decide
  unfold Mo_isPair prB
  rw [hp, bp_some, bnd_ap, if_neg (by rw [zI_lit, zI_le (by omega) (by omega) (by omega) (by omega)]; omega), show (0 : Int32) = zI ((0 : Nat) : Int) from rfl, rdd 0 (d + pg o) (by omega), bp_some, rdd 0 d (by omega), bp_some, Nat.zero_add, Nat.zero_add, m0, m0u, h0]
  by_cases k2 : A.1 0 (d + pg o) = o
  · have hlu : Lv A (d + pg o) := ⟨by omega, by omega⟩
    have wu := h.2.2.2.1 _ hlu
    have fu := wu.2.2.2.2.1
    have fu2 := wu.2.2.2.2.2.2.1
    have ru : 0 ≤ A.1 2 (d + pg o) ∧ A.1 2 (d + pg o) ≤ 7 := ⟨wu.2.2.2.2.2.2.2.1, wu.2.2.2.2.2.2.2.2.1⟩
    have mu := hM.2.1 _ hlu
    rw [if_pos (by rw [k2]), show (192 : Int32) = zI ((192 : Nat) : Int) from rfl, rdd 192 d (by omega), bp_some, md.1, hp2, if_pos (by
      have := pg_pos (o := o + 1) (by omega) (by omega)
      rw [zI_eq (by omega) (by omega) (by omega) (by omega)]; omega)]
    have hrem' : (zI (A.1 1 d) - zI (A.1 1 d) / zI (pg (o + 1) : Int) * zI (pg (o + 1) : Int) = zI ((0 : Nat) : Int)) ↔ A.1 1 d % (2 * (pg o : Int)) = 0 := by
      rw [← hp2']
      have : (zI (A.1 1 d) - zI (A.1 1 d) / zI (pg (o + 1) : Int) * zI (pg (o + 1) : Int) = zI 0) = _ := hrem
      exact Iff.of_eq this
    by_cases k3 : A.1 1 d % (2 * (pg o : Int)) = 0
    · rw [if_pos (hrem'.mpr k3), rdd 192 (d + pg o) (by omega), bp_some, bp_some, mu.1, zI_add]
      by_cases k4 : A.1 1 (d + pg o) = A.1 1 d + (pg o : Int)
      · rw [if_pos (by rw [k4]), show (384 : Int32) = zI ((384 : Nat) : Int) from rfl, rdd 384 (d + pg o) (by omega), bp_some, rdd 384 d (by omega), bp_some, mu.2.1, md.2.1]
        by_cases k5 : A.1 2 (d + pg o) = A.1 2 d
        · rw [if_pos (by rw [k5]), m_giver hb (x := d + pg o) (by omega), bp_some, m_giver hb (x := d) (by omega), bp_some, mu.2.2.1, md.2.2.1]
          have g3 : ∀ x, Lv A x → 0 ≤ A.1 3 x ∧ A.1 3 x ≤ 192 := fun x hx => by
            rcases gv_or h hx with ⟨a1, -⟩ | ⟨g, a1, a2, -⟩
            · omega
            · have := a2.1; omega
          have g3d := g3 d hl
          have g3u := g3 _ hlu
          by_cases k6 : A.1 3 (d + pg o) = A.1 3 d
          · rw [if_pos (by rw [k6]), m_busy hb h hM h9 hl, bp_some, decide_eq_true ⟨rfl, k2, k3, k4, k5, k6⟩, Bool.true_and]
            have hbi : ∀ (c : Bool) (x y : Option Int32), (if bI c = zI ((0 : Nat) : Int) then x else y) = if c = true then y else x := fun c x y => by
              have := bI_if c x y
              exact this
            rw [hbi]
            by_cases k7 : bsy A d = true
            · rw [if_pos k7, k7]; rfl
            · have k7' : bsy A d = false := by simpa using k7
              rw [if_neg k7, m_busy hb h hM h9 hlu, bp_some, hbi, k7']
              by_cases k8 : bsy A (d + pg o) = true
              · rw [if_pos k8, k8]; rfl
              · have k8' : bsy A (d + pg o) = false := by simpa using k8
                rw [if_neg k8, k8']; rfl
          · rw [if_neg (by rw [zI_eq (by omega) (by omega) (by omega) (by omega)]; omega), decide_eq_false (fun z => k6 z.2.2.2.2.2)]; rfl
        · rw [if_neg (by rw [zI_eq (by omega) (by omega) (by omega) (by omega)]; exact k5), decide_eq_false (fun z => k5 z.2.2.2.2.1)]; rfl
      · rw [if_neg (by rw [zI_eq (by omega) (by omega) (by omega) (by omega)]; exact k4), decide_eq_false (fun z => k4 z.2.2.2.1)]; rfl
    · rw [if_neg (fun z => k3 (hrem'.mp z)), decide_eq_false (fun z => k3 z.2.2.1)]; rfl
  · rw [if_neg (by rw [zI_eq (by omega) (by omega) (by omega) (by omega)]; exact k2), decide_eq_false (fun z => k2 z.2.1)]; rfl
/-! the search -/
def psL (A : Ab) (o : Int) (s : Nat) : Nat → Nat → Option Nat
  | 0, _ => none
  | m + 1, p => if prB A o (32 * s + p) = true then some (32 * s + p) else psL A o s m (p + 2 * pg o)
theorem ps_mem {A : Ab} {o : Int} {s : Nat} : ∀ (m p x : Nat), psL A o s m p = some x → prB A o x = true ∧ 32 * s + p ≤ x ∧ x + 2 * pg o ≤ 32 * s + p + m * (2 * pg o) ∧ ∃ j, x = 32 * s + p + j * (2 * pg o) := by
  intro m
  induction m with
  | zero => intro p x hx; cases hx
  | succ m ih =>
    intro p x hx
    have hx' : (if prB A o (32 * s + p) = true then some (32 * s + p) else psL A o s m (p + 2 * pg o)) = some x := hx
    by_cases c : prB A o (32 * s + p) = true
    · rw [if_pos c] at hx'
      cases hx'
      exact ⟨c, by omega, by rw [Nat.add_mul]; omega, 0, by omega⟩
    · rw [if_neg c] at hx'
      obtain ⟨a1, a2, a3, j, a4⟩ := ih _ x hx'
      exact ⟨a1, by omega, by rw [Nat.add_mul]; omega, j + 1, by rw [Nat.add_mul]; omega⟩
theorem ps_none {n S : Nat} {A : Ab} {dep : Nat → Nat} (h : WF n S A dep) {o : Int} (ho1 : 1 ≤ o) (ho2 : o ≤ 3) {s : Nat} (hs : s < 6) : ∀ (m p : Nat), S ≤ p → p + m * (2 * pg o) ≤ 32 → psL A o s m p = none := by
  have hpg := pg_pos (o := o) ho1 (by omega)
  intro m
  induction m with
  | zero => intro p _ _; rfl
  | succ m ih =>
    intro p hp hm
    rw [Nat.add_mul] at hm
    show (if prB A o (32 * s + p) = true then some (32 * s + p) else psL A o s m (p + 2 * pg o)) = none
    rw [if_neg (fun z => ?_), ih _ (by omega) (by omega)]
    unfold prB at z
    rw [Bool.and_eq_true, decide_eq_true_eq] at z
    have hl : Lv A (32 * s + p) := ⟨by omega, by omega⟩
    have := (h.2.2.2.1 _ hl).2.2.2.1
    have := pgs_pos h hl
    omega
theorem ps_add (A : Ab) (o : Int) (s : Nat) : ∀ (m1 m2 p : Nat), psL A o s (m1 + m2) p = (psL A o s m1 p).or (psL A o s m2 (p + m1 * (2 * pg o))) := by
  intro m1
  induction m1 with
  | zero => intro m2 p; rw [Nat.zero_add, Nat.zero_mul, Nat.add_zero]; rfl
  | succ m1 ih =>
    intro m2 p
    rw [show m1 + 1 + m2 = (m1 + m2) + 1 by omega]
    show (if prB A o (32 * s + p) = true then some (32 * s + p) else psL A o s (m1 + m2) (p + 2 * pg o)) = ((if prB A o (32 * s + p) = true then some (32 * s + p) else psL A o s m1 (p + 2 * pg o))).or _
    by_cases c : prB A o (32 * s + p) = true
    · rw [if_pos c, if_pos c]; rfl
    · rw [if_neg c, if_neg c, ih, Nat.add_mul, Nat.one_mul, show p + 2 * pg o + m1 * (2 * pg o) = p + (m1 * (2 * pg o) + 2 * pg o) by omega]
theorem c_two_14 {n S : Nat} {A : Ab} {dep : Nat → Nat} {δ : Sl} {σ : Nat → Nat} {bn : Nat} (h : WF n S A dep) (hC : CRep δ σ bn A) {o : Int} (ho1 : 1 ≤ o) (ho2 : o ≤ 3) {s : Nat} (hs : s < 6) (k2 : Int32 → Int32 → Sl → Option (Int32 × Sl)) : ∀ (m p k : Nat), p + m * (2 * pg o) = 32 → p % (2 * pg o) = 0 → m < k →
    De_joinTwo_14 k2 k (zI (s : Int)) (zI (o - 1)) (zI (pg o : Int)) (zI (p : Int)) δ = match psL A o s m p with
      | none => k2 (zI (s : Int)) (zI o) δ
      | some d => bd (De_join δ (zI (σ d : Int)) (zI (σ (d + pg o) : Int))) fun _ d9 => some ((1 : Int32), d9) := by
  have hpg := pg_pos (o := o) ho1 (by omega)
  have hws := WF_WS h
  intro m
  induction m with
  | zero =>
    intro p k hm hal hk
    obtain ⟨c, rfl⟩ : ∃ c, k = c + 1 := ⟨k - 1, by omega⟩
    have : p = 32 := by omega
    subst this
    rw [De_joinTwo_14, if_pos (by decide), bnd_ap, show (1 : Int32) = zI 1 from rfl, zI_add, show o - 1 + 1 = o by omega]
    rfl
  | succ m ih =>
    intro p k hm hal hk
    obtain ⟨c, rfl⟩ : ∃ c, k = c + 1 := ⟨k - 1, by omega⟩
    rw [Nat.add_mul] at hm
    have hf1 := cr_find hC.2.1 (s := (s : Int)) (p := (p : Int)) (by omega) (by omega) (by omega) (by omega)
    rw [show (32 * (s : Int) + (p : Int)).toNat = 32 * s + p by omega] at hf1
    have hf2 := cr_find hC.2.1 (s := (s : Int)) (p := ((p + pg o : Nat) : Int)) (by omega) (by omega) (by omega) (by omega)
    rw [show (32 * (s : Int) + ((p + pg o : Nat) : Int)).toNat = 32 * s + p + pg o by omega] at hf2
    have hskip : prB A o (32 * s + p) = false → De_joinTwo_73 k2 (De_joinTwo_14 k2 c) (zI (s : Int)) (zI (o - 1)) (zI (pg o : Int)) (zI (p : Int)) δ = match psL A o s (m + 1) p with
      | none => k2 (zI (s : Int)) (zI o) δ
      | some d => bd (De_join δ (zI (σ d : Int)) (zI (σ (d + pg o) : Int))) fun _ d9 => some ((1 : Int32), d9) := fun hp => by
      have e : psL A o s (m + 1) p = psL A o s m (p + 2 * pg o) := by
        show (if prB A o (32 * s + p) = true then some (32 * s + p) else psL A o s m (p + 2 * pg o)) = _
        rw [hp]; rfl
      rw [De_joinTwo_73, bnd_ap, lz2, zI_mul, zI_add, show (p : Int) + 2 * (pg o : Int) = ((p + 2 * pg o : Nat) : Int) by omega, e]
      exact ih (p + 2 * pg o) c (by omega) (by rw [Nat.add_mod_right]; exact hal) (by omega)
    have hself : prB A o (32 * s + p) = true → cov A (32 * s + p) = some (32 * s + p) ∧ cov A (32 * s + p + pg o) = some (32 * s + p + pg o) := fun z => by
      unfold prB at z
      rw [Bool.and_eq_true, decide_eq_true_eq] at z
      exact ⟨cs_self hws ⟨by omega, by omega⟩, cs_self hws ⟨by omega, by omega⟩⟩
    have hfal : ¬ prB A o (32 * s + p) = true → prB A o (32 * s + p) = false := fun z => by simpa using z
    rw [De_joinTwo_14, if_neg (by rw [zI_lit, zI_le (by omega) (by omega) (by omega) (by omega)]; omega), hf1, bp_some, bnd_ap, zI_add, show (p : Int) + (pg o : Int) = ((p + pg o : Nat) : Int) by omega, hf2, bp_some, bnd_ap]
    cases hc1 : cov A (32 * s + p) with
    | none =>
      rw [show sc σ none = (-1 : Int) from rfl, if_pos (by decide)]
      exact hskip (hfal (fun z => by have := (hself z).1; rw [hc1] at this; cases this))
    | some d =>
      obtain ⟨d1, d2, d3⟩ := cs_some (by omega) hc1
      have bd1 := cr_lt hC d1
      rw [show sc σ (some d) = (σ d : Int) from rfl, if_neg (nlt0 (by omega))]
      cases hc2 : cov A (32 * s + p + pg o) with
      | none =>
        rw [show sc σ none = (-1 : Int) from rfl, if_pos (by decide)]
        exact hskip (hfal (fun z => by have := (hself z).2; rw [hc2] at this; cases this))
      | some u =>
        obtain ⟨u1, u2, u3⟩ := cs_some (by omega) hc2
        have bu1 := cr_lt hC u1
        rw [show sc σ (some u) = (σ u : Int) from rfl, if_neg (nlt0 (by omega)), c_halves h hC d1 u1 ho1 ho2, bp_some, bI_if]
        by_cases k1 : prG A o d u = true
        · have kk := k1
          unfold prG at kk
          rw [Bool.and_eq_true, decide_eq_true_eq] at kk
          have hal1 := (h.2.2.2.1 d d1).2.1
          have hal2 := (h.2.2.2.1 u u1).2.1
          have pd : pgs A d = pg o := by unfold pgs; rw [kk.1.1]
          have pu : pgs A u = pg o := by unfold pgs; rw [kk.1.2.1]
          rw [pd] at hal1 d3
          rw [pu] at hal2 u3
          have hde : d = 32 * s + p := by
            rcases pg_cases (o := o) ho1 (by omega) with ⟨-, e⟩ | ⟨-, e⟩ | ⟨-, e⟩ | ⟨-, e⟩ <;> rw [e] at hal1 d3 hal <;> omega
          have hue : u = 32 * s + p + pg o := by
            rcases pg_cases (o := o) ho1 (by omega) with ⟨-, e⟩ | ⟨-, e⟩ | ⟨-, e⟩ | ⟨-, e⟩ <;> rw [e] at hal2 u3 hal u2 ⊢ <;> omega
          have hpr : prB A o (32 * s + p) = true := by
            rw [← hde]
            have : u = d + pg o := by omega
            rw [this] at k1
            exact k1
          have e : psL A o s (m + 1) p = some (32 * s + p) := by
            show (if prB A o (32 * s + p) = true then some (32 * s + p) else _) = _
            rw [if_pos hpr]
          rw [if_pos k1, e, hde, hue]
        · rw [if_neg k1]
          refine hskip (hfal (fun z => k1 ?_))
          obtain ⟨z1, z2⟩ := hself z
          rw [hc1] at z1
          rw [hc2] at z2
          cases z1
          cases z2
          exact z
theorem m_two_9 {n S : Nat} {A : Ab} {dep : Nat → Nat} {μ : Sl} {b : Nat} {B : Nat → Int} (hb : MB μ b) (h : WF n S A dep) (hM : MRep B A) (h9 : T9 A) (hS : μ 41 3 = zI (S : Int)) {o : Int} (ho1 : 1 ≤ o) (ho2 : o ≤ 3) {s : Nat} (hs : s < 6) (k2 : Int32 → Int32 → Option Int32) : ∀ (m p k : Nat), p + m * (2 * pg o) = S → m < k →
    Mo_pairIn_9 k2 (bst μ b B) k (zI (s : Int)) (zI (o - 1)) (zI (p : Int)) = match psL A o s m p with
      | none => k2 (zI (s : Int)) (zI o)
      | some d => some (zI (d : Int)) := by
  have hpg := pg_pos (o := o) ho1 (by omega)
  have hS32 := h.2.1
  have hsz : Mo_size (bst μ b B) = some (zI (S : Int)) := by
    rw [Mo_size, if_pos (by decide), show ix (3 : Int32) = 3 from rfl, bst_ne _ _ _ (by decide), hS]
  intro m
  induction m with
  | zero =>
    intro p k hm hk
    obtain ⟨c, rfl⟩ : ∃ c, k = c + 1 := ⟨k - 1, by omega⟩
    rw [Mo_pairIn_9, hsz, bp_some, if_pos (by rw [zI_le (by omega) (by omega) (by omega) (by omega)]; omega), bnd_ap, show (1 : Int32) = zI 1 from rfl, zI_add, show o - 1 + 1 = o by omega]
    rfl
  | succ m ih =>
    intro p k hm hk
    obtain ⟨c, rfl⟩ : ∃ c, k = c + 1 := ⟨k - 1, by omega⟩
    rw [Nat.add_mul] at hm
    have h2s : (2 : Int32) <<< (zI (o - 1) &&& 31) = zI ((2 * pg o : Nat) : Int) := by
      have ho : o = 1 ∨ o = 2 ∨ o = 3 := by omega
      rcases ho with rfl | rfl | rfl <;> decide
    have hskip : prB A o (32 * s + p) = false → Mo_pairIn_57 k2 (Mo_pairIn_9 k2 (bst μ b B) c) (bst μ b B) (zI (s : Int)) (zI (o - 1)) (zI (p : Int)) = match psL A o s (m + 1) p with
      | none => k2 (zI (s : Int)) (zI o)
      | some d => some (zI (d : Int)) := fun hp => by
      have e : psL A o s (m + 1) p = psL A o s m (p + 2 * pg o) := by
        show (if prB A o (32 * s + p) = true then some (32 * s + p) else psL A o s m (p + 2 * pg o)) = _
        rw [hp]; rfl
      rw [Mo_pairIn_57, bnd_ap, h2s, zI_add, show (p : Int) + ((2 * pg o : Nat) : Int) = ((p + 2 * pg o : Nat) : Int) by omega, e]
      exact ih (p + 2 * pg o) c (by omega) (by omega)
    have o1 := m_of hb B (k := ((32 * s + p : Nat) : Int)) (by omega) (by omega)
    rw [Int.toNat_natCast, hM.1 _ (by omega)] at o1
    have r0 := MR_0 h hM (32 * s + p) (by omega)
    rw [Mo_pairIn_9, hsz, bp_some, if_neg (by rw [zI_le (by omega) (by omega) (by omega) (by omega)]; omega), show (32 : Int32) = zI 32 from rfl, zI_mul, zI_add, show 32 * (s : Int) + (p : Int) = ((32 * s + p : Nat) : Int) by omega, bnd_ap, show (0 : Int32) + zI ((32 * s + p : Nat) : Int) = zI ((32 * s + p : Nat) : Int) by rw [show (0 : Int32) = zI 0 from rfl, zI_add, Int.zero_add], o1, bp_some, show (1 : Int32) = zI 1 from rfl, zI_add, show o - 1 + 1 = o by omega]
    by_cases k1 : A.1 0 (32 * s + p) = o
    · have hip := m_isPair hb h hM h9 (d := 32 * s + p) (o := o) ho1 ho2 (by omega) k1
      rw [if_pos (by rw [k1]), show zI 1 <<< (zI (o - 1) &&& 31) = zI (pg o : Int) from zI_pg ho1 (by omega), zI_add, show ((32 * s + p : Nat) : Int) + (pg o : Int) = ((32 * s + p + pg o : Nat) : Int) by omega, hip, bp_some, bI_if]
      by_cases k2' : prB A o (32 * s + p) = true
      · have e : psL A o s (m + 1) p = some (32 * s + p) := by
          show (if prB A o (32 * s + p) = true then some (32 * s + p) else _) = _
          rw [if_pos k2']
        rw [if_pos k2', e]
      · rw [if_neg k2']
        exact hskip (by simpa using k2')
    · rw [if_neg (by rw [zI_eq (by omega) (by omega) (by omega) (by omega)]; exact k1)]
      refine hskip ?_
      unfold prB
      rw [decide_eq_false (fun z => k1 z.1)]; rfl
