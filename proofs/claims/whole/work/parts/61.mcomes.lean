/-! ===== the reference: lists, a deed comes ===== -/
def LB (B : Nat → Int) (V : Nat → Prop) (K : Nat → List Nat) : Prop := Lk (fun x => B (768 + x)) (fun x => B (960 + x)) (fun x => B (1344 + x)) (fun x => B (1152 + x)) V K
theorem ls1_rng {V : Nat → Prop} (hV : ∀ x, V x → x < 192) {l : List Nat} (h : ∀ x, x ∈ l → V x) : 0 ≤ ls1 l ∧ ls1 l ≤ 192 := by
  refine ⟨ls1_nn l, ?_⟩
  rcases List.eq_nil_or_concat l with rfl | ⟨m, x, rfl⟩
  · simp [ls1]
  · have := hV x (h x (by simp))
    simp only [List.concat_eq_append, ls1_snoc]; omega
theorem hd1_rng {V : Nat → Prop} (hV : ∀ x, V x → x < 192) {l : List Nat} (h : ∀ x, x ∈ l → V x) : 0 ≤ hd1 l ∧ hd1 l ≤ 192 := by
  refine ⟨hd1_nn l, ?_⟩
  cases l with
  | nil => simp [hd1]
  | cons x l =>
    have := hV x (h x (by simp))
    rw [hd1_cons]; omega
theorem lb_app {B : Nat → Int} {V : Nat → Prop} {K : Nat → List Nat} (hV : ∀ x, V x → x < 192) (hK : KV V K) (h : LB B V K) {g c : Nat} (hg : V g) (hc : c < 192) (hcn : ∀ x, V x → c ∉ K x) :
    LB (lnk (lnk B (B (960 + g)) ((c : Int) + 1) ((g : Int) + 1)) ((c : Int) + 1) 0 ((g : Int) + 1)) V (upK K g (K g ++ [c])) := by
  have hL := (h g hg).2.1
  have hr := ls1_rng hV (hK.1 g hg).2
  obtain ⟨e1, e2, e3, e4, e5⟩ := lnk_app (B := B) (c := c) (g := g) (l := B (960 + g)) hc (hV g hg) (by rw [show B (960 + g) = ls1 (K g) from hL]; exact hr.1) (by rw [show B (960 + g) = ls1 (K g) from hL]; exact hr.2) (fun e => by
    rw [show B (960 + g) = ls1 (K g) from hL] at e
    exact hcn g hg (ls1_in e))
  exact Lk_app hK h hg hcn (fun x hx => e1 x (hV x hx)) (fun x hx => e2 x (hV x hx)) (fun x hx => e3 x (hx.elim (hV x) (fun e => e ▸ hc))) (fun x hx => e4 x (hx.elim (hV x) (fun e => e ▸ hc)))
theorem lb_take {B : Nat → Int} {V : Nat → Prop} {K : Nat → List Nat} (hV : ∀ x, V x → x < 192) (hK : KV V K) (h : LB B V K) {g c : Nat} {a b : List Nat} (hg : V g) (hc : K g = a ++ c :: b) :
    LB (lnk B (B (1152 + c)) (B (1344 + c)) ((g : Int) + 1)) V (upK K g (a ++ b)) := by
  obtain ⟨n1, n2⟩ := (h g hg).2.2 a c b hc
  have hk := (hK.1 g hg).2
  rw [hc] at hk
  have r1 := ls1_rng hV (l := a) (fun x hx => hk x (by simp [hx]))
  have r2 := hd1_rng hV (l := b) (fun x hx => hk x (by simp [hx]))
  have n1' : B (1344 + c) = hd1 b := n1
  have n2' : B (1152 + c) = ls1 a := n2
  obtain ⟨e1, e2, e3, e4, e5⟩ := lnk_take (B := B) (g := g) (p := B (1152 + c)) (n := B (1344 + c)) (hV g hg) (by rw [n2']; exact r1.1) (by rw [n2']; exact r1.2) (by rw [n1']; exact r2.1) (by rw [n1']; exact r2.2)
  exact Lk_take hK h hg hc (fun x hx => e1 x (hV x hx)) (fun x hx => e2 x (hV x hx)) (fun x hx _ => e3 x (hV x hx)) (fun x hx _ => e4 x (hV x hx))
theorem lb_ins {B : Nat → Int} {V : Nat → Prop} {K : Nat → List Nat} (hV : ∀ x, V x → x < 192) (hK : KV V K) (h : LB B V K) {g c u : Nat} {a b : List Nat} (hg : V g) (hc : K g = a ++ c :: b) (hu : u < 192) (huc : u ≠ c) (hun : ∀ x, V x → u ∉ K x) :
    LB (lnk (lnk B ((c : Int) + 1) ((u : Int) + 1) ((g : Int) + 1)) ((u : Int) + 1) (B (1344 + c)) ((g : Int) + 1)) V (upK K g (a ++ c :: u :: b)) := by
  obtain ⟨n1, n2⟩ := (h g hg).2.2 a c b hc
  have hk := (hK.1 g hg).2
  have hug := hun g hg
  rw [hc] at hk hug
  have r2 := hd1_rng hV (l := b) (fun x hx => hk x (by simp [hx]))
  have n1' : B (1344 + c) = hd1 b := n1
  obtain ⟨e1, e2, e3, e4, e5⟩ := lnk_ins (B := B) (d := c) (u := u) (g := g) (n := B (1344 + c)) (hV c (hk c (by simp))) hu (hV g hg) (by rw [n1']; exact r2.1) (by rw [n1']; exact r2.2) huc (fun e => by
    rw [n1'] at e; have := hd1_mem e; exact hug (by simp [this]))
  exact Lk_ins hK h hg hc hun (fun x hx => e1 x (hV x hx)) (fun x hx => e2 x (hV x hx)) (fun x hx => e3 x (hx.elim (hV x) (fun e => e ▸ hu))) (fun x hx => e4 x (hx.elim (hV x) (fun e => e ▸ hu)))
theorem Lv_lt {A : Ab} : ∀ x, Lv A x → x < 192 := fun _ h => h.1
def wdc (d : Nat) : Nat := 1920 + 4 * (d / 32) + d % 32 / 8
theorem m_widens {μ : Sl} {b : Nat} (hb : MB μ b) (B : Nat → Int) {d : Nat} (hd : d < 192) (h1 : 0 ≤ B d) (h2 : B d ≤ 4) : Mo_widens (bst μ b B) (zI (d : Int)) = some ((), bst μ b (if 1 < B d then upB B (wdc d) 1 else B)) := by
  unfold Mo_widens
  have e0 : zI 0 + zI (d : Int) = zI (d : Int) := by rw [zI_add]; simp
  have hof := m_of hb B (k := (d : Int)) (by omega) (by omega)
  simp only [zI_lit, e0, hof, bp_some, Int.toNat_natCast]
  by_cases q : 1 < B d
  · rw [if_pos q]
    have ed : (d : Int) - (d : Int) / 32 * 32 = ((d % 32 : Nat) : Int) := by omega
    have hm : (d : Int) / 32 = ((d / 32 : Nat) : Int) := by omega
    simp (disch := omega) only [zI_le, if_neg, zI_eq, if_pos, zI_div, zI_mul, zI_sub, ed, zI_add, m_lay hb, bd_some]
    congr 4
  · rw [if_neg q]
    simp (disch := omega) only [zI_le, if_pos]
def cm1 (B : Nat → Int) (d : Nat) (o f r g a : Int) : Nat → Int :=
  upB (upB (upB (upB (upB (upB (upB (upB (upB (upB B d o) (192 + d) f) (384 + d) r) (576 + d) g) (768 + d) 0) (960 + d) 0) (1152 + d) 0) (1344 + d) 0) (1536 + d) a) (1728 + d) 0
def cm2 (B : Nat → Int) (d : Nat) (o f r g a : Int) : Nat → Int := if 1 < o then upB (cm1 B d o f r g a) (wdc d) 1 else cm1 B d o f r g a
def cms (B : Nat → Int) (d : Nat) (o f r g a : Int) : Nat → Int :=
  if 0 < g then lnk (lnk (cm2 B d o f r g a) (cm2 B d o f r g a (960 + (g.toNat - 1))) ((d : Int) + 1) g) ((d : Int) + 1) 0 g else cm2 B d o f r g a
theorem cm1_d {B : Nat → Int} {d : Nat} {o f r g a : Int} (hd : d < 192) : cm1 B d o f r g a d = o := by
  unfold cm1; simp only [upB_ap]
  simp (disch := omega) only [if_neg, if_pos, if_true]
theorem m_comes {μ : Sl} {b : Nat} (hb : MB μ b) (B : Nat → Int) {d : Nat} {o f r g a : Int} (hd : d < 192) (ho1 : 0 ≤ o) (ho2 : o ≤ 4) (hg0 : 0 ≤ g) (hg1 : g ≤ 192) (hl : 0 < g → 0 ≤ cm2 B d o f r g a (960 + (g.toNat - 1)) ∧ cm2 B d o f r g a (960 + (g.toNat - 1)) ≤ 192) :
    Mo_comes (bst μ b B) (zI (d : Int)) (zI (o - 1)) (zI f) (zI r) (zI (g - 1)) (zI a) = some ((), bst μ b (cms B d o f r g a)) := by
  have hw := m_widens hb (cm1 B d o f r g a) hd (by rw [cm1_d hd]; exact ho1) (by rw [cm1_d hd]; exact ho2)
  rw [cm1_d hd] at hw
  have e1 : ∀ k : Nat, ((k : Int) + (d : Int)).toNat = k + d := fun k => by omega
  have hc1 : upB (upB (upB (upB (upB (upB (upB (upB (upB (upB B (0 + (d : Int)).toNat (o - 1 + 1)) (192 + (d : Int)).toNat f) (384 + (d : Int)).toNat r) (576 + (d : Int)).toNat (g - 1 + 1)) (768 + (d : Int)).toNat 0) (960 + (d : Int)).toNat 0) (1152 + (d : Int)).toNat 0) (1344 + (d : Int)).toNat 0) (1536 + (d : Int)).toNat a) (1728 + (d : Int)).toNat 0 = cm1 B d o f r g a := by
    unfold cm1
    rw [show (0 + (d : Int)).toNat = d by omega, show (192 + (d : Int)).toNat = 192 + d by omega, show (384 + (d : Int)).toNat = 384 + d by omega, show (576 + (d : Int)).toNat = 576 + d by omega, show (768 + (d : Int)).toNat = 768 + d by omega, show (960 + (d : Int)).toNat = 960 + d by omega, show (1152 + (d : Int)).toNat = 1152 + d by omega, show (1344 + (d : Int)).toNat = 1344 + d by omega, show (1536 + (d : Int)).toNat = 1536 + d by omega, show (1728 + (d : Int)).toNat = 1728 + d by omega, show o - 1 + 1 = o by omega, show g - 1 + 1 = g by omega]
  unfold Mo_comes
  simp (disch := omega) only [zI_lit, zI_add, m_lay hb, bd_some, hc1, hw, zI_le]
  show (if 0 ≤ g - 1 then _ else _) = _
  unfold cms
  by_cases q : 0 < g
  · obtain ⟨l1, l2⟩ := hl q
    rw [if_pos (by omega), if_pos q]
    have hof : Mo_of (bst μ b (cm2 B d o f r g a)) (zI (960 + (g - 1))) = some (zI (cm2 B d o f r g a (960 + (g.toNat - 1)))) := by
      rw [m_of hb _ (by omega) (by omega)]; congr 3; omega
    have hof' : Mo_of (bst μ b (if 1 < o then upB (cm1 B d o f r g a) (wdc d) 1 else cm1 B d o f r g a)) (zI (960 + (g - 1))) = some (zI (cm2 B d o f r g a (960 + (g.toNat - 1)))) := hof
    simp only [hof', bp_some, bnd_ap, zI_sub]
    have hlk := m_linked hb (cm2 B d o f r g a) (a := cm2 B d o f r g a (960 + (g.toNat - 1))) (c := (d : Int) + 1) (g := g) l1 l2 (by omega) (by omega) hg0 hg1
    rw [show (d : Int) + 1 - 1 = (d : Int) by omega] at hlk
    have hlk' : Mo_linked (bst μ b (if 1 < o then upB (cm1 B d o f r g a) (wdc d) 1 else cm1 B d o f r g a)) (zI (cm2 B d o f r g a (960 + (g.toNat - 1)) - 1)) (zI (d : Int)) (zI (g - 1)) = _ := hlk
    have hlk2 := m_linked hb (lnk (cm2 B d o f r g a) (cm2 B d o f r g a (960 + (g.toNat - 1))) ((d : Int) + 1) g) (a := (d : Int) + 1) (c := 0) (g := g) (by omega) (by omega) (by omega) (by omega) hg0 hg1
    rw [show (d : Int) + 1 - 1 = (d : Int) by omega, show (0 : Int) - 1 = -1 by omega] at hlk2
    simp only [hlk', bd_some, zI_neg, hlk2]
  · rw [if_neg (by omega), if_neg q]; rfl
theorem cm2_cell {B : Nat → Int} {d : Nat} {o f r g a : Int} (hd : d < 192) : (∀ j x, x < 192 → j < 10 → x ≠ d → cm2 B d o f r g a (192 * j + x) = B (192 * j + x)) ∧ cm2 B d o f r g a d = o ∧ cm2 B d o f r g a (192 + d) = f ∧ cm2 B d o f r g a (384 + d) = r ∧ cm2 B d o f r g a (576 + d) = g ∧ cm2 B d o f r g a (768 + d) = 0 ∧ cm2 B d o f r g a (960 + d) = 0 ∧ cm2 B d o f r g a (1152 + d) = 0 ∧ cm2 B d o f r g a (1344 + d) = 0 ∧ cm2 B d o f r g a (1536 + d) = a ∧ cm2 B d o f r g a (1728 + d) = 0 ∧ ∀ k, 1920 ≤ k → cm2 B d o f r g a k = if 1 < o ∧ k = wdc d then 1 else B k := by
  have hw : 1920 ≤ wdc d := by unfold wdc; omega
  have h1 : ∀ k, k < 1920 → cm2 B d o f r g a k = cm1 B d o f r g a k := fun k hk => by
    unfold cm2; split
    · rw [upB_ap, if_neg (by omega)]
    · rfl
  refine ⟨fun j x hx hj hxd => ?_, ?_, ?_, ?_, ?_, ?_, ?_, ?_, ?_, ?_, ?_, fun k hk => ?_⟩
  · rw [h1 _ (by omega)]; unfold cm1; simp only [upB_ap]; simp (disch := omega) only [if_neg]
  · rw [h1 _ (by omega), cm1_d hd]
  · rw [h1 _ (by omega)]; unfold cm1; simp only [upB_ap]; simp (disch := omega) only [if_neg, if_true]
  · rw [h1 _ (by omega)]; unfold cm1; simp only [upB_ap]; simp (disch := omega) only [if_neg, if_true]
  · rw [h1 _ (by omega)]; unfold cm1; simp only [upB_ap]; simp (disch := omega) only [if_neg, if_true]
  · rw [h1 _ (by omega)]; unfold cm1; simp only [upB_ap]; simp (disch := omega) only [if_neg, if_true]
  · rw [h1 _ (by omega)]; unfold cm1; simp only [upB_ap]; simp (disch := omega) only [if_neg, if_true]
  · rw [h1 _ (by omega)]; unfold cm1; simp only [upB_ap]; simp (disch := omega) only [if_neg, if_true]
  · rw [h1 _ (by omega)]; unfold cm1; simp only [upB_ap]; simp (disch := omega) only [if_neg, if_true]
  · rw [h1 _ (by omega)]; unfold cm1; simp only [upB_ap]; simp (disch := omega) only [if_neg, if_true]
  · rw [h1 _ (by omega)]; unfold cm1; simp only [upB_ap]; simp (disch := omega) only [if_neg, if_true]
  · have hc : cm1 B d o f r g a k = B k := by unfold cm1; simp only [upB_ap]; simp (disch := omega) only [if_neg]
    unfold cm2
    by_cases q : 1 < o
    · rw [if_pos q, upB_ap, hc]
      by_cases q2 : k = wdc d
      · rw [if_pos q2, if_pos ⟨q, q2⟩]
      · rw [if_neg q2, if_neg (fun z => q2 z.2)]
    · rw [if_neg q, if_neg (fun z => q z.1), hc]
theorem mr_add {B : Nat → Int} {A : Ab} {d : Nat} {o f r g a : Int} (hM : MRep B A) (hKW : KW A) (hd : d < 192) (hnl : ¬ Lv A d) (ho1 : 1 ≤ o) (hg : g = 0 ∨ ∃ x : Nat, g = (x : Int) + 1 ∧ Lv A x) :
    MRep (cms B d o f r g a) (aAdd A d o f r g a) ∧ (∀ k, 1920 ≤ k → cms B d o f r g a k = if 1 < o ∧ k = wdc d then 1 else B k) ∧ (0 < g → 0 ≤ cm2 B d o f r g a (960 + (g.toNat - 1)) ∧ cm2 B d o f r g a (960 + (g.toNat - 1)) ≤ 192) := by
  obtain ⟨c0, c1, c2, c3, c4, c5, c6, c7, c8, c9, c10, c11⟩ := cm2_cell (B := B) (o := o) (f := f) (r := r) (g := g) (a := a) hd
  have en : ∀ k x, x ≠ d → (aAdd A d o f r g a).1 k x = A.1 k x := fun k x hx => if_neg hx
  have el : ∀ x, Lv (aAdd A d o f r g a) x ↔ x = d ∨ Lv A x := fun x => by
    by_cases q : x = d
    · subst q; unfold Lv; simp [aAdd]; exact ⟨hd, by omega⟩
    · unfold Lv; rw [en 0 x q]; simp [q]
  obtain ⟨m1, m2, m3, m4⟩ := hM
  -- without its giver
  have hlb : LB (cm2 B d o f r g a) (fun x => x = d ∨ Lv A x) (fun x => if x = d then [] else A.2 x) := by
    intro x hx
    dsimp only
    by_cases q : x = d
    · subst q
      rw [if_pos rfl, c5, c6]
      exact ⟨rfl, rfl, fun l1 y l2 e => by simp at e⟩
    · have hx1 := hx.resolve_left q
      obtain ⟨f1, f2, f3⟩ := m3 x hx1
      have z1 := c0 4 x hx1.1 (by decide) q
      have z2 := c0 5 x hx1.1 (by decide) q
      rw [if_neg q, show 768 + x = 192 * 4 + x by omega, z1, show 960 + x = 192 * 5 + x by omega, z2]
      refine ⟨f1, f2, fun l1 y l2 e => ?_⟩
      have hy : Lv A y := (hKW.1.1 x hx1).2 y (by rw [e]; simp)
      have qy : y ≠ d := fun z => hnl (z ▸ hy)
      have z3 := c0 7 y hy.1 (by decide) qy
      have z4 := c0 6 y hy.1 (by decide) qy
      rw [show 1344 + y = 192 * 7 + y by omega, z3, show 1152 + y = 192 * 6 + y by omega, z4]
      exact f3 l1 y l2 e
  have hkv : KV (fun x => x = d ∨ Lv A x) (fun x => if x = d then [] else A.2 x) := by
    refine ⟨fun x hx => ?_, fun x y z hx hy h1 h2 => ?_⟩
    · dsimp only
      by_cases q : x = d
      · rw [if_pos q]; exact ⟨List.nodup_nil, fun y hy => by cases hy⟩
      · rw [if_neg q]; exact ⟨(hKW.1.1 x (hx.resolve_left q)).1, fun y hy => .inr ((hKW.1.1 x (hx.resolve_left q)).2 y hy)⟩
    · dsimp only at h1 h2
      by_cases q : x = d
      · rw [if_pos q] at h1; cases h1
      · by_cases q2 : y = d
        · rw [if_pos q2] at h2; cases h2
        · rw [if_neg q] at h1; rw [if_neg q2] at h2
          exact hKW.1.2 x y z (hx.resolve_left q) (hy.resolve_left q2) h1 h2
  have hV : ∀ x, (x = d ∨ Lv A x) → x < 192 := fun x hx => hx.elim (fun e => e ▸ hd) (fun z => z.1)
  have hcn : ∀ x, (x = d ∨ Lv A x) → d ∉ (if x = d then [] else A.2 x) := fun x hx hm => by
    by_cases q : x = d
    · rw [if_pos q] at hm; cases hm
    · rw [if_neg q] at hm; exact hnl ((hKW.1.1 x (hx.resolve_left q)).2 d hm)
  -- the fields that no link touches
  have hfin : ∀ B' : Nat → Int, (∀ k, k < 768 ∨ 1536 ≤ k → B' k = cm2 B d o f r g a k) → LB B' (fun x => x = d ∨ Lv A x) (aAdd A d o f r g a).2 → (∀ x, (x = d ∨ Lv A x) → (aAdd A d o f r g a).1 3 x = 0 → B' (1344 + x) = 0 ∧ B' (1152 + x) = 0) → MRep B' (aAdd A d o f r g a) ∧ ∀ k, 1920 ≤ k → B' k = if 1 < o ∧ k = wdc d then 1 else B k := fun B' hB hL h0 => by
    refine ⟨⟨fun x hx => ?_, fun x hx => ?_, fun x hx => hL x ((el x).mp hx), fun x hx => h0 x ((el x).mp hx)⟩, fun k hk => by rw [hB k (by omega)]; exact c11 k hk⟩
    · rw [hB x (by omega)]
      by_cases q : x = d
      · subst q; rw [c1]; simp [aAdd]
      · have := c0 0 x hx (by decide) q
        rw [show 192 * 0 + x = x by omega] at this
        rw [this, en 0 x q]; exact m1 x hx
    · have hx192 := hV x ((el x).mp hx)
      rw [hB (192 + x) (by omega), hB (384 + x) (by omega), hB (576 + x) (by omega), hB (1536 + x) (by omega), hB (1728 + x) (by omega)]
      by_cases q : x = d
      · subst q; rw [c2, c3, c4, c9, c10]; simp [aAdd]
      · have z1 := c0 1 x hx192 (by decide) q
        have z2 := c0 2 x hx192 (by decide) q
        have z3 := c0 3 x hx192 (by decide) q
        have z8 := c0 8 x hx192 (by decide) q
        have z9 := c0 9 x hx192 (by decide) q
        rw [show 192 * 1 + x = 192 + x by omega] at z1
        rw [show 192 * 2 + x = 384 + x by omega] at z2
        rw [show 192 * 3 + x = 576 + x by omega] at z3
        rw [show 192 * 8 + x = 1536 + x by omega] at z8
        rw [show 192 * 9 + x = 1728 + x by omega] at z9
        rw [z1, z2, z3, z8, z9, en 1 x q, en 2 x q, en 3 x q, en 8 x q, en 9 x q]
        exact m2 x (((el x).mp hx).resolve_left q)
  have hroot : ∀ x, (x = d ∨ Lv A x) → x ≠ d → A.1 3 x = 0 → cm2 B d o f r g a (1344 + x) = 0 ∧ cm2 B d o f r g a (1152 + x) = 0 := fun x hx q h0 => by
    have z3 := c0 7 x (hV x hx) (by decide) q
    have z4 := c0 6 x (hV x hx) (by decide) q
    rw [show 1344 + x = 192 * 7 + x by omega, z3, show 1152 + x = 192 * 6 + x by omega, z4]
    exact m4 x (hx.resolve_left q) h0
  rcases hg with rfl | ⟨y, rfl, hy⟩
  · have e : cms B d o f r 0 a = cm2 B d o f r 0 a := by unfold cms; rw [if_neg (by omega)]
    rw [e]
    have hK0 : (aAdd A d o f r 0 a).2 = fun x => if x = d then [] else A.2 x := by
      funext x; show (if x = d then [] else if (x : Int) + 1 = 0 then A.2 x ++ [d] else A.2 x) = _
      by_cases q : x = d
      · rw [if_pos q, if_pos q]
      · rw [if_neg q, if_neg q, if_neg (by omega)]
    obtain ⟨r1, r2⟩ := hfin _ (fun _ _ => rfl) (by rw [hK0]; exact hlb) (fun x hx h0 => by
      by_cases q : x = d
      · subst q; exact ⟨c8, c7⟩
      · rw [en 3 x q] at h0; exact hroot x hx q h0)
    exact ⟨r1, r2, fun z => by omega⟩
  · have hyd : y ≠ d := fun z => hnl (z ▸ hy)
    have hgt : ((y : Int) + 1).toNat - 1 = y := by omega
    have e : cms B d o f r ((y : Int) + 1) a = lnk (lnk (cm2 B d o f r ((y : Int) + 1) a) (cm2 B d o f r ((y : Int) + 1) a (960 + y)) ((d : Int) + 1) ((y : Int) + 1)) ((d : Int) + 1) 0 ((y : Int) + 1) := by
      unfold cms; rw [if_pos (by omega), hgt]
    have happ := lb_app hV hkv hlb (g := y) (c := d) (.inr hy) hd hcn
    have hLy := (hlb y (.inr hy)).2.1
    have hrng := ls1_rng hV (hkv.1 y (.inr hy)).2
    have hL' : cm2 B d o f r ((y : Int) + 1) a (960 + y) = ls1 (if y = d then [] else A.2 y) := hLy
    obtain ⟨e1, e2, e3, e4, e5⟩ := lnk_app (B := cm2 B d o f r ((y : Int) + 1) a) (c := d) (g := y) (l := cm2 B d o f r ((y : Int) + 1) a (960 + y)) hd hy.1 (by rw [hL']; exact hrng.1) (by rw [hL']; exact hrng.2) (fun z => by
      rw [hL'] at z
      exact hcn y (.inr hy) (ls1_in z))
    rw [e]
    have hK1 : (aAdd A d o f r ((y : Int) + 1) a).2 = upK (fun x => if x = d then [] else A.2 x) y ((if y = d then [] else A.2 y) ++ [d]) := by
      funext x
      show (if x = d then [] else if (x : Int) + 1 = (y : Int) + 1 then A.2 x ++ [d] else A.2 x) = if x = y then (if y = d then [] else A.2 y) ++ [d] else if x = d then [] else A.2 x
      by_cases q : x = d
      · subst q; rw [if_pos rfl, if_neg (Ne.symm hyd), if_pos rfl]
      · by_cases q2 : x = y
        · subst q2; rw [if_neg q, if_pos rfl, if_pos rfl, if_neg q]
        · rw [if_neg q, if_neg (by omega), if_neg q2, if_neg q]
    obtain ⟨r1, r2⟩ := hfin _ e5 (by rw [hK1]; exact happ) (fun x hx h0 => by
      by_cases q : x = d
      · subst q; have : (aAdd A x o f r ((y : Int) + 1) a).1 3 x = (y : Int) + 1 := by simp [aAdd]
        omega
      · rw [en 3 x q] at h0
        obtain ⟨a1, a2⟩ := hroot x hx q h0
        rw [e3 x (hV x hx), e4 x (hV x hx), if_neg q, if_neg q, if_neg]
        · exact ⟨a1, a2⟩
        · intro z
          rw [hL', if_neg hyd] at z
          exact root_not hKW h0 y hy (ls1_in z.symm))
    refine ⟨r1, r2, fun _ => ?_⟩
    rw [hgt, hL']; exact hrng
