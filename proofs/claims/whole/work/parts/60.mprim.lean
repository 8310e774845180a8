/-! ===== the reference's bank of a world ===== -/
def bst (μ : Sl) (b : Nat) (B : Nat → Int) : Sl := fun a i => if a = 45 ∧ 2227 * b ≤ i ∧ i < 2227 * b + 2227 then zI (B (i - 2227 * b)) else μ a i
def upB (B : Nat → Int) (k : Nat) (v : Int) : Nat → Int := fun i => if i = k then v else B i
theorem upB_ap (B : Nat → Int) (k : Nat) (v : Int) (i : Nat) : upB B k v i = if i = k then v else B i := rfl
def MB (μ : Sl) (b : Nat) : Prop := μ 34 25 = zI (b : Int) ∧ b ≤ 21
theorem bst_ne (μ : Sl) (b : Nat) (B : Nat → Int) {a i : Nat} (h : a ≠ 45) : bst μ b B a i = μ a i := if_neg (fun z => h z.1)
theorem bst_wr {μ : Sl} {b : Nat} {B : Nat → Int} {a i : Nat} {v : Int32} (h : a ≠ 45) : wr (bst μ b B) a i v = bst (wr μ a i v) b B := by
  funext c j
  unfold wr bst
  by_cases q : c = 45
  · rw [if_neg (by omega)]
    by_cases r : c = 45 ∧ 2227 * b ≤ j ∧ j < 2227 * b + 2227
    · rw [if_pos r, if_pos r]
    · rw [if_neg r, if_neg r]; dsimp only; rw [if_neg (by omega)]
  · rw [if_neg (c := c = 45 ∧ _) (by omega), if_neg (c := c = 45 ∧ _) (by omega)]
theorem m_of {μ : Sl} {b : Nat} (hb : MB μ b) (B : Nat → Int) {k : Int} (h1 : 0 ≤ k) (h2 : k < 2227) : Mo_of (bst μ b B) (zI k) = some (zI (B k.toNat)) := by
  have hb2 := hb.2
  have e : bst μ b B 34 25 = zI (b : Int) := by rw [bst_ne _ _ _ (by decide)]; exact hb.1
  simp (disch := omega) only [Mo_of, e, zI_lit, zI_mul, zI_add, zI_inb, if_pos, zI_ix]
  congr 1
  unfold bst
  rw [if_pos ⟨rfl, by omega, by omega⟩]
  congr 2; omega
theorem m_lay {μ : Sl} {b : Nat} (hb : MB μ b) (B : Nat → Int) {k : Int} (v : Int) (h1 : 0 ≤ k) (h2 : k < 2227) : Mo_lay (bst μ b B) (zI k) (zI v) = some ((), bst μ b (upB B k.toNat v)) := by
  have hb2 := hb.2
  have e : bst μ b B 34 25 = zI (b : Int) := by rw [bst_ne _ _ _ (by decide)]; exact hb.1
  simp (disch := omega) only [Mo_lay, e, zI_lit, zI_mul, zI_add, zI_inb, if_pos, zI_ix, bnd_ap]
  congr 1; congr 1
  funext c j
  unfold wr bst upB
  by_cases q : c = 45 ∧ j = (2227 * (b : Int) + k).toNat
  · rw [if_pos q, if_pos ⟨q.1, by omega, by omega⟩, if_pos (by omega)]
  · rw [if_neg q]
    by_cases r : c = 45 ∧ 2227 * b ≤ j ∧ j < 2227 * b + 2227
    · rw [if_pos r, if_pos r, if_neg (by omega)]
    · rw [if_neg r, if_neg r]
theorem m_more {μ : Sl} {b : Nat} (hb : MB μ b) (B : Nat → Int) {k : Int} (h1 : 0 ≤ k) (h2 : k < 2227) : Mo_more (bst μ b B) (zI k) = some ((), bst μ b (upB B k.toNat (B k.toNat + 1))) := by
  simp only [Mo_more, m_of hb B h1 h2, bp_some, zI_lit, zI_add, m_lay hb B _ h1 h2, bd_some]
def lnk (B : Nat → Int) (a c g : Int) : Nat → Int :=
  let B1 := if 0 < a then upB B (1344 + (a.toNat - 1)) c else if 0 < g then upB B (768 + (g.toNat - 1)) c else B
  if 0 < c then upB B1 (1152 + (c.toNat - 1)) a else if 0 < g then upB B1 (960 + (g.toNat - 1)) a else B1
theorem m_linked35 {μ : Sl} {b : Nat} (hb : MB μ b) (B : Nat → Int) {a c g : Int} (ha : 0 ≤ a) (ha2 : a ≤ 192) (hc : 0 ≤ c) (hc2 : c ≤ 192) (hg : 0 ≤ g) (hg2 : g ≤ 192) :
    Mo_linked_35 (zI (a - 1)) (zI (c - 1)) (zI (g - 1)) (bst μ b B) = some ((), bst μ b (if 0 < c then upB B (1152 + (c.toNat - 1)) a else if 0 < g then upB B (960 + (g.toNat - 1)) a else B)) := by
  unfold Mo_linked_35
  by_cases h1 : 0 < c
  · rw [if_pos h1]
    simp (disch := omega) only [zI_lit, zI_lt, if_neg, zI_add, m_lay hb, bd_some]
    rw [show (1152 + (c - 1)).toNat = 1152 + (c.toNat - 1) by omega, show a - 1 + 1 = a by omega]
  · rw [if_neg h1]
    by_cases h2 : 0 < g
    · rw [if_pos h2]
      simp (disch := omega) only [zI_lit, zI_lt, if_neg, if_pos, zI_add, m_lay hb, bd_some]
      rw [show (960 + (g - 1)).toNat = 960 + (g.toNat - 1) by omega, show a - 1 + 1 = a by omega]
    · rw [if_neg h2]
      simp (disch := omega) only [zI_lit, zI_lt, if_pos]
theorem m_linked {μ : Sl} {b : Nat} (hb : MB μ b) (B : Nat → Int) {a c g : Int} (ha : 0 ≤ a) (ha2 : a ≤ 192) (hc : 0 ≤ c) (hc2 : c ≤ 192) (hg : 0 ≤ g) (hg2 : g ≤ 192) :
    Mo_linked (bst μ b B) (zI (a - 1)) (zI (c - 1)) (zI (g - 1)) = some ((), bst μ b (lnk B a c g)) := by
  unfold Mo_linked lnk
  by_cases h1 : 0 < a
  · simp (disch := omega) only [zI_lit, zI_lt, if_neg, if_pos, zI_add, m_lay hb, bd_some]
    rw [m_linked35 hb _ ha ha2 hc hc2 hg hg2, show (1344 + (a - 1)).toNat = 1344 + (a.toNat - 1) by omega, show c - 1 + 1 = c by omega]
  · by_cases h2 : 0 < g
    · simp (disch := omega) only [zI_lit, zI_lt, if_neg, if_pos, zI_add, m_lay hb, bd_some]
      rw [m_linked35 hb _ ha ha2 hc hc2 hg hg2, show (768 + (g - 1)).toNat = 768 + (g.toNat - 1) by omega, show c - 1 + 1 = c by omega]
      simp only [if_pos h2]
    · simp (disch := omega) only [zI_lit, zI_lt, if_pos, if_neg]
      rw [m_linked35 hb _ ha ha2 hc hc2 hg hg2]
      simp only [if_neg h2]
/-- the bank holds a forest -/
def MRep (B : Nat → Int) (A : Ab) : Prop :=
  (∀ d, d < 192 → B d = A.1 0 d) ∧ (∀ d, Lv A d → B (192 + d) = A.1 1 d ∧ B (384 + d) = A.1 2 d ∧ B (576 + d) = A.1 3 d ∧ B (1536 + d) = A.1 8 d ∧ B (1728 + d) = A.1 9 d) ∧
  Lk (fun x => B (768 + x)) (fun x => B (960 + x)) (fun x => B (1344 + x)) (fun x => B (1152 + x)) (Lv A) A.2 ∧ ∀ d, Lv A d → A.1 3 d = 0 → B (1344 + d) = 0 ∧ B (1152 + d) = 0
theorem lnk_app {B : Nat → Int} {c g : Nat} {l : Int} (hc : c < 192) (hg : g < 192) (hl0 : 0 ≤ l) (hl1 : l ≤ 192) (hlc : l ≠ (c : Int) + 1) :
    (∀ x, x < 192 → lnk (lnk B l ((c : Int) + 1) ((g : Int) + 1)) ((c : Int) + 1) 0 ((g : Int) + 1) (768 + x) = if x = g ∧ l = 0 then (c : Int) + 1 else B (768 + x)) ∧
    (∀ x, x < 192 → lnk (lnk B l ((c : Int) + 1) ((g : Int) + 1)) ((c : Int) + 1) 0 ((g : Int) + 1) (960 + x) = if x = g then (c : Int) + 1 else B (960 + x)) ∧
    (∀ x, x < 192 → lnk (lnk B l ((c : Int) + 1) ((g : Int) + 1)) ((c : Int) + 1) 0 ((g : Int) + 1) (1344 + x) = if x = c then 0 else if (x : Int) + 1 = l then (c : Int) + 1 else B (1344 + x)) ∧
    (∀ x, x < 192 → lnk (lnk B l ((c : Int) + 1) ((g : Int) + 1)) ((c : Int) + 1) 0 ((g : Int) + 1) (1152 + x) = if x = c then l else B (1152 + x)) ∧
    ∀ k, k < 768 ∨ 1536 ≤ k → lnk (lnk B l ((c : Int) + 1) ((g : Int) + 1)) ((c : Int) + 1) 0 ((g : Int) + 1) k = B k := by
  have hct : ((c : Int) + 1).toNat - 1 = c := by omega
  have hgt : ((g : Int) + 1).toNat - 1 = g := by omega
  simp (disch := omega) only [lnk, if_pos, if_neg, hct, hgt]
  by_cases h0 : 0 < l
  · simp only [if_pos h0]
    refine ⟨fun x hx => ?_, fun x hx => ?_, fun x hx => ?_, fun x hx => ?_, fun k hk => ?_⟩ <;> simp only [upB_ap] <;> grind
  · have hl : l = 0 := by omega
    subst hl
    refine ⟨fun x hx => ?_, fun x hx => ?_, fun x hx => ?_, fun x hx => ?_, fun k hk => ?_⟩ <;> simp only [if_neg h0, upB_ap] <;> grind
theorem lnk_take {B : Nat → Int} {g : Nat} {p n : Int} (hg : g < 192) (hp0 : 0 ≤ p) (hp1 : p ≤ 192) (hn0 : 0 ≤ n) (hn1 : n ≤ 192) :
    (∀ x, x < 192 → lnk B p n ((g : Int) + 1) (768 + x) = if x = g ∧ p = 0 then n else B (768 + x)) ∧
    (∀ x, x < 192 → lnk B p n ((g : Int) + 1) (960 + x) = if x = g ∧ n = 0 then p else B (960 + x)) ∧
    (∀ x, x < 192 → lnk B p n ((g : Int) + 1) (1344 + x) = if (x : Int) + 1 = p then n else B (1344 + x)) ∧
    (∀ x, x < 192 → lnk B p n ((g : Int) + 1) (1152 + x) = if (x : Int) + 1 = n then p else B (1152 + x)) ∧
    ∀ k, k < 768 ∨ 1536 ≤ k → lnk B p n ((g : Int) + 1) k = B k := by
  have hgt : ((g : Int) + 1).toNat - 1 = g := by omega
  simp (disch := omega) only [lnk, if_pos (show 0 < (g : Int) + 1 by omega), hgt]
  by_cases h0 : 0 < p <;> by_cases h1 : 0 < n
  · simp only [if_pos h0, if_pos h1]
    refine ⟨fun x hx => ?_, fun x hx => ?_, fun x hx => ?_, fun x hx => ?_, fun k hk => ?_⟩ <;> simp only [upB_ap] <;> grind
  · have hn : n = 0 := by omega
    subst hn
    simp only [if_pos h0, if_neg h1]
    refine ⟨fun x hx => ?_, fun x hx => ?_, fun x hx => ?_, fun x hx => ?_, fun k hk => ?_⟩ <;> simp only [upB_ap] <;> grind
  · have hp : p = 0 := by omega
    subst hp
    simp only [if_neg h0, if_pos h1]
    refine ⟨fun x hx => ?_, fun x hx => ?_, fun x hx => ?_, fun x hx => ?_, fun k hk => ?_⟩ <;> simp only [upB_ap] <;> grind
  · have hn : n = 0 := by omega
    have hp : p = 0 := by omega
    subst hn; subst hp
    simp only [if_neg h0]
    refine ⟨fun x hx => ?_, fun x hx => ?_, fun x hx => ?_, fun x hx => ?_, fun k hk => ?_⟩ <;> simp only [upB_ap] <;> grind
theorem lnk_ins {B : Nat → Int} {d u g : Nat} {n : Int} (hd : d < 192) (hu : u < 192) (hg : g < 192) (hn0 : 0 ≤ n) (hn1 : n ≤ 192) (hud : u ≠ d) (hnu : n ≠ (u : Int) + 1) :
    (∀ x, x < 192 → lnk (lnk B ((d : Int) + 1) ((u : Int) + 1) ((g : Int) + 1)) ((u : Int) + 1) n ((g : Int) + 1) (768 + x) = B (768 + x)) ∧
    (∀ x, x < 192 → lnk (lnk B ((d : Int) + 1) ((u : Int) + 1) ((g : Int) + 1)) ((u : Int) + 1) n ((g : Int) + 1) (960 + x) = if x = g ∧ n = 0 then (u : Int) + 1 else B (960 + x)) ∧
    (∀ x, x < 192 → lnk (lnk B ((d : Int) + 1) ((u : Int) + 1) ((g : Int) + 1)) ((u : Int) + 1) n ((g : Int) + 1) (1344 + x) = if x = u then n else if x = d then (u : Int) + 1 else B (1344 + x)) ∧
    (∀ x, x < 192 → lnk (lnk B ((d : Int) + 1) ((u : Int) + 1) ((g : Int) + 1)) ((u : Int) + 1) n ((g : Int) + 1) (1152 + x) = if x = u then (d : Int) + 1 else if (x : Int) + 1 = n then (u : Int) + 1 else B (1152 + x)) ∧
    ∀ k, k < 768 ∨ 1536 ≤ k → lnk (lnk B ((d : Int) + 1) ((u : Int) + 1) ((g : Int) + 1)) ((u : Int) + 1) n ((g : Int) + 1) k = B k := by
  have hdt : ((d : Int) + 1).toNat - 1 = d := by omega
  have hut : ((u : Int) + 1).toNat - 1 = u := by omega
  have hgt : ((g : Int) + 1).toNat - 1 = g := by omega
  simp (disch := omega) only [lnk, if_pos (show 0 < (d : Int) + 1 by omega), if_pos (show 0 < (u : Int) + 1 by omega), if_pos (show 0 < (g : Int) + 1 by omega), hdt, hut, hgt]
  by_cases h1 : 0 < n
  · simp only [if_pos h1]
    refine ⟨fun x hx => ?_, fun x hx => ?_, fun x hx => ?_, fun x hx => ?_, fun k hk => ?_⟩ <;> simp only [upB_ap] <;> grind
  · have hn : n = 0 := by omega
    subst hn
    simp only [if_neg h1]
    refine ⟨fun x hx => ?_, fun x hx => ?_, fun x hx => ?_, fun x hx => ?_, fun k hk => ?_⟩ <;> simp only [upB_ap] <;> grind
