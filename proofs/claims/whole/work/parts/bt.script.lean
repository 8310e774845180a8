/-! ===== reading a text: what was read so far; spaces, pagers, quotas ===== -/
def s6 (b0 b1 b2 b3 b4 b5 : Bool) : Int32 := zI ((if b0 then 1 else 0) + (if b1 then 2 else 0) + (if b2 then 4 else 0) + (if b3 then 8 else 0) + (if b4 then 16 else 0) + (if b5 then 32 else 0))
def v6 (f : Nat → Bool) : Int32 := s6 (f 0) (f 1) (f 2) (f 3) (f 4) (f 5)
theorem s6_or : ∀ (k : Fin 6) b0 b1 b2 b3 b4 b5, s6 b0 b1 b2 b3 b4 b5 ||| ((1 : Int32) <<< (zI (k.val : Int) &&& 31)) = s6 (b0 || decide (k.val = 0)) (b1 || decide (k.val = 1)) (b2 || decide (k.val = 2)) (b3 || decide (k.val = 3)) (b4 || decide (k.val = 4)) (b5 || decide (k.val = 5)) := by decide +kernel
theorem s6_ts : ∀ (k : Fin 6) b0 b1 b2 b3 b4 b5, ((s6 b0 b1 b2 b3 b4 b5 >>> (zI (k.val : Int) &&& 31)) &&& (1 : Int32) = 0) ↔ ((if k.val = 0 then b0 else if k.val = 1 then b1 else if k.val = 2 then b2 else if k.val = 3 then b3 else if k.val = 4 then b4 else b5) = false) := by decide +kernel
def upF (f : Nat → Bool) (s : Nat) : Nat → Bool := fun i => f i || decide (s = i)
theorem v6_or (f : Nat → Bool) {s : Nat} (hs : s < 6) : v6 f ||| ((1 : Int32) <<< (zI (s : Int) &&& 31)) = v6 (upF f s) := s6_or ⟨s, hs⟩ _ _ _ _ _ _
theorem v6_ts (f : Nat → Bool) {s : Nat} (hs : s < 6) : ((v6 f >>> (zI (s : Int) &&& 31)) &&& (1 : Int32) = 0) ↔ f s = false := by
  refine (s6_ts ⟨s, hs⟩ _ _ _ _ _ _).trans ?_
  have : s = 0 ∨ s = 1 ∨ s = 2 ∨ s = 3 ∨ s = 4 ∨ s = 5 := by omega
  rcases this with rfl | rfl | rfl | rfl | rfl | rfl <;> exact Iff.rfl
def RPs (M : Mem) (q : Nat) (μ : Sl) (nr : Nat) (pv wv qv : Nat → Int) (qt : Nat → Bool) (s : Nat) : Prop := M q 5 s = μ 37 (6 + s) ∧ (M q 6 s = zI (pv s) ∧ μ 38 (6 + s) = zI (pv s) ∧ -1 ≤ pv s ∧ pv s < (nr : Int)) ∧ (M q 7 s = zI (wv s) ∧ μ 39 (6 + s) = zI (wv s) ∧ 0 ≤ wv s ∧ wv s ≤ 3) ∧ (M q 8 s = zI (qv s) ∧ 1 ≤ qv s ∧ qv s ≤ 32 ∧ (qt s = true → μ 40 (6 + s) = zI (qv s)) ∧ (qt s = false → qv s = 32 ∧ μ 40 (6 + s) = zI 0))
def RP (M : Mem) (q : Nat) (μ : Sl) (nr : Nat) (pv wv qv : Nat → Int) (qt : Nat → Bool) : Prop := (nr ≤ 6 ∧ M q 4 5 = zI (nr : Int) ∧ μ 34 12 = zI (nr : Int)) ∧ (M 0 2 9 = v6 qt ∧ (∀ s, nr ≤ s → qt s = false) ∧ (0 < nr → pv 0 = -1)) ∧ ∀ s, s < nr → RPs M q μ nr pv wv qv qt s
def s4 (b3 b4 b5 b6 : Bool) : Int32 := zI ((if b3 then 8 else 0) + (if b4 then 16 else 0) + (if b5 then 32 else 0) + (if b6 then 64 else 0))
def RT (M : Mem) (q : Nat) (μ : Sl) (S : Nat) (wb dc sd : Int) (tb : Nat → Bool) : Prop := (M q 4 6 = zI (S : Int) ∧ μ 41 10 = zI (S : Int) ∧ (S = 8 ∨ S = 16 ∨ S = 32)) ∧ (M q 4 7 = zI wb ∧ μ 41 11 = zI wb ∧ 0 ≤ wb ∧ wb ≤ 9) ∧ (M q 4 8 = zI dc ∧ μ 41 12 = zI dc ∧ 1 ≤ dc ∧ dc ≤ 9) ∧ (M q 4 9 = zI sd ∧ μ 41 13 = zI sd ∧ 0 ≤ sd ∧ sd ≤ 99999) ∧ M 0 2 8 = s4 (tb 3) (tb 4) (tb 5) (tb 6) ∧ ∀ w, 3 ≤ w → w ≤ 6 → μ 42 w = bI (tb w)
def SDt (n : Nat) (kd : Int) (x : (Nat → Int) × (Nat → Int)) : Prop := i32 kd ∧ (∀ j, j < arK kd → x.2 j = x.1 j ∧ -100000000 ≤ x.1 j ∧ x.1 j ≤ 100000000) ∧ (kd = 7 → 1 ≤ x.1 5 ∧ x.1 5 ≤ 7) ∧ (kd = 9 → (0 ≤ x.1 0 ∧ x.1 0 < (n : Int)) ∧ (1 ≤ x.1 3 ∧ x.1 3 ≤ 7)) ∧ (kd ≠ 7 → kd ≠ 8 → kd ≠ 9 → kd ≠ 10 → 0 ≤ x.1 0 ∧ x.1 0 < (n : Int))
def SDq (n : Nat) (M : Mem) (q : Nat) (μ : Sl) (i : Nat) (kd : Int) (x : (Nat → Int) × (Nat → Int)) : Prop := M q 9 (7 * i) = zI kd ∧ (∀ j, j < 6 → M q 9 (7 * i + (1 + j)) = zI (x.1 j)) ∧ μ 43 (24 + i) = zI kd ∧ (∀ j, j < 6 → μ 44 (144 + (6 * i + j)) = zI (x.2 j)) ∧ SDt n kd x
def RU (nr : Nat) (M : Mem) (q : Nat) (μ : Sl) (cs : Nat) (kd : Nat → Int) (x : Nat → (Nat → Int) × (Nat → Int)) : Prop := (cs ≤ 24 ∧ M q 4 10 = zI (cs : Int) ∧ μ 34 14 = zI (cs : Int)) ∧ ∀ i, i < cs → SDq nr M q μ i (kd i) (x i)
def RSx (M : Mem) (q : Nat) (μ : Sl) : Prop := ∃ (nr : Nat) (pv wv qv : Nat → Int) (qt : Nat → Bool) (S : Nat) (wb dc sd : Int) (tb : Nat → Bool) (cs : Nat) (kd : Nat → Int) (x : Nat → (Nat → Int) × (Nat → Int)), RP M q μ nr pv wv qv qt ∧ RT M q μ S wb dc sd tb ∧ RU nr M q μ cs kd x
section
variable {M M' : Mem} {q : Nat} {μ μ' : Sl}
theorem RP_k {nr : Nat} {pv wv qv : Nat → Int} {qt : Nat → Bool} (h : RP M q μ nr pv wv qv qt) (e1 : ∀ a i, (a = 4 ∧ i = 5) ∨ (5 ≤ a ∧ a ≤ 8 ∧ i < 6) → M' q a i = M q a i) (e2 : M' 0 2 9 = M 0 2 9) (e3 : ∀ a i, (a = 34 ∧ i = 12) ∨ (37 ≤ a ∧ a ≤ 40 ∧ 6 ≤ i ∧ i < 12) → μ' a i = μ a i) : RP M' q μ' nr pv wv qv qt := by
  obtain ⟨⟨h1, h2, h3⟩, ⟨h4, h5, h6⟩, h7⟩ := h
  refine ⟨⟨h1, by rw [e1 _ _ (by omega)]; exact h2, by rw [e3 _ _ (by omega)]; exact h3⟩, ⟨by rw [e2]; exact h4, h5, h6⟩, fun s hs => ?_⟩
  have := h7 s hs
  unfold RPs at this ⊢
  rw [e1 5 s (by omega), e1 6 s (by omega), e1 7 s (by omega), e1 8 s (by omega), e3 37 _ (by omega), e3 38 _ (by omega), e3 39 _ (by omega), e3 40 _ (by omega)]
  exact this
theorem RT_k {S : Nat} {wb dc sd : Int} {tb : Nat → Bool} (h : RT M q μ S wb dc sd tb) (e1 : ∀ i, 6 ≤ i → i ≤ 9 → M' q 4 i = M q 4 i) (e2 : M' 0 2 8 = M 0 2 8) (e3 : ∀ a i, (a = 41 ∧ 10 ≤ i ∧ i ≤ 13) ∨ (a = 42 ∧ 3 ≤ i ∧ i ≤ 6) → μ' a i = μ a i) : RT M' q μ' S wb dc sd tb := by
  obtain ⟨⟨h1, h2, h3⟩, ⟨h4, h5, h6⟩, ⟨h7, h8, h9⟩, ⟨h10, h11, h12⟩, h13, h14⟩ := h
  refine ⟨⟨by rw [e1 _ (by omega) (by omega)]; exact h1, by rw [e3 _ _ (by omega)]; exact h2, h3⟩, ⟨by rw [e1 _ (by omega) (by omega)]; exact h4, by rw [e3 _ _ (by omega)]; exact h5, h6⟩, ⟨by rw [e1 _ (by omega) (by omega)]; exact h7, by rw [e3 _ _ (by omega)]; exact h8, h9⟩, ⟨by rw [e1 _ (by omega) (by omega)]; exact h10, by rw [e3 _ _ (by omega)]; exact h11, h12⟩, by rw [e2]; exact h13, fun w g1 g2 => by rw [e3 _ _ (by omega)]; exact h14 w g1 g2⟩
theorem SDt_mono {n n' : Nat} {kd : Int} {x : (Nat → Int) × (Nat → Int)} (h : SDt n kd x) (hn : n ≤ n') : SDt n' kd x := by
  obtain ⟨h1, h2, h3, h4, h5⟩ := h
  exact ⟨h1, h2, h3, fun z => ⟨⟨(h4 z).1.1, by have := (h4 z).1.2; omega⟩, (h4 z).2⟩, fun z1 z2 z3 z4 => ⟨(h5 z1 z2 z3 z4).1, by have := (h5 z1 z2 z3 z4).2; omega⟩⟩
theorem RU_k {nr nr' cs : Nat} {kd : Nat → Int} {x : Nat → (Nat → Int) × (Nat → Int)} (h : RU nr M q μ cs kd x) (hn : nr ≤ nr') (e0 : M' q 4 10 = M q 4 10) (e1 : ∀ i, i < 7 * cs → M' q 9 i = M q 9 i) (e2 : μ' 34 14 = μ 34 14) (e3 : ∀ a i, (a = 43 ∧ 24 ≤ i ∧ i < 24 + cs) ∨ (a = 44 ∧ 144 ≤ i ∧ i < 144 + 6 * cs) → μ' a i = μ a i) : RU nr' M' q μ' cs kd x := by
  obtain ⟨⟨h1, h2, h3⟩, h4⟩ := h
  refine ⟨⟨h1, by rw [e0]; exact h2, by rw [e2]; exact h3⟩, fun i hi => ?_⟩
  obtain ⟨s1, s2, s3, s4, s5⟩ := h4 i hi
  exact ⟨by rw [e1 _ (by omega)]; exact s1, fun j hj => by rw [e1 _ (by omega)]; exact s2 j hj, by rw [e3 _ _ (by omega)]; exact s3, fun j hj => by rw [e3 _ _ (by omega)]; exact s4 j hj, SDt_mono s5 hn⟩
theorem RP_tk {nr : Nat} {pv wv qv : Nat → Int} {qt : Nat → Bool} (h : RP M q μ nr pv wv qv qt) (e1 : TKc M M') (e2 : TKm μ μ') : RP M' q μ' nr pv wv qv qt := RP_k h (fun a i _ => e1 _ _ _ (by omega)) (e1 _ _ _ (by omega)) (fun a i _ => e2 _ _ (by omega))
theorem RT_tk {S : Nat} {wb dc sd : Int} {tb : Nat → Bool} (h : RT M q μ S wb dc sd tb) (e1 : TKc M M') (e2 : TKm μ μ') : RT M' q μ' S wb dc sd tb := RT_k h (fun i _ _ => e1 _ _ _ (by omega)) (e1 _ _ _ (by omega)) (fun a i _ => e2 _ _ (by omega))
theorem RU_tk {nr cs : Nat} {kd : Nat → Int} {x : Nat → (Nat → Int) × (Nat → Int)} (h : RU nr M q μ cs kd x) (e1 : TKc M M') (e2 : TKm μ μ') : RU nr M' q μ' cs kd x := RU_k h (Nat.le_refl _) (e1 _ _ _ (by omega)) (fun i _ => e1 _ _ _ (by omega)) (e2 _ _ (by omega)) (fun a i _ => e2 _ _ (by omega))
end
/-- how a line ends -/
def OKL (T : Nat → Nat) (n q p : Nat) (M : Mem) (μ : Sl) (M' : Mem) (μ' : Sl) : Prop := (∃ p', p < p' ∧ HS T n M' μ' p') ∧ RBs T n q M' μ' ∧ RSx M' q μ' ∧ (∀ l a i, (l = q ∧ a = 4 ∧ i = 11) ∨ (l = 0 ∧ a = 2 ∧ i < 2) → M' l a i = M l a i) ∧ ∀ i, i = 4 ∨ i = 5 → μ' 34 i = μ 34 i
def BO (T : Nat → Nat) (n q p : Nat) (M : Mem) (μ : Sl) (R1 : Option (Int32 × Mem)) (R2 : Option (Int32 × Sl)) : Prop := (∃ M' μ', R1 = some ((0 : Int32), M') ∧ R2 = some ((0 : Int32), μ') ∧ FL M' μ' ∧ FRc q M M' ∧ FRm μ μ') ∨ ∃ M' μ', R1 = some ((1 : Int32), M') ∧ R2 = some ((1 : Int32), μ') ∧ OKL T n q p M μ M' μ' ∧ FRc q M M' ∧ FRm μ μ'
section
variable {T : Nat → Nat} {n q : Nat} {M : Mem} {μ : Sl}
theorem add_eq {d : Sl} {nr : Nat} (h : d 4 5 = zI (nr : Int)) (hn : nr < 6) (v : Int32) : Sc_addSpace d v = some ((), wr (wr (wr (wr (wr d 5 nr v) 6 nr (-1 : Int32)) 7 nr (0 : Int32)) 8 nr (32 : Int32)) 4 5 (zI ((nr + 1 : Nat) : Int))) := by
  have i6 : inb (zI (nr : Int)) 6 := zI_in hn (by omega)
  have x6 : ix (zI (nr : Int)) = nr := zI_ixn (by omega)
  have e : ∀ (d' : Sl) a i w, (a ≠ 4) → wr d' a i w 4 5 = d' 4 5 := fun d' a i w ha => by rw [wr_ap, if_neg (by omega)]
  rw [Sc_addSpace, if_neg (by rw [h, zI_lit, zI_le (by omega) (by omega) (by omega) (by omega)]; omega), h, if_pos i6, x6, bnd_ap, e _ 5 _ _ (by omega), h, if_pos i6, x6, bnd_ap, e _ 6 _ _ (by omega), e _ 5 _ _ (by omega), h, if_pos i6, x6, bnd_ap, e _ 7 _ _ (by omega), e _ 6 _ _ (by omega), e _ 5 _ _ (by omega), h, if_pos i6, x6, bnd_ap, e _ 8 _ _ (by omega), e _ 7 _ _ (by omega), e _ 6 _ _ (by omega), e _ 5 _ _ (by omega), h, bnd_ap, zI_s1]
theorem sp_line (hB : RBs T n q M μ) {p : Nat} (hS : SY T n M μ p) (hR : RSx M q μ) (hk : lxK T n p ≠ 0) : BO T n q p M μ (Re_readSpace M) (Mo_spaceLine μ) := by
  obtain ⟨nr, pv, wv, qv, qt, S, wb, dc, sd, tb, cs, kd, x, hP, hT, hU⟩ := hR
  obtain ⟨⟨a1, a2, a3⟩, b1, b2, -⟩ := id hB
  obtain ⟨⟨r1, r2, r3⟩, ⟨r4, r5, r6⟩, r7⟩ := id hP
  have rg := lx_rg (T := T) hS.1
  have prog : p < lxN T n p := by have := rg.2.2.2.2.1 hk; omega
  by_cases z : nr < 6
  · obtain ⟨μ1, u1, u2, u3, u4, u5⟩ := token_on hB hS
    obtain ⟨M1, t1, t2, hS1, hB1⟩ := take_on u5 u4
    obtain ⟨s1, ⟨c1, c2, c3, c4⟩, d1, d2, d3, d4⟩ := id hS1
    have rg1 := lx_rg (T := T) s1
    have k5 := rg1.2.2.2.2.2
    have cl0 : Re_readSpace M = if (M1 0 2 5) = (1 : Int32) then (bp (Sc_spaceNamed (M1 q) (M1 0 2 7)) fun r5 => if r5 < 0 then (bd (lft M1 q (Sc_addSpace (M1 q) (M1 0 2 7))) fun r7 d8 => some ((1 : Int32), d8)) else (bd (Re_fail M1 (3 : Int32)) fun r9 d10 => if r9 = 0 ∨ r9 = 1 then some (r9, d10) else none)) else (bd (Re_fail M1 (1 : Int32)) fun r11 d12 => if r11 = 0 ∨ r11 = 1 then some (r11, d12) else none) := by
      have b2' : M1 0 2 10 = zI (q : Int) := hB1.2.2.1
      rw [Re_readSpace, b2, gref_z (by omega), r2, if_pos (by rw [zI_lit, zI_lt (by omega) (by omega) (by omega) (by omega)]; omega), t1, bd_some]
      simp only [b2', gref_z (show q < 2147483648 by omega)]
    have m12 : μ1 34 12 = zI (nr : Int) := by rw [u3 12 (by omega)]; exact r3
    have mo0 : Mo_spaceLine μ = if (μ1 34 8) = (2 : Int32) then (bp (Mo_find μ1 (6 : Int32) (μ1 34 12) (μ1 34 9)) fun r3 => if r3 < 0 then (if inb ((6 : Int32) + (μ1 34 12)) 12 then bnd (wr μ1 37 (ix ((6 : Int32) + (μ1 34 12))) (μ1 34 9)) fun d4 => if inb ((6 : Int32) + (d4 34 12)) 12 then bnd (wr d4 38 (ix ((6 : Int32) + (d4 34 12))) (-1 : Int32)) fun d5 => if inb ((6 : Int32) + (d5 34 12)) 12 then bnd (wr d5 39 (ix ((6 : Int32) + (d5 34 12))) (0 : Int32)) fun d6 => if inb ((6 : Int32) + (d6 34 12)) 12 then bnd (wr d6 40 (ix ((6 : Int32) + (d6 34 12))) (0 : Int32)) fun d7 => bnd (wr d7 34 12 ((d7 34 12) + (1 : Int32))) fun d8 => bd (Mo_token d8) fun r9 d10 => some ((1 : Int32), d10) else none else none else none else none) else (bd (Mo_wrong μ1 (3 : Int32)) fun r11 d12 => if r11 = 0 ∨ r11 = 1 then some (r11, d12) else none)) else (bd (Mo_wrong μ1 (1 : Int32)) fun r13 d14 => if r13 = 0 ∨ r13 = 1 then some (r13, d14) else none) := by
      rw [Mo_spaceLine, r3, if_neg (by rw [zI_lit, zI_eq (by omega) (by omega) (by omega) (by omega)]; omega), u1, bd_some]
    by_cases k2 : lxK T n (lxN T n p) = 2
    · have cv := c4 (.inr (.inl k2))
      have rv := d4 (.inr (.inl k2))
      have ev := (lx_val (T := T) (n := n) (p := lxN T n p)).1 (.inr k2)
      have e5 : M1 0 2 5 = (1 : Int32) := by rw [c2, k2]; rfl
      have e8 : μ1 34 8 = (2 : Int32) := by rw [d2, k2]; rfl
      have hP1 := RP_tk (M' := M1) (μ' := μ1) hP t2 u2
      obtain ⟨⟨-, q2, q3⟩, ⟨q4, -, -⟩, q7⟩ := id hP1
      have f1' := c_nm r1 q2 (zI (lxC T n (lxN T n p) : Int))
      have f2' := m_nm (d := μ1) r1 (zI (lxC T n (lxN T n p) : Int))
      have fe : fnm (fun j => μ1 37 (6 + j)) (zI (lxC T n (lxN T n p) : Int)) nr 0 = fnm (M1 q 5) (zI (lxC T n (lxN T n p) : Int)) nr 0 := fnm_cong _ _ _ (fun j _ hj => (q7 j (by omega)).1.symm)
      rw [fe] at f2'
      rw [if_pos e5, cv, f1', bp_some] at cl0
      rw [if_pos e8, m12, rv, ← ev, f2', bp_some] at mo0
      rcases fnm_rg (f := M1 q 5) (zI (lxC T n (lxN T n p) : Int)) nr 0 with e | ⟨j, e, -, hj, -⟩
      · rw [e, if_pos zI_m1, add_eq q2 z, lft_some, bd_some] at cl0
        have s6 : (6 : Int32) + zI (nr : Int) = zI ((6 + nr : Nat) : Int) := by rw [show (6 : Int32) = zI 6 from rfl, zI_add]; congr 1
        have i6 : inb (zI ((6 + nr : Nat) : Int)) 12 := zI_in (by omega) (by omega)
        have x6 : ix (zI ((6 + nr : Nat) : Int)) = 6 + nr := zI_ixn (by omega)
        have w12 : ∀ (d' : Sl) a i w, a ≠ 34 → wr d' a i w 34 12 = d' 34 12 := fun d' a i w ha => by rw [wr_ap, if_neg (by omega)]
        rw [e, if_pos zI_m1, s6, if_pos i6, x6, bnd_ap, w12 _ 37 _ _ (by omega), m12, s6, if_pos i6, x6, bnd_ap, w12 _ 38 _ _ (by omega), w12 _ 37 _ _ (by omega), m12, s6, if_pos i6, x6, bnd_ap, w12 _ 39 _ _ (by omega), w12 _ 38 _ _ (by omega), w12 _ 37 _ _ (by omega), m12, s6, if_pos i6, x6, bnd_ap, w12 _ 40 _ _ (by omega), w12 _ 39 _ _ (by omega), w12 _ 38 _ _ (by omega), w12 _ 37 _ _ (by omega), m12, bnd_ap, zI_s1] at mo0
        have mc : ∀ j a i, ¬ (j = q ∧ ((a = 4 ∧ i = 5) ∨ (5 ≤ a ∧ a ≤ 8 ∧ i = nr))) → setS M1 q (wr (wr (wr (wr (wr (M1 q) 5 nr (zI (lxC T n (lxN T n p) : Int))) 6 nr (-1 : Int32)) 7 nr (0 : Int32)) 8 nr (32 : Int32)) 4 5 (zI ((nr + 1 : Nat) : Int))) j a i = M1 j a i := fun j a i g => by
          by_cases h : j = q
          · subst h
            rw [setS_at, wr_ap, if_neg (by omega), wr_ap, if_neg (by omega), wr_ap, if_neg (by omega), wr_ap, if_neg (by omega), wr_ap, if_neg (by omega)]
          · rw [setS_ne _ _ h]
        have mm : ∀ a i, ¬ ((a = 34 ∧ i = 12) ∨ (37 ≤ a ∧ a ≤ 40 ∧ i = 6 + nr)) → wr (wr (wr (wr (wr μ1 37 (6 + nr) (zI (lxC T n (lxN T n p) : Int))) 38 (6 + nr) (-1 : Int32)) 39 (6 + nr) (0 : Int32)) 40 (6 + nr) (0 : Int32)) 34 12 (zI ((nr + 1 : Nat) : Int)) a i = μ1 a i := fun a i g => by
          rw [wr_ap, if_neg (by omega), wr_ap, if_neg (by omega), wr_ap, if_neg (by omega), wr_ap, if_neg (by omega), wr_ap, if_neg (by omega)]
        have n45 : setS M1 q (wr (wr (wr (wr (wr (M1 q) 5 nr (zI (lxC T n (lxN T n p) : Int))) 6 nr (-1 : Int32)) 7 nr (0 : Int32)) 8 nr (32 : Int32)) 4 5 (zI ((nr + 1 : Nat) : Int))) q 4 5 = zI ((nr + 1 : Nat) : Int) := by rw [setS_at, wr_ap, if_pos ⟨rfl, rfl⟩]
        have n5 : setS M1 q (wr (wr (wr (wr (wr (M1 q) 5 nr (zI (lxC T n (lxN T n p) : Int))) 6 nr (-1 : Int32)) 7 nr (0 : Int32)) 8 nr (32 : Int32)) 4 5 (zI ((nr + 1 : Nat) : Int))) q 5 nr = zI (lxC T n (lxN T n p) : Int) := by rw [setS_at, wr_ap, if_neg (by omega), wr_ap, if_neg (by omega), wr_ap, if_neg (by omega), wr_ap, if_neg (by omega), wr_ap, if_pos ⟨rfl, rfl⟩]
        have n6 : setS M1 q (wr (wr (wr (wr (wr (M1 q) 5 nr (zI (lxC T n (lxN T n p) : Int))) 6 nr (-1 : Int32)) 7 nr (0 : Int32)) 8 nr (32 : Int32)) 4 5 (zI ((nr + 1 : Nat) : Int))) q 6 nr = zI (-1) := by rw [setS_at, wr_ap, if_neg (by omega), wr_ap, if_neg (by omega), wr_ap, if_neg (by omega), wr_ap, if_pos ⟨rfl, rfl⟩]; rfl
        have n7 : setS M1 q (wr (wr (wr (wr (wr (M1 q) 5 nr (zI (lxC T n (lxN T n p) : Int))) 6 nr (-1 : Int32)) 7 nr (0 : Int32)) 8 nr (32 : Int32)) 4 5 (zI ((nr + 1 : Nat) : Int))) q 7 nr = zI 0 := by rw [setS_at, wr_ap, if_neg (by omega), wr_ap, if_neg (by omega), wr_ap, if_pos ⟨rfl, rfl⟩]; rfl
        have n8 : setS M1 q (wr (wr (wr (wr (wr (M1 q) 5 nr (zI (lxC T n (lxN T n p) : Int))) 6 nr (-1 : Int32)) 7 nr (0 : Int32)) 8 nr (32 : Int32)) 4 5 (zI ((nr + 1 : Nat) : Int))) q 8 nr = zI 32 := by rw [setS_at, wr_ap, if_neg (by omega), wr_ap, if_pos ⟨rfl, rfl⟩]; rfl
        have o12 : wr (wr (wr (wr (wr μ1 37 (6 + nr) (zI (lxC T n (lxN T n p) : Int))) 38 (6 + nr) (-1 : Int32)) 39 (6 + nr) (0 : Int32)) 40 (6 + nr) (0 : Int32)) 34 12 (zI ((nr + 1 : Nat) : Int)) 34 12 = zI ((nr + 1 : Nat) : Int) := by rw [wr_ap, if_pos ⟨rfl, rfl⟩]
        have o37 : wr (wr (wr (wr (wr μ1 37 (6 + nr) (zI (lxC T n (lxN T n p) : Int))) 38 (6 + nr) (-1 : Int32)) 39 (6 + nr) (0 : Int32)) 40 (6 + nr) (0 : Int32)) 34 12 (zI ((nr + 1 : Nat) : Int)) 37 (6 + nr) = zI (lxC T n (lxN T n p) : Int) := by rw [wr_ap, if_neg (by omega), wr_ap, if_neg (by omega), wr_ap, if_neg (by omega), wr_ap, if_neg (by omega), wr_ap, if_pos ⟨rfl, rfl⟩]
        have o38 : wr (wr (wr (wr (wr μ1 37 (6 + nr) (zI (lxC T n (lxN T n p) : Int))) 38 (6 + nr) (-1 : Int32)) 39 (6 + nr) (0 : Int32)) 40 (6 + nr) (0 : Int32)) 34 12 (zI ((nr + 1 : Nat) : Int)) 38 (6 + nr) = zI (-1) := by rw [wr_ap, if_neg (by omega), wr_ap, if_neg (by omega), wr_ap, if_neg (by omega), wr_ap, if_pos ⟨rfl, rfl⟩]; rfl
        have o39 : wr (wr (wr (wr (wr μ1 37 (6 + nr) (zI (lxC T n (lxN T n p) : Int))) 38 (6 + nr) (-1 : Int32)) 39 (6 + nr) (0 : Int32)) 40 (6 + nr) (0 : Int32)) 34 12 (zI ((nr + 1 : Nat) : Int)) 39 (6 + nr) = zI 0 := by rw [wr_ap, if_neg (by omega), wr_ap, if_neg (by omega), wr_ap, if_pos ⟨rfl, rfl⟩]; rfl
        have o40 : wr (wr (wr (wr (wr μ1 37 (6 + nr) (zI (lxC T n (lxN T n p) : Int))) 38 (6 + nr) (-1 : Int32)) 39 (6 + nr) (0 : Int32)) 40 (6 + nr) (0 : Int32)) 34 12 (zI ((nr + 1 : Nat) : Int)) 40 (6 + nr) = zI 0 := by rw [wr_ap, if_neg (by omega), wr_ap, if_pos ⟨rfl, rfl⟩]; rfl
        generalize setS M1 q (wr (wr (wr (wr (wr (M1 q) 5 nr (zI (lxC T n (lxN T n p) : Int))) 6 nr (-1 : Int32)) 7 nr (0 : Int32)) 8 nr (32 : Int32)) 4 5 (zI ((nr + 1 : Nat) : Int))) = M2 at *
        generalize wr (wr (wr (wr (wr μ1 37 (6 + nr) (zI (lxC T n (lxN T n p) : Int))) 38 (6 + nr) (-1 : Int32)) 39 (6 + nr) (0 : Int32)) 40 (6 + nr) (0 : Int32)) 34 12 (zI ((nr + 1 : Nat) : Int)) = μ2 at *
        have fc : FRc q M1 M2 := fun j a i _ g => mc j a i (by omega)
        have fm : FRm μ1 μ2 := fun a i g1 g2 _ _ _ _ => mm a i (by omega)
        have hS2 : SY T n M2 μ2 (lxN T n p) := ⟨s1, ⟨by rw [mc _ _ _ (by omega)]; exact c1, by rw [mc _ _ _ (by omega)]; exact c2, by rw [mc _ _ _ (by omega)]; exact c3, fun w => by rw [mc _ _ _ (by omega)]; exact c4 w⟩, by rw [mm _ _ (by omega)]; exact d1, by rw [mm _ _ (by omega)]; exact d2, by rw [mm _ _ (by omega)]; exact d3, fun w => by rw [mm _ _ (by omega)]; exact d4 w⟩
        have hB2 := RBs_fr hB1 fc fm
        have hP2 : RP M2 q μ2 (nr + 1) (fun s => if s = nr then -1 else pv s) (fun s => if s = nr then 0 else wv s) (fun s => if s = nr then 32 else qv s) qt := by
          refine ⟨⟨by omega, n45, o12⟩, ⟨by rw [mc _ _ _ (by omega)]; exact q4, fun s hs => r5 s (by omega), fun _ => ?_⟩, fun s hs => ?_⟩
          · dsimp only
            by_cases g : 0 = nr
            · rw [if_pos g]
            · rw [if_neg g]; exact r6 (by omega)
          · unfold RPs
            dsimp only
            by_cases g : s = nr
            · subst g
              rw [if_pos rfl, if_pos rfl, if_pos rfl]
              exact ⟨n5.trans o37.symm, ⟨n6, o38, by omega, by omega⟩, ⟨n7, o39, by omega, by omega⟩, n8, by omega, by omega, fun w => (by rw [r5 s (Nat.le_refl _)] at w; cases w), fun _ => ⟨rfl, o40⟩⟩
            · rw [if_neg g, if_neg g, if_neg g, mc _ _ _ (by omega), mc _ _ _ (by omega), mc _ _ _ (by omega), mc _ _ _ (by omega), mm _ _ (by omega), mm _ _ (by omega), mm _ _ (by omega), mm _ _ (by omega)]
              obtain ⟨y1, ⟨y2, y3, y4, y5⟩, y6⟩ := q7 s (by omega)
              exact ⟨y1, ⟨y2, y3, y4, by omega⟩, y6⟩
        obtain ⟨μ3, v1, v2, v3, v4, v5⟩ := token_on hB2 hS2
        have rg2 := rg1.2.2.2.2.1 (by omega)
        refine .inr ⟨M2, μ3, cl0, by rw [mo0, v1, bd_some], ⟨⟨_, by omega, v4⟩, v5, ⟨nr + 1, _, _, _, qt, S, wb, dc, sd, tb, cs, kd, x, RP_tk hP2 (TKc_rf M2) v2, RT_tk (RT_k (RT_tk hT t2 u2) (fun i _ _ => mc _ _ _ (by omega)) (mc _ _ _ (by omega)) (fun a i _ => mm _ _ (by omega))) (TKc_rf M2) v2, RU_tk (RU_k (RU_tk hU t2 u2) (by omega) (mc _ _ _ (by omega)) (fun i _ => mc _ _ _ (by omega)) (mm _ _ (by omega)) (fun a i _ => mm _ _ (by omega))) (TKc_rf M2) v2⟩, fun l a i _ => by rw [mc _ _ _ (by omega), t2 _ _ _ (by omega)], fun i _ => by rw [v2 _ _ (by omega), mm _ _ (by omega), u2 _ _ (by omega)]⟩, FRc_tr (TKc_FR t2 q) fc, FRm_tr (TKm_FR u2) (FRm_tr fm (TKm_FR v2))⟩
      · obtain ⟨M2, μ2, g1, g2, g3, g4, g5, -⟩ := fail_on c3 d3 q (3 : Int32)
        rw [e, if_neg (zI_n0 (by omega)), g1, bd_some, ok01] at cl0
        rw [e, if_neg (zI_n0 (by omega)), g2, bd_some, ok01] at mo0
        exact .inl ⟨M2, μ2, cl0, mo0, g3, FRc_tr (TKc_FR t2 q) g4, FRm_tr (TKm_FR u2) g5⟩
    · obtain ⟨M2, μ2, g1, g2, g3, g4, g5, -⟩ := fail_on c3 d3 q (1 : Int32)
      have e5 : ¬ M1 0 2 5 = (1 : Int32) := by
        have := kcv_eq k5 2 (by omega)
        rw [c2]; intro z; exact k2 (by rw [← this]; exact z)
      have e8 : ¬ μ1 34 8 = (2 : Int32) := by
        have := k_eq k5 2 (by omega)
        rw [d2]; intro z; exact k2 (by rw [← this]; exact z)
      rw [if_neg e5, g1, bd_some, ok01] at cl0
      rw [if_neg e8, g2, bd_some, ok01] at mo0
      exact .inl ⟨M2, μ2, cl0, mo0, g3, FRc_tr (TKc_FR t2 q) g4, FRm_tr (TKm_FR u2) g5⟩
  · obtain ⟨M2, μ2, g1, g2, g3, g4, g5, -⟩ := fail_on hS.2.1.2.2.1 hS.2.2.2.2.1 q (2 : Int32)
    have h6 : nr = 6 := by omega
    refine .inl ⟨M2, μ2, ?_, ?_, g3, g4, g5⟩
    · rw [Re_readSpace, b2, gref_z (by omega), r2, if_neg (by rw [zI_lit, zI_lt (by omega) (by omega) (by omega) (by omega)]; omega), g1, bd_some, ok01]
    · rw [Mo_spaceLine, r3, if_pos (by rw [h6]; rfl), g2, bd_some, ok01]
end
