/-! ===== the class's deeds by slots: pointers ===== -/
def enc (σ : Nat → Nat) (v : Int) : Int32 := zI (if v ≤ 0 then -1 else (σ (v.toNat - 1) : Int))
theorem enc_0 (σ : Nat → Nat) : enc σ 0 = zI (-1) := rfl
theorem enc_s (σ : Nat → Nat) (x : Nat) : enc σ ((x : Int) + 1) = zI (σ x : Int) := by
  unfold enc
  rw [if_neg (by omega), show ((x : Int) + 1).toNat - 1 = x by omega]
def SV (σ : Nat → Nat) (V : Nat → Prop) : Prop := (∀ x, V x → σ x < 192) ∧ ∀ x y, V x → V y → σ x = σ y → x = y
def CP (δ : Sl) (σ : Nat → Nat) (V : Nat → Prop) (F L N P G : Nat → Int) : Prop :=
  ∀ x, V x → δ 24 (σ x) = enc σ (F x) ∧ δ 25 (σ x) = enc σ (L x) ∧ δ 26 (σ x) = enc σ (N x) ∧ δ 27 (σ x) = enc σ (P x) ∧ δ 23 (σ x) = enc σ (G x)
theorem sv_eq {σ : Nat → Nat} {V : Nat → Prop} (h : SV σ V) {x y : Nat} (hx : V x) (hy : V y) : (σ x = σ y) = (x = y) := propext ⟨h.2 x y hx hy, fun e => by rw [e]⟩
theorem cp_append {δ : Sl} {σ : Nat → Nat} {V : Nat → Prop} {F L N P G : Nat → Int} (hσ : SV σ V) (h : CP δ σ V F L N P G) {c g : Nat} (hc : V c) (hg : V g) (hL : L g = 0 ∨ ∃ z : Nat, L g = (z : Int) + 1 ∧ V z ∧ z ≠ c) :
    ∃ δ', De_append δ (zI (σ c : Int)) (zI (σ g : Int)) = some ((), δ') ∧
      CP δ' σ V (fun x => if x = g ∧ L g = 0 then (c : Int) + 1 else F x) (fun x => if x = g then (c : Int) + 1 else L x) (fun x => if x = c then 0 else if (x : Int) + 1 = L g then (c : Int) + 1 else N x) (fun x => if x = c then L g else P x) (fun x => if x = c then (g : Int) + 1 else G x) ∧
      ∀ a i, a < 23 ∨ 27 < a → δ' a i = δ a i := by
  have b1 := hσ.1 c hc
  have b2 := hσ.1 g hg
  obtain ⟨c1, c2, c3, c4, c5⟩ := h g hg
  rcases hL with hL | ⟨z, hL, hz, hzc⟩
  · rw [hL, enc_0] at c2
    simp (disch := omega) only [De_append, bnd_ap, zI_inb, zI_ix, Int.toNat_natCast, c2, zI_lit, zI_lt, if_pos, if_neg, zI_neg]
    refine ⟨_, rfl, ?_, ?_⟩
    · intro x hx
      obtain ⟨d1, d2, d3, d4, d5⟩ := h x hx
      simp only [wr_ap, sv_eq hσ hx hc, sv_eq hσ hx hg, hL]
      have hx0 : ¬ (x : Int) + 1 = 0 := by omega
      grind [enc_s, enc_0]
    · intro a i ha
      simp (disch := omega) only [wr_ap, if_neg]
  · have b3 := hσ.1 z hz
    rw [hL, enc_s] at c2
    simp (disch := omega) only [De_append, bnd_ap, zI_inb, zI_ix, Int.toNat_natCast, c2, zI_lit, zI_lt, if_pos, if_neg, zI_neg]
    refine ⟨_, rfl, ?_, ?_⟩
    · intro x hx
      obtain ⟨d1, d2, d3, d4, d5⟩ := h x hx
      simp only [wr_ap, sv_eq hσ hx hc, sv_eq hσ hx hg, sv_eq hσ hx hz, hL]
      have hz0 : ¬ (z : Int) + 1 = 0 := by omega
      have hxz : ((x : Int) + 1 = (z : Int) + 1) = (x = z) := propext ⟨fun e => by omega, fun e => by rw [e]⟩
      grind [enc_s, enc_0]
    · intro a i ha
      simp (disch := omega) only [wr_ap, if_neg]
theorem cp_take {δ : Sl} {σ : Nat → Nat} {V : Nat → Prop} {F L N P G : Nat → Int} (hσ : SV σ V) (h : CP δ σ V F L N P G) {c g : Nat} (hc : V c) (hg : V g) (hG : G c = (g : Int) + 1) (hP : P c = 0 ∨ ∃ z : Nat, P c = (z : Int) + 1 ∧ V z ∧ z ≠ c) (hN : N c = 0 ∨ ∃ z : Nat, N c = (z : Int) + 1 ∧ V z ∧ z ≠ c) :
    ∃ δ', De_takeFromGiver δ (zI (σ c : Int)) = some ((), δ') ∧
      CP δ' σ V (fun x => if x = g ∧ P c = 0 then N c else F x) (fun x => if x = g ∧ N c = 0 then P c else L x) (fun x => if x = c then 0 else if (x : Int) + 1 = P c then N c else N x) (fun x => if x = c then 0 else if (x : Int) + 1 = N c then P c else P x) (fun x => if x = c then 0 else G x) ∧
      ∀ a i, a < 23 ∨ 27 < a → δ' a i = δ a i := by
  have b1 := hσ.1 c hc
  have b2 := hσ.1 g hg
  obtain ⟨c1, c2, c3, c4, c5⟩ := h c hc
  rw [hG, enc_s] at c5
  rcases hP with hP | ⟨p, hP, hp, hpc⟩ <;> rcases hN with hN | ⟨n, hN, hn, hnc⟩
  · rw [hP, enc_0] at c4
    rw [hN, enc_0] at c3
    simp (disch := omega) only [De_takeFromGiver, De_takeFromGiver_50, De_takeFromGiver_73, bnd_ap, zI_inb, zI_ix, Int.toNat_natCast, c5, c4, c3, zI_lit, zI_lt, zI_le, if_pos, if_neg, zI_neg]
    refine ⟨_, rfl, ?_, ?_⟩
    · intro x hx
      obtain ⟨d1, d2, d3, d4, d5⟩ := h x hx
      simp only [wr_ap, sv_eq hσ hx hc, sv_eq hσ hx hg, hP, hN]
      grind [enc_s, enc_0]
    · intro a i ha
      simp (disch := omega) only [wr_ap, if_neg]
  · have b3 := hσ.1 n hn
    rw [hP, enc_0] at c4
    rw [hN, enc_s] at c3
    simp (disch := omega) only [De_takeFromGiver, De_takeFromGiver_50, De_takeFromGiver_73, bnd_ap, zI_inb, zI_ix, Int.toNat_natCast, c5, c4, c3, zI_lit, zI_lt, zI_le, if_pos, if_neg, zI_neg]
    refine ⟨_, rfl, ?_, ?_⟩
    · intro x hx
      obtain ⟨d1, d2, d3, d4, d5⟩ := h x hx
      simp only [wr_ap, sv_eq hσ hx hc, sv_eq hσ hx hg, sv_eq hσ hx hn, hP, hN]
      grind [enc_s, enc_0]
    · intro a i ha
      simp (disch := omega) only [wr_ap, if_neg]
  · have b3 := hσ.1 p hp
    rw [hP, enc_s] at c4
    rw [hN, enc_0] at c3
    simp (disch := omega) only [De_takeFromGiver, De_takeFromGiver_50, De_takeFromGiver_73, bnd_ap, zI_inb, zI_ix, Int.toNat_natCast, c5, c4, c3, zI_lit, zI_lt, zI_le, if_pos, if_neg, zI_neg]
    refine ⟨_, rfl, ?_, ?_⟩
    · intro x hx
      obtain ⟨d1, d2, d3, d4, d5⟩ := h x hx
      simp only [wr_ap, sv_eq hσ hx hc, sv_eq hσ hx hg, sv_eq hσ hx hp, hP, hN]
      grind [enc_s, enc_0]
    · intro a i ha
      simp (disch := omega) only [wr_ap, if_neg]
  · have b3 := hσ.1 p hp
    have b4 := hσ.1 n hn
    rw [hP, enc_s] at c4
    rw [hN, enc_s] at c3
    simp (disch := omega) only [De_takeFromGiver, De_takeFromGiver_50, De_takeFromGiver_73, bnd_ap, zI_inb, zI_ix, Int.toNat_natCast, c5, c4, c3, zI_lit, zI_lt, zI_le, if_pos, if_neg, zI_neg]
    refine ⟨_, rfl, ?_, ?_⟩
    · intro x hx
      obtain ⟨d1, d2, d3, d4, d5⟩ := h x hx
      simp only [wr_ap, sv_eq hσ hx hc, sv_eq hσ hx hg, sv_eq hσ hx hp, sv_eq hσ hx hn, hP, hN]
      grind [enc_s, enc_0]
    · intro a i ha
      simp (disch := omega) only [wr_ap, if_neg]
theorem cp_take0 {δ : Sl} {σ : Nat → Nat} {V : Nat → Prop} {F L N P G : Nat → Int} (hσ : SV σ V) (h : CP δ σ V F L N P G) {c : Nat} (hc : V c) (hG : G c = 0) : De_takeFromGiver δ (zI (σ c : Int)) = some ((), δ) := by
  have b1 := hσ.1 c hc
  obtain ⟨c1, c2, c3, c4, c5⟩ := h c hc
  rw [hG, enc_0] at c5
  simp (disch := omega) only [De_takeFromGiver, bnd_ap, zI_inb, zI_ix, Int.toNat_natCast, c5, zI_lit, zI_lt, zI_le, if_pos, if_neg, zI_neg]
theorem cp_put {δ : Sl} {σ : Nat → Nat} {V : Nat → Prop} {F L N P G : Nat → Int} (hσ : SV σ V) (h : CP δ σ V F L N P G) {c g u : Nat} (hc : V c) (hg : V g) (hu : V u) (huc : u ≠ c) (hG : G c = (g : Int) + 1) (hN : N c = 0 ∨ ∃ z : Nat, N c = (z : Int) + 1 ∧ V z ∧ z ≠ c ∧ z ≠ u) :
    ∃ δ', De_putBehind δ (zI (σ u : Int)) (zI (σ c : Int)) = some ((), δ') ∧
      CP δ' σ V F (fun x => if x = g ∧ N c = 0 then (u : Int) + 1 else L x) (fun x => if x = u then N c else if x = c then (u : Int) + 1 else N x) (fun x => if x = u then (c : Int) + 1 else if (x : Int) + 1 = N c then (u : Int) + 1 else P x) (fun x => if x = u then (g : Int) + 1 else G x) ∧
      ∀ a i, a < 23 ∨ 27 < a → δ' a i = δ a i := by
  have b1 := hσ.1 c hc
  have b2 := hσ.1 g hg
  have b5 := hσ.1 u hu
  obtain ⟨c1, c2, c3, c4, c5⟩ := h c hc
  rw [hG, enc_s] at c5
  rcases hN with hN | ⟨n, hN, hn, hnc, hnu⟩
  · rw [hN, enc_0] at c3
    simp (disch := omega) only [De_putBehind, bnd_ap, zI_inb, zI_ix, Int.toNat_natCast, c5, c3, zI_lit, zI_lt, zI_le, if_pos, if_neg, zI_neg]
    refine ⟨_, rfl, ?_, ?_⟩
    · intro x hx
      obtain ⟨d1, d2, d3, d4, d5⟩ := h x hx
      simp only [wr_ap, sv_eq hσ hx hc, sv_eq hσ hx hg, sv_eq hσ hx hu, hN]
      grind [enc_s, enc_0]
    · intro a i ha
      simp (disch := omega) only [wr_ap, if_neg]
  · have b3 := hσ.1 n hn
    rw [hN, enc_s] at c3
    simp (disch := omega) only [De_putBehind, bnd_ap, zI_inb, zI_ix, Int.toNat_natCast, c5, c3, zI_lit, zI_lt, zI_le, if_pos, if_neg, zI_neg]
    refine ⟨_, rfl, ?_, ?_⟩
    · intro x hx
      obtain ⟨d1, d2, d3, d4, d5⟩ := h x hx
      simp only [wr_ap, sv_eq hσ hx hc, sv_eq hσ hx hg, sv_eq hσ hx hu, sv_eq hσ hx hn, hN]
      grind [enc_s, enc_0]
    · intro a i ha
      simp (disch := omega) only [wr_ap, if_neg]
theorem cp_put0 {δ : Sl} {σ : Nat → Nat} {V : Nat → Prop} {F L N P G : Nat → Int} (hσ : SV σ V) (h : CP δ σ V F L N P G) {c u : Nat} (hc : V c) (hG : G c = 0) : De_putBehind δ (zI (σ u : Int)) (zI (σ c : Int)) = some ((), δ) := by
  have b1 := hσ.1 c hc
  obtain ⟨c1, c2, c3, c4, c5⟩ := h c hc
  rw [hG, enc_0] at c5
  simp (disch := omega) only [De_putBehind, bnd_ap, zI_inb, zI_ix, Int.toNat_natCast, c5, zI_lit, zI_lt, zI_le, if_pos, if_neg, zI_neg]
