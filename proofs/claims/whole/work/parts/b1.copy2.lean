/-- two worlds' rows that agree there -/
def Ag (γ δ : Sl) (P : Nat → Nat → Prop) : Prop := ∀ b i, P b i → δ b i = γ b i
theorem Ag_cp {γ δ : Sl} {P : Nat → Nat → Prop} (h : Ag γ δ P) (a m : Nat) : Ag γ (cpS δ γ a m) (fun b i => P b i ∨ (b = a ∧ i < m)) := by
  intro b i hp
  rw [cpS_ap]
  by_cases g : b = a ∧ i < m
  · rw [if_pos g]
  · rw [if_neg g]
    rcases hp with hp | hp
    · exact h b i hp
    · exact absurd hp g
theorem Ag_wr {γ δ : Sl} {P : Nat → Nat → Prop} (h : Ag γ δ P) (a j : Nat) : Ag γ (wr δ a j (γ a j)) (fun b i => P b i ∨ (b = a ∧ i = j)) := by
  intro b i hp
  rw [wr_ap]
  by_cases g : b = a ∧ i = j
  · rw [if_pos g, g.1, g.2]
  · rw [if_neg g]
    rcases hp with hp | hp
    · exact h b i hp
    · exact absurd hp g
/-- all of a world that is copied -/
def CC (δ δ' : Sl) (bn : Nat) : Prop := Ag δ δ' (fun b i => (18 ≤ b ∧ b ≤ 31 ∧ i < bn) ∨ (b = 32 ∧ i < 192) ∨ (b = 17 ∧ 16 ≤ i ∧ i ≤ 19) ∨ (b = 10 ∧ (i = 0 ∨ i = 3 ∨ i = 4 ∨ i = 8 ∨ (11 ≤ i ∧ i ≤ 14))) ∨ ((b = 11 ∨ b = 16) ∧ i < 24) ∨ (12 ≤ b ∧ b ≤ 15 ∧ i < 6))
theorem wo_copy {M : Mem} {k q bn ks : Nat} (hq : q ≠ k) (hb : bn ≤ 192) (hL : M q 17 16 = zI (bn : Int)) (hk : M q 10 0 = zI (ks : Int)) (hk2 : ks < 2147483648) : ∃ δ', Wo_copyFrom k q M = some ((), setS M k δ') ∧ CC (M q) δ' bn := by
  have g0 : Ag (M q) (M k) (fun _ _ => False) := fun _ _ h => h.elim
  have e0 : (nI ks : Int32) = zI (ks : Int) := zI_nI ks
  have hag := (Ag_wr (Ag_wr (Ag_wr (Ag_wr (Ag_cp (Ag_cp (Ag_wr (Ag_cp (Ag_cp (Ag_cp (Ag_wr (Ag_wr (Ag_cp (Ag_wr (Ag_wr (Ag_wr (Ag_wr (Ag_cp (Ag_cp (Ag_cp (Ag_cp (Ag_cp (Ag_cp (Ag_cp (Ag_cp (Ag_cp (Ag_cp (Ag_cp (Ag_cp (Ag_cp (Ag_cp (Ag_cp (Ag_wr g0 10 0) 18 bn) 19 bn) 20 bn) 21 bn) 22 bn) 23 bn) 24 bn) 25 bn) 26 bn) 27 bn) 28 bn) 29 bn) 30 bn) 31 bn) 32 192) 17 16) 17 17) 17 18) 17 19) 11 24) 10 3) 10 4) 12 6) 13 6) 14 6) 10 8) 15 6) 16 24) 10 11) 10 12) 10 13) 10 14)
  refine ⟨_, ?_, fun b i hp => hag b i ?_⟩
  · rw [Wo_copyFrom, hk, gref_z hk2, bnd_ap, e0, wrM, de_copy hq hb hL, bd_some, cpx (m := 24) hq (by omega) (by omega) (show (24 : Int32) = zI ((24 : Nat) : Int) from rfl), cpy hq, cpy hq, cpx (m := 6) hq (by omega) (by omega) (show (6 : Int32) = zI ((6 : Nat) : Int) from rfl), cpx (m := 6) hq (by omega) (by omega) (show (6 : Int32) = zI ((6 : Nat) : Int) from rfl), cpx (m := 6) hq (by omega) (by omega) (show (6 : Int32) = zI ((6 : Nat) : Int) from rfl), cpy hq, cpx (m := 6) hq (by omega) (by omega) (show (6 : Int32) = zI ((6 : Nat) : Int) from rfl), cpx (m := 24) hq (by omega) (by omega) (show (24 : Int32) = zI ((24 : Nat) : Int) from rfl), cpy hq, cpy hq, cpy hq, cpy hq]
  · dsimp only at hp ⊢
    clear hag g0 e0 hk hk2 hL
    rcases hp with ⟨p1, p2, p3⟩ | ⟨rfl, p3⟩ | ⟨rfl, p1, p2⟩ | ⟨rfl, p1⟩ | ⟨rfl | rfl, p3⟩ | ⟨p1, p2, p3⟩
    · have : b = 18 ∨ b = 19 ∨ b = 20 ∨ b = 21 ∨ b = 22 ∨ b = 23 ∨ b = 24 ∨ b = 25 ∨ b = 26 ∨ b = 27 ∨ b = 28 ∨ b = 29 ∨ b = 30 ∨ b = 31 := by omega
      rcases this with rfl | rfl | rfl | rfl | rfl | rfl | rfl | rfl | rfl | rfl | rfl | rfl | rfl | rfl <;> simp [p3]
    · simp [p3]
    · have : i = 16 ∨ i = 17 ∨ i = 18 ∨ i = 19 := by omega
      rcases this with rfl | rfl | rfl | rfl <;> simp
    · have : i = 0 ∨ i = 3 ∨ i = 4 ∨ i = 8 ∨ i = 11 ∨ i = 12 ∨ i = 13 ∨ i = 14 := by omega
      rcases this with rfl | rfl | rfl | rfl | rfl | rfl | rfl | rfl <;> simp
    · simp [p3]
    · simp [p3]
    · have : b = 12 ∨ b = 13 ∨ b = 14 ∨ b = 15 := by omega
      rcases this with rfl | rfl | rfl | rfl <;> simp [p3]
