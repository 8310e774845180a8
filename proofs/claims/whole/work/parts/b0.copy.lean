/-- a row copied as far as m -/
def cpS (δ γ : Sl) (a m : Nat) : Sl := wrA δ a (va_cpy (γ a) (δ a) 0 0 m)
theorem cpS_ap (δ γ : Sl) (a m b i : Nat) : cpS δ γ a m b i = if b = a ∧ i < m then γ b i else δ b i := by
  unfold cpS wrA
  by_cases h : b = a
  · subst h
    rw [if_pos rfl]
    unfold va_cpy
    by_cases g : i < m
    · rw [if_pos ⟨by omega, by omega⟩, if_pos ⟨rfl, g⟩]; congr 1; omega
    · rw [if_neg (by omega), if_neg (fun z => g z.2)]
  · rw [if_neg h, if_neg (fun z => h z.1)]
theorem cp_ok {m n : Nat} (h : m ≤ n) (hn : n < 1000) : cpok (0 : Int32) (0 : Int32) (zI (m : Int)) n n := by
  have e : (zI (m : Int)).toInt = m := zI_toInt (by omega) (by omega)
  refine ⟨⟨by decide, by decide, by rw [e]; omega⟩, ?_, ?_⟩ <;> rw [zI_ix (by omega) (by omega), show ix (0 : Int32) = 0 from rfl] <;> omega
section
variable {M : Mem} {k q : Nat}
theorem cpx {τ : Type} {m n : Nat} (hq : q ≠ k) (h : m ≤ n) (hn : n < 1000) {L : Int32} (hL : L = zI (m : Int)) (δ : Sl) (a : Nat) (K : Mem → Option τ) :
    (if cpok (0 : Int32) (0 : Int32) L n n then bnd (wrAM (setS M k δ) k a (va_cpy (setS M k δ q a) (setS M k δ k a) (ix (0 : Int32)) (ix (0 : Int32)) (ix L))) K else none) = K (setS M k (cpS δ (M q) a m)) := by
  subst hL
  rw [if_pos (cp_ok h hn), bnd_ap, wrAM_setS, setS_ne M δ hq, setS_at, zI_ix (by omega) (by omega)]
  rfl
theorem cpy {τ : Type} (hq : q ≠ k) (δ : Sl) (a i : Nat) (K : Mem → Option τ) :
    bnd (wrM (setS M k δ) k a i (setS M k δ q a i)) K = K (setS M k (wr δ a i (M q a i))) := by
  rw [bnd_ap, wrM, setS_at, setS_setS, setS_ne M δ hq]
theorem de_copy {bn : Nat} (hq : q ≠ k) (hb : bn ≤ 192) (hL : M q 17 16 = zI (bn : Int)) (δ : Sl) :
    De_copyFrom k q (setS M k δ) = some ((), setS M k (wr (wr (wr (wr (cpS (cpS (cpS (cpS (cpS (cpS (cpS (cpS (cpS (cpS (cpS (cpS (cpS (cpS (cpS δ (M q) 18 bn) (M q) 19 bn) (M q) 20 bn) (M q) 21 bn) (M q) 22 bn) (M q) 23 bn) (M q) 24 bn) (M q) 25 bn) (M q) 26 bn) (M q) 27 bn) (M q) 28 bn) (M q) 29 bn) (M q) 30 bn) (M q) 31 bn) (M q) 32 192) 17 16 (M q 17 16)) 17 17 (M q 17 17)) 17 18 (M q 17 18)) 17 19 (M q 17 19))) := by
  have l : ∀ d : Sl, setS M k d q 17 16 = zI (bn : Int) := fun d => by rw [setS_ne M d hq]; exact hL
  have c : ∀ (d : Sl) (a : Nat) (K : Mem → Option (Unit × Mem)), _ = _ := fun d a K => cpx (M := M) (k := k) (q := q) hq hb (by omega) (l d) d a K
  rw [De_copyFrom, c, c, c, c, c, c, c, c, c, c, c, c, c, c, cpx (m := 192) hq (by omega) (by omega) (show (192 : Int32) = zI ((192 : Nat) : Int) from rfl), cpy hq, cpy hq, cpy hq, cpy hq]
end
