/-! ===== reading a text: the words of the language, tokens ===== -/
/-- the first that fulfils P -/
def fx (P : Nat → Bool) : Nat → Nat → Option Nat
  | 0, _ => none
  | m + 1, k => if P k = true then some k else fx P m (k + 1)
theorem fx_s (P : Nat → Bool) (m k : Nat) : fx P (m + 1) k = if P k = true then some k else fx P m (k + 1) := rfl
theorem fx_cong {P Q : Nat → Bool} : ∀ (m k : Nat), (∀ j, k ≤ j → j < k + m → P j = Q j) → fx P m k = fx Q m k := by
  intro m
  induction m with
  | zero => intro k _; rfl
  | succ m ih => intro k h; rw [fx_s, fx_s, h k (by omega) (by omega), ih (k + 1) (fun j h1 h2 => h j (by omega) (by omega))]
theorem fx_lt {P : Nat → Bool} : ∀ (m k j : Nat), fx P m k = some j → k ≤ j ∧ j < k + m := by
  intro m
  induction m with
  | zero => intro k j h; cases h
  | succ m ih =>
    intro k j h
    rw [fx_s] at h
    by_cases c : P k = true
    · rw [if_pos c] at h
      have := Option.some.inj h
      omega
    · rw [if_neg c] at h
      have := ih (k + 1) j h
      omega
def wl : List (List Nat) := [[115, 112, 97, 99, 101], [112, 97, 103, 101, 114], [113, 117, 111, 116, 97], [115, 105, 122, 101], [98, 117, 100, 103, 101, 116], [100, 101, 99, 97, 121], [115, 101, 101, 100], [109, 97, 112], [103, 114, 97, 110, 116], [102, 108, 117, 115, 104], [116, 111, 117, 99, 104], [115, 101, 114, 118, 101]]
def ofL : List Nat := [0, 6, 12, 18, 23, 30, 36, 41, 45, 51, 57, 63, 69]
def wdg (k : Nat) : Int := wdT.getD k 0
def wwd (k : Nat) : List Nat := wl.getD k []
def off (k : Nat) : Nat := ofL.getD k 0
theorem wd_at : ∀ k : Fin 12, wdT[k.val]? = some (wdg k.val) ∧ 0 ≤ wdg k.val ∧ wdg k.val < 1073741824 := by decide +kernel
theorem ww_ok : ∀ k : Fin 12, (wwd k.val).length ≤ 6 ∧ ∀ x, x ∈ wwd k.val → 97 ≤ x ∧ x ≤ 122 := by decide +kernel
theorem wd_six : ∀ k : Fin 12, wdg k.val = ((((wwd k.val).getD 0 96 - 96) * 33554432 + ((wwd k.val).getD 1 96 - 96) * 1048576 + ((wwd k.val).getD 2 96 - 96) * 32768 + ((wwd k.val).getD 3 96 - 96) * 1024 + ((wwd k.val).getD 4 96 - 96) * 32 + ((wwd k.val).getD 5 96 - 96) : Nat) : Int) := by decide +kernel
theorem ww_tab : ∀ k : Fin 12, off (k.val + 1) = off k.val + (wwd k.val).length + 1 ∧ off (k.val + 1) ≤ 69 ∧ (∀ j : Fin 6, j.val < (wwd k.val).length → wrT[off k.val + j.val]? = some (((wwd k.val).getD j.val 0 : Nat) : Int)) ∧ wrT[off k.val + (wwd k.val).length]? = some 32 := by decide +kernel
/-- the letters of a token -/
def lts (T : Nat → Nat) (q c : Nat) : List Nat := (List.range c).map (fun j => T (q + j))
theorem lts_len (T : Nat → Nat) (q c : Nat) : (lts T q c).length = c := by unfold lts; rw [List.length_map, List.length_range]
theorem lts_at (T : Nat → Nat) (q c : Nat) {j : Nat} (h : j < c) : (lts T q c)[j]? = some (T (q + j)) := by
  unfold lts
  rw [List.getElem?_map, List.getElem?_range h]; rfl
section
variable {T : Nat → Nat} {n q : Nat}
theorem word_iff {c k : Nat} (hL : LT T q c) (hc : c ≤ 6) (hk : k < 12) : (wdg k = (p6 T q c : Int)) ↔ (wwd k = lts T q c) := by
  obtain ⟨w1, w2⟩ := ww_ok ⟨k, hk⟩
  have w3 := wd_six ⟨k, hk⟩
  dsimp only at w1 w2 w3
  have wl_lt : ∀ j, (wwd k).getD j 96 - 96 < 27 ∧ (j < (wwd k).length → 1 ≤ (wwd k).getD j 96 - 96) := fun j => by
    by_cases z : j < (wwd k).length
    · have hm := w2 ((wwd k)[j]) (List.getElem_mem z)
      have e : (wwd k).getD j 96 = (wwd k)[j] := by rw [List.getD_eq_getElem?_getD, List.getElem?_eq_getElem z]; rfl
      rw [e]; omega
    · have e : (wwd k).getD j 96 = 96 := by rw [List.getD_eq_getElem?_getD, List.getElem?_eq_none (by omega)]; rfl
      rw [e]; exact ⟨by omega, fun h => absurd h z⟩
  constructor
  · intro h
    rw [w3] at h
    have h' := Int.ofNat.inj h
    unfold p6 at h'
    have a0 := (wl_lt 0).1
    have a1 := (wl_lt 1).1
    have a2 := (wl_lt 2).1
    have a3 := (wl_lt 3).1
    have a4 := (wl_lt 4).1
    have a5 := (wl_lt 5).1
    have d0 := dg_lt hL 0
    have d1 := dg_lt hL 1
    have d2 := dg_lt hL 2
    have d3 := dg_lt hL 3
    have d4 := dg_lt hL 4
    have d5 := dg_lt hL 5
    have key : ∀ x0 x1 x2 x3 x4 x5 y0 y1 y2 y3 y4 y5 : Nat, x0 < 27 → x1 < 27 → x2 < 27 → x3 < 27 → x4 < 27 → x5 < 27 → y0 < 27 → y1 < 27 → y2 < 27 → y3 < 27 → y4 < 27 → y5 < 27 → x0 * 33554432 + x1 * 1048576 + x2 * 32768 + x3 * 1024 + x4 * 32 + x5 = y0 * 33554432 + y1 * 1048576 + y2 * 32768 + y3 * 1024 + y4 * 32 + y5 → x0 = y0 ∧ x1 = y1 ∧ x2 = y2 ∧ x3 = y3 ∧ x4 = y4 ∧ x5 = y5 := by
      intro x0 x1 x2 x3 x4 x5 y0 y1 y2 y3 y4 y5 _ _ _ _ _ _ _ _ _ _ _ _ e
      have f0 : x0 = y0 := by omega
      subst f0
      have f1 : x1 = y1 := by omega
      subst f1
      have f2 : x2 = y2 := by omega
      subst f2
      have f3 : x3 = y3 := by omega
      subst f3
      have f4 : x4 = y4 := by omega
      subst f4
      exact ⟨rfl, rfl, rfl, rfl, rfl, by omega⟩
    obtain ⟨e0, e1, e2, e3, e4, e5⟩ := key _ _ _ _ _ _ _ _ _ _ _ _ a0 a1 a2 a3 a4 a5 d0 d1 d2 d3 d4 d5 h'
    have ej : ∀ j, j < 6 → (wwd k).getD j 96 - 96 = dg T q c j := fun j hj => by
      have : j = 0 ∨ j = 1 ∨ j = 2 ∨ j = 3 ∨ j = 4 ∨ j = 5 := by omega
      rcases this with rfl | rfl | rfl | rfl | rfl | rfl <;> assumption
    have hlen : (wwd k).length = c := by
      rcases Nat.lt_trichotomy (wwd k).length c with z | z | z
      · have u1 := ej (wwd k).length (by omega)
        have u2 := (dg_pos hL z).1
        have u3 : (wwd k).getD (wwd k).length 96 = 96 := by rw [List.getD_eq_getElem?_getD, List.getElem?_eq_none (Nat.le_refl _)]; rfl
        rw [u3] at u1
        omega
      · exact z
      · have u1 := ej c (by omega)
        have u2 := (wl_lt c).2 z
        have u3 : dg T q c c = 0 := by unfold dg; rw [if_neg (by omega)]
        omega
    refine List.ext_getElem? (fun j => ?_)
    by_cases z : j < c
    · have u1 := ej j (by omega)
      obtain ⟨u2, u3⟩ := dg_pos hL z
      have hm := w2 ((wwd k)[j]'(by omega)) (List.getElem_mem _)
      have u4 : (wwd k).getD j 96 = (wwd k)[j]'(by omega) := by rw [List.getD_eq_getElem?_getD, List.getElem?_eq_getElem (by omega)]; rfl
      rw [lts_at T q c z, List.getElem?_eq_getElem (by omega)]
      congr 1
      rw [u4] at u1
      omega
    · rw [List.getElem?_eq_none (by omega), List.getElem?_eq_none (by rw [lts_len]; omega)]
  · intro h
    have hlen : (wwd k).length = c := by rw [h, lts_len]
    have e : ∀ j, j < 6 → (wwd k).getD j 96 - 96 = dg T q c j := fun j hj => by
      unfold dg
      by_cases z : j < c
      · rw [if_pos z, h, List.getD_eq_getElem?_getD, lts_at T q c z]; rfl
      · rw [if_neg z, List.getD_eq_getElem?_getD, List.getElem?_eq_none (by omega)]; rfl
    rw [w3, e 0 (by omega), e 1 (by omega), e 2 (by omega), e 3 (by omega), e 4 (by omega), e 5 (by omega)]
    rfl
end
