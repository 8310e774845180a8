/-! ===== the list of what is to be done: one more, if it isn't there ===== -/
def adl (acc : List Nat) (y : Nat) : List Nat := if y ∈ acc then acc else acc ++ [y]
theorem adl_nodup {acc : List Nat} (h : acc.Nodup) (y : Nat) : (adl acc y).Nodup := by
  unfold adl
  split
  · exact h
  · rename_i z
    rw [List.nodup_append]
    refine ⟨h, by simp, fun a ha b hb => ?_⟩
    simp at hb
    subst hb
    exact fun e => z (e ▸ ha)
theorem adl_mem {acc : List Nat} {y x : Nat} : x ∈ adl acc y ↔ x ∈ acc ∨ x = y := by
  unfold adl
  split
  · rename_i z
    exact ⟨.inl, fun h => h.elim id (fun e => e ▸ z)⟩
  · simp
/-- a segment of the list PENDING -/
def PS (B : Nat → Int) (a : Nat) (acc : List Nat) : Prop := ∀ (i y : Nat), acc[i]? = some y → B (1980 + a + i) = (y : Int)
theorem PS_snoc {B : Nat → Int} {a : Nat} {acc : List Nat} (h : PS B a acc) (y : Nat) : PS (upB B (1980 + a + acc.length) (y : Int)) a (acc ++ [y]) := by
  intro i z hi
  unfold upB
  by_cases c : i = acc.length
  · subst c
    rw [if_pos rfl]
    simp at hi
    omega
  · rw [if_neg (by omega)]
    rw [List.getElem?_append] at hi
    split at hi
    · exact h i z hi
    · rename_i u
      have : 1 ≤ i - acc.length := by omega
      rw [List.getElem?_eq_none (by simp; omega)] at hi
      cases hi
theorem m_lists {μ : Sl} {b : Nat} (hb : MB μ b) {B : Nat → Int} {a : Nat} {acc : List Nat} (hp : PS B a acc) (hl : ∀ y, y ∈ acc → y < 192) {x : Nat} (hx : x < 192) (hal : a + acc.length ≤ 192) (hal2 : x ∉ acc → a + acc.length < 192) : ∀ (m k j : Nat), j + m = acc.length → m < k → x ∉ acc.take j →
    Mo_lists_3 k (zI (x : Int)) (zI ((a + acc.length : Nat) : Int)) (zI ((a + j : Nat) : Int)) (bst μ b B) = if x ∈ acc then some (zI ((a + acc.length : Nat) : Int), bst μ b B) else some (zI ((a + acc.length + 1 : Nat) : Int), bst μ b (upB B (1980 + a + acc.length) (x : Int))) := by
  intro m
  induction m with
  | zero =>
    intro k j hj hk hn
    obtain ⟨c, rfl⟩ : ∃ c, k = c + 1 := ⟨k - 1, by omega⟩
    have : j = acc.length := by omega
    subst this
    rw [List.take_length] at hn
    have hal3 := hal2 hn
    rw [Mo_lists_3, if_pos (by rw [zI_le (by omega) (by omega) (by omega) (by omega)]; omega), if_neg hn, show (1980 : Int32) = zI 1980 from rfl, zI_add, m_lay hb B _ (by omega) (by omega), bd_some, show (1 : Int32) = zI 1 from rfl, zI_add, show (1980 + ((a + acc.length : Nat) : Int)).toNat = 1980 + a + acc.length by omega]
    rfl
  | succ m ih =>
    intro k j hj hk hn
    obtain ⟨c, rfl⟩ : ∃ c, k = c + 1 := ⟨k - 1, by omega⟩
    have hjl : j < acc.length := by omega
    obtain ⟨y, hy⟩ : ∃ y, acc[j]? = some y := ⟨acc[j], List.getElem?_eq_getElem hjl⟩
    have hB := hp j y hy
    have hym : y ∈ acc := List.mem_of_getElem? hy
    have hy2 := hl y hym
    rw [Mo_lists_3, if_neg (by rw [zI_le (by omega) (by omega) (by omega) (by omega)]; omega), show (1980 : Int32) = zI 1980 from rfl, zI_add, m_of hb B (by omega) (by omega), bp_some, show (1980 + ((a + j : Nat) : Int)).toNat = 1980 + a + j by omega, hB]
    by_cases c1 : y = x
    · subst c1
      rw [if_pos rfl, if_pos hym]
    · rw [if_neg (by rw [zI_eq (by omega) (by omega) (by omega) (by omega)]; omega), bnd_ap, show (1 : Int32) = zI 1 from rfl, zI_add, show ((a + j : Nat) : Int) + 1 = ((a + (j + 1) : Nat) : Int) by omega]
      refine ih c (j + 1) (by omega) (by omega) ?_
      rw [List.take_add_one, hy]
      simp
      exact ⟨hn, Ne.symm c1⟩
/-- one more on the list -/
theorem m_list1 {μ : Sl} {b : Nat} (hb : MB μ b) {B : Nat → Int} {a : Nat} {acc : List Nat} (hp : PS B a acc) (hl : ∀ y, y ∈ acc → y < 192) {x : Nat} (hx : x < 192) (hal : a + acc.length ≤ 192) (hal2 : x ∉ acc → a + acc.length < 192) :
    ∃ B', Mo_lists (bst μ b B) (zI (x : Int)) (zI (a : Int)) (zI ((a + acc.length : Nat) : Int)) = some (zI ((a + (adl acc x).length : Nat) : Int), bst μ b B') ∧ PS B' a (adl acc x) ∧ ∀ k, k < 1980 + a + acc.length ∨ 2172 ≤ k → B' k = B k := by
  have h := m_lists hb hp hl hx hal hal2 acc.length FU 0 (by omega) (FU_gt (by omega)) (by simp)
  unfold adl
  by_cases c : x ∈ acc
  · rw [if_pos c] at h ⊢
    exact ⟨B, h, hp, fun _ _ => rfl⟩
  · rw [if_neg c] at h ⊢
    have hal3 := hal2 c
    refine ⟨_, ?_, PS_snoc hp x, fun k hk => if_neg (by omega)⟩
    have : (acc ++ [x]).length = acc.length + 1 := by simp
    rw [this]
    exact h
