/-! ===== a step of work: the reference ===== -/
def shB (i : Nat) (B : Nat → Int) : Nat → Int := fun k => if 1980 ≤ k ∧ k + 1 < 1980 + i then B (k + 1) else B k
def wkE (v1 : Int32) (d : Sl) : Option (Int32 × Sl) :=
  bp (Mo_of d (1974 : Int32)) fun r6 =>
      bd (Mo_lay d (1974 : Int32) (r6 - (1 : Int32))) fun _ d8 =>
      bp (Mo_of d8 ((384 : Int32) + v1)) fun r9 =>
      bp (Mo_of d8 (1968 : Int32)) fun r10 =>
      bd (Mo_lay d8 ((384 : Int32) + v1) (r9 &&& (r10 ^^^ (-1 : Int32)))) fun _ d12 =>
      bp (Mo_of d12 ((384 : Int32) + v1)) fun r13 =>
      if r13 = 0 then
        (bd (Mo_goes d12 v1) fun _ d15 =>
        Mo_isWorking_119 d15)
      else
        (Mo_isWorking_119 d12)
theorem m_shift {μ : Sl} {b : Nat} {B : Nat → Int} (hb : MB μ b) {a : Nat} (ha : a ≤ 192) (v1 : Int32) : ∀ (m i k : Nat), i + m = a → 1 ≤ i → m < k →
    Mo_isWorking_27 k v1 (zI (a : Int)) (zI (i : Int)) (bst μ b (shB i B)) = wkE v1 (bst μ b (shB a B)) := by
  intro m
  induction m with
  | zero =>
    intro i k hi h1 hk
    obtain ⟨c, rfl⟩ : ∃ c, k = c + 1 := ⟨k - 1, by omega⟩
    have : i = a := by omega
    subst this
    rw [Mo_isWorking_27, if_pos (by rw [zI_le (by omega) (by omega) (by omega) (by omega)]; omega)]
    rfl
  | succ m ih =>
    intro i k hi h1 hk
    obtain ⟨c, rfl⟩ : ∃ c, k = c + 1 := ⟨k - 1, by omega⟩
    have o1 := m_of hb (shB i B) (k := ((1980 + i : Nat) : Int)) (by omega) (by omega)
    rw [Int.toNat_natCast] at o1
    have o2 := m_lay hb (shB i B) (k := ((1980 + i - 1 : Nat) : Int)) (shB i B (1980 + i)) (by omega) (by omega)
    rw [Int.toNat_natCast] at o2
    have e : upB (shB i B) (1980 + i - 1) (shB i B (1980 + i)) = shB (i + 1) B := by
      funext k
      unfold shB upB
      by_cases c1 : k = 1980 + i - 1
      · subst c1
        rw [if_pos rfl, if_neg (by omega), if_pos (by omega)]; congr 1; omega
      · rw [if_neg c1]
        dsimp only
        by_cases c2 : 1980 ≤ k ∧ k + 1 < 1980 + i
        · rw [if_pos c2, if_pos (by omega)]
        · rw [if_neg c2, if_neg (by omega)]
    rw [e] at o2
    rw [Mo_isWorking_27, if_neg (by rw [zI_le (by omega) (by omega) (by omega) (by omega)]; omega), show (1980 : Int32) = zI 1980 from rfl, zI_add, show (1980 : Int) + (i : Int) = ((1980 + i : Nat) : Int) by omega, o1, bp_some, show (1 : Int32) = zI 1 from rfl, zI_sub, show ((1980 + i : Nat) : Int) - 1 = ((1980 + i - 1 : Nat) : Int) by omega, o2, bd_some, bnd_ap, zI_add, show (i : Int) + 1 = ((i + 1 : Nat) : Int) by omega]
    exact ih (i + 1) c (by omega) (by omega) (by omega)
def joB (i : Nat) (B : Nat → Int) : Nat → Int := fun k => if 1728 ≤ k ∧ k < 1728 + i ∧ zI (B k) = zI (B 1950) then 0 else B k
def roB (i : Nat) (B : Nat → Int) : Nat → Int := fun k => if 1950 ≤ k ∧ k < 1980 ∧ (k - 1950) % 6 + 1 < i then B (k + 1) else B k
theorem ro_step (B : Nat → Int) {i : Nat} (h1 : 1 ≤ i) (h2 : i < 6) : upB (upB (upB (upB (upB (roB i B) (1950 + i - 1) (B (1950 + i))) (1956 + i - 1) (B (1956 + i))) (1962 + i - 1) (B (1962 + i))) (1968 + i - 1) (B (1968 + i))) (1974 + i - 1) (B (1974 + i)) = roB (i + 1) B := by
  funext k
  simp only [upB_ap]
  unfold roB
  by_cases c1 : k = 1974 + i - 1
  · rw [if_pos c1, if_pos (by omega)]; congr 1; omega
  · rw [if_neg c1]
    by_cases c2 : k = 1968 + i - 1
    · rw [if_pos c2, if_pos (by omega)]; congr 1; omega
    · rw [if_neg c2]
      by_cases c3 : k = 1962 + i - 1
      · rw [if_pos c3, if_pos (by omega)]; congr 1; omega
      · rw [if_neg c3]
        by_cases c4 : k = 1956 + i - 1
        · rw [if_pos c4, if_pos (by omega)]; congr 1; omega
        · rw [if_neg c4]
          by_cases c5 : k = 1950 + i - 1
          · rw [if_pos c5, if_pos (by omega)]; congr 1; omega
          · rw [if_neg c5]
            by_cases c6 : 1950 ≤ k ∧ k < 1980 ∧ (k - 1950) % 6 + 1 < i
            · rw [if_pos c6, if_pos (by omega)]
            · rw [if_neg c6, if_neg (by omega)]
theorem m_jo2 {μ : Sl} {b : Nat} {B : Nat → Int} (hb : MB μ b) : ∀ (m i k : Nat), i + m = 6 → 1 ≤ i → m < k →
    Mo_jobOver_46 k (zI (i : Int)) (bst μ b (roB i B)) = some ((), bst μ b (upB (roB 6 B) 1944 (B 1944 - 1))) := by
  intro m
  induction m with
  | zero =>
    intro i k hi h1 hk
    obtain ⟨c, rfl⟩ : ∃ c, k = c + 1 := ⟨k - 1, by omega⟩
    have : i = 6 := by omega
    subst this
    have o1 := m_of hb (roB 6 B) (k := 1944) (by omega) (by omega)
    have e : roB 6 B 1944 = B 1944 := by unfold roB; rw [if_neg (by omega)]
    rw [show (1944 : Int).toNat = 1944 from rfl, e] at o1
    have o2 := m_lay hb (roB 6 B) (k := 1944) (B 1944 - 1) (by omega) (by omega)
    rw [show (1944 : Int).toNat = 1944 from rfl] at o2
    rw [Mo_jobOver_46, if_pos (by decide), show (1944 : Int32) = zI 1944 from rfl, o1, bp_some, show (1 : Int32) = zI 1 from rfl, zI_sub, o2, bd_some]
  | succ m ih =>
    intro i k hi h1 hk
    obtain ⟨c, rfl⟩ : ∃ c, k = c + 1 := ⟨k - 1, by omega⟩
    have rd : ∀ (B' : Nat → Int) (q : Nat), q + i < 2227 → B' (q + i) = B (q + i) → Mo_of (bst μ b B') (zI (q : Int) + zI (i : Int)) = some (zI (B (q + i))) := fun B' q hq he => by
      have := m_of hb B' (k := ((q + i : Nat) : Int)) (by omega) (by omega)
      rw [Int.toNat_natCast, he] at this
      rw [zI_add, show (q : Int) + (i : Int) = ((q + i : Nat) : Int) by omega, this]
    have wt : ∀ (B' : Nat → Int) (q : Nat) (v : Int), q + i < 2227 → 1 ≤ q → Mo_lay (bst μ b B') (zI (q : Int) + zI (i : Int) - zI 1) (zI v) = some ((), bst μ b (upB B' (q + i - 1) v)) := fun B' q v hq h1 => by
      have := m_lay hb B' (k := ((q + i - 1 : Nat) : Int)) v (by omega) (by omega)
      rw [Int.toNat_natCast] at this
      rw [zI_add, zI_sub, show (q : Int) + (i : Int) - 1 = ((q + i - 1 : Nat) : Int) by omega, this]
    have hr : ∀ q, q = 1950 ∨ q = 1956 ∨ q = 1962 ∨ q = 1968 ∨ q = 1974 → roB i B (q + i) = B (q + i) := fun q hq => by unfold roB; rw [if_neg (by omega)]
    rw [Mo_jobOver_46, if_neg (by rw [zI_lit, zI_le (by omega) (by omega) (by omega) (by omega)]; omega)]
    rw [show (1950 : Int32) = zI ((1950 : Nat) : Int) from rfl, show (1956 : Int32) = zI ((1956 : Nat) : Int) from rfl, show (1962 : Int32) = zI ((1962 : Nat) : Int) from rfl, show (1968 : Int32) = zI ((1968 : Nat) : Int) from rfl, show (1974 : Int32) = zI ((1974 : Nat) : Int) from rfl, show (1 : Int32) = zI 1 from rfl]
    rw [rd _ 1950 (by omega) (hr _ (by omega)), bp_some, wt _ 1950 _ (by omega) (by omega), bd_some]
    rw [rd _ 1956 (by omega) (by rw [upB_ap, if_neg (by omega)]; exact hr _ (by omega)), bp_some, wt _ 1956 _ (by omega) (by omega), bd_some]
    rw [rd _ 1962 (by omega) (by rw [upB_ap, if_neg (by omega), upB_ap, if_neg (by omega)]; exact hr _ (by omega)), bp_some, wt _ 1962 _ (by omega) (by omega), bd_some]
    rw [rd _ 1968 (by omega) (by rw [upB_ap, if_neg (by omega), upB_ap, if_neg (by omega), upB_ap, if_neg (by omega)]; exact hr _ (by omega)), bp_some, wt _ 1968 _ (by omega) (by omega), bd_some]
    rw [rd _ 1974 (by omega) (by rw [upB_ap, if_neg (by omega), upB_ap, if_neg (by omega), upB_ap, if_neg (by omega), upB_ap, if_neg (by omega)]; exact hr _ (by omega)), bp_some, wt _ 1974 _ (by omega) (by omega), bd_some]
    rw [ro_step B h1 (by omega), bnd_ap, zI_add, show (i : Int) + 1 = ((i + 1 : Nat) : Int) by omega]
    exact ih (i + 1) c (by omega) (by omega) (by omega)
theorem m_jo1 {μ : Sl} {b : Nat} {B : Nat → Int} (hb : MB μ b) : ∀ (m i k : Nat), i + m = 192 → m < k →
    Mo_jobOver_2 k (zI (i : Int)) (bst μ b (joB i B)) = Mo_jobOver_46 FU (zI 1) (bst μ b (joB 192 B)) := by
  intro m
  induction m with
  | zero =>
    intro i k hi hk
    obtain ⟨c, rfl⟩ : ∃ c, k = c + 1 := ⟨k - 1, by omega⟩
    have : i = 192 := by omega
    subst this
    rw [Mo_jobOver_2, if_pos (by decide), bnd_ap]
    rfl
  | succ m ih =>
    intro i k hi hk
    obtain ⟨c, rfl⟩ : ∃ c, k = c + 1 := ⟨k - 1, by omega⟩
    have o1 := m_of hb (joB i B) (k := ((1728 + i : Nat) : Int)) (by omega) (by omega)
    have e1 : joB i B (1728 + i) = B (1728 + i) := by unfold joB; rw [if_neg (by omega)]
    rw [Int.toNat_natCast, e1] at o1
    have o2 := m_of hb (joB i B) (k := 1950) (by omega) (by omega)
    have e2 : joB i B 1950 = B 1950 := by unfold joB; rw [if_neg (by omega)]
    rw [show (1950 : Int).toNat = 1950 from rfl, e2] at o2
    have o3 := m_lay hb (joB i B) (k := ((1728 + i : Nat) : Int)) 0 (by omega) (by omega)
    rw [Int.toNat_natCast] at o3
    have hrec := ih (i + 1) c (by omega) (by omega)
    rw [Mo_jobOver_2, if_neg (by rw [zI_lit, zI_le (by omega) (by omega) (by omega) (by omega)]; omega), show (1728 : Int32) = zI 1728 from rfl, zI_add, show (1728 : Int) + (i : Int) = ((1728 + i : Nat) : Int) by omega, o1, bp_some, show (1950 : Int32) = zI 1950 from rfl, o2, bp_some]
    by_cases c1 : zI (B (1728 + i)) = zI (B 1950)
    · have e : upB (joB i B) (1728 + i) 0 = joB (i + 1) B := by
        funext k
        unfold joB upB
        by_cases c2 : k = 1728 + i
        · subst c2; rw [if_pos rfl, if_pos ⟨by omega, by omega, c1⟩]
        · rw [if_neg c2]
          dsimp only
          by_cases c3 : 1728 ≤ k ∧ k < 1728 + i ∧ zI (B k) = zI (B 1950)
          · rw [if_pos c3, if_pos ⟨c3.1, by omega, c3.2.2⟩]
          · rw [if_neg c3, if_neg (fun z => c3 ⟨z.1, by omega, z.2.2⟩)]
      rw [e] at o3
      rw [if_pos c1]
      have o3' : Mo_lay (bst μ b (joB i B)) (zI ((1728 + i : Nat) : Int)) (0 : Int32) = _ := o3
      rw [o3', bd_some, Mo_jobOver_38, bnd_ap, show (1 : Int32) = zI 1 from rfl, zI_add, show (i : Int) + 1 = ((i + 1 : Nat) : Int) by omega, hrec]
    · have e : joB i B = joB (i + 1) B := by
        funext k
        unfold joB
        by_cases c2 : k = 1728 + i
        · subst c2; rw [if_neg (by omega), if_neg (fun z => c1 z.2.2)]
        · by_cases c3 : 1728 ≤ k ∧ k < 1728 + i ∧ zI (B k) = zI (B 1950)
          · rw [if_pos c3, if_pos ⟨c3.1, by omega, c3.2.2⟩]
          · rw [if_neg c3, if_neg (fun z => c3 ⟨z.1, by omega, z.2.2⟩)]
      rw [if_neg c1, Mo_jobOver_38, bnd_ap, show (1 : Int32) = zI 1 from rfl, zI_add, show (i : Int) + 1 = ((i + 1 : Nat) : Int) by omega, e, hrec]
def ovB (B : Nat → Int) : Nat → Int := upB (roB 6 (joB 192 B)) 1944 (joB 192 B 1944 - 1)
theorem m_jobOver {μ : Sl} {b : Nat} {B : Nat → Int} (hb : MB μ b) : Mo_jobOver (bst μ b B) = some ((), bst μ b (ovB B)) := by
  have h1 := m_jo1 (B := B) hb 192 0 FU (by omega) (FU_gt (by omega))
  have e0 : joB 0 B = B := by funext k; unfold joB; rw [if_neg (by omega)]
  rw [e0] at h1
  have h2 := m_jo2 (B := joB 192 B) hb 5 1 FU (by omega) (by omega) (FU_gt (by omega))
  have e1 : roB 1 (joB 192 B) = joB 192 B := by funext k; unfold roB; rw [if_neg (by omega)]
  rw [e1] at h2
  unfold Mo_jobOver
  rw [bnd_ap]
  exact h1.trans h2
