/-! ===== what may be named: spaces, regions, rights ===== -/
def SK (M : Mem) (δ : Sl) (n S : Nat) (qv : Nat → Int) : Prop := ∃ k : Nat, δ 10 0 = zI (k : Int) ∧ k < 2147483648 ∧ M k 4 5 = zI (n : Int) ∧ M k 4 6 = zI (S : Int) ∧ ∀ s : Nat, 1 ≤ s → s < n → M k 8 s = zI (qv s)
def SM (μ : Sl) (n S : Nat) (qv : Nat → Int) : Prop := μ 34 11 = zI (n : Int) ∧ μ 41 3 = zI (S : Int) ∧ ∀ s : Nat, 1 ≤ s → s < n → μ 40 s = zI (qv s) ∨ (qv s = 32 ∧ μ 40 s = zI 0)
def SN (n S : Nat) (qv : Nat → Int) : Prop := n ≤ 6 ∧ (S = 8 ∨ S = 16 ∨ S = 32) ∧ ∀ s : Nat, 1 ≤ s → s < n → 1 ≤ qv s ∧ qv s ≤ 32
theorem gref_z {τ : Type} {k : Nat} (h : k < 2147483648) (K : Nat → Option τ) : gref (zI (k : Int)) K = K k := by
  unfold gref
  rw [if_neg (by rw [zI_lit, zI_lt (by omega) (by omega) (by omega) (by omega)]; omega)]
  congr 1
  have := zI_ix (n := (k : Int)) (by omega) (by omega)
  unfold ix at this
  rw [this]; omega
def rgP (S : Nat) (x t : Int) : Prop := 0 ≤ x ∧ x < (S : Int) ∧ x % (pg t : Int) = 0
def rgB (S : Nat) (x t : Int) : Bool := decide (0 ≤ x ∧ x < (S : Int) ∧ x % (pg t : Int) = 0)
theorem rgB_t {S : Nat} {x t : Int} (h : rgP S x t) : rgB S x t = true := decide_eq_true h
theorem rgB_f {S : Nat} {x t : Int} (h : ¬ rgP S x t) : rgB S x t = false := decide_eq_false h
def i32 (x : Int) : Prop := -2147483648 ≤ x ∧ x < 2147483648
theorem i32_of (v : Int32) : i32 v.toInt := ⟨by have := Int32.minValue_le_toInt v; simpa using this, by have := Int32.toInt_lt v; simpa using this⟩
theorem c_isSpace {M : Mem} {δ : Sl} {n S : Nat} {qv : Nat → Int} (h : SK M δ n S qv) (hn : SN n S qv) {x : Int} (hx : i32 x) : Wo_isSpace M δ (zI x) = some (bI (decide (0 ≤ x ∧ x < (n : Int)))) := by
  obtain ⟨k, h1, h2, h3, h4, h5⟩ := h
  obtain ⟨x1, x2⟩ := hx
  have hn6 := hn.1
  unfold Wo_isSpace
  by_cases z : x < 0
  · rw [if_pos (by rw [zI_lit, zI_lt (by omega) (by omega) (by omega) (by omega)]; exact z), decide_eq_false (by omega)]; rfl
  · rw [if_neg (by rw [zI_lit, zI_lt (by omega) (by omega) (by omega) (by omega)]; exact z), h1, gref_z h2, h3]
    by_cases w : x < (n : Int)
    · rw [if_neg (by rw [zI_le (by omega) (by omega) (by omega) (by omega)]; omega), if_neg (by rw [zI_lit, zI_le (by omega) (by omega) (by omega) (by omega)]; omega), decide_eq_true (by omega)]; rfl
    · rw [if_pos (by rw [zI_le (by omega) (by omega) (by omega) (by omega)]; omega), decide_eq_false (by omega)]; rfl
theorem m_isSpace {μ : Sl} {n S : Nat} {qv : Nat → Int} (h : SM μ n S qv) (hn : SN n S qv) {x : Int} (hx : i32 x) : Mo_isSpace μ (zI x) = some (bI (decide (0 ≤ x ∧ x < (n : Int)))) := by
  obtain ⟨x1, x2⟩ := hx
  have hn6 := hn.1
  unfold Mo_isSpace
  rw [h.1]
  by_cases z : x < 0
  · rw [if_pos (by rw [zI_lit, zI_lt (by omega) (by omega) (by omega) (by omega)]; exact z), decide_eq_false (by omega)]; rfl
  · rw [if_neg (by rw [zI_lit, zI_lt (by omega) (by omega) (by omega) (by omega)]; exact z)]
    by_cases w : x < (n : Int)
    · rw [if_neg (by rw [zI_le (by omega) (by omega) (by omega) (by omega)]; omega), decide_eq_true (by omega)]; rfl
    · rw [if_pos (by rw [zI_le (by omega) (by omega) (by omega) (by omega)]; omega), decide_eq_false (by omega)]; rfl
theorem zI_rem {x : Int} {t : Int} (h0 : 0 ≤ x) (h1 : x < 2147483648) (ht1 : 1 ≤ t) (ht2 : t ≤ 4) : (zI x - zI x / zI (pg t : Int) * zI (pg t : Int) = zI 0) = (x % (pg t : Int) = 0) := by
  rcases pg_cases ht1 ht2 with ⟨-, e⟩ | ⟨-, e⟩ | ⟨-, e⟩ | ⟨-, e⟩ <;> rw [e] <;> rw [zI_div h0 h1 (by omega) (by omega), zI_mul, zI_sub, zI_eq (by omega) (by omega) (by omega) (by omega)] <;> apply propext <;> omega
theorem rg_end {S : Nat} (hS : S = 8 ∨ S = 16 ∨ S = 32) {x t : Int} (ht1 : 1 ≤ t) (ht2 : t ≤ 4) (h : rgP S x t) : x + (pg t : Int) ≤ (S : Int) := by
  obtain ⟨h1, h2, h3⟩ := h
  rcases pg_cases ht1 ht2 with ⟨-, e⟩ | ⟨-, e⟩ | ⟨-, e⟩ | ⟨-, e⟩ <;> rw [e] at h3 ⊢ <;> omega
theorem c_isRegion {M : Mem} {δ : Sl} {n S : Nat} {qv : Nat → Int} (h : SK M δ n S qv) (hn : SN n S qv) {x t : Int} (hx : i32 x) (ht1 : 1 ≤ t) (ht2 : t ≤ 4) : Wo_isRegion M δ (zI x) (zI (t - 1)) = some (bI (rgB S x t)) := by
  obtain ⟨k, h1, h2, h3, h4, h5⟩ := h
  obtain ⟨x1, x2⟩ := hx
  have hS := hn.2.1
  have hpt := pg_pos ht1 ht2
  unfold Wo_isRegion
  simp only [bnd_ap, zI_lit, zI_pg ht1 ht2, h1]
  by_cases z : x < 0
  · rw [if_pos (by rw [zI_lt (by omega) (by omega) (by omega) (by omega)]; exact z), rgB_f (by unfold rgP; omega)]; rfl
  · rw [if_neg (by rw [zI_lt (by omega) (by omega) (by omega) (by omega)]; exact z), gref_z h2, h4]
    by_cases w : x < (S : Int)
    · rw [if_neg (by rw [zI_le (by omega) (by omega) (by omega) (by omega)]; omega), if_pos (by rw [zI_eq (by omega) (by omega) (by omega) (by omega)]; omega)]
      by_cases u : x % (pg t : Int) = 0
      · have hr : rgP S x t := ⟨by omega, w, u⟩
        have he := rg_end hS ht1 ht2 hr
        rw [if_pos (by rw [zI_rem (by omega) x2 ht1 ht2]; exact u), gref_z h2, h4, zI_add, if_neg (by rw [zI_lt (by omega) (by omega) (by omega) (by omega)]; omega), rgB_t hr]; rfl
      · rw [if_neg (by rw [zI_rem (by omega) x2 ht1 ht2]; exact u), rgB_f (fun c => u c.2.2)]; rfl
    · rw [if_pos (by rw [zI_le (by omega) (by omega) (by omega) (by omega)]; omega), rgB_f (fun c => w c.2.1)]; rfl
theorem m_isFit {μ : Sl} {n S : Nat} {qv : Nat → Int} (h : SM μ n S qv) (hn : SN n S qv) {x t : Int} (hx : i32 x) (ht1 : 1 ≤ t) (ht2 : t ≤ 4) : Mo_isFit μ (zI x) (zI (t - 1)) = some (bI (rgB S x t)) := by
  obtain ⟨x1, x2⟩ := hx
  have hS := hn.2.1
  have hpt := pg_pos ht1 ht2
  have hp : Mo_isPlace μ (zI x) = some (bI (decide (0 ≤ x ∧ x < (S : Int)))) := by
    unfold Mo_isPlace Mo_size
    rw [if_pos (show inb (3 : Int32) 14 by rw [zI_lit, zI_inb (by omega) (by omega)]; omega), show ix (3 : Int32) = 3 from rfl, h.2.1, bp_some, zI_lit]
    by_cases z : x < 0
    · rw [if_pos (by rw [zI_lt (by omega) (by omega) (by omega) (by omega)]; exact z), decide_eq_false (by omega)]; rfl
    · rw [if_neg (by rw [zI_lt (by omega) (by omega) (by omega) (by omega)]; exact z)]
      by_cases w : x < (S : Int)
      · rw [if_neg (by rw [zI_le (by omega) (by omega) (by omega) (by omega)]; omega), decide_eq_true (by omega)]; rfl
      · rw [if_pos (by rw [zI_le (by omega) (by omega) (by omega) (by omega)]; omega), decide_eq_false (by omega)]; rfl
  unfold Mo_isFit
  rw [hp, bp_some]
  by_cases z : 0 ≤ x ∧ x < (S : Int)
  · rw [decide_eq_true z, if_neg (by rw [bI_ne]; decide), zI_lit, zI_lit, zI_pg ht1 ht2, zI_lit, if_pos (by rw [zI_eq (by omega) (by omega) (by omega) (by omega)]; omega)]
    by_cases u : x % (pg t : Int) = 0
    · rw [if_pos (by rw [zI_rem (by omega) x2 ht1 ht2]; exact u), rgB_t ⟨z.1, z.2, u⟩]; rfl
    · rw [if_neg (by rw [zI_rem (by omega) x2 ht1 ht2]; exact u), rgB_f (fun c => u c.2.2)]; rfl
  · rw [decide_eq_false z, if_pos (by rw [bI_ne]), rgB_f (fun c => z ⟨c.1, c.2.1⟩)]; rfl
