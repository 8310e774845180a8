/-! ===== the reference counts the pages that it hands on ===== -/
theorem pg_le {a c : Int} (h1 : 1 ≤ a) (h2 : a ≤ 4) (h3 : 1 ≤ c) (h4 : c ≤ 4) : pg a ≤ pg c ↔ ¬ c < a := by
  have ha : a = 1 ∨ a = 2 ∨ a = 3 ∨ a = 4 := by omega
  have hc : c = 1 ∨ c = 2 ∨ c = 3 ∨ c = 4 := by omega
  rcases ha with rfl | rfl | rfl | rfl <;> rcases hc with rfl | rfl | rfl | rfl <;> decide
theorem sW_le {A : Ab} {t r : Int} (ht1 : 1 ≤ t) (ht2 : t ≤ 4) : ∀ (l : List Nat), (∀ x, x ∈ l → 1 ≤ A.1 0 x) → sW A t r l ≤ 8 * l.length := by
  intro l
  unfold sW
  induction l with
  | nil => intro _; simp
  | cons x l ih =>
    intro hl
    have h1 := ih (fun y hy => hl y (by simp [hy]))
    have hx := hl x (by simp)
    have hm : pg (mo A t x) ≤ 8 := by
      unfold mo
      split
      · exact (pg_pos ht1 ht2).2
      · exact (pg_pos hx (by omega)).2
    by_cases h : la (A.1 2 x) r = 0
    · simp [h] at *; omega
    · simp [h] at *; omega
theorem m_map_pages {n S : Nat} {A : Ab} {dep : Nat → Nat} {t r : Int} {q0 p : Nat} {b : Nat} {μ : Sl} {B : Nat → Int} (hb : MB μ b) (h : WF n S A dep) (hM : MRep B A) (ht1 : 1 ≤ t) (ht2 : t ≤ 4) (hq : q0 + pg t ≤ 192) (hr1 : 0 ≤ r) (hr2 : r ≤ 7) (hT : TH μ (thr A q0 t)) (st p1 : Int32) : ∀ (q pre : List Nat) (k : Nat), thr A q0 t = pre ++ q → q.length < k →
    Mo_mapped_60 k st p1 (zI r) (zI (t - 1)) (zI (p : Int)) (zI (sW A t r pre : Int)) (zI (pre.length : Int)) (bst μ b B) = (if sW A t r (thr A q0 t) = 0 then some (zI (-5), bst μ b B) else bp (Mo_pagesIn (bst μ b B) st) fun r16 => bp (Mo_mostOf (bst μ b B) st) fun r17 => if r16 + zI (sW A t r (thr A q0 t) : Int) ≤ r17 then Mo_mapped_165 FU st p1 (zI r) (zI (t - 1)) (zI (p : Int)) (zI 0) (zI 0) (bst μ b B) else some (zI (-6), bst μ b B)) := by
  have hlen8 := thr_len (A := A) (q := q0) ht1 ht2
  have hmem : ∀ x, x ∈ thr A q0 t → Lv A x := fun x hx => thr_mem h ht1 ht2 hq hx
  have hpt := pg_pos ht1 ht2
  intro q
  induction q with
  | nil =>
    intro pre k hl hk
    obtain ⟨c, rfl⟩ : ∃ c, k = c + 1 := ⟨k - 1, by omega⟩
    simp at hl
    have e30 : bst μ b B 34 30 = zI (pre.length : Int) := by rw [bst_ne _ _ _ (by decide)]; rw [← hl]; exact hT.1
    have hle := sW_le (A := A) (r := r) ht1 ht2 pre (fun x hx => by have := (hmem x (by rw [hl]; exact hx)).2; omega)
    rw [hl] at hlen8 ⊢
    rw [Mo_mapped_60, e30, if_pos (by rw [zI_le (by omega) (by omega) (by omega) (by omega)]; omega)]
    by_cases hz : sW A t r pre = 0
    · rw [if_pos hz, hz, if_pos (show zI ((0 : Nat) : Int) = 0 from rfl)]; rfl
    · rw [if_neg hz, if_neg (by rw [zI_lit, zI_eq (by omega) (by omega) (by omega) (by omega)]; omega)]
      rfl
  | cons x q ih =>
    intro pre k hl hk
    obtain ⟨c, rfl⟩ : ∃ c, k = c + 1 := ⟨k - 1, by omega⟩
    have hlen : (thr A q0 t).length = pre.length + q.length + 1 := by rw [hl]; simp; omega
    have e30 : bst μ b B 34 30 = zI ((pre.length + q.length + 1 : Nat) : Int) := by rw [bst_ne _ _ _ (by decide), hT.1, hlen]
    have hlx : bst μ b B 47 pre.length = zI (x : Int) := by rw [bst_ne _ _ _ (by decide)]; exact hT.2 pre.length x (by rw [hl]; simp)
    have hx0 := hmem x (by rw [hl]; simp)
    have hx192 := hx0.1
    have hx02 := hx0.2
    obtain ⟨w1, w2, w3, w4, w5, w6, w7, w8, w9, w10, w11⟩ := h.2.2.2.1 x hx0
    obtain ⟨t1, t2, t3, t4, t5⟩ := hM.2.1 x hx0
    have hand := zI_and7 w8 w9 hr1 hr2
    have hor : Mo_of (bst μ b B) (zI (384 + (x : Int))) = some (zI (A.1 2 x)) := by rw [m_of hb B (by omega) (by omega), show (384 + (x : Int)).toNat = 384 + x by omega, t2]
    have hpg := m_pages hb h hM hx192
    have hl2 : thr A q0 t = (pre ++ [x]) ++ q := by rw [hl]; simp
    have hrec := ih (pre ++ [x]) c hl2 (by simp at hk; omega)
    have hle := sW_le (A := A) (r := r) ht1 ht2 pre (fun x hx => by have := (hmem x (by rw [hl]; simp [hx])).2; omega)
    have hpx := pg_pos (o := A.1 0 x) (by omega) (by omega)
    have hsn := sW_snoc A t r pre x
    have hplen : (pre ++ [x]).length = pre.length + 1 := by simp
    have h126 : ∀ v : Int32, Mo_mapped_126 (Mo_mapped_60 c) st p1 (zI r) (zI (t - 1)) (zI (p : Int)) v (zI (pre.length : Int)) (bst μ b B) = Mo_mapped_60 c st p1 (zI r) (zI (t - 1)) (zI (p : Int)) v (zI ((pre ++ [x]).length : Int)) (bst μ b B) := fun v => by
      unfold Mo_mapped_126; rw [bnd_ap, zI_lit, zI_add, hplen]; rfl
    rw [Mo_mapped_60, e30, if_neg (by rw [zI_le (by omega) (by omega) (by omega) (by omega)]; omega), if_pos (by rw [zI_inb (by omega) (by omega)]; omega), zI_ix (by omega) (by omega), Int.toNat_natCast, hlx, hpg, bp_some, bnd_ap, zI_lit, zI_add, hor, bp_some, hand.1]
    rw [if_pos (by rw [zI_inb (by omega) (by omega)]; omega)]
    by_cases hz : la (A.1 2 x) r = 0
    · rw [hz, if_pos (show zI 0 = 0 from rfl), h126, ← hrec, hsn, if_pos hz]; rfl
    · rw [if_neg (by rw [zI_lit, zI_eq (by omega) (by omega) (by omega) (by omega)]; exact hz), zI_lit, zI_lit, zI_pg ht1 ht2]
      rw [if_neg hz] at hsn
      by_cases hb' : t < A.1 0 x
      · rw [if_neg (by rw [zI_le (by omega) (by omega) (by omega) (by omega)]; have := pg_le (a := A.1 0 x) (c := t) (by omega) (by omega) ht1 ht2; omega)]
        unfold Mo_mapped_123
        rw [bnd_ap, zI_add, h126, ← hrec, hsn, show mo A t x = t from if_pos hb']; rfl
      · rw [if_pos (by rw [zI_le (by omega) (by omega) (by omega) (by omega)]; have := pg_le (a := A.1 0 x) (c := t) (by omega) (by omega) ht1 ht2; omega)]
        unfold Mo_mapped_123
        rw [bnd_ap, zI_add, h126, ← hrec, hsn, show mo A t x = A.1 0 x from if_neg hb']; rfl
