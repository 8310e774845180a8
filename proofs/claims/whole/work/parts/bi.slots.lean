/-! ===== slots against deeds: loops over all slots ===== -/
/-- the deed in a slot -/
def sl (σ : Nat → Nat) (A : Ab) (j : Nat) : Option Nat := (List.range 192).find? (fun d => decide (0 < A.1 0 d) && decide (σ d = j))
theorem sl_some {σ : Nat → Nat} {A : Ab} {j d : Nat} (h : sl σ A j = some d) : Lv A d ∧ σ d = j := by
  unfold sl at h
  have h1 := List.find?_some h
  have h2 := List.mem_of_find?_eq_some h
  simp only [Bool.and_eq_true, decide_eq_true_eq] at h1
  exact ⟨⟨List.mem_range.mp h2, h1.1⟩, h1.2⟩
theorem sl_of {δ : Sl} {σ : Nat → Nat} {bn : Nat} {A : Ab} (hC : CRep δ σ bn A) {d : Nat} (hd : Lv A d) : sl σ A (σ d) = some d := by
  cases h : sl σ A (σ d) with
  | some e =>
    obtain ⟨h1, h2⟩ := sl_some h
    rw [hC.1.2.2.2.1 e d h1 hd h2]
  | none =>
    unfold sl at h
    rw [List.find?_eq_none] at h
    have := h d (List.mem_range.mpr hd.1)
    simp [hd.2] at this
theorem sl_none {δ : Sl} {σ : Nat → Nat} {bn : Nat} {A : Ab} (hC : CRep δ σ bn A) (h4 : ∀ x, Lv A x → A.1 0 x ≤ 4) {j : Nat} (h : δ 21 j < 0) : sl σ A j = none := by
  cases e : sl σ A j with
  | none => rfl
  | some d =>
    obtain ⟨h1, h2⟩ := sl_some e
    have e21 := (hC.2.2.1 d h1).2.2.2.1
    rw [h2] at e21
    have := h1.2
    have := h4 d h1
    rw [e21, zI_lit, zI_lt (by omega) (by omega) (by omega) (by omega)] at h
    omega
theorem sl_live {δ : Sl} {σ : Nat → Nat} {bn : Nat} {A : Ab} (hC : CRep δ σ bn A) {j : Nat} (hj : j < bn) (h : ¬ δ 21 j < 0) : ∃ d, sl σ A j = some d ∧ Lv A d ∧ σ d = j := by
  obtain ⟨d, h1, h2⟩ := hC.1.2.2.2.2 j hj h
  exact ⟨d, by rw [← h2]; exact sl_of hC h1, h1, h2⟩
/-- the deeds in the order of their slots, from slot i on -/
def ldf (σ : Nat → Nat) (A : Ab) (i m : Nat) : List Nat := (List.range' i m).filterMap (sl σ A)
theorem ldf_0 (σ : Nat → Nat) (A : Ab) (i : Nat) : ldf σ A i 0 = [] := rfl
theorem ldf_none {σ : Nat → Nat} {A : Ab} {i : Nat} (h : sl σ A i = none) (m : Nat) : ldf σ A i (m + 1) = ldf σ A (i + 1) m := by
  unfold ldf
  rw [List.range'_succ, List.filterMap_cons_none h]
theorem ldf_some {σ : Nat → Nat} {A : Ab} {i d : Nat} (h : sl σ A i = some d) (m : Nat) : ldf σ A i (m + 1) = d :: ldf σ A (i + 1) m := by
  unfold ldf
  rw [List.range'_succ, List.filterMap_cons_some h]
theorem ldf_nd (σ : Nat → Nat) (A : Ab) : ∀ (m i : Nat), (ldf σ A i m).Nodup ∧ ∀ d, d ∈ ldf σ A i m → i ≤ σ d ∧ Lv A d := by
  intro m
  induction m with
  | zero => intro i; rw [ldf_0]; exact ⟨List.nodup_nil, fun d hd => absurd hd (List.not_mem_nil)⟩
  | succ m ih =>
    intro i
    obtain ⟨q1, q2⟩ := ih (i + 1)
    cases h : sl σ A i with
    | none =>
      rw [ldf_none h]
      exact ⟨q1, fun d hd => ⟨by have := (q2 d hd).1; omega, (q2 d hd).2⟩⟩
    | some e =>
      obtain ⟨e1, e2⟩ := sl_some h
      rw [ldf_some h]
      refine ⟨List.nodup_cons.mpr ⟨fun hm => by have := (q2 e hm).1; omega, q1⟩, fun d hd => ?_⟩
      rcases List.mem_cons.mp hd with rfl | hd
      · exact ⟨by omega, e1⟩
      · exact ⟨by have := (q2 d hd).1; omega, (q2 d hd).2⟩
/-- all deeds -/
def lvl (A : Ab) : List Nat := (List.range 192).filter (fun d => decide (0 < A.1 0 d))
theorem lvl_mem {A : Ab} {d : Nat} : d ∈ lvl A ↔ Lv A d := by
  unfold lvl
  rw [List.mem_filter, List.mem_range, decide_eq_true_eq]
  exact Iff.rfl
theorem lvl_nd (A : Ab) : (lvl A).Nodup := List.Pairwise.filter _ List.nodup_range
theorem ldf_perm {δ : Sl} {σ : Nat → Nat} {bn : Nat} {A : Ab} (hC : CRep δ σ bn A) : List.Perm (ldf σ A 0 bn) (lvl A) := by
  refine (List.perm_ext_iff_of_nodup (ldf_nd σ A bn 0).1 (lvl_nd A)).mpr (fun d => ?_)
  rw [lvl_mem]
  constructor
  · exact fun hd => ((ldf_nd σ A bn 0).2 d hd).2
  · intro hd
    unfold ldf
    rw [List.mem_filterMap]
    exact ⟨σ d, by rw [List.mem_range'_1]; have := hC.1.2.2.1 d hd; omega, sl_of hC hd⟩
/-- sums over a list -/
def sml (f : Nat → Nat) (l : List Nat) : Nat := (l.map f).sum
theorem sml_nil (f : Nat → Nat) : sml f [] = 0 := rfl
theorem sml_cons (f : Nat → Nat) (x : Nat) (l : List Nat) : sml f (x :: l) = f x + sml f l := by
  unfold sml; rw [List.map_cons, List.sum_cons]
theorem sml_perm (f : Nat → Nat) {l l' : List Nat} (h : List.Perm l l') : sml f l = sml f l' := by
  induction h with
  | nil => rfl
  | cons x _ ih => rw [sml_cons, sml_cons, ih]
  | swap x y l => rw [sml_cons, sml_cons, sml_cons, sml_cons]; omega
  | trans _ _ h1 h2 => exact h1.trans h2
theorem sml_app (f : Nat → Nat) (l l' : List Nat) : sml f (l ++ l') = sml f l + sml f l' := by
  induction l with
  | nil => rw [List.nil_append, sml_nil]; omega
  | cons x l ih => rw [List.cons_append, sml_cons, sml_cons, ih]; omega
theorem sml_filter (f : Nat → Nat) (p : Nat → Bool) : ∀ n, sml f ((List.range n).filter p) = fb_sm (fun d => if p d = true then f d else 0) n := by
  intro n
  induction n with
  | zero => rfl
  | succ n ih =>
    rw [List.range_succ, List.filter_append, sml_app, ih, fb_sm_succ]
    congr 1
    cases h : p n with
    | true => rw [List.filter_cons_of_pos h, List.filter_nil, sml_cons, sml_nil, if_pos rfl]; omega
    | false => rw [List.filter_cons_of_neg (by rw [h]; decide), List.filter_nil, sml_nil, if_neg (by decide)]
theorem sml_lvl (f : Nat → Nat) (A : Ab) : sml f (lvl A) = fb_sm (fun d => if 0 < A.1 0 d then f d else 0) 192 := by
  unfold lvl
  rw [sml_filter]
  exact fb_sm_cong fun k _ => by
    by_cases h : 0 < A.1 0 k
    · rw [if_pos (decide_eq_true h), if_pos h]
    · rw [if_neg (by rw [decide_eq_true_eq]; exact h), if_neg h]
theorem sml_le {f g : Nat → Nat} : ∀ {l : List Nat}, (∀ x, x ∈ l → f x ≤ g x) → sml f l ≤ sml g l := by
  intro l
  induction l with
  | nil => intro _; exact Nat.le_refl _
  | cons x l ih =>
    intro h
    rw [sml_cons, sml_cons]
    have := h x List.mem_cons_self
    have := ih (fun y hy => h y (List.mem_cons_of_mem _ hy))
    omega
theorem sml_cong {f g : Nat → Nat} : ∀ {l : List Nat}, (∀ x, x ∈ l → f x = g x) → sml f l = sml g l := by
  intro l
  induction l with
  | nil => intro _; rfl
  | cons x l ih =>
    intro h
    rw [sml_cons, sml_cons, h x List.mem_cons_self, ih (fun y hy => h y (List.mem_cons_of_mem _ hy))]
theorem lvl_len (A : Ab) : (lvl A).length ≤ 192 := by
  have := List.length_filter_le (fun d => decide (0 < A.1 0 d)) (List.range 192)
  rw [List.length_range] at this
  exact this
theorem sml_const (c : Nat) : ∀ l : List Nat, sml (fun _ => c) l = l.length * c := by
  intro l
  induction l with
  | nil => rw [sml_nil, List.length_nil]; omega
  | cons x l ih => rw [sml_cons, ih, List.length_cons, Nat.succ_mul]; omega
theorem sml_b {f : Nat → Nat} {c : Nat} {l : List Nat} (h : ∀ x, x ∈ l → f x ≤ c) : sml f l ≤ l.length * c := by
  rw [← sml_const c l]; exact sml_le h
/-- a sum over all deeds goes by spaces -/
theorem fb_blocks (f : Nat → Nat) (k : Nat) : ∀ n, fb_sm f (k * n) = fb_sm (fun s => fb_sm (fun p => f (k * s + p)) k) n := by
  intro n
  induction n with
  | zero => rw [Nat.mul_zero]; rfl
  | succ n ih => rw [Nat.mul_succ, fb_sm_split, ih, fb_sm_succ]
theorem fb_trunc {f : Nat → Nat} {m n : Nat} (h : ∀ k, m ≤ k → k < m + n → f k = 0) : fb_sm f (m + n) = fb_sm f m := by
  rw [fb_sm_split, fb_sm_cong (f := fun k => f (m + k)) (g := fun _ => 0) (fun k hk => h (m + k) (by omega) (by omega)), fb_sm_const, Nat.mul_zero, Nat.add_zero]
theorem all_pages {n S : Nat} {A : Ab} {dep : Nat → Nat} (h : WF n S A dep) : sml (fun d => pg (A.1 0 d)) (lvl A) = fb_sm (fun s => pgc A (32 * s) 32) n := by
  have hn := h.1
  have hS := h.2.1
  have hz : ∀ d, ¬ (0 < A.1 0 d) → d < 192 → pg (A.1 0 d) = 0 := fun d hd hd2 => by
    have := h.2.2.2.2.2.2.2 d hd2
    have e : A.1 0 d = 0 := by omega
    rw [e]; rfl
  rw [sml_lvl, fb_sm_cong (g := fun d => pg (A.1 0 d)) (fun d hd => by
    by_cases c : 0 < A.1 0 d
    · rw [if_pos c]
    · rw [if_neg c, hz d c hd]), show (192 : Nat) = 32 * 6 from rfl, fb_blocks]
  have out : ∀ s, s < 6 → ∀ p, p < 32 → (n ≤ s ∨ S ≤ p) → pg (A.1 0 (32 * s + p)) = 0 := fun s hs p hp ho => by
    refine hz _ (fun c => ?_) (by omega)
    have w := h.2.2.2.1 (32 * s + p) ⟨by omega, c⟩
    have w1 := w.2.2.1
    have w2 := w.2.2.2.1
    have := (pg_pos (o := A.1 0 (32 * s + p)) (by omega) w.1).1
    unfold pgs at w2
    omega
  have hin : ∀ s, s < 6 → fb_sm (fun p => pg (A.1 0 (32 * s + p))) 32 = pgc A (32 * s) 32 := fun s hs => by
    have e := fb_trunc (f := fun p => pg (A.1 0 (32 * s + p))) (m := S) (n := 32 - S) (fun k h1 h2 => out s hs k (by omega) (.inr h1))
    rw [show S + (32 - S) = 32 by omega] at e
    rw [e]; exact pages_sum h hs
  rw [show (6 : Nat) = n + (6 - n) by omega]
  rw [fb_trunc (fun s h1 h2 => ?_)]
  · exact fb_sm_cong fun s hs => hin s (by omega)
  · show fb_sm (fun p => pg (A.1 0 (32 * s + p))) 32 = 0
    rw [fb_sm_cong (g := fun _ => 0) (fun p hp => out s (by omega) p hp (.inl h1)), fb_sm_const]
section
variable {n S : Nat} {A : Ab} {dep : Nat → Nat} {δ : Sl} {σ : Nat → Nat} {bn : Nat} {μ : Sl} {b : Nat} {B : Nat → Int} {J : List Jb} {N : Int}
theorem wf4 (h : WF n S A dep) : ∀ x, Lv A x → A.1 0 x ≤ 4 := fun x hx => (h.2.2.2.1 x hx).1
theorem c_all_loop (h : WF n S A dep) (hC : CRep δ σ bn A) : ∀ (m i k a : Nat), i + m = bn → m < k → De_pagesOfAll_4 δ k (zI (a : Int)) (zI (i : Int)) = some (zI ((a + sml (fun d => pg (A.1 0 d)) (ldf σ A i m) : Nat) : Int)) := by
  have hbn := hC.1.1
  have e16 := hC.1.2.1
  intro m
  induction m with
  | zero =>
    intro i k a hi hk
    obtain ⟨c, rfl⟩ : ∃ c, k = c + 1 := ⟨k - 1, by omega⟩
    rw [De_pagesOfAll_4, e16, if_pos (by rw [zI_le (by omega) (by omega) (by omega) (by omega)]; omega), ldf_0, sml_nil]; rfl
  | succ m ih =>
    intro i k a hi hk
    obtain ⟨c, rfl⟩ : ∃ c, k = c + 1 := ⟨k - 1, by omega⟩
    have hib : inb (zI (i : Int)) 192 := by rw [zI_inb (by omega) (by omega)]; omega
    have nx : zI (i : Int) + (1 : Int32) = zI ((i + 1 : Nat) : Int) := by rw [show (1 : Int32) = zI 1 from rfl, zI_add]; congr 1
    rw [De_pagesOfAll_4, e16, if_neg (by rw [zI_le (by omega) (by omega) (by omega) (by omega)]; omega), if_pos hib, zI_ix (by omega) (by omega), Int.toNat_natCast]
    by_cases hu : δ 21 i < 0
    · rw [if_pos hu, De_pagesOfAll_32, bnd_ap, nx, ih (i + 1) c a (by omega) (by omega), ldf_none (sl_none hC (wf4 h) hu)]
    · obtain ⟨x, e, hx, he⟩ := sl_live hC (by omega) hu
      have e21 := (hC.2.2.1 x hx).2.2.2.1
      rw [he] at e21
      have := hx.2
      rw [if_neg hu, if_pos hib, e21, show (31 : Int32) = zI 31 from rfl, show (1 : Int32) <<< (zI (A.1 0 x - 1) &&& zI 31) = zI (pg (A.1 0 x) : Int) from zI_pg (by omega) (wf4 h x hx), bnd_ap, zI_add, De_pagesOfAll_32, bnd_ap, nx, show (a : Int) + (pg (A.1 0 x) : Int) = ((a + pg (A.1 0 x) : Nat) : Int) by omega, ih (i + 1) c (a + pg (A.1 0 x)) (by omega) (by omega), ldf_some e, sml_cons, Nat.add_assoc]
theorem c_all (h : WF n S A dep) (hC : CRep δ σ bn A) : De_pagesOfAll δ = some (zI ((fb_sm (fun s => pgc A (32 * s) 32) n : Nat) : Int)) := by
  have hbn := hC.1.1
  have t := c_all_loop h hC bn 0 1000000 0 (by omega) (by omega)
  rw [sml_perm _ (ldf_perm hC), all_pages h, Nat.zero_add] at t
  exact t
theorem m_all_loop (hb : MB μ b) (h : WF n S A dep) (hM : MRep B A) {qv : Nat → Int} (hm : SM μ n S qv) : ∀ (m i k a : Nat), i + m = n → m < k → Mo_pagesAll_4 (bst μ b B) k (zI (a : Int)) (zI (i : Int)) = some (zI ((a + fb_sm (fun s => pgc A (32 * (i + s)) 32) m : Nat) : Int)) := by
  have hn := h.1
  have e11 : bst μ b B 34 11 = zI (n : Int) := by rw [bst_ne _ _ _ (by omega)]; exact hm.1
  intro m
  induction m with
  | zero =>
    intro i k a hi hk
    obtain ⟨c, rfl⟩ : ∃ c, k = c + 1 := ⟨k - 1, by omega⟩
    rw [Mo_pagesAll_4, e11, if_pos (by rw [zI_le (by omega) (by omega) (by omega) (by omega)]; omega)]; rfl
  | succ m ih =>
    intro i k a hi hk
    obtain ⟨c, rfl⟩ : ∃ c, k = c + 1 := ⟨k - 1, by omega⟩
    have nx : zI (i : Int) + (1 : Int32) = zI ((i + 1 : Nat) : Int) := by rw [show (1 : Int32) = zI 1 from rfl, zI_add]; congr 1
    rw [Mo_pagesAll_4, e11, if_neg (by rw [zI_le (by omega) (by omega) (by omega) (by omega)]; omega), m_pagesIn hb h hM hm.2.1 (s := i) (by omega), bp_some, bnd_ap, zI_add, bnd_ap, nx, show (a : Int) + (pgc A (32 * i) 32 : Int) = ((a + pgc A (32 * i) 32 : Nat) : Int) by omega, ih (i + 1) c (a + pgc A (32 * i) 32) (by omega) (by omega)]
    have e := fb_sm_split (fun s => pgc A (32 * (i + s)) 32) 1 m
    rw [show 1 + m = m + 1 by omega] at e
    have e1 : fb_sm (fun s => pgc A (32 * (i + s)) 32) 1 = pgc A (32 * i) 32 := by
      show 0 + pgc A (32 * (i + 0)) 32 = _
      rw [Nat.zero_add, Nat.add_zero]
    rw [e, e1, fb_sm_cong (f := fun k => pgc A (32 * (i + (1 + k))) 32) (g := fun s => pgc A (32 * (i + 1 + s)) 32) (fun k _ => by rw [Nat.add_assoc]), Nat.add_assoc]
theorem m_all (hb : MB μ b) (h : WF n S A dep) (hM : MRep B A) {qv : Nat → Int} (hm : SM μ n S qv) : Mo_pagesAll (bst μ b B) = some (zI ((fb_sm (fun s => pgc A (32 * s) 32) n : Nat) : Int)) := by
  have hn := h.1
  have t := m_all_loop hb h hM hm n 0 1000000 0 (by omega) (by omega)
  rw [Nat.zero_add, fb_sm_cong (g := fun s => pgc A (32 * s) 32) (fun k _ => by rw [Nat.zero_add])] at t
  exact t
end
