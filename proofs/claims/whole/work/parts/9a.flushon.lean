/-! ===== flush answers alike ===== -/
theorem jL_nodup {A : Ab} {N : Int} : ∀ (J : List Jb), J.Pairwise (fun a b => a.1 < b.1) → (∀ e, e ∈ J → JE A e N) → (jL J).Nodup
  | [], _, _ => by simp [jL]
  | e :: J, h1, h2 => by
    obtain ⟨a1, a2⟩ := List.pairwise_cons.mp h1
    obtain ⟨-, -, -, -, -, -, e7, e8⟩ := h2 e (by simp)
    have ih := jL_nodup J a2 (fun x hx => h2 x (by simp [hx]))
    show (e.2.2.2.2 ++ jL J).Nodup
    refine List.nodup_append.mpr ⟨e7.imp (fun {a b} hab => by intro z; subst z; omega), ih, fun a ha b hb z => ?_⟩
    subst z
    obtain ⟨f, f1, f2⟩ := List.mem_flatMap.mp hb
    have g1 := ((e8 a).mp ha).2
    have g2 := (((h2 f (by simp [f1])).2.2.2.2.2.2.2 a).mp f2).2
    have := a1 f f1
    omega
theorem jL_mem {A : Ab} {J : List Jb} {N : Int} (h : JA A J N) (x : Nat) : x ∈ jL J ↔ Lv A x ∧ A.1 10 x ≠ 0 := by
  obtain ⟨⟨j1, j2, j3⟩, j4, -⟩ := h
  constructor
  · intro hx
    obtain ⟨e, e1, e2⟩ := List.mem_flatMap.mp hx
    have g := ((j3 e e1).2.2.2.2.2.2.2 x).mp e2
    have := (j3 e e1).1
    exact ⟨g.1, by omega⟩
  · rintro ⟨h1, h2⟩
    obtain ⟨e, e1, e2⟩ := j4 x h1 h2
    exact List.mem_flatMap.mpr ⟨e, e1, ((j3 e e1).2.2.2.2.2.2.2 x).mpr ⟨h1, e2.symm⟩⟩
theorem jL_len {A : Ab} {J : List Jb} {N : Int} (h : JA A J N) : (jL J).length ≤ 192 := len192 (jL_nodup J h.1.2.1 h.1.2.2) (fun x hx => ((jL_mem h x).mp hx).1.1)
theorem JA_LQ {A : Ab} {J : List Jb} {N : Int} (h : JA A J N) : LQ (fun y => Lv A y ∧ A.1 10 y = 0) (jL J).length := by
  refine ⟨fun y hy => hy.1.1, fun l hl hq => ?_⟩
  rw [← List.length_append]
  refine len192 (List.nodup_append.mpr ⟨jL_nodup J h.1.2.1 h.1.2.2, hl, fun a ha b hb e => ?_⟩) (fun x hx => ?_)
  · subst e
    exact ((jL_mem h a).mp ha).2 (hq a hb).2
  · rcases List.mem_append.mp hx with hx | hx
    · exact ((jL_mem h x).mp hx).1.1
    · exact (hq x hx).1.1
theorem m_pend_loop {μ : Sl} {b : Nat} {B : Nat → Int} {J : List Jb} (hb : MB μ b) (hJ : JM B J) (h6 : J.length ≤ 6) : ∀ (post pre : List Jb) (k : Nat), J = pre ++ post → post.length < k →
    Mo_pendingMany_4 (bst μ b B) k (zI ((jL pre).length : Int)) (zI (pre.length : Int)) = some (zI ((jL J).length : Int)) := by
  have o1 := m_of hb B (k := 1944) (by omega) (by omega)
  rw [show (1944 : Int).toNat = 1944 from rfl, hJ.1] at o1
  intro post
  induction post with
  | nil =>
    intro pre k hl hk
    obtain ⟨c, rfl⟩ : ∃ c, k = c + 1 := ⟨k - 1, by omega⟩
    rw [List.append_nil] at hl
    subst hl
    rw [Mo_pendingMany_4, show (1944 : Int32) = zI 1944 from rfl, o1, bp_some, if_pos (by rw [zI_le (by omega) (by omega) (by omega) (by omega)]; omega)]
  | cons e post ih =>
    intro pre k hl hk
    obtain ⟨c, rfl⟩ : ∃ c, k = c + 1 := ⟨k - 1, by omega⟩
    have hlen : J.length = pre.length + post.length + 1 := by rw [hl]; simp; omega
    have he := (hJ.2.1 pre.length e (by rw [hl]; simp)).2.2.2.2
    have o2 := m_of hb B (k := ((1974 + pre.length : Nat) : Int)) (by omega) (by omega)
    rw [Int.toNat_natCast, he] at o2
    have hrec := ih (pre ++ [e]) c (by rw [hl]; simp) (by simp at hk; omega)
    have hp1 : (pre ++ [e]).length = pre.length + 1 := by simp
    have hp2 : (jL (pre ++ [e])).length = (jL pre).length + e.2.2.2.2.length := by unfold jL; simp
    rw [hp1, hp2] at hrec
    rw [Mo_pendingMany_4, show (1944 : Int32) = zI 1944 from rfl, o1, bp_some, if_neg (by rw [zI_le (by omega) (by omega) (by omega) (by omega)]; omega), show (1974 : Int32) = zI 1974 from rfl, zI_add, show (1974 : Int) + (pre.length : Int) = ((1974 + pre.length : Nat) : Int) by omega, o2, bp_some, bnd_ap, bnd_ap, zI_add, show (1 : Int32) = zI 1 from rfl, zI_add]
    exact hrec
theorem m_pend {μ : Sl} {b : Nat} {B : Nat → Int} {J : List Jb} (hb : MB μ b) (hJ : JM B J) (h6 : J.length ≤ 6) : Mo_pendingMany (bst μ b B) = some (zI ((jL J).length : Int)) := by
  have := m_pend_loop hb hJ h6 J [] FU rfl (FU_gt (by omega))
  unfold Mo_pendingMany
  rw [bnd_ap, bnd_ap]
  exact this
/-- the relation of the deeds and the jobs -/
def RC (n S : Nat) (δ : Sl) (σ : Nat → Nat) (bn : Nat) (B : Nat → Int) (A : Ab) (dep : Nat → Nat) (J : List Jb) (N : Int) : Prop :=
  WF n S A dep ∧ CRep δ σ bn A ∧ MRep B A ∧ WB δ B ∧ WD B A ∧ JA A J N ∧ JC δ J ∧ JM B J ∧ δ 10 4 = zI N ∧ B 2197 = N
theorem RC_T9 {n S : Nat} {δ : Sl} {σ : Nat → Nat} {bn : Nat} {B : Nat → Int} {A : Ab} {dep : Nat → Nat} {J : List Jb} {N : Int} (h : RC n S δ σ bn B A dep J N) (hN : N < 2147483648) : T9 A := fun x hx => by
  have := h.2.2.2.2.2.1.2.2.1.2 x hx
  omega
def FOut (n S : Nat) (δ : Sl) (μ : Sl) (b : Nat) (B : Nat → Int) (N : Int) (R1 R2 : Option (Int32 × Sl)) : Prop :=
  ∃ v δ' σ' bn' μ' B' A' dep' J' N' nc, R1 = some (zI v, δ') ∧ R2 = some (zI v, bst μ' b B') ∧ -6 ≤ v ∧ v ≤ 192 ∧ v ≠ -1 ∧ RC n S δ' σ' bn' B' A' dep' J' N' ∧ N ≤ N' ∧ N' ≤ N + 1 ∧ SC μ μ' ∧ (∀ a i, a ≠ 11 → ¬ (a = 10 ∧ (i = 3 ∨ i = 4)) → (a < 17 ∨ 33 < a) → δ' a i = δ a i) ∧ δ' 17 19 = δ 17 19 + zI (nc : Int) ∧ (∀ j, 1920 ≤ j → j < 1944 ∨ 1944 < j ∧ j < 1950 ∨ 2172 ≤ j → j ≠ 2197 → j ≠ 2198 → B' j = B j) ∧ B' 2198 = B 2198 + (nc : Int) ∧ QMq μ n S B B'
theorem JM_keep {B B' : Nat → Int} {J : List Jb} (h : JM B J) (h6 : J.length ≤ 6) (e : ∀ k, 1944 ≤ k → k < 1980 + (jL J).length → B' k = B k) : JM B' J := by
  obtain ⟨h1, h2, h3⟩ := h
  refine ⟨by rw [e _ (by omega) (by omega)]; exact h1, fun i x hx => ?_, fun i y hi => ?_⟩
  · have hi : i < J.length := (List.getElem?_eq_some_iff.mp hx).1
    rw [e _ (by omega) (by omega), e _ (by omega) (by omega), e _ (by omega) (by omega), e _ (by omega) (by omega), e _ (by omega) (by omega)]
    exact h2 i x hx
  · have hj : i < (jL J).length := (List.getElem?_eq_some_iff.mp hi).1
    rw [e _ (by omega) (by omega)]
    exact h3 i y hi
theorem JC_keep {δ δ' : Sl} {J : List Jb} (h : JC δ J) (e1 : δ' 10 3 = δ 10 3) (e2 : ∀ i, δ' 11 i = δ 11 i) : JC δ' J := by
  refine ⟨by rw [e1]; exact h.1, fun i x hx => ?_⟩
  rw [e2, e2, e2, e2]; exact h.2 i x hx
def flB (B : Nat → Int) (T : List Nat) (c : Nat) (j s p r len : Int) : Nat → Int := upB (tpB j T (jbB B c j s p r len)) 1944 ((c : Int) + 1)
theorem flB_low {B : Nat → Int} {T : List Nat} {c : Nat} {j s p r len : Int} {k : Nat} (h : k < 1728) : flB B T c j s p r len k = B k := by
  unfold flB tpB jbB
  simp only [upB_ap]
  rw [if_neg (by omega), if_neg (by omega), if_neg (by omega), if_neg (by omega), if_neg (by omega), if_neg (by omega), if_neg (by omega), if_neg (by omega)]
theorem flB_top {B : Nat → Int} {T : List Nat} {c : Nat} {j s p r len : Int} {d : Nat} (h : d < 192) : flB B T c j s p r len (1728 + d) = if d ∈ T then j else B (1728 + d) := by
  unfold flB tpB jbB
  simp only [upB_ap]
  rw [if_neg (by omega), show 1728 + d - 1728 = d by omega]
  by_cases z : d ∈ T
  · rw [if_pos ⟨by omega, z⟩, if_pos z]
  · rw [if_neg (fun y => z y.2), if_neg z, if_neg (by omega), if_neg (by omega), if_neg (by omega), if_neg (by omega), if_neg (by omega), if_neg (by omega)]
theorem flB_hi {B : Nat → Int} {T : List Nat} {c : Nat} {j s p r len : Int} (hT : ∀ x, x ∈ T → x < 192) {k : Nat} (h : 1920 ≤ k) : flB B T c j s p r len k = if k = 1944 then (c : Int) + 1 else jbB B c j s p r len k := by
  unfold flB tpB
  rw [upB_ap]
  by_cases z : k = 1944
  · rw [if_pos z, if_pos z]
  · rw [if_neg z, if_neg z, if_neg (fun y => by have := hT _ y.2; omega)]
theorem fl_MRep {n S : Nat} {B : Nat → Int} {A : Ab} {dep : Nat → Nat} {T L : List Nat} {c : Nat} {j s p r len : Int} (_h : WF n S A dep) (hM : MRep B A) : MRep (flB B T c j s p r len) (aF A j T L) := by
  have hfc := aF_FC A j T L
  have hlv := FC_lv hfc
  obtain ⟨m1, m2, m3, m4⟩ := hM
  refine ⟨fun d hd => by rw [flB_low (by omega), hfc.2 0 d (by omega)]; exact m1 d hd, fun d hd => ?_, fun g hg => ?_, fun d hd h3 => ?_⟩
  · have hd' := (hlv d).mp hd
    have hl := hd.1
    obtain ⟨a1, a2, a3, a4, a5⟩ := m2 d hd'
    rw [flB_low (by omega), flB_low (by omega), flB_low (by omega), flB_low (by omega), flB_top hl, hfc.2 1 d (by omega), hfc.2 2 d (by omega), hfc.2 3 d (by omega), hfc.2 8 d (by omega), aF_9, a5]
    exact ⟨a1, a2, a3, a4, rfl⟩
  · have hg' := (hlv g).mp hg
    have hl := hg.1
    obtain ⟨a1, a2, a3⟩ := m3 g hg'
    rw [hfc.1]
    refine ⟨(flB_low (k := 768 + g) (by omega)).trans a1, (flB_low (k := 960 + g) (by omega)).trans a2, fun l1 x l2 e => ?_⟩
    obtain ⟨b1, b2⟩ := a3 l1 x l2 e
    have hx : x < 192 := ((_h.2.2.2.2.2.1 g hg').2 x (by rw [e]; simp)).1.1
    exact ⟨(flB_low (k := 1344 + x) (by omega)).trans b1, (flB_low (k := 1152 + x) (by omega)).trans b2⟩
  · have hd' := (hlv d).mp hd
    have hl := hd.1
    rw [hfc.2 3 d (by omega)] at h3
    obtain ⟨a1, a2⟩ := m4 d hd' h3
    exact ⟨by rw [flB_low (by omega)]; exact a1, by rw [flB_low (by omega)]; exact a2⟩
theorem fl_JM {B : Nat → Int} {J : List Jb} {T L : List Nat} {j s p r : Int} (hJ : JM B J) (h6 : J.length < 6) (hT : ∀ x, x ∈ T → x < 192) (hP : PS B (jL J).length L) (hl : (jL J).length + L.length ≤ 192) : JM (flB B T J.length j s p r (L.length : Int)) (J ++ [(j, s, p, r, L)]) := by
  obtain ⟨h1, h2, h3⟩ := hJ
  refine ⟨?_, fun i e hi => ?_, fun i y hi => ?_⟩
  · rw [flB_hi hT (by omega), if_pos rfl, List.length_append]; rfl
  · rw [List.getElem?_append] at hi
    by_cases c : i < J.length
    · rw [if_pos c] at hi
      have := h2 i e hi
      rw [flB_hi hT (by omega), flB_hi hT (by omega), flB_hi hT (by omega), flB_hi hT (by omega), flB_hi hT (by omega)]
      unfold jbB
      simp only [upB_ap]
      simp (disch := omega) only [if_neg]
      exact this
    · rw [if_neg c] at hi
      have hi0 : i = J.length := by
        have := (List.getElem?_eq_some_iff.mp hi).1
        simp at this; omega
      subst hi0
      simp at hi
      subst hi
      rw [flB_hi hT (by omega), flB_hi hT (by omega), flB_hi hT (by omega), flB_hi hT (by omega), flB_hi hT (by omega)]
      unfold jbB
      simp only [upB_ap]
      simp (disch := omega) only [if_neg, if_pos]
      refine ⟨?_, ?_, ?_, ?_, ?_⟩ <;> simp
  · have e0 : jL (J ++ [(j, s, p, r, L)]) = jL J ++ L := by unfold jL; simp
    rw [e0, List.getElem?_append] at hi
    have hb : i < 192 := by
      by_cases c : i < (jL J).length
      · omega
      · rw [if_neg c] at hi
        have := (List.getElem?_eq_some_iff.mp hi).1
        omega
    rw [flB_hi hT (by omega), if_neg (by omega)]
    unfold jbB
    simp only [upB_ap]
    simp (disch := omega) only [if_neg]
    by_cases c : i < (jL J).length
    · rw [if_pos c] at hi; exact h3 i y hi
    · rw [if_neg c] at hi
      have := hP _ y hi
      rw [← this]; congr 1; omega
theorem fl_JC {δ : Sl} {J : List Jb} {L : List Nat} {j s p r : Int} (hJ : JC δ J) : JC (jbW δ J.length (zI j) (zI s) (zI p) (zI r)) (J ++ [(j, s, p, r, L)]) := by
  obtain ⟨h1, h2⟩ := hJ
  refine ⟨?_, fun i e hi => ?_⟩
  · unfold jbW; simp [wr_ap]
  · rw [List.getElem?_append] at hi
    by_cases c : i < J.length
    · rw [if_pos c] at hi
      have := h2 i e hi
      unfold jbW
      simp only [wr_ap]
      simp (disch := omega) only [if_neg]
      exact this
    · rw [if_neg c] at hi
      have hi0 : i = J.length := by
        have := (List.getElem?_eq_some_iff.mp hi).1
        simp at this; omega
      subst hi0
      simp at hi
      subst hi
      unfold jbW
      simp only [wr_ap]
      simp (disch := omega) only [if_neg, if_pos]
      refine ⟨?_, ?_, ?_, ?_⟩ <;> simp
