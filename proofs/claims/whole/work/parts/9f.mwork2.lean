/-! ===== a step of work: the reference, whole ===== -/
theorem MR_w1 {n S : Nat} {A : Ab} {dep : Nat → Nat} {B B' : Nat → Int} {x : Nat} {v : Int} (h : WF n S A dep) (hx : Lv A x) (hM : MRep B A) (e : ∀ k, k < 1920 → B' k = if k = 384 + x then v else B k) : MRep B' (aW1 A x v) := by
  have hx1 := hx.1
  obtain ⟨m1, m2, m3, m4⟩ := hM
  have h2 : ∀ y, (aW1 A x v).1 2 y = if y = x then v else A.1 2 y := fun y => by
    show (if 2 = 2 ∧ y = x then v else (setA A 10 x 0).1 2 y) = _
    by_cases c : y = x
    · rw [if_pos ⟨rfl, c⟩, if_pos c]
    · rw [if_neg (fun z => c z.2), if_neg c, setA_ne _ _ (by omega)]
  refine ⟨fun d hd => by rw [e d (by omega), if_neg (by omega), aW1_j (by omega) (by omega)]; exact m1 d hd, fun d hd => ?_, fun g hg => ?_, fun d hd h3 => ?_⟩
  · have hd' := (aW1_lv d).mp hd
    have hl := hd.1
    obtain ⟨a1, a2, a3, a4, a5⟩ := m2 d hd'
    rw [e _ (by omega), e _ (by omega), e _ (by omega), e _ (by omega), e _ (by omega), if_neg (by omega), if_neg (show ¬ 576 + d = 384 + x by omega), if_neg (show ¬ 1536 + d = 384 + x by omega), if_neg (show ¬ 1728 + d = 384 + x by omega), aW1_j (j := 1) (by omega) (by omega), aW1_j (j := 3) (by omega) (by omega), aW1_j (j := 8) (by omega) (by omega), aW1_j (j := 9) (by omega) (by omega), h2]
    refine ⟨a1, ?_, a3, a4, a5⟩
    by_cases c : d = x
    · rw [if_pos (by omega), if_pos c]
    · rw [if_neg (by omega), if_neg c]; exact a2
  · have hg' := (aW1_lv g).mp hg
    have hl := hg.1
    obtain ⟨a1, a2, a3⟩ := m3 g hg'
    have hlow : ∀ k, 768 ≤ k → k < 1920 → B' k = B k := fun k g1 g2 => by rw [e k g2, if_neg (by omega)]
    refine ⟨(hlow (768 + g) (by omega) (by omega)).trans a1, (hlow (960 + g) (by omega) (by omega)).trans a2, fun l1 y l2 e => ?_⟩
    obtain ⟨b1, b2⟩ := a3 l1 y l2 e
    have hy : y < 192 := ((h.2.2.2.2.2.1 g hg').2 y (by
      have e' : A.2 g = l1 ++ y :: l2 := e
      rw [e']; simp)).1.1
    exact ⟨(hlow (1344 + y) (by omega) (by omega)).trans b1, (hlow (1152 + y) (by omega) (by omega)).trans b2⟩
  · have hd' := (aW1_lv d).mp hd
    have hl := hd.1
    rw [aW1_j (by omega) (by omega)] at h3
    obtain ⟨a1, a2⟩ := m4 d hd' h3
    have hlow : ∀ k, 768 ≤ k → k < 1920 → B' k = B k := fun k g1 g2 => by rw [e k g2, if_neg (by omega)]
    exact ⟨(hlow _ (by omega) (by omega)).trans a1, (hlow _ (by omega) (by omega)).trans a2⟩
theorem MR_e {n S : Nat} {A : Ab} {dep : Nat → Nat} {B B' : Nat → Int} {id : Int} (h : WF n S A dep) (hM : MRep B A) (e : ∀ k, k < 1728 → B' k = B k) (e9 : ∀ d, Lv A d → B' (1728 + d) = if A.1 9 d = id then 0 else A.1 9 d) : MRep B' (aE A id) := by
  obtain ⟨m1, m2, m3, m4⟩ := hM
  have hlv : ∀ y, Lv (aE A id) y ↔ Lv A y := fun y => by unfold Lv; rw [aE_ne _ _ (by omega)]
  refine ⟨fun d hd => by rw [e d (by omega), aE_ne _ _ (by omega)]; exact m1 d hd, fun d hd => ?_, fun g hg => ?_, fun d hd h3 => ?_⟩
  · have hd' := (hlv d).mp hd
    have hl := hd.1
    obtain ⟨a1, a2, a3, a4, a5⟩ := m2 d hd'
    rw [e _ (by omega), e _ (by omega), e _ (by omega), e _ (by omega), e9 d hd', aE_ne _ _ (by omega), aE_ne _ _ (by omega), aE_ne _ _ (by omega), aE_ne _ _ (by omega), aE_9]
    exact ⟨a1, a2, a3, a4, rfl⟩
  · have hg' := (hlv g).mp hg
    have hl := hg.1
    obtain ⟨a1, a2, a3⟩ := m3 g hg'
    refine ⟨(e (768 + g) (by omega)).trans a1, (e (960 + g) (by omega)).trans a2, fun l1 y l2 ee => ?_⟩
    obtain ⟨b1, b2⟩ := a3 l1 y l2 ee
    have hy : y < 192 := ((h.2.2.2.2.2.1 g hg').2 y (by
      have e' : A.2 g = l1 ++ y :: l2 := ee
      rw [e']; simp)).1.1
    exact ⟨(e (1344 + y) (by omega)).trans b1, (e (1152 + y) (by omega)).trans b2⟩
  · have hd' := (hlv d).mp hd
    have hl := hd.1
    rw [aE_ne _ _ (by omega)] at h3
    obtain ⟨a1, a2⟩ := m4 d hd' h3
    exact ⟨(e _ (by omega)).trans a1, (e _ (by omega)).trans a2⟩
theorem ov_hi {B : Nat → Int} {k : Nat} (h : 1920 ≤ k) : ovB B k = if k = 1944 then B 1944 - 1 else if 1950 ≤ k ∧ k < 1980 ∧ (k - 1950) % 6 + 1 < 6 then B (k + 1) else B k := by
  have e : ∀ q, 1920 ≤ q → joB 192 B q = B q := fun q hq => by unfold joB; rw [if_neg (by omega)]
  unfold ovB
  rw [upB_ap, e 1944 (by omega)]
  unfold roB
  rw [e k h, e (k + 1) (by omega)]
theorem ov_row {B : Nat → Int} {k : Nat} (h1 : 1950 ≤ k) (h2 : k < 1980) (h3 : (k - 1950) % 6 < 5) : ovB B k = B (k + 1) := by
  rw [ov_hi (by omega), if_neg (by omega), if_pos (by omega)]
theorem ov_top {B : Nat → Int} {d : Nat} (h : d < 192) : ovB B (1728 + d) = if zI (B (1728 + d)) = zI (B 1950) then 0 else B (1728 + d) := by
  unfold ovB
  rw [upB_ap, if_neg (by omega)]
  unfold roB
  rw [if_neg (by omega)]
  unfold joB
  by_cases c : zI (B (1728 + d)) = zI (B 1950)
  · rw [if_pos ⟨by omega, by omega, c⟩, if_pos c]
  · rw [if_neg (fun z => c z.2.2), if_neg c]
theorem m_once70 {n S : Nat} {A : Ab} {dep : Nat → Nat} {μ : Sl} {b : Nat} {B : Nat → Int} {N id s p r : Int} {L : List Nat} {J : List Jb} (hb : MB μ b) (hW : WF n S A dep) (hM : MRep B A) (h : JA0 A ((id, s, p, r, L) :: J) N) (hN : N < 2147483648) (hJ : JM B ((id, s, p, r, L) :: J)) :
    ∃ B', Mo_isWorking_119 (bst μ b B) = some (1, bst μ b B') ∧ MRep B' (if L = [] then aE A id else A) ∧ JM B' (jW id s p r L J) ∧ (∀ k, 1920 ≤ k → k < 1944 ∨ 1944 < k ∧ k < 1950 ∨ 2172 ≤ k → k ≠ 2201 → B' k = B k) ∧ B' 2201 = B 2201 + 1 := by
  have hlen : (jL ((id, s, p, r, L) :: J)).length ≤ 192 := by
    refine len192 ?_ (fun x hx => ?_)
    · have key : ∀ (K : List Jb), K.Pairwise (fun a b => a.1 < b.1) → (∀ e, e ∈ K → JE0 A e N) → (jL K).Nodup := by
        intro K
        induction K with
        | nil => intro _ _; simp [jL]
        | cons e K ih =>
          intro h1 h2
          obtain ⟨a1, a2⟩ := List.pairwise_cons.mp h1
          obtain ⟨-, -, -, -, -, e7, e8⟩ := h2 e (by simp)
          show (e.2.2.2.2 ++ jL K).Nodup
          refine List.nodup_append.mpr ⟨e7.imp (fun {a b} hab => by intro z; subst z; omega), ih a2 (fun x hx => h2 x (by simp [hx])), fun a ha b hb z => ?_⟩
          subst z
          obtain ⟨f, f1, f2⟩ := List.mem_flatMap.mp hb
          have g1 := ((e8 a).mp ha).2
          have g2 := (((h2 f (by simp [f1])).2.2.2.2.2.2 a).mp f2).2
          have := a1 f f1
          omega
      exact key _ h.1.2.1 h.1.2.2
    · obtain ⟨e, e1, e2⟩ := List.mem_flatMap.mp hx
      exact (((h.1.2.2 e e1).2.2.2.2.2.2 x).mp e2).1.1
  have hJl : J.length + 1 ≤ 6 := by simpa using h.1.1
  obtain ⟨j1, j2, j3⟩ := hJ
  have r0 := j2 0 _ rfl
  have o1 := m_more hb B (k := 2201) (by omega) (by omega)
  rw [show (2201 : Int).toNat = 2201 from rfl] at o1
  have o2 := m_of hb (upB B 2201 (B 2201 + 1)) (k := 1974) (by omega) (by omega)
  have r04 : B 1974 = (L.length : Int) := r0.2.2.2.2
  have r00 : B 1950 = id := r0.1
  rw [show (1974 : Int).toNat = 1974 from rfl, upB_ap, if_neg (by omega), r04] at o2
  have hLl : L.length ≤ 192 := by
    have : (jL ((id, s, p, r, L) :: J)).length = L.length + (jL J).length := by show (L ++ jL J).length = _; simp
    omega
  have hid := h.1.2.2 _ (List.mem_cons_self ..)
  have hid1 : 0 < id := hid.1
  have hid2 : id ≤ N := hid.2.1
  rw [Mo_isWorking_119, show (2201 : Int32) = zI 2201 from rfl, o1, bd_some, show (1974 : Int32) = zI 1974 from rfl, o2, bp_some]
  by_cases c : L = []
  · subst c
    rw [if_pos (by rfl), m_jobOver hb, bd_some]
    refine ⟨_, rfl, ?_, ?_, fun k g1 g2 g3 => ?_, ?_⟩
    · rw [if_pos rfl]
      refine MR_e hW hM (fun k hk => ?_) (fun d hd => ?_)
      · unfold ovB roB joB
        rw [upB_ap, if_neg (by omega), if_neg (by omega), if_neg (by omega), upB_ap, if_neg (by omega)]
      · have hd1 := hd.1
        have r9 := h.2.2.1.2 d hd
        have e9 := (hM.2.1 d hd).2.2.2.2
        have u1 : upB B 2201 (B 2201 + 1) (1728 + d) = B (1728 + d) := by rw [upB_ap, if_neg (by omega)]
        have u2 : upB B 2201 (B 2201 + 1) 1950 = B 1950 := by rw [upB_ap, if_neg (by omega)]
        rw [ov_top hd1, u1, u2, e9, r00]
        by_cases c9 : A.1 9 d = id
        · rw [if_pos (by rw [c9]), if_pos c9]
        · rw [if_neg (by rw [zI_eq (by omega) (by omega) (by omega) (by omega)]; exact c9), if_neg c9]
    · unfold jW
      rw [if_pos rfl]
      refine ⟨?_, fun i e hi => ?_, fun i y hi => ?_⟩
      · rw [ov_hi (by omega), if_pos rfl, upB_ap, if_neg (by omega), j1]
        simp
      · have hil : i < J.length := (List.getElem?_eq_some_iff.mp hi).1
        have hr := j2 (i + 1) e (by rw [List.getElem?_cons_succ]; exact hi)
        rw [ov_row (by omega) (by omega) (by omega), ov_row (by omega) (by omega) (by omega), ov_row (by omega) (by omega) (by omega), ov_row (by omega) (by omega) (by omega), ov_row (by omega) (by omega) (by omega)]
        rw [upB_ap, if_neg (by omega), upB_ap, if_neg (by omega), upB_ap, if_neg (by omega), upB_ap, if_neg (by omega), upB_ap, if_neg (by omega)]
        exact hr
      · have hil : i < (jL J).length := (List.getElem?_eq_some_iff.mp hi).1
        have hjl : (jL ((id, s, p, r, []) :: J)) = jL J := rfl
        rw [hjl] at hlen j3
        rw [ov_hi (by omega), if_neg (by omega), if_neg (by omega), upB_ap, if_neg (by omega)]
        exact j3 i y hi
    · rw [ov_hi g1, if_neg (by omega), if_neg (by omega), upB_ap, if_neg g3]
    · rw [ov_hi (by omega), if_neg (by omega), if_neg (by omega), upB_ap, if_pos rfl]
  · have hlp : 0 < L.length := List.length_pos_iff.mpr c
    rw [if_neg (by rw [zI_lit, zI_eq (by omega) (by omega) (by omega) (by omega)]; omega)]
    refine ⟨_, rfl, ?_, ?_, fun k g1 g2 g3 => by rw [upB_ap, if_neg g3], by rw [upB_ap, if_pos rfl]⟩
    · rw [if_neg c]
      exact MR_low hW hM (fun k hk => by rw [upB_ap, if_neg (by omega)])
    · unfold jW
      rw [if_neg c]
      exact JM_keep ⟨j1, j2, j3⟩ h.1.1 (fun k g1 g2 => by rw [upB_ap, if_neg (by omega)])
theorem m_once {n S : Nat} {A : Ab} {dep : Nat → Nat} {μ : Sl} {b : Nat} {B : Nat → Int} {N id s p r : Int} {x : Nat} {L : List Nat} {J : List Jb} (hb : MB μ b) (hW : WF n S A dep) (hM : MRep B A) (h : JA A ((id, s, p, r, x :: L) :: J) N) (hN : N < 2147483648) (hJ : JM B ((id, s, p, r, x :: L) :: J)) :
    ∃ μ' B', Mo_isWorking (bst μ b B) = some (1, bst μ' b B') ∧ SC μ μ' ∧ MRep B' (aW A x id r L) ∧ JM B' (jW id s p r L J) ∧ (∀ k, 1920 ≤ k → k < 1944 ∨ 1944 < k ∧ k < 1950 ∨ 2172 ≤ k → k ≠ 2201 → B' k = B k) ∧ B' 2201 = B 2201 + 1 := by
  have hlen := jL_len h
  have hpm := m_pend hb hJ h.1.1
  obtain ⟨h0, hne⟩ := JA_0.mp h
  obtain ⟨e1, e2, e3, e4, e5, e7, e8⟩ := h0.1.2.2 _ (List.mem_cons_self ..)
  have e5' : 1 ≤ r ∧ r ≤ 7 := e5
  have e1' : 0 < id := e1
  have hL : ∀ y, y ∈ x :: L ↔ Lv A y ∧ A.1 10 y = id := e8
  have hx := (hL x).mp (by simp)
  have hx1 := hx.1.1
  have hjl : jL ((id, s, p, r, x :: L) :: J) = x :: (L ++ jL J) := rfl
  rw [hjl] at hlen hpm
  simp only [List.length_cons, List.length_append] at hlen hpm
  have hJl : J.length + 1 ≤ 6 := by simpa using h.1.1
  have hJ' := hJ
  obtain ⟨j1, j2, j3⟩ := hJ
  have r0 := j2 0 _ rfl
  have r04 : B 1974 = ((x :: L).length : Int) := r0.2.2.2.2
  have r03 : B 1968 = r := r0.2.2.2.1
  have hwa := hW.2.2.2.1 x hx.1
  have h2a : 0 ≤ A.1 2 x ∧ A.1 2 x ≤ 7 := ⟨hwa.2.2.2.2.2.2.2.1, hwa.2.2.2.2.2.2.2.2.1⟩
  obtain ⟨n1, n2, n3⟩ := zI_an (r := r) h2a.1 h2a.2 (by omega) e5'.2
  have hW1 : WF n S (aW1 A x (rwv A x r)) dep := aW1_WF hW n2 n3
  obtain ⟨q1, q2⟩ := JA_w1 (v := rwv A x r) h
  have hx1' : Lv (aW1 A x (rwv A x r)) x := (aW1_lv x).mpr hx.1
  have hfree : ∀ y, Lv (aW1 A x (rwv A x r)) y → bl (aW1 A x (rwv A x r)) x y = true → (aW1 A x (rwv A x r)).1 10 y = 0 := fun y hy hb => w_free hW h ((aW1_lv y).mp hy) (by rw [aW1_bl] at hb; exact hb)
  generalize hT : L.length + (jL J).length = T at *
  have hB1980 : B 1980 = (x : Int) := j3 0 x (by rw [hjl]; rfl)
  have o1 := m_of hb B (k := 1944) (by omega) (by omega)
  rw [show (1944 : Int).toNat = 1944 from rfl, j1] at o1
  have o2 := m_of hb B (k := 1980) (by omega) (by omega)
  rw [show (1980 : Int).toNat = 1980 from rfl, hB1980] at o2
  have hs := m_shift (B := B) hb (a := T + 1) (by omega) (zI (x : Int)) T 1 FU (by omega) (by omega) (FU_gt (by omega))
  have es : shB 1 B = B := by funext k; unfold shB; rw [if_neg (by omega)]
  rw [es] at hs
  have elow : ∀ k, k < 1980 → shB (T + 1) B k = B k := fun k hk => by unfold shB; rw [if_neg (by omega)]
  have b2 : B (384 + x) = A.1 2 x := (hM.2.1 x hx.1).2.1
  have o3 := m_of hb (shB (T + 1) B) (k := 1974) (by omega) (by omega)
  rw [show (1974 : Int).toNat = 1974 from rfl, elow _ (by omega), r04] at o3
  have o4 := m_lay hb (shB (T + 1) B) (k := 1974) (L.length : Int) (by omega) (by omega)
  rw [show (1974 : Int).toNat = 1974 from rfl] at o4
  have o5 := m_of hb (upB (shB (T + 1) B) 1974 (L.length : Int)) (k := ((384 + x : Nat) : Int)) (by omega) (by omega)
  rw [Int.toNat_natCast, upB_ap, if_neg (by omega), elow _ (by omega), b2] at o5
  have o6 := m_of hb (upB (shB (T + 1) B) 1974 (L.length : Int)) (k := 1968) (by omega) (by omega)
  rw [show (1968 : Int).toNat = 1968 from rfl, upB_ap, if_neg (by omega), elow _ (by omega), r03] at o6
  have o7 := m_lay hb (upB (shB (T + 1) B) 1974 (L.length : Int)) (k := ((384 + x : Nat) : Int)) (rwv A x r) (by omega) (by omega)
  rw [Int.toNat_natCast] at o7
  have o8 := m_of hb (upB (upB (shB (T + 1) B) 1974 (L.length : Int)) (384 + x) (rwv A x r)) (k := ((384 + x : Nat) : Int)) (by omega) (by omega)
  rw [Int.toNat_natCast, upB_ap, if_pos rfl] at o8
  have hrun : Mo_isWorking (bst μ b B) = if rwv A x r = 0 then (bd (Mo_goes (bst μ b (upB (upB (shB (T + 1) B) 1974 (L.length : Int)) (384 + x) (rwv A x r))) (zI (x : Int))) fun _ d15 => Mo_isWorking_119 d15) else Mo_isWorking_119 (bst μ b (upB (upB (shB (T + 1) B) 1974 (L.length : Int)) (384 + x) (rwv A x r))) := by
    rw [Mo_isWorking, show (1944 : Int32) = zI 1944 from rfl, o1, bp_some, if_neg (by simp only [List.length_cons]; rw [zI_lit, zI_eq (by omega) (by omega) (by omega) (by omega)]; omega), show (1980 : Int32) = zI 1980 from rfl, o2, bp_some, bnd_ap, hpm, bp_some, bnd_ap, bnd_ap]
    have hs' : Mo_isWorking_27 FU (zI (x : Int)) (zI ((T + 1 : Nat) : Int)) (1 : Int32) (bst μ b B) = wkE (zI (x : Int)) (bst μ b (shB (T + 1) B)) := hs
    rw [hs']
    unfold wkE
    have n1' : zI (A.1 2 x) &&& (zI r ^^^ -zI 1) = zI (A.1 2 x - la (A.1 2 x) r) := n1
    rw [show (1974 : Int32) = zI 1974 from rfl, o3, bp_some, show (1 : Int32) = zI 1 from rfl, zI_sub, show ((x :: L).length : Int) - 1 = (L.length : Int) by simp, o4, bd_some, show (384 : Int32) = zI 384 from rfl, zI_add, show (384 : Int) + (x : Int) = ((384 + x : Nat) : Int) by omega, o5, bp_some, show (1968 : Int32) = zI 1968 from rfl, o6, bp_some, n1']
    have o7' : Mo_lay (bst μ b (upB (shB (T + 1) B) 1974 (L.length : Int))) (zI ((384 + x : Nat) : Int)) (zI (A.1 2 x - la (A.1 2 x) r)) = _ := o7
    rw [o7', bd_some, o8, bp_some]
    by_cases c : rwv A x r = 0
    · rw [if_pos (by rw [c]; rfl), if_pos c]
    · have n2' : 0 ≤ rwv A x r := n2
      have n3' : rwv A x r ≤ 7 := n3
      rw [if_neg (by rw [zI_lit, zI_eq (by omega) (by omega) (by omega) (by omega)]; exact c), if_neg c]
  generalize hB2 : upB (upB (shB (T + 1) B) 1974 (L.length : Int)) (384 + x) (rwv A x r) = B2 at *
  have hB2v : ∀ k, B2 k = if k = 384 + x then rwv A x r else if k = 1974 then (L.length : Int) else shB (T + 1) B k := fun k => by rw [← hB2, upB_ap, upB_ap]
  have hM2 : MRep B2 (aW1 A x (rwv A x r)) := MR_w1 hW hx.1 hM (fun k hk => by
    rw [hB2v]
    by_cases c : k = 384 + x
    · rw [if_pos c, if_pos c]
    · rw [if_neg c, if_neg c, if_neg (by omega), elow _ (by omega)])
  have hJ2 : JM B2 ((id, s, p, r, L) :: J) := by
    refine ⟨?_, fun i e hi => ?_, fun i y hi => ?_⟩
    · rw [hB2v, if_neg (by omega), if_neg (by omega), elow _ (by omega), j1]; simp
    · have hil : i < J.length + 1 := by simpa using (List.getElem?_eq_some_iff.mp hi).1
      rw [hB2v, hB2v, hB2v, hB2v, hB2v, if_neg (by omega), if_neg (by omega), if_neg (by omega), if_neg (by omega), if_neg (by omega), if_neg (by omega), if_neg (by omega), if_neg (by omega), if_neg (by omega), elow _ (by omega), elow _ (by omega), elow _ (by omega), elow _ (by omega), elow _ (by omega)]
      cases i with
      | zero =>
        simp at hi; subst hi
        rw [if_pos (by omega)]
        exact ⟨r0.1, r0.2.1, r0.2.2.1, r0.2.2.2.1, rfl⟩
      | succ i =>
        rw [if_neg (by omega)]
        exact j2 (i + 1) e (by simpa using hi)
    · have hjl2 : jL ((id, s, p, r, L) :: J) = L ++ jL J := rfl
      rw [hjl2] at hi
      have hil : i < T := by have := (List.getElem?_eq_some_iff.mp hi).1; simp at this; omega
      rw [hB2v, if_neg (by omega), if_neg (by omega)]
      unfold shB
      rw [if_pos (by omega)]
      have := j3 (i + 1) y (by rw [hjl, List.getElem?_cons_succ]; exact hi)
      rw [← this]; congr 1
  have hfr2 : ∀ k, 1920 ≤ k → k < 1944 ∨ 1944 < k ∧ k < 1950 ∨ 2172 ≤ k → B2 k = B k := fun k g1 g2 => by
    rw [hB2v, if_neg (by omega), if_neg (by omega)]
    unfold shB
    rw [if_neg (by omega)]
  rw [hrun]
  by_cases c : rwv A x r = 0
  · rw [if_pos c]
    obtain ⟨g, hg⟩ : ∃ g : Nat, A.1 3 x = (g : Int) + 1 := by
      have := h.2.2.2.2.2.2 x hx.1 (by omega)
      rcases gv_or hW hx.1 with ⟨z, -⟩ | ⟨g, z, -⟩
      · exact absurd z this
      · exact ⟨g, z⟩
    obtain ⟨μ1, B3, k1, k2, k3, k4⟩ := mr_go hb hW1 hM2 hx1' (g := g) (by rw [aW1_j (by omega) (by omega)]; exact hg)
    have hJ3 : JM B3 ((id, s, p, r, L) :: J) := JM_keep hJ2 (by simpa using h.1.1) (fun k g1 g2 => k4 k (by omega))
    obtain ⟨B4, l1, l2, l3, l4, l5⟩ := m_once70 (SC_MB k2 hb) (WF_go hW1 hx1') k3 (JA_w2 hW1 hx1' hfree q1) hN hJ3
    refine ⟨μ1, B4, by rw [k1, bd_some, l1], k2, ?_, l3, fun k g1 g2 g3 => by rw [l4 k g1 g2 g3, k4 k g1, hfr2 k g1 g2], by rw [l5, k4 _ (by omega), hfr2 _ (by omega) (by omega)]⟩
    unfold aW aW2
    rw [if_pos c]; exact l2
  · rw [if_neg c]
    obtain ⟨B4, l1, l2, l3, l4, l5⟩ := m_once70 hb hW1 hM2 q1 hN hJ2
    refine ⟨μ, B4, l1, fun _ _ _ _ _ => rfl, ?_, l3, fun k g1 g2 g3 => by rw [l4 k g1 g2 g3, hfr2 k g1 g2], by rw [l5, hfr2 _ (by omega) (by omega)]⟩
    unfold aW aW2
    rw [if_neg c]; exact l2
