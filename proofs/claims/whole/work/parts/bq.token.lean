/-! ===== reading a text: a token, as both sides take it ===== -/
/-- which word of the language a token is -/
def wIx (T : Nat → Nat) (q c : Nat) : Option Nat := fx (fun k => decide (wwd k = lts T q c)) 12 0
theorem wIx_6 {T : Nat → Nat} {q c : Nat} (hL : LT T q c) (hc : c ≤ 6) : fx (fun k => decide (wdg k = (p6 T q c : Int))) 12 0 = wIx T q c :=
  fx_cong 12 0 (fun j _ h2 => decide_eq_decide.mpr (word_iff hL hc (by omega)))
theorem wIx_7 {T : Nat → Nat} {q c : Nat} (hc : 6 < c) : wIx T q c = none := by
  have : ∀ m k, k + m = 12 → fx (fun k => decide (wwd k = lts T q c)) m k = none := by
    intro m
    induction m with
    | zero => intro k _; rfl
    | succ m ih =>
      intro k hk
      rw [fx_s, if_neg, ih (k + 1) (by omega)]
      rw [decide_eq_true_eq]
      intro e
      have h1 := (ww_ok ⟨k, by omega⟩).1
      dsimp only at h1
      rw [e, lts_len] at h1
      omega
  exact this 12 0 rfl
section
variable {T : Nat → Nat} {n q : Nat}
theorem c_words {v : Nat} (hv : v < 1073741824) : ∀ (m k f : Nat) (M : Mem), k + m = 12 → m < f → M 0 2 5 = zI 1 → tbl (M 0 48) wdT → ∃ M', Re_takeWord_98 f (zI (v : Int)) (zI (k : Int)) M = some ((), M') ∧ (∀ j a i, ¬ (j = 0 ∧ a = 2 ∧ (i = 5 ∨ i = 7)) → M' j a i = M j a i) ∧ (fx (fun k => decide (wdg k = (v : Int))) m k = none → M' 0 2 5 = zI 1 ∧ M' 0 2 7 = M 0 2 7) ∧ ∀ j, fx (fun k => decide (wdg k = (v : Int))) m k = some j → M' 0 2 5 = zI 2 ∧ M' 0 2 7 = zI (j : Int) := by
  intro m
  induction m with
  | zero =>
    intro k f M hk hf h5 ht
    obtain ⟨g, rfl⟩ : ∃ g, f = g + 1 := ⟨f - 1, by omega⟩
    exact ⟨M, by rw [Re_takeWord_98, if_pos (by rw [zI_lit, zI_le (by omega) (by omega) (by omega) (by omega)]; omega)], fun _ _ _ _ => rfl, fun _ => ⟨h5, rfl⟩, fun j hj => by cases hj⟩
  | succ m ih =>
    intro k f M hk hf h5 ht
    obtain ⟨g, rfl⟩ : ∃ g, f = g + 1 := ⟨f - 1, by omega⟩
    obtain ⟨w1, w2, w3⟩ := wd_at ⟨k, by omega⟩
    dsimp only at w1 w2 w3
    have e48 := ht k _ w1
    rw [fx_s]
    by_cases z : wdg k = (v : Int)
    · rw [if_pos (decide_eq_true z)]
      refine ⟨wrM (wrM M 0 2 5 (2 : Int32)) 0 2 7 (zI (k : Int)), ?_, fun j a i g => by rw [wrM_ap, if_neg (by omega), wrM_ap, if_neg (by omega)], fun h => (by cases h), fun j hj => ?_⟩
      · obtain ⟨g', rfl⟩ : ∃ g', g = g' + 1 := ⟨g - 1, by omega⟩
        rw [Re_takeWord_98, if_neg (by rw [zI_lit, zI_le (by omega) (by omega) (by omega) (by omega)]; omega), if_pos (show M 0 2 5 = (1 : Int32) from h5), if_pos (zI_in (by omega) (by omega)), zI_ixn (by omega), e48, if_pos (by rw [z]), bnd_ap, bnd_ap, Re_takeWord_133, bnd_ap, zI_s1, Re_takeWord_98]
        by_cases y : (12 : Int32) ≤ zI ((k + 1 : Nat) : Int)
        · rw [if_pos y]
        · rw [if_neg y, if_neg]
          rw [wrM_ap, if_neg (by omega), wrM_ap, if_pos ⟨rfl, rfl, rfl⟩]; decide
      · have := Option.some.inj hj
        subst this
        exact ⟨by rw [wrM_ap, if_neg (by omega), wrM_ap, if_pos ⟨rfl, rfl, rfl⟩]; rfl, by rw [wrM_ap, if_pos ⟨rfl, rfl, rfl⟩]⟩
    · rw [if_neg (by rw [decide_eq_true_eq]; exact z)]
      obtain ⟨M', q1, q2, q3, q4⟩ := ih (k + 1) g M (by omega) (by omega) h5 ht
      refine ⟨M', ?_, q2, q3, q4⟩
      rw [Re_takeWord_98, if_neg (by rw [zI_lit, zI_le (by omega) (by omega) (by omega) (by omega)]; omega), if_pos (show M 0 2 5 = (1 : Int32) from h5), if_pos (zI_in (by omega) (by omega)), zI_ixn (by omega), e48, if_neg (by rw [zI_eq (by omega) (by omega) (by omega) (by omega)]; exact z), Re_takeWord_133, bnd_ap, zI_s1]
      exact q1
theorem c_word76 {c : Nat} (hL : LT T q c) (hc : c < 1000) {M : Mem} (ht : tbl (M 0 48) wdT) : ∃ M', Re_takeWord_76 (zI (pk T q c c : Int)) (zI (c : Int)) M = some ((), M') ∧ (∀ j a i, ¬ (j = 0 ∧ a = 2 ∧ (i = 5 ∨ i = 7)) → M' j a i = M j a i) ∧ (6 < c → M' 0 2 5 = zI 5) ∧ (c ≤ 6 → wIx T q c = none → M' 0 2 5 = zI 1 ∧ M' 0 2 7 = zI (p6 T q c : Int)) ∧ ∀ j, c ≤ 6 → wIx T q c = some j → M' 0 2 5 = zI 2 ∧ M' 0 2 7 = zI (j : Int) := by
  by_cases z : c ≤ 6
  · rw [pk_c z]
    have fr : ∀ j a i, ¬ (j = 0 ∧ a = 2 ∧ (i = 5 ∨ i = 7)) → wrM (wrM M 0 2 5 (1 : Int32)) 0 2 7 (zI (p6 T q c : Int)) j a i = M j a i := fun j a i g => by rw [wrM_ap, if_neg (by omega), wrM_ap, if_neg (by omega)]
    obtain ⟨M', q1, q2, q3, q4⟩ := c_words (p6_lt hL) 12 0 1000000 (wrM (wrM M 0 2 5 (1 : Int32)) 0 2 7 (zI (p6 T q c : Int))) (by omega) (by omega) (by rw [wrM_ap, if_neg (by omega), wrM_ap, if_pos ⟨rfl, rfl, rfl⟩]; rfl) (fun i v h => by rw [fr 0 48 i (by omega)]; exact ht i v h)
    rw [wIx_6 hL z] at q3 q4
    refine ⟨M', ?_, fun j a i g => by rw [q2 j a i g, fr j a i g], fun h => by omega, fun _ h => ⟨(q3 h).1, ?_⟩, fun j _ h => q4 j h⟩
    · rw [Re_takeWord_76, if_pos (by rw [zI_lit, zI_le (by omega) (by omega) (by omega) (by omega)]; omega), Re_takeWord_88, bnd_ap, bnd_ap, bnd_ap]
      exact q1
    · rw [(q3 h).2, wrM_ap, if_pos ⟨rfl, rfl, rfl⟩]
  · refine ⟨wrM (wrM M 0 2 5 (5 : Int32)) 0 2 7 (zI (pk T q c c : Int)), ?_, fun j a i g => by rw [wrM_ap, if_neg (by omega), wrM_ap, if_neg (by omega)], fun _ => by rw [wrM_ap, if_neg (by omega), wrM_ap, if_pos ⟨rfl, rfl, rfl⟩]; rfl, fun h => absurd h z, fun j h => absurd h z⟩
    rw [Re_takeWord_76, if_neg (by rw [zI_lit, zI_le (by omega) (by omega) (by omega) (by omega)]; omega), Re_takeWord_88, bnd_ap, bnd_ap, bnd_ap]
    show Re_takeWord_98 (999999 + 1) _ _ _ = _
    rw [Re_takeWord_98, if_neg (by decide), if_neg]
    rw [wrM_ap, if_neg (by omega), wrM_ap, if_pos ⟨rfl, rfl, rfl⟩]; decide
/-- the reference's look at one word of its table -/
theorem m_w18 {μ : Sl} (k5 : Int32 → Int32 → Int32 → Int32 → Option Int32) (vk : Int32) {o L c : Nat} {wf : Nat → Nat} (ho : o + L < 69) (hq : q + c ≤ 700) (hW : ∀ j, j < L → μ 36 (o + j) = zI (wf j : Int) ∧ 97 ≤ wf j ∧ wf j ≤ 122) (hE : μ 36 (o + L) = zI 32) : ∀ (m i f : Nat), i + m = L → m < f → Mo_wordAt_18 k5 μ f (zI (q : Int)) (zI ((q + c : Nat) : Int)) vk (zI (o : Int)) (zI (i : Int)) = Mo_wordAt_52 k5 μ (zI (q : Int)) (zI ((q + c : Nat) : Int)) vk (zI (o : Int)) (zI (L : Int)) (bI (decide (L = c))) := by
  intro m
  induction m with
  | zero =>
    intro i f hi hf
    obtain ⟨g, rfl⟩ : ∃ g, f = g + 1 := ⟨f - 1, by omega⟩
    have : i = L := by omega
    subst this
    have e : zI ((q + c : Nat) : Int) - zI (q : Int) = zI (c : Int) := by rw [zI_sub]; congr 1; omega
    rw [Mo_wordAt_18, zI_add, show (o : Int) + (i : Int) = ((o + i : Nat) : Int) by omega, if_pos (zI_in (by omega) (by omega)), zI_ixn (by omega), hE, if_pos (show zI 32 = (32 : Int32) from rfl), e]
    by_cases z : i = c
    · rw [if_pos (by rw [z]), decide_eq_true z]; rfl
    · rw [if_neg (by rw [zI_eq (by omega) (by omega) (by omega) (by omega)]; omega), decide_eq_false z]; rfl
  | succ m ih =>
    intro i f hi hf
    obtain ⟨g, rfl⟩ : ∃ g, f = g + 1 := ⟨f - 1, by omega⟩
    obtain ⟨w1, w2, w3⟩ := hW i (by omega)
    rw [Mo_wordAt_18, zI_add, show (o : Int) + (i : Int) = ((o + i : Nat) : Int) by omega, if_pos (zI_in (by omega) (by omega)), zI_ixn (by omega), w1, if_neg (by rw [zI_lit, zI_eq (by omega) (by omega) (by omega) (by omega)]; omega), bnd_ap, zI_s1]
    exact ih (i + 1) g (by omega) (by omega)
theorem m_w57 {μ : Sl} (k5 : Int32 → Int32 → Int32 → Int32 → Option Int32) (vk : Int32) {o L c : Nat} {wf : Nat → Nat} (hn : n ≤ 700) (hT : TM μ T n) (hT2 : ∀ i, T i < 256) (ho : o + L < 69) (hq : q + c ≤ n) (hW : ∀ j, j < L → μ 36 (o + j) = zI (wf j : Int) ∧ 97 ≤ wf j ∧ wf j ≤ 122) : ∀ (m i f : Nat) (s : Bool), i + m = L → m < f → (s = true → L = c) → Mo_wordAt_57 k5 μ f (zI (q : Int)) (zI ((q + c : Nat) : Int)) vk (zI (o : Int)) (zI (L : Int)) (bI s) (zI (i : Int)) = Mo_wordAt_104 k5 μ (zI (q : Int)) (zI ((q + c : Nat) : Int)) vk (zI (o : Int)) (zI (L : Int)) (bI (s && (List.range' i m).all (fun j => decide (wf j = T (q + j))))) := by
  intro m
  induction m with
  | zero =>
    intro i f s hi hf hs
    obtain ⟨g, rfl⟩ : ∃ g, f = g + 1 := ⟨f - 1, by omega⟩
    rw [Mo_wordAt_57, if_pos (by rw [zI_le (by omega) (by omega) (by omega) (by omega)]; omega)]
    cases s <;> rfl
  | succ m ih =>
    intro i f s hi hf hs
    obtain ⟨g, rfl⟩ : ∃ g, f = g + 1 := ⟨f - 1, by omega⟩
    rw [Mo_wordAt_57, if_neg (by rw [zI_le (by omega) (by omega) (by omega) (by omega)]; omega)]
    cases s with
    | false => rw [if_pos (show bI false = 0 from rfl)]; rfl
    | true =>
      have hLc := hs rfl
      obtain ⟨w1, w2, w3⟩ := hW i (by omega)
      have hTi := hT2 (q + i)
      rw [if_neg (show ¬ bI true = 0 by decide), zI_add, show (o : Int) + (i : Int) = ((o + i : Nat) : Int) by omega, zI_add, show (q : Int) + (i : Int) = ((q + i : Nat) : Int) by omega, if_pos (zI_in (by omega) (by omega)), if_pos (zI_in (by omega) (by omega)), zI_ixn (by omega), zI_ixn (by omega), w1, hT (q + i) (by omega), Mo_wordAt_96, Mo_wordAt_96, bnd_ap, bnd_ap, bnd_ap, bnd_ap, zI_s1, List.range'_succ, List.all_cons, Bool.true_and]
      by_cases z : wf i = T (q + i)
      · have t := ih (i + 1) g true (by omega) (by omega) (fun _ => hLc)
        rw [if_pos (by rw [z]), decide_eq_true z, Bool.true_and]
        rw [Bool.true_and] at t
        exact t
      · have t := ih (i + 1) g false (by omega) (by omega) (fun h => by cases h)
        rw [if_neg (by rw [zI_eq (by omega) (by omega) (by omega) (by omega)]; omega), decide_eq_false z, Bool.false_and]
        rw [Bool.false_and] at t
        exact t
theorem m_words {μ : Sl} {c : Nat} (hn : n ≤ 700) (hT : TM μ T n) (hT2 : ∀ i, T i < 256) (hq : q + c ≤ n) (ht : tbl (μ 36) wrT) : ∀ (m k f : Nat), k + m = 12 → m < f → Mo_wordAt_5 μ f (zI (q : Int)) (zI ((q + c : Nat) : Int)) (zI (k : Int)) (zI (off k : Int)) = some (zI (cv (fx (fun k => decide (wwd k = lts T q c)) m k))) := by
  intro m
  induction m with
  | zero =>
    intro k f hk hf
    obtain ⟨g, rfl⟩ : ∃ g, f = g + 1 := ⟨f - 1, by omega⟩
    have : k = 12 := by omega
    subst this
    rw [Mo_wordAt_5, if_pos (by decide)]; rfl
  | succ m ih =>
    intro k f hk hf
    obtain ⟨g, rfl⟩ : ∃ g, f = g + 1 := ⟨f - 1, by omega⟩
    obtain ⟨t1, t2, t3, t4⟩ := ww_tab ⟨k, by omega⟩
    obtain ⟨w1, w2⟩ := ww_ok ⟨k, by omega⟩
    dsimp only at t1 t2 t3 t4 w1 w2
    have hW : ∀ j, j < (wwd k).length → μ 36 (off k + j) = zI ((wwd k).getD j 0 : Int) ∧ 97 ≤ (wwd k).getD j 0 ∧ (wwd k).getD j 0 ≤ 122 := fun j hj => by
      refine ⟨ht _ _ (t3 ⟨j, by omega⟩ hj), ?_⟩
      have e : (wwd k).getD j 0 = (wwd k)[j] := by rw [List.getD_eq_getElem?_getD, List.getElem?_eq_getElem hj]; rfl
      rw [e]
      exact w2 _ (List.getElem_mem hj)
    have hE : μ 36 (off k + (wwd k).length) = zI 32 := ht _ _ t4
    rw [Mo_wordAt_5, if_neg (by rw [zI_lit, zI_le (by omega) (by omega) (by omega) (by omega)]; omega), bnd_ap]
    show Mo_wordAt_18 (Mo_wordAt_5 μ g) μ 1000000 (zI (q : Int)) (zI ((q + c : Nat) : Int)) (zI (k : Int)) (zI (off k : Int)) (zI ((0 : Nat) : Int)) = _
    rw [m_w18 (wf := fun j => (wwd k).getD j 0) (L := (wwd k).length) _ _ (by omega) (by omega) hW hE (wwd k).length 0 1000000 (by omega) (by omega), Mo_wordAt_52, bnd_ap, bnd_ap]
    show Mo_wordAt_57 (Mo_wordAt_5 μ g) μ 1000000 (zI (q : Int)) (zI ((q + c : Nat) : Int)) (zI (k : Int)) (zI (off k : Int)) (zI ((wwd k).length : Int)) (bI (decide ((wwd k).length = c))) (zI ((0 : Nat) : Int)) = _
    rw [m_w57 (n := n) (wf := fun j => (wwd k).getD j 0) (L := (wwd k).length) _ _ hn hT hT2 (by omega) hq hW (wwd k).length 0 1000000 _ (by omega) (by omega) (fun h => of_decide_eq_true h), Mo_wordAt_104, bI_if, bnd_ap, bnd_ap, zI_s1, zI_s1, zI_add, show (off k : Int) + (((wwd k).length + 1 : Nat) : Int) = ((off (k + 1) : Nat) : Int) by omega, ih (k + 1) g (by omega) (by omega), fx_s]
    have eqw : (decide ((wwd k).length = c) && (List.range' 0 (wwd k).length).all (fun j => decide ((wwd k).getD j 0 = T (q + j)))) = decide (wwd k = lts T q c) := by
      by_cases z : wwd k = lts T q c
      · rw [decide_eq_true z]
        have hl : (wwd k).length = c := by rw [z, lts_len]
        rw [decide_eq_true hl, Bool.true_and, List.all_eq_true]
        intro j hj
        rw [List.mem_range'_1] at hj
        rw [decide_eq_true_eq, List.getD_eq_getElem?_getD, z, lts_at T q c (by omega)]; rfl
      · rw [decide_eq_false z]
        cases hh : (decide ((wwd k).length = c) && (List.range' 0 (wwd k).length).all (fun j => decide ((wwd k).getD j 0 = T (q + j)))) with
        | false => rfl
        | true =>
          exfalso
          rw [Bool.and_eq_true, decide_eq_true_eq, List.all_eq_true] at hh
          obtain ⟨hl, ha⟩ := hh
          refine z (List.ext_getElem? (fun j => ?_))
          by_cases y : j < c
          · have := ha j (by rw [List.mem_range'_1]; omega)
            rw [decide_eq_true_eq, List.getD_eq_getElem?_getD, List.getElem?_eq_getElem (by omega)] at this
            rw [lts_at T q c y, List.getElem?_eq_getElem (by omega)]
            exact congrArg some this
          · rw [List.getElem?_eq_none (by omega), List.getElem?_eq_none (by rw [lts_len]; omega)]
    rw [eqw]
    by_cases z : decide (wwd k = lts T q c) = true
    · rw [if_pos z, if_pos z]; rfl
    · rw [if_neg z, if_neg z]
end
