/-! ===== a world begins ===== -/
def A0 : Ab := (fun _ _ => 0, fun _ => [])
theorem A0_n (d : Nat) : ¬ Lv A0 d := fun h => by have : (0 : Int) < 0 := h.2; omega
theorem fb_ct_f : ∀ n, fb_ct (fun _ => false) n = 0
  | 0 => rfl
  | n + 1 => by rw [fb_ct_succ, fb_ct_f n]; rfl
section
variable {n S : Nat} {δ : Sl} {B : Nat → Int}
/-- rows of a world with nothing in it -/
def NW (δ : Sl) (q : Nat) : Prop := (δ 17 16 = zI 0 ∧ δ 17 17 = zI 0 ∧ δ 17 18 = zI 0 ∧ δ 17 19 = zI 0) ∧ (∀ i, i < 192 → δ 32 i = zI (-1)) ∧ (∀ s, s < 6 → δ 15 s = zI 0 ∧ δ 14 s = zI 0) ∧ δ 10 0 = zI (q : Int) ∧ ∀ i, i = 3 ∨ i = 4 ∨ i = 8 ∨ i = 11 ∨ i = 12 ∨ i = 13 ∨ i = 14 → δ 10 i = zI 0
def NB (B : Nat → Int) : Prop := (∀ k, k < 2203 → B k = 0) ∧ ∀ i, i < 24 → B (2203 + i) = -9
theorem RC_nil {q : Nat} (hn : n ≤ 6) (hS : S = 8 ∨ S = 16 ∨ S = 32) (h : NW δ q) (hB : NB B) : RC n S δ (fun _ => 0) 0 B A0 (fun _ => 0) [] 0 := by
  obtain ⟨⟨e1, e2, e3, e4⟩, e5, e6, e7, e8⟩ := h
  have nl := A0_n
  have c0 : ∀ q, cov A0 q = none := fun q => by simp [cov, A0]
  have n0 : nlv A0 = 0 := by unfold nlv; rw [fb_ct_cong (q := fun _ => false) (fun k _ => by simp [A0])]; exact fb_ct_f 192
  have t0 : ntp A0 = 0 := by unfold ntp; rw [fb_ct_cong (q := fun _ => false) (fun k _ => by simp [A0])]; exact fb_ct_f 192
  have d0 : decide (zI 0 = zI 1) = false := by decide
  refine ⟨⟨hn, by omega, by omega, fun d h => absurd h (nl d), fun d h => absurd h (nl d), fun d h => absurd h (nl d), fun d e h => absurd h (nl d), fun d _ => Int.le_refl _⟩, ⟨⟨by omega, e1, fun d h => absurd h (nl d), fun d e h => absurd h (nl d), fun j hj => absurd hj (by omega)⟩, fun q hq => ?_, fun d h => absurd h (nl d), ⟨?_, ?_, fun d h => absurd h (nl d)⟩, fun _ => 0, fun _ => 0, fun _ => 0, fun _ => 0, fun d h => absurd h (nl d), fun d h => absurd h (nl d), fun d h => absurd h (nl d)⟩, ⟨fun d hd => hB.1 d (by omega), fun d h => absurd h (nl d), fun d h => absurd h (nl d), fun d h => absurd h (nl d)⟩, fun s hs => ?_, fun d h => absurd h (nl d), ⟨⟨by decide, List.Pairwise.nil, fun e h => absurd h List.not_mem_nil⟩, fun d h => absurd h (nl d), ⟨Int.le_refl _, fun d h => absurd h (nl d)⟩, fun d h => absurd h (nl d), fun d e h => absurd h (nl d), fun d e h => absurd h (nl d), fun d h => absurd h (nl d)⟩, ⟨e8 3 (by omega), fun i e h => by simp at h⟩, ⟨hB.1 1944 (by omega), fun i e h => by simp at h, fun i y h => by simp [jL] at h⟩, e8 4 (by omega), hB.1 2197 (by omega)⟩
  · rw [c0]; exact e5 q hq
  · rw [n0]; exact e2
  · rw [t0]; exact e3
  · rw [hB.1 _ (by omega), hB.1 _ (by omega), hB.1 _ (by omega), hB.1 _ (by omega), d0]; exact (e6 s hs).1
theorem WX_nil {q : Nat} (h : NW δ q) (hB : NB B) : WX (0, 0) n S δ B := by
  obtain ⟨⟨e1, e2, e3, e4⟩, e5, e6, e7, e8⟩ := h
  refine ⟨fun s hs => .inl ⟨hB.1 _ (by omega), (e6 s hs).2⟩, fun s t hs ht z => ?_, ⟨by rw [hB.1 _ (by omega)]; exact e8 8 (by omega), by rw [hB.1 _ (by omega)]; omega⟩, ⟨by rw [hB.1 _ (by omega)]; exact e8 12 (by omega), by rw [hB.1 _ (by omega)]; exact e8 13 (by omega), by rw [hB.1 _ (by omega)]; exact e8 14 (by omega), by rw [hB.1 _ (by omega)]; exact e4⟩, ⟨e8 11 (by omega), by rw [hB.1 _ (by omega)]; rfl, by show (0 : Int) ≤ 0; omega, by show (0 : Int) ≤ 24; omega⟩, fun i hi => ⟨fun z => absurd z (by show ¬ (i : Int) < 0; omega), fun _ => hB.2 i hi⟩⟩
  rw [hB.1 _ (by omega)] at z; omega
theorem wh_nil {q : Nat} (hn : n ≤ 6) (hS : S = 8 ∨ S = 16 ∨ S = 32) (h : NW δ q) (hB : NB B) : WH n S q δ B 0 :=
  ⟨_, _, A0, _, [], 0, 0, RC_nil hn hS h hB, WX_nil h hB, h.2.2.2.1, Int.le_refl _, by rw [hB.1 _ (by omega)]; omega⟩
/-- one piece of the first space -/
theorem root_on {σ : Nat → Nat} {bn : Nat} {A : Ab} {dep : Nat → Nat} (M : Mem) (hR : RC n S δ σ bn B A dep [] 0) (hX : WX (0, 0) n S δ B) (hn : 1 ≤ n) {i : Nat} (hi : 8 * i + 8 ≤ S) (hfr : ∀ e, Lv A e → e + pgs A e ≤ 8 * i) {μ : Sl} (hb : MB μ 0) :
    ∃ r δ1 δ2 σ' bn' B' A' dep', De_make δ (0 : Int32) (zI ((8 * i : Nat) : Int)) (zI ((8 * i : Nat) : Int)) (3 : Int32) (7 : Int32) = some (r, δ1) ∧ Wo_widen M δ1 (0 : Int32) (zI ((8 * i : Nat) : Int)) (3 : Int32) = some ((), δ2) ∧ Mo_comes (bst μ 0 B) (zI ((8 * i : Nat) : Int)) (3 : Int32) (zI ((8 * i : Nat) : Int)) (7 : Int32) (-1 : Int32) (0 : Int32) = some ((), bst μ 0 B') ∧ RC n S δ2 σ' bn' B' A' dep' [] 0 ∧ WX (0, 0) n S δ2 B' ∧ (∀ k, δ2 10 k = δ 10 k) ∧ (∀ k, 2172 ≤ k → B' k = B k) ∧ ∀ e, Lv A' e → e + pgs A' e ≤ 8 * (i + 1) := by
  obtain ⟨hW, hC, hM, hWB, hWD, hJ, hJC, hJM, h4, h97⟩ := hR
  have hS32 := hW.2.1
  have p4 : pg 4 = 8 := rfl
  have hnl : ¬ Lv A (8 * i) := fun h => by
    have h1 := hfr _ h
    have h2 := hW.2.2.2.1 _ h
    have h3 : 0 < pgs A (8 * i) := by
      have := h.2
      have := h2.1
      have hc : A.1 0 (8 * i) = 1 ∨ A.1 0 (8 * i) = 2 ∨ A.1 0 (8 * i) = 3 ∨ A.1 0 (8 * i) = 4 := by omega
      unfold pgs
      rcases hc with e | e | e | e <;> rw [e] <;> decide
    omega
  obtain ⟨dep', hW'⟩ := WF_add (d := 8 * i) (o := 4) (f := ((8 * i : Nat) : Int)) (r := 7) (g := 0) (a := 0) hW (by omega) (by omega) (by omega) (by rw [p4]; omega) (by omega) (by rw [p4]; omega) (by omega) (by rw [p4]; omega) (by rw [p4]; omega) (by omega) (by omega) (by omega) (by omega) (fun e he => .inl (hfr e he)) (.inl rfl)
  have hKW := WF_KW hW
  obtain ⟨j, bn', j1, j2, j3, j4⟩ := cr_make (d := 8 * i) (f := ((8 * i : Nat) : Int)) (o := 4) (r := 7) hC.1 (fun q hq _ => hC.2.1 q hq) hC.2.2.1 hC.2.2.2.1 hC.2.2.2.2 (WF_WS hW) (WF_WS hW') hKW (by omega) (by omega) (by rw [p4]; omega) hnl
  have e1 : 8 * i / 32 = 0 := by omega
  have e2 : 8 * i % 32 = 8 * i := by omega
  rw [e1, e2] at j2
  have hm15 : ∀ a i', (a < 17 ∨ 32 < a) → mkS δ j bn (8 * i) ((8 * i : Nat) : Int) 4 7 a i' = δ a i' := fun a i' ha => by
    unfold mkS; rw [if_neg (by omega), if_neg (by omega), if_neg (by omega), if_neg (by omega)]
  have hm19 : mkS δ j bn (8 * i) ((8 * i : Nat) : Int) 4 7 17 19 = δ 17 19 := by
    unfold mkS; rw [if_neg (by omega), if_neg (by omega), if_neg (by omega), if_neg (by omega)]
  have hWB2 : WB (mkS δ j bn (8 * i) ((8 * i : Nat) : Int) 4 7) B := fun s' hs' => by rw [hm15 15 s' (by omega)]; exact hWB s' hs'
  obtain ⟨δ3, w1, w2, w3⟩ := c_widen hWB2 M (s := 0) (p := 8 * i) (o := 4) (by omega) (by omega) (by omega) (by omega)
  obtain ⟨m1, m2, m3⟩ := mr_add (d := 8 * i) (o := 4) (f := ((8 * i : Nat) : Int)) (r := 7) (g := 0) (a := 0) hM hKW (by omega) hnl (by omega) (.inl rfl)
  have mc := m_comes hb B (d := 8 * i) (o := 4) (f := ((8 * i : Nat) : Int)) (r := 7) (g := 0) (a := 0) (by omega) (by omega) (by omega) (by omega) (by omega) (fun z => absurd z (by omega))
  have wdl : wdc (8 * i) < 1944 := by unfold wdc; omega
  have big : ∀ k, 1944 ≤ k → cms B (8 * i) 4 ((8 * i : Nat) : Int) 7 0 0 k = B k := fun k hk => by rw [m2 k (by omega), if_neg (by omega)]
  refine ⟨_, _, δ3, _, bn', _, _, dep', j2, w1, mc, ⟨hW', cr_frame j3 (fun a i h1 h2 => w2 a i (by omega)) (w2 _ _ (by omega)) (w2 _ _ (by omega)) (w2 _ _ (by omega)), m1, w3 _ (fun k h1 h2 => ?_), fun x hx ho => ?_, JA_more hW hJ (fun x hx => ?_) (fun x hx => ?_), JC_keep hJC (by rw [w2 _ _ (by omega), hm15 _ _ (by omega)]) (fun i => by rw [w2 _ _ (by omega), hm15 _ _ (by omega)]), JM_keep hJM (by decide) (fun k h1 _ => big k h1), by rw [w2 _ _ (by omega), hm15 _ _ (by omega)]; exact h4, by rw [big _ (by omega)]; exact h97⟩, WX_keep hX (fun a i h => by rw [w2 _ _ (by omega), hm15 _ _ (by omega)]) (fun i h => by rw [w2 _ _ (by omega), hm15 _ _ (by omega)]) (fun k h1 _ _ _ => big k (by omega)) ?_ ?_, fun k => by rw [w2 _ _ (by omega), hm15 _ _ (by omega)], fun k hk => big k (by omega), fun e he => ?_⟩
  · rw [m2 k h1]
    by_cases z : k = wdc (8 * i)
    · rw [if_pos ⟨by omega, z⟩, if_pos ⟨by omega, by rw [z]; congr 1; omega⟩]
    · rw [if_neg (fun h => z h.2), if_neg (fun h => z (by rw [h.2]; congr 1; omega))]
  · rw [m2 _ (by unfold wdc; omega)]
    by_cases z : x = 8 * i
    · rw [if_pos ⟨by omega, by rw [z]⟩]
    · have ej : (aAdd A (8 * i) 4 ((8 * i : Nat) : Int) 7 0 0).1 0 x = A.1 0 x := by
        show (if x = 8 * i then _ else A.1 0 x) = _
        rw [if_neg z]
      rw [ej] at ho
      rw [hWD x ⟨hx.1, by omega⟩ ho]
      split <;> rfl
  · have hne : x ≠ 8 * i := fun e => hnl (e ▸ hx)
    have ej : ∀ j, (aAdd A (8 * i) 4 ((8 * i : Nat) : Int) 7 0 0).1 j x = A.1 j x := fun j => by
      show (if x = 8 * i then _ else A.1 j x) = _
      rw [if_neg hne]
    exact ⟨⟨hx.1, by rw [ej]; exact hx.2⟩, ej⟩
  · by_cases z : x = 8 * i
    · right
      subst z
      exact ⟨by simp [aAdd], by simp [aAdd]⟩
    · left
      have ej : (aAdd A (8 * i) 4 ((8 * i : Nat) : Int) 7 0 0).1 0 x = A.1 0 x := by
        show (if x = 8 * i then _ else A.1 0 x) = _
        rw [if_neg z]
      exact ⟨hx.1, by have := hx.2; rw [ej] at this; exact this⟩
  · rw [w2 _ _ (by omega), hm15 _ _ (by omega), big _ (by omega)]; exact hX.2.2.2.1.2.2.1
  · rw [w2 _ _ (by omega), hm19, big _ (by omega)]; exact hX.2.2.2.1.2.2.2
  · by_cases z : e = 8 * i
    · have : pgs (aAdd A (8 * i) 4 ((8 * i : Nat) : Int) 7 0 0) e = 8 := by
        rw [z]; show pg (if 8 * i = 8 * i then _ else _) = 8; rw [if_pos rfl]; rfl
      omega
    · have ej : (aAdd A (8 * i) 4 ((8 * i : Nat) : Int) 7 0 0).1 0 e = A.1 0 e := by
        show (if e = 8 * i then _ else A.1 0 e) = _
        rw [if_neg z]
      have h1 : Lv A e := ⟨he.1, by have := he.2; rw [ej] at this; exact this⟩
      have h2 := hfr e h1
      have h3 : pgs (aAdd A (8 * i) 4 ((8 * i : Nat) : Int) 7 0 0) e = pgs A e := by unfold pgs; rw [ej]
      omega
/-- the loop over the first space's pieces -/
theorem begin_loop {M : Mem} {q : Nat} {μ : Sl} (hq5 : M q 4 5 = zI (n : Int)) (hq6 : M q 4 6 = zI (S : Int)) (hn1 : 1 ≤ n) (hn6 : n ≤ 6) (hS8 : S % 8 = 0) (hS : S ≤ 32) (hb : MB μ 0) (hm1 : μ 34 11 = zI (n : Int)) (hm2 : μ 41 3 = zI (S : Int)) : ∀ (m i f g : Nat) (δ : Sl) (σ : Nat → Nat) (bn : Nat) (B : Nat → Int) (A : Ab) (dep : Nat → Nat), 8 * i + 8 * m = S → m < f → m < g → RC n S δ σ bn B A dep [] 0 → WX (0, 0) n S δ B → (∀ e, Lv A e → e + pgs A e ≤ 8 * i) →
    ∃ δ' B' σ' bn' A' dep', Wo_begin_65 M q f (zI ((8 * i : Nat) : Int)) δ = some ((), δ') ∧ Mo_keepText_138 g (zI ((8 * i : Nat) : Int)) (bst μ 0 B) = some ((), bst μ 0 B') ∧ RC n S δ' σ' bn' B' A' dep' [] 0 ∧ WX (0, 0) n S δ' B' ∧ (∀ k, δ' 10 k = δ 10 k) ∧ (∀ k, 2172 ≤ k → B' k = B k) ∧ ∀ e, Lv A' e → e < 32 := by
  have sz : ∀ B, Mo_size (bst μ 0 B) = some (zI (S : Int)) := fun B => by
    rw [Mo_size, if_pos (by decide)]
    show some (bst μ 0 B 41 3) = _
    unfold bst
    rw [if_neg (by omega), hm2]
  have en : ∀ B, bst μ 0 B 34 11 = zI (n : Int) := fun B => by unfold bst; rw [if_neg (by omega), hm1]
  intro m
  induction m with
  | zero =>
    intro i f g δ σ bn B A dep hi hf hg hR hX hfr
    obtain ⟨f', rfl⟩ : ∃ f', f = f' + 1 := ⟨f - 1, by omega⟩
    obtain ⟨g', rfl⟩ : ∃ g', g = g' + 1 := ⟨g - 1, by omega⟩
    refine ⟨δ, B, σ, bn, A, dep, ?_, ?_, hR, hX, fun _ => rfl, fun _ _ => rfl, fun e he => ?_⟩
    · rw [Wo_begin_65, hq6, if_pos (by rw [zI_le (by omega) (by omega) (by omega) (by omega)]; omega)]
    · rw [Mo_keepText_138, sz, bp_some, if_pos (by rw [zI_le (by omega) (by omega) (by omega) (by omega)]; omega)]
    · have h1 := hfr e he
      have h3 : 0 < pgs A e := by
        have := he.2
        have := (hR.1.2.2.2.1 e he).1
        have hc : A.1 0 e = 1 ∨ A.1 0 e = 2 ∨ A.1 0 e = 3 ∨ A.1 0 e = 4 := by omega
        unfold pgs
        rcases hc with e | e | e | e <;> rw [e] <;> decide
      omega
  | succ m ih =>
    intro i f g δ σ bn B A dep hi hf hg hR hX hfr
    obtain ⟨f', rfl⟩ : ∃ f', f = f' + 1 := ⟨f - 1, by omega⟩
    obtain ⟨g', rfl⟩ : ∃ g', g = g' + 1 := ⟨g - 1, by omega⟩
    obtain ⟨r, δ1, δ2, σ', bn', B', A', dep', s1, s2, s3, s4, s5, s6, s7, s8⟩ := root_on M hR hX hn1 (i := i) (by omega) hfr hb
    obtain ⟨δ', B2, σ2, bn2, A2, dep2, t1, t2, t3, t4, t5, t6, t7⟩ := ih (i + 1) f' g' δ2 σ' bn' B' A' dep' (by omega) (by omega) (by omega) s4 s5 s8
    have e8 : zI ((8 * i : Nat) : Int) + (8 : Int32) = zI ((8 * (i + 1) : Nat) : Int) := by rw [show (8 : Int32) = zI 8 from rfl, zI_add]; congr 1
    refine ⟨δ', B2, σ2, bn2, A2, dep2, ?_, ?_, t3, t4, fun k => (t5 k).trans (s6 k), fun k hk => (t6 k hk).trans (s7 k hk), t7⟩
    · rw [Wo_begin_65, hq6, if_neg (by rw [zI_le (by omega) (by omega) (by omega) (by omega)]; omega), hq5, if_neg (by rw [zI_lit, zI_le (by omega) (by omega) (by omega) (by omega)]; omega), s1, bd_some, s2, bd_some, bnd_ap, e8, t1]
    · rw [Mo_keepText_138, sz, bp_some, if_neg (by rw [zI_le (by omega) (by omega) (by omega) (by omega)]; omega), en, if_neg (by rw [zI_lit, zI_le (by omega) (by omega) (by omega) (by omega)]; omega), s3, bd_some, bnd_ap, e8, t2]
theorem zero_up {σ : Nat → Nat} {bn : Nat} {A : Ab} {dep : Nat → Nat} {J : List Jb} {N : Int} (hR : RC n S δ σ bn B A dep J N) (hl : ∀ e, Lv A e → e < 32) : ∀ k, 32 ≤ k → k < 192 → B k = 0 := fun k h1 h2 => by
  rw [hR.2.2.1.1 k h2]
  have h0 := hR.1.2.2.2.2.2.2.2 k h2
  have : ¬ 0 < A.1 0 k := fun z => by
    have := hl k ⟨h2, z⟩
    omega
  omega
/-- a world begins -/
theorem begin_on {M : Mem} {q : Nat} {μ : Sl} (hq5 : M q 4 5 = zI (n : Int)) (hq6 : M q 4 6 = zI (S : Int)) (hn6 : n ≤ 6) (hS : S = 8 ∨ S = 16 ∨ S = 32) (hb : MB μ 0) (hm1 : μ 34 11 = zI (n : Int)) (hm2 : μ 41 3 = zI (S : Int)) (hB : NB B) (δ : Sl) :
    ∃ δ' B', Wo_begin M q δ = some ((), δ') ∧ Mo_keepText_138 FU (0 : Int32) (bst μ 0 B) = some ((), bst μ 0 B') ∧ WH n S q δ' B' 0 ∧ ∀ k, 32 ≤ k → k < 192 → B' k = 0 := by
  obtain ⟨δ1, c1, hN⟩ : ∃ δ1, Wo_begin M q δ = Wo_begin_65 M q FU (0 : Int32) δ1 ∧ NW δ1 q := by
    simp only [Wo_begin, De_clear, bnd_ap, fill_on (show 192 < 100000 by omega), fill_on (show 6 < 100000 by omega), bd_some]
    refine ⟨_, rfl, ⟨⟨?_, ?_, ?_, ?_⟩, fun i hi => ?_, fun s hs => ⟨?_, ?_⟩, ?_, fun i hi => ?_⟩⟩
    case refine_9 => rcases hi with rfl | rfl | rfl | rfl | rfl | rfl | rfl <;> ((repeat (first | rw [wr_ap, if_neg (by omega)] | rw [flS_ap, if_neg (by omega)])) <;> (first | rw [wr_ap, if_pos (by omega)] | rw [flS_ap, if_pos (by omega)]) <;> rfl)
    all_goals (repeat (first | rw [wr_ap, if_neg (by omega)] | rw [flS_ap, if_neg (by omega)])) <;> (first | rw [wr_ap, if_pos (by omega)] | rw [flS_ap, if_pos (by omega)]) <;> first | rfl | exact zI_nI q
  obtain ⟨f, hf⟩ : ∃ f, FU = f + 1 := ⟨999999, rfl⟩
  by_cases z : n = 0
  · subst z
    refine ⟨δ1, B, ?_, ?_, wh_nil hn6 hS hN hB, zero_up (RC_nil hn6 hS hN hB) (fun e he => absurd he (A0_n e))⟩
    · rw [c1, hf, Wo_begin_65, hq6, hq5, if_neg (by rw [zI_lit, zI_le (by omega) (by omega) (by omega) (by omega)]; omega), if_pos (by decide)]
    · rw [hf, Mo_keepText_138, Mo_size, if_pos (by decide), bp_some]
      have e1 : bst μ 0 B 41 (ix (3 : Int32)) = zI (S : Int) := by show bst μ 0 B 41 3 = _; unfold bst; rw [if_neg (by omega), hm2]
      have e2 : bst μ 0 B 34 11 = zI ((0 : Nat) : Int) := by unfold bst; rw [if_neg (by omega), hm1]
      rw [e1, e2, if_neg (by rw [zI_lit, zI_le (by omega) (by omega) (by omega) (by omega)]; omega), if_pos (by decide)]
  · obtain ⟨δ', B', σ', bn', A', dep', t1, t2, t3, t4, t5, t6, t7⟩ := begin_loop hq5 hq6 (by omega) hn6 (by omega) (by omega) hb hm1 hm2 (S / 8) 0 FU FU δ1 _ _ B A0 _ (by omega) (FU_gt (by omega)) (FU_gt (by omega)) (RC_nil hn6 hS hN hB) (WX_nil hN hB) (fun e he => absurd he (A0_n e))
    exact ⟨δ', B', c1.trans t1, t2, ⟨σ', bn', A', dep', [], 0, 0, t3, t4, by rw [t5]; exact hN.2.2.2.1, Int.le_refl _, by rw [t6 _ (by omega), hB.1 _ (by omega)]; omega⟩, zero_up t3 t7⟩
end
