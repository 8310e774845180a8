/-! ===== a deed goes, is cut, comes: both sides ===== -/
theorem RC_go {n S : Nat} {A : Ab} {dep : Nat → Nat} {δ : Sl} {σ : Nat → Nat} {bn : Nat} {μ : Sl} {b : Nat} {B : Nat → Int} {J : List Jb} {N : Int} (hR : RC n S δ σ bn B A dep J N) (hb : MB μ b) {d : Nat} (hd : Lv A d) (hg : A.1 3 d ≠ 0) (hf : ∀ y, Lv A y → bl A d y = true → A.1 10 y = 0) :
    ∃ δ' μ' B', De_remove δ (zI (σ d : Int)) = some ((), δ') ∧ Mo_goes (bst μ b B) (zI (d : Int)) = some ((), bst μ' b B') ∧ SC μ μ' ∧ RC n S δ' σ bn B' (aGo A d) dep J N ∧ (∀ a i, a < 17 ∨ 32 < a → δ' a i = δ a i) ∧ δ' 17 19 = δ 17 19 ∧ ∀ k, 1920 ≤ k → B' k = B k := by
  obtain ⟨h, hC, hM, hW, hwd, hJ, hJC, hJM, h4, h97⟩ := hR
  obtain ⟨g, hgg⟩ : ∃ g : Nat, A.1 3 d = (g : Int) + 1 := by
    rcases gv_or h hd with ⟨z, -⟩ | ⟨g, z, -⟩
    · exact absurd z hg
    · exact ⟨g, z⟩
  obtain ⟨δ', c1, c2, c3, c4⟩ := cr_remove h hC hd hgg
  obtain ⟨μ', B', m1, m2, m3, m4⟩ := mr_go hb h hM hd hgg
  have hl := jL_len hJ
  refine ⟨δ', μ', B', c1, m1, m2, ⟨WF_go h hd, c2, m3, fun s hs => ?_, fun y hy ho => ?_, JA_go h hd hf hJ, JC_keep hJC (c3 _ _ (by omega)) (fun i => c3 _ _ (by omega)), JM_keep hJM hJ.1.1 (fun k g1 g2 => m4 k (by omega)), by rw [c3 _ _ (by omega)]; exact h4, by rw [m4 _ (by omega)]; exact h97⟩, c3, c4, m4⟩
  · rw [c3 _ _ (by omega), m4 _ (by omega), m4 _ (by omega), m4 _ (by omega), m4 _ (by omega)]; exact hW s hs
  · have hy1 := (aGo_lv.mp hy).1
    have hy2 := hy.1
    have : 1920 ≤ wdc y := by unfold wdc; omega
    rw [aGo_0 hy] at ho
    rw [m4 _ this]; exact hwd y hy1 ho
theorem RC_cut {n S : Nat} {A : Ab} {dep : Nat → Nat} {δ : Sl} {σ : Nat → Nat} {bn : Nat} {μ : Sl} {b : Nat} {B : Nat → Int} {J : List Jb} {N : Int} (hR : RC n S δ σ bn B A dep J N) (hb : MB μ b) {s p : Nat} {t : Int} (hs : s < 6) (hp : p < 32) (ht1 : 1 ≤ t) (ht2 : t ≤ 4) (hdt : ∀ d, cov A (32 * s + p) = some d → NTs A d ∧ bsy A d = false) :
    ∃ δ' σ' bn' dep' μ' B', De_cut δ (zI (s : Int)) (zI (p : Int)) (zI (t - 1)) = some ((), δ') ∧ Mo_cuts (bst μ b B) (zI (s : Int)) (zI (p : Int)) (zI (t - 1)) = some ((), bst μ' b B') ∧ SC μ μ' ∧ RC n S δ' σ' bn' B' (aCut t (32 * s + p) 3 A) dep' J N ∧ CT n S A (aCut t (32 * s + p) 3 A) dep' (32 * s + p) t ∧ (∀ a i, a < 17 ∨ 33 < a → δ' a i = δ a i) ∧ δ' 17 19 = δ 17 19 + zI (nCut t (32 * s + p) 3 A : Int) ∧ (∀ k, 1920 ≤ k → k ≠ 2198 → B' k = B k) ∧ B' 2198 = B 2198 + (nCut t (32 * s + p) 3 A : Int) := by
  obtain ⟨h, hC, hM, hW, hwd, hJ, hJC, hJM, h4, h97⟩ := hR
  have hq : 32 * s + p < 192 := by omega
  have e1 : (32 * (s : Int) + (p : Int)).toNat = 32 * s + p := by omega
  obtain ⟨dep1, hct⟩ := cut_ok ht1 hq 3 A dep h (fun d hd => ⟨(hdt d hd).1, by have := (h.2.2.2.1 d (cs_some hq hd).1).1; omega⟩)
  obtain ⟨δ1, σ1, bn1, dep2, k1, k2, k3, k4, k5, k6⟩ := c_cut (s := (s : Int)) (p := (p : Int)) (by omega) (by omega) (by omega) (by omega) ht1 ht2 3 FU 0 δ σ bn A dep (by omega) (FU_gt (by omega)) h hC (by rw [e1]; exact fun d hd => (hdt d hd).1)
  rw [e1] at k2 k3 k6
  obtain ⟨μ1, B1, m1, m2, m3, m4, m5, m6⟩ := mr_cut (s := (s : Int)) (p := (p : Int)) (by omega) (by omega) (by omega) (by omega) ht1 ht2 hb h hM hwd (by rw [e1]; exact fun d hd => (hdt d hd).1)
  rw [e1] at m3 m4 m6
  have hl := jL_len hJ
  refine ⟨δ1, σ1, bn1, dep1, μ1, B1, k1, m1, m2, ⟨hct.1, k3, m3, fun s hs => ?_, m4, JA_cut hq h hdt hct hJ, JC_keep hJC (k5 _ _ (by omega)) (fun i => k5 _ _ (by omega)), JM_keep hJM hJ.1.1 (fun k g1 g2 => m5 k (by omega) (by omega)), by rw [k5 _ _ (by omega)]; exact h4, by rw [m5 _ (by omega) (by omega)]; exact h97⟩, hct, k5, k6, m5, m6⟩
  rw [k5 _ _ (by omega), m5 _ (by omega) (by omega), m5 _ (by omega) (by omega), m5 _ (by omega) (by omega), m5 _ (by omega) (by omega)]; exact hW s hs
/-- one page comes, its age is one -/
theorem RC_page {n S : Nat} {A : Ab} {dep : Nat → Nat} {δ : Sl} {σ : Nat → Nat} {bn : Nat} {μ : Sl} {b : Nat} {B : Nat → Int} {J : List Jb} {N : Int} (M : Mem) (hR : RC n S δ σ bn B A dep J N) (hb : MB μ b) {s p g fp : Nat} {r : Int} (hs : s < 6) (hp : p < 32) (hf : AddOk n S A (32 * s + p) 1 (A.1 1 g + (fp : Int) - ((g % 32 : Nat) : Int)) r g) (hfp : fp < 32) :
    ∃ δ' σ' bn' dep' B', Wo_addHeir M δ (zI (σ g : Int)) (zI (fp : Int)) (zI (s : Int)) (zI (p : Int)) (0 : Int32) (zI r) = some (zI (σ' (32 * s + p) : Int), δ') ∧ Mo_comes (bst μ b B) (zI ((32 * s + p : Nat) : Int)) (0 : Int32) (zI (A.1 1 g + (fp : Int) - ((g % 32 : Nat) : Int))) (zI r) (zI (g : Int)) (1065353216 : Int32) = some ((), bst μ b B') ∧ σ' (32 * s + p) < 192 ∧
      RC n S (wr δ' 31 (σ' (32 * s + p)) (zI 1065353216)) σ' bn' B' (aAdd A (32 * s + p) 1 (A.1 1 g + (fp : Int) - ((g % 32 : Nat) : Int)) r ((g : Int) + 1) 1065353216) dep' J N ∧ δ' 20 (σ' (32 * s + p)) = zI (A.1 1 g + (fp : Int) - ((g % 32 : Nat) : Int)) ∧ (∀ a i, a ≠ 15 → (a < 17 ∨ 32 < a) → δ' a i = δ a i) ∧ δ' 17 19 = δ 17 19 ∧ ∀ k, 1920 ≤ k → B' k = B k := by
  obtain ⟨h, hC, hM, hW, hwd, hJ, hJC, hJM, h4, h97⟩ := hR
  obtain ⟨δ', σ', bn', c1, c2, c3, c4, c5, c6⟩ := c_addHeir h hC hW M hs hp hf hfp
  obtain ⟨⟨dep', hW'⟩, hnl⟩ := AddOk_WF (a := 1065353216) h hf (by omega) (by omega)
  have hgl : Lv A g := hf.2.2.2.2.2.2.2.2.2.2.2.2.1
  have hg1 := hgl.1
  obtain ⟨m1, m2, m3⟩ := mr_add (d := 32 * s + p) (o := 1) (f := A.1 1 g + (fp : Int) - ((g % 32 : Nat) : Int)) (r := r) (g := (g : Int) + 1) (a := 1065353216) hM (WF_KW h) hf.1 hnl (by omega) (.inr ⟨g, rfl, hgl⟩)
  have m0 := m_comes (d := 32 * s + p) (o := 1) (f := A.1 1 g + (fp : Int) - ((g % 32 : Nat) : Int)) (r := r) (g := (g : Int) + 1) (a := 1065353216) hb B hf.1 (by omega) (by omega) (by omega) (by omega) m3
  generalize hfr : A.1 1 g + (fp : Int) - ((g % 32 : Nat) : Int) = f at *
  have hlv0 : Lv (aAdd A (32 * s + p) 1 f r ((g : Int) + 1) 0) (32 * s + p) := ⟨hf.1, by show 0 < (if 32 * s + p = 32 * s + p then (if 0 = 0 then (1 : Int) else _) else _); simp⟩
  have hset : setA (aAdd A (32 * s + p) 1 f r ((g : Int) + 1) 0) 8 (32 * s + p) 1065353216 = aAdd A (32 * s + p) 1 f r ((g : Int) + 1) 1065353216 := by
    unfold setA aAdd
    refine Prod.ext ?_ rfl
    funext j x
    by_cases c : x = 32 * s + p
    · by_cases c8 : j = 8
      · simp [c, c8]
      · simp [c, c8]
    · simp [c]
  have hC' := cr_fld c2 (a := 31) (j := 8) (d := 32 * s + p) (v := 1065353216) (by omega) hlv0
  rw [hset] at hC'
  have hb1 : ∀ k, 1920 ≤ k → cms B (32 * s + p) 1 f r ((g : Int) + 1) 1065353216 k = B k := fun k hk => by rw [m2 k hk, if_neg (by omega)]
  have hl := jL_len hJ
  have e20 := (c2.2.2.1 _ hlv0).2.2.1
  have hf1 : (aAdd A (32 * s + p) 1 f r ((g : Int) + 1) 0).1 1 (32 * s + p) = f := by
    show (if 32 * s + p = 32 * s + p then (if 1 = 0 then (1 : Int) else if 1 = 1 then f else _) else _) = f
    simp
  rw [hf1] at e20
  have hold : ∀ x, Lv A x → ∀ j, (aAdd A (32 * s + p) 1 f r ((g : Int) + 1) 1065353216).1 j x = A.1 j x := fun x hx j => by
    have hne : x ≠ 32 * s + p := fun z => hnl (z ▸ hx)
    unfold aAdd
    exact if_neg hne
  rw [show (g : Int) + 1 - 1 = (g : Int) by omega] at m0
  refine ⟨δ', σ', bn', dep', _, c1, m0, cr_lt c2 hlv0, ⟨hW', hC', m1, fun s' hs' => ?_, fun y hy ho => ?_, JA_more h hJ (fun x hx => ⟨⟨hx.1, by rw [hold x hx]; exact hx.2⟩, hold x hx⟩) (fun x hx => ?_), JC_keep hJC (by rw [wr_ap, if_neg (by omega)]; exact c4 _ _ (by omega) (by omega)) (fun i => by rw [wr_ap, if_neg (by omega)]; exact c4 _ _ (by omega) (by omega)), JM_keep hJM hJ.1.1 (fun k g1 g2 => hb1 k (by omega)), by rw [wr_ap, if_neg (by omega), c4 _ _ (by omega) (by omega)]; exact h4, by rw [hb1 _ (by omega)]; exact h97⟩, e20, c4, c5, hb1⟩
  · have := c6 B (fun k g1 g2 => by rw [if_neg (by omega)]) s' hs'
    rw [wr_ap, if_neg (by omega), hb1 _ (by omega), hb1 _ (by omega), hb1 _ (by omega), hb1 _ (by omega)]; exact this
  · have hy1 := hy.1
    have : 1920 ≤ wdc y := by unfold wdc; omega
    rw [hb1 _ this]
    by_cases c : y = 32 * s + p
    · exfalso
      have : (aAdd A (32 * s + p) 1 f r ((g : Int) + 1) 1065353216).1 0 y = 1 := by
        show (if y = 32 * s + p then (if 0 = 0 then (1 : Int) else _) else _) = 1
        rw [if_pos c]; simp
      omega
    · have e0 : (aAdd A (32 * s + p) 1 f r ((g : Int) + 1) 1065353216).1 0 y = A.1 0 y := if_neg c
      rw [e0] at ho
      exact hwd y ⟨hy.1, by omega⟩ ho
  · by_cases c : x = 32 * s + p
    · right
      subst c
      constructor <;> simp [aAdd]
    · left
      refine ⟨hx.1, ?_⟩
      have := hx.2
      have e0 : (aAdd A (32 * s + p) 1 f r ((g : Int) + 1) 1065353216).1 0 x = A.1 0 x := if_neg c
      rw [e0] at this; exact this
/-! where a page is taken from -/
def WK (M : Mem) (δ : Sl) (n : Nat) (wv : Nat → Int) : Prop := ∃ k : Nat, δ 10 0 = zI (k : Int) ∧ k < 2147483648 ∧ ∀ s, s < n → M k 7 s = zI (wv s)
def WMo (μ : Sl) (n : Nat) (wv : Nat → Int) : Prop := ∀ s, s < n → μ 39 s = zI (wv s)
def WN (n : Nat) (wv : Nat → Int) : Prop := ∀ s, s < n → 0 ≤ wv s ∧ wv s ≤ 3
def srcP (A : Ab) (S : Nat) (w : Int) (s a : Nat) (r : Int) (p : Nat) : Nat := if w = 1 then (p + S / 2) % S else if w = 2 then S - 1 - p else if w = 3 then ffL A s a r p S 0 else p
theorem src_lt {A : Ab} {S : Nat} {w : Int} {s a : Nat} {r : Int} {p : Nat} (hp : p < S) : srcP A S w s a r p < S := by
  unfold srcP
  split
  · exact Nat.mod_lt _ (by omega)
  · split
    · omega
    · split
      · exact ff_lt hp S 0 (by omega)
      · exact hp
theorem c_src {n S : Nat} {A : Ab} {dep : Nat → Nat} {δ : Sl} {σ : Nat → Nat} {bn : Nat} {M : Mem} {qv wv : Nat → Int} (h : WF n S A dep) (hC : CRep δ σ bn A) (hK : SK M δ n S qv) (hn : SN n S qv) (hwk : WK M δ n wv) (hwn : WN n wv) {s a p : Nat} {r : Int} (hs : s < n) (ha : a < n) (hp : p < S) (hr1 : 0 ≤ r) (hr2 : r ≤ 7) (h12 : δ 12 s = zI (p : Int)) (h13 : δ 13 s = zI r) : Wo_sourceFor M δ (zI (s : Int)) (zI (a : Int)) = some (zI (srcP A S (wv s) s a r p : Int)) := by
  obtain ⟨g1, g2, g3⟩ := id hn
  obtain ⟨k, k1, k2, k3, k4, k5⟩ := id hK
  obtain ⟨w, w1, w2, w3⟩ := hwk
  have hkw : k = w := by
    rw [k1, zI_eq (by omega) (by omega) (by omega) (by omega)] at w1
    omega
  subst hkw
  have hib : inb (zI (s : Int)) 6 := by rw [zI_inb (by omega) (by omega)]; omega
  have hwr := hwn s hs
  have hdv : zI (S : Int) / (2 : Int32) = zI ((S / 2 : Nat) : Int) := by
    rw [lz2, zI_div (by omega) (by omega) (by omega) (by omega)]; congr 1
  rw [Wo_sourceFor, if_pos hib, zI_ix (by omega) (by omega), Int.toNat_natCast, h12, bnd_ap, k1, gref_z k2, k4, bnd_ap, gref_z k2, if_pos hib, w3 s hs]
  unfold srcP
  by_cases c1 : wv s = 1
  · rw [if_pos (by rw [c1]; rfl), if_pos c1, if_pos (by decide), hdv, zI_add]
    by_cases c2 : S ≤ p + S / 2
    · rw [if_pos (by rw [zI_le (by omega) (by omega) (by omega) (by omega)]; omega), if_pos (by decide), zI_sub]
      congr 2
      have : (p + S / 2) % S = p + S / 2 - S := by
        rw [Nat.mod_eq_sub_mod c2, Nat.mod_eq_of_lt (by omega)]
      omega
    · rw [if_neg (by rw [zI_le (by omega) (by omega) (by omega) (by omega)]; omega), if_pos (by decide), Nat.mod_eq_of_lt (by omega)]
      congr 2
  · rw [if_neg (by rw [zI_lit, zI_eq (by omega) (by omega) (by omega) (by omega)]; exact c1), if_neg c1]
    by_cases c2 : wv s = 2
    · rw [if_pos (by rw [c2]; rfl), if_pos c2, show (1 : Int32) = zI 1 from rfl, zI_sub, zI_sub]
      congr 2
      omega
    · rw [if_neg (by rw [zI_lit, zI_eq (by omega) (by omega) (by omega) (by omega)]; exact c2), if_neg c2]
      by_cases c3 : wv s = 3
      · obtain ⟨v, v1, v2⟩ := c_frames h hC (s := s) (by omega)
        have hff := c_ff_loop h hC hK (s := s) (a := a) (by omega) (by omega) hr1 hr2 h13 v2 p S 0 FU (by omega) (FU_gt (by omega))
        rw [if_pos (by rw [c3]; rfl), if_pos c3, Wo_firstFresh, v1, bp_some, bnd_ap, bnd_ap]
        have hff' : Wo_firstFresh_13 M δ FU (zI (s : Int)) (zI (a : Int)) (zI (p : Int)) v (0 : Int32) = _ := hff
        rw [hff', bp_some]
      · rw [if_neg (by rw [zI_lit, zI_eq (by omega) (by omega) (by omega) (by omega)]; exact c3), if_neg c3]
theorem m_src {n S : Nat} {A : Ab} {dep : Nat → Nat} {μ : Sl} {b : Nat} {B : Nat → Int} {qv wv : Nat → Int} (hmb : MB μ b) (h : WF n S A dep) (hM : MRep B A) (hS : μ 41 3 = zI (S : Int)) (hn : SN n S qv) (hwm : WMo μ n wv) (hwn : WN n wv) {s a p : Nat} {r : Int} (hs : s < n) (ha : a < n) (hp : p < S) (hr1 : 0 ≤ r) (hr2 : r ≤ 7) : Mo_placeBy (bst μ b B) (zI (a : Int)) (zI (s : Int)) (zI (p : Int)) (zI r) = some (zI (srcP A S (wv s) s a r p : Int)) := by
  obtain ⟨g1, g2, g3⟩ := id hn
  have hwr := hwn s hs
  have e39 : bst μ b B 39 s = zI (wv s) := by rw [bst_ne _ _ _ (by decide)]; exact hwm s hs
  have hsz : Mo_size (bst μ b B) = some (zI (S : Int)) := by
    rw [Mo_size, if_pos (by decide), show ix (3 : Int32) = 3 from rfl, bst_ne _ _ _ (by decide), hS]
  have hdv : zI (S : Int) / (2 : Int32) = zI ((S / 2 : Nat) : Int) := by
    rw [lz2, zI_div (by omega) (by omega) (by omega) (by omega)]; congr 1
  rw [Mo_placeBy, if_pos (by rw [zI_inb (by omega) (by omega)]; omega), zI_ix (by omega) (by omega), Int.toNat_natCast, e39]
  unfold srcP
  by_cases c0 : wv s = 0
  · rw [if_pos (by rw [c0]; rfl), if_neg (by omega), if_neg (by omega), if_neg (by omega)]
  · rw [if_neg (by rw [zI_lit, zI_eq (by omega) (by omega) (by omega) (by omega)]; exact c0)]
    by_cases c1 : wv s = 1
    · rw [if_pos (by rw [c1]; rfl), if_pos c1, hsz, bp_some, if_pos (by decide), bp_some, if_pos (by rw [zI_lit, zI_eq (by omega) (by omega) (by omega) (by omega)]; omega), hdv, zI_add, show (p : Int) + ((S / 2 : Nat) : Int) = ((p + S / 2 : Nat) : Int) by omega, zI_div (by omega) (by omega) (by omega) (by omega), zI_mul, zI_sub]
      congr 2
      have h1 := Nat.div_add_mod (p + S / 2) S
      have h2 : (((p + S / 2 : Nat) : Int) / (S : Int)) = (((p + S / 2) / S : Nat) : Int) := by rw [Int.natCast_ediv]
      rw [h2, ← Int.natCast_mul, Nat.mul_comm]
      omega
    · rw [if_neg (by rw [zI_lit, zI_eq (by omega) (by omega) (by omega) (by omega)]; exact c1), if_neg c1]
      by_cases c2 : wv s = 2
      · rw [if_pos (by rw [c2]; rfl), if_pos c2, hsz, bp_some, show (1 : Int32) = zI 1 from rfl, zI_sub, zI_sub]
        congr 2
        omega
      · rw [if_neg (by rw [zI_lit, zI_eq (by omega) (by omega) (by omega) (by omega)]; exact c2), if_neg c2, if_pos (by omega), bnd_ap]
        exact m_ff_loop hmb h hM hS (s := s) (a := a) (by omega) (by omega) hr1 hr2 p S 0 FU (by omega) (FU_gt (by omega))
