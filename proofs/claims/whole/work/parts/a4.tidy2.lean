/-! ===== tidy: the wide lines anew ===== -/
def oc (A : Ab) (q : Nat) : Int := match cov A q with
  | none => 0
  | some d => A.1 0 d
def bigB (A : Ab) (s k : Nat) : Bool := (List.range 8).any (fun i => decide (1 < A.1 0 (32 * s + 8 * k + i)))
def wvP (A : Ab) (s p k : Nat) : Bool := (List.range p).any (fun i => decide (1 < oc A (32 * s + i) ∧ k = wdc (32 * s + i)))
def wvB (B : Nat → Int) (A : Ab) (s p : Nat) : Nat → Int := fun k => if 1920 + 4 * s ≤ k ∧ k < 1924 + 4 * s then (if wvP A s p k = true then 1 else 0) else B k
theorem wvP_s (A : Ab) (s p k : Nat) : wvP A s (p + 1) k = (wvP A s p k || decide (1 < oc A (32 * s + p) ∧ k = wdc (32 * s + p))) := by
  unfold wvP; rw [List.range_succ, List.any_append]; simp
theorem WB_ext {δ : Sl} {B B' : Nat → Int} (h : WB δ B) (e : ∀ k, 1920 ≤ k → k < 1944 → B' k = B k) : WB δ B' := fun s hs => by
  rw [e _ (by omega) (by omega), e _ (by omega) (by omega), e _ (by omega) (by omega), e _ (by omega) (by omega)]; exact h s hs
theorem c_wide_loop {n S : Nat} {A : Ab} {dep : Nat → Nat} {σ : Nat → Nat} {bn : Nat} {M : Mem} {qv : Nat → Int} {B : Nat → Int} (h : WF n S A dep) {s : Nat} (hs : s < 6) (v2 : Int32) : ∀ (m p k : Nat) (δ : Sl), p + m = S → m < k → CRep δ σ bn A → SK M δ n S qv → WB δ (wvB B A s p) →
    ∃ δ', Wo_joinAll_45 M k (zI (s : Int)) v2 (zI (p : Int)) δ = some (v2, δ') ∧ WB δ' (wvB B A s S) ∧ ∀ a i, a ≠ 15 → δ' a i = δ a i := by
  have hS32 := h.2.1
  intro m
  induction m with
  | zero =>
    intro p k δ hp hk hC hK hW
    obtain ⟨q, rfl⟩ : ∃ q, k = q + 1 := ⟨k - 1, by omega⟩
    obtain ⟨k0, k1, k2, k3, k4, k5⟩ := hK
    have : p = S := by omega
    subst this
    exact ⟨δ, by rw [Wo_joinAll_45, k1, gref_z k2, k4, if_pos (by rw [zI_le (by omega) (by omega) (by omega) (by omega)]; omega)], hW, fun _ _ _ => rfl⟩
  | succ m ih =>
    intro p k δ hp hk hC hK hW
    obtain ⟨q, rfl⟩ : ∃ q, k = q + 1 := ⟨k - 1, by omega⟩
    obtain ⟨k0, k1, k2, k3, k4, k5⟩ := id hK
    have hfd := cr_find hC.2.1 (s := (s : Int)) (p := (p : Int)) (by omega) (by omega) (by omega) (by omega)
    rw [show (32 * (s : Int) + (p : Int)).toNat = 32 * s + p by omega] at hfd
    have hnx : zI (p : Int) + 1 = zI ((p + 1 : Nat) : Int) := by rw [show (1 : Int32) = zI 1 from rfl, zI_add]; rfl
    have hwl : 1920 + 4 * s ≤ wdc (32 * s + p) ∧ wdc (32 * s + p) < 1924 + 4 * s := by unfold wdc; omega
    rw [Wo_joinAll_45, k1, gref_z k2, k4, if_neg (by rw [zI_le (by omega) (by omega) (by omega) (by omega)]; omega), hfd, bp_some, bnd_ap]
    cases hc : cov A (32 * s + p) with
    | none =>
      rw [show sc σ none = (-1 : Int) from rfl, if_pos (by decide), Wo_joinAll_88, bnd_ap, hnx]
      refine ih (p + 1) q δ (by omega) (by omega) hC hK (WB_ext hW (fun k _ _ => ?_))
      have ho : oc A (32 * s + p) = 0 := by unfold oc; rw [hc]
      unfold wvB
      rw [wvP_s, ho, decide_eq_false (by omega), Bool.or_false]
    | some d =>
      obtain ⟨d1, d2, d3⟩ := cs_some (by omega) hc
      have b1 := cr_lt hC d1
      have hwa := h.2.2.2.1 d d1
      have hpos := d1.2
      have e21 := (hC.2.2.1 d d1).2.2.2.1
      obtain ⟨δ1, w1, w2, w3⟩ := c_widen hW M (s := s) (p := p) (o := A.1 0 d) hs (by omega) (by omega) hwa.1
      have ho : oc A (32 * s + p) = A.1 0 d := by unfold oc; rw [hc]
      have hW1 : WB δ1 (wvB B A s (p + 1)) := w3 _ (fun k g1 g2 => by
        unfold wvB
        rw [wvP_s, ho]
        by_cases c1 : 1 < A.1 0 d ∧ k = wdc (32 * s + p)
        · rw [if_pos (by omega), decide_eq_true c1, Bool.or_true, if_pos rfl, if_pos c1]
        · rw [decide_eq_false c1, Bool.or_false, if_neg c1])
      have hK1 : SK M δ1 n S qv := ⟨k0, by rw [w2 _ _ (by omega)]; exact k1, k2, k3, k4, k5⟩
      have hC1 : CRep δ1 σ bn A := cr_frame hC (fun a i h1 h2 => w2 a i (by omega)) (w2 _ _ (by omega)) (w2 _ _ (by omega)) (w2 _ _ (by omega))
      obtain ⟨δ2, r1, r2, r3⟩ := ih (p + 1) q δ1 (by omega) (by omega) hC1 hK1 hW1
      refine ⟨δ2, ?_, r2, fun a i ha => by rw [r3 a i ha, w2 a i ha]⟩
      rw [show sc σ (some d) = (σ d : Int) from rfl, if_neg (nlt0 (by omega)), if_pos (by rw [zI_inb (by omega) (by omega)]; omega), zI_ix (by omega) (by omega), Int.toNat_natCast, e21, w1, bd_some, Wo_joinAll_88, bnd_ap, hnx, r1]
theorem m_line {n S : Nat} {A : Ab} {dep : Nat → Nat} {μ : Sl} {b : Nat} {B : Nat → Int} (hb : MB μ b) (h : WF n S A dep) (hB : ∀ x, x < 192 → B x = A.1 0 x) {s k : Nat} (hs : s < 6) (hk : k < 4) : Mo_isSmallLine (bst μ b B) (zI (s : Int)) (zI (k : Int)) = some (bI (!bigB A s k)) := by
  have h4 : ∀ x, x < 192 → 0 ≤ A.1 0 x ∧ A.1 0 x ≤ 4 := fun x hx => by
    have h0 := h.2.2.2.2.2.2.2 x hx
    by_cases c : 0 < A.1 0 x
    · exact ⟨h0, (h.2.2.2.1 x ⟨hx, c⟩).1⟩
    · omega
  have key : ∀ (m i q : Nat), i + m = 8 → m < q → Mo_isSmallLine_5 (bst μ b B) q (zI (s : Int)) (zI (k : Int)) (zI ((8 * k + i : Nat) : Int)) = some (bI (!((List.range m).any (fun j => decide (1 < A.1 0 (32 * s + 8 * k + (i + j))))))) := by
    intro m
    induction m with
    | zero =>
      intro i q hi hq
      obtain ⟨c, rfl⟩ : ∃ c, q = c + 1 := ⟨q - 1, by omega⟩
      rw [Mo_isSmallLine_5, show (8 : Int32) = zI 8 from rfl, zI_mul, zI_add, if_pos (by rw [zI_le (by omega) (by omega) (by omega) (by omega)]; omega)]
      rfl
    | succ m ih =>
      intro i q hi hq
      obtain ⟨c, rfl⟩ : ∃ c, q = c + 1 := ⟨q - 1, by omega⟩
      have o1 := m_of hb B (k := ((32 * s + 8 * k + i : Nat) : Int)) (by omega) (by omega)
      rw [Int.toNat_natCast, hB _ (by omega)] at o1
      have r4 := h4 (32 * s + 8 * k + i) (by omega)
      have hsum : (0 : Int32) + (32 : Int32) * zI (s : Int) + zI ((8 * k + i : Nat) : Int) = zI ((32 * s + 8 * k + i : Nat) : Int) := by
        rw [show (0 : Int32) = zI 0 from rfl, show (32 : Int32) = zI 32 from rfl, zI_mul, zI_add, zI_add]; congr 1; omega
      have hsh : (List.range (m + 1)).any (fun j => decide (1 < A.1 0 (32 * s + 8 * k + (i + j)))) = (decide (1 < A.1 0 (32 * s + 8 * k + i)) || (List.range m).any (fun j => decide (1 < A.1 0 (32 * s + 8 * k + (i + 1 + j))))) := by
        rw [List.range_succ_eq_map, List.any_cons, List.any_map]
        congr 1
        refine congrArg _ ?_
        funext j
        show decide (1 < A.1 0 (32 * s + 8 * k + (i + (j + 1)))) = _
        rw [show i + (j + 1) = i + 1 + j by omega]
      rw [Mo_isSmallLine_5, show (8 : Int32) = zI 8 from rfl, zI_mul, zI_add, if_neg (by rw [zI_le (by omega) (by omega) (by omega) (by omega)]; omega), hsum, o1, bp_some, hsh]
      by_cases c1 : A.1 0 (32 * s + 8 * k + i) ≤ 1
      · rw [if_pos (by rw [zI_lit, zI_le (by omega) (by omega) (by omega) (by omega)]; exact c1), bnd_ap, show (1 : Int32) = zI 1 from rfl, zI_add, show ((8 * k + i : Nat) : Int) + 1 = ((8 * k + (i + 1) : Nat) : Int) by omega, ih (i + 1) c (by omega) (by omega), decide_eq_false (by omega), Bool.false_or]
      · rw [if_neg (by rw [zI_lit, zI_le (by omega) (by omega) (by omega) (by omega)]; exact c1), decide_eq_true (by omega), Bool.true_or]; rfl
  have := key 8 0 FU (by omega) (FU_gt (by omega))
  unfold Mo_isSmallLine
  rw [bnd_ap, show (8 : Int32) = zI 8 from rfl, zI_mul, show 8 * (k : Int) = ((8 * k + 0 : Nat) : Int) by omega, this]
  unfold bigB
  simp only [Nat.zero_add]
def tdB (B : Nat → Int) (A : Ab) (s k : Nat) : Nat → Int := fun q => if 1920 + 4 * s ≤ q ∧ q < 1920 + 4 * s + k ∧ bigB A s (q - (1920 + 4 * s)) = false then 0 else B q
theorem m_lines {n S : Nat} {A : Ab} {dep : Nat → Nat} {μ : Sl} {b : Nat} {B : Nat → Int} (hb : MB μ b) (h : WF n S A dep) (hM : MRep B A) {s : Nat} (hs : s < 6) (v2 : Int32) : ∀ (m k q : Nat), k + m = 4 → m < q → Mo_tidies_39 q (zI (s : Int)) v2 (zI (k : Int)) (bst μ b (tdB B A s k)) = some (v2, bst μ b (tdB B A s 4)) := by
  intro m
  induction m with
  | zero =>
    intro k q hk hq
    obtain ⟨c, rfl⟩ : ∃ c, q = c + 1 := ⟨q - 1, by omega⟩
    have : k = 4 := by omega
    subst this
    rw [Mo_tidies_39, if_pos (by decide)]
  | succ m ih =>
    intro k q hk hq
    obtain ⟨c, rfl⟩ : ∃ c, q = c + 1 := ⟨q - 1, by omega⟩
    have hl := m_line (B := tdB B A s k) hb h (fun x hx => by unfold tdB; rw [if_neg (by omega)]; exact hM.1 x hx) (s := s) (k := k) hs (by omega)
    have hnx : zI (k : Int) + 1 = zI ((k + 1 : Nat) : Int) := by rw [show (1 : Int32) = zI 1 from rfl, zI_add]; rfl
    rw [Mo_tidies_39, if_neg (by rw [zI_lit, zI_le (by omega) (by omega) (by omega) (by omega)]; omega), hl, bp_some, bI_if]
    cases hbg : bigB A s k with
    | true =>
      have e : tdB B A s k = tdB B A s (k + 1) := by
        funext x
        unfold tdB
        by_cases c1 : x = 1920 + 4 * s + k
        · subst c1
          rw [if_neg (by omega), if_neg (fun z => by rw [show 1920 + 4 * s + k - (1920 + 4 * s) = k by omega, hbg] at z; exact absurd z.2.2 (by decide))]
        · by_cases c2 : 1920 + 4 * s ≤ x ∧ x < 1920 + 4 * s + k ∧ bigB A s (x - (1920 + 4 * s)) = false
          · rw [if_pos c2, if_pos ⟨c2.1, by omega, c2.2.2⟩]
          · rw [if_neg c2, if_neg (fun z => c2 ⟨z.1, by omega, z.2.2⟩)]
      rw [if_neg (by decide), Mo_tidies_70, bnd_ap, hnx, e]
      exact ih (k + 1) c (by omega) (by omega)
    | false =>
      have o1 := m_lay hb (tdB B A s k) (k := ((1920 + 4 * s + k : Nat) : Int)) 0 (by omega) (by omega)
      rw [Int.toNat_natCast] at o1
      have e : upB (tdB B A s k) (1920 + 4 * s + k) 0 = tdB B A s (k + 1) := by
        funext x
        rw [upB_ap]
        unfold tdB
        by_cases c1 : x = 1920 + 4 * s + k
        · subst c1
          rw [if_pos rfl, if_pos ⟨by omega, by omega, by rw [show 1920 + 4 * s + k - (1920 + 4 * s) = k by omega]; exact hbg⟩]
        · rw [if_neg c1]
          by_cases c2 : 1920 + 4 * s ≤ x ∧ x < 1920 + 4 * s + k ∧ bigB A s (x - (1920 + 4 * s)) = false
          · rw [if_pos c2, if_pos ⟨c2.1, by omega, c2.2.2⟩]
          · rw [if_neg c2, if_neg (fun z => c2 ⟨z.1, by omega, z.2.2⟩)]
      rw [e] at o1
      have o1' : Mo_lay (bst μ b (tdB B A s k)) ((1920 : Int32) + (4 : Int32) * zI (s : Int) + zI (k : Int)) (0 : Int32) = some ((), bst μ b (tdB B A s (k + 1))) := by
        rw [show (1920 : Int32) = zI 1920 from rfl, lz4, zI_mul, zI_add, zI_add, show 1920 + 4 * (s : Int) + (k : Int) = ((1920 + 4 * s + k : Nat) : Int) by omega]
        exact o1
      rw [if_pos (by decide), o1', bd_some, Mo_tidies_70, bnd_ap, hnx]
      exact ih (k + 1) c (by omega) (by omega)
theorem wide_same {n S : Nat} {A : Ab} {dep : Nat → Nat} {B : Nat → Int} (h : WF n S A dep) (hwd : WD B A) {s : Nat} (hs : s < 6) {q : Nat} (hq1 : 1920 ≤ q) (hq2 : q < 1944) : tdB B A s 4 q = wvB B A s S q := by
  have hS32 := h.2.1
  unfold tdB wvB
  by_cases c : 1920 + 4 * s ≤ q ∧ q < 1924 + 4 * s
  · rw [if_pos c]
    obtain ⟨j, hj⟩ : ∃ j, q = 1920 + 4 * s + j := ⟨q - (1920 + 4 * s), by omega⟩
    subst hj
    rw [show 1920 + 4 * s + j - (1920 + 4 * s) = j by omega]
    cases hbg : bigB A s j with
    | true =>
      rw [if_neg (fun z => absurd z.2.2 (by decide))]
      unfold bigB at hbg
      obtain ⟨i, i1, i2⟩ := List.any_eq_true.mp hbg
      have i2' := of_decide_eq_true i2
      have i1' := List.mem_range.mp i1
      have hl : Lv A (32 * s + 8 * j + i) := ⟨by omega, by omega⟩
      have hw : wdc (32 * s + 8 * j + i) = 1920 + 4 * s + j := by unfold wdc; omega
      have hB := hwd _ hl i2'
      rw [hw] at hB
      have hm := (h.2.2.2.1 _ hl).2.2.2.1
      have hp := pgs_pos h hl
      rw [hB, if_pos]
      unfold wvP
      refine List.any_eq_true.mpr ⟨8 * j + i, List.mem_range.mpr (by omega), decide_eq_true ?_⟩
      rw [show 32 * s + (8 * j + i) = 32 * s + 8 * j + i by omega]
      refine ⟨?_, hw.symm⟩
      unfold oc
      rw [cs_self (WF_WS h) hl]; exact i2'
    | false =>
      rw [if_pos ⟨by omega, by omega, rfl⟩, if_neg (fun z => ?_)]
      unfold wvP at z
      obtain ⟨p, p1, p2⟩ := List.any_eq_true.mp z
      have p2' := of_decide_eq_true p2
      have p1' := List.mem_range.mp p1
      have hpj : p / 8 = j := by
        have := p2'.2
        unfold wdc at this; omega
      have hbig : bigB A s j = true := by
        have ho := p2'.1
        unfold oc at ho
        cases hc : cov A (32 * s + p) with
        | none => rw [hc] at ho; simp at ho
        | some d =>
          rw [hc] at ho
          dsimp only at ho
          obtain ⟨d1, d2, d3⟩ := cs_some (by omega) hc
          have hal := (h.2.2.2.1 d d1).2.1
          unfold bigB
          refine List.any_eq_true.mpr ⟨d - (32 * s + 8 * j), List.mem_range.mpr ?_, decide_eq_true ?_⟩
          · omega
          · have hge : 32 * s + 8 * j ≤ d := by
              rcases WS_pgs (WF_WS h) d1 with ⟨-, e⟩ | ⟨-, e⟩ | ⟨-, e⟩ | ⟨-, e⟩ <;> rw [e] at hal d3 <;> omega
            rw [show 32 * s + 8 * j + (d - (32 * s + 8 * j)) = d by omega]; exact ho
      rw [hbg] at hbig; cases hbig
  · rw [if_neg c, if_neg (by omega)]
theorem tidy_on {ee : Int × Int} {n S : Nat} {M : Mem} {δ : Sl} {σ : Nat → Nat} {bn : Nat} {B : Nat → Int} {A : Ab} {dep : Nat → Nat} {J : List Jb} {N : Int} {μ : Sl} {b : Nat} {qv : Nat → Int} (hR : RC n S δ σ bn B A dep J N) (hX : WX ee n S δ B) (hN : N < 2147483648) (hb : MB μ b) (hK : SK M δ n S qv) (hm : SM μ n S qv) (hn : SN n S qv) {s : Nat} (hs : s < n) :
    WO ee n S δ μ b B N (Wo_joinAll M δ (zI (s : Int))) (Mo_tidies (bst μ b B) (zI (s : Int))) := by
  obtain ⟨g1, g2, g3⟩ := id hn
  have his := c_isSpace hK hn (x := (s : Int)) ⟨by omega, by omega⟩
  rw [decide_eq_true (show 0 ≤ (s : Int) ∧ (s : Int) < (n : Int) by omega)] at his
  have h9 := RC_T9 hR hN
  obtain ⟨h, hC, hM, hW, hwd, hJ, hJC, hJM, h4, h97⟩ := hR
  have hRD : RD n S s δ σ bn B A dep J N := ⟨h, hC, hM, fun t ht _ => hW t ht, hwd, hJ, hJC, hJM, h4, h97⟩
  have hnl := nlv_le A
  obtain ⟨c, δ1, B1, A1, q1, q2, q3, q4, q5, q6, q7, q8⟩ := tidy_loop (M := M) (b := b) hN hn (s := s) (by omega) hb hm.2.1 192 0 FU δ B A hnl (by omega) (FU_gt (by omega)) hRD
  rw [Nat.zero_add] at q2 q3
  obtain ⟨h', hC', hM', hW', hwd', hJ', hJC', hJM', h4', h97'⟩ := q4
  have hK1 : SK M (wr δ1 15 s (zI 0)) n S qv := by
    obtain ⟨k0, k1, k2, k3, k4, k5⟩ := hK
    exact ⟨k0, by rw [wr_ap, if_neg (by omega), q5 _ _ (by omega)]; exact k1, k2, k3, k4, k5⟩
  have hC1 : CRep (wr δ1 15 s (zI 0)) σ bn A1 := cr_frame hC' (fun a i w1 w2 => by rw [wr_ap, if_neg (by omega)]) (by rw [wr_ap, if_neg (by omega)]) (by rw [wr_ap, if_neg (by omega)]) (by rw [wr_ap, if_neg (by omega)])
  have hW1 : WB (wr δ1 15 s (zI 0)) (wvB B1 A1 s 0) := fun t ht => by
    by_cases ct : t = s
    · subst ct
      have e : ∀ j, j < 4 → wvB B1 A1 t 0 (1920 + j + 4 * t) = 0 := fun j hj => by
        unfold wvB
        rw [if_pos (by omega)]; rfl
      have e0 := e 0 (by omega)
      have e1 := e 1 (by omega)
      have e2 := e 2 (by omega)
      have e3 := e 3 (by omega)
      rw [wr_ap, if_pos ⟨rfl, rfl⟩, show 1920 + 4 * t = 1920 + 0 + 4 * t by omega, e0, show 1921 + 4 * t = 1920 + 1 + 4 * t by omega, e1, show 1922 + 4 * t = 1920 + 2 + 4 * t by omega, e2, show 1923 + 4 * t = 1920 + 3 + 4 * t by omega, e3]
      rfl
    · have e : ∀ j, j < 4 → wvB B1 A1 s 0 (1920 + j + 4 * t) = B1 (1920 + j + 4 * t) := fun j hj => by
        unfold wvB
        rw [if_neg (by omega)]
      have e0 := e 0 (by omega)
      have e1 := e 1 (by omega)
      have e2 := e 2 (by omega)
      have e3 := e 3 (by omega)
      rw [wr_ap, if_neg (by omega), show 1920 + 4 * t = 1920 + 0 + 4 * t by omega, e0, show 1921 + 4 * t = 1920 + 1 + 4 * t by omega, e1, show 1922 + 4 * t = 1920 + 2 + 4 * t by omega, e2, show 1923 + 4 * t = 1920 + 3 + 4 * t by omega, e3]
      exact hW' t ht ct
  obtain ⟨δ2, w1, w2, w3⟩ := c_wide_loop (M := M) (B := B1) h' (s := s) (by omega) (zI (c : Int)) S 0 FU (wr δ1 15 s (zI 0)) (by omega) (FU_gt (by omega)) hC1 hK1 hW1
  have hml := m_lines (B := B1) hb h' hM' (s := s) (by omega) (zI (c : Int)) 4 0 FU (by omega) (FU_gt (by omega))
  have e00 : tdB B1 A1 s 0 = B1 := by funext x; unfold tdB; rw [if_neg (by omega)]
  rw [e00] at hml
  have dfr : ∀ a i, a ≠ 15 → δ2 a i = δ1 a i := fun a i ha => by rw [w3 a i ha, wr_ap, if_neg (fun z => ha z.1)]
  have bfr : ∀ k, k < 1920 ∨ 1944 ≤ k → tdB B1 A1 s 4 k = B1 k := fun k hk => by unfold tdB; rw [if_neg (by omega)]
  have hl := jL_len hJ'
  refine ⟨(c : Int), δ2, σ, bn, μ, tdB B1 A1 s 4, A1, dep, J, N, ?_, ?_, ⟨by omega, by omega, by omega⟩, ⟨h', cr_frame hC' (fun a i v1 v2 => dfr a i (by omega)) (dfr _ _ (by omega)) (dfr _ _ (by omega)) (dfr _ _ (by omega)), MR_low h' hM' (fun k hk => bfr k (by omega)), WB_ext w2 (fun k k1 k2 => wide_same h' hwd' (by omega) k1 k2), fun x hx ho => ?_, hJ', JC_keep hJC' (dfr _ _ (by omega)) (fun i => dfr _ _ (by omega)), JM_keep hJM' hJ'.1.1 (fun k v1 v2 => bfr k (by omega)), by rw [dfr _ _ (by omega)]; exact h4', by rw [bfr _ (by omega)]; exact h97'⟩, WX_keep hX (fun a i ha => by rw [dfr a i (by omega), q5 a i (by omega)]) (fun i hi => by rw [dfr _ _ (by omega), q5 _ _ (by omega)]) (fun k v1 v2 v3 v4 => by rw [bfr k (by omega), q7 k (by omega)]) ?_ ?_, fun _ _ _ _ _ => rfl, by rw [dfr _ _ (by omega), q5 _ _ (by omega)], by omega, by rw [bfr _ (by omega), q7 _ (by omega)]; omega, QMq.MR g1 hM (MR_low h' hM' (fun k hk => bfr k (by omega))) (fun t _ => Nat.le_of_eq (q8 t))⟩
  · rw [Wo_joinAll, his, bp_some, bI_if, if_pos rfl, bnd_ap]
    have q2' : Wo_joinAll_12 M FU (zI (s : Int)) (0 : Int32) δ = _ := q2
    rw [q2', Wo_joinAll_36, if_pos (by rw [zI_inb (by omega) (by omega)]; omega), bnd_ap, bnd_ap, zI_ix (by omega) (by omega), Int.toNat_natCast]
    exact w1
  · rw [Mo_tidies, bnd_ap, m_pair hb h hM h9 hm.2.1 hn (by omega), bp_some, bnd_ap]
    have q3' : Mo_tidies_8 FU (zI (s : Int)) (0 : Int32) (zI (cvP (pF A s))) (bst μ b B) = _ := q3
    rw [q3']
    exact hml
  · have hx1 := hx.1
    have hw0 : 1920 ≤ wdc x ∧ wdc x < 1944 := by unfold wdc; omega
    have hB1 := hwd' x hx ho
    unfold tdB
    rw [if_neg (fun z => ?_)]
    · exact hB1
    · -- its line isn't small
      obtain ⟨z1, z2, z3⟩ := z
      have hxs : x / 32 = s := by unfold wdc at z1 z2; omega
      have hj : wdc x - (1920 + 4 * s) = x % 32 / 8 := by unfold wdc; omega
      rw [hj] at z3
      have hbig : bigB A1 s (x % 32 / 8) = true := by
        unfold bigB
        refine List.any_eq_true.mpr ⟨x % 8, List.mem_range.mpr (by omega), decide_eq_true ?_⟩
        rw [show 32 * s + 8 * (x % 32 / 8) + x % 8 = x by omega]; exact ho
      rw [z3] at hbig; cases hbig
  · rw [dfr _ _ (by omega), q5 _ _ (by omega), bfr _ (by omega), q7 _ (by omega)]; exact hX.2.2.2.1.2.2.1
  · rw [dfr _ _ (by omega), q6, bfr _ (by omega), q7 _ (by omega)]; exact hX.2.2.2.1.2.2.2
