/-! ===== lost ===== -/
section
variable {n S : Nat} {A : Ab} {dep : Nat → Nat} {δ : Sl} {σ : Nat → Nat} {bn : Nat} {μ : Sl} {b : Nat} {B : Nat → Int}
theorem rg_al {S : Nat} {p : Nat} {t : Int} (hS : S = 8 ∨ S = 16 ∨ S = 32) (ht1 : 1 ≤ t) (ht2 : t ≤ 4) (h : rgP S (p : Int) t) (s : Nat) : p + pg t ≤ S ∧ p % pg t = 0 ∧ 0 < pg t ∧ (32 * s + p) % pg t = 0 := by
  have h1 := rg_end hS ht1 ht2 h
  have h2 := h.2.2
  have hc : t = 1 ∨ t = 2 ∨ t = 3 ∨ t = 4 := by omega
  have k1 : pg 1 = 1 := by decide
  have k2 : pg 2 = 2 := by decide
  have k3 : pg 3 = 4 := by decide
  have k4 : pg 4 = 8 := by decide
  rcases hc with e | e | e | e <;> subst e
  · rw [k1] at *; omega
  · rw [k2] at *; omega
  · rw [k3] at *; omega
  · rw [k4] at *; omega
theorem ls_small (h : WF n S A dep) {s p : Nat} {t : Int} (hs : s < 6) (ht1 : 1 ≤ t) (ht2 : t ≤ 4) (hp : p + pg t ≤ S) (hal : p % pg t = 0) (hpg : 0 < pg t) (ha2 : (32 * s + p) % pg t = 0) (hsm : ∀ y, y ∈ thr A (32 * s + p) t → ¬ t < A.1 0 y) {x : Nat} (hx : Lv A x) (hb : bnR A s p (pg t) x = true) {i : Nat} (hi : i < pgs A x) : rgF A (32 * s + p) (pg t) ((A.1 1 x).toNat + i) = true := by
  have hS := h.2.1
  have hWS := WF_WS h
  obtain ⟨y, y1, y2⟩ := (bn_thr h hs ht1 ht2 hp hal hpg ha2 hx).mp hb
  have hy := thr_mem h ht1 ht2 (by omega) y1
  have hbl : bl A y x = true := by
    unfold blS at y2
    rw [Bool.and_eq_true, decide_eq_true_eq] at y2
    rcases gv_or h hx with ⟨g1, -⟩ | ⟨g, g1, g2, g3⟩
    · omega
    · rw [bl_step h y hx g1]
      have := y2.2
      rw [g1, show ((g : Int) + 1 - 1).toNat = g by omega] at this
      rw [this, Bool.or_true]
  obtain ⟨f1, f2⟩ := fr_in h (dep x) x (Nat.le_refl _) hx hbl
  obtain ⟨-, -, -, -, k5, k6⟩ := lv_sp h hx
  obtain ⟨-, -, -, -, k7, k8⟩ := lv_sp h hy
  rcases thr_cases h ht1 ht2 (by omega) ha2 (by omega) y1 with ⟨u, -⟩ | ⟨-, u1, u2, -⟩
  · exact absurd u (hsm y y1)
  · rw [rgF_iff]
    obtain ⟨e, he⟩ : ∃ e : Nat, (e : Int) = A.1 1 x + (i : Int) - A.1 1 y := ⟨(A.1 1 x + (i : Int) - A.1 1 y).toNat, by omega⟩
    refine ⟨y + e - (32 * s + p), by omega, ?_⟩
    rw [show 32 * s + p + (y + e - (32 * s + p)) = y + e by omega]
    unfold fAt
    rw [cs_of hWS hy (by omega) (by omega)]
    dsimp only
    omega
theorem ls_big (h : WF n S A dep) {s p x : Nat} {t : Int} (hs : s < 6) (ht1 : 1 ≤ t) (ht2 : t ≤ 4) (hp : p + pg t ≤ S) (ha2 : (32 * s + p) % pg t = 0) (hpg : 0 < pg t) (hx : x ∈ thr A (32 * s + p) t) (hbg : t < A.1 0 x) : ∃ F : Nat, fAt A (32 * s + p) = (F : Int) ∧ F ≤ 64 ∧ ∀ f, rgF A (32 * s + p) (pg t) f = decide (F ≤ f ∧ f < F + pg t) := by
  have hS := h.2.1
  have hWS := WF_WS h
  have hl := thr_mem h ht1 ht2 (by omega) hx
  obtain ⟨-, k2, k3, k4, k7, k8⟩ := lv_sp h hl
  rcases thr_cases h ht1 ht2 (by omega) ha2 (by omega) hx with ⟨-, -, u1, u2⟩ | ⟨u, -⟩
  · have fa : ∀ j, j < pg t → fAt A (32 * s + p + j) = A.1 1 x + ((32 * s + p + j : Nat) : Int) - (x : Int) := fun j hj => by
      unfold fAt
      rw [cs_of hWS hl (by omega) (by omega)]
      dsimp only
      omega
    have f0 := fa 0 hpg
    rw [Nat.add_zero] at f0
    refine ⟨(A.1 1 x + ((32 * s + p : Nat) : Int) - (x : Int)).toNat, by rw [f0]; omega, by omega, fun f => ?_⟩
    rw [Bool.eq_iff_iff, rgF_iff, decide_eq_true_eq]
    constructor
    · rintro ⟨j, j1, j2⟩
      rw [fa j j1] at j2
      omega
    · rintro ⟨j1, j2⟩
      refine ⟨f - (A.1 1 x + ((32 * s + p : Nat) : Int) - (x : Int)).toNat, by omega, ?_⟩
      rw [fa _ (by omega)]
      omega
  · exact absurd hbg u
theorem ls_none (h : WF n S A dep) {s p : Nat} {t : Int} (hs : s < 6) (ht1 : 1 ≤ t) (ht2 : t ≤ 4) (hp : p + pg t ≤ S) (hal : p % pg t = 0) (hpg : 0 < pg t) (ha2 : (32 * s + p) % pg t = 0) {V : Int32} (hV : ∀ f : Nat, f < 32 → V.toBitVec.getLsbD f = rgF A (32 * s + p) (pg t) f) : V = 0 ↔ thr A (32 * s + p) t = [] := by
  have hS := h.2.1
  have hWS := WF_WS h
  constructor
  · intro e
    cases hh : thr A (32 * s + p) t with
    | nil => rfl
    | cons y l =>
      exfalso
      have y1 : y ∈ thr A (32 * s + p) t := by rw [hh]; simp
      have hy := thr_mem h ht1 ht2 (by omega) y1
      have hi := (in_thr h hs ht1 ht2 hp hal hpg ha2 hy).mpr y1
      unfold inR at hi
      rw [decide_eq_true_eq] at hi
      obtain ⟨k1, k2, k3, k4, k7, k8⟩ := lv_sp h hy
      obtain ⟨j, j1, j2, j3⟩ : ∃ j, j < pg t ∧ y ≤ 32 * s + p + j ∧ 32 * s + p + j < y + pgs A y := by
        by_cases z : y ≤ 32 * s + p
        · exact ⟨0, hpg, by omega, by omega⟩
        · exact ⟨y - (32 * s + p), by omega, by omega, by omega⟩
      have hf : fAt A (32 * s + p + j) = A.1 1 y + ((32 * s + p + j : Nat) : Int) - (y : Int) := by
        unfold fAt
        rw [cs_of hWS hy j2 j3]
        dsimp only; omega
      obtain ⟨f, hf2⟩ : ∃ f : Nat, fAt A (32 * s + p + j) = (f : Int) := ⟨(fAt A (32 * s + p + j)).toNat, by omega⟩
      have hr : rgF A (32 * s + p) (pg t) f = true := rgF_iff.mpr ⟨j, j1, hf2⟩
      rw [← hV f (by omega), e] at hr
      have : (0 : Int32).toBitVec.getLsbD f = false := by show (0#32).getLsbD f = false; exact BitVec.getLsbD_zero
      rw [this] at hr
      exact absurd hr (by decide)
  · intro e
    apply Int32.toBitVec_inj.mp
    apply BitVec.eq_of_getLsbD_eq
    intro f hf
    rw [hV f hf]
    show _ = (0#32).getLsbD f
    rw [BitVec.getLsbD_zero]
    cases hh : rgF A (32 * s + p) (pg t) f with
    | false => rfl
    | true =>
      exfalso
      obtain ⟨j, j1, j2⟩ := rgF_iff.mp hh
      unfold fAt at j2
      cases hc : cov A (32 * s + p + j) with
      | none => rw [hc] at j2; dsimp only at j2; omega
      | some d =>
        obtain ⟨c1, c2, c3⟩ := cs_some (by omega) hc
        obtain ⟨k1, k2, k3, k4, k7, k8⟩ := lv_sp h c1
        have hi : inR A s p (pg t) d = true := by unfold inR; rw [decide_eq_true_eq]; omega
        have := (in_thr h hs ht1 ht2 hp hal hpg ha2 c1).mp hi
        rw [e] at this
        simp at this
theorem ls_eq (hC : CRep δ σ bn A) (s p w : Nat) : sml (lsF A s p w) (ldf σ A 0 bn) = fb_sm (fun i => if 0 < A.1 0 i then lsF A s p w i else 0) 192 := by
  rw [sml_perm _ (ldf_perm hC), sml_lvl]
theorem c_lost (h : WF n S A dep) (hC : CRep δ σ bn A) {s p : Nat} {t : Int} (hs : s < 6) (ht1 : 1 ≤ t) (ht2 : t ≤ 4) (hp : p + pg t ≤ S) (hal : p % pg t = 0) (hpg : 0 < pg t) (ha2 : (32 * s + p) % pg t = 0) (a3 : Int32) : ∃ W : Int32, Qu_loss δ (zI (s : Int)) (zI (4 * (p : Int) + (t - 1))) a3 = (if thr A (32 * s + p) t = [] then some (-2 : Int32) else if a3 = 0 then some (zI ((fb_sm (fun i => if 0 < A.1 0 i then lsF A s p (pg t) i else 0) 192 : Nat) : Int)) else some (zI ((fb_ct (fun i => W.toBitVec.getLsbD i) 32 : Nat) : Int))) ∧ ∀ g : Nat, g < 32 → (W.toBitVec.getLsbD g = true ↔ ∃ x, Lv A x ∧ lsB A s p (pg t) x = true ∧ x / 32 = g) := by
  have hS := h.2.1
  have hbn := hC.1.1
  have e1 : zI (4 * (p : Int) + (t - 1)) >>> ((2 : Int32) &&& 31) = zI (p : Int) := by
    rw [show ((2 : Int32) &&& 31) = zI 2 &&& zI 31 from rfl, zI_shr2 (by omega) (by omega), show (4 * (p : Int) + (t - 1)) / 4 = (p : Int) by omega]
  have e2 : (1 : Int32) <<< ((zI (4 * (p : Int) + (t - 1)) &&& (3 : Int32)) &&& 31) = zI (pg t : Int) := by
    rw [show (3 : Int32) = zI 3 from rfl, zI_and3 (by omega) (by omega), show (4 * (p : Int) + (t - 1)) % 4 = t - 1 by omega]
    exact zI_pg ht1 ht2
  obtain ⟨V, v1, v2⟩ := c_lf h hC (s := s) (p := p) (w := pg t) hs (by omega) a3 (pg t) 0 FU (0 : Int32) (by omega) (FU_gt (by omega)) (fun f hf => ⟨fun q => by
    have : (0 : Int32).toBitVec.getLsbD f = false := by show (0#32).getLsbD f = false; exact BitVec.getLsbD_zero
    rw [this] at q; exact absurd q (by decide), fun ⟨j, j1, _⟩ => absurd j1 (Nat.not_lt_zero j)⟩)
  obtain ⟨W, w1, w2⟩ := c_ls_l h hC (s := s) (p := p) (w := pg t) hs (by omega) a3 v2 bn 0 FU 0 (0 : Int32) (by omega) (FU_gt (by omega))
  have z0 : zI ((0 : Nat) : Int) = (0 : Int32) := rfl
  rw [z0, Nat.zero_add, ls_eq hC] at w1
  refine ⟨W, ?_, fun g hg => ?_⟩
  · rw [Qu_loss, e1, bnd_ap, e2, bnd_ap, bnd_ap, bnd_ap, zI_add, show (p : Int) + (pg t : Int) = ((p + pg t : Nat) : Int) by omega]
    rw [Nat.add_zero] at v1
    rw [v1]
    by_cases z : thr A (32 * s + p) t = []
    · rw [if_pos z, if_pos ((ls_none h hs ht1 ht2 hp hal hpg ha2 v2).mpr z)]
    · rw [if_neg z, if_neg (fun q => z ((ls_none h hs ht1 ht2 hp hal hpg ha2 v2).mp q)), w1, bitc_ct, bp_some]
  · rw [w2 g hg]
    have : (0 : Int32).toBitVec.getLsbD g = false := by show (0#32).getLsbD g = false; exact BitVec.getLsbD_zero
    rw [this]
    have hl : ∀ x, x ∈ ldf σ A 0 bn ↔ Lv A x := fun x => by rw [(ldf_perm hC).mem_iff, lvl_mem]
    constructor
    · rintro (q | ⟨x, x1, x2⟩)
      · exact absurd q (by decide)
      · exact ⟨x, (hl x).mp x1, x2⟩
    · rintro ⟨x, x1, x2⟩
      exact .inr ⟨x, (hl x).mpr x1, x2⟩
/-- the reference behind its first looks -/
def moL (d28 : Sl) (a1 a3 v4 v5 : Int32) : Option (Int32 × Sl) :=
  if (d28 34 30) = 0 then some ((-2 : Int32), d28)
  else if inb (0 : Int32) 8 then
    bp (Mo_orderOf d28 (d28 47 (ix (0 : Int32)))) fun r29 =>
    if r29 ≤ v4 then Mo_lost_81 a1 a3 v4 v5 (0 : Int32) d28 else Mo_lost_81 a1 a3 v4 v5 (1 : Int32) d28
  else none
theorem m_lost (hb : MB μ b) (h : WF n S A dep) (hM : MRep B A) (hn : μ 34 11 = zI (n : Int)) {s p : Nat} {t : Int} (hs : s < 6) (ht1 : 1 ≤ t) (ht2 : t ≤ 4) (hp : p + pg t ≤ S) (hal : p % pg t = 0) (hpg : 0 < pg t) (ha2 : (32 * s + p) % pg t = 0) (a3 : Int32) (hT : TH μ (thr A (32 * s + p) t)) : ∃ W : Int32, moL (bst μ b B) (zI (s : Int)) a3 (zI (t - 1)) (zI (p : Int)) = some (if thr A (32 * s + p) t = [] then (-2 : Int32) else if a3 = 0 then zI ((fb_sm (fun i => if 0 < A.1 0 i then lsF A s p (pg t) i else 0) 192 : Nat) : Int) else zI ((fb_ct (fun i => W.toBitVec.getLsbD i) n : Nat) : Int), bst μ b B) ∧ ∀ g : Nat, g < 32 → (W.toBitVec.getLsbD g = true ↔ ∃ x, Lv A x ∧ lsB A s p (pg t) x = true ∧ x / 32 = g) := by
  have hS := h.2.1
  have hn6 := h.1
  have hlen := thr_len (A := A) (q := 32 * s + p) ht1 ht2
  have e30 : bst μ b B 34 30 = zI ((thr A (32 * s + p) t).length : Int) := by rw [bst_ne _ _ _ (by decide)]; exact hT.1
  have e11 : bst μ b B 34 11 = zI (n : Int) := by rw [bst_ne _ _ _ (by omega)]; exact hn
  have hgo : ∀ big : Bool, (big = false → ∀ x, Lv A x → bnR A s p (pg t) x = true → ∀ i, i < pgs A x → rgF A (32 * s + p) (pg t) ((A.1 1 x).toNat + i) = true) → (big = true → ∃ F : Nat, fAt A (32 * s + p) = (F : Int) ∧ F ≤ 64 ∧ ∀ f, rgF A (32 * s + p) (pg t) f = decide (F ≤ f ∧ f < F + pg t)) → ∃ W : Int32, Mo_lost_81 (zI (s : Int)) a3 (zI (t - 1)) (zI (p : Int)) (bI big) (bst μ b B) = some (if a3 = 0 then zI ((fb_sm (fun i => if 0 < A.1 0 i then lsF A s p (pg t) i else 0) 192 : Nat) : Int) else zI ((fb_ct (fun i => W.toBitVec.getLsbD i) n : Nat) : Int), bst μ b B) ∧ ∀ g : Nat, g < 32 → (W.toBitVec.getLsbD g = true ↔ ∃ x, Lv A x ∧ lsB A s p (pg t) x = true ∧ x / 32 = g) := fun big h0 h1 => by
    obtain ⟨W, w1, w2⟩ := m92 hb h hM hs hp hpg ht1 ht2 hal ha2 hT a3 big h0 h1 192 0 FU 0 (0 : Int32) (by omega) (FU_gt (by omega))
    have z0 : zI ((0 : Nat) : Int) = (0 : Int32) := rfl
    rw [z0] at w1
    simp only [Nat.zero_add] at w1
    have t2 := m220 (δ := bst μ b B) hn6 e11 a3 (zI ((fb_sm (fun i => if 0 < A.1 0 i then lsF A s p (pg t) i else 0) 192 : Nat) : Int)) W n 0 FU 0 (by omega) (FU_gt (by omega))
    rw [z0] at t2
    simp only [Nat.zero_add] at t2
    refine ⟨W, by rw [Mo_lost_81, bnd_ap, bnd_ap, bnd_ap, bnd_ap, w1, t2], fun g hg => ?_⟩
    rw [w2 g hg]
    have : (0 : Int32).toBitVec.getLsbD g = false := by show (0#32).getLsbD g = false; exact BitVec.getLsbD_zero
    rw [this]
    constructor
    · rintro (q | ⟨x, -, x2⟩)
      · exact absurd q (by decide)
      · exact ⟨x, x2⟩
    · rintro ⟨x, x1⟩
      exact .inr ⟨x, Nat.zero_le x, x1⟩
  unfold moL
  cases hh : thr A (32 * s + p) t with
  | nil =>
    have hz : ∃ W : Int32, ∀ g : Nat, g < 32 → (W.toBitVec.getLsbD g = true ↔ ∃ x, Lv A x ∧ lsB A s p (pg t) x = true ∧ x / 32 = g) := by
      refine ⟨0, fun g hg => ?_⟩
      have : (0 : Int32).toBitVec.getLsbD g = false := by show (0#32).getLsbD g = false; exact BitVec.getLsbD_zero
      rw [this]
      constructor
      · intro q; exact absurd q (by decide)
      · rintro ⟨x, x1, x2, -⟩
        unfold lsB at x2
        rw [Bool.and_eq_true] at x2
        obtain ⟨y, y1, -⟩ := (bn_thr h hs ht1 ht2 hp hal hpg ha2 x1).mp x2.1
        rw [hh] at y1; simp at y1
    obtain ⟨W, w1⟩ := hz
    refine ⟨W, ?_, w1⟩
    rw [hh] at e30
    rw [e30, if_pos (show zI ((([] : List Nat).length : Nat) : Int) = 0 from rfl), if_pos rfl]
  | cons y l =>
    have y1 : y ∈ thr A (32 * s + p) t := by rw [hh]; simp
    have hy := thr_mem h ht1 ht2 (by omega) y1
    have hy1 := hy.1
    have e47 : bst μ b B 47 0 = zI (y : Int) := by rw [bst_ne _ _ _ (by decide)]; exact hT.2 0 y (by rw [hh]; rfl)
    have hor : Mo_orderOf (bst μ b B) (zI (y : Int)) = some (zI (A.1 0 y - 1)) := by
      unfold Mo_orderOf; rw [m_of0 hb hy1, bp_some, hM.1 y hy1, zI_lit, zI_sub]
    have w4 := (h.2.2.2.1 y hy).1
    have w0 := hy.2
    have hl2 : (thr A (32 * s + p) t).length = l.length + 1 := by rw [hh]; rfl
    rw [e30, if_neg (by rw [zI_lit, zI_eq (by omega) (by omega) (by omega) (by omega)]; omega), if_pos (by decide), show ix (0 : Int32) = 0 from by decide, e47, hor, bp_some]
    by_cases z : t < A.1 0 y
    · rw [if_neg (by rw [zI_le (by omega) (by omega) (by omega) (by omega)]; omega)]
      obtain ⟨W, w1, w2⟩ := hgo true (fun q => absurd q (by decide)) (fun _ => ls_big h hs ht1 ht2 hp ha2 hpg y1 z)
      exact ⟨W, by rw [show (1 : Int32) = bI true from rfl, w1, if_neg (c := y :: l = []) (by simp)], w2⟩
    · rw [if_pos (by rw [zI_le (by omega) (by omega) (by omega) (by omega)]; omega)]
      have hsm : ∀ y, y ∈ thr A (32 * s + p) t → ¬ t < A.1 0 y := by
        rcases thr_cases h ht1 ht2 (by omega) ha2 (by omega) y1 with ⟨u, -⟩ | ⟨-, -, -, u⟩
        · exact absurd u z
        · exact fun y' hy' => (u y' hy').1
      · obtain ⟨W, w1, w2⟩ := hgo false (fun _ x hx hb2 i hi => ls_small h hs ht1 ht2 hp hal hpg ha2 hsm hx hb2 hi) (fun q => absurd q (by decide))
        refine ⟨W, ?_, w2⟩
        have e0 : bI false = (0 : Int32) := rfl
        rw [e0] at w1
        rw [w1, if_neg (c := y :: l = []) (by simp)]
end
theorem top_lost {c n0 : Nat} {M : Mem} {μ : Sl} (hI : Inv c n0 M μ) (a1 a2 a3 : Int32) : TopQ c n0 M (Fh_lost M a1 a2 a3) (Mo_lost μ a1 a2 a3) := by
  obtain ⟨n, S, k, w, t, B, σ, bn, A, dep, J, N, e, qv, pv, wv, ⟨a, a2', a3', a4, a5⟩, -, ⟨⟨hW, hC, hM, -, -, hJ, hJC, hJM, -, -⟩, hX⟩, hSB, ⟨f1, f2⟩, ⟨hN, -⟩, hT, hq, -⟩ := top_q hI
  obtain ⟨x1, i1, rfl⟩ := zI_ex a1
  obtain ⟨x2, i2, rfl⟩ := zI_ex a2
  obtain ⟨x3, i3, rfl⟩ := zI_ex a3
  have iw := inv_wr hI (0 : Int32)
  have hn6 := hSB.2.2.1.1
  have hS := hW.2.1
  have cl : Fh_lost M (zI x1) (zI x2) (zI x3) = if (decide (0 ≤ x1 ∧ x1 < (n : Int)) && (decide (0 ≤ x2) && rgB S (x2 / 4) (x2 % 4 + 1))) = true then (if decide (0 ≤ x3 ∧ x3 ≤ 1) = true then (bp (Qu_loss (M w) (zI x1) (zI x2) (zI x3)) fun r4 => some r4) else some (-1 : Int32)) else some (-1 : Int32) := by
    rw [Fh_lost, a, gref_z (by omega), c_isRegionOf hSB.1 hSB.2.2.1 i1 i2, bp_some, bI_if, gref_z (by omega)]
    have i3a := i3.1
    have i3b := i3.2
    by_cases z : x3 < 0
    · rw [if_pos (c := zI x3 < 0) (by rw [zI_lit, zI_lt (by omega) (by omega) (by omega) (by omega)]; exact z), decide_eq_false (show ¬ (0 ≤ x3 ∧ x3 ≤ 1) by omega), if_neg (c := false = true) (by decide)]
    · rw [if_neg (c := zI x3 < 0) (by rw [zI_lit, zI_lt (by omega) (by omega) (by omega) (by omega)]; exact z)]
      by_cases y : x3 ≤ 1
      · rw [if_pos (c := zI x3 ≤ 1) (by rw [show (1 : Int32) = zI 1 from rfl, zI_le (by omega) (by omega) (by omega) (by omega)]; exact y), decide_eq_true (show 0 ≤ x3 ∧ x3 ≤ 1 by omega), if_pos (c := true = true) rfl]
      · rw [if_neg (c := zI x3 ≤ 1) (by rw [show (1 : Int32) = zI 1 from rfl, zI_le (by omega) (by omega) (by omega) (by omega)]; exact y), decide_eq_false (show ¬ (0 ≤ x3 ∧ x3 ≤ 1) by omega), if_neg (c := false = true) (by decide)]
  have mo : Mo_lost μ (zI x1) (zI x2) (zI x3) = if decide (0 ≤ x1 ∧ x1 < (n : Int)) = true then (if (decide (0 ≤ x2) && rgB S (x2 / 4) (x2 % 4 + 1)) = true then (if decide (0 ≤ x3 ∧ x3 ≤ 1) = true then (bd (Mo_looks (wr μ 34 2 (0 : Int32)) (zI x1) (zI x2 / (4 : Int32)) (zI x2 - zI x2 / (4 : Int32) * (4 : Int32))) fun _ d28 => moL d28 (zI x1) (zI x3) (zI x2 - zI x2 / (4 : Int32) * (4 : Int32)) (zI x2 / (4 : Int32))) else some ((-1 : Int32), wr μ 34 2 (0 : Int32))) else some ((-1 : Int32), wr μ 34 2 (0 : Int32))) else some ((-1 : Int32), wr μ 34 2 (0 : Int32)) := by
    rw [Mo_lost, bnd_ap, m_isSpace hSB.2.1 hSB.2.2.1 i1, bp_some, bI_if, m_isRegion hSB.2.1 hSB.2.2.1 i2, bp_some, bI_if]
    have hin : Mo_isIn (zI x3) (0 : Int32) (1 : Int32) = some (bI (decide (0 ≤ x3 ∧ x3 ≤ 1))) := m_isIn i3 (lo := 0) (hi := 1) ⟨by omega, by omega⟩ ⟨by omega, by omega⟩
    rw [hin, bp_some, bI_if, if_pos four_ne, bnd_ap, if_pos four_ne, bnd_ap]
    rfl
  rw [cl, mo]
  by_cases z1 : 0 ≤ x1 ∧ x1 < (n : Int)
  · rw [if_pos (c := decide (0 ≤ x1 ∧ x1 < (n : Int)) = true) (decide_eq_true z1), decide_eq_true z1, Bool.true_and]
    by_cases z2 : (decide (0 ≤ x2) && rgB S (x2 / 4) (x2 % 4 + 1)) = true
    · rw [if_pos z2, if_pos z2]
      by_cases z3 : 0 ≤ x3 ∧ x3 ≤ 1
      · rw [if_pos (decide_eq_true z3), if_pos (decide_eq_true z3)]
        rw [Bool.and_eq_true, decide_eq_true_eq] at z2
        have hrg := of_decide_eq_true z2.2
        obtain ⟨s1, rfl⟩ : ∃ s1 : Nat, x1 = (s1 : Int) := ⟨x1.toNat, by omega⟩
        obtain ⟨p, hp⟩ : ∃ p : Nat, x2 / 4 = (p : Int) := ⟨(x2 / 4).toNat, by omega⟩
        obtain ⟨tt, htt⟩ : ∃ tt : Int, tt = x2 % 4 + 1 := ⟨_, rfl⟩
        rw [hp, ← htt] at hrg
        have hx2 : x2 = 4 * (p : Int) + (tt - 1) := by omega
        have i2b := i2.2
        have hS3 : S = 8 ∨ S = 16 ∨ S = 32 := hSB.2.2.1.2.1
        obtain ⟨r1, r2, r3, r4⟩ := rg_al hS3 (by omega) (by omega) hrg s1
        obtain ⟨W1, c1, c2⟩ := c_lost hW hC (s := s1) (p := p) (t := tt) (by omega) (by omega) (by omega) r1 r2 r3 r4 (zI x3)
        have ed : zI x2 / (4 : Int32) = zI (p : Int) := by
          rw [show (4 : Int32) = zI 4 from rfl, zI_div z2.1 i2b (by omega) (by omega), hp]
        have em : zI x2 - zI x2 / (4 : Int32) * (4 : Int32) = zI (tt - 1) := by
          rw [show (4 : Int32) = zI 4 from rfl, zI_m4 z2.1 i2b, htt]
        obtain ⟨μ1, k1, k2, k3⟩ := m_looks f1 hW hM (s := s1) (p := p) (t := tt) (by omega) (by omega) (by omega) (by omega)
        have hb1 : MB μ1 0 := ⟨by rw [k3 _ _ (by omega) (by omega) (by omega)]; exact f1.1, f1.2⟩
        obtain ⟨W2, u1, u2⟩ := m_lost hb1 hW hM (by rw [k3 _ _ (by omega) (by omega) (by omega)]; exact hSB.2.1.1) (s := s1) (p := p) (t := tt) (by omega) (by omega) (by omega) r1 r2 r3 r4 (zI x3) k2
        have hbk : bst μ1 0 B = μ1 := by
          funext a' i'
          by_cases q : a' = 45
          · subst q
            have f3 := congrFun (congrFun f2 45) i'
            unfold bst at f3 ⊢
            rw [k3 45 i' (by omega) (by omega) (by omega)]
            exact f3
          · exact bst_ne _ _ _ q
        rw [f2, hbk] at k1
        rw [hbk] at u1
        have ec : fb_ct (fun i => W1.toBitVec.getLsbD i) 32 = fb_ct (fun i => W2.toBitVec.getLsbD i) n := by
          have hn := hW.1
          have e1 : fb_ct (fun i => W1.toBitVec.getLsbD i) 32 = fb_ct (fun i => W2.toBitVec.getLsbD i) 32 := fb_ct_cong (fun k hk => by
            rw [Bool.eq_iff_iff, c2 k hk, u2 k hk])
          have e2 := fb_ct_sp (fun i => W2.toBitVec.getLsbD i) n (32 - n)
          rw [show n + (32 - n) = 32 by omega] at e2
          have e3 : fb_ct (fun k => W2.toBitVec.getLsbD (n + k)) (32 - n) = 0 := by
            rw [fb_ct_zero]
            intro k hk
            cases hh : W2.toBitVec.getLsbD (n + k) with
            | false => rfl
            | true =>
              obtain ⟨x, q1, -, q2⟩ := (u2 (n + k) (by omega)).mp hh
              have := (lv_sp hW q1).1
              omega
          omega
        rw [em, ed, k1, bd_some, u1, hx2, c1, ec]
        have hIv := hq μ1 k3
        by_cases zz : thr A (32 * s1 + p) tt = []
        · rw [if_pos zz, if_pos zz]; exact ⟨_, _, rfl, rfl, hIv⟩
        · rw [if_neg zz, if_neg zz]
          by_cases z0 : zI x3 = 0
          · rw [if_pos z0, if_pos z0]; exact ⟨_, _, rfl, rfl, hIv⟩
          · rw [if_neg z0, if_neg z0]; exact ⟨_, _, rfl, rfl, hIv⟩
      · rw [if_neg (by rw [decide_eq_true_eq]; exact z3), if_neg (by rw [decide_eq_true_eq]; exact z3)]
        exact ⟨_, _, rfl, rfl, iw⟩
    · rw [if_neg z2, if_neg z2]
      exact ⟨_, _, rfl, rfl, iw⟩
  · rw [if_neg (c := decide (0 ≤ x1 ∧ x1 < (n : Int)) = true) (by rw [decide_eq_true_eq]; exact z1), decide_eq_false z1, Bool.false_and, if_neg (by decide)]
    exact ⟨_, _, rfl, rfl, iw⟩
