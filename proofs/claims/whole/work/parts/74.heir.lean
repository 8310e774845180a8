/-! ===== wide lines; an heir comes ===== -/
def la (a c : Int) : Int := ((a.toNat &&& c.toNat : Nat) : Int)
theorem zI_and8 : ∀ a c : Fin 8, zI (a.val : Int) &&& zI (c.val : Int) = zI ((a.val &&& c.val : Nat) : Int) ∧ (a.val &&& c.val) ≤ 7 := by decide +kernel
theorem zI_and7 {a c : Int} (h1 : 0 ≤ a) (h2 : a ≤ 7) (h3 : 0 ≤ c) (h4 : c ≤ 7) : zI a &&& zI c = zI (la a c) ∧ 0 ≤ la a c ∧ la a c ≤ 7 := by
  have h := zI_and8 ⟨a.toNat, by omega⟩ ⟨c.toNat, by omega⟩
  simp only at h
  rw [show ((a.toNat : Nat) : Int) = a by omega, show ((c.toNat : Nat) : Int) = c by omega] at h
  have e : la a c = ((a.toNat &&& c.toNat : Nat) : Int) := rfl
  refine ⟨h.1, by rw [e]; omega, by rw [e]; have := h.2; omega⟩
theorem svv_or : ∀ (k : Fin 4) b0 b1 b2 b3, svv b0 b1 b2 b3 ||| (zI 1 <<< (zI (k.val : Int) &&& zI 31)) = svv (b0 || decide (k.val = 0)) (b1 || decide (k.val = 1)) (b2 || decide (k.val = 2)) (b3 || decide (k.val = 3)) := by decide +kernel
def WB (δ : Sl) (B : Nat → Int) : Prop := ∀ s, s < 6 → δ 15 s = svv (decide (zI (B (1920 + 4 * s)) = zI 1)) (decide (zI (B (1921 + 4 * s)) = zI 1)) (decide (zI (B (1922 + 4 * s)) = zI 1)) (decide (zI (B (1923 + 4 * s)) = zI 1))
theorem c_widen {δ : Sl} {B : Nat → Int} (hW : WB δ B) (M : Mem) {s p : Nat} {o : Int} (hs : s < 6) (hp : p < 32) (ho1 : 0 ≤ o) (ho2 : o ≤ 4) :
    ∃ δ', Wo_widen M δ (zI (s : Int)) (zI (p : Int)) (zI (o - 1)) = some ((), δ') ∧ (∀ a i, a ≠ 15 → δ' a i = δ a i) ∧ ∀ B' : Nat → Int, (∀ k, 1920 ≤ k → k < 1944 → B' k = if 1 < o ∧ k = wdc (32 * s + p) then 1 else B k) → WB δ' B' := by
  unfold Wo_widen
  by_cases q : 1 < o
  · have hk : p / 8 < 4 := by omega
    refine ⟨wr δ 15 s (δ 15 s ||| (zI 1 <<< (zI ((p / 8 : Nat) : Int) &&& zI 31))), ?_, fun a i ha => by rw [wr_ap, if_neg (fun z => ha z.1)], fun B' hB s' hs' => ?_⟩
    · have e8 : (p : Int) / 8 = ((p / 8 : Nat) : Int) := by omega
      simp (disch := omega) only [zI_lit, zI_le, zI_lt, if_neg, zI_inb, if_pos, zI_eq, zI_ix, Int.toNat_natCast, zI_div, e8, bnd_ap]
    · have hw : wdc (32 * s + p) = 1920 + 4 * s + p / 8 := by unfold wdc; omega
      rw [hw] at hB
      by_cases q2 : s' = s
      · subst q2
        rw [wr_ap, if_pos ⟨rfl, rfl⟩, hW s' hs', svv_or ⟨p / 8, hk⟩]
        have c : ∀ j, j < 4 → (decide (zI (B' (1920 + j + 4 * s')) = zI 1)) = (decide (zI (B (1920 + j + 4 * s')) = zI 1) || decide (p / 8 = j)) := fun j hj => by
          rw [hB _ (by omega) (by omega)]
          by_cases z : p / 8 = j
          · rw [if_pos ⟨q, by omega⟩]; simp [z]
          · rw [if_neg (fun w => z (by omega))]; simp [z]
        rw [show 1920 + 4 * s' = 1920 + 0 + 4 * s' by omega, c 0 (by omega), show 1921 + 4 * s' = 1920 + 1 + 4 * s' by omega, c 1 (by omega), show 1922 + 4 * s' = 1920 + 2 + 4 * s' by omega, c 2 (by omega), show 1923 + 4 * s' = 1920 + 3 + 4 * s' by omega, c 3 (by omega)]
      · rw [wr_ap, if_neg (fun z => q2 z.2), hW s' hs', hB _ (by omega) (by omega), hB _ (by omega) (by omega), hB _ (by omega) (by omega), hB _ (by omega) (by omega), if_neg (by omega), if_neg (by omega), if_neg (by omega), if_neg (by omega)]
  · refine ⟨δ, ?_, fun _ _ _ => rfl, fun B' hB s' hs' => ?_⟩
    · simp (disch := omega) only [zI_lit, zI_le, if_pos]
    · rw [hW s' hs', hB _ (by omega) (by omega), hB _ (by omega) (by omega), hB _ (by omega) (by omega), hB _ (by omega) (by omega), if_neg (by omega), if_neg (by omega), if_neg (by omega), if_neg (by omega)]
theorem aAdd_att (A : Ab) {d g : Nat} (hdg : d ≠ g) (o f r a : Int) : setG (aAdd A d o f r 0 a) d ((g : Int) + 1) (upK (aAdd A d o f r 0 a).2 g ((aAdd A d o f r 0 a).2 g ++ [d])) = aAdd A d o f r ((g : Int) + 1) a := by
  unfold setG aAdd upK
  refine Prod.ext ?_ ?_
  · funext j x
    by_cases q : x = d
    · subst q
      by_cases w : j = 3
      · subst w; simp
      · simp [w]
    · simp [q]
  · funext x
    dsimp only
    by_cases q : x = d
    · subst q; rw [if_neg hdg, if_pos rfl, if_pos rfl]
    · rw [if_neg q, if_neg q, if_neg (Ne.symm hdg)]
      by_cases w : x = g
      · subst w; rw [if_pos rfl, if_neg (by omega), if_pos rfl]
      · rw [if_neg w, if_neg (by omega), if_neg (by omega)]
/-- what a new heir must fulfil -/
def AddOk (n S : Nat) (A : Ab) (d : Nat) (o f r : Int) (g : Nat) : Prop :=
  d < 192 ∧ 1 ≤ o ∧ o ≤ 4 ∧ d % pg o = 0 ∧ d / 32 < n ∧ d % 32 + pg o ≤ S ∧ 0 ≤ f ∧ f % (pg o : Int) = 0 ∧ f + pg o ≤ S ∧ 0 ≤ r ∧ r ≤ 7 ∧ (∀ e, Lv A e → e + pgs A e ≤ d ∨ d + pg o ≤ e) ∧ Lv A g ∧ o ≤ A.1 0 g ∧ A.1 1 g ≤ f ∧ f + pg o ≤ A.1 1 g + pgs A g
theorem AddOk_WF {n S : Nat} {A : Ab} {dep : Nat → Nat} (h : WF n S A dep) {d g : Nat} {o f r a : Int} (hA : AddOk n S A d o f r g) (ha1 : 0 ≤ a) (ha2 : a ≤ 1266679808) : (∃ dep', WF n S (aAdd A d o f r ((g : Int) + 1) a) dep') ∧ ¬ Lv A d := by
  obtain ⟨a1, a2, a3, a4, a5, a6, a7, a8, a9, a10, a11, a12, a13, a14, a15, a16⟩ := hA
  refine ⟨WF_add h a1 a2 a3 a4 a5 a6 a7 a8 a9 a10 a11 ha1 ha2 a12 (.inr ⟨g, rfl, a13, a14, a15, a16⟩), fun hl => ?_⟩
  have := a12 d hl
  have := pgs_pos h hl
  have := pg_pos a2 a3
  omega
theorem WS_add {n S : Nat} {A : Ab} {dep : Nat → Nat} (h : WF n S A dep) {d g : Nat} {o f r : Int} (hA : AddOk n S A d o f r g) : WS (aAdd A d o f r 0 0) := by
  obtain ⟨⟨dep', hW'⟩, -⟩ := AddOk_WF (a := 0) h hA (by omega) (by omega)
  have hw := WF_WS hW'
  have e0 : ∀ x, (aAdd A d o f r 0 0).1 0 x = (aAdd A d o f r ((g : Int) + 1) 0).1 0 x := fun x => by
    unfold aAdd; dsimp only
    by_cases q : x = d
    · simp [q]
    · simp [q]
  have el : ∀ x, Lv (aAdd A d o f r 0 0) x ↔ Lv (aAdd A d o f r ((g : Int) + 1) 0) x := fun x => by unfold Lv; rw [e0]
  have ep : ∀ x, pgs (aAdd A d o f r 0 0) x = pgs (aAdd A d o f r ((g : Int) + 1) 0) x := fun x => by unfold pgs; rw [e0]
  exact ⟨fun x hx => by rw [e0, ep]; exact hw.1 x ((el x).mp hx), fun x y hx hy => by rw [ep, ep]; exact hw.2.1 x y ((el x).mp hx) ((el y).mp hy), fun x hx => by rw [e0]; exact hw.2.2 x hx⟩
theorem c_addHeir {n S : Nat} {A : Ab} {dep : Nat → Nat} {δ : Sl} {σ : Nat → Nat} {bn : Nat} {B : Nat → Int} (h : WF n S A dep) (hC : CRep δ σ bn A) (hWB : WB δ B) (M : Mem) {s p g fp : Nat} {o r : Int} (hs : s < 6) (hp : p < 32) (hf : AddOk n S A (32 * s + p) o (A.1 1 g + (fp : Int) - ((g % 32 : Nat) : Int)) r g) (hfp : fp < 32) :
    ∃ δ' σ' bn', Wo_addHeir M δ (zI (σ g : Int)) (zI (fp : Int)) (zI (s : Int)) (zI (p : Int)) (zI (o - 1)) (zI r) = some (zI (σ' (32 * s + p) : Int), δ') ∧ CRep δ' σ' bn' (aAdd A (32 * s + p) o (A.1 1 g + (fp : Int) - ((g % 32 : Nat) : Int)) r ((g : Int) + 1) 0) ∧ (∀ x, Lv A x → σ' x = σ x) ∧ (∀ a i, a ≠ 15 → (a < 17 ∨ 32 < a) → δ' a i = δ a i) ∧ δ' 17 19 = δ 17 19 ∧ ∀ B' : Nat → Int, (∀ k, 1920 ≤ k → k < 1944 → B' k = if 1 < o ∧ k = wdc (32 * s + p) then 1 else B k) → WB δ' B' := by
  have hWSa := WS_add h hf
  obtain ⟨⟨dep', hW'⟩, hnl⟩ := AddOk_WF (a := 0) h hf (by omega) (by omega)
  have hf' := hf
  obtain ⟨a1, a2, a3, a4, a5, a6, a7, a8, a9, a10, a11, a12, a13, a14, a15, a16⟩ := hf'
  generalize hF : A.1 1 g + (fp : Int) - ((g % 32 : Nat) : Int) = F at *
  have hd32 : (32 * s + p) / 32 = s ∧ (32 * s + p) % 32 = p := by omega
  have hKW := WF_KW h
  have hS32 := h.2.1
  obtain ⟨j, bn', j1, j2, j3, j4⟩ := cr_make (f := F) (r := r) hC.1 (fun q hq _ => hC.2.1 q hq) hC.2.2.1 hC.2.2.2.1 hC.2.2.2.2 (WF_WS h) hWSa hKW a2 a3 (by omega) hnl
  rw [hd32.1, hd32.2] at j2
  have hKW2 := KW_add (o := o) (f := F) (r := r) (a := 0) hKW hnl a1 (by omega)
  have hgd : 32 * s + p ≠ g := fun e => hnl (e ▸ a13)
  have lg : Lv (aAdd A (32 * s + p) o F r 0 0) g := ⟨a13.1, by show 0 < if g = 32 * s + p then _ else A.1 0 g; rw [if_neg (Ne.symm hgd)]; exact a13.2⟩
  have ld0 : (aAdd A (32 * s + p) o F r 0 0).1 0 (32 * s + p) = o := by simp [aAdd]
  have ld : Lv (aAdd A (32 * s + p) o F r 0 0) (32 * s + p) := ⟨a1, by rw [ld0]; omega⟩
  obtain ⟨δ2, s1, s2, s3, s4⟩ := cr_append j3 hKW2 ld lg (by simp [aAdd])
  rw [if_pos rfl, if_neg (Ne.symm hgd)] at s1
  rw [aAdd_att A hgd] at s2
  have hm15 : ∀ a i, (a < 17 ∨ 32 < a) → mkS δ j bn (32 * s + p) F o r a i = δ a i := fun a i ha => by
    unfold mkS; rw [if_neg (by omega), if_neg (by omega), if_neg (by omega), if_neg (by omega)]
  have hm19 : mkS δ j bn (32 * s + p) F o r 17 19 = δ 17 19 := by
    unfold mkS; rw [if_neg (by omega), if_neg (by omega), if_neg (by omega), if_neg (by omega)]
  have hWB2 : WB δ2 B := fun s' hs' => by rw [s4 15 s' (by omega), hm15 15 s' (by omega)]; exact hWB s' hs'
  obtain ⟨δ3, w1, w2, w3⟩ := c_widen hWB2 M hs hp (o := o) (by omega) a3
  have hfr : Qu_frameAt δ (zI (σ g : Int)) (zI (fp : Int)) = some (zI F) := by
    have b1 := cr_lt hC a13
    obtain ⟨c1, c2, c3, -⟩ := hC.2.2.1 g a13
    simp (disch := omega) only [Qu_frameAt, zI_inb, if_pos, zI_ix, Int.toNat_natCast, c2, c3, zI_add, zI_sub, hF]
  refine ⟨δ3, fun x => if x = 32 * s + p then j else σ x, bn', ?_, cr_frame s2 (fun a i h1 h2 => w2 a i (by omega)) (w2 _ _ (by omega)) (w2 _ _ (by omega)) (w2 _ _ (by omega)), fun x hx => if_neg (show x ≠ 32 * s + p from fun e => hnl (e ▸ hx)), fun a i h1 h2 => by rw [w2 a i h1, s4 a i (by omega), hm15 a i h2], by rw [w2 17 19 (by omega), s4 17 19 (by omega), hm19], w3⟩
  dsimp only
  rw [if_pos rfl]
  simp only [Wo_addHeir, hfr, bp_some, bnd_ap, j2, bd_some]
  simp (disch := omega) only [zI_lit, zI_lt, if_neg, s1, bd_some, w1]
