/-! ===== reading a text: size, budget, decay, seed ===== -/
def v4 (f : Nat → Bool) : Int32 := s4 (f 3) (f 4) (f 5) (f 6)
theorem s4_or : ∀ (k : Fin 4) b3 b4 b5 b6, s4 b3 b4 b5 b6 ||| ((1 : Int32) <<< (zI ((3 + k.val : Nat) : Int) &&& 31)) = s4 (b3 || decide (k.val = 0)) (b4 || decide (k.val = 1)) (b5 || decide (k.val = 2)) (b6 || decide (k.val = 3)) := by decide +kernel
theorem s4_ts : ∀ (k : Fin 4) b3 b4 b5 b6, ((s4 b3 b4 b5 b6 >>> (zI ((3 + k.val : Nat) : Int) &&& 31)) &&& (1 : Int32) = 0) ↔ ((if k.val = 0 then b3 else if k.val = 1 then b4 else if k.val = 2 then b5 else b6) = false) := by decide +kernel
theorem v4_or (f : Nat → Bool) {w : Nat} (h1 : 3 ≤ w) (h2 : w ≤ 6) : v4 f ||| ((1 : Int32) <<< (zI (w : Int) &&& 31)) = v4 (upF f w) := by
  have : w = 3 ∨ w = 4 ∨ w = 5 ∨ w = 6 := by omega
  rcases this with rfl | rfl | rfl | rfl
  · exact s4_or 0 _ _ _ _
  · exact s4_or 1 _ _ _ _
  · exact s4_or 2 _ _ _ _
  · exact s4_or 3 _ _ _ _
theorem v4_ts (f : Nat → Bool) {w : Nat} (h1 : 3 ≤ w) (h2 : w ≤ 6) : ((v4 f >>> (zI (w : Int) &&& 31)) &&& (1 : Int32) = 0) ↔ f w = false := by
  have : w = 3 ∨ w = 4 ∨ w = 5 ∨ w = 6 := by omega
  rcases this with rfl | rfl | rfl | rfl
  · exact s4_ts 0 _ _ _ _
  · exact s4_ts 1 _ _ _ _
  · exact s4_ts 2 _ _ _ _
  · exact s4_ts 3 _ _ _ _
section
variable {T : Nat → Nat} {n q : Nat} {M : Mem} {μ : Sl}
/-- told already: both fail -/
theorem told_f {p w : Nat} (hS : SY T n M μ p) : ∃ M2 μ2, Re_fail M (3 : Int32) = some ((0 : Int32), M2) ∧ Mo_wrong μ (3 : Int32) = some ((0 : Int32), μ2) ∧ FL M2 μ2 ∧ FRc q M M2 ∧ FRm μ μ2 := by
  obtain ⟨M3, μ3, f1, f2, f3, f4, f5, -⟩ := fail_on hS.2.1.2.2.1 hS.2.2.2.2.1 q (3 : Int32)
  exact ⟨M3, μ3, f1, f2, f3, f4, f5⟩
theorem wd_line (hB : RBs T n q M μ) {p w : Nat} (hS : SY T n M μ p) (hR : RSx M q μ) (hk : lxK T n p = 1) (hw : 4 ≤ w) (hw2 : w ≤ 6) (hv : lxC T n p = w) : BO T n q p M μ (Re_readSetting M (zI (w : Int))) (Mo_wordLine μ) := by
  obtain ⟨nr, pv, wv, qv, qt, S, wb, dc, sd, tb, cs, kd, x, hP, hT, hU⟩ := hR
  obtain ⟨⟨a1, a2, a3⟩, b1, b2, -⟩ := id hB
  have rg := lx_rg (T := T) hS.1
  have prog : p < lxN T n p := by have := rg.2.2.2.2.1 (by omega); omega
  have ev := (lx_val (T := T) (n := n) (p := p)).1 (.inl hk)
  have m9 : μ 34 9 = zI (w : Int) := by rw [hS.2.2.2.2.2 (.inl hk), ← ev, hv]
  obtain ⟨h1, h2, h3, h4, h5, h6⟩ := id hT
  have h5' : M 0 2 8 = v4 tb := h5
  have e42 := h6 w (by omega) hw2
  have i7 : inb (zI (w : Int)) 7 := zI_in (by omega) (by omega)
  have x7 : ix (zI (w : Int)) = w := zI_ixn (by omega)
  have tst := v4_ts tb (w := w) (by omega) hw2
  have n3 : ¬ zI (w : Int) = (3 : Int32) := by rw [zI_lit, zI_eq (by omega) (by omega) (by omega) (by omega)]; omega
  have cl0 : Re_readSetting M (zI (w : Int)) = Re_readSetting_21 (zI (w : Int)) M := by rw [Re_readSetting, if_neg n3]
  cases htb : tb w with
  | true =>
    obtain ⟨M2, μ2, f1, f2, f3, f4, f5⟩ := told_f (q := q) (w := w) hS
    refine .inl ⟨M2, μ2, ?_, ?_, f3, f4, f5⟩
    · rw [cl0, Re_readSetting_21, h5', if_neg (by rw [tst, htb]; decide), f1, bd_some, ok01]
    · rw [Mo_wordLine, m9, bnd_ap, if_pos i7, x7, e42, htb, if_neg (by decide), f2, bd_some, ok01]
  | false =>
    have c0 : ∀ j a i, ¬ (j = 0 ∧ a = 2 ∧ i = 8) → wrM M 0 2 8 (v4 (upF tb w)) j a i = M j a i := fun j a i z => by rw [wrM_ap, if_neg z]
    have c8 : wrM M 0 2 8 (v4 (upF tb w)) 0 2 8 = v4 (upF tb w) := by rw [wrM_ap, if_pos ⟨rfl, rfl, rfl⟩]
    have d0 : ∀ a i, ¬ (a = 42 ∧ i = w) → wr μ 42 w (1 : Int32) a i = μ a i := fun a i z => by rw [wr_ap, if_neg z]
    have d42 : wr μ 42 w (1 : Int32) 42 w = 1 := by rw [wr_ap, if_pos ⟨rfl, rfl⟩]
    have cl1 : Re_readSetting M (zI (w : Int)) = if zI (w : Int) = (4 : Int32) then (gref (wrM M 0 2 8 (v4 (upF tb w)) 0 2 10) fun u12 => bd (Re_takeNumber (wrM M 0 2 8 (v4 (upF tb w))) (0 : Int32) (9 : Int32)) fun r13 d14 => bnd (wrM d14 u12 4 7 r13) fun d15 => gref (d15 0 2 10) fun u16 => if (d15 u16 4 7) < 0 then (some ((0 : Int32), d15)) else (some ((1 : Int32), d15))) else (if zI (w : Int) = (5 : Int32) then (gref (wrM M 0 2 8 (v4 (upF tb w)) 0 2 10) fun u7 => bd (Re_takeNumber (wrM M 0 2 8 (v4 (upF tb w))) (1 : Int32) (9 : Int32)) fun r8 d9 => bnd (wrM d9 u7 4 8 r8) fun d10 => gref (d10 0 2 10) fun u11 => if (d10 u11 4 8) < 0 then (some ((0 : Int32), d10)) else (some ((1 : Int32), d10))) else (gref (wrM M 0 2 8 (v4 (upF tb w)) 0 2 10) fun u2 => bd (Re_takeNumber (wrM M 0 2 8 (v4 (upF tb w))) (0 : Int32) (99999 : Int32)) fun r3 d4 => bnd (wrM d4 u2 4 9 r3) fun d5 => gref (d5 0 2 10) fun u6 => if (d5 u6 4 9) < 0 then (some ((0 : Int32), d5)) else (some ((1 : Int32), d5)))) := by
      rw [cl0, Re_readSetting_21, h5', if_pos (tst.mpr htb), v4_or tb (by omega) hw2, bnd_ap, if_neg n3]
    have mo1 : Mo_wordLine μ = (bd (Mo_token (wr μ 42 w (1 : Int32))) fun r5 d6 => if zI (w : Int) = (4 : Int32) then (bd (Mo_number d6 (0 : Int32) (9 : Int32)) fun r11 d12 => Mo_wordLine_68 (zI (w : Int)) r11 d12) else (if zI (w : Int) = (5 : Int32) then (bd (Mo_number d6 (1 : Int32) (9 : Int32)) fun r9 d10 => Mo_wordLine_68 (zI (w : Int)) r9 d10) else (bd (Mo_number d6 (0 : Int32) (99999 : Int32)) fun r7 d8 => Mo_wordLine_68 (zI (w : Int)) r7 d8))) := by
      rw [Mo_wordLine, m9, bnd_ap, if_pos i7, x7, e42, htb, if_pos (show bI false = 0 from rfl), if_pos i7, bnd_ap]
    have fc0 : FRc q M (wrM M 0 2 8 (v4 (upF tb w))) := fun j a i z _ => c0 j a i (by omega)
    have fm0 : FRm μ (wr μ 42 w (1 : Int32)) := fun a i _ _ _ z _ _ => d0 a i (by omega)
    have hS0 : SY T n (wrM M 0 2 8 (v4 (upF tb w))) (wr μ 42 w (1 : Int32)) p := SY_w hS (fun i _ _ => c0 _ _ _ (by omega)) (fun i _ _ => d0 _ _ (by omega))
    generalize wrM M 0 2 8 (v4 (upF tb w)) = M0 at *
    generalize wr μ 42 w (1 : Int32) = μ0 at *
    have hB0 := RBs_fr hB fc0 fm0
    obtain ⟨μ1, u1, u2, u3, u4, u5⟩ := token_on hB0 hS0
    have m10 : M0 0 2 10 = zI (q : Int) := hB0.2.2.1
    rw [u1, bd_some] at mo1
    have fin : ∀ lo hi : Int, 0 ≤ lo → hi ≤ 99999 → lo ≤ 99999 → 0 ≤ hi → (∀ v : Int, lo ≤ v → v ≤ hi → ∀ (M' : Mem) (μ' : Sl), (∀ j a i, ¬ (j = 0 ∧ a = 2) → ¬ (j = q ∧ a = 4 ∧ i = 3 + w) → M' j a i = M j a i) → M' 0 2 8 = v4 (upF tb w) → M' q 4 (3 + w) = zI v → (∀ a i, ¬ (a = 34) → ¬ (a = 42 ∧ i = w) → ¬ (a = 41 ∧ i = 7 + w) → μ' a i = μ a i) → μ' 42 w = bI true → μ' 41 (7 + w) = zI v → ∃ S' wb' dc' sd' tb', RT M' q μ' S' wb' dc' sd' tb') → Re_readSetting M (zI (w : Int)) = (bd (Re_takeNumber M0 (zI lo) (zI hi)) fun r d => gref (wrM d q 4 (3 + w) r 0 2 10) fun u => if (wrM d q 4 (3 + w) r u 4 (3 + w)) < 0 then (some ((0 : Int32), wrM d q 4 (3 + w) r)) else (some ((1 : Int32), wrM d q 4 (3 + w) r))) → Mo_wordLine μ = (bd (Mo_number μ1 (zI lo) (zI hi)) fun r d => Mo_wordLine_68 (zI (w : Int)) r d) → BO T n q p M μ (Re_readSetting M (zI (w : Int))) (Mo_wordLine μ) := by
      intro lo hi l1 l2 l3 l4 hRT cl mo
      rcases num_on u5 u4 l1 l2 l3 l4 with ⟨M3, μ4, f1, f2, f3, f4, f5⟩ | ⟨v, M3, μ4, f1, f2, hvv, f3, t4, t5, hS2, hB2, -⟩
      · have g10 : wrM M3 q 4 (3 + w) (zI (-1)) 0 2 10 = zI (q : Int) := by rw [wrM_ap, if_neg (by omega), f4 _ _ _ (by omega) (by omega)]; exact m10
        have g4' : wrM M3 q 4 (3 + w) (zI (-1)) q 4 (3 + w) = zI (-1) := by rw [wrM_ap, if_pos ⟨rfl, rfl, rfl⟩]
        refine .inl ⟨wrM M3 q 4 (3 + w) (zI (-1)), μ4, ?_, ?_, ⟨by rw [wrM_ap, if_neg (by omega)]; exact f3.1, by rw [wrM_ap, if_neg (by omega)]; exact f3.2⟩, FRc_tr (FRc_tr fc0 f4) (wrM_fr (by omega) (by omega)), FRm_tr fm0 (FRm_tr (TKm_FR u2) f5)⟩
        · rw [cl, f1, bd_some, g10, gref_z (by omega), g4', if_pos zI_m1]
        · rw [mo, f2, bd_some, Mo_wordLine_68, bnd_ap, if_pos rfl]
      · have g10 : wrM M3 q 4 (3 + w) (zI v) 0 2 10 = zI (q : Int) := by rw [wrM_ap, if_neg (by omega)]; exact hB2.2.2.1
        have g4' : wrM M3 q 4 (3 + w) (zI v) q 4 (3 + w) = zI v := by rw [wrM_ap, if_pos ⟨rfl, rfl, rfl⟩]
        have s7 : (7 : Int32) + zI (w : Int) = zI ((7 + w : Nat) : Int) := by rw [show (7 : Int32) = zI 7 from rfl, zI_add]; congr 1
        have mc : ∀ j a i, ¬ (j = q ∧ a = 4 ∧ i = 3 + w) → wrM M3 q 4 (3 + w) (zI v) j a i = M3 j a i := fun j a i z => by rw [wrM_ap, if_neg z]
        have mm : ∀ a i, ¬ (a = 41 ∧ i = 7 + w) → wr μ4 41 (7 + w) (zI v) a i = μ4 a i := fun a i z => by rw [wr_ap, if_neg z]
        have clf : Re_readSetting M (zI (w : Int)) = some ((1 : Int32), wrM M3 q 4 (3 + w) (zI v)) := by
          rw [cl, f1, bd_some, g10, gref_z (by omega), g4', if_neg (by rw [zI_lit, zI_lt (by omega) (by omega) (by omega) (by omega)]; omega)]
        have mof : Mo_wordLine μ = some ((1 : Int32), wr μ4 41 (7 + w) (zI v)) := by
          rw [mo, f2, bd_some, Mo_wordLine_68, bnd_ap, if_neg (by decide), s7, if_pos (zI_in (by omega) (by omega)), zI_ixn (by omega), f3, bnd_ap]
        have o41 : wr μ4 41 (7 + w) (zI v) 41 (7 + w) = zI v := by rw [wr_ap, if_pos ⟨rfl, rfl⟩]
        generalize wrM M3 q 4 (3 + w) (zI v) = M4 at *
        generalize wr μ4 41 (7 + w) (zI v) = μ5 at *
        have all1 : ∀ j a i, ¬ (j = 0 ∧ a = 2 ∧ ((4 ≤ i ∧ i ≤ 7) ∨ i = 8)) → ¬ (j = q ∧ a = 4 ∧ i = 3 + w) → M4 j a i = M j a i := fun j a i z1 z2 => by rw [mc j a i z2, t4 j a i (by omega), c0 j a i (by omega)]
        have all2 : ∀ a i, ¬ (a = 34 ∧ ((7 ≤ i ∧ i ≤ 10) ∨ i = 23)) → ¬ (a = 42 ∧ i = w) → ¬ (a = 41 ∧ i = 7 + w) → μ5 a i = μ a i := fun a i z1 z2 z3 => by rw [mm a i z3, t5 a i z1, u2 a i z1, d0 a i z2]
        obtain ⟨S', wb', dc', sd', tb', hRT'⟩ := hRT v hvv.1 hvv.2 M4 μ5 (fun j a i z1 z2 => all1 j a i (by omega) z2) (by rw [mc _ _ _ (by omega), t4 _ _ _ (by omega)]; exact c8) g4' (fun a i z1 z2 z3 => all2 a i (by omega) z2 z3) (by rw [mm _ _ (by omega), t5 _ _ (by omega), u2 _ _ (by omega)]; exact d42) o41
        have rg1 := lx_rg (T := T) (n := n) (p := lxN T n p) rg.2.2.2.1
        have fc : FRc q M M4 := fun j a i z1 z2 => all1 j a i (by omega) (by omega)
        have fm : FRm μ μ5 := fun a i z1 z2 z3 z4 _ _ => all2 a i (by omega) (by omega) (by omega)
        refine .inr ⟨M4, μ5, clf, mof, ⟨⟨_, ?_, HS_w hS2 (mc _ _ _ (by omega)) (fun i _ _ => mm _ _ (by omega))⟩, RBs_fr hB fc fm, ⟨nr, pv, wv, qv, qt, S', wb', dc', sd', tb', cs, kd, x, RP_k hP (fun a i _ => all1 _ _ _ (by omega) (by omega)) (all1 _ _ _ (by omega) (by omega)) (fun a i _ => all2 _ _ (by omega) (by omega) (by omega)), hRT', RU_k hU (Nat.le_refl _) (all1 _ _ _ (by omega) (by omega)) (fun i _ => all1 _ _ _ (by omega) (by omega)) (all2 _ _ (by omega) (by omega) (by omega)) (fun a i _ => all2 _ _ (by omega) (by omega) (by omega))⟩, fun l a i _ => all1 _ _ _ (by omega) (by omega), fun i _ => all2 _ _ (by omega) (by omega) (by omega)⟩, fc, fm⟩
        omega
    have cases3 : w = 4 ∨ w = 5 ∨ w = 6 := by omega
    have tbo : ∀ i, i ≠ w → upF tb w i = tb i := fun i hi => by unfold upF; rw [decide_eq_false (by omega), Bool.or_false]
    have tbw : upF tb w w = true := by unfold upF; rw [decide_eq_true rfl, Bool.or_true]
    rcases cases3 with rfl | rfl | rfl
    · refine fin 0 9 (by omega) (by omega) (by omega) (by omega) (fun v v1 v2 M' μ' e1 e2 e3 e4 e5 e6 => ⟨S, v, dc, sd, upF tb 4, ?_⟩) (by rw [cl1, if_pos (by decide), m10, gref_z (by omega)]; rfl) (by rw [mo1, if_pos (by decide)]; rfl)
      refine ⟨⟨by rw [e1 _ _ _ (by omega) (by omega)]; exact h1.1, by rw [e4 _ _ (by omega) (by omega) (by omega)]; exact h1.2.1, h1.2.2⟩, ⟨e3, e6, v1, v2⟩, ⟨by rw [e1 _ _ _ (by omega) (by omega)]; exact h3.1, by rw [e4 _ _ (by omega) (by omega) (by omega)]; exact h3.2.1, h3.2.2⟩, ⟨by rw [e1 _ _ _ (by omega) (by omega)]; exact h4.1, by rw [e4 _ _ (by omega) (by omega) (by omega)]; exact h4.2.1, h4.2.2⟩, e2, fun i g1 g2 => ?_⟩
      by_cases z : i = 4
      · rw [z, tbw]; exact e5
      · rw [tbo i z, e4 _ _ (by omega) (by omega) (by omega)]; exact h6 i g1 g2
    · refine fin 1 9 (by omega) (by omega) (by omega) (by omega) (fun v v1 v2 M' μ' e1 e2 e3 e4 e5 e6 => ⟨S, wb, v, sd, upF tb 5, ?_⟩) (by rw [cl1, if_neg (by decide), if_pos (by decide), m10, gref_z (by omega)]; rfl) (by rw [mo1, if_neg (by decide), if_pos (by decide)]; rfl)
      refine ⟨⟨by rw [e1 _ _ _ (by omega) (by omega)]; exact h1.1, by rw [e4 _ _ (by omega) (by omega) (by omega)]; exact h1.2.1, h1.2.2⟩, ⟨by rw [e1 _ _ _ (by omega) (by omega)]; exact h2.1, by rw [e4 _ _ (by omega) (by omega) (by omega)]; exact h2.2.1, h2.2.2⟩, ⟨e3, e6, v1, v2⟩, ⟨by rw [e1 _ _ _ (by omega) (by omega)]; exact h4.1, by rw [e4 _ _ (by omega) (by omega) (by omega)]; exact h4.2.1, h4.2.2⟩, e2, fun i g1 g2 => ?_⟩
      by_cases z : i = 5
      · rw [z, tbw]; exact e5
      · rw [tbo i z, e4 _ _ (by omega) (by omega) (by omega)]; exact h6 i g1 g2
    · refine fin 0 99999 (by omega) (by omega) (by omega) (by omega) (fun v v1 v2 M' μ' e1 e2 e3 e4 e5 e6 => ⟨S, wb, dc, v, upF tb 6, ?_⟩) (by rw [cl1, if_neg (by decide), if_neg (by decide), m10, gref_z (by omega)]; rfl) (by rw [mo1, if_neg (by decide), if_neg (by decide)]; rfl)
      refine ⟨⟨by rw [e1 _ _ _ (by omega) (by omega)]; exact h1.1, by rw [e4 _ _ (by omega) (by omega) (by omega)]; exact h1.2.1, h1.2.2⟩, ⟨by rw [e1 _ _ _ (by omega) (by omega)]; exact h2.1, by rw [e4 _ _ (by omega) (by omega) (by omega)]; exact h2.2.1, h2.2.2⟩, ⟨by rw [e1 _ _ _ (by omega) (by omega)]; exact h3.1, by rw [e4 _ _ (by omega) (by omega) (by omega)]; exact h3.2.1, h3.2.2⟩, ⟨e3, e6, v1, v2⟩, e2, fun i g1 g2 => ?_⟩
      by_cases z : i = 6
      · rw [z, tbw]; exact e5
      · rw [tbo i z, e4 _ _ (by omega) (by omega) (by omega)]; exact h6 i g1 g2
theorem sz_line (hB : RBs T n q M μ) {p : Nat} (hS : SY T n M μ p) (hR : RSx M q μ) (hk : lxK T n p = 1) (hv : lxC T n p = 3) : BO T n q p M μ (Re_readSetting M (zI ((3 : Nat) : Int))) (Mo_sizeLine μ) := by
  obtain ⟨nr, pv, wv, qv, qt, S, wb, dc, sd, tb, cs, kd, x, hP, hT, hU⟩ := hR
  obtain ⟨⟨a1, a2, a3⟩, b1, b2, -⟩ := id hB
  have rg := lx_rg (T := T) hS.1
  have prog : p < lxN T n p := by have := rg.2.2.2.2.1 (by omega); omega
  have ev := (lx_val (T := T) (n := n) (p := p)).1 (.inl hk)
  have m9 : μ 34 9 = zI ((3 : Nat) : Int) := by rw [hS.2.2.2.2.2 (.inl hk), ← ev, hv]
  obtain ⟨h1, h2, h3, h4, h5, h6⟩ := id hT
  obtain ⟨⟨r1, r2, r3⟩, r4⟩ := id hU
  have h5' : M 0 2 8 = v4 tb := h5
  have e42 := h6 3 (by omega) (by omega)
  have i7 : inb (zI ((3 : Nat) : Int)) 7 := zI_in (by omega) (by omega)
  have x7 : ix (zI ((3 : Nat) : Int)) = 3 := zI_ixn (by omega)
  have tst := v4_ts tb (w := 3) (by omega) (by omega)
  have p3 : zI ((3 : Nat) : Int) = (3 : Int32) := rfl
  by_cases hc : cs = 0
  · have l0 : zI (cs : Int) ≤ (0 : Int32) := by rw [hc]; decide
    cases htb : tb 3 with
    | true =>
      obtain ⟨M2, μ2, f1, f2, f3, f4, f5⟩ := told_f (q := q) (w := 3) hS
      refine .inl ⟨M2, μ2, ?_, ?_, f3, f4, f5⟩
      · rw [Re_readSetting, if_pos p3, b2, gref_z (by omega), r2, if_pos l0, Re_readSetting_21, h5', if_neg (by rw [tst, htb]; decide), f1, bd_some, ok01]
      · rw [Mo_sizeLine, m9, bnd_ap, r3, if_pos l0, if_pos i7, x7, e42, htb, if_neg (by decide), f2, bd_some, ok01]
    | false =>
      have c0 : ∀ j a i, ¬ (j = 0 ∧ a = 2 ∧ i = 8) → wrM M 0 2 8 (v4 (upF tb 3)) j a i = M j a i := fun j a i z => by rw [wrM_ap, if_neg z]
      have c8 : wrM M 0 2 8 (v4 (upF tb 3)) 0 2 8 = v4 (upF tb 3) := by rw [wrM_ap, if_pos ⟨rfl, rfl, rfl⟩]
      have d0 : ∀ a i, ¬ (a = 42 ∧ i = 3) → wr μ 42 3 (1 : Int32) a i = μ a i := fun a i z => by rw [wr_ap, if_neg z]
      have d42 : wr μ 42 3 (1 : Int32) 42 3 = 1 := by rw [wr_ap, if_pos ⟨rfl, rfl⟩]
      have cl1 : Re_readSetting M (zI ((3 : Nat) : Int)) = (bd (Re_takeNumber (wrM M 0 2 8 (v4 (upF tb 3))) (8 : Int32) (32 : Int32)) fun r17 d18 => if r17 = (-1 : Int32) then (some ((0 : Int32), d18)) else (gref (d18 0 2 10) fun u20 => bnd (wrM d18 u20 4 6 r17) fun d21 => if r17 = (8 : Int32) then (some ((1 : Int32), d21)) else (if r17 = (16 : Int32) then (some ((1 : Int32), d21)) else (if r17 = (32 : Int32) then (some ((1 : Int32), d21)) else (bd (Re_fail d21 (2 : Int32)) fun r22 d23 => if r22 = 0 then (some ((0 : Int32), d23)) else (some ((1 : Int32), d23))))))) := by
        rw [Re_readSetting, if_pos p3, b2, gref_z (by omega), r2, if_pos l0, Re_readSetting_21, h5', if_pos (tst.mpr htb), v4_or tb (by omega) (by omega), bnd_ap, if_pos p3]; rfl
      have mo1 : Mo_sizeLine μ = (bd (Mo_token (wr μ 42 3 (1 : Int32))) fun r6 d7 => if (d7 34 8) = (3 : Int32) then (if (d7 34 9) = (8 : Int32) then (Mo_sizeLine_91 d7) else (if (d7 34 9) = (16 : Int32) then (Mo_sizeLine_91 d7) else (if (d7 34 9) = (32 : Int32) then (Mo_sizeLine_91 d7) else (bd (Mo_wrong d7 (2 : Int32)) fun r8 d9 => if r8 = 0 ∨ r8 = 1 then some (r8, d9) else none)))) else (bd (Mo_wrong d7 (1 : Int32)) fun r10 d11 => if r10 = 0 ∨ r10 = 1 then some (r10, d11) else none)) := by
        rw [Mo_sizeLine, m9, bnd_ap, r3, if_pos l0, if_pos i7, x7, e42, htb, if_pos (show bI false = 0 from rfl), if_pos i7, bnd_ap]
      have fc0 : FRc q M (wrM M 0 2 8 (v4 (upF tb 3))) := fun j a i z _ => c0 j a i (by omega)
      have fm0 : FRm μ (wr μ 42 3 (1 : Int32)) := fun a i _ _ _ z _ _ => d0 a i (by omega)
      have hS0 : SY T n (wrM M 0 2 8 (v4 (upF tb 3))) (wr μ 42 3 (1 : Int32)) p := SY_w hS (fun i _ _ => c0 _ _ _ (by omega)) (fun i _ _ => d0 _ _ (by omega))
      generalize wrM M 0 2 8 (v4 (upF tb 3)) = M0 at *
      generalize wr μ 42 3 (1 : Int32) = μ0 at *
      have hB0 := RBs_fr hB fc0 fm0
      obtain ⟨μ1, u1, u2, u3, u4, u5⟩ := token_on hB0 hS0
      rw [u1, bd_some] at mo1
      obtain ⟨M1, t1, t2, hS1, hB1⟩ := take_on u5 u4
      obtain ⟨s1, ⟨c1, c2, c3, c4⟩, d1, d2, d3, d4⟩ := id hS1
      have rg1 := lx_rg (T := T) s1
      have k5 := rg1.2.2.2.2.2
      have m10 : M1 0 2 10 = zI (q : Int) := hB1.2.2.1
      by_cases k3 : lxK T n (lxN T n p) = 3
      · have hnr := (lx_val (T := T) (n := n) (p := lxN T n p)).2 k3
        have cv := c4 (.inr (.inr k3))
        have rv := d4 (.inr (.inr k3))
        have e5 : M1 0 2 5 = (3 : Int32) := by rw [c2, k3]; rfl
        have e8 : μ1 34 8 = (3 : Int32) := by rw [d2, k3]; rfl
        have bb : lxC T n (lxN T n p) ≤ 1000000 ∧ lxR T n (lxN T n p) ≤ 999999 := by unfold NR at hnr; omega
        rw [if_pos e8, rv] at mo1
        generalize lxC T n (lxN T n p) = vc at *
        generalize lxR T n (lxN T n p) = vr at *
        have er : ∀ k : Nat, k < 1000 → (zI (vr : Int) = zI (k : Int)) = (vr = k) := fun k hk => by rw [zI_eq (by omega) (by omega) (by omega) (by omega)]; exact propext ⟨fun h => by omega, fun h => by omega⟩
        have er8 : (zI (vr : Int) = (8 : Int32)) = (vr = 8) := er 8 (by omega)
        have er16 : (zI (vr : Int) = (16 : Int32)) = (vr = 16) := er 16 (by omega)
        have er32 : (zI (vr : Int) = (32 : Int32)) = (vr = 32) := er 32 (by omega)
        by_cases good : vr = 8 ∨ vr = 16 ∨ vr = 32
        · have evv : vc = vr := by unfold NR at hnr; omega
          subst evv
          have tn : Re_takeNumber M0 (8 : Int32) (32 : Int32) = some (zI (vc : Int), M1) := by
            rw [Re_takeNumber, t1, bd_some, if_pos e5, cv, if_neg (by rw [zI_lit, zI_lt (by omega) (by omega) (by omega) (by omega)]; omega), if_pos (by rw [zI_lit, zI_le (by omega) (by omega) (by omega) (by omega)]; omega)]
          have clf : Re_readSetting M (zI ((3 : Nat) : Int)) = some ((1 : Int32), wrM M1 q 4 6 (zI (vc : Int))) := by
            rw [cl1, tn, bd_some, if_neg (by rw [show (-1 : Int32) = zI (-1) from rfl, zI_eq (by omega) (by omega) (by omega) (by omega)]; omega), m10, gref_z (by omega), bnd_ap]
            rcases good with g | g | g
            · rw [if_pos (by rw [er8]; exact g)]
            · rw [if_neg (by rw [er8]; omega), if_pos (by rw [er16]; exact g)]
            · rw [if_neg (by rw [er8]; omega), if_neg (by rw [er16]; omega), if_pos (by rw [er32]; exact g)]
          have hSw : SY T n M1 (wr μ1 41 10 (zI (vc : Int))) (lxN T n p) := SY_w hS1 (fun _ _ _ => rfl) (fun i _ _ => by rw [wr_ap, if_neg (by omega)])
          have fmw : FRm μ1 (wr μ1 41 10 (zI (vc : Int))) := fun a i _ _ z _ _ _ => by rw [wr_ap, if_neg (by omega)]
          obtain ⟨μ2, w1, w2, w3, w4, w5⟩ := token_on (RBs_fr hB1 (FRc_rf q M1) fmw) hSw
          have e91 : Mo_sizeLine_91 μ1 = some ((1 : Int32), μ2) := by
            rw [Mo_sizeLine_91, if_pos (by decide), rv, show ix (10 : Int32) = 10 from rfl, bnd_ap, w1, bd_some]
          have mof : Mo_sizeLine μ = some ((1 : Int32), μ2) := by
            rw [mo1, e91]
            rcases good with g | g | g
            · rw [if_pos (by rw [er8]; exact g)]
            · rw [if_neg (by rw [er8]; omega), if_pos (by rw [er16]; exact g)]
            · rw [if_neg (by rw [er8]; omega), if_neg (by rw [er16]; omega), if_pos (by rw [er32]; exact g)]
          have mc : ∀ j a i, ¬ (j = q ∧ a = 4 ∧ i = 6) → wrM M1 q 4 6 (zI (vc : Int)) j a i = M1 j a i := fun j a i z => by rw [wrM_ap, if_neg z]
          have n6 : wrM M1 q 4 6 (zI (vc : Int)) q 4 6 = zI (vc : Int) := by rw [wrM_ap, if_pos ⟨rfl, rfl, rfl⟩]
          generalize wrM M1 q 4 6 (zI (vc : Int)) = M4 at *
          have all1 : ∀ j a i, ¬ (j = 0 ∧ a = 2 ∧ ((4 ≤ i ∧ i ≤ 7) ∨ i = 8)) → ¬ (j = q ∧ a = 4 ∧ i = 6) → M4 j a i = M j a i := fun j a i z1 z2 => by rw [mc j a i z2, t2 j a i (by omega), c0 j a i (by omega)]
          have all2 : ∀ a i, ¬ (a = 34 ∧ ((7 ≤ i ∧ i ≤ 10) ∨ i = 23)) → ¬ (a = 42 ∧ i = 3) → ¬ (a = 41 ∧ i = 10) → μ2 a i = μ a i := fun a i z1 z2 z3 => by rw [w2 a i z1, wr_ap, if_neg z3, u2 a i z1, d0 a i z2]
          have o10 : μ2 41 10 = zI (vc : Int) := by rw [w2 _ _ (by omega), wr_ap, if_pos ⟨rfl, rfl⟩]
          have tbo : ∀ i, i ≠ 3 → upF tb 3 i = tb i := fun i hi => by unfold upF; rw [decide_eq_false (by omega), Bool.or_false]
          have tbw : upF tb 3 3 = true := by unfold upF; rw [decide_eq_true rfl, Bool.or_true]
          have hRT : RT M4 q μ2 vc wb dc sd (upF tb 3) := by
            refine ⟨⟨n6, o10, good⟩, ⟨by rw [all1 _ _ _ (by omega) (by omega)]; exact h2.1, by rw [all2 _ _ (by omega) (by omega) (by omega)]; exact h2.2.1, h2.2.2⟩, ⟨by rw [all1 _ _ _ (by omega) (by omega)]; exact h3.1, by rw [all2 _ _ (by omega) (by omega) (by omega)]; exact h3.2.1, h3.2.2⟩, ⟨by rw [all1 _ _ _ (by omega) (by omega)]; exact h4.1, by rw [all2 _ _ (by omega) (by omega) (by omega)]; exact h4.2.1, h4.2.2⟩, by rw [mc _ _ _ (by omega), t2 _ _ _ (by omega)]; exact c8, fun i g1 g2 => ?_⟩
            by_cases z : i = 3
            · rw [z, tbw, w2 _ _ (by omega), wr_ap, if_neg (by omega), u2 _ _ (by omega)]; exact d42
            · rw [tbo i z, all2 _ _ (by omega) (by omega) (by omega)]; exact h6 i g1 g2
          have fc : FRc q M M4 := fun j a i z1 z2 => all1 j a i (by omega) (by omega)
          have fm : FRm μ μ2 := fun a i z1 z2 z3 z4 _ _ => all2 a i (by omega) (by omega) (by omega)
          have pr1 := rg1.2.2.2.2.1 (by omega)
          refine .inr ⟨M4, μ2, clf, mof, ⟨⟨_, by omega, HS_w w4 (mc _ _ _ (by omega)) (fun _ _ _ => rfl)⟩, RBs_fr hB fc fm, ⟨nr, pv, wv, qv, qt, vc, wb, dc, sd, _, cs, kd, x, RP_k hP (fun a i _ => all1 _ _ _ (by omega) (by omega)) (all1 _ _ _ (by omega) (by omega)) (fun a i _ => all2 _ _ (by omega) (by omega) (by omega)), hRT, RU_k hU (Nat.le_refl _) (all1 _ _ _ (by omega) (by omega)) (fun i _ => all1 _ _ _ (by omega) (by omega)) (all2 _ _ (by omega) (by omega) (by omega)) (fun a i _ => all2 _ _ (by omega) (by omega) (by omega))⟩, fun l a i _ => all1 _ _ _ (by omega) (by omega), fun i _ => all2 _ _ (by omega) (by omega) (by omega)⟩, fc, fm⟩
        · rw [if_neg (by rw [er8]; omega), if_neg (by rw [er16]; omega), if_neg (by rw [er32]; omega)] at mo1
          by_cases inr : 8 ≤ vc ∧ vc ≤ 32
          · have evv : vc = vr := by unfold NR at hnr; omega
            subst evv
            have tn : Re_takeNumber M0 (8 : Int32) (32 : Int32) = some (zI (vc : Int), M1) := by
              rw [Re_takeNumber, t1, bd_some, if_pos e5, cv, if_neg (by rw [zI_lit, zI_lt (by omega) (by omega) (by omega) (by omega)]; omega), if_pos (by rw [zI_lit, zI_le (by omega) (by omega) (by omega) (by omega)]; omega)]
            obtain ⟨M3, μ3, f1, f2, f3, f4, f5, -⟩ := fail_on (M := wrM M1 q 4 6 (zI (vc : Int))) (μ := μ1) (by rw [wrM_ap, if_neg (by omega)]; exact c3) d3 q (2 : Int32)
            refine .inl ⟨M3, μ3, ?_, by rw [mo1, f2, bd_some, ok01], f3, FRc_tr fc0 (FRc_tr (TKc_FR t2 q) (FRc_tr (wrM_fr (by omega) (by omega)) f4)), FRm_tr fm0 (FRm_tr (TKm_FR u2) f5)⟩
            rw [cl1, tn, bd_some, if_neg (by rw [show (-1 : Int32) = zI (-1) from rfl, zI_eq (by omega) (by omega) (by omega) (by omega)]; omega), m10, gref_z (by omega), bnd_ap, if_neg (by rw [er8]; omega), if_neg (by rw [er16]; omega), if_neg (by rw [er32]; omega), f1, bd_some, if_pos rfl]
          · obtain ⟨M3, μ3, f1, f2, f3, f4, f5, -⟩ := fail_on c3 d3 q (2 : Int32)
            have e36 : Re_takeNumber_36 M1 = some (zI (-1), M3) := by rw [Re_takeNumber_36, f1, bd_some]; rfl
            have tn : Re_takeNumber M0 (8 : Int32) (32 : Int32) = some (zI (-1), M3) := by
              rw [Re_takeNumber, t1, bd_some, if_pos e5, cv, e36]
              by_cases xx : vc < 8
              · rw [if_pos (by rw [zI_lit, zI_lt (by omega) (by omega) (by omega) (by omega)]; omega)]
              · rw [if_neg (by rw [zI_lit, zI_lt (by omega) (by omega) (by omega) (by omega)]; omega), if_neg (by rw [zI_lit, zI_le (by omega) (by omega) (by omega) (by omega)]; omega)]
            refine .inl ⟨M3, μ3, by rw [cl1, tn, bd_some, if_pos (by decide)], by rw [mo1, f2, bd_some, ok01], f3, FRc_tr fc0 (FRc_tr (TKc_FR t2 q) f4), FRm_tr fm0 (FRm_tr (TKm_FR u2) f5)⟩
      · obtain ⟨M3, μ3, f1, f2, f3, f4, f5, -⟩ := fail_on c3 d3 q (1 : Int32)
        have e5 : ¬ M1 0 2 5 = (3 : Int32) := by
          have := kcv_eq k5 3 (by omega)
          rw [c2]; intro z; exact k3 (by rw [← this]; exact z)
        have e8 : ¬ μ1 34 8 = (3 : Int32) := by
          have := k_eq k5 3 (by omega)
          rw [d2]; intro z; exact k3 (by rw [← this]; exact z)
        have tn : Re_takeNumber M0 (8 : Int32) (32 : Int32) = some (zI (-1), M3) := by
          rw [Re_takeNumber, t1, bd_some, if_neg e5, f1, bd_some]; rfl
        refine .inl ⟨M3, μ3, by rw [cl1, tn, bd_some, if_pos (by decide)], by rw [mo1, if_neg e8, f2, bd_some, ok01], f3, FRc_tr fc0 (FRc_tr (TKc_FR t2 q) f4), FRm_tr fm0 (FRm_tr (TKm_FR u2) f5)⟩
  · obtain ⟨M3, μ3, f1, f2, f3, f4, f5, -⟩ := fail_on hS.2.1.2.2.1 hS.2.2.2.2.1 q (1 : Int32)
    have l0 : ¬ zI (cs : Int) ≤ (0 : Int32) := by rw [zI_lit, zI_le (by omega) (by omega) (by omega) (by omega)]; omega
    refine .inl ⟨M3, μ3, ?_, ?_, f3, f4, f5⟩
    · rw [Re_readSetting, if_pos p3, b2, gref_z (by omega), r2, if_neg l0, f1, bd_some, ok01]
    · rw [Mo_sizeLine, m9, bnd_ap, r3, if_neg l0, f2, bd_some, ok01]
end
