/-! ===== feed ===== -/
def by8 (x s : Int32) : Int32 := (x >>> (s &&& 31)) &&& (255 : Int32)
theorem and255 (y : Int32) : ∃ v : Int, 0 ≤ v ∧ v < 256 ∧ y &&& (255 : Int32) = zI v := by
  have h : (y &&& (255 : Int32)).toBitVec.toNat ≤ 255 := by rw [Int32.toBitVec_and, BitVec.toNat_and]; exact Nat.and_le_right
  have e : (y &&& (255 : Int32)).toInt = ((y &&& (255 : Int32)).toBitVec.toNat : Int) := BitVec.toInt_eq_toNat_of_lt (by omega)
  exact ⟨(y &&& (255 : Int32)).toInt, by omega, by omega, (zI_of _).symm⟩
theorem tape_s {M : Mem} {t f : Nat} (x : Int32) (s : Int32) (hs : ¬ s < 0) (ht : t < 700) (h1 : M 0 0 1 = zI (t : Int)) : ∃ M', Fh_tapeNumber_3 (f + 1) x s M = Fh_tapeNumber_3 f x (s + (-8 : Int32)) M' ∧ M' 0 0 1 = zI ((t + 1 : Nat) : Int) ∧ M' 0 1 t = by8 x s ∧ ∀ j a i, ¬ (j = 0 ∧ a = 0 ∧ i = 1) → ¬ (j = 0 ∧ a = 1 ∧ i = t) → M' j a i = M j a i := by
  have e1 : wrM M 0 1 t ((x >>> (s &&& 31)) &&& (255 : Int32)) 0 0 1 = zI (t : Int) := by rw [wrM_ap, if_neg (by omega)]; exact h1
  refine ⟨wrM (wrM M 0 1 t ((x >>> (s &&& 31)) &&& (255 : Int32))) 0 0 1 (zI ((t + 1 : Nat) : Int)), ?_, ?_, ?_, fun j a i z1 z2 => ?_⟩
  · rw [Fh_tapeNumber_3, if_neg hs, if_neg (by rw [h1, zI_lit, zI_le (by omega) (by omega) (by omega) (by omega)]; omega), h1, if_pos (zI_in (by omega) (by omega)), zI_ixn (by omega), bnd_ap, e1, zI_s1, bnd_ap, bnd_ap]
  · rw [wrM_ap, if_pos ⟨rfl, rfl, rfl⟩]
  · rw [wrM_ap, if_neg (by omega), wrM_ap, if_pos ⟨rfl, rfl, rfl⟩]; rfl
  · rw [wrM_ap, if_neg (by omega), wrM_ap, if_neg (by omega)]
def s8 (i : Nat) : Int32 := zI (24 - 8 * (i : Int))
theorem c_tape {M : Mem} {t : Nat} (x : Int32) (ht : t + 4 ≤ 700) (h1 : M 0 0 1 = zI (t : Int)) : ∃ M', Fh_tapeNumber M x = some ((), M') ∧ M' 0 0 1 = zI ((t + 4 : Nat) : Int) ∧ (∀ i, i < 4 → M' 0 1 (t + i) = by8 x (s8 i)) ∧ ∀ j a i, ¬ (j = 0 ∧ a = 0 ∧ i = 1) → ¬ (j = 0 ∧ a = 1 ∧ t ≤ i ∧ i < t + 4) → M' j a i = M j a i := by
  obtain ⟨f, ef⟩ := FU_8
  obtain ⟨M1, a1, a2, a3, a4⟩ := tape_s (f := f + 1 + 1 + 1 + 1 + 1 + 1 + 1) x (24 : Int32) (by decide) (by omega) h1
  obtain ⟨M2, b1, b2, b3, b4⟩ := tape_s (f := f + 1 + 1 + 1 + 1 + 1 + 1) x ((24 : Int32) + (-8 : Int32)) (by decide) (by omega) a2
  obtain ⟨M3, c1, c2, c3, c4⟩ := tape_s (f := f + 1 + 1 + 1 + 1 + 1) x ((24 : Int32) + (-8 : Int32) + (-8 : Int32)) (by decide) (by omega) b2
  obtain ⟨M4, d1, d2, d3, d4⟩ := tape_s (f := f + 1 + 1 + 1 + 1) x ((24 : Int32) + (-8 : Int32) + (-8 : Int32) + (-8 : Int32)) (by decide) (by omega) c2
  refine ⟨M4, ?_, d2, fun i hi => ?_, fun j a i z1 z2 => ?_⟩
  · rw [Fh_tapeNumber, bnd_ap, ef, a1, b1, c1, d1, Fh_tapeNumber_3, if_pos (by decide)]
  · have hc : i = 0 ∨ i = 1 ∨ i = 2 ∨ i = 3 := by omega
    rcases hc with rfl | rfl | rfl | rfl
    · rw [d4 _ _ _ (by omega) (by omega), c4 _ _ _ (by omega) (by omega), b4 _ _ _ (by omega) (by omega)]; exact a3
    · rw [d4 _ _ _ (by omega) (by omega), c4 _ _ _ (by omega) (by omega)]; exact b3
    · rw [d4 _ _ _ (by omega) (by omega)]; exact c3
    · exact d3
  · rw [d4 _ _ _ (by omega) (by omega), c4 _ _ _ (by omega) (by omega), b4 _ _ _ (by omega) (by omega), a4 _ _ _ (by omega) (by omega)]
def pk5 (x1 x2 x3 x4 x5 : Int32) (v : Nat) : Int32 := if v < 4 then x1 else if v < 8 then x2 else if v < 12 then x3 else if v < 16 then x4 else x5
theorem sh8 : ∀ v : Fin 20, ((24 : Int32) - ((8 : Int32) * (zI (v.val : Int) - zI (v.val : Int) / (4 : Int32) * (4 : Int32)))) = s8 (v.val % 4) := by decide
theorem m_feed_l (x1 x2 x3 x4 x5 : Int32) {t : Nat} (ht : t + 20 ≤ 700) : ∀ (m v f : Nat) (d : Sl), v + m = 20 → m < f → d 34 1 = zI (t : Int) → ∃ d', Mo_feed_23 f x1 x2 x3 x4 x5 (zI (v : Int)) d = some (zI ((t + 20 : Nat) : Int), d') ∧ d' 34 1 = zI ((t + 20 : Nat) : Int) ∧ (∀ i, v ≤ i → i < 20 → d' 35 (t + i) = by8 (pk5 x1 x2 x3 x4 x5 i) (s8 (i % 4))) ∧ ∀ a i, ¬ (a = 34 ∧ i = 1) → ¬ (a = 35 ∧ t + v ≤ i ∧ i < t + 20) → d' a i = d a i := by
  intro m
  induction m with
  | zero =>
    intro v f d hv hf h1
    obtain ⟨f', rfl⟩ : ∃ f', f = f' + 1 := ⟨f - 1, by omega⟩
    have e : zI (t : Int) + (20 : Int32) = zI ((t + 20 : Nat) : Int) := by rw [show (20 : Int32) = zI 20 from rfl, zI_add]; congr 1
    refine ⟨wr d 34 1 (zI ((t + 20 : Nat) : Int)), ?_, ?_, fun i h1 h2 => absurd h1 (by omega), fun a i z1 _ => by rw [wr_ap, if_neg z1]⟩
    · rw [Mo_feed_23, if_pos (by rw [zI_lit, zI_le (by omega) (by omega) (by omega) (by omega)]; omega), h1, e, bnd_ap, wr_ap, if_pos ⟨rfl, rfl⟩]
    · rw [wr_ap, if_pos ⟨rfl, rfl⟩]
  | succ m ih =>
    intro v f d hv hf h1
    obtain ⟨f', rfl⟩ : ∃ f', f = f' + 1 := ⟨f - 1, by omega⟩
    have e1 : Mo_feed_23 (f' + 1) x1 x2 x3 x4 x5 (zI (v : Int)) d = Mo_feed_76 (Mo_feed_23 f') x1 x2 x3 x4 x5 (zI (v : Int)) (pk5 x1 x2 x3 x4 x5 v) d := by
      have cnd : ∀ k : Nat, k < 30 → (zI (k : Int) ≤ zI (v : Int)) = (k ≤ v) := fun k hk => by rw [zI_le (by omega) (by omega) (by omega) (by omega)]; exact propext ⟨fun h => by omega, fun h => by omega⟩
      rw [Mo_feed_23, if_neg (by rw [show (20 : Int32) = zI ((20 : Nat) : Int) from rfl, cnd 20 (by omega)]; omega)]
      unfold pk5
      by_cases z1 : v < 4
      · rw [if_neg (by rw [show (4 : Int32) = zI ((4 : Nat) : Int) from rfl, cnd 4 (by omega)]; omega), if_pos z1]
      · rw [if_pos (by rw [show (4 : Int32) = zI ((4 : Nat) : Int) from rfl, cnd 4 (by omega)]; omega), if_neg z1]
        by_cases z2 : v < 8
        · rw [if_neg (by rw [show (8 : Int32) = zI ((8 : Nat) : Int) from rfl, cnd 8 (by omega)]; omega), if_pos z2]
        · rw [if_pos (by rw [show (8 : Int32) = zI ((8 : Nat) : Int) from rfl, cnd 8 (by omega)]; omega), if_neg z2]
          by_cases z3 : v < 12
          · rw [if_neg (by rw [show (12 : Int32) = zI ((12 : Nat) : Int) from rfl, cnd 12 (by omega)]; omega), if_pos z3]
          · rw [if_pos (by rw [show (12 : Int32) = zI ((12 : Nat) : Int) from rfl, cnd 12 (by omega)]; omega), if_neg z3]
            by_cases z4 : v < 16
            · rw [if_neg (by rw [show (16 : Int32) = zI ((16 : Nat) : Int) from rfl, cnd 16 (by omega)]; omega), if_pos z4]
            · rw [if_pos (by rw [show (16 : Int32) = zI ((16 : Nat) : Int) from rfl, cnd 16 (by omega)]; omega), if_neg z4]
    have e2 : zI (t : Int) + zI (v : Int) = zI ((t + v : Nat) : Int) := by rw [zI_add]; congr 1
    have e3 := sh8 ⟨v, by omega⟩
    obtain ⟨d', i1, i2, i3, i4⟩ := ih (v + 1) f' (wr d 35 (t + v) (by8 (pk5 x1 x2 x3 x4 x5 v) (s8 (v % 4)))) (by omega) (by omega) (by rw [wr_ap, if_neg (by omega)]; exact h1)
    refine ⟨d', ?_, i2, fun i g1 g2 => ?_, fun a i z1 z2 => ?_⟩
    · rw [e1, Mo_feed_76, bnd_ap, if_pos (by decide), h1, e2, if_pos (zI_in (by omega) (by omega)), zI_ixn (by omega), e3, bnd_ap, zI_s1, bnd_ap]
      exact i1
    · by_cases z : i = v
      · subst z
        rw [i4 _ _ (by omega) (by omega), wr_ap, if_pos ⟨rfl, rfl⟩]
      · exact i3 i (by omega) g2
    · rw [i4 a i z1 (by omega), wr_ap, if_neg (by omega)]
theorem top_feed {c n0 : Nat} {M : Mem} {μ : Sl} (hI : Inv c n0 M μ) (x1 x2 x3 x4 x5 : Int32) : TopM c n0 (Fh_feed M x1 x2 x3 x4 x5) (Mo_feed μ x1 x2 x3 x4 x5) := by
  have hI0 := hI
  obtain ⟨n, S, k, w, s, t, nx, κ, B, C, h0, hR, hk, hT, hP, hTB, ⟨h1, h2, h3⟩, hw, hK⟩ := hI
  obtain ⟨⟨r1, r2, r3, r4, r5⟩, ⟨b1, b2, b3, b4, b5, b6, b7, b8, b9, b10, b11, b12⟩, hc, hi⟩ := id hR
  obtain ⟨tt, g1, g2, g3, g4, g5, g6⟩ := hP
  have w31 : wr μ 34 2 (0 : Int32) 34 1 = zI (tt : Int) := by rw [wr_ap, if_neg (by omega)]; exact g3
  have e20 : zI (tt : Int) + (20 : Int32) = zI ((tt + 20 : Nat) : Int) := by rw [show (20 : Int32) = zI 20 from rfl, zI_add]; congr 1
  by_cases z : tt + 20 ≤ 700
  · obtain ⟨M1, p1, p2, p3, p4⟩ := c_tape (t := tt) x1 (by omega) g2
    obtain ⟨M2, q1, q2, q3, q4⟩ := c_tape (t := tt + 4) x2 (by omega) p2
    obtain ⟨M3, u1, u2, u3, u4⟩ := c_tape (t := tt + 4 + 4) x3 (by omega) q2
    obtain ⟨M4, v1, v2, v3, v4⟩ := c_tape (t := tt + 4 + 4 + 4) x4 (by omega) u2
    obtain ⟨M5, y1, y2, y3, y4⟩ := c_tape (t := tt + 4 + 4 + 4 + 4) x5 (by omega) v2
    obtain ⟨μ', l1, l2, l3, l4⟩ := m_feed_l x1 x2 x3 x4 x5 z 20 0 FU (wr μ 34 2 (0 : Int32)) (by omega) (FU_gt (by omega)) w31
    have z0 : zI ((0 : Nat) : Int) = (0 : Int32) := rfl
    rw [z0] at l1
    have mf : ∀ j a i, ¬ (j = 0 ∧ a = 0 ∧ i = 1) → ¬ (j = 0 ∧ a = 1 ∧ tt ≤ i ∧ i < tt + 20) → M5 j a i = M j a i := fun j a i z1 z2 => by
      rw [y4 _ _ _ z1 (by omega), v4 _ _ _ z1 (by omega), u4 _ _ _ z1 (by omega), q4 _ _ _ z1 (by omega), p4 _ _ _ z1 (by omega)]
    have mt : ∀ i, i < 20 → M5 0 1 (tt + i) = by8 (pk5 x1 x2 x3 x4 x5 i) (s8 (i % 4)) := fun i hi => by
      unfold pk5
      by_cases z1 : i < 4
      · rw [if_pos z1, y4 _ _ _ (by omega) (by omega), v4 _ _ _ (by omega) (by omega), u4 _ _ _ (by omega) (by omega), q4 _ _ _ (by omega) (by omega), p3 i z1, Nat.mod_eq_of_lt z1]
      · rw [if_neg z1]
        by_cases z2 : i < 8
        · have := q3 (i - 4) (by omega)
          rw [show tt + 4 + (i - 4) = tt + i by omega, show i - 4 = i % 4 by omega] at this
          rw [if_pos z2, y4 _ _ _ (by omega) (by omega), v4 _ _ _ (by omega) (by omega), u4 _ _ _ (by omega) (by omega), this]
        · rw [if_neg z2]
          by_cases z3 : i < 12
          · have := u3 (i - 8) (by omega)
            rw [show tt + 4 + 4 + (i - 8) = tt + i by omega, show i - 8 = i % 4 by omega] at this
            rw [if_pos z3, y4 _ _ _ (by omega) (by omega), v4 _ _ _ (by omega) (by omega), this]
          · rw [if_neg z3]
            by_cases z4 : i < 16
            · have := v3 (i - 12) (by omega)
              rw [show tt + 4 + 4 + 4 + (i - 12) = tt + i by omega, show i - 12 = i % 4 by omega] at this
              rw [if_pos z4, y4 _ _ _ (by omega) (by omega), this]
            · have := y3 (i - 16) (by omega)
              rw [show tt + 4 + 4 + 4 + 4 + (i - 16) = tt + i by omega, show i - 16 = i % 4 by omega] at this
              rw [if_neg z4, this]
    have y2' : M5 0 0 1 = zI ((tt + 20 : Nat) : Int) := by rw [y2]
    have mm : ∀ a i, ¬ (a = 34 ∧ (i = 1 ∨ i = 2)) → a ≠ 35 → μ' a i = μ a i := fun a i z1 z2 => by rw [l4 a i (by omega) (by omega), wr_ap, if_neg (by omega)]
    have mp : ∀ p, 2 ≤ p → M5 p = M p := fun p hp => by funext b i; rw [mf _ _ _ (by omega) (by omega)]
    refine ⟨zI ((tt + 20 : Nat) : Int), M5, μ', ?_, ?_, n, S, k, w, s, t, nx, κ, B, C, by omega, RG_low hR (fun i h => mf _ _ _ (by omega) (by omega)) (by rw [mf _ _ _ (by omega) (by omega)]; exact r5) b2 (fun i => mf _ _ _ (by omega) (by omega)), ⟨hk.1, by rw [mf _ _ _ (by omega) (by omega)]; exact hk.2⟩, TX_low hT (fun b i z1 z2 => mf _ _ _ (by omega) (by omega)) (fun b i z1 => mm _ _ (by omega) (by omega)), ⟨tt + 20, by omega, y2', l2, fun i hi => ?_, ?_, ?_⟩, TB_keep hTB (fun b i g => mf _ _ _ (by omega) (by omega)) (fun i => mm _ _ (by omega) (by omega)), ⟨⟨by rw [mm _ _ (by omega) (by omega)]; exact h1.1, h1.2⟩, fun i hi => by rw [mm _ _ (by omega) (by omega)]; exact h2 i hi, by rw [mm _ _ (by omega) (by omega)]; exact h3.1, h3.2.1, fun i hi l hl => by rw [mm _ _ (by omega) (by omega)]; exact h3.2.2 i hi l hl⟩, ?_, fun l hl => ?_, QA_of hK.2 (mm _ _ (by omega) (by omega)) (mm _ _ (by omega) (by omega)) (fun s hs => mm _ _ (by omega) (by omega))⟩
    · rw [Fh_feed, if_pos (by rw [g2, e20, zI_lit, zI_le (by omega) (by omega) (by omega) (by omega)]; omega), p1, bd_some, q1, bd_some, u1, bd_some, v1, bd_some, y1, bd_some, y2']
    · rw [Mo_feed, bnd_ap, if_pos (by rw [w31, e20, zI_lit, zI_le (by omega) (by omega) (by omega) (by omega)]; omega), bnd_ap, l1]
    · by_cases z1 : tt ≤ i ∧ i < tt + 20
      · have a1 := mt (i - tt) (by omega)
        have a2 := l3 (i - tt) (by omega) (by omega)
        rw [show tt + (i - tt) = i by omega] at a1 a2
        rw [a1, a2]
        exact ⟨rfl, and255 _⟩
      · rw [mf _ _ _ (by omega) (by omega), l4 _ _ (by omega) (by omega), wr_ap, if_neg (by omega)]
        exact g4 i hi
    · rw [mf _ _ _ (by omega) (by omega), mm _ _ (by omega) (by omega)]; exact g5
    · rw [mf _ _ _ (by omega) (by omega), mm _ _ (by omega) (by omega)]; exact g6
    · rw [mp w b3]; exact WH_mono hw (by omega)
    · obtain ⟨p, p1, p2, p3⟩ := hK.1 l hl
      have hp2 : 2 ≤ p := by
        rcases hc ((nx + 20 - κ + l) % 20) (Nat.mod_lt _ (by omega)) with e | ⟨p', u1, u2, u3, -⟩
        · rw [p1] at e
          have := (zI_eq (by omega) (by omega) (by omega) (by omega)).mp e
          omega
        · rw [p1] at u1
          have := zN (by omega) (by omega) u1
          omega
      exact ⟨p, by rw [mf _ _ _ (by omega) (by omega)]; exact p1, p2, by rw [mp p hp2]; exact WH_mono p3 (by omega)⟩
  · refine ⟨(-1 : Int32), M, wr μ 34 2 (0 : Int32), ?_, ?_, inv_wr hI0 (0 : Int32)⟩
    · rw [Fh_feed, if_neg (by rw [g2, e20, zI_lit, zI_le (by omega) (by omega) (by omega) (by omega)]; omega)]
    · rw [Mo_feed, bnd_ap, if_neg (by rw [w31, e20, zI_lit, zI_le (by omega) (by omega) (by omega) (by omega)]; omega)]
