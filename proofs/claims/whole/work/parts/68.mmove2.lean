theorem mr_move {n S : Nat} {A : Ab} {dep : Nat → Nat} {b d e : Nat} {B : Nat → Int} {μ : Sl} (hb : MB μ b) (hW : WF n S A dep) (hM : MRep B A) (hd : Lv A d) (he : e < 192) (hne : ¬ Lv A e) :
    ∃ B', Mo_movesTo (bst μ b B) (zI (d : Int)) (zI (e : Int)) = some ((), bst μ b B') ∧ MRep B' (aMove A d e) ∧ ∀ k, 1920 ≤ k → B' k = if 1 < A.1 0 d ∧ k = wdc e then 1 else B k := by
  have hKW := WF_KW hW
  have hd192 := hd.1
  have hde : d ≠ e := fun q => hne (q ▸ hd)
  have hlen : (A.2 d).length ≤ 192 := len192 (hKW.1.1 d hd).1 (fun x hx => ((hKW.1.1 d hd).2 x hx).1)
  obtain ⟨m1, m2, m3, m4⟩ := hM
  have hod := (hW.2.2.2.1 d hd).1
  have hod2 := hd.2
  have hdk : d ∉ A.2 d := fun z => (kid_ne hW hd z).2.2.1 rfl
  have lne : ∀ x, Lv A x → x ≠ e := fun x hx q => hne (q ▸ hx)
  have hKd : ∀ x, x ∈ A.2 d → Lv A x := fun x hx => (hKW.1.1 d hd).2 x hx
  -- what the forest becomes
  have ee : ∀ j, (aMove A d e).1 j e = A.1 j d := fun j => if_pos rfl
  have ed : (aMove A d e).1 0 d = 0 := by
    show (if d = e then _ else if d = d then (if 0 = 0 then 0 else A.1 0 d) else _) = _
    rw [if_neg hde, if_pos rfl, if_pos rfl]
  have en : ∀ j x, x ≠ e → x ≠ d → j ≠ 3 → (aMove A d e).1 j x = A.1 j x := fun j x h1 h2 h3 => by
    show (if x = e then _ else if x = d then _ else if j = 3 ∧ _ then _ else A.1 j x) = _
    rw [if_neg h1, if_neg h2, if_neg (fun q => h3 q.1)]
  have en3 : ∀ x, x ≠ e → x ≠ d → (aMove A d e).1 3 x = if A.1 3 x = (d : Int) + 1 then (e : Int) + 1 else A.1 3 x := fun x h1 h2 => by
    show (if x = e then _ else if x = d then _ else if 3 = 3 ∧ A.1 3 x = (d : Int) + 1 then (e : Int) + 1 else A.1 3 x) = _
    rw [if_neg h1, if_neg h2]; simp
  have el : ∀ x, Lv (aMove A d e) x → x = e ∨ (Lv A x ∧ x ≠ d) := fun x hx => by
    by_cases q : x = e
    · exact .inl q
    · by_cases q2 : x = d
      · subst q2; have := hx.2; rw [ed] at this; omega
      · refine .inr ⟨⟨hx.1, ?_⟩, q2⟩
        have := hx.2; rw [en 0 x q q2 (by decide)] at this; exact this
  -- the bank
  obtain ⟨B2, hB2⟩ : ∃ B2, B2 = upB (cpB B d e 10) d 0 := ⟨_, rfl⟩
  have c1 : ∀ j x, x < 192 → j < 10 → (j ≠ 0 ∨ x ≠ d) → B2 (192 * j + x) = if x = e then B (192 * j + d) else B (192 * j + x) := fun j x hx hj hjx => by
    rw [hB2, upB_ap, if_neg (by omega)]
    unfold cpB
    by_cases q : x = e
    · rw [if_pos (by omega), if_pos q]; congr 1; omega
    · rw [if_neg (by omega), if_neg q]
  have cd : B2 d = 0 := by rw [hB2, upB_ap, if_pos rfl]
  have ck : ∀ k, 1920 ≤ k → B2 k = B k := fun k hk => by
    rw [hB2, upB_ap, if_neg (by omega)]; unfold cpB; rw [if_neg (by omega)]
  have p4 : ∀ x, x < 192 → B2 (768 + x) = if x = e then B (768 + d) else B (768 + x) := fun x hx => by have := c1 4 x hx (by decide) (.inl (by decide)); rw [show 192 * 4 + x = 768 + x by omega, show 192 * 4 + d = 768 + d by omega] at this; exact this
  have p5 : ∀ x, x < 192 → B2 (960 + x) = if x = e then B (960 + d) else B (960 + x) := fun x hx => by have := c1 5 x hx (by decide) (.inl (by decide)); rw [show 192 * 5 + x = 960 + x by omega, show 192 * 5 + d = 960 + d by omega] at this; exact this
  have p6 : ∀ x, x < 192 → B2 (1152 + x) = if x = e then B (1152 + d) else B (1152 + x) := fun x hx => by have := c1 6 x hx (by decide) (.inl (by decide)); rw [show 192 * 6 + x = 1152 + x by omega, show 192 * 6 + d = 1152 + d by omega] at this; exact this
  have p7 : ∀ x, x < 192 → B2 (1344 + x) = if x = e then B (1344 + d) else B (1344 + x) := fun x hx => by have := c1 7 x hx (by decide) (.inl (by decide)); rw [show 192 * 7 + x = 1344 + x by omega, show 192 * 7 + d = 1344 + d by omega] at this; exact this
  have p3 : ∀ x, x < 192 → B2 (576 + x) = if x = e then B (576 + d) else B (576 + x) := fun x hx => by have := c1 3 x hx (by decide) (.inl (by decide)); rw [show 192 * 3 + x = 576 + x by omega, show 192 * 3 + d = 576 + d by omega] at this; exact this
  have h3 : ∃ B3, (∀ k : Sl → Option (Unit × Sl), (if zI (A.1 3 d - 1) < zI 0 then k (bst μ b B2) else (bd (Mo_linked (bst μ b B2) (zI (B (1152 + d) - 1)) (zI (e : Int)) (zI (A.1 3 d - 1))) fun _ d18 => bd (Mo_linked d18 (zI (e : Int)) (zI (B (1344 + d) - 1)) (zI (A.1 3 d - 1))) fun _ d20 => k d20)) = k (bst μ b B3)) ∧
      LB B3 (Lv (aMove A d e)) (aMove A d e).2 ∧ (∀ k, k < 768 ∨ 1536 ≤ k → B3 k = B2 k) ∧ (B3 (768 + e) = B (768 + d)) ∧ (∀ x, x ∈ A.2 d → B3 (1344 + x) = B (1344 + x)) ∧ ∀ x, Lv (aMove A d e) x → (aMove A d e).1 3 x = 0 → B3 (1344 + x) = 0 ∧ B3 (1152 + x) = 0 := by
    rcases gv_or hW hd with ⟨g1, -⟩ | ⟨g, g1, g2, g3⟩
    · refine ⟨B2, fun k => ?_, ?_, fun _ _ => rfl, by rw [p4 e he, if_pos rfl], fun x hx => by rw [p7 x (hKd x hx).1, if_neg (lne x (hKd x hx))], fun x hx h0 => ?_⟩
      · rw [g1, if_pos (by rw [zI_lt (by omega) (by omega) (by omega) (by omega)]; omega)]
      · have hdn := root_not hKW g1
        have hL : LB B2 (Lv (aMove A d e)) (fun x => if x = e then A.2 d else A.2 x) := Lk_ren0 hKW.1 m3 hd hne el hdn (fun x hx _ => by rw [p4 x hx.1, if_neg (lne x hx)]) (by rw [p4 e he, if_pos rfl]) (fun x hx _ => by rw [p5 x hx.1, if_neg (lne x hx)]) (by rw [p5 e he, if_pos rfl]) (fun x hx _ => by rw [p7 x hx.1, if_neg (lne x hx)]) (fun x hx _ => by rw [p6 x hx.1, if_neg (lne x hx)])
        refine LB_K hL (fun x hx => ?_)
        show (if x = e then A.2 d else if A.1 3 d = (x : Int) + 1 then _ else A.2 x) = _
        by_cases q : x = e
        · rw [if_pos q, if_pos q]
        · rw [if_neg q, if_neg q, if_neg (by omega)]
      · rcases el x hx with rfl | ⟨hx1, hxd⟩
        · rw [p7 x he, p6 x he, if_pos rfl, if_pos rfl]; exact m4 d hd g1
        · rw [p7 x hx1.1, p6 x hx1.1, if_neg (lne x hx1), if_neg (lne x hx1)]
          rw [en3 x (lne x hx1) hxd] at h0
          exact m4 x hx1 (by split at h0 <;> omega)
    · have hgl := gv_live hW hd g1
      have g192 := g2.1
      have qgd : g ≠ d := fun z => by subst z; omega
      obtain ⟨a, c, hac⟩ := List.append_of_mem hgl.2.1
      obtain ⟨n1, n2⟩ := (m3 g g2).2.2 a d c hac
      have n1' : B (1344 + d) = hd1 c := n1
      have n2' : B (1152 + d) = ls1 a := n2
      have hkg := (hKW.1.1 g g2).2
      have hnd := (hKW.1.1 g g2).1
      rw [hac] at hkg hnd
      have r1 := ls1_rng (V := Lv A) Lv_lt (l := a) (fun x hx => hkg x (by simp [hx]))
      have r2 := hd1_rng (V := Lv A) Lv_lt (l := c) (fun x hx => hkg x (by simp [hx]))
      have hpe : B (1152 + d) ≠ (e : Int) + 1 := fun z => by rw [n2'] at z; have := ls1_in z; exact hne (hkg e (by simp [this]))
      have hnne : B (1344 + d) ≠ (e : Int) + 1 := fun z => by rw [n1'] at z; have := hd1_mem z; exact hne (hkg e (by simp [this]))
      obtain ⟨e1, e2, e3, e4, e5⟩ := lnk_ren (B := B2) (e := e) (g := g) (p := B (1152 + d)) (n := B (1344 + d)) he g192 (by rw [n2']; exact r1.1) (by rw [n2']; exact r1.2) (by rw [n1']; exact r2.1) (by rw [n1']; exact r2.2) hpe hnne
      have l1 := m_linked hb B2 (a := B (1152 + d)) (c := (e : Int) + 1) (g := (g : Int) + 1) (by rw [n2']; exact r1.1) (by rw [n2']; exact r1.2) (by omega) (by omega) (by omega) (by omega)
      have l2 := m_linked hb (lnk B2 (B (1152 + d)) ((e : Int) + 1) ((g : Int) + 1)) (a := (e : Int) + 1) (c := B (1344 + d)) (g := (g : Int) + 1) (by omega) (by omega) (by rw [n1']; exact r2.1) (by rw [n1']; exact r2.2) (by omega) (by omega)
      rw [show (e : Int) + 1 - 1 = (e : Int) by omega] at l1 l2
      have hda := List.nodup_append.mp hnd
      refine ⟨_, fun k => ?_, ?_, e5, ?_, fun x hx => ?_, fun x hx h0 => ?_⟩
      · rw [g1, if_neg (by rw [zI_lt (by omega) (by omega) (by omega) (by omega)]; omega), l1, bd_some, l2, bd_some]
      · have hL : LB (lnk (lnk B2 (B (1152 + d)) ((e : Int) + 1) ((g : Int) + 1)) ((e : Int) + 1) (B (1344 + d)) ((g : Int) + 1)) (Lv (aMove A d e)) (fun x => if x = e then A.2 d else if x = g then a ++ e :: c else A.2 x) :=
          Lk_ren hKW.1 m3 hd hne el g2 qgd hac (fun x hx _ => by rw [e1 x hx.1, p4 x hx.1, if_neg (lne x hx)]) (by rw [e1 e he, if_neg (fun z => lne g g2 z.1.symm), p4 e he, if_pos rfl]) (fun x hx _ => by rw [e2 x hx.1, p5 x hx.1, if_neg (lne x hx)]) (by rw [e2 e he, if_neg (fun z => lne g g2 z.1.symm), p5 e he, if_pos rfl]) (fun x hx _ => by rw [e3 x hx.1, if_neg (lne x hx), p7 x hx.1, if_neg (lne x hx)]) (by rw [e3 e he, if_pos rfl]) (fun x hx _ => by rw [e4 x hx.1, if_neg (lne x hx), p6 x hx.1, if_neg (lne x hx)]) (by rw [e4 e he, if_pos rfl])
        refine LB_K hL (fun x hx => ?_)
        show (if x = e then A.2 d else if A.1 3 d = (x : Int) + 1 then (A.2 x).map (fun y => if y = d then e else y) else A.2 x) = _
        by_cases q : x = e
        · rw [if_pos q, if_pos q]
        · rw [if_neg q, if_neg q]
          by_cases q2 : x = g
          · subst q2
            rw [if_pos g1, if_pos rfl, hac, List.map_append, List.map_cons, if_pos rfl]
            have ma : a.map (fun y => if y = d then e else y) = a := by
              conv => rhs; rw [← List.map_id a]
              exact List.map_congr_left (fun y hy => by
                have : y ≠ d := fun z => hda.2.2 y hy d (by simp) z
                rw [if_neg this]; rfl)
            have mc : c.map (fun y => if y = d then e else y) = c := by
              conv => rhs; rw [← List.map_id c]
              exact List.map_congr_left (fun y hy => by
                have : y ≠ d := fun z => (List.nodup_cons.mp hda.2.1).1 (z ▸ hy)
                rw [if_neg this]; rfl)
            rw [ma, mc]
          · rw [if_neg (by omega), if_neg q2]
      · rw [e1 e he, if_neg (fun z => lne g g2 z.1.symm), p4 e he, if_pos rfl]
      · have hxk := kid_ne hW hd hx
        rw [e3 x hxk.1.1, if_neg (lne x hxk.1), if_neg, p7 x hxk.1.1, if_neg (lne x hxk.1)]
        intro z
        rw [n2'] at z
        have := ls1_in z.symm
        have h3 := hKW.2.2 g x g2 (by rw [hac]; simp [this])
        have := hxk.2.1
        omega
      · rcases el x hx with rfl | ⟨hx1, hxd⟩
        · rw [ee] at h0; omega
        · rw [en3 x (lne x hx1) hxd] at h0
          have h00 : A.1 3 x = 0 := by split at h0 <;> omega
          have hnx := root_not hKW h00 g g2
          obtain ⟨z1, z2⟩ := m4 x hx1 h00
          rw [e3 x hx1.1, e4 x hx1.1, if_neg (lne x hx1), if_neg (lne x hx1), if_neg, if_neg, p7 x hx1.1, p6 x hx1.1, if_neg (lne x hx1), if_neg (lne x hx1)]
          · exact ⟨z1, z2⟩
          · intro z; rw [n1'] at z; have := hd1_mem z.symm; exact hnx (by rw [hac]; simp [this])
          · intro z; rw [n2'] at z; have := ls1_in z.symm; exact hnx (by rw [hac]; simp [this])
  obtain ⟨B3, y1, y2, y3, y4, y5, y6⟩ := h3
  have c00 := c1 0 e he (by decide) (.inr (Ne.symm hde))
  rw [show 192 * 0 + e = e by omega, show 192 * 0 + d = d by omega, if_pos rfl] at c00
  have hBe : B3 e = A.1 0 d := by rw [y3 e (by omega), c00, m1 d hd192]
  have hfst : B (768 + d) = hd1 (A.2 d) := (m3 d hd).1
  obtain ⟨B4, k1, k2, k3⟩ := m_kids hb he (A.2 d) FU B3 (fun x hx => (hKd x hx).1) (fun a x c hx => by rw [y5 x (by rw [hx]; simp)]; exact ((m3 d hd).2.2 a x c hx).1) (by rw [hBe]; omega) (by rw [hBe]; omega) (FU_gt (by omega))
  rw [hBe] at k1
  have hw : 1920 ≤ wdc e ∧ wdc e < 1944 := by unfold wdc; omega
  obtain ⟨B5, hB5⟩ : ∃ B5, B5 = if 1 < A.1 0 d then upB B4 (wdc e) 1 else B4 := ⟨_, rfl⟩
  have b5 : ∀ k, k < 1920 → B5 k = B4 k := fun k hk => by
    rw [hB5]; split
    · rw [upB_ap, if_neg (by omega)]
    · rfl
  refine ⟨B5, ?_, ⟨fun x hx => ?_, fun x hx => ?_, ?_, fun x hx h0 => ?_⟩, fun k hk => ?_⟩
  · have hcp := m_copy hb B hd192 he hde 10 FU 0 (by omega) (FU_gt (by omega))
    have hcp0 : cpB B d e 0 = B := by funext k; unfold cpB; rw [if_neg (by omega)]
    rw [hcp0] at hcp
    have hly : Mo_lay (bst μ b (cpB B d e 10)) (zI (0 + (d : Int))) (zI 0) = some ((), bst μ b B2) := by
      rw [m_lay hb _ _ (by omega) (by omega), hB2]; congr 4; omega
    have hgo : Mo_giverOf (bst μ b B2) (zI (e : Int)) = some (zI (A.1 3 d - 1)) := by
      rw [m_giver hb he, p3 e he, if_pos rfl, (m2 d hd).2.2.1]
    have hpo : Mo_of (bst μ b B2) (zI (1152 + (e : Int))) = some (zI (B (1152 + d))) := by
      rw [m_of hb _ (by omega) (by omega), show (1152 + (e : Int)).toNat = 1152 + e by omega, p6 e he, if_pos rfl]
    have hno : Mo_nextOf (bst μ b B2) (zI (e : Int)) = some (zI (B (1344 + d) - 1)) := by
      rw [m_next hb he, p7 e he, if_pos rfl]
    have h86 : ∀ s, s = bst μ b B3 → Mo_movesTo_86 (zI (e : Int)) s = some ((), bst μ b B5) := fun s hs => by
      rw [hs]
      simp only [Mo_movesTo_86, m_first hb he, bp_some, bnd_ap, y4, hfst]
      rw [k1, hB5]
    show Mo_movesTo_2 FU (zI (d : Int)) (zI (e : Int)) (zI ((192 * 0 : Nat) : Int)) (bst μ b B) = _
    rw [hcp]
    show Mo_movesTo_2 (999989 + 1) _ _ _ _ = _
    rw [Mo_movesTo_2]
    simp (disch := omega) only [zI_lit, zI_lt, if_pos, zI_add, hly, bd_some, hgo, bp_some, bnd_ap, hpo, hno, zI_sub]
    rw [y1 (fun s => Mo_movesTo_86 (zI (e : Int)) s)]
    exact h86 _ rfl
  · rw [b5 x (by omega), k2 x (by omega), y3 x (by omega)]
    by_cases q1 : x = d
    · rw [q1, cd, ed]
    · have := c1 0 x hx (by decide) (.inr q1)
      rw [show 192 * 0 + x = x by omega, show 192 * 0 + d = d by omega] at this
      rw [this]
      by_cases q2 : x = e
      · rw [if_pos q2, q2, ee, m1 d hd192]
      · rw [if_neg q2, en 0 x q2 q1 (by decide), m1 x hx]
  · have hx192 := hx.1
    rw [b5 _ (by omega), b5 _ (by omega), b5 _ (by omega), b5 _ (by omega), b5 _ (by omega), k2 (192 + x) (by omega), k2 (384 + x) (by omega), k2 (1536 + x) (by omega), k2 (1728 + x) (by omega), k3 x hx192, y3 (192 + x) (by omega), y3 (384 + x) (by omega), y3 (576 + x) (by omega), y3 (1536 + x) (by omega), y3 (1728 + x) (by omega), p3 x hx192]
    have z1 := c1 1 x hx192 (by decide) (.inl (by decide))
    have z2 := c1 2 x hx192 (by decide) (.inl (by decide))
    have z8 := c1 8 x hx192 (by decide) (.inl (by decide))
    have z9 := c1 9 x hx192 (by decide) (.inl (by decide))
    rw [show 192 * 1 + x = 192 + x by omega, show 192 * 1 + d = 192 + d by omega] at z1
    rw [show 192 * 2 + x = 384 + x by omega, show 192 * 2 + d = 384 + d by omega] at z2
    rw [show 192 * 8 + x = 1536 + x by omega, show 192 * 8 + d = 1536 + d by omega] at z8
    rw [show 192 * 9 + x = 1728 + x by omega, show 192 * 9 + d = 1728 + d by omega] at z9
    rw [z1, z2, z8, z9]
    rcases el x hx with rfl | ⟨hx1, hxd⟩
    · rw [ee, ee, ee, ee, ee, if_pos rfl, if_pos rfl, if_pos rfl, if_pos rfl, if_pos rfl, if_neg (fun z => hne (hKd x z))]
      exact m2 d hd
    · have q := lne x hx1
      obtain ⟨t1, t2, t3, t4, t5⟩ := m2 x hx1
      rw [if_neg q, if_neg q, if_neg q, if_neg q, if_neg q, en 1 x q hxd (by decide), en 2 x q hxd (by decide), en3 x q hxd, en 8 x q hxd (by decide), en 9 x q hxd (by decide)]
      refine ⟨t1, t2, ?_, t4, t5⟩
      have hm : x ∈ A.2 d ↔ A.1 3 x = (d : Int) + 1 := ⟨fun z => (kid_ne hW hd z).2.1, fun z => (gv_live hW hx1 z).2.1⟩
      rw [t3]; simp only [hm]
  · intro x hx
    obtain ⟨f1, f2, f3⟩ := y2 x hx
    have hx192 := hx.1
    refine ⟨by dsimp only; rw [b5 _ (by omega), k2 _ (by omega)]; exact f1, by dsimp only; rw [b5 _ (by omega), k2 _ (by omega)]; exact f2, fun l1 y l2 hl => ?_⟩
    have hy192 : y < 192 := by
      have hy : y ∈ (aMove A d e).2 x := by rw [hl]; simp
      have hy' : y ∈ (if x = e then A.2 d else if A.1 3 d = (x : Int) + 1 then (A.2 x).map (fun y => if y = d then e else y) else A.2 x) := hy
      rcases el x hx with rfl | ⟨hx1, hxd⟩
      · rw [if_pos rfl] at hy'; exact (hKd y hy').1
      · rw [if_neg (lne x hx1)] at hy'
        split at hy'
        · obtain ⟨z, z1, z2⟩ := List.mem_map.mp hy'
          split at z2
          · omega
          · subst z2; exact ((hKW.1.1 x hx1).2 z z1).1
        · exact ((hKW.1.1 x hx1).2 y hy').1
    dsimp only
    rw [b5 _ (by omega), k2 _ (by omega), b5 _ (by omega), k2 _ (by omega)]; exact f3 l1 y l2 hl
  · have hx192 := hx.1
    rw [b5 _ (by omega), b5 _ (by omega), k2 _ (by omega), k2 _ (by omega)]
    exact y6 x hx h0
  · have h4 : B4 k = B k := by rw [k2 k (by omega), y3 k (by omega), ck k hk]
    rw [hB5]
    by_cases q : 1 < A.1 0 d
    · rw [if_pos q, upB_ap, h4]
      by_cases q2 : k = wdc e
      · rw [if_pos q2, if_pos ⟨q, q2⟩]
      · rw [if_neg q2, if_neg (fun z => q2 z.2)]
    · rw [if_neg q, if_neg (fun z => q z.1), h4]
