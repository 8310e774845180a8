/-! ===== the class moves a deed ===== -/
def ren (d e x : Nat) : Nat := if x = d then e else x
def rnv (d e : Nat) (v : Int) : Int := if v = (d : Int) + 1 then (e : Int) + 1 else v
theorem rnv_s (d e x : Nat) : rnv d e ((x : Int) + 1) = (ren d e x : Int) + 1 := by
  unfold rnv ren
  by_cases q : x = d
  · rw [if_pos (by omega), if_pos q]
  · rw [if_neg (by omega), if_neg q]
theorem rnv_0 (d e : Nat) : rnv d e 0 = 0 := by unfold rnv; rw [if_neg (by omega)]
theorem hd1_map (d e : Nat) (l : List Nat) : hd1 (l.map (ren d e)) = rnv d e (hd1 l) := by
  cases l with
  | nil => exact (rnv_0 d e).symm
  | cons x l => exact (rnv_s d e x).symm
theorem ls1_map (d e : Nat) (l : List Nat) : ls1 (l.map (ren d e)) = rnv d e (ls1 l) := by
  rcases List.eq_nil_or_concat l with rfl | ⟨m, x, rfl⟩
  · exact (rnv_0 d e).symm
  · simp only [List.concat_eq_append, List.map_append, List.map_cons, List.map_nil]
    rw [ls1_snoc, ls1_snoc, rnv_s]
theorem cr_move {n S : Nat} {A : Ab} {dep : Nat → Nat} {δ : Sl} {σ : Nat → Nat} {bn d e : Nat} (h : WF n S A dep) (hC : CRep δ σ bn A) (hd : Lv A d) (he : e < 192) (hal : e % pgs A d = 0) (hsp : e / 32 < n) (hS : e % 32 + pgs A d ≤ S) (hfree : ∀ x, Lv A x → x + pgs A x ≤ e ∨ e + pgs A d ≤ x) :
    De_moveTo δ (zI (σ d : Int)) (zI ((e / 32 : Nat) : Int)) (zI ((e % 32 : Nat) : Int)) = some ((), movS δ (σ d) d e (A.1 0 d)) ∧ CRep (movS δ (σ d) d e (A.1 0 d)) (fun x => if x = e then σ d else σ x) bn (aMove A d e) := by
  have hW' := WF_WS (WF_move h hd he hal hsp hS hfree)
  have hWS := WF_WS h
  have hKW := WF_KW h
  have hpd := pgs_pos h hd
  have hne : ¬ Lv A e := fun hl => by
    have := hfree e hl
    have := pgs_pos h hl
    omega
  have hde : d ≠ e := fun q => hne (q ▸ hd)
  have hwa := h.2.2.2.1 d hd
  have hn6 := h.1
  have hS32 := h.2.1
  obtain ⟨⟨s1, s2, s3, s4, s5⟩, hq, hf, ⟨n1, n2, n3⟩, F, L, N, P, k1, k2, k3⟩ := hC
  have b1 := s3 d hd
  obtain ⟨c1, c2, c3, c4, c5, c6, c7, c8, c9⟩ := hf d hd
  refine ⟨moveTo_eq (by omega) c1 c2 c4 (by have := hd.2; omega) hwa.1 (by have := (hWS.1 d hd).2.2; exact this) (by show e + pgs A d ≤ 192; omega), ?_⟩
  have ee : ∀ j, (aMove A d e).1 j e = A.1 j d := fun j => if_pos rfl
  have ed : (aMove A d e).1 0 d = 0 := by
    show (if d = e then _ else if d = d then (if 0 = 0 then 0 else A.1 0 d) else _) = _
    rw [if_neg hde, if_pos rfl, if_pos rfl]
  have en : ∀ j x, x ≠ e → x ≠ d → j ≠ 3 → (aMove A d e).1 j x = A.1 j x := fun j x h1 h2 h3 => by
    show (if x = e then _ else if x = d then _ else if j = 3 ∧ _ then _ else A.1 j x) = _
    rw [if_neg h1, if_neg h2, if_neg (fun q => h3 q.1)]
  have en3 : ∀ x, x ≠ e → x ≠ d → (aMove A d e).1 3 x = rnv d e (A.1 3 x) := fun x h1 h2 => by
    show (if x = e then _ else if x = d then _ else if 3 = 3 ∧ A.1 3 x = (d : Int) + 1 then (e : Int) + 1 else A.1 3 x) = _
    rw [if_neg h1, if_neg h2]; unfold rnv; simp
  have ke : (aMove A d e).2 e = A.2 d := if_pos rfl
  have kn : ∀ x, x ≠ e → (aMove A d e).2 x = if A.1 3 d = (x : Int) + 1 then (A.2 x).map (fun y => if y = d then e else y) else A.2 x := fun x h1 => if_neg h1
  have pe : pgs (aMove A d e) e = pgs A d := by unfold pgs; rw [ee]
  have pn : ∀ x, x ≠ e → x ≠ d → pgs (aMove A d e) x = pgs A x := fun x h1 h2 => by unfold pgs; rw [en 0 x h1 h2 (by decide)]
  have le : Lv (aMove A d e) e := ⟨he, by rw [ee]; exact hd.2⟩
  have el : ∀ x, Lv (aMove A d e) x → x = e ∨ (x ≠ e ∧ x ≠ d ∧ Lv A x) := fun x hx => by
    by_cases q : x = e
    · exact .inl q
    · by_cases q2 : x = d
      · subst q2; have := hx.2; rw [ed] at this; omega
      · refine .inr ⟨q, q2, hx.1, ?_⟩
        have := hx.2; rw [en 0 x q q2 (by decide)] at this; exact this
  have lne : ∀ x, Lv A x → x ≠ e := fun x hx q => hne (q ▸ hx)
  have eln : ∀ x, Lv A x → x ≠ d → Lv (aMove A d e) x := fun x hx q2 => ⟨hx.1, by rw [en 0 x (lne x hx) q2 (by decide)]; exact hx.2⟩
  have kid := fun {x y : Nat} => kid_ne (x := y) (d := x) h
  -- all lists renamed
  have mapid : ∀ l : List Nat, d ∉ l → l.map (ren d e) = l := fun l hl => by
    conv => rhs; rw [← List.map_id l]
    exact List.map_congr_left (fun y hy => by
      have : y ≠ d := fun z => hl (z ▸ hy)
      unfold ren; rw [if_neg this]; rfl)
  have kall : ∀ x, x ≠ e → x ≠ d → Lv A x → (aMove A d e).2 x = (A.2 x).map (ren d e) := fun x q1 q2 hx => by
    rw [kn x q1]
    split
    · rfl
    · rename_i hg
      rw [mapid]; intro hm; exact hg (kid hx hm).2.1
  have kd' : (aMove A d e).2 e = (A.2 d).map (ren d e) := by
    rw [ke, mapid]; intro hm; exact (kid hd hm).2.2.1 rfl
  have m1 : ∀ a i, a ≠ 32 → ¬ (a = 18 ∧ i = σ d) → ¬ (a = 19 ∧ i = σ d) → movS δ (σ d) d e (A.1 0 d) a i = δ a i := fun a i h1 h2 h3 => by
    unfold movS; rw [if_neg h1, if_neg h2, if_neg h3]
  have m32 : ∀ q, movS δ (σ d) d e (A.1 0 d) 32 q = if e ≤ q ∧ q < e + pgs A d then zI (σ d : Int) else if d ≤ q ∧ q < d + pgs A d then zI (-1) else δ 32 q := fun q => by
    unfold movS pgs; rw [if_pos rfl]
  have hencr : ∀ v, PV A v → enc (fun x => if x = e then σ d else σ x) (rnv d e v) = enc σ v := fun v hv => by
    rcases hv with rfl | ⟨y, rfl, hy⟩
    · rw [rnv_0]; rfl
    · rw [rnv_s, enc_s, enc_s]; unfold ren
      by_cases q : y = d
      · subst q; simp
      · rw [if_neg q, if_neg (lne y hy)]
  refine ⟨⟨s1, ?_, ?_, ?_, ?_⟩, ?_, ?_, ⟨?_, ?_, ?_⟩, fun x => rnv d e (F (if x = e then d else x)), fun x => rnv d e (L (if x = e then d else x)), fun x => rnv d e (N (if x = e then d else x)), fun x => rnv d e (P (if x = e then d else x)), ?_, ?_, ?_⟩
  · rw [m1 17 16 (by decide) (by omega) (by omega)]; exact s2
  · intro x hx
    dsimp only
    rcases el x hx with rfl | ⟨q1, q2, hx1⟩
    · rw [if_pos rfl]; exact s3 d hd
    · rw [if_neg q1]; exact s3 x hx1
  · intro x y hx hy hxy
    dsimp only at hxy
    rcases el x hx with rfl | ⟨q1, q2, hx1⟩ <;> rcases el y hy with rfl | ⟨r1, r2, hy1⟩
    · rfl
    · rw [if_pos rfl, if_neg r1] at hxy; exact absurd (s4 d y hd hy1 hxy) (Ne.symm r2)
    · rw [if_neg q1, if_pos rfl] at hxy; exact absurd (s4 x d hx1 hd hxy) q2
    · rw [if_neg q1, if_neg r1] at hxy; exact s4 x y hx1 hy1 hxy
  · intro j h1 h2
    rw [m1 21 j (by decide) (by omega) (by omega)] at h2
    obtain ⟨x, hx, ex⟩ := s5 j h1 h2
    by_cases q : x = d
    · subst q; exact ⟨e, le, by dsimp only; rw [if_pos rfl]; exact ex⟩
    · exact ⟨x, eln x hx q, by dsimp only; rw [if_neg (lne x hx)]; exact ex⟩
  · intro q hq1
    rw [m32]
    by_cases hin : e ≤ q ∧ q < e + pgs A d
    · rw [if_pos hin, cs_of hW' le hin.1 (by rw [pe]; exact hin.2)]
      unfold sc; simp
    · rw [if_neg hin]
      by_cases hin2 : d ≤ q ∧ q < d + pgs A d
      · rw [if_pos hin2]
        cases hc : cov (aMove A d e) q with
        | none => rfl
        | some z =>
          obtain ⟨z1, z2, z3⟩ := cs_some hq1 hc
          rcases el z z1 with rfl | ⟨q1, q2, z4⟩
          · rw [pe] at z3; omega
          · rw [pn z q1 q2] at z3
            have := hWS.2.1 z d z4 hd q2; omega
      · rw [if_neg hin2, hq q hq1]
        cases hc : cov A q with
        | none =>
          cases hc' : cov (aMove A d e) q with
          | none => rfl
          | some z =>
            obtain ⟨z1, z2, z3⟩ := cs_some hq1 hc'
            rcases el z z1 with rfl | ⟨q1, q2, z4⟩
            · rw [pe] at z3; omega
            · rw [pn z q1 q2] at z3
              have := cs_none hWS hc z4; omega
        | some z =>
          obtain ⟨z1, z2, z3⟩ := cs_some hq1 hc
          have q2 : z ≠ d := fun w => by subst w; exact hin2 ⟨z2, z3⟩
          rw [cs_of hW' (eln z z1 q2) z2 (by rw [pn z (lne z z1) q2]; exact z3)]
          unfold sc; dsimp only; rw [if_neg (lne z z1)]
  · intro x hx
    rcases el x hx with rfl | ⟨q1, q2, hx1⟩
    · unfold CF
      dsimp only
      rw [if_pos rfl, m1 20 _ (by decide) (by omega) (by omega), m1 21 _ (by decide) (by omega) (by omega), m1 22 _ (by decide) (by omega) (by omega), m1 28 _ (by decide) (by omega) (by omega), m1 29 _ (by decide) (by omega) (by omega), m1 30 _ (by decide) (by omega) (by omega), m1 31 _ (by decide) (by omega) (by omega), ee, ee, ee, ee, ee, ee, ee]
      refine ⟨?_, ?_, c3, c4, c5, c6, c7, c8, c9⟩
      · unfold movS; simp
      · unfold movS; simp
    · have hσn : σ x ≠ σ d := fun z => q2 (s4 x d hx1 hd z)
      unfold CF
      dsimp only
      rw [if_neg q1, m1 18 _ (by decide) (fun z => hσn z.2) (fun z => hσn z.2), m1 19 _ (by decide) (fun z => hσn z.2) (fun z => hσn z.2), m1 20 _ (by decide) (by omega) (by omega), m1 21 _ (by decide) (by omega) (by omega), m1 22 _ (by decide) (by omega) (by omega), m1 28 _ (by decide) (by omega) (by omega), m1 29 _ (by decide) (by omega) (by omega), m1 30 _ (by decide) (by omega) (by omega), m1 31 _ (by decide) (by omega) (by omega), en 0 x q1 q2 (by decide), en 1 x q1 q2 (by decide), en 2 x q1 q2 (by decide), en 8 x q1 q2 (by decide), en 9 x q1 q2 (by decide), en 10 x q1 q2 (by decide), en 11 x q1 q2 (by decide)]
      exact hf x hx1
  · have h1 := nlv_up (A := A) (A' := setA A 0 d 0) hd.1 (fun x hx => aZ_n (.inl hx))
    have h0 : (setA A 0 d 0).1 0 d = 0 := if_pos ⟨rfl, rfl⟩
    rw [if_pos hd.2, h0, if_neg (by omega)] at h1
    have h2 := nlv_up (A := setA A 0 d 0) (A' := aMove A d e) he (fun x hx => by
      by_cases q : x = d
      · subst q; rw [ed, h0]
      · rw [en 0 x hx q (by decide), aZ_n (.inl q)])
    rw [aZ_n (.inl (Ne.symm hde)), if_neg (fun z => hne ⟨he, z⟩), ee, if_pos hd.2] at h2
    rw [m1 17 17 (by decide) (by omega) (by omega), n1, show (nlv A : Int) = (nlv (aMove A d e) : Int) by omega]
  · have h1 := ntp_up (A := A) (A' := setA A 0 d 0) hd.1 (fun x hx => ⟨aZ_n (.inl hx), aZ_n (.inl hx)⟩)
    have h0 : (setA A 0 d 0).1 0 d = 0 := if_pos ⟨rfl, rfl⟩
    rw [h0, if_neg (c := 0 < (0 : Int) ∧ _) (by omega)] at h1
    have h2 := ntp_up (A := setA A 0 d 0) (A' := aMove A d e) he (fun x hx => by
      by_cases q : x = d
      · subst q; refine ⟨by rw [ed, h0], ?_⟩
        rw [aZ_n (.inr (by decide))]
        show (if x = e then _ else if x = x then (if 9 = 0 then 0 else A.1 9 x) else _) = _
        rw [if_neg hde, if_pos rfl, if_neg (by decide)]
      · exact ⟨by rw [en 0 x hx q (by decide), aZ_n (.inl q)], by rw [en 9 x hx q (by decide), aZ_n (.inl q)]⟩)
    rw [aZ_n (.inl (Ne.symm hde)), if_neg (fun z => hne ⟨he, z.1⟩), ee, ee] at h2
    rw [m1 17 18 (by decide) (by omega) (by omega), n2, show (ntp A : Int) = (ntp (aMove A d e) : Int) by omega]
  · intro x hx
    rcases el x hx with rfl | ⟨q1, q2, hx1⟩
    · rw [ee]; exact n3 d hd
    · rw [en 9 x q1 q2 (by decide)]; exact n3 x hx1
  · intro x hx
    rcases el x hx with rfl | ⟨q1, q2, hx1⟩
    · obtain ⟨v1, v2, v3, v4, v5, -⟩ := pv_all hKW k2 k3 hd
      have e3 : (aMove A d x).1 3 x = rnv d x (A.1 3 d) := by
        rw [ee]; unfold rnv; rw [if_neg]
        intro z; have := gv_live h hd z; omega
      dsimp only
      rw [if_pos rfl, if_pos rfl, e3, hencr _ v1, hencr _ v2, hencr _ v3, hencr _ v4, hencr _ v5, m1 24 _ (by decide) (by omega) (by omega), m1 25 _ (by decide) (by omega) (by omega), m1 26 _ (by decide) (by omega) (by omega), m1 27 _ (by decide) (by omega) (by omega), m1 23 _ (by decide) (by omega) (by omega)]
      exact k1 d hd
    · obtain ⟨v1, v2, v3, v4, v5, -⟩ := pv_all hKW k2 k3 hx1
      dsimp only
      rw [if_neg q1, if_neg q1, en3 x q1 q2, hencr _ v1, hencr _ v2, hencr _ v3, hencr _ v4, hencr _ v5, m1 24 _ (by decide) (by omega) (by omega), m1 25 _ (by decide) (by omega) (by omega), m1 26 _ (by decide) (by omega) (by omega), m1 27 _ (by decide) (by omega) (by omega), m1 23 _ (by decide) (by omega) (by omega)]
      exact k1 x hx1
  · have key : ∀ x x0, Lv A x0 → (aMove A d e).2 x = (A.2 x0).map (ren d e) → (if x = e then d else x) = x0 → rnv d e (F (if x = e then d else x)) = hd1 ((aMove A d e).2 x) ∧ rnv d e (L (if x = e then d else x)) = ls1 ((aMove A d e).2 x) ∧ ∀ l1 y l2, (aMove A d e).2 x = l1 ++ y :: l2 → rnv d e (N (if y = e then d else y)) = hd1 l2 ∧ rnv d e (P (if y = e then d else y)) = ls1 l1 := fun x x0 hx0 hk hxx => by
      obtain ⟨f1, f2, f3⟩ := k2 x0 hx0
      rw [hxx, hk, hd1_map, ls1_map, f1, f2]
      refine ⟨rfl, rfl, fun l1 y l2 hs => ?_⟩
      obtain ⟨a, b', ha, hb, hc⟩ := List.map_eq_append_iff.mp hs
      obtain ⟨y0, b, hb1, hb2, hb3⟩ := List.map_eq_cons_iff.mp hc
      subst hb; subst hb3
      subst hb1
      have hy0 : Lv A y0 := ((h.2.2.2.2.2.1 x0 hx0).2 y0 (by rw [ha]; simp)).1
      have hyy : (if y = e then d else y) = y0 := by
        rw [← hb2]; unfold ren
        by_cases q : y0 = d
        · subst q; simp
        · rw [if_neg q, if_neg (lne y0 hy0)]
      rw [hyy, (f3 a y0 b ha).1, (f3 a y0 b ha).2, hd1_map, ls1_map]
      exact ⟨rfl, rfl⟩
    intro x hx
    rcases el x hx with rfl | ⟨q1, q2, hx1⟩
    · exact key x d hd kd' (if_pos rfl)
    · exact key x x hx1 (kall x q1 q2 hx1) (if_neg q1)
  · intro x hx h0
    dsimp only
    rcases el x hx with rfl | ⟨q1, q2, hx1⟩
    · rw [ee] at h0
      obtain ⟨a, b⟩ := k3 d hd h0
      rw [if_pos rfl, a, b, rnv_0]; exact ⟨rfl, rfl⟩
    · rw [en3 x q1 q2] at h0
      have h00 : A.1 3 x = 0 := by
        unfold rnv at h0
        split at h0
        · omega
        · exact h0
      obtain ⟨a, b⟩ := k3 x hx1 h00
      rw [if_neg q1, a, b, rnv_0]; exact ⟨rfl, rfl⟩
