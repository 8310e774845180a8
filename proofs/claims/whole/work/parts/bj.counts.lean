/-! ===== what is left to do; jobs, waits, answers, names ===== -/
theorem sml_ind (p : Nat → Bool) : ∀ l : List Nat, sml (fun d => if p d = true then 1 else 0) l = (l.filter p).length := by
  intro l
  induction l with
  | nil => rfl
  | cons x l ih =>
    rw [sml_cons, ih]
    cases h : p x with
    | true => rw [List.filter_cons_of_pos h, List.length_cons, if_pos rfl]; omega
    | false => rw [List.filter_cons_of_neg (by rw [h]; decide), if_neg (by decide)]; omega
section
variable {n S : Nat} {A : Ab} {dep : Nat → Nat} {δ : Sl} {σ : Nat → Nat} {bn : Nat} {μ : Sl} {b : Nat} {B : Nat → Int} {J : List Jb} {N : Int}
theorem ja10 (hJ : JA A J N) (hN : N < 2147483648) : ∀ x, Lv A x → 0 ≤ A.1 10 x ∧ A.1 10 x < 2147483648 := fun x hx => by
  by_cases z : A.1 10 x = 0
  · omega
  · obtain ⟨e, e1, e2⟩ := hJ.2.1 x hx z
    obtain ⟨q1, q2, -⟩ := hJ.1.2.2 e e1
    omega
theorem c_left_loop (h : WF n S A dep) (hC : CRep δ σ bn A) (h10 : ∀ x, Lv A x → 0 ≤ A.1 10 x ∧ A.1 10 x < 2147483648) {id : Int} (hid : 0 ≤ id ∧ id < 2147483648) : ∀ (m i k a : Nat), i + m = bn → m < k → De_leftToDo_4 δ k (zI id) (zI (a : Int)) (zI (i : Int)) = some (zI ((a + sml (fun d => if decide (A.1 10 d = id) = true then 1 else 0) (ldf σ A i m) : Nat) : Int)) := by
  have hbn := hC.1.1
  have e16 := hC.1.2.1
  intro m
  induction m with
  | zero =>
    intro i k a hi hk
    obtain ⟨c, rfl⟩ : ∃ c, k = c + 1 := ⟨k - 1, by omega⟩
    rw [De_leftToDo_4, e16, if_pos (by rw [zI_le (by omega) (by omega) (by omega) (by omega)]; omega), ldf_0, sml_nil]; rfl
  | succ m ih =>
    intro i k a hi hk
    obtain ⟨c, rfl⟩ : ∃ c, k = c + 1 := ⟨k - 1, by omega⟩
    have hib : inb (zI (i : Int)) 192 := by rw [zI_inb (by omega) (by omega)]; omega
    have nx : ∀ j : Nat, zI (j : Int) + (1 : Int32) = zI ((j + 1 : Nat) : Int) := fun j => by rw [show (1 : Int32) = zI 1 from rfl, zI_add]; congr 1
    rw [De_leftToDo_4, e16, if_neg (by rw [zI_le (by omega) (by omega) (by omega) (by omega)]; omega), if_pos hib, zI_ix (by omega) (by omega), Int.toNat_natCast]
    by_cases hu : δ 21 i < 0
    · rw [if_pos hu, De_leftToDo_34, bnd_ap, nx, ih (i + 1) c a (by omega) (by omega), ldf_none (sl_none hC (wf4 h) hu)]
    · obtain ⟨x, e, hx, he⟩ := sl_live hC (by omega) hu
      have e29 := (hC.2.2.1 x hx).2.2.2.2.2.2.1
      rw [he] at e29
      have r10 := h10 x hx
      rw [if_neg hu, if_pos hib, e29, ldf_some e, sml_cons]
      by_cases q : A.1 10 x = id
      · rw [if_pos (by rw [q]), bnd_ap, nx, De_leftToDo_34, bnd_ap, nx, ih (i + 1) c (a + 1) (by omega) (by omega), if_pos (decide_eq_true q), Nat.add_assoc]
      · rw [if_neg (by rw [zI_eq (by omega) (by omega) (by omega) (by omega)]; exact q), De_leftToDo_34, bnd_ap, nx, ih (i + 1) c a (by omega) (by omega), if_neg (by rw [decide_eq_true_eq]; exact q), Nat.zero_add]
theorem c_left (h : WF n S A dep) (hC : CRep δ σ bn A) (hJ : JA A J N) (hN : N < 2147483648) {e : Jb} (he : e ∈ J) : De_leftToDo δ (zI e.1) = some (zI (e.2.2.2.2.length : Int)) := by
  have hbn := hC.1.1
  obtain ⟨q1, q2, -, -, -, -, q7, q8⟩ := hJ.1.2.2 e he
  have t := c_left_loop h hC (ja10 hJ hN) (id := e.1) ⟨by omega, by omega⟩ bn 0 1000000 0 (by omega) (by omega)
  rw [sml_perm _ (ldf_perm hC), sml_ind, Nat.zero_add] at t
  have hp : List.Perm ((lvl A).filter (fun d => decide (A.1 10 d = e.1))) e.2.2.2.2 := by
    refine (List.perm_ext_iff_of_nodup (List.Pairwise.filter _ (lvl_nd A)) (q7.imp (fun {a b} hab => by intro z; subst z; omega))).mpr (fun d => ?_)
    rw [List.mem_filter, lvl_mem, decide_eq_true_eq]
    exact (q8 d).symm
  rw [hp.length_eq] at t
  exact t
theorem c_do_loop (h : WF n S A dep) (hC : CRep δ σ bn A) (h10 : ∀ x, Lv A x → 0 ≤ A.1 10 x ∧ A.1 10 x < 2147483648) : ∀ (m i k a : Nat), i + m = bn → m < k → De_allToDo_4 δ k (zI (a : Int)) (zI (i : Int)) = some (zI ((a + sml (fun d => if decide (A.1 10 d ≠ 0) = true then 1 else 0) (ldf σ A i m) : Nat) : Int)) := by
  have hbn := hC.1.1
  have e16 := hC.1.2.1
  intro m
  induction m with
  | zero =>
    intro i k a hi hk
    obtain ⟨c, rfl⟩ : ∃ c, k = c + 1 := ⟨k - 1, by omega⟩
    rw [De_allToDo_4, e16, if_pos (by rw [zI_le (by omega) (by omega) (by omega) (by omega)]; omega), ldf_0, sml_nil]; rfl
  | succ m ih =>
    intro i k a hi hk
    obtain ⟨c, rfl⟩ : ∃ c, k = c + 1 := ⟨k - 1, by omega⟩
    have hib : inb (zI (i : Int)) 192 := by rw [zI_inb (by omega) (by omega)]; omega
    have nx : ∀ j : Nat, zI (j : Int) + (1 : Int32) = zI ((j + 1 : Nat) : Int) := fun j => by rw [show (1 : Int32) = zI 1 from rfl, zI_add]; congr 1
    rw [De_allToDo_4, e16, if_neg (by rw [zI_le (by omega) (by omega) (by omega) (by omega)]; omega), if_pos hib, zI_ix (by omega) (by omega), Int.toNat_natCast]
    by_cases hu : δ 21 i < 0
    · rw [if_pos hu, De_allToDo_33, bnd_ap, nx, ih (i + 1) c a (by omega) (by omega), ldf_none (sl_none hC (wf4 h) hu)]
    · obtain ⟨x, e, hx, he⟩ := sl_live hC (by omega) hu
      have e29 := (hC.2.2.1 x hx).2.2.2.2.2.2.1
      rw [he] at e29
      have r10 := h10 x hx
      rw [if_neg hu, if_pos hib, e29, ldf_some e, sml_cons]
      by_cases q : A.1 10 x = 0
      · rw [if_pos (by rw [q]; rfl), De_allToDo_33, bnd_ap, nx, ih (i + 1) c a (by omega) (by omega), if_neg (by rw [decide_eq_true_eq]; exact fun z => z q), Nat.zero_add]
      · rw [if_neg (by rw [zI_lit, zI_eq (by omega) (by omega) (by omega) (by omega)]; exact q), bnd_ap, nx, De_allToDo_33, bnd_ap, nx, ih (i + 1) c (a + 1) (by omega) (by omega), if_pos (decide_eq_true q), Nat.add_assoc]
theorem c_do (h : WF n S A dep) (hC : CRep δ σ bn A) (hJ : JA A J N) (hN : N < 2147483648) : De_allToDo δ = some (zI ((jL J).length : Int)) := by
  have hbn := hC.1.1
  have t := c_do_loop h hC (ja10 hJ hN) bn 0 1000000 0 (by omega) (by omega)
  rw [sml_perm _ (ldf_perm hC), sml_ind, Nat.zero_add] at t
  have hp : List.Perm ((lvl A).filter (fun d => decide (A.1 10 d ≠ 0))) (jL J) := by
    refine (List.perm_ext_iff_of_nodup (List.Pairwise.filter _ (lvl_nd A)) (jL_nodup J hJ.1.2.1 hJ.1.2.2)).mpr (fun d => ?_)
    rw [List.mem_filter, lvl_mem, decide_eq_true_eq]
    exact (jL_mem hJ d).symm
  rw [hp.length_eq] at t
  exact t
end
/-- the first place of a name -/
def fnm (f : Nat → Int32) (v : Int32) : Nat → Nat → Int
  | 0, _ => -1
  | m + 1, i => if f i = v then (i : Int) else fnm f v m (i + 1)
theorem fnm_cong {f g : Nat → Int32} (v : Int32) : ∀ (m i : Nat), (∀ j, i ≤ j → j < i + m → f j = g j) → fnm f v m i = fnm g v m i := by
  intro m
  induction m with
  | zero => intro i _; rfl
  | succ m ih =>
    intro i h
    show (if f i = v then (i : Int) else fnm f v m (i + 1)) = if g i = v then (i : Int) else fnm g v m (i + 1)
    rw [h i (by omega) (by omega), ih (i + 1) (fun j h1 h2 => h j (by omega) (by omega))]
theorem fnm_rg {f : Nat → Int32} (v : Int32) : ∀ (m i : Nat), fnm f v m i = -1 ∨ ∃ j : Nat, fnm f v m i = (j : Int) ∧ i ≤ j ∧ j < i + m ∧ f j = v := by
  intro m
  induction m with
  | zero => intro i; exact .inl rfl
  | succ m ih =>
    intro i
    by_cases c : f i = v
    · exact .inr ⟨i, if_pos c, by omega, by omega, c⟩
    · rcases ih (i + 1) with e | ⟨j, e, h1, h2, h3⟩
      · exact .inl ((if_neg c).trans e)
      · exact .inr ⟨j, (if_neg c).trans e, by omega, by omega, h3⟩
theorem c_named {d : Sl} {n : Nat} (hn : n ≤ 6) (h : d 4 5 = zI (n : Int)) (v : Int32) : ∀ (m i k : Nat), i + m = n → m < k → Sc_spaceNamed_2 d k v (zI (i : Int)) = some (zI (fnm (d 5) v m i)) := by
  intro m
  induction m with
  | zero =>
    intro i k hi hk
    obtain ⟨c, rfl⟩ : ∃ c, k = c + 1 := ⟨k - 1, by omega⟩
    rw [Sc_spaceNamed_2, h, if_pos (by rw [zI_le (by omega) (by omega) (by omega) (by omega)]; omega)]; rfl
  | succ m ih =>
    intro i k hi hk
    obtain ⟨c, rfl⟩ : ∃ c, k = c + 1 := ⟨k - 1, by omega⟩
    have nx : zI (i : Int) + (1 : Int32) = zI ((i + 1 : Nat) : Int) := by rw [show (1 : Int32) = zI 1 from rfl, zI_add]; congr 1
    rw [Sc_spaceNamed_2, h, if_neg (by rw [zI_le (by omega) (by omega) (by omega) (by omega)]; omega), if_pos (by rw [zI_inb (by omega) (by omega)]; omega), zI_ix (by omega) (by omega), Int.toNat_natCast, bnd_ap, nx, ih (i + 1) c (by omega) (by omega)]
    show _ = some (zI (if d 5 i = v then (i : Int) else fnm (d 5) v m (i + 1)))
    by_cases q : d 5 i = v
    · rw [if_pos q, if_pos q]
    · rw [if_neg q, if_neg q]
theorem m_named {d : Sl} {n o : Nat} (hn : n ≤ 6) (ho : o ≤ 6) (v : Int32) : ∀ (m i k : Nat), i + m = n → m < k → Mo_find_3 d k (zI (o : Int)) (zI (n : Int)) v (zI (i : Int)) = some (zI (fnm (fun j => d 37 (o + j)) v m i)) := by
  intro m
  induction m with
  | zero =>
    intro i k hi hk
    obtain ⟨c, rfl⟩ : ∃ c, k = c + 1 := ⟨k - 1, by omega⟩
    rw [Mo_find_3, if_pos (by rw [zI_le (by omega) (by omega) (by omega) (by omega)]; omega)]; rfl
  | succ m ih =>
    intro i k hi hk
    obtain ⟨c, rfl⟩ : ∃ c, k = c + 1 := ⟨k - 1, by omega⟩
    have nx : zI (i : Int) + (1 : Int32) = zI ((i + 1 : Nat) : Int) := by rw [show (1 : Int32) = zI 1 from rfl, zI_add]; congr 1
    rw [Mo_find_3, if_neg (by rw [zI_le (by omega) (by omega) (by omega) (by omega)]; omega), zI_add, if_pos (by rw [zI_inb (by omega) (by omega)]; omega), zI_ix (by omega) (by omega), bnd_ap, nx, ih (i + 1) c (by omega) (by omega), show ((o : Int) + (i : Int)).toNat = o + i by omega]
    show _ = some (zI (if d 37 (o + i) = v then (i : Int) else fnm (fun j => d 37 (o + j)) v m (i + 1)))
    by_cases q : d 37 (o + i) = v
    · rw [if_pos q, if_pos q]
    · rw [if_neg q, if_neg q]
section
variable {c n0 : Nat} {M : Mem} {μ : Sl}
theorem top_fault (hI : Inv c n0 M μ) (a1 : Int32) : TopQ c n0 M (Fh_fault M a1) (Mo_fault μ a1) := by
  obtain ⟨n, S, k, w, s, t, nx, κ, B, C, h0, hR, hk, hT, ⟨tt, p1, p2, p3, p4, p5, p6⟩, -⟩ := id hI
  have e4 : wr μ 34 2 (0 : Int32) 34 4 = M 0 2 0 := by rw [wr_ap, if_neg (by omega)]; exact p5.symm
  have e5 : wr μ 34 2 (0 : Int32) 34 5 = M 0 2 1 := by rw [wr_ap, if_neg (by omega)]; exact p6.symm
  rw [Fh_fault, Mo_fault, bnd_ap, e4, e5]
  by_cases z : a1 = 0
  · rw [if_pos z, if_pos z]; exact ⟨_, _, rfl, rfl, inv_wr hI 0⟩
  · rw [if_neg z, if_neg z]
    by_cases y : a1 = 1
    · rw [if_pos y, if_pos y]; exact ⟨_, _, rfl, rfl, inv_wr hI 0⟩
    · rw [if_neg y, if_neg y]; exact ⟨_, _, rfl, rfl, inv_wr hI 0⟩
theorem top_named (hI : Inv c n0 M μ) (a1 : Int32) : TopQ c n0 M (Fh_named M a1) (Mo_named μ a1) := by
  obtain ⟨n, S, k, w, t, B, σ, bn, A, dep, J, N, e, qv, pv, wv, ⟨a, a2, a3, a4, a5⟩, -, -, -, -, -, hT, hq, -⟩ := top_q hI
  obtain ⟨qv', pv', wv', c', wb, dc, sd, kd, x, ⟨b0, b1, b2, b3, b4, b5, b6⟩, ⟨d1, d2, -⟩, -⟩ := hT
  have hn := d2.1
  have e1 := c_named hn b1 a1 n 0 1000000 (by omega) (by omega)
  have e2 := m_named (d := wr μ 34 2 (0 : Int32)) (o := 0) hn (by omega) a1 n 0 1000000 (by omega) (by omega)
  have e3 : fnm (fun j => wr μ 34 2 (0 : Int32) 37 (0 + j)) a1 n 0 = fnm (M k 5) a1 n 0 := fnm_cong a1 n 0 (fun j _ h2 => by rw [Nat.zero_add]; exact (b6 j (by omega)).symm)
  refine ⟨zI (fnm (M k 5) a1 n 0), wr μ 34 2 (0 : Int32), ?_, ?_, inv_wr hI 0⟩
  · rw [Fh_named, a, gref_z (by omega), a3, gref_z (by omega), Sc_spaceNamed, bnd_ap]
    show bp (Sc_spaceNamed_2 (M k) 1000000 a1 (zI ((0 : Nat) : Int))) _ = _
    rw [e1, bp_some]
  · rw [e3] at e2
    rw [Mo_named, bnd_ap, d1.1, Mo_find, bnd_ap]
    show bp (Mo_find_3 (wr μ 34 2 (0 : Int32)) 1000000 (zI ((0 : Nat) : Int)) (zI (n : Int)) a1 (zI ((0 : Nat) : Int))) _ = _
    rw [e2, bp_some]
theorem top_answer (hI : Inv c n0 M μ) (a1 : Int32) : TopQ c n0 M (Fh_answer M a1) (Mo_answer μ a1) := by
  obtain ⟨n, S, k, w, t, B, σ, bn, A, dep, J, N, e, qv, pv, wv, ⟨a, a2, a3, a4, a5⟩, -, ⟨-, hX⟩, -, ⟨f1, f2⟩, -, hT, hq, -⟩ := top_q hI
  obtain ⟨qv', pv', wv', c', wb, dc, sd, kd, x, -, -, ⟨s1, s2, s3, s4, ⟨s5, s6, s7⟩, s8⟩, -⟩ := hT
  obtain ⟨y1, y2, y3, y4⟩ := hX.2.2.2.2.1
  have y1 : M w 10 11 = zI e := y1
  have y3 : 0 ≤ e := y3
  have y4 : e ≤ 24 := y4
  have y5 := hX.2.2.2.2.2
  obtain ⟨x1, ⟨i1, i2⟩, rfl⟩ := zI_ex a1
  by_cases z : x1 < 0
  · refine ⟨zI (-10), wr μ 34 2 (0 : Int32), ?_, ?_, inv_wr hI 0⟩
    · rw [Fh_answer, if_pos (by rw [zI_lit, zI_lt (by omega) (by omega) (by omega) (by omega)]; omega)]; rfl
    · rw [Mo_answer, bnd_ap, if_pos (by rw [zI_lit, zI_lt (by omega) (by omega) (by omega) (by omega)]; omega)]; rfl
  have z0 : ¬ zI x1 < 0 := by rw [zI_lit, zI_lt (by omega) (by omega) (by omega) (by omega)]; omega
  by_cases y : c' ≤ x1
  · refine ⟨zI (-10), wr μ 34 2 (0 : Int32), ?_, ?_, inv_wr hI 0⟩
    · rw [Fh_answer, if_neg z0, a, gref_z (by omega), a3, gref_z (by omega), s1, if_pos (by rw [zI_le (by omega) (by omega) (by omega) (by omega)]; omega)]; rfl
    · rw [Mo_answer, bnd_ap, if_neg z0, s3, if_neg (by rw [zI_lt (by omega) (by omega) (by omega) (by omega)]; omega)]; rfl
  have hof := m_of f1 B (k := 2203 + x1) (by omega) (by omega)
  rw [f2, ← zI_add] at hof
  obtain ⟨g1, g2⟩ := y5 x1.toNat (by omega)
  have ex : (2203 + x1).toNat = 2203 + x1.toNat := by omega
  have cl : Fh_answer M (zI x1) = if zI e ≤ zI x1 then some (-9 : Int32) else some (M w 16 x1.toNat) := by
    rw [Fh_answer, if_neg z0, a, gref_z (by omega), a3, gref_z (by omega), s1, if_neg (by rw [zI_le (by omega) (by omega) (by omega) (by omega)]; omega), if_pos (by rw [zI_lit, zI_lt (by omega) (by omega) (by omega) (by omega)]; omega), gref_z (by omega), y1, gref_z (by omega), if_pos (show inb (zI x1) 24 by rw [zI_inb (by omega) (by omega)]; omega), zI_ix (by omega) (by omega)]
  have mo : Mo_answer μ (zI x1) = some (zI (B (2203 + x1.toNat)), wr μ 34 2 (0 : Int32)) := by
    rw [Mo_answer, bnd_ap, if_neg z0, s3, if_pos (by rw [zI_lt (by omega) (by omega) (by omega) (by omega)]; omega)]
    show bp (Mo_of (wr μ 34 2 (0 : Int32)) (zI 2203 + zI x1)) _ = _
    rw [hof, bp_some, ex]
  by_cases q : e ≤ x1
  · refine ⟨zI (-9), wr μ 34 2 (0 : Int32), ?_, ?_, inv_wr hI 0⟩
    · rw [cl, if_pos (by rw [zI_le (by omega) (by omega) (by omega) (by omega)]; omega)]; rfl
    · have g3 : B (2203 + x1.toNat) = -9 := g2 (by show e ≤ _; omega)
      rw [mo, g3]
  · refine ⟨zI (B (2203 + x1.toNat)), wr μ 34 2 (0 : Int32), ?_, mo, inv_wr hI 0⟩
    rw [cl, if_neg (by rw [zI_le (by omega) (by omega) (by omega) (by omega)]; omega), g1 (by show _ < e; omega)]
theorem top_job (hI : Inv c n0 M μ) (hc : c < 600) (a1 a2 : Int32) : TopQ c n0 M (Fh_job M a1 a2) (Mo_job μ a1 a2) := by
  obtain ⟨n, S, k, w, t, B, σ, bn, A, dep, J, N, e, qv, pv, wv, ⟨a, a2', a3, a4, a5⟩, -, ⟨⟨hW, hC, hM, -, -, hJ, hJC, hJM, -, -⟩, hX⟩, -, ⟨f1, f2⟩, ⟨hN, -⟩, hT, hq, -⟩ := top_q hI
  obtain ⟨x1, ⟨i1, i2⟩, rfl⟩ := zI_ex a1
  obtain ⟨x2, ⟨j1, j2⟩, rfl⟩ := zI_ex a2
  have h6 := hJ.1.1
  have of : ∀ q : Int, 0 ≤ q → q < 2227 → Mo_of (wr μ 34 2 (0 : Int32)) (zI q) = some (zI (B q.toNat)) := fun q q1 q2 => by
    have := m_of f1 B q1 q2
    rw [f2] at this; exact this
  have bad : ∀ R1 R2, R1 = some (-1 : Int32) → R2 = some ((-1 : Int32), wr μ 34 2 (0 : Int32)) → TopQ c n0 M R1 R2 := fun R1 R2 r1 r2 => ⟨-1, _, r1, r2, inv_wr hI 0⟩
  by_cases z : x1 < 0
  · have z0 : zI x1 < 0 := by rw [zI_lit, zI_lt (by omega) (by omega) (by omega) (by omega)]; omega
    exact bad _ _ (by rw [Fh_job, if_pos z0]) (by rw [Mo_job, bnd_ap, if_pos z0])
  have z0 : ¬ zI x1 < 0 := by rw [zI_lit, zI_lt (by omega) (by omega) (by omega) (by omega)]; omega
  have e44 : Mo_of (wr μ 34 2 (0 : Int32)) (1944 : Int32) = some (zI (J.length : Int)) := by
    have := of 1944 (by omega) (by omega)
    rw [show (1944 : Int).toNat = 1944 from rfl, hJM.1] at this; exact this
  by_cases y : (J.length : Int) ≤ x1
  · exact bad _ _ (by rw [Fh_job, if_neg z0, a, gref_z (by omega), hJC.1, if_pos (by rw [zI_le (by omega) (by omega) (by omega) (by omega)]; omega)]) (by rw [Mo_job, bnd_ap, if_neg z0, e44, bp_some, if_neg (by rw [zI_lt (by omega) (by omega) (by omega) (by omega)]; omega)])
  have cl : Fh_job M (zI x1) (zI x2) = if zI x2 < 0 then some (-1 : Int32) else if zI x2 ≤ (3 : Int32) then (bp (Wo_tellJob M (M w) (zI x1) (zI x2)) fun r => some r) else some (-1 : Int32) := by
    rw [Fh_job, if_neg z0, a, gref_z (by omega), hJC.1, if_neg (by rw [zI_le (by omega) (by omega) (by omega) (by omega)]; omega), gref_z (by omega)]
  have mo : Mo_job μ (zI x1) (zI x2) = if zI x2 = (0 : Int32) then (bp (Mo_of (wr μ 34 2 (0 : Int32)) ((1956 : Int32) + zI x1)) fun r => some (r, wr μ 34 2 (0 : Int32))) else if zI x2 = (1 : Int32) then (bp (Mo_of (wr μ 34 2 (0 : Int32)) ((1962 : Int32) + zI x1)) fun r => some (r, wr μ 34 2 (0 : Int32))) else if zI x2 = (2 : Int32) then (bp (Mo_of (wr μ 34 2 (0 : Int32)) ((1974 : Int32) + zI x1)) fun r => some (r, wr μ 34 2 (0 : Int32))) else if zI x2 = (3 : Int32) then (bp (Mo_of (wr μ 34 2 (0 : Int32)) ((1968 : Int32) + zI x1)) fun r => some (r, wr μ 34 2 (0 : Int32))) else some ((-1 : Int32), wr μ 34 2 (0 : Int32)) := by
    rw [Mo_job, bnd_ap, if_neg z0, e44, bp_some, if_pos (by rw [zI_lt (by omega) (by omega) (by omega) (by omega)]; omega)]
  have q2 : ∀ v : Int, i32 v → (zI x2 = zI v) = (x2 = v) := fun v hv => zI_eq (by omega) (by omega) hv.1 hv.2
  by_cases v : 0 ≤ x2 ∧ x2 ≤ 3
  · have hj : x1.toNat < J.length := by omega
    have hJe : J[x1.toNat]? = some (J[x1.toNat]'hj) := List.getElem?_eq_getElem hj
    obtain ⟨c0, c1, c2, c3⟩ := hJC.2 _ _ hJe
    obtain ⟨m0, m1, m2, m3, m4⟩ := hJM.2.1 _ _ hJe
    have hmem : J[x1.toNat]'hj ∈ J := List.getElem_mem hj
    generalize J[x1.toNat]'hj = ej at *
    have x4 : zI x1 * (4 : Int32) = zI (4 * x1) := by rw [lz4, zI_mul, Int.mul_comm]
    have p : ∀ j : Nat, j < 4 → inb (zI (4 * x1) + zI (j : Int)) 24 ∧ ix (zI (4 * x1) + zI (j : Int)) = 4 * x1.toNat + j := fun j hj => by
      rw [zI_add, zI_inb (by omega) (by omega), zI_ix (by omega) (by omega)]
      exact ⟨⟨by omega, by omega⟩, by omega⟩
    have p0 : inb (zI (4 * x1)) 24 ∧ ix (zI (4 * x1)) = 4 * x1.toNat := by
      rw [zI_inb (by omega) (by omega), zI_ix (by omega) (by omega)]
      exact ⟨⟨by omega, by omega⟩, by omega⟩
    have p1 : inb (zI (4 * x1) + (1 : Int32)) 24 ∧ ix (zI (4 * x1) + (1 : Int32)) = 4 * x1.toNat + 1 := p 1 (by omega)
    have p2 : inb (zI (4 * x1) + (2 : Int32)) 24 ∧ ix (zI (4 * x1) + (2 : Int32)) = 4 * x1.toNat + 2 := p 2 (by omega)
    have p3 : inb (zI (4 * x1) + (3 : Int32)) 24 ∧ ix (zI (4 * x1) + (3 : Int32)) = 4 * x1.toNat + 3 := p 3 (by omega)
    have tl : Wo_tellJob M (M w) (zI x1) (zI x2) = if zI x2 = (0 : Int32) then some (zI ej.2.1) else if zI x2 = (1 : Int32) then some (zI ej.2.2.1) else if zI x2 = (2 : Int32) then (bp (De_leftToDo (M w) (zI ej.1)) fun r => some r) else some (zI ej.2.2.2.1) := by
      rw [Wo_tellJob, if_neg z0, if_pos (by rw [zI_lit, zI_lt (by omega) (by omega) (by omega) (by omega)]; omega), x4, bnd_ap, if_pos p0.1, if_pos p1.1, if_pos p2.1, if_pos p3.1, p0.2, p1.2, p2.2, p3.2, c0, c1, c2, c3]
    have mm : ∀ o : Int, 0 ≤ o → o < 2000 → Mo_of (wr μ 34 2 (0 : Int32)) (zI o + zI x1) = some (zI (B (o.toNat + x1.toNat))) := fun o o1 o2 => by
      rw [zI_add, of (o + x1) (by omega) (by omega), show (o + x1).toNat = o.toNat + x1.toNat by omega]
    have m56 : Mo_of (wr μ 34 2 (0 : Int32)) ((1956 : Int32) + zI x1) = some (zI ej.2.1) := by rw [← m1]; exact mm 1956 (by omega) (by omega)
    have m62 : Mo_of (wr μ 34 2 (0 : Int32)) ((1962 : Int32) + zI x1) = some (zI ej.2.2.1) := by rw [← m2]; exact mm 1962 (by omega) (by omega)
    have m74 : Mo_of (wr μ 34 2 (0 : Int32)) ((1974 : Int32) + zI x1) = some (zI (ej.2.2.2.2.length : Int)) := by rw [← m4]; exact mm 1974 (by omega) (by omega)
    have m68 : Mo_of (wr μ 34 2 (0 : Int32)) ((1968 : Int32) + zI x1) = some (zI ej.2.2.2.1) := by rw [← m3]; exact mm 1968 (by omega) (by omega)
    rw [if_neg (by rw [zI_lit, zI_lt (by omega) (by omega) (by omega) (by omega)]; omega), if_pos (by rw [zI_lit, zI_le (by omega) (by omega) (by omega) (by omega)]; omega), tl, c_left hW hC hJ (by omega) hmem, bp_some] at cl
    rw [m56, m62, m74, m68, bp_some, bp_some, bp_some, bp_some] at mo
    rw [cl, mo]
    have : x2 = 0 ∨ x2 = 1 ∨ x2 = 2 ∨ x2 = 3 := by omega
    rcases this with rfl | rfl | rfl | rfl
    · exact ⟨_, _, rfl, rfl, inv_wr hI 0⟩
    · exact ⟨_, _, rfl, rfl, inv_wr hI 0⟩
    · exact ⟨_, _, rfl, rfl, inv_wr hI 0⟩
    · exact ⟨_, _, rfl, rfl, inv_wr hI 0⟩
  · refine bad _ _ ?_ ?_
    · rw [cl]
      by_cases u : x2 < 0
      · rw [if_pos (by rw [zI_lit, zI_lt (by omega) (by omega) (by omega) (by omega)]; omega)]
      · rw [if_neg (by rw [zI_lit, zI_lt (by omega) (by omega) (by omega) (by omega)]; omega), if_neg (by rw [zI_lit, zI_le (by omega) (by omega) (by omega) (by omega)]; omega)]
    · rw [mo, if_neg (by rw [show (0 : Int32) = zI 0 from rfl, q2 0 ⟨by omega, by omega⟩]; omega), if_neg (by rw [show (1 : Int32) = zI 1 from rfl, q2 1 ⟨by omega, by omega⟩]; omega), if_neg (by rw [show (2 : Int32) = zI 2 from rfl, q2 2 ⟨by omega, by omega⟩]; omega), if_neg (by rw [show (3 : Int32) = zI 3 from rfl, q2 3 ⟨by omega, by omega⟩]; omega)]
end
