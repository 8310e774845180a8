/-! ===== jobs: the relation ===== -/
abbrev Jb : Type := Int × Int × Int × Int × List Nat
def JE (A : Ab) (e : Jb) (N : Int) : Prop := 0 < e.1 ∧ e.1 ≤ N ∧ (0 ≤ e.2.1 ∧ e.2.1 < 6) ∧ (0 ≤ e.2.2.1 ∧ e.2.2.1 < 32) ∧ (1 ≤ e.2.2.2.1 ∧ e.2.2.2.1 ≤ 7) ∧ e.2.2.2.2 ≠ [] ∧ e.2.2.2.2.Pairwise (fun a b => A.1 11 a < A.1 11 b) ∧ ∀ x, x ∈ e.2.2.2.2 ↔ Lv A x ∧ A.1 10 x = e.1
def P1 (A : Ab) : Prop := ∀ x, Lv A x → A.1 10 x ≠ 0 → ∃ t, Lv A t ∧ bl A t x = true ∧ A.1 9 t = A.1 10 x
def P2 (A : Ab) : Prop := ∀ t u, Lv A t → Lv A u → A.1 9 t ≠ 0 → A.1 9 u ≠ 0 → bl A t u = true → A.1 9 t = A.1 9 u
def P3 (A : Ab) : Prop := ∀ x y, Lv A x → Lv A y → bl A x y = true → y ≠ x → A.1 10 x ≠ 0 → A.1 10 y = A.1 10 x → A.1 11 y < A.1 11 x
def P4 (A : Ab) : Prop := ∀ x, Lv A x → A.1 10 x ≠ 0 → A.1 3 x ≠ 0
def JT (A : Ab) (N : Int) : Prop := 0 ≤ N ∧ ∀ x, Lv A x → 0 ≤ A.1 9 x ∧ A.1 9 x ≤ N ∧ (A.1 10 x ≠ 0 → 0 ≤ A.1 11 x ∧ A.1 11 x < 192)
def JA (A : Ab) (J : List Jb) (N : Int) : Prop := (J.length ≤ 6 ∧ J.Pairwise (fun a b => a.1 < b.1) ∧ ∀ e, e ∈ J → JE A e N) ∧ (∀ x, Lv A x → A.1 10 x ≠ 0 → ∃ e, e ∈ J ∧ e.1 = A.1 10 x) ∧ JT A N ∧ P1 A ∧ P2 A ∧ P3 A ∧ P4 A
def jL (J : List Jb) : List Nat := J.flatMap (fun e => e.2.2.2.2)
def JC (δ : Sl) (J : List Jb) : Prop := δ 10 3 = zI (J.length : Int) ∧ ∀ (i : Nat) (e : Jb), J[i]? = some e → δ 11 (4 * i) = zI e.1 ∧ δ 11 (4 * i + 1) = zI e.2.1 ∧ δ 11 (4 * i + 2) = zI e.2.2.1 ∧ δ 11 (4 * i + 3) = zI e.2.2.2.1
def JM (B : Nat → Int) (J : List Jb) : Prop := B 1944 = (J.length : Int) ∧ (∀ (i : Nat) (e : Jb), J[i]? = some e → B (1950 + i) = e.1 ∧ B (1956 + i) = e.2.1 ∧ B (1962 + i) = e.2.2.1 ∧ B (1968 + i) = e.2.2.2.1 ∧ B (1974 + i) = (e.2.2.2.2.length : Int)) ∧ PS B 0 (jL J)
/-- nothing beneath what is free of tops is pending -/
theorem pf_of {n S : Nat} {A : Ab} {dep : Nat → Nat} (h : WF n S A dep) (h1 : P1 A) {d x : Nat} (hd : Lv A d) (hx : Lv A x) (hN : NTs A d) (hB : bsy A d = false) (hb : bl A d x = true) : A.1 10 x = 0 := by
  refine Classical.byContradiction fun hn => ?_
  obtain ⟨t, t1, t2, t3⟩ := h1 x hx hn
  have h9 : A.1 9 t ≠ 0 := by rw [t3]; exact hn
  rcases bl_cmp h hx hb t2 with c | c
  · exact h9 (hN t t1 c)
  · have := (bsy_iff h hd).mpr ⟨t, t1, c, h9⟩
    rw [hB] at this; cases this
theorem JA_cut {n S q : Nat} {t N : Int} {A A1 : Ab} {dep dep1 : Nat → Nat} {J : List Jb} (hq : q < 192) (h : WF n S A dep) (hd0 : ∀ d, cov A q = some d → NTs A d ∧ bsy A d = false) (hct : CT n S A A1 dep1 q t) (hJ : JA A J N) : JA A1 J N := by
  obtain ⟨hW1, c2, c3, c4, c5, c6, c7, c8⟩ := hct
  obtain ⟨⟨j1, j2, j3⟩, j4, j5, p1, p2, p3, p4⟩ := hJ
  have hold : ∀ x, Lv A1 x → A1.1 10 x ≠ 0 → Lv A x ∧ A.1 10 x = A1.1 10 x := fun x hx hn => by
    by_cases c : Lv A x
    · exact ⟨c, (c4 x 10 c (by omega)).symm⟩
    · exact absurd (c5 x hx c).2 hn
  have hold9 : ∀ x, Lv A1 x → A1.1 9 x ≠ 0 → Lv A x ∧ A.1 9 x = A1.1 9 x := fun x hx hn => by
    by_cases c : Lv A x
    · exact ⟨c, (c4 x 9 c (by omega)).symm⟩
    · exact absurd (c5 x hx c).1 hn
  have hnb : ∀ t, Lv A t → A.1 9 t ≠ 0 → ∀ d, cov A q = some d → bl A d t = false := fun t t1 t2 d hd => by
    cases hh : bl A d t with
    | false => rfl
    | true => exact absurd ((hd0 d hd).1 t t1 hh) t2
  have hnp : ∀ x, Lv A x → A.1 10 x ≠ 0 → ∀ d, cov A q = some d → bl A d x = false := fun x x1 x2 d hd => by
    cases hh : bl A d x with
    | false => rfl
    | true => exact absurd (pf_of h p1 (cs_some hq hd).1 x1 (hd0 d hd).1 (hd0 d hd).2 hh) x2
  refine ⟨⟨j1, j2, fun e he => ?_⟩, fun x hx hn => ?_, ⟨j5.1, fun x hx => ?_⟩, fun x hx hn => ?_, fun t u ht hu h1 h2 hb => ?_, fun x y hx hy hb hne h1 h2 => ?_, fun x hx hn => ?_⟩
  · obtain ⟨e1, e2, e3, e4, e5, e6, e7, e8⟩ := j3 e he
    refine ⟨e1, e2, e3, e4, e5, e6, ?_, fun x => ?_⟩
    · refine List.Pairwise.imp_of_mem (fun {a b} ha hb hab => ?_) e7
      rw [c4 a 11 ((e8 a).mp ha).1 (by omega), c4 b 11 ((e8 b).mp hb).1 (by omega)]; exact hab
    · rw [e8 x]
      constructor
      · rintro ⟨x1, x2⟩; exact ⟨c2 x x1, by rw [c4 x 10 x1 (by omega)]; exact x2⟩
      · rintro ⟨x1, x2⟩
        obtain ⟨y1, y2⟩ := hold x x1 (by omega)
        exact ⟨y1, by omega⟩
  · obtain ⟨y1, y2⟩ := hold x hx hn
    rw [← y2]; exact j4 x y1 (by omega)
  · by_cases c : Lv A x
    · rw [c4 x 9 c (by omega), c4 x 10 c (by omega), c4 x 11 c (by omega)]; exact j5.2 x c
    · obtain ⟨z1, z2⟩ := c5 x hx c
      rw [z1, z2]; exact ⟨by omega, j5.1, fun z => absurd rfl z⟩
  · obtain ⟨y1, y2⟩ := hold x hx hn
    obtain ⟨t, t1, t2, t3⟩ := p1 x y1 (by omega)
    have h9 : A.1 9 t ≠ 0 := by omega
    exact ⟨t, c2 t t1, by rw [c6 t x t1 y1 (hnb t t1 h9)]; exact t2, by rw [c4 t 9 t1 (by omega), t3, y2]⟩
  · obtain ⟨y1, y2⟩ := hold9 t ht h1
    obtain ⟨z1, z2⟩ := hold9 u hu h2
    rw [c6 t u y1 z1 (hnb t y1 (by omega))] at hb
    rw [← y2, ← z2]; exact p2 t u y1 z1 (by omega) (by omega) hb
  · obtain ⟨y1, y2⟩ := hold x hx h1
    obtain ⟨z1, z2⟩ := hold y hy (by omega)
    rw [c6 x y y1 z1 (hnp x y1 (by omega))] at hb
    rw [c4 y 11 z1 (by omega), c4 x 11 y1 (by omega)]
    exact p3 x y y1 z1 hb hne (by omega) (by omega)
  · obtain ⟨y1, y2⟩ := hold x hx hn
    have := p4 x y1 (by omega)
    rw [Ne, c8 x y1]; exact this
/-! the order of what is listed -/
def OrdL (A : Ab) (l : List Nat) : Prop := ∀ (D : List Nat) (z : Nat) (l' : List Nat), l = D ++ z :: l' → ∀ y, Lv A y → bl A z y = true → y ≠ z → y ∈ D
theorem OrdL_app {A : Ab} {l1 l2 : List Nat} (h1 : OrdL A l1) (h2 : OrdL A l2) : OrdL A (l1 ++ l2) := by
  intro D z l' e y hy hb hne
  rcases List.append_eq_append_iff.mp e with ⟨a, e1, e2⟩ | ⟨c, e1, e2⟩
  · have := h2 a z l' e2 y hy hb hne
    rw [e1]; simp [this]
  · cases c with
    | nil =>
      simp at e2
      have := h2 [] z l' (by rw [← e2]; rfl) y hy hb hne
      simp at this
    | cons c0 c =>
      simp at e2
      obtain ⟨rfl, -⟩ := e2
      exact h1 D z c e1 y hy hb hne
theorem OrdL_flat {A : Ab} {f : Nat → List Nat} : ∀ (l : List Nat), (∀ x, x ∈ l → OrdL A (f x)) → OrdL A (l.flatMap f)
  | [], _ => by intro D z l' e; simp at e
  | x :: l, h => by
    simp only [List.flatMap_cons]
    exact OrdL_app (h x (by simp)) (OrdL_flat l (fun y hy => h y (by simp [hy])))
theorem OrdL_pst {n S : Nat} {A : Ab} {dep : Nat → Nat} (h : WF n S A dep) : ∀ (m x : Nat), Lv A x → dep x + m = 191 → OrdL A (pst A m x) := by
  intro m
  induction m with
  | zero =>
    intro x hx hd D z l' e y hy hb hne
    have hm := pst_mem h 0 x hx hd y
    simp only [pst] at e hm
    cases D with
    | nil =>
      simp at e
      obtain ⟨rfl, -⟩ := e
      have := hm.mpr ⟨hy, hb⟩
      simp at this; exact absurd this hne
    | cons a D => simp at e
  | succ m ih =>
    intro x hx hd
    simp only [pst]
    have hf : OrdL A ((A.2 x).flatMap (pst A m)) := OrdL_flat _ (fun k hk => by
      have := kid_ne h hx hk
      exact ih k this.1 (by omega))
    have hm := pst_mem h (m + 1) x hx hd
    intro D z l' e y hy hb hne
    rcases List.append_eq_append_iff.mp e with ⟨a, e1, e2⟩ | ⟨c, e1, e2⟩
    · cases a with
      | nil =>
        simp at e2
        obtain ⟨rfl, -⟩ := e2
        have := (hm y).mpr ⟨hy, hb⟩
        simp only [pst, List.mem_append, List.mem_singleton] at this
        rcases this with z | z
        · rw [e1]; simpa using z
        · exact absurd z hne
      | cons a0 a => simp at e2
    · cases c with
      | nil =>
        simp at e2
        obtain ⟨rfl, -⟩ := e2
        have := (hm y).mpr ⟨hy, hb⟩
        simp only [pst, List.mem_append, List.mem_singleton] at this
        rcases this with z | z
        · rw [e1] at z; simpa using z
        · exact absurd z hne
      | cons c0 c =>
        simp at e2
        obtain ⟨rfl, -⟩ := e2
        exact hf D _ c e1 y hy hb hne
/-- what lies beneath one that is listed is listed ahead of it -/
def DC (A : Ab) (acc : List Nat) : Prop := acc.Nodup ∧ ∀ x, x ∈ acc → ∀ y, Lv A y → bl A x y = true → y ≠ x → y ∈ acc ∧ acc.idxOf y < acc.idxOf x
theorem DC_snoc {A : Ab} {acc : List Nat} (h : DC A acc) {z : Nat} (hz : z ∉ acc) (hb : ∀ y, Lv A y → bl A z y = true → y ≠ z → y ∈ acc) : DC A (acc ++ [z]) := by
  refine ⟨List.nodup_append.mpr ⟨h.1, by simp, fun a ha b hb e => ?_⟩, fun x hx y hy hbl hne => ?_⟩
  · simp at hb; subst hb; subst e; exact hz ha
  · rcases List.mem_append.mp hx with hx | hx
    · obtain ⟨a1, a2⟩ := h.2 x hx y hy hbl hne
      exact ⟨by simp [a1], by rw [List.idxOf_append, if_pos a1, List.idxOf_append, if_pos hx]; exact a2⟩
    · simp at hx; subst hx
      have a1 := hb y hy hbl hne
      refine ⟨by simp [a1], ?_⟩
      rw [List.idxOf_append, if_pos a1, List.idxOf_append, if_neg hz]
      have := List.idxOf_lt_length_of_mem a1
      omega
theorem DC_fold {n S : Nat} {A : Ab} {dep : Nat → Nat} (h : WF n S A dep) {x m : Nat} {v2 : Int32} (hx : Lv A x) (hm : dep x + m = 191) : ∀ (l D acc : List Nat), D ++ l = pst A m x → DC A acc → (∀ y, y ∈ D → y ≠ x → y ∈ acc) → DC A (l.foldl (qS v2 x) acc) := by
  have hord := OrdL_pst h m x hx hm
  have hmem := pst_mem h m x hx hm
  intro l
  induction l with
  | nil => intro D acc _ hd _; exact hd
  | cons z l ih =>
    intro D acc e hd hin
    have hz : Lv A z ∧ bl A x z = true := (hmem z).mp (by rw [← e]; simp)
    have hbz : ∀ y, Lv A y → bl A z y = true → y ≠ z → y ∈ acc := fun y hy hb hne => by
      refine hin y (hord D z l e.symm y hy hb hne) (fun ex => ?_)
      rw [ex] at hb hy
      exact hne (ex.trans (bl_anti h hz.1 hz.2 hb))
    have hs : DC A (qS v2 x acc z) ∧ (∀ y, y ∈ acc → y ∈ qS v2 x acc z) ∧ (z ≠ x → z ∈ qS v2 x acc z) := by
      unfold qS adl
      by_cases c1 : v2 = 0 ∧ z = x
      · rw [if_pos c1]; exact ⟨hd, fun y hy => hy, fun hne => absurd c1.2 hne⟩
      · rw [if_neg c1]
        by_cases c2 : z ∈ acc
        · rw [if_pos c2]; exact ⟨hd, fun y hy => hy, fun _ => c2⟩
        · rw [if_neg c2]; exact ⟨DC_snoc hd c2 hbz, fun y hy => by simp [hy], fun _ => by simp⟩
    refine ih (D ++ [z]) _ (by rw [← e]; simp) hs.1 (fun y hy hne => ?_)
    rcases List.mem_append.mp hy with hy | hy
    · exact hs.2.1 y (hin y hy hne)
    · simp at hy; subst hy; exact hs.2.2 hne
theorem DC_lqs {n S : Nat} {A : Ab} {dep : Nat → Nat} (h : WF n S A dep) (v2 : Int32) : ∀ (T acc : List Nat), (∀ x, x ∈ T → Lv A x) → DC A acc → DC A (lqs A dep v2 T acc)
  | [], _, _, hd => hd
  | x :: T, acc, hT, hd => by
    have hx := hT x (by simp)
    have := dep_lt h hx
    exact DC_lqs h v2 T _ (fun y hy => hT y (by simp [hy])) (DC_fold h hx (m := 191 - dep x) (by omega) _ [] acc rfl hd (fun y hy => by simp at hy))
theorem idx_pair : ∀ (l : List Nat), l.Nodup → l.Pairwise (fun a b => (l.idxOf a : Int) < (l.idxOf b : Int)) := by
  intro l hl
  rw [List.pairwise_iff_getElem]
  intro i j hi hj hij
  have e1 : l.idxOf l[i] = i := hl.idxOf_getElem i hi
  have e2 : l.idxOf l[j] = j := hl.idxOf_getElem j hj
  rw [e1, e2]; omega
theorem JA_flush {n S : Nat} {A : Ab} {dep : Nat → Nat} {J : List Jb} {N s p r : Int} {T : List Nat} {v4 : Int32} (h : WF n S A dep) (hJ : JA A J N) (h6 : J.length < 6) (hT : ∀ x, x ∈ T → Lv A x ∧ NTs A x ∧ bsy A x = false) (hs : 0 ≤ s ∧ s < 6) (hp : 0 ≤ p ∧ p < 32) (hr : 1 ≤ r ∧ r ≤ 7) (hL : lqs A dep v4 T [] ≠ []) (hroot : v4 ≠ 0 → ∀ x, x ∈ T → A.1 3 x ≠ 0) :
    JA (aF A (N + 1) T (lqs A dep v4 T [])) (J ++ [(N + 1, s, p, r, lqs A dep v4 T [])]) (N + 1) := by
  obtain ⟨⟨j1, j2, j3⟩, j4, ⟨j50, j5⟩, p1, p2, p3, p4⟩ := hJ
  have hdc := DC_lqs h v4 T [] (fun x hx => (hT x hx).1) ⟨by simp, fun x hx => by simp at hx⟩
  have hmem : ∀ z, z ∈ lqs A dep v4 T [] → ∃ x, x ∈ T ∧ Lv A z ∧ bl A x z = true ∧ ¬ (v4 = 0 ∧ z = x) := fun z hz => by
    rcases lqs_mem h T [] (fun x hx => (hT x hx).1) z hz with c | c
    · simp at c
    · exact c
  generalize hLd : lqs A dep v4 T [] = L at *
  have hz10 : ∀ z, z ∈ L → A.1 10 z = 0 := fun z hz => by
    obtain ⟨x, x1, x2, x3, -⟩ := hmem z hz
    exact pf_of h p1 (hT x x1).1 x2 (hT x x1).2.1 (hT x x1).2.2 x3
  have hlv : ∀ x, Lv (aF A (N + 1) T L) x ↔ Lv A x := FC_lv (aF_FC A (N + 1) T L)
  have hbl : ∀ d x, bl (aF A (N + 1) T L) d x = bl A d x := FC_bl (aF_FC A (N + 1) T L)
  have hle : ∀ e, e ∈ J → e.1 ≤ N := fun e he => (j3 e he).2.1
  have hnj : ∀ x, Lv A x → A.1 10 x ≠ N + 1 := fun x hx e => by
    obtain ⟨e1, e2, e3⟩ := j4 x hx (by omega)
    have := hle e1 e2; omega
  have hT9 : ∀ x, x ∈ T → A.1 9 x = 0 := fun x hx => (hT x hx).2.1 x (hT x hx).1 (bl_self A x)
  have hlen : L.length ≤ 192 := len192 hdc.1 (fun z hz => by obtain ⟨x, x1, x2, x3, -⟩ := hmem z hz; exact x2.1)
  refine ⟨⟨by simp; omega, ?_, fun e he => ?_⟩, fun x hx hn => ?_, ⟨by omega, fun x hx => ?_⟩, fun x hx hn => ?_, fun t u ht hu h1 h2 hb => ?_, fun x y hx hy hb hne h1 h2 => ?_, fun x hx hn => ?_⟩
  · rw [List.pairwise_append]
    refine ⟨j2, by simp, fun a ha b hb => ?_⟩
    simp at hb; subst hb
    have := hle a ha
    show a.1 < N + 1
    omega
  · rcases List.mem_append.mp he with he | he
    · obtain ⟨e1, e2, e3, e4, e5, e6, e7, e8⟩ := j3 e he
      have hnL : ∀ x, x ∈ e.2.2.2.2 → x ∉ L := fun x hx hx2 => by
        have := ((e8 x).mp hx).2
        have := hz10 x hx2
        omega
      refine ⟨e1, by omega, e3, e4, e5, e6, ?_, fun x => ?_⟩
      · refine List.Pairwise.imp_of_mem (fun {a b} ha hb hab => ?_) e7
        rw [aF_11, aF_11, if_neg (hnL a ha), if_neg (hnL b hb)]; exact hab
      · rw [e8 x, hlv, aF_10]
        by_cases c : x ∈ L
        · rw [if_pos c]
          have := hz10 x c
          exact ⟨fun z => by omega, fun z => by omega⟩
        · rw [if_neg c]
    · simp at he; subst he
      refine ⟨by show 0 < N + 1; omega, by show N + 1 ≤ N + 1; omega, hs, hp, hr, hL, ?_, fun x => ?_⟩
      · show L.Pairwise _
        refine List.Pairwise.imp_of_mem (fun {a b} ha hb hab => ?_) (idx_pair L hdc.1)
        rw [aF_11, aF_11, if_pos ha, if_pos hb]; exact hab
      · show x ∈ L ↔ Lv (aF A (N + 1) T L) x ∧ (aF A (N + 1) T L).1 10 x = N + 1
        rw [hlv, aF_10]
        by_cases c : x ∈ L
        · rw [if_pos c]
          obtain ⟨y, y1, y2, y3, -⟩ := hmem x c
          exact ⟨fun _ => ⟨y2, rfl⟩, fun _ => c⟩
        · rw [if_neg c]
          exact ⟨fun z => absurd z c, fun z => absurd z.2 (hnj x z.1)⟩
  · rw [aF_10] at hn ⊢
    by_cases c : x ∈ L
    · rw [if_pos c]; exact ⟨(N + 1, s, p, r, L), by simp, rfl⟩
    · rw [if_neg c] at hn ⊢
      obtain ⟨e, e1, e2⟩ := j4 x ((hlv x).mp hx) hn
      exact ⟨e, by simp [e1], e2⟩
  · have hx' := (hlv x).mp hx
    obtain ⟨a1, a2, a3⟩ := j5 x hx'
    rw [aF_9, aF_10, aF_11]
    refine ⟨by split <;> omega, by split <;> omega, fun z => ?_⟩
    by_cases c : x ∈ L
    · rw [if_pos c]
      have := List.idxOf_lt_length_of_mem c
      omega
    · rw [if_neg c] at z ⊢; exact a3 z
  · rw [aF_10] at hn ⊢
    have hx' := (hlv x).mp hx
    by_cases c : x ∈ L
    · rw [if_pos c]
      obtain ⟨t, t1, t2, t3, -⟩ := hmem x c
      exact ⟨t, (hlv t).mpr (hT t t1).1, by rw [hbl]; exact t3, by rw [aF_9, if_pos t1]⟩
    · rw [if_neg c] at hn ⊢
      obtain ⟨t, t1, t2, t3⟩ := p1 x hx' hn
      refine ⟨t, (hlv t).mpr t1, by rw [hbl]; exact t2, ?_⟩
      rw [aF_9, if_neg (fun z => by have := hT9 t z; omega)]; exact t3
  · have ht' := (hlv t).mp ht
    have hu' := (hlv u).mp hu
    rw [hbl] at hb
    rw [aF_9] at h1 h2 ⊢
    rw [aF_9]
    by_cases c1 : t ∈ T
    · by_cases c2 : u ∈ T
      · rw [if_pos c1, if_pos c2]
      · rw [if_neg c2] at h2
        exact absurd ((hT t c1).2.1 u hu' hb) h2
    · rw [if_neg c1] at h1
      by_cases c2 : u ∈ T
      · have := (bsy_iff h hu').mpr ⟨t, ht', hb, h1⟩
        rw [(hT u c2).2.2] at this; cases this
      · rw [if_neg c2] at h2
        rw [if_neg c1, if_neg c2]
        exact p2 t u ht' hu' h1 h2 hb
  · have hx' := (hlv x).mp hx
    have hy' := (hlv y).mp hy
    rw [hbl] at hb
    rw [aF_10] at h1 h2
    rw [aF_10] at h2
    rw [aF_11, aF_11]
    by_cases c : x ∈ L
    · obtain ⟨d1, d2⟩ := hdc.2 x c y hy' hb hne
      rw [if_pos c, if_pos d1]; omega
    · rw [if_neg c] at h1 h2
      have c2 : y ∉ L := fun z => by
        rw [if_pos z] at h2
        exact hnj x hx' h2.symm
      rw [if_neg c2] at h2
      rw [if_neg c, if_neg c2]
      exact p3 x y hx' hy' hb hne h1 h2
  · have hx' := (hlv x).mp hx
    rw [(aF_FC A (N + 1) T L).2 3 x (by omega)]
    rw [aF_10] at hn
    by_cases c : x ∈ L
    · obtain ⟨t, t1, t2, t3, t4⟩ := hmem x c
      intro h0
      rw [bl_root h0] at t3
      simp at t3
      subst t3
      exact hroot (fun z => t4 ⟨z, rfl⟩) x t1 h0
    · rw [if_neg c] at hn
      exact p4 x hx' hn
