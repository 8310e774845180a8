/-! ===== a deed and all beneath it, each behind its heirs ===== -/
def pst (A : Ab) : Nat → Nat → List Nat
  | 0, x => [x]
  | n + 1, x => (A.2 x).flatMap (pst A n) ++ [x]
def dp (A : Ab) : Nat → Nat → Nat
  | 0, x => x
  | n + 1, x => match A.2 x with
    | [] => x
    | h :: _ => dp A n h
def Pth (R : Nat → Nat → Prop) : List Nat → Prop
  | [] => True
  | [_] => True
  | x :: y :: l => R x y ∧ Pth R (y :: l)
theorem Pth_app {R : Nat → Nat → Prop} : ∀ (l m : List Nat), Pth R l → Pth R m → (∀ x y, l.getLast? = some x → m.head? = some y → R x y) → Pth R (l ++ m)
  | [], m, _, h2, _ => h2
  | [x], [], h1, _, _ => h1
  | [x], y :: m, _, h2, h3 => ⟨h3 x y rfl rfl, h2⟩
  | x :: y :: l, m, h1, h2, h3 => ⟨h1.1, Pth_app (y :: l) m h1.2 h2 (fun a b ha hb => h3 a b (by simpa using ha) hb)⟩
theorem pst_last (A : Ab) (n x : Nat) : ∃ l, pst A n x = l ++ [x] := by
  cases n with
  | zero => exact ⟨[], rfl⟩
  | succ n => exact ⟨_, rfl⟩
theorem pst_head (A : Ab) : ∀ (n x : Nat), (pst A n x).head? = some (dp A n x) := by
  intro n
  induction n with
  | zero => intro x; rfl
  | succ n ih =>
    intro x
    simp only [pst, dp]
    cases h : A.2 x with
    | nil => simp
    | cons y l =>
      simp only [List.flatMap_cons, List.append_assoc]
      rw [List.head?_append, ih y]; simp
theorem pst_mem {n S : Nat} {A : Ab} {dep : Nat → Nat} (h : WF n S A dep) : ∀ (m x : Nat), Lv A x → dep x + m = 191 → ∀ y, y ∈ pst A m x ↔ Lv A y ∧ bl A x y = true := by
  intro m
  induction m with
  | zero =>
    intro x hx hd y
    constructor
    · intro hy; simp [pst] at hy; subst hy; exact ⟨hx, bl_self A y⟩
    · rintro ⟨hy, hb⟩
      have := bl_dep h (dep y) y (Nat.le_refl _) hy hb
      have := dep_lt h hy
      simp [pst]; omega
  | succ m ih =>
    intro x hx hd y
    simp only [pst, List.mem_append, List.mem_flatMap]
    constructor
    · rintro (⟨k, hk, hy⟩ | hy)
      · have hkk := kid_ne h hx hk
        obtain ⟨y1, y2⟩ := (ih k hkk.1 (by omega) y).mp hy
        refine ⟨y1, ?_⟩
        have key : ∀ (c z : Nat), dep z ≤ c → Lv A z → bl A k z = true → bl A x z = true := by
          intro c
          induction c with
          | zero =>
            intro z hz hl hb
            have := bl_dep h (dep z) z (Nat.le_refl _) hl hb; omega
          | succ c ihc =>
            intro z hz hl hb
            rcases gv_or h hl with ⟨g1, -⟩ | ⟨g, g1, g2, g3⟩
            · rw [bl_root g1] at hb; simp at hb; subst hb; omega
            · rw [bl_step h k hl g1] at hb
              simp at hb
              rw [bl_step h x hl g1]
              rcases hb with e | hb
              · have : g = x := by rw [e] at g1; omega
                rw [this, bl_self]; simp
              · rw [ihc g (by omega) g2 hb]; simp
        exact key (dep y) y (Nat.le_refl _) y1 y2
      · simp at hy; subst hy; exact ⟨hx, bl_self A y⟩
    · rintro ⟨hy, hb⟩
      by_cases e : y = x
      · right; simp [e]
      · left
        have key : ∀ (c z : Nat), dep z ≤ c → Lv A z → z ≠ x → bl A x z = true → ∃ k, k ∈ A.2 x ∧ bl A k z = true := by
          intro c
          induction c with
          | zero =>
            intro z hz hl hne hb
            have := bl_dep h (dep z) z (Nat.le_refl _) hl hb; omega
          | succ c ihc =>
            intro z hz hl hne hb
            rcases gv_or h hl with ⟨g1, -⟩ | ⟨g, g1, g2, g3⟩
            · rw [bl_root g1] at hb; simp at hb; exact absurd hb hne
            · rw [bl_step h x hl g1] at hb
              simp at hb
              rcases hb with e | hb
              · exact absurd e hne
              · by_cases gx : g = x
                · subst gx; exact ⟨z, (gv_live h hl g1).2.1, bl_self A z⟩
                · obtain ⟨k, k1, k2⟩ := ihc g (by omega) g2 gx hb
                  exact ⟨k, k1, by rw [bl_step h k hl g1, k2]; simp⟩
        obtain ⟨k, k1, k2⟩ := key (dep y) y (Nat.le_refl _) hy e hb
        have hkk := kid_ne h hx k1
        exact ⟨k, k1, (ih k hkk.1 (by omega) y).mpr ⟨hy, k2⟩⟩
/-- two above one: of one depth they are one -/
theorem bl_one {n S : Nat} {A : Ab} {dep : Nat → Nat} (h : WF n S A dep) : ∀ (c z a b : Nat), dep z ≤ c → Lv A z → bl A a z = true → bl A b z = true → dep a = dep b → a = b := by
  intro c
  induction c with
  | zero =>
    intro z a b hz hl h1 h2 hd
    rcases gv_or h hl with ⟨g1, -⟩ | ⟨g, g1, g2, g3⟩
    · rw [bl_root g1] at h1 h2; simp at h1 h2; omega
    · omega
  | succ c ih =>
    intro z a b hz hl h1 h2 hd
    have d1 := bl_dep h (dep z) z (Nat.le_refl _) hl h1
    have d2 := bl_dep h (dep z) z (Nat.le_refl _) hl h2
    rcases gv_or h hl with ⟨g1, -⟩ | ⟨g, g1, g2, g3⟩
    · rw [bl_root g1] at h1 h2; simp at h1 h2; omega
    · rw [bl_step h a hl g1] at h1
      rw [bl_step h b hl g1] at h2
      simp at h1 h2
      rcases h1 with e1 | h1 <;> rcases h2 with e2 | h2
      · omega
      · have := bl_dep h (dep g) g (Nat.le_refl _) g2 h2; subst e1; omega
      · have := bl_dep h (dep g) g (Nat.le_refl _) g2 h1; subst e2; omega
      · exact ih g a b (by omega) g2 h1 h2 hd
theorem nodup_flat {f : Nat → List Nat} : ∀ (l : List Nat), l.Nodup → (∀ x, x ∈ l → (f x).Nodup) → (∀ x y z, x ∈ l → y ∈ l → z ∈ f x → z ∈ f y → x = y) → (l.flatMap f).Nodup
  | [], _, _, _ => by simp
  | x :: l, h1, h2, h3 => by
    simp only [List.flatMap_cons]
    obtain ⟨a1, a2⟩ := List.nodup_cons.mp h1
    refine List.nodup_append.mpr ⟨h2 x (by simp), nodup_flat l a2 (fun y hy => h2 y (by simp [hy])) (fun y z w hy hz => h3 y z w (by simp [hy]) (by simp [hz])), fun a ha b hb e => ?_⟩
    subst e
    obtain ⟨y, hy, hay⟩ := List.mem_flatMap.mp hb
    have := h3 x y a (by simp) (by simp [hy]) ha hay
    subst this; exact a1 hy
theorem pst_nodup {n S : Nat} {A : Ab} {dep : Nat → Nat} (h : WF n S A dep) : ∀ (m x : Nat), Lv A x → dep x + m = 191 → (pst A m x).Nodup := by
  intro m
  induction m with
  | zero => intro x _ _; simp [pst]
  | succ m ih =>
    intro x hx hd
    simp only [pst]
    have hkid := fun {y : Nat} (hy : y ∈ A.2 x) => kid_ne h hx hy
    refine List.nodup_append.mpr ⟨nodup_flat _ (h.2.2.2.2.2.1 x hx).1 (fun y hy => ih y (hkid hy).1 (by have := (hkid hy).2.2.2; omega)) (fun y z w hy hz h1 h2 => ?_), by simp, fun a ha b hb e => ?_⟩
    · have e1 := (pst_mem h m y (hkid hy).1 (by have := (hkid hy).2.2.2; omega) w).mp h1
      have e2 := (pst_mem h m z (hkid hz).1 (by have := (hkid hz).2.2.2; omega) w).mp h2
      exact bl_one h (dep w) w y z (Nat.le_refl _) e1.1 e1.2 e2.2 (by rw [(hkid hy).2.2.2, (hkid hz).2.2.2])
    · simp at hb
      obtain ⟨y, hy, hay⟩ := List.mem_flatMap.mp ha
      have e1 := (pst_mem h m y (hkid hy).1 (by have := (hkid hy).2.2.2; omega) a).mp hay
      have := bl_dep h (dep a) a (Nat.le_refl _) e1.1 e1.2
      have := (hkid hy).2.2.2
      subst e; subst hb; omega
/-! the class walks -/
def TR (δ : Sl) (σ : Nat → Nat) (A : Ab) (d : Nat) : Prop := ∀ x, Lv A x → bl A d x = true → σ x < 192 ∧ δ 24 (σ x) = enc σ (hd1 (A.2 x)) ∧ ∀ a h b, A.2 x = a ++ h :: b → δ 26 (σ h) = enc σ (hd1 b) ∧ δ 23 (σ h) = zI (σ x : Int)
theorem c_deepest {n S : Nat} {A : Ab} {dep : Nat → Nat} {δ : Sl} {σ : Nat → Nat} {d : Nat} (h : WF n S A dep) (ht : TR δ σ A d) : ∀ (m k i x : Nat), Lv A x → bl A d x = true → dep x + m = 191 → m < k → i ≤ dep x → De_deepest_4 δ k (zI (σ x : Int)) (zI (i : Int)) = some (zI (σ (dp A m x) : Int)) := by
  intro m
  induction m with
  | zero =>
    intro k i x hx hb hd hk hi
    obtain ⟨c, rfl⟩ : ∃ c, k = c + 1 := ⟨k - 1, by omega⟩
    obtain ⟨t1, t2, t3⟩ := ht x hx hb
    have hnil : A.2 x = [] := by
      cases hl : A.2 x with
      | nil => rfl
      | cons y l =>
        have := kid_ne h hx (x := y) (by rw [hl]; simp)
        have := dep_lt h this.1
        omega
    rw [hnil, hd1_nil, enc_0] at t2
    rw [De_deepest_4]
    simp (disch := omega) only [zI_lit, zI_le, if_neg, zI_inb, if_pos, zI_ix, Int.toNat_natCast, t2, zI_lt, dp]
  | succ m ih =>
    intro k i x hx hb hd hk hi
    obtain ⟨c, rfl⟩ : ∃ c, k = c + 1 := ⟨k - 1, by omega⟩
    obtain ⟨t1, t2, t3⟩ := ht x hx hb
    cases hl : A.2 x with
    | nil =>
      rw [hl, hd1_nil, enc_0] at t2
      rw [De_deepest_4]
      simp (disch := omega) only [zI_lit, zI_le, if_neg, zI_inb, if_pos, zI_ix, Int.toNat_natCast, t2, zI_lt, dp, hl]
    | cons y l =>
      have hy := kid_ne h hx (x := y) (by rw [hl]; simp)
      have hby : bl A d y = true := by rw [bl_step h d hy.1 hy.2.1, hb]; simp
      have ty := (ht y hy.1 hby).1
      rw [hl, hd1_cons, enc_s] at t2
      have := ih c (i + 1) y hy.1 hby (by omega) (by omega) (by omega)
      rw [De_deepest_4]
      simp (disch := omega) only [zI_lit, zI_le, if_neg, zI_inb, if_pos, zI_ix, Int.toNat_natCast, t2, zI_lt, dp, hl, bnd_ap, zI_add]
      exact this
theorem c_path {n S : Nat} {A : Ab} {dep : Nat → Nat} {δ : Sl} {σ : Nat → Nat} {d : Nat} (h : WF n S A dep) (ht : TR δ σ A d) : ∀ (m x : Nat), Lv A x → bl A d x = true → dep x + m = 191 → Pth (fun a b => De_afterwards δ (zI (σ a : Int)) = some (zI (σ b : Int))) (pst A m x) := by
  intro m
  induction m with
  | zero => intro x _ _ _; trivial
  | succ m ih =>
    intro x hx hb hd
    have hkid := fun {y : Nat} (hy : y ∈ A.2 x) => kid_ne h hx hy
    have hbk : ∀ y, y ∈ A.2 x → bl A d y = true := fun y hy => by rw [bl_step h d (hkid hy).1 (hkid hy).2.1, hb]; simp
    obtain ⟨t1, t2, t3⟩ := ht x hx hb
    have key : ∀ (r a : List Nat), A.2 x = a ++ r → Pth (fun a b => De_afterwards δ (zI (σ a : Int)) = some (zI (σ b : Int))) (r.flatMap (pst A m) ++ [x]) ∧ (r.flatMap (pst A m) ++ [x]).head? = some (match r with
        | [] => x
        | y :: _ => dp A m y) := by
      intro r
      induction r with
      | nil => intro a _; exact ⟨trivial, rfl⟩
      | cons y r ihr =>
        intro a ha
        have hy : y ∈ A.2 x := by rw [ha]; simp
        have hyk := hkid hy
        obtain ⟨p1, p2⟩ := ihr (a ++ [y]) (by rw [ha]; simp)
        simp only [List.flatMap_cons, List.append_assoc]
        refine ⟨Pth_app _ _ (ih y hyk.1 (hbk y hy) (by omega)) p1 (fun u v hu hv => ?_), by rw [List.head?_append, pst_head]; rfl⟩
        obtain ⟨l, hl⟩ := pst_last A m y
        rw [hl] at hu; simp at hu; subst hu
        rw [p2] at hv; cases hv
        obtain ⟨n1, n2⟩ := t3 a y r ha
        have b1 := (ht y hyk.1 (hbk y hy)).1
        cases r with
        | nil =>
          rw [hd1_nil, enc_0] at n1
          simp (disch := omega) only [De_afterwards, zI_lit, zI_inb, if_pos, zI_ix, Int.toNat_natCast, n1, zI_lt, n2]
        | cons z r =>
          have hz : z ∈ A.2 x := by rw [ha]; simp
          have hzk := hkid hz
          have b2 := (ht z hzk.1 (hbk z hz)).1
          rw [hd1_cons, enc_s] at n1
          have hdz := c_deepest h ht m FU 0 z hzk.1 (hbk z hz) (by omega) (FU_gt (by omega)) (by omega)
          have e0 : De_deepest δ (zI (σ z : Int)) = some (zI (σ (dp A m z) : Int)) := hdz
          simp (disch := omega) only [De_afterwards, zI_lit, zI_inb, if_pos, if_neg, zI_ix, Int.toNat_natCast, n1, zI_lt, e0, bp_some]
    exact (key (A.2 x) [] rfl).1
