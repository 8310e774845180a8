/-! ===== lists by pointers (an id + 1; 0: none) ===== -/
def hd1 (l : List Nat) : Int := match l with
  | [] => 0
  | x :: _ => (x : Int) + 1
def ls1 (l : List Nat) : Int := match l.getLast? with
  | none => 0
  | some x => (x : Int) + 1
theorem hd1_nil : hd1 [] = 0 := rfl
theorem hd1_cons (x : Nat) (l : List Nat) : hd1 (x :: l) = (x : Int) + 1 := rfl
theorem hd1_app {l : List Nat} (h : l ≠ []) (m : List Nat) : hd1 (l ++ m) = hd1 l := by
  cases l with
  | nil => exact absurd rfl h
  | cons x l => rfl
theorem hd1_0 {l : List Nat} : hd1 l = 0 ↔ l = [] := by
  cases l with
  | nil => simp [hd1]
  | cons x l => simp [hd1]; omega
theorem hd1_nn (l : List Nat) : 0 ≤ hd1 l := by
  cases l with
  | nil => simp [hd1]
  | cons x l => simp [hd1]; omega
theorem hd1_mem {l : List Nat} {x : Nat} (h : hd1 l = (x : Int) + 1) : x ∈ l := by
  cases l with
  | nil => simp [hd1] at h; omega
  | cons y l => simp [hd1] at h; have : y = x := by omega
                simp [this]
theorem ls1_nil : ls1 [] = 0 := rfl
theorem ls1_snoc (l : List Nat) (x : Nat) : ls1 (l ++ [x]) = (x : Int) + 1 := by simp [ls1]
theorem ls1_app {m : List Nat} (h : m ≠ []) (l : List Nat) : ls1 (l ++ m) = ls1 m := by
  have : (l ++ m).getLast? = m.getLast? := by rw [List.getLast?_append]; cases hm : m.getLast? with
    | none => simp at hm; exact absurd hm h
    | some z => simp
  unfold ls1; rw [this]
theorem ls1_one (x : Nat) : ls1 [x] = (x : Int) + 1 := rfl
theorem ls1_0 {l : List Nat} : ls1 l = 0 ↔ l = [] := by
  rcases List.eq_nil_or_concat l with rfl | ⟨m, x, rfl⟩
  · simp [ls1]
  · simp [ls1]; omega
theorem ls1_nn (l : List Nat) : 0 ≤ ls1 l := by
  rcases List.eq_nil_or_concat l with rfl | ⟨m, x, rfl⟩
  · simp [ls1]
  · simp [ls1]; omega
theorem ls1_mem {l : List Nat} {x : Nat} (h : ls1 l = (x : Int) + 1) : ∃ m, l = m ++ [x] := by
  rcases List.eq_nil_or_concat l with rfl | ⟨m, y, rfl⟩
  · simp [ls1] at h; omega
  · simp [ls1] at h; have : y = x := by omega
    exact ⟨m, by simp [this]⟩
theorem ls1_in {l : List Nat} {x : Nat} (h : ls1 l = (x : Int) + 1) : x ∈ l := by
  obtain ⟨m, rfl⟩ := ls1_mem h; simp
theorem split_last {l l1 l2 : List Nat} {h x : Nat} (e : l ++ [h] = l1 ++ x :: l2) : (l2 = [] ∧ x = h ∧ l1 = l) ∨ ∃ m, l2 = m ++ [h] ∧ l = l1 ++ x :: m := by
  rcases List.eq_nil_or_concat l2 with rfl | ⟨m, y, rfl⟩
  · left
    have := List.append_inj' e rfl
    simp at this
    exact ⟨rfl, this.2.symm, this.1.symm⟩
  · right
    have e2 : l ++ [h] = (l1 ++ x :: m) ++ [y] := by rw [e]; simp
    have := List.append_inj' e2 rfl
    simp at this
    exact ⟨m, by simp [this.2], this.1⟩
theorem split_two {a b l1 l2 : List Nat} {x : Nat} (e : a ++ b = l1 ++ x :: l2) : (∃ t, a = l1 ++ x :: t ∧ l2 = t ++ b) ∨ ∃ t, l1 = a ++ t ∧ b = t ++ x :: l2 := by
  rcases List.append_eq_append_iff.mp e with ⟨t, h1, h2⟩ | ⟨t, h1, h2⟩
  · exact .inr ⟨t, h1, h2⟩
  · cases t with
    | nil => right; exact ⟨[], by simp at h1; simp [h1], by simp at h2; simp [h2]⟩
    | cons y t => simp at h2; left; exact ⟨t, by rw [h1, h2.1], h2.2⟩
def Lk (F L N P : Nat → Int) (V : Nat → Prop) (K : Nat → List Nat) : Prop :=
  ∀ g, V g → F g = hd1 (K g) ∧ L g = ls1 (K g) ∧ ∀ l1 h l2, K g = l1 ++ h :: l2 → N h = hd1 l2 ∧ P h = ls1 l1
def KV (V : Nat → Prop) (K : Nat → List Nat) : Prop :=
  (∀ g, V g → (K g).Nodup ∧ ∀ h, h ∈ K g → V h) ∧ ∀ g g' h, V g → V g' → h ∈ K g → h ∈ K g' → g = g'
def upK (K : Nat → List Nat) (g : Nat) (l : List Nat) : Nat → List Nat := fun x => if x = g then l else K x
theorem upK_at (K : Nat → List Nat) (g : Nat) (l : List Nat) : upK K g l g = l := if_pos rfl
theorem upK_ne (K : Nat → List Nat) {g x : Nat} (l : List Nat) (h : x ≠ g) : upK K g l x = K x := if_neg h
theorem Lk_app {F L N P F' L' N' P' : Nat → Int} {V : Nat → Prop} {K : Nat → List Nat} (hK : KV V K) (h : Lk F L N P V K) {g c : Nat} (hg : V g) (hc : ∀ x, V x → c ∉ K x)
    (eF : ∀ x, V x → F' x = if x = g ∧ L g = 0 then (c : Int) + 1 else F x) (eL : ∀ x, V x → L' x = if x = g then (c : Int) + 1 else L x)
    (eN : ∀ x, V x ∨ x = c → N' x = if x = c then 0 else if (x : Int) + 1 = L g then (c : Int) + 1 else N x) (eP : ∀ x, V x ∨ x = c → P' x = if x = c then L g else P x) :
    Lk F' L' N' P' V (upK K g (K g ++ [c])) := by
  intro x hx
  obtain ⟨f1, f2, f3⟩ := h x hx
  obtain ⟨g1, g2, g3⟩ := h g hg
  by_cases q : x = g
  · subst q
    rw [upK_at, eF x hx, eL x hx, if_pos rfl, ls1_snoc]
    refine ⟨?_, rfl, ?_⟩
    · by_cases hl : K x = []
      · rw [if_pos ⟨rfl, by rw [f2, hl]; rfl⟩, hl]; rfl
      · rw [if_neg (fun z => hl (ls1_0.mp (f2 ▸ z.2))), f1, hd1_app hl]
    · intro l1 y l2 e
      rcases split_last e with ⟨rfl, rfl, rfl⟩ | ⟨m, rfl, e2⟩
      · rw [eN y (.inr rfl), eP y (.inr rfl), if_pos rfl, if_pos rfl]; exact ⟨rfl, f2⟩
      · have hyc : y ≠ c := fun z => hc x hx (by rw [e2, z]; simp)
        have hyv : V y := (hK.1 x hx).2 y (by rw [e2]; simp)
        rw [eN y (.inl hyv), eP y (.inl hyv), if_neg hyc, if_neg hyc]
        refine ⟨?_, (f3 l1 y m e2).2⟩
        by_cases hm : m = []
        · subst hm
          rw [if_pos (by rw [f2, e2, ls1_snoc])]; rfl
        · rw [if_neg, (f3 l1 y m e2).1, hd1_app hm]
          intro z
          rw [f2, e2, show l1 ++ y :: m = (l1 ++ [y]) ++ m by simp, ls1_app hm] at z
          have := ls1_in z.symm
          have hn := (hK.1 x hx).1
          rw [e2] at hn
          exact (List.nodup_cons.mp (List.nodup_append.mp hn).2.1).1 this
  · rw [upK_ne K _ q, eF x hx, eL x hx, if_neg (fun z => q z.1), if_neg q]
    refine ⟨f1, f2, fun l1 y l2 e => ?_⟩
    have hyk : y ∈ K x := by rw [e]; simp
    have hyc : y ≠ c := fun z => hc x hx (z ▸ hyk)
    have hyv : V y := (hK.1 x hx).2 y hyk
    rw [eN y (.inl hyv), eP y (.inl hyv), if_neg hyc, if_neg hyc, if_neg]
    · exact f3 l1 y l2 e
    · intro z
      rw [g2] at z
      exact q (hK.2 x g y hx hg hyk (ls1_in z.symm))
theorem Lk_take {F L N P F' L' N' P' : Nat → Int} {V : Nat → Prop} {K : Nat → List Nat} (hK : KV V K) (h : Lk F L N P V K) {g c : Nat} {a b : List Nat} (hg : V g) (hc : K g = a ++ c :: b)
    (eF : ∀ x, V x → F' x = if x = g ∧ P c = 0 then N c else F x) (eL : ∀ x, V x → L' x = if x = g ∧ N c = 0 then P c else L x)
    (eN : ∀ x, V x → x ≠ c → N' x = if (x : Int) + 1 = P c then N c else N x) (eP : ∀ x, V x → x ≠ c → P' x = if (x : Int) + 1 = N c then P c else P x) :
    Lk F' L' N' P' V (upK K g (a ++ b)) := by
  obtain ⟨g1, g2, g3⟩ := h g hg
  obtain ⟨n1, n2⟩ := g3 a c b hc
  have hnd := (hK.1 g hg).1
  rw [hc] at hnd
  have hd1' := List.nodup_append.mp hnd
  have hd2 := List.nodup_cons.mp hd1'.2.1
  have hab : ∀ z, z ∈ a → z ∈ b → False := fun z h1 h2 => hd1'.2.2 z h1 z (by simp [h2]) rfl
  have hca : c ∉ a := fun z => hd1'.2.2 c z c (by simp) rfl
  rw [n1, n2] at eF eL eN eP
  intro x hx
  obtain ⟨f1, f2, f3⟩ := h x hx
  by_cases q : x = g
  · subst q
    rw [upK_at, eF x hx, eL x hx]
    refine ⟨?_, ?_, ?_⟩
    · by_cases ha : a = []
      · subst ha; rw [if_pos ⟨rfl, rfl⟩]; rfl
      · rw [if_neg (fun z => ha (ls1_0.mp z.2)), f1, hc, hd1_app ha, hd1_app ha]
    · by_cases hb : b = []
      · subst hb; rw [if_pos ⟨rfl, rfl⟩]; simp
      · rw [if_neg (fun z => hb (hd1_0.mp z.2)), f2, hc, show a ++ c :: b = (a ++ [c]) ++ b by simp, ls1_app hb, ls1_app hb]
    · intro l1 y l2 e
      rcases split_two e with ⟨t, rfl, rfl⟩ | ⟨t, rfl, rfl⟩
      · have hyv : V y := (hK.1 x hx).2 y (by rw [hc]; simp)
        have hyc : y ≠ c := fun z => hca (by simp [z])
        rw [eN y hyv hyc, eP y hyv hyc]
        have f4 := f3 l1 y (t ++ c :: b) (by rw [hc]; simp)
        refine ⟨?_, ?_⟩
        · by_cases ht : t = []
          · subst ht; rw [if_pos (by rw [ls1_snoc])]; rfl
          · rw [if_neg, f4.1, hd1_app ht, hd1_app ht]
            intro z
            rw [show l1 ++ y :: t = (l1 ++ [y]) ++ t by simp, ls1_app ht] at z
            exact (List.nodup_cons.mp (List.nodup_append.mp hd1'.1).2.1).1 (ls1_in z.symm)
        · rw [if_neg, f4.2]
          intro z
          exact hab y (by simp) (hd1_mem z.symm)
      · have hyv : V y := (hK.1 x hx).2 y (by rw [hc]; simp)
        have hyc : y ≠ c := fun z => hd2.1 (by simp [z])
        rw [eN y hyv hyc, eP y hyv hyc]
        have f4 := f3 (a ++ c :: t) y l2 (by rw [hc]; simp)
        refine ⟨?_, ?_⟩
        · rw [if_neg, f4.1]
          intro z
          exact hab y (ls1_in z.symm) (by simp)
        · by_cases ht : t = []
          · subst ht; rw [if_pos (by rfl)]; simp
          · rw [if_neg, f4.2, show a ++ c :: t = (a ++ [c]) ++ t by simp, ls1_app ht, ls1_app ht]
            intro z
            rw [hd1_app ht] at z
            have := hd1_mem z.symm
            exact (List.nodup_append.mp hd2.2).2.2 y this y (by simp) rfl
  · have hyg : ∀ y, y ∈ K x → y ∉ K g := fun y h1 h2 => q (hK.2 x g y hx hg h1 h2)
    rw [upK_ne K _ q, eF x hx, eL x hx, if_neg (fun z => q z.1), if_neg (fun z => q z.1)]
    refine ⟨f1, f2, fun l1 y l2 e => ?_⟩
    have hyk : y ∈ K x := by rw [e]; simp
    have hyv : V y := (hK.1 x hx).2 y hyk
    have hyc : y ≠ c := fun z => hyg y hyk (by rw [hc, z]; simp)
    rw [eN y hyv hyc, eP y hyv hyc, if_neg, if_neg]
    · exact f3 l1 y l2 e
    · intro z; exact hyg y hyk (by rw [hc]; have := hd1_mem z.symm; simp [this])
    · intro z; exact hyg y hyk (by rw [hc]; have := ls1_in z.symm; simp [this])
theorem Lk_ins {F L N P F' L' N' P' : Nat → Int} {V : Nat → Prop} {K : Nat → List Nat} (hK : KV V K) (h : Lk F L N P V K) {g c u : Nat} {a b : List Nat} (hg : V g) (hc : K g = a ++ c :: b) (hu : ∀ x, V x → u ∉ K x)
    (eF : ∀ x, V x → F' x = F x) (eL : ∀ x, V x → L' x = if x = g ∧ N c = 0 then (u : Int) + 1 else L x)
    (eN : ∀ x, V x ∨ x = u → N' x = if x = u then N c else if x = c then (u : Int) + 1 else N x) (eP : ∀ x, V x ∨ x = u → P' x = if x = u then (c : Int) + 1 else if (x : Int) + 1 = N c then (u : Int) + 1 else P x) :
    Lk F' L' N' P' V (upK K g (a ++ c :: u :: b)) := by
  obtain ⟨g1, g2, g3⟩ := h g hg
  obtain ⟨n1, n2⟩ := g3 a c b hc
  have hnd := (hK.1 g hg).1
  rw [hc] at hnd
  have hd1' := List.nodup_append.mp hnd
  have hd2 := List.nodup_cons.mp hd1'.2.1
  have hab : ∀ z, z ∈ a → z ∈ b → False := fun z h1 h2 => hd1'.2.2 z h1 z (by simp [h2]) rfl
  have hca : c ∉ a := fun z => hd1'.2.2 c z c (by simp) rfl
  have hug := hu g hg
  rw [n1] at eL eN eP
  intro x hx
  obtain ⟨f1, f2, f3⟩ := h x hx
  by_cases q : x = g
  · subst q
    rw [upK_at, eF x hx, eL x hx]
    refine ⟨?_, ?_, ?_⟩
    · rw [f1, hc]
      cases a with
      | nil => rfl
      | cons z a => rfl
    · by_cases hb : b = []
      · subst hb; rw [if_pos ⟨rfl, rfl⟩, show a ++ [c, u] = (a ++ [c]) ++ [u] by simp, ls1_snoc]
      · rw [if_neg (fun z => hb (hd1_0.mp z.2)), f2, hc, show a ++ c :: b = (a ++ [c]) ++ b by simp, show a ++ c :: u :: b = (a ++ [c, u]) ++ b by simp, ls1_app hb, ls1_app hb]
    · intro l1 y l2 e
      rcases split_two e with ⟨t, rfl, rfl⟩ | ⟨t, rfl, e2⟩
      · have hyv : V y := (hK.1 x hx).2 y (by rw [hc]; simp)
        have hyc : y ≠ c := fun z => hca (by simp [z])
        have hyu : y ≠ u := fun z => hug (by rw [hc]; simp [z])
        rw [eN y (.inl hyv), eP y (.inl hyv), if_neg hyu, if_neg hyc, if_neg hyu, if_neg]
        · have f4 := f3 l1 y (t ++ c :: b) (by rw [hc]; simp)
          refine ⟨?_, f4.2⟩
          rw [f4.1]; cases t <;> rfl
        · intro z; exact hab y (by simp) (hd1_mem z.symm)
      · cases t with
        | nil =>
          simp at e2
          obtain ⟨rfl, rfl⟩ := e2
          have hyu : c ≠ u := fun z => hug (by rw [hc]; simp [z])
          have hyv : V c := (hK.1 x hx).2 c (by rw [hc]; simp)
          rw [eN c (.inl hyv), eP c (.inl hyv), if_neg hyu, if_pos rfl, if_neg hyu, if_neg]
          · exact ⟨rfl, by simp [n2]⟩
          · intro z; exact hd2.1 (hd1_mem z.symm)
        | cons z0 t =>
          simp at e2
          obtain ⟨rfl, e2⟩ := e2
          cases t with
          | nil =>
            simp at e2
            obtain ⟨rfl, rfl⟩ := e2
            rw [eN u (.inr rfl), eP u (.inr rfl), if_pos rfl, if_pos rfl]
            exact ⟨rfl, by rw [ls1_snoc]⟩
          | cons z1 t =>
            simp at e2
            obtain ⟨rfl, rfl⟩ := e2
            have hyv : V y := (hK.1 x hx).2 y (by rw [hc]; simp)
            have hyc : y ≠ c := fun z => hd2.1 (by simp [z])
            have hyu : y ≠ u := fun z => hug (by rw [hc]; simp [z])
            have f4 := f3 (a ++ c :: t) y l2 (by rw [hc]; simp)
            rw [eN y (.inl hyv), eP y (.inl hyv), if_neg hyu, if_neg hyc, if_neg hyu]
            refine ⟨f4.1, ?_⟩
            by_cases ht : t = []
            · subst ht; rw [if_pos (by rfl), show a ++ [c, u] = (a ++ [c]) ++ [u] by simp, ls1_snoc]
            · rw [if_neg, f4.2, show a ++ c :: t = (a ++ [c]) ++ t by simp, show a ++ c :: u :: t = (a ++ [c, u]) ++ t by simp, ls1_app ht, ls1_app ht]
              intro z
              rw [hd1_app ht] at z
              have := hd1_mem z.symm
              exact (List.nodup_append.mp hd2.2).2.2 y this y (by simp) rfl
  · have hyg : ∀ y, y ∈ K x → y ∉ K g := fun y h1 h2 => q (hK.2 x g y hx hg h1 h2)
    rw [upK_ne K _ q, eF x hx, eL x hx, if_neg (fun z => q z.1)]
    refine ⟨f1, f2, fun l1 y l2 e => ?_⟩
    have hyk : y ∈ K x := by rw [e]; simp
    have hyv : V y := (hK.1 x hx).2 y hyk
    have hyc : y ≠ c := fun z => hyg y hyk (by rw [hc, z]; simp)
    have hyu : y ≠ u := fun z => hu x hx (z ▸ hyk)
    rw [eN y (.inl hyv), eP y (.inl hyv), if_neg hyu, if_neg hyc, if_neg hyu, if_neg]
    · exact f3 l1 y l2 e
    · intro z; exact hyg y hyk (by rw [hc]; have := hd1_mem z.symm; simp [this])
