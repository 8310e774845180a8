/-! ===== a step of work, abstract ===== -/
theorem bl_c3 {A A' : Ab} (h : ∀ x, A'.1 3 x = A.1 3 x) (d x : Nat) : bl A' d x = bl A d x := by
  have key : ∀ (k x : Nat), onC A' d k x = onC A d k x := by
    intro k
    induction k with
    | zero => intro x; rfl
    | succ k ih => intro x; rw [onC_succ, onC_succ, h x, ih]
  exact key 192 x
def JE0 (A : Ab) (e : Jb) (N : Int) : Prop := 0 < e.1 ∧ e.1 ≤ N ∧ (0 ≤ e.2.1 ∧ e.2.1 < 6) ∧ (0 ≤ e.2.2.1 ∧ e.2.2.1 < 32) ∧ (1 ≤ e.2.2.2.1 ∧ e.2.2.2.1 ≤ 7) ∧ e.2.2.2.2.Pairwise (fun a b => A.1 11 a < A.1 11 b) ∧ ∀ x, x ∈ e.2.2.2.2 ↔ Lv A x ∧ A.1 10 x = e.1
def JA0 (A : Ab) (J : List Jb) (N : Int) : Prop := (J.length ≤ 6 ∧ J.Pairwise (fun a b => a.1 < b.1) ∧ ∀ e, e ∈ J → JE0 A e N) ∧ (∀ x, Lv A x → A.1 10 x ≠ 0 → ∃ e, e ∈ J ∧ e.1 = A.1 10 x) ∧ JT A N ∧ P1 A ∧ P2 A ∧ P3 A ∧ P4 A
theorem JA_0 {A : Ab} {J : List Jb} {N : Int} : JA A J N ↔ JA0 A J N ∧ ∀ e, e ∈ J → e.2.2.2.2 ≠ [] := by
  constructor
  · rintro ⟨⟨j1, j2, j3⟩, j4⟩
    exact ⟨⟨⟨j1, j2, fun e he => by obtain ⟨e1, e2, e3, e4, e5, e6, e7, e8⟩ := j3 e he; exact ⟨e1, e2, e3, e4, e5, e7, e8⟩⟩, j4⟩, fun e he => (j3 e he).2.2.2.2.2.1⟩
  · rintro ⟨⟨⟨j1, j2, j3⟩, j4⟩, j5⟩
    exact ⟨⟨j1, j2, fun e he => by obtain ⟨e1, e2, e3, e4, e5, e7, e8⟩ := j3 e he; exact ⟨e1, e2, e3, e4, e5, j5 e he, e7, e8⟩⟩, j4⟩
def aW1 (A : Ab) (x : Nat) (v : Int) : Ab := setA (setA A 10 x 0) 2 x v
theorem aW1_j {A : Ab} {x : Nat} {v : Int} {j y : Nat} (h1 : j ≠ 10) (h2 : j ≠ 2) : (aW1 A x v).1 j y = A.1 j y := by
  unfold aW1; rw [setA_ne _ _ (fun z => h2 z.1), setA_ne _ _ (fun z => h1 z.1)]
theorem aW1_10 {A : Ab} {x : Nat} {v : Int} {y : Nat} : (aW1 A x v).1 10 y = if y = x then 0 else A.1 10 y := by
  unfold aW1; rw [setA_ne _ _ (by omega)]
  show (if 10 = 10 ∧ y = x then 0 else A.1 10 y) = _
  simp
theorem aW1_lv {A : Ab} {x : Nat} {v : Int} (y : Nat) : Lv (aW1 A x v) y ↔ Lv A y := by
  unfold Lv; rw [aW1_j (by omega) (by omega)]
theorem aW1_bl {A : Ab} {x : Nat} {v : Int} (d y : Nat) : bl (aW1 A x v) d y = bl A d y := bl_c3 (fun z => aW1_j (by omega) (by omega)) d y
theorem aW1_WF {n S : Nat} {A : Ab} {dep : Nat → Nat} (h : WF n S A dep) {x : Nat} {v : Int} (h1 : 0 ≤ v) (h2 : v ≤ 7) : WF n S (aW1 A x v) dep :=
  WF_set (WF_set h 10 x 0 (.inr (.inr (by omega)))) 2 x v (.inl ⟨rfl, h1, h2⟩)
theorem pw_ne {A : Ab} {x : Nat} {L : List Nat} (h : (x :: L).Pairwise (fun a b => A.1 11 a < A.1 11 b)) : x ∉ L := fun z => by
  have := (List.pairwise_cons.mp h).1 x z
  omega
theorem JA_w1 {A : Ab} {N id s p r : Int} {x : Nat} {L : List Nat} {J : List Jb} {v : Int} (h : JA A ((id, s, p, r, x :: L) :: J) N) : JA0 (aW1 A x v) ((id, s, p, r, L) :: J) N ∧ (∀ e, e ∈ J → e.2.2.2.2 ≠ []) := by
  obtain ⟨⟨j1, j2, j3⟩, j4, ⟨j50, j5⟩, p1, p2, p3, p4⟩ := h
  obtain ⟨a1, a2⟩ := List.pairwise_cons.mp j2
  obtain ⟨e1, e2, e3, e4, e5, -, e7, e8⟩ := j3 _ (List.mem_cons_self ..)
  have e7' : (x :: L).Pairwise (fun a b => A.1 11 a < A.1 11 b) := e7
  have e8' : ∀ y, y ∈ x :: L ↔ Lv A y ∧ A.1 10 y = id := e8
  have e1' : 0 < id := e1
  have hnx := pw_ne e7'
  have hx := (e8' x).mp (by simp)
  have h11 : ∀ y, (aW1 A x v).1 11 y = A.1 11 y := fun y => aW1_j (by omega) (by omega)
  have h9 : ∀ y, (aW1 A x v).1 9 y = A.1 9 y := fun y => aW1_j (by omega) (by omega)
  have h3 : ∀ y, (aW1 A x v).1 3 y = A.1 3 y := fun y => aW1_j (by omega) (by omega)
  have hold : ∀ y, (aW1 A x v).1 10 y ≠ 0 → y ≠ x ∧ (aW1 A x v).1 10 y = A.1 10 y := fun y hy => by
    rw [aW1_10] at hy ⊢
    by_cases c : y = x
    · rw [if_pos c] at hy; exact absurd rfl hy
    · rw [if_neg c]; exact ⟨c, rfl⟩
  refine ⟨⟨⟨j1, ?_, fun e he => ?_⟩, fun y hy hn => ?_, ⟨j50, fun y hy => ?_⟩, fun y hy hn => ?_, fun t u ht hu h1 h2 hb => ?_, fun y z hy hz hb hne h1 h2 => ?_, fun y hy hn => ?_⟩, fun e he => (j3 e (List.mem_cons_of_mem _ he)).2.2.2.2.2.1⟩
  · exact List.pairwise_cons.mpr ⟨a1, a2⟩
  · rcases List.mem_cons.mp he with rfl | he
    · refine ⟨e1, e2, e3, e4, e5, ?_, fun y => ?_⟩
      · show L.Pairwise _
        simp only [h11]
        exact (List.pairwise_cons.mp e7').2
      · show y ∈ L ↔ Lv (aW1 A x v) y ∧ (aW1 A x v).1 10 y = id
        rw [aW1_lv, aW1_10]
        by_cases c : y = x
        · rw [if_pos c]
          exact ⟨fun z => absurd (c ▸ z) hnx, fun z => by omega⟩
        · rw [if_neg c, ← e8' y]; simp [c]
    · obtain ⟨f1, f2, f3, f4, f5, -, f7, f8⟩ := j3 e (List.mem_cons_of_mem _ he)
      have hid : id < e.1 := a1 e he
      refine ⟨f1, f2, f3, f4, f5, by simp only [h11]; exact f7, fun y => ?_⟩
      rw [f8 y, aW1_lv, aW1_10]
      by_cases c : y = x
      · rw [if_pos c, c]
        have := hx.2
        exact ⟨fun z => by omega, fun z => by omega⟩
      · rw [if_neg c]
  · obtain ⟨c1, c2⟩ := hold y hn
    rw [c2] at hn ⊢
    obtain ⟨e, g1, g2⟩ := j4 y ((aW1_lv y).mp hy) hn
    rcases List.mem_cons.mp g1 with rfl | g1
    · exact ⟨(id, s, p, r, L), by simp, g2⟩
    · exact ⟨e, by simp [g1], g2⟩
  · obtain ⟨b1, b2, b3⟩ := j5 y ((aW1_lv y).mp hy)
    rw [h9, h11]
    exact ⟨b1, b2, fun z => by obtain ⟨c1, c2⟩ := hold y z; rw [c2] at z; exact b3 z⟩
  · obtain ⟨c1, c2⟩ := hold y hn
    rw [c2] at hn ⊢
    obtain ⟨t, t1, t2, t3⟩ := p1 y ((aW1_lv y).mp hy) hn
    exact ⟨t, (aW1_lv t).mpr t1, by rw [aW1_bl]; exact t2, by rw [h9]; exact t3⟩
  · rw [h9] at h1 h2 ⊢
    rw [h9]
    rw [aW1_bl] at hb
    exact p2 t u ((aW1_lv t).mp ht) ((aW1_lv u).mp hu) h1 h2 hb
  · obtain ⟨c1, c2⟩ := hold y h1
    obtain ⟨c3, c4⟩ := hold z (by rw [h2]; exact h1)
    rw [aW1_bl] at hb
    rw [h11, h11]
    exact p3 y z ((aW1_lv y).mp hy) ((aW1_lv z).mp hz) hb hne (by rw [← c2]; exact h1) (by rw [← c2, ← c4]; exact h2)
  · obtain ⟨c1, c2⟩ := hold y hn
    rw [h3]; exact p4 y ((aW1_lv y).mp hy) (by rw [← c2]; exact hn)
/-- what goes takes nothing along that is to be done -/
theorem w_free {n S : Nat} {A : Ab} {dep : Nat → Nat} {N id s p r : Int} {x : Nat} {L : List Nat} {J : List Jb} {v : Int} (hW : WF n S A dep) (h : JA A ((id, s, p, r, x :: L) :: J) N) {y : Nat} (hy : Lv A y) (hb : bl A x y = true) : (aW1 A x v).1 10 y = 0 := by
  obtain ⟨⟨j1, j2, j3⟩, j4, ⟨j50, j5⟩, p1, p2, p3, p4⟩ := h
  obtain ⟨e1, e2, e3, e4, e5, -, e7, e8⟩ := j3 _ (List.mem_cons_self ..)
  have e7' : (x :: L).Pairwise (fun a b => A.1 11 a < A.1 11 b) := e7
  have e8' : ∀ y, y ∈ x :: L ↔ Lv A y ∧ A.1 10 y = id := e8
  have e1' : 0 < id := e1
  have hx := (e8' x).mp (by simp)
  rw [aW1_10]
  by_cases c : y = x
  · rw [if_pos c]
  · rw [if_neg c]
    refine Classical.byContradiction fun hn => ?_
    obtain ⟨t, t1, t2, t3⟩ := p1 y hy hn
    obtain ⟨u, u1, u2, u3⟩ := p1 x hx.1 (by omega)
    have hu2 := bl_trans hW hy u2 hb
    have hjob : A.1 10 y = id := by
      rcases bl_cmp hW hy t2 hu2 with k | k
      · have := p2 t u t1 u1 (by omega) (by omega) k
        omega
      · have := p2 u t u1 t1 (by omega) (by omega) k
        omega
    have h1 := p3 x y hx.1 hy hb c (by omega) (by omega)
    have h2 := (e8' y).mpr ⟨hy, hjob⟩
    rcases List.mem_cons.mp h2 with z | z
    · exact c z
    · have := (List.pairwise_cons.mp e7').1 y z
      omega
theorem JA_w2 {n S : Nat} {A : Ab} {dep : Nat → Nat} {N : Int} {x : Nat} {J : List Jb} (hW : WF n S A dep) (hx : Lv A x) (hf : ∀ y, Lv A y → bl A x y = true → A.1 10 y = 0) (h : JA0 A J N) : JA0 (aGo A x) J N := by
  obtain ⟨⟨j1, j2, j3⟩, j4, ⟨j50, j5⟩, p1, p2, p3, p4⟩ := h
  have hj : ∀ {j y : Nat}, j ≠ 0 → (aGo A x).1 j y = A.1 j y := fun h => aGo_j h
  have hbl : ∀ d y, bl (aGo A x) d y = bl A d y := bl_c3 (fun z => hj (by omega))
  have hlv : ∀ {y}, Lv (aGo A x) y → Lv A y := fun h => (aGo_lv.mp h).1
  have hkeep : ∀ y, Lv A y → A.1 10 y ≠ 0 → Lv (aGo A x) y := fun y hy hn => aGo_lv.mpr ⟨hy, by
    cases c : bl A x y with
    | false => rfl
    | true => exact absurd (hf y hy c) hn⟩
  refine ⟨⟨j1, j2, fun e he => ?_⟩, fun y hy hn => ?_, ⟨j50, fun y hy => ?_⟩, fun y hy hn => ?_, fun t u ht hu h1 h2 hb => ?_, fun y z hy hz hb hne h1 h2 => ?_, fun y hy hn => ?_⟩
  · obtain ⟨f1, f2, f3, f4, f5, f7, f8⟩ := j3 e he
    refine ⟨f1, f2, f3, f4, f5, ?_, fun y => ?_⟩
    · refine List.Pairwise.imp_of_mem (fun {a b} ha hb hab => ?_) f7
      rw [hj (by omega), hj (by omega)]; exact hab
    · rw [f8 y, hj (by omega)]
      exact ⟨fun z => ⟨hkeep y z.1 (by omega), z.2⟩, fun z => ⟨hlv z.1, z.2⟩⟩
  · rw [hj (by omega)] at hn ⊢; exact j4 y (hlv hy) hn
  · rw [hj (by omega), hj (by omega), hj (by omega)]; exact j5 y (hlv hy)
  · rw [hj (by omega)] at hn ⊢
    obtain ⟨t, t1, t2, t3⟩ := p1 y (hlv hy) hn
    refine ⟨t, aGo_lv.mpr ⟨t1, ?_⟩, by rw [hbl]; exact t2, by rw [hj (by omega)]; exact t3⟩
    cases c : bl A x t with
    | false => rfl
    | true =>
      have := bl_trans hW (hlv hy) c t2
      rw [(aGo_lv.mp hy).2] at this; cases this
  · rw [hj (by omega)] at h1 h2 ⊢
    rw [hj (by omega)]
    rw [hbl] at hb
    exact p2 t u (hlv ht) (hlv hu) h1 h2 hb
  · rw [hj (by omega)] at h1 h2 ⊢
    rw [hj (by omega)] at h2 ⊢
    rw [hbl] at hb
    exact p3 y z (hlv hy) (hlv hz) hb hne h1 h2
  · rw [hj (by omega)] at hn ⊢; exact p4 y (hlv hy) hn
theorem JA_w3 {A : Ab} {N id s p r : Int} {J : List Jb} (h : JA0 A ((id, s, p, r, []) :: J) N) : JA0 (aE A id) J N := by
  obtain ⟨⟨j1, j2, j3⟩, j4, ⟨j50, j5⟩, p1, p2, p3, p4⟩ := h
  obtain ⟨a1, a2⟩ := List.pairwise_cons.mp j2
  obtain ⟨e1, e2, e3, e4, e5, e7, e8⟩ := j3 _ (List.mem_cons_self ..)
  have e8' : ∀ y, y ∈ ([] : List Nat) ↔ Lv A y ∧ A.1 10 y = id := e8
  have hno : ∀ y, Lv A y → A.1 10 y ≠ id := fun y hy c => by have := (e8' y).mpr ⟨hy, c⟩; simp at this
  have hj : ∀ {j y : Nat}, j ≠ 9 → (aE A id).1 j y = A.1 j y := fun h => aE_ne A id h
  have hbl : ∀ d y, bl (aE A id) d y = bl A d y := bl_c3 (fun z => hj (by omega))
  have hlv : ∀ y, Lv (aE A id) y ↔ Lv A y := fun y => by unfold Lv; rw [hj (by omega)]
  have h9 : ∀ y, (aE A id).1 9 y ≠ 0 → (aE A id).1 9 y = A.1 9 y := fun y hy => by
    rw [aE_9] at hy ⊢
    by_cases c : A.1 9 y = id
    · rw [if_pos c] at hy; exact absurd rfl hy
    · rw [if_neg c]
  refine ⟨⟨by simp at j1; omega, a2, fun e he => ?_⟩, fun y hy hn => ?_, ⟨j50, fun y hy => ?_⟩, fun y hy hn => ?_, fun t u ht hu h1 h2 hb => ?_, fun y z hy hz hb hne h1 h2 => ?_, fun y hy hn => ?_⟩
  · obtain ⟨f1, f2, f3, f4, f5, f7, f8⟩ := j3 e (List.mem_cons_of_mem _ he)
    refine ⟨f1, f2, f3, f4, f5, ?_, fun y => ?_⟩
    · refine List.Pairwise.imp_of_mem (fun {a b} ha hb hab => ?_) f7
      rw [hj (by omega), hj (by omega)]; exact hab
    · rw [f8 y, hj (by omega), hlv]
  · rw [hj (by omega)] at hn ⊢
    obtain ⟨e, g1, g2⟩ := j4 y ((hlv y).mp hy) hn
    rcases List.mem_cons.mp g1 with rfl | g1
    · exact absurd g2.symm (hno y ((hlv y).mp hy))
    · exact ⟨e, g1, g2⟩
  · obtain ⟨b1, b2, b3⟩ := j5 y ((hlv y).mp hy)
    rw [hj (j := 10) (by omega), hj (j := 11) (by omega), aE_9]
    exact ⟨by split <;> omega, by split <;> omega, b3⟩
  · rw [hj (by omega)] at hn ⊢
    obtain ⟨t, t1, t2, t3⟩ := p1 y ((hlv y).mp hy) hn
    refine ⟨t, (hlv t).mpr t1, by rw [hbl]; exact t2, ?_⟩
    rw [aE_9, if_neg (by rw [t3]; exact hno y ((hlv y).mp hy))]; exact t3
  · have k1 := h9 t h1
    have k2 := h9 u h2
    rw [hbl] at hb
    rw [k1] at h1
    rw [k2] at h2
    rw [k1, k2]
    exact p2 t u ((hlv t).mp ht) ((hlv u).mp hu) h1 h2 hb
  · rw [hj (by omega)] at h1 h2 ⊢
    rw [hj (by omega)] at h2 ⊢
    rw [hbl] at hb
    exact p3 y z ((hlv y).mp hy) ((hlv z).mp hz) hb hne h1 h2
  · rw [hj (by omega)] at hn ⊢; exact p4 y ((hlv y).mp hy) hn
