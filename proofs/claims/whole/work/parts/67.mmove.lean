/-! ===== the reference: a deed goes over ===== -/
theorem Lk_ren {F L N P F' L' N' P' : Nat → Int} {V V' : Nat → Prop} {K : Nat → List Nat} (hK : KV V K) (h : Lk F L N P V K) {d e g : Nat} {a c : List Nat} (hd : V d) (he : ¬ V e) (hV' : ∀ x, V' x → x = e ∨ (V x ∧ x ≠ d)) (hg : V g) (hgd : g ≠ d) (hac : K g = a ++ d :: c)
    (eF : ∀ x, V x → x ≠ d → F' x = if x = g ∧ P d = 0 then (e : Int) + 1 else F x) (eFe : F' e = F d) (eL : ∀ x, V x → x ≠ d → L' x = if x = g ∧ N d = 0 then (e : Int) + 1 else L x) (eLe : L' e = L d)
    (eN : ∀ x, V x → x ≠ d → N' x = if (x : Int) + 1 = P d then (e : Int) + 1 else N x) (eNe : N' e = N d) (eP : ∀ x, V x → x ≠ d → P' x = if (x : Int) + 1 = N d then (e : Int) + 1 else P x) (ePe : P' e = P d) :
    Lk F' L' N' P' V' (fun x => if x = e then K d else if x = g then a ++ e :: c else K x) := by
  obtain ⟨g1, g2, g3⟩ := h g hg
  obtain ⟨n1, n2⟩ := g3 a d c hac
  have hge : g ≠ e := fun z => he (z ▸ hg)
  have hnd := (hK.1 g hg).1
  rw [hac] at hnd
  have hda := List.nodup_append.mp hnd
  have hdc := List.nodup_cons.mp hda.2.1
  have hcomp : ∀ y, y ∈ a → y ∈ c → False := fun y h1 h2 => hda.2.2 y h1 y (by simp [h2]) rfl
  have hdn : ∀ x, V x → x ≠ g → d ∉ K x := fun x hx hxg hm => hxg (hK.2 x g d hx hg hm (by rw [hac]; simp))
  have other : ∀ x, V x → x ≠ g → ∀ y, y ∈ K x → y ∉ K g := fun x hx hxg y h1 h2 => hxg (hK.2 x g y hx hg h1 h2)
  rw [n1] at eL eP eNe
  rw [n2] at eF eN ePe
  have plain : ∀ x, V x → x ≠ g → ∀ l1 y l2, K x = l1 ++ y :: l2 → N' y = hd1 l2 ∧ P' y = ls1 l1 := fun x hx hxg l1 y l2 el => by
    have hy : y ∈ K x := by rw [el]; simp
    have hyv := (hK.1 x hx).2 y hy
    have hyd : y ≠ d := fun z => hdn x hx hxg (z ▸ hy)
    have hyg := other x hx hxg y hy
    rw [eN y hyv hyd, eP y hyv hyd, if_neg, if_neg]
    · exact (h x hx).2.2 l1 y l2 el
    · intro z; exact hyg (by rw [hac]; have := hd1_mem z.symm; simp [this])
    · intro z; exact hyg (by rw [hac]; have := ls1_in z.symm; simp [this])
  intro x hx
  dsimp only
  rcases hV' x hx with rfl | ⟨hx1, hxd⟩
  · rw [if_pos rfl, eFe, eLe]
    obtain ⟨f1, f2, f3⟩ := h d hd
    exact ⟨f1, f2, plain d hd (Ne.symm hgd)⟩
  · have hxe : x ≠ e := fun z => he (z ▸ hx1)
    rw [if_neg hxe]
    by_cases q : x = g
    · subst q
      rw [if_pos rfl, eF x hx1 hxd, eL x hx1 hxd]
      refine ⟨?_, ?_, fun l1 y l2 el => ?_⟩
      · by_cases ha : a = []
        · subst ha; rw [if_pos ⟨rfl, rfl⟩]; rfl
        · rw [if_neg (fun z => ha (ls1_0.mp z.2)), g1, hac, hd1_app ha, hd1_app ha]
      · by_cases hc : c = []
        · subst hc; rw [if_pos ⟨rfl, rfl⟩, ls1_snoc]
        · rw [if_neg (fun z => hc (hd1_0.mp z.2)), g2, hac, show a ++ d :: c = (a ++ [d]) ++ c by simp, show a ++ e :: c = (a ++ [e]) ++ c by simp, ls1_app hc, ls1_app hc]
      · rcases split_two el with ⟨t, rfl, rfl⟩ | ⟨t, rfl, e2⟩
        · have hyv := (hK.1 x hx1).2 y (by rw [hac]; simp)
          have hyd : y ≠ d := fun z => hda.2.2 y (by simp) d (by simp) z
          have f4 := g3 l1 y (t ++ d :: c) (by rw [hac]; simp)
          rw [eN y hyv hyd, eP y hyv hyd]
          refine ⟨?_, ?_⟩
          · by_cases ht : t = []
            · subst ht; rw [if_pos (by rw [ls1_snoc])]; rfl
            · rw [if_neg, f4.1, hd1_app ht, hd1_app ht]
              intro z
              rw [show l1 ++ y :: t = (l1 ++ [y]) ++ t by simp, ls1_app ht] at z
              exact (List.nodup_cons.mp (List.nodup_append.mp hda.1).2.1).1 (ls1_in z.symm)
          · rw [if_neg, f4.2]
            intro z; exact hcomp y (by simp) (hd1_mem z.symm)
        · cases t with
          | nil =>
            simp at e2
            obtain ⟨rfl, rfl⟩ := e2
            rw [eNe, ePe]; exact ⟨rfl, by simp⟩
          | cons z0 t =>
            simp at e2
            obtain ⟨rfl, rfl⟩ := e2
            have hyv := (hK.1 x hx1).2 y (by rw [hac]; simp)
            have hyd : y ≠ d := fun z => hdc.1 (by simp [z])
            have f4 := g3 (a ++ d :: t) y l2 (by rw [hac]; simp)
            rw [eN y hyv hyd, eP y hyv hyd]
            refine ⟨?_, ?_⟩
            · rw [if_neg, f4.1]
              intro z; exact hcomp y (ls1_in z.symm) (by simp)
            · by_cases ht : t = []
              · subst ht; rw [if_pos (by rfl), ls1_snoc]
              · rw [if_neg, f4.2, show a ++ d :: t = (a ++ [d]) ++ t by simp, show a ++ e :: t = (a ++ [e]) ++ t by simp, ls1_app ht, ls1_app ht]
                intro z
                rw [hd1_app ht] at z
                exact (List.nodup_append.mp hdc.2).2.2 y (hd1_mem z.symm) y (by simp) rfl
    · rw [if_neg q, eF x hx1 hxd, eL x hx1 hxd, if_neg (fun z => q z.1), if_neg (fun z => q z.1)]
      obtain ⟨f1, f2, f3⟩ := h x hx1
      exact ⟨f1, f2, plain x hx1 q⟩
theorem Lk_ren0 {F L N P F' L' N' P' : Nat → Int} {V V' : Nat → Prop} {K : Nat → List Nat} (hK : KV V K) (h : Lk F L N P V K) {d e : Nat} (hd : V d) (he : ¬ V e) (hV' : ∀ x, V' x → x = e ∨ (V x ∧ x ≠ d)) (hdn : ∀ x, V x → d ∉ K x)
    (eF : ∀ x, V x → x ≠ d → F' x = F x) (eFe : F' e = F d) (eL : ∀ x, V x → x ≠ d → L' x = L x) (eLe : L' e = L d) (eN : ∀ x, V x → x ≠ d → N' x = N x) (eP : ∀ x, V x → x ≠ d → P' x = P x) :
    Lk F' L' N' P' V' (fun x => if x = e then K d else K x) := by
  have plain : ∀ x, V x → ∀ l1 y l2, K x = l1 ++ y :: l2 → N' y = hd1 l2 ∧ P' y = ls1 l1 := fun x hx l1 y l2 el => by
    have hy : y ∈ K x := by rw [el]; simp
    have hyv := (hK.1 x hx).2 y hy
    have hyd : y ≠ d := fun z => hdn x hx (z ▸ hy)
    rw [eN y hyv hyd, eP y hyv hyd]; exact (h x hx).2.2 l1 y l2 el
  intro x hx
  dsimp only
  rcases hV' x hx with rfl | ⟨hx1, hxd⟩
  · rw [if_pos rfl, eFe, eLe]; exact ⟨(h d hd).1, (h d hd).2.1, plain d hd⟩
  · rw [if_neg (show x ≠ e from fun z => he (z ▸ hx1)), eF x hx1 hxd, eL x hx1 hxd]
    exact ⟨(h x hx1).1, (h x hx1).2.1, plain x hx1⟩
theorem lnk_ren {B : Nat → Int} {e g : Nat} {p n : Int} (he : e < 192) (hg : g < 192) (hp0 : 0 ≤ p) (hp1 : p ≤ 192) (hn0 : 0 ≤ n) (hn1 : n ≤ 192) (hpe : p ≠ (e : Int) + 1) (hne : n ≠ (e : Int) + 1) :
    (∀ x, x < 192 → lnk (lnk B p ((e : Int) + 1) ((g : Int) + 1)) ((e : Int) + 1) n ((g : Int) + 1) (768 + x) = if x = g ∧ p = 0 then (e : Int) + 1 else B (768 + x)) ∧
    (∀ x, x < 192 → lnk (lnk B p ((e : Int) + 1) ((g : Int) + 1)) ((e : Int) + 1) n ((g : Int) + 1) (960 + x) = if x = g ∧ n = 0 then (e : Int) + 1 else B (960 + x)) ∧
    (∀ x, x < 192 → lnk (lnk B p ((e : Int) + 1) ((g : Int) + 1)) ((e : Int) + 1) n ((g : Int) + 1) (1344 + x) = if x = e then n else if (x : Int) + 1 = p then (e : Int) + 1 else B (1344 + x)) ∧
    (∀ x, x < 192 → lnk (lnk B p ((e : Int) + 1) ((g : Int) + 1)) ((e : Int) + 1) n ((g : Int) + 1) (1152 + x) = if x = e then p else if (x : Int) + 1 = n then (e : Int) + 1 else B (1152 + x)) ∧
    ∀ k, k < 768 ∨ 1536 ≤ k → lnk (lnk B p ((e : Int) + 1) ((g : Int) + 1)) ((e : Int) + 1) n ((g : Int) + 1) k = B k := by
  have het : ((e : Int) + 1).toNat - 1 = e := by omega
  have hgt : ((g : Int) + 1).toNat - 1 = g := by omega
  simp (disch := omega) only [lnk, if_pos (show 0 < (e : Int) + 1 by omega), if_pos (show 0 < (g : Int) + 1 by omega), het, hgt]
  by_cases h0 : 0 < p <;> by_cases h1 : 0 < n
  · simp only [if_pos h0, if_pos h1]
    refine ⟨fun x hx => ?_, fun x hx => ?_, fun x hx => ?_, fun x hx => ?_, fun k hk => ?_⟩ <;> simp only [upB_ap] <;> grind
  · have hn : n = 0 := by omega
    subst hn
    simp only [if_pos h0, if_neg h1]
    refine ⟨fun x hx => ?_, fun x hx => ?_, fun x hx => ?_, fun x hx => ?_, fun k hk => ?_⟩ <;> simp only [upB_ap] <;> grind
  · have hp : p = 0 := by omega
    subst hp
    simp only [if_neg h0, if_pos h1]
    refine ⟨fun x hx => ?_, fun x hx => ?_, fun x hx => ?_, fun x hx => ?_, fun k hk => ?_⟩ <;> simp only [upB_ap] <;> grind
  · have hn : n = 0 := by omega
    have hp : p = 0 := by omega
    subst hn; subst hp
    simp only [if_neg h0]
    refine ⟨fun x hx => ?_, fun x hx => ?_, fun x hx => ?_, fun x hx => ?_, fun k hk => ?_⟩ <;> simp only [upB_ap] <;> grind
def cpB (B : Nat → Int) (d e j : Nat) : Nat → Int := fun k => if k % 192 = e ∧ k / 192 < j then B (192 * (k / 192) + d) else B k
theorem m_copy {μ : Sl} {b : Nat} (hb : MB μ b) (B : Nat → Int) {d e : Nat} (hd : d < 192) (he : e < 192) (hde : d ≠ e) : ∀ (m k j : Nat), j + m = 10 → m < k → Mo_movesTo_2 k (zI (d : Int)) (zI (e : Int)) (zI ((192 * j : Nat) : Int)) (bst μ b (cpB B d e j)) = Mo_movesTo_2 (k - m) (zI (d : Int)) (zI (e : Int)) (zI 1920) (bst μ b (cpB B d e 10)) := by
  intro m
  induction m with
  | zero => intro k j hj hk; have : j = 10 := by omega
            subst this; rfl
  | succ m ih =>
    intro k j hj hk
    obtain ⟨c, rfl⟩ : ∃ c, k = c + 1 := ⟨k - 1, by omega⟩
    rw [Mo_movesTo_2]
    have e1 : cpB B d e j (192 * j + d) = B (192 * j + d) := by unfold cpB; rw [if_neg (by omega)]
    have e2 : upB (cpB B d e j) (192 * j + e) (B (192 * j + d)) = cpB B d e (j + 1) := by
      funext k; unfold upB cpB
      by_cases q : k = 192 * j + e
      · rw [if_pos q, if_pos (by omega)]; congr 1; omega
      · rw [if_neg q]
        by_cases r : k % 192 = e ∧ k / 192 < j
        · rw [if_pos r, if_pos (by omega)]
        · rw [if_neg r, if_neg (by omega)]
    have t1 : (((192 * j : Nat) : Int) + (d : Int)).toNat = 192 * j + d := by omega
    have t2 : (((192 * j : Nat) : Int) + (e : Int)).toNat = 192 * j + e := by omega
    have hof : Mo_of (bst μ b (cpB B d e j)) (zI (((192 * j : Nat) : Int) + (d : Int))) = some (zI (B (192 * j + d))) := by rw [m_of hb _ (by omega) (by omega), t1, e1]
    have hly : Mo_lay (bst μ b (cpB B d e j)) (zI (((192 * j : Nat) : Int) + (e : Int))) (zI (B (192 * j + d))) = some ((), bst μ b (cpB B d e (j + 1))) := by rw [m_lay hb _ _ (by omega) (by omega), t2, e2]
    simp (disch := omega) only [zI_lit, zI_lt, if_neg, zI_add, hof, hly, bp_some, bd_some, bnd_ap]
    rw [show ((192 * j : Nat) : Int) + 192 = ((192 * (j + 1) : Nat) : Int) by omega, ih c (j + 1) (by omega) (by omega), show c + 1 - (m + 1) = c - m by omega]
theorem m_kids {μ : Sl} {b : Nat} (hb : MB μ b) {e : Nat} (he : e < 192) : ∀ (r : List Nat) (k : Nat) (B : Nat → Int), (∀ x, x ∈ r → x < 192) → (∀ a x c, r = a ++ x :: c → B (1344 + x) = hd1 c) → 0 ≤ B e → B e ≤ 4 → r.length < k →
    ∃ B', Mo_movesTo_93 k (zI (e : Int)) (zI (hd1 r - 1)) (bst μ b B) = some ((), bst μ b (if 1 < B e then upB B' (wdc e) 1 else B')) ∧ (∀ k, k < 576 ∨ 768 ≤ k → B' k = B k) ∧ ∀ y, y < 192 → B' (576 + y) = if y ∈ r then (e : Int) + 1 else B (576 + y) := by
  intro r
  induction r with
  | nil =>
    intro k B h1 h2 h3 h4 hk
    obtain ⟨c, rfl⟩ : ∃ c, k = c + 1 := ⟨k - 1, by omega⟩
    refine ⟨B, ?_, fun _ _ => rfl, fun y _ => by simp⟩
    rw [hd1_nil, Mo_movesTo_93]
    simp (disch := omega) only [zI_lit, zI_lt, if_pos, m_widens hb B he h3 h4, bd_some]
  | cons x r ih =>
    intro k B h1 h2 h3 h4 hk
    obtain ⟨c, rfl⟩ : ∃ c, k = c + 1 := ⟨k - 1, by omega⟩
    have hx := h1 x (by simp)
    have hnx := h2 [] x r rfl
    have e1 : upB B (576 + x) ((e : Int) + 1) (1344 + x) = hd1 r := by rw [upB_ap, if_neg (by omega)]; exact hnx
    have ee : upB B (576 + x) ((e : Int) + 1) e = B e := by rw [upB_ap, if_neg (by omega)]
    simp only [List.length_cons] at hk
    obtain ⟨B', f1, f2, f3⟩ := ih c (upB B (576 + x) ((e : Int) + 1)) (fun y hy => h1 y (by simp [hy])) (fun a y d hd => by
      have hy := h1 y (by rw [hd]; simp)
      rw [upB_ap, if_neg (by omega)]; exact h2 (x :: a) y d (by rw [hd]; rfl)) (by rw [ee]; exact h3) (by rw [ee]; exact h4) (by omega)
    refine ⟨B', ?_, fun k hk => by rw [f2 k hk, upB_ap, if_neg (by omega)], fun y hy => ?_⟩
    · rw [hd1_cons, show (x : Int) + 1 - 1 = (x : Int) by omega, Mo_movesTo_93]
      have hly : Mo_lay (bst μ b B) (zI (576 + (x : Int))) (zI ((e : Int) + 1)) = some ((), bst μ b (upB B (576 + x) ((e : Int) + 1))) := by rw [m_lay hb B _ (by omega) (by omega)]; rfl
      simp (disch := omega) only [zI_lit, zI_lt, if_neg, zI_add, hly, bd_some, m_next hb hx, bp_some, bnd_ap, e1]
      rw [f1, ee]
    · rw [f3 y hy, upB_ap]
      by_cases q : y = x
      · subst q; simp
      · simp [q, show ¬ 576 + y = 576 + x by omega]
