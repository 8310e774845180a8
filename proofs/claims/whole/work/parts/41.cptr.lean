/-! ===== the class's deeds: heirs come and go ===== -/
theorem cr_ptr {δ δ' : Sl} {σ : Nat → Nat} {bn : Nat} {A A' : Ab} (h : CRep δ σ bn A) (hfr : ∀ a i, a < 23 ∨ 27 < a → δ' a i = δ a i) (hA : ∀ j x, j ≠ 3 → A'.1 j x = A.1 j x) (hK : CK δ' σ A') : CRep δ' σ bn A' := by
  have e0 : ∀ x, A'.1 0 x = A.1 0 x := fun x => hA 0 x (by decide)
  have el : ∀ x, Lv A' x ↔ Lv A x := fun x => by unfold Lv; rw [e0]
  obtain ⟨⟨s1, s2, s3, s4, s5⟩, hq, hf, ⟨n1, n2, n3⟩, -⟩ := h
  refine ⟨⟨s1, by rw [hfr _ _ (by omega)]; exact s2, fun d hd => s3 d ((el d).mp hd), fun d e hd he => s4 d e ((el d).mp hd) ((el e).mp he), fun j h1 h2 => ?_⟩, ?_, ?_, ⟨?_, ?_, ?_⟩, hK⟩
  · rw [hfr _ _ (by omega)] at h2
    obtain ⟨d, hd, e⟩ := s5 j h1 h2
    exact ⟨d, (el d).mpr hd, e⟩
  · intro q hq1
    have : cov A' q = cov A q := by unfold cov; rw [e0, e0, e0, e0]
    rw [this, hfr _ _ (by omega)]; exact hq q hq1
  · intro d hd
    have h1 := (el d).mp hd
    unfold CF
    rw [hfr _ _ (by omega), hfr _ _ (by omega), hfr _ _ (by omega), hfr _ _ (by omega), hfr _ _ (by omega), hfr _ _ (by omega), hfr _ _ (by omega), hfr _ _ (by omega), hfr _ _ (by omega), e0, hA 1 _ (by decide), hA 2 _ (by decide), hA 8 _ (by decide), hA 9 _ (by decide), hA 10 _ (by decide), hA 11 _ (by decide)]
    exact hf d h1
  · have e : nlv A' = nlv A := fb_ct_cong (fun k hk => by rw [e0])
    rw [hfr _ _ (by omega), n1, e]
  · have e : ntp A' = ntp A := fb_ct_cong (fun k hk => by rw [e0, hA 9 _ (by decide)])
    rw [hfr _ _ (by omega), n2, e]
  · intro d hd; rw [hA 9 _ (by decide)]; exact n3 d ((el d).mp hd)
theorem ck_of {δ' : Sl} {σ : Nat → Nat} {A A' : Ab} {F L N P G : Nat → Int} (hlv : ∀ x, Lv A' x ↔ Lv A x) (hCP : CP δ' σ (Lv A) F L N P G) (hG : ∀ x, Lv A x → A'.1 3 x = G x) (hL : Lk F L N P (Lv A) A'.2) (h0 : ∀ d, Lv A d → A'.1 3 d = 0 → N d = 0 ∧ P d = 0) : CK δ' σ A' :=
  ⟨F, L, N, P, fun x hx => by rw [hG x ((hlv x).mp hx)]; exact hCP x ((hlv x).mp hx), fun x hx => hL x ((hlv x).mp hx), fun x hx => h0 x ((hlv x).mp hx)⟩
def setG (A : Ab) (c : Nat) (v : Int) (K : Nat → List Nat) : Ab := (fun j x => if j = 3 ∧ x = c then v else A.1 j x, K)
theorem setG_ne {A : Ab} {c : Nat} {v : Int} {K : Nat → List Nat} {j x : Nat} (h : j ≠ 3) : (setG A c v K).1 j x = A.1 j x := if_neg (fun z => h z.1)
theorem setG_3 {A : Ab} {c : Nat} {v : Int} {K : Nat → List Nat} {x : Nat} : (setG A c v K).1 3 x = if x = c then v else A.1 3 x := by simp [setG]
theorem setG_lv {A : Ab} {c : Nat} {v : Int} {K : Nat → List Nat} {x : Nat} : Lv (setG A c v K) x ↔ Lv A x := by unfold Lv; rw [setG_ne (by decide)]
theorem root_not {A : Ab} (h : KW A) {c : Nat} (hc : A.1 3 c = 0) : ∀ x, Lv A x → c ∉ A.2 x := fun x hx hm => by
  have := h.2.2 x c hx hm; omega
theorem cr_append {δ : Sl} {σ : Nat → Nat} {bn : Nat} {A : Ab} (h : CRep δ σ bn A) (hKW : KW A) {c g : Nat} (hc : Lv A c) (hg : Lv A g) (h0 : A.1 3 c = 0) :
    ∃ δ', De_append δ (zI (σ c : Int)) (zI (σ g : Int)) = some ((), δ') ∧ CRep δ' σ bn (setG A c ((g : Int) + 1) (upK A.2 g (A.2 g ++ [c]))) ∧ KW (setG A c ((g : Int) + 1) (upK A.2 g (A.2 g ++ [c]))) ∧ ∀ a i, a < 23 ∨ 27 < a → δ' a i = δ a i := by
  obtain ⟨F, L, N, P, k1, k2, k3⟩ := h.2.2.2.2
  have hnot := root_not hKW h0
  have hv := pv_all hKW k2 k3 hg
  obtain ⟨δ', d1, d2, d3⟩ := cp_append (CS_SV h.1) k1 hc hg (by
    rcases hv.2.1 with e | ⟨y, e, hy⟩
    · exact .inl e
    · refine .inr ⟨y, e, hy, fun z => ?_⟩
      have := (k2 g hg).2.1
      rw [e] at this
      exact hnot g hg (z ▸ ls1_in this.symm))
  refine ⟨δ', d1, cr_ptr h d3 (fun j x hj => setG_ne hj) (ck_of (fun x => setG_lv) d2 (fun x hx => setG_3) (fun x hx => ?_) (fun x hx hx0 => ?_)), ⟨⟨fun x hx => ?_, fun x y z hx hy h1 h2 => ?_⟩, fun x hx => ?_, fun x y hx hy => ?_⟩, d3⟩
  · exact Lk_app hKW.1 k2 hg hnot (fun _ _ => rfl) (fun _ _ => rfl) (fun _ _ => rfl) (fun _ _ => rfl) x hx
  · rw [setG_3] at hx0
    by_cases q : x = c
    · rw [if_pos q] at hx0; omega
    · rw [if_neg q] at hx0
      obtain ⟨a, b⟩ := k3 x hx hx0
      rw [if_neg q, if_neg q, if_neg]
      · exact ⟨a, b⟩
      · intro z
        have := (k2 g hg).2.1
        rw [← z] at this
        exact root_not hKW hx0 g hg (ls1_in this.symm)
  · have hx1 := setG_lv.mp hx
    obtain ⟨n1, n2⟩ := hKW.1.1 x hx1
    show (upK A.2 g (A.2 g ++ [c]) x).Nodup ∧ ∀ y, y ∈ upK A.2 g (A.2 g ++ [c]) x → _
    by_cases q : x = g
    · subst q
      rw [upK_at]
      refine ⟨List.nodup_append.mpr ⟨n1, by simp, fun a ha b hb e => hnot x hx1 ?_⟩, fun y hy => setG_lv.mpr ?_⟩
      · simp at hb; rw [← hb, ← e]; exact ha
      · rcases List.mem_append.mp hy with hy | hy
        · exact n2 y hy
        · simp at hy; subst hy; exact hc
    · rw [upK_ne _ _ q]; exact ⟨n1, fun y hy => setG_lv.mpr (n2 y hy)⟩
  · have key : ∀ w z, Lv A w → z ∈ upK A.2 g (A.2 g ++ [c]) w → (z = c ∧ w = g) ∨ (z ≠ c ∧ z ∈ A.2 w) := fun w z hw hz => by
      by_cases q : w = g
      · subst q; rw [upK_at] at hz
        rcases List.mem_append.mp hz with hz | hz
        · exact .inr ⟨fun e => hnot w hw (e ▸ hz), hz⟩
        · simp at hz; exact .inl ⟨hz, rfl⟩
      · rw [upK_ne _ _ q] at hz; exact .inr ⟨fun e => hnot w hw (e ▸ hz), hz⟩
    rcases key x z (setG_lv.mp hx) h1 with ⟨a1, a2⟩ | ⟨a1, a2⟩ <;> rcases key y z (setG_lv.mp hy) h2 with ⟨b1, b2⟩ | ⟨b1, b2⟩
    · omega
    · exact absurd a1 b1
    · exact absurd b1 a1
    · exact hKW.1.2 x y z (setG_lv.mp hx) (setG_lv.mp hy) a2 b2
  · rw [setG_3]
    by_cases q : x = c
    · right
      refine ⟨g, by rw [if_pos q], setG_lv.mpr hg, ?_⟩
      show x ∈ upK A.2 g (A.2 g ++ [c]) g
      rw [upK_at, q]; simp
    · rw [if_neg q]
      rcases hKW.2.1 x (setG_lv.mp hx) with a | ⟨y, y1, y2, y3⟩
      · exact .inl a
      · refine .inr ⟨y, y1, setG_lv.mpr y2, ?_⟩
        show x ∈ upK A.2 g (A.2 g ++ [c]) y
        by_cases q2 : y = g
        · subst q2; rw [upK_at]; exact List.mem_append_left _ y3
        · rw [upK_ne _ _ q2]; exact y3
  · rw [setG_3]
    have hy' : y ∈ upK A.2 g (A.2 g ++ [c]) x := hy
    have hx1 := setG_lv.mp hx
    by_cases q : x = g
    · subst q
      rw [upK_at] at hy'
      rcases List.mem_append.mp hy' with hy1 | hy1
      · rw [if_neg (show y ≠ c from fun e => hnot x hx1 (e ▸ hy1))]; exact hKW.2.2 x y hx1 hy1
      · simp at hy1; rw [if_pos hy1]
    · rw [upK_ne _ _ q] at hy'
      rw [if_neg (show y ≠ c from fun e => hnot x hx1 (e ▸ hy'))]; exact hKW.2.2 x y hx1 hy'
theorem filt_split {c : Nat} {a b : List Nat} (h : (a ++ c :: b).Nodup) : (a ++ c :: b).filter (fun y => decide (y ≠ c)) = a ++ b := by
  have hd := List.nodup_append.mp h
  have hc := List.nodup_cons.mp hd.2.1
  have h1 : a.filter (fun y => decide (y ≠ c)) = a := List.filter_eq_self.mpr (fun y hy => by
    have : y ≠ c := hd.2.2 y hy c (by simp)
    simpa using this)
  have h2 : b.filter (fun y => decide (y ≠ c)) = b := List.filter_eq_self.mpr (fun y hy => by
    have : y ≠ c := fun e => hc.1 (e ▸ hy)
    simpa using this)
  rw [List.filter_append, List.filter_cons, h1, h2]
  simp
theorem cr_take {δ : Sl} {σ : Nat → Nat} {bn : Nat} {A : Ab} (h : CRep δ σ bn A) (hKW : KW A) {c g : Nat} (hc : Lv A c) (hg : Lv A g) (hG : A.1 3 c = (g : Int) + 1) :
    ∃ δ', De_takeFromGiver δ (zI (σ c : Int)) = some ((), δ') ∧ CRep δ' σ bn (setG A c 0 (upK A.2 g ((A.2 g).filter (fun y => decide (y ≠ c))))) ∧ KW (setG A c 0 (upK A.2 g ((A.2 g).filter (fun y => decide (y ≠ c))))) ∧ ∀ a i, a < 23 ∨ 27 < a → δ' a i = δ a i := by
  obtain ⟨F, L, N, P, k1, k2, k3⟩ := h.2.2.2.2
  have hv := pv_all hKW k2 k3 hc
  have hcg : c ∈ A.2 g := by
    rcases hKW.2.1 c hc with e | ⟨y, y1, y2, y3⟩
    · omega
    · have : y = g := by omega
      subst this; exact y3
  obtain ⟨a, b, hab⟩ := List.append_of_mem hcg
  have hnd := (hKW.1.1 g hg).1
  have hfs : (A.2 g).filter (fun y => decide (y ≠ c)) = a ++ b := by rw [hab] at hnd ⊢; exact filt_split hnd
  have hcn : c ∉ a ++ b := fun hm => by rw [← hfs, List.mem_filter] at hm; simp at hm
  have hsub : ∀ y, y ∈ a ++ b → y ∈ A.2 g ∧ y ≠ c := fun y hy => ⟨by rw [hab]; rcases List.mem_append.mp hy with z | z <;> simp [z], fun e => hcn (e ▸ hy)⟩
  rw [hfs]
  obtain ⟨δ', d1, d2, d3⟩ := cp_take (CS_SV h.1) k1 hc hg hG (by
    rcases hv.2.2.2.1 with e | ⟨y, e, hy⟩
    · exact .inl e
    · exact .inr ⟨y, e, hy, fun z => hv.2.2.2.2.2.2 (by rw [e, z])⟩) (by
    rcases hv.2.2.1 with e | ⟨y, e, hy⟩
    · exact .inl e
    · exact .inr ⟨y, e, hy, fun z => hv.2.2.2.2.2.1 (by rw [e, z])⟩)
  refine ⟨δ', d1, cr_ptr h d3 (fun j x hj => setG_ne hj) (ck_of (fun x => setG_lv) d2 (fun x hx => setG_3) (fun x hx => ?_) (fun x hx hx0 => ?_)), ⟨⟨fun x hx => ?_, fun x y z hx hy h1 h2 => ?_⟩, fun x hx => ?_, fun x y hx hy => ?_⟩, d3⟩
  · exact Lk_take hKW.1 k2 hg hab (fun _ _ => rfl) (fun _ _ => rfl) (fun x _ hxc => if_neg hxc) (fun x _ hxc => if_neg hxc) x hx
  · rw [setG_3] at hx0
    by_cases q : x = c
    · rw [if_pos q, if_pos q]; exact ⟨rfl, rfl⟩
    · rw [if_neg q] at hx0
      obtain ⟨e1, e2⟩ := k3 x hx hx0
      obtain ⟨n1, n2⟩ := (k2 g hg).2.2 a c b hab
      have hnx := root_not hKW hx0 g hg
      rw [if_neg q, if_neg q, if_neg, if_neg]
      · exact ⟨e1, e2⟩
      · intro z; rw [n1] at z; exact hnx (hsub x (List.mem_append_right _ (hd1_mem z.symm))).1
      · intro z; rw [n2] at z; exact hnx (hsub x (List.mem_append_left _ (ls1_in z.symm))).1
  · have hx1 := setG_lv.mp hx
    obtain ⟨n1, n2⟩ := hKW.1.1 x hx1
    show (upK A.2 g (a ++ b) x).Nodup ∧ ∀ y, y ∈ upK A.2 g (a ++ b) x → _
    by_cases q : x = g
    · subst q
      rw [upK_at]
      exact ⟨by rw [← hfs]; exact n1.filter _, fun y hy => setG_lv.mpr (n2 y (hsub y hy).1)⟩
    · rw [upK_ne _ _ q]; exact ⟨n1, fun y hy => setG_lv.mpr (n2 y hy)⟩
  · have key : ∀ w z, z ∈ upK A.2 g (a ++ b) w → z ∈ A.2 w := fun w z hz => by
      by_cases q : w = g
      · subst q; rw [upK_at] at hz; exact (hsub z hz).1
      · rw [upK_ne _ _ q] at hz; exact hz
    exact hKW.1.2 x y z (setG_lv.mp hx) (setG_lv.mp hy) (key x z h1) (key y z h2)
  · rw [setG_3]
    by_cases q : x = c
    · left; rw [if_pos q]
    · rw [if_neg q]
      rcases hKW.2.1 x (setG_lv.mp hx) with e | ⟨y, y1, y2, y3⟩
      · exact .inl e
      · refine .inr ⟨y, y1, setG_lv.mpr y2, ?_⟩
        show x ∈ upK A.2 g (a ++ b) y
        by_cases q2 : y = g
        · subst q2; rw [upK_at, ← hfs, List.mem_filter]; exact ⟨y3, by simpa using q⟩
        · rw [upK_ne _ _ q2]; exact y3
  · rw [setG_3]
    have hy' : y ∈ upK A.2 g (a ++ b) x := hy
    have hx1 := setG_lv.mp hx
    by_cases q : x = g
    · subst q
      rw [upK_at] at hy'
      rw [if_neg (hsub y hy').2]; exact hKW.2.2 x y hx1 (hsub y hy').1
    · rw [upK_ne _ _ q] at hy'
      have e3 := hKW.2.2 x y hx1 hy'
      rw [if_neg (fun e => q (by subst e; omega))]; exact e3
theorem cr_put {δ : Sl} {σ : Nat → Nat} {bn : Nat} {A : Ab} (h : CRep δ σ bn A) (hKW : KW A) {c g u : Nat} (hc : Lv A c) (hg : Lv A g) (hu : Lv A u) (hG : A.1 3 c = (g : Int) + 1) (h0 : A.1 3 u = 0) :
    ∃ δ', De_putBehind δ (zI (σ u : Int)) (zI (σ c : Int)) = some ((), δ') ∧ CRep δ' σ bn (setG A u ((g : Int) + 1) (upK A.2 g (insA c u (A.2 g)))) ∧ KW (setG A u ((g : Int) + 1) (upK A.2 g (insA c u (A.2 g)))) ∧ ∀ a i, a < 23 ∨ 27 < a → δ' a i = δ a i := by
  obtain ⟨F, L, N, P, k1, k2, k3⟩ := h.2.2.2.2
  have hv := pv_all hKW k2 k3 hc
  have hnot := root_not hKW h0
  have hcg : c ∈ A.2 g := by
    rcases hKW.2.1 c hc with e | ⟨y, y1, y2, y3⟩
    · omega
    · have : y = g := by omega
      subst this; exact y3
  obtain ⟨a, b, hab⟩ := List.append_of_mem hcg
  have hnd := (hKW.1.1 g hg).1
  have hda := List.nodup_append.mp (hab ▸ hnd)
  have hca : c ∉ a := fun z => hda.2.2 c z c (by simp) rfl
  have hcb := (List.nodup_cons.mp hda.2.1).1
  have hins : insA c u (A.2 g) = a ++ c :: u :: b := by rw [hab]; exact insA_split hca hcb
  obtain ⟨n1, n2⟩ := (k2 g hg).2.2 a c b hab
  obtain ⟨δ', d1, d2, d3⟩ := cp_put (CS_SV h.1) k1 hc hg hu (fun e => by subst e; omega) hG (by
    rcases hv.2.2.1 with e | ⟨y, e, hy⟩
    · exact .inl e
    · refine .inr ⟨y, e, hy, fun z => hv.2.2.2.2.2.1 (by rw [e, z]), fun z => hnot g hg ?_⟩
      rw [n1] at e
      rw [← z, hab]; have := hd1_mem e; simp [this])
  refine ⟨δ', d1, cr_ptr h d3 (fun j x hj => setG_ne hj) (ck_of (fun x => setG_lv) d2 (fun x hx => setG_3) (fun x hx => ?_) (fun x hx hx0 => ?_)), ⟨⟨fun x hx => ?_, fun x y z hx hy h1 h2 => ?_⟩, fun x hx => ?_, fun x y hx hy => ?_⟩, d3⟩
  · rw [show (setG A u ((g : Int) + 1) (upK A.2 g (insA c u (A.2 g)))).2 = upK A.2 g (a ++ c :: u :: b) by rw [← hins]; rfl]
    exact Lk_ins hKW.1 k2 hg hab hnot (fun _ _ => rfl) (fun _ _ => rfl) (fun _ _ => rfl) (fun _ _ => rfl) x hx
  · rw [setG_3] at hx0
    by_cases q : x = u
    · rw [if_pos q] at hx0; omega
    · rw [if_neg q] at hx0
      obtain ⟨e1, e2⟩ := k3 x hx hx0
      have hnx := root_not hKW hx0 g hg
      rw [if_neg q, if_neg q, if_neg, if_neg]
      · exact ⟨e1, e2⟩
      · intro z; rw [n1] at z; exact hnx (by rw [hab]; have := hd1_mem z.symm; simp [this])
      · intro z; exact hnx (z ▸ hcg)
  · have hx1 := setG_lv.mp hx
    obtain ⟨m1, m2⟩ := hKW.1.1 x hx1
    show (upK A.2 g (insA c u (A.2 g)) x).Nodup ∧ ∀ y, y ∈ upK A.2 g (insA c u (A.2 g)) x → _
    by_cases q : x = g
    · subst q
      rw [upK_at]
      refine ⟨insA_nodup m1 (hnot x hx1), fun y hy => setG_lv.mpr ?_⟩
      rcases insA_mem.mp hy with hy | ⟨hy, -⟩
      · exact m2 y hy
      · subst hy; exact hu
    · rw [upK_ne _ _ q]; exact ⟨m1, fun y hy => setG_lv.mpr (m2 y hy)⟩
  · have key : ∀ w z, Lv A w → z ∈ upK A.2 g (insA c u (A.2 g)) w → (z = u ∧ w = g) ∨ (z ≠ u ∧ z ∈ A.2 w) := fun w z hw hz => by
      by_cases q : w = g
      · subst q; rw [upK_at] at hz
        rcases insA_mem.mp hz with hz | ⟨hz, -⟩
        · exact .inr ⟨fun e => hnot w hw (e ▸ hz), hz⟩
        · exact .inl ⟨hz, rfl⟩
      · rw [upK_ne _ _ q] at hz; exact .inr ⟨fun e => hnot w hw (e ▸ hz), hz⟩
    rcases key x z (setG_lv.mp hx) h1 with ⟨a1, a2⟩ | ⟨a1, a2⟩ <;> rcases key y z (setG_lv.mp hy) h2 with ⟨b1, b2⟩ | ⟨b1, b2⟩
    · omega
    · exact absurd a1 b1
    · exact absurd b1 a1
    · exact hKW.1.2 x y z (setG_lv.mp hx) (setG_lv.mp hy) a2 b2
  · rw [setG_3]
    by_cases q : x = u
    · right
      refine ⟨g, by rw [if_pos q], setG_lv.mpr hg, ?_⟩
      show x ∈ upK A.2 g (insA c u (A.2 g)) g
      rw [upK_at, q, insA_mem]; exact .inr ⟨rfl, hcg⟩
    · rw [if_neg q]
      rcases hKW.2.1 x (setG_lv.mp hx) with e | ⟨y, y1, y2, y3⟩
      · exact .inl e
      · refine .inr ⟨y, y1, setG_lv.mpr y2, ?_⟩
        show x ∈ upK A.2 g (insA c u (A.2 g)) y
        by_cases q2 : y = g
        · subst q2; rw [upK_at, insA_mem]; exact .inl y3
        · rw [upK_ne _ _ q2]; exact y3
  · rw [setG_3]
    have hy' : y ∈ upK A.2 g (insA c u (A.2 g)) x := hy
    have hx1 := setG_lv.mp hx
    by_cases q : x = g
    · subst q
      rw [upK_at] at hy'
      rcases insA_mem.mp hy' with hy1 | ⟨hy1, -⟩
      · rw [if_neg (show y ≠ u from fun e => hnot x hx1 (e ▸ hy1))]; exact hKW.2.2 x y hx1 hy1
      · rw [if_pos hy1]
    · rw [upK_ne _ _ q] at hy'
      rw [if_neg (show y ≠ u from fun e => hnot x hx1 (e ▸ hy'))]; exact hKW.2.2 x y hx1 hy'
