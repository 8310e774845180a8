/-! ===== the reference starts a job ===== -/
theorem m_topq {n S : Nat} {A : Ab} {dep : Nat → Nat} {Q : Nat → Prop} {a x : Nat} {v2 : Int32} {B0 B : Nat → Int} {acc : List Nat} {μ : Sl} {b : Nat} (hb : MB μ b) (h : WF n S A dep) (hq : LQ Q a) (hx : Lv A x) (hQ : ∀ w, Lv A w → bl A x w = true → Q w) (hI : LI Q A a B0 B acc) :
    ∃ B', Mo_listsTop (bst μ b B) (zI (x : Int)) v2 (zI (a : Int)) (zI ((a + acc.length : Nat) : Int)) = some (zI ((a + (lq A (191 - dep x) v2 x acc).length : Nat) : Int), bst μ b B') ∧ LI Q A a B0 B' (lq A (191 - dep x) v2 x acc) := by
  have hx1 := hx.1
  have hdl := dep_lt h hx
  by_cases c : dep x = 191
  · have hnil : A.2 x = [] := by
      cases hl : A.2 x with
      | nil => rfl
      | cons y l =>
        have := kid_ne h hx (x := y) (by rw [hl]; simp)
        have := dep_lt h this.1
        omega
    have e : lq A (191 - dep x) v2 x acc = if v2 = 0 then acc else adl acc x := by
      rw [c]; show qS v2 x acc x = _
      unfold qS; by_cases c2 : v2 = 0 <;> simp [c2]
    rw [e]
    obtain ⟨B', e1, e2⟩ := m_end hb h hq hI (fun _ => hQ x hx (bl_self A x)) (Mo_listsTop_10 999999)
    refine ⟨B', ?_, e2⟩
    have hf := m_first hb (B := B) hx1
    rw [MR_F hI.2.2.2.1 hx, hnil] at hf
    have : Mo_listsTop (bst μ b B) (zI (x : Int)) v2 (zI (a : Int)) (zI ((a + acc.length : Nat) : Int)) = Mo_listsTop_10 (999999 + 1) (zI (x : Int)) v2 (zI (a : Int)) (zI ((a + acc.length : Nat) : Int)) (zI (x : Int)) 1 (bst μ b B) := rfl
    rw [this, Mo_listsTop_10, if_neg (by decide), hf, bp_some, if_pos (by decide), e1]
  · have hm : dep x + ((190 - dep x) + 1) = 191 := by omega
    have hnd := pst_nodup h _ x hx hm
    have hmem := pst_mem h _ x hx hm
    have hnx : x ∉ (A.2 x).flatMap (pst A (190 - dep x)) := by
      simp only [pst] at hnd
      intro z
      exact (List.nodup_append.mp hnd).2.2 x z x (by simp) rfl
    have hin : ∀ w, w ∈ (A.2 x).flatMap (pst A (190 - dep x)) → w ∈ pst A ((190 - dep x) + 1) x := fun w hw => by
      simp only [pst]; exact List.mem_append.mpr (.inl hw)
    have hlen : ((A.2 x).flatMap (pst A (190 - dep x))).length ≤ 192 := by
      refine len192 ?_ (fun w hw => ((hmem w).mp (hin w hw)).1.1)
      simp only [pst] at hnd
      exact (List.nodup_append.mp hnd).1
    obtain ⟨B', e1, e2⟩ := m_top (v2 := v2) hb h hq hx hm (fun w hw => by
      have := (hmem w).mp (hin w hw)
      exact ⟨hQ w this.1 this.2, fun e => hnx (e ▸ hw)⟩) (fun _ => hQ x hx (bl_self A x)) hlen hI
    have e : lq A (191 - dep x) v2 x acc = fT A (190 - dep x) v2 x acc := by
      rw [show 191 - dep x = (190 - dep x) + 1 by omega]
      exact qS_pst hnx acc
    rw [e]
    exact ⟨B', e1, e2⟩
theorem m_fl_loop {n S : Nat} {A : Ab} {dep : Nat → Nat} {Q : Nat → Prop} {a : Nat} {v4 : Int32} {B0 : Nat → Int} {T : List Nat} {μ : Sl} {b : Nat} (hb : MB μ b) (h : WF n S A dep) (hq : LQ Q a) (hT : TH μ T) (hT8 : T.length ≤ 8) (hTl : ∀ x, x ∈ T → Lv A x) (hQ : ∀ x, x ∈ T → ∀ w, Lv A w → bl A x w = true → Q w) (v1 v3 v6 : Int32) : ∀ (post pre : List Nat) (k : Nat) (B : Nat → Int), T = pre ++ post → post.length < k → LI Q A a B0 B (lqs A dep v4 pre []) →
    ∃ B' c, Mo_flushed_125 k v1 v3 v4 v6 (zI (a : Int)) (zI ((a + (lqs A dep v4 pre []).length : Nat) : Int)) (zI (pre.length : Int)) (bst μ b B) = Mo_flushed_125 (c + 1) v1 v3 v4 v6 (zI (a : Int)) (zI ((a + (lqs A dep v4 T []).length : Nat) : Int)) (zI (T.length : Int)) (bst μ b B') ∧ LI Q A a B0 B' (lqs A dep v4 T []) := by
  intro post
  induction post with
  | nil =>
    intro pre k B hl hk hI
    obtain ⟨c, rfl⟩ : ∃ c, k = c + 1 := ⟨k - 1, by omega⟩
    rw [List.append_nil] at hl
    subst hl
    exact ⟨B, c, rfl, hI⟩
  | cons x post ih =>
    intro pre k B hl hk hI
    obtain ⟨c, rfl⟩ : ∃ c, k = c + 1 := ⟨k - 1, by omega⟩
    have hlen : T.length = pre.length + post.length + 1 := by rw [hl]; simp; omega
    have e30 : bst μ b B 34 30 = zI ((pre.length + post.length + 1 : Nat) : Int) := by rw [bst_ne _ _ _ (by decide), hT.1, hlen]
    have hlx : bst μ b B 47 pre.length = zI (x : Int) := by rw [bst_ne _ _ _ (by decide)]; exact hT.2 pre.length x (by rw [hl]; simp)
    have hxT : x ∈ T := by rw [hl]; simp
    obtain ⟨B1, e1, e2⟩ := m_topq (v2 := v4) hb h hq (hTl x hxT) (hQ x hxT) hI
    rw [← lqs_snoc] at e1 e2
    obtain ⟨B2, c2, f1, f2⟩ := ih (pre ++ [x]) c B1 (by rw [hl]; simp) (by simp at hk; omega) e2
    refine ⟨B2, c2, ?_, f2⟩
    have hplen : (pre ++ [x]).length = pre.length + 1 := by simp
    rw [hplen] at f1
    rw [Mo_flushed_125, e30, if_neg (by rw [zI_le (by omega) (by omega) (by omega) (by omega)]; omega), if_pos (by rw [zI_inb (by omega) (by omega)]; omega), zI_ix (by omega) (by omega), Int.toNat_natCast, hlx, e1, bd_some, bnd_ap, bnd_ap, show (1 : Int32) = zI 1 from rfl, zI_add, show (pre.length : Int) + 1 = ((pre.length + 1 : Nat) : Int) by omega, f1]
def tpB (j : Int) (T : List Nat) (B : Nat → Int) : Nat → Int := fun k => if 1728 ≤ k ∧ k - 1728 ∈ T then j else B k
theorem tpB_snoc (j : Int) (T : List Nat) (x : Nat) (B : Nat → Int) : tpB j (T ++ [x]) B = upB (tpB j T B) (1728 + x) j := by
  funext k
  unfold tpB upB
  by_cases c : k = 1728 + x
  · subst c; simp
  · rw [if_neg c]
    show (if 1728 ≤ k ∧ k - 1728 ∈ T ++ [x] then j else B k) = (if 1728 ≤ k ∧ k - 1728 ∈ T then j else B k)
    by_cases c2 : 1728 ≤ k ∧ k - 1728 ∈ T
    · rw [if_pos c2, if_pos ⟨c2.1, by simp [c2.2]⟩]
    · rw [if_neg c2, if_neg (fun z => c2 ⟨z.1, by
        rcases List.mem_append.mp z.2 with y | y
        · exact y
        · simp at y; have := z.1; omega⟩)]
def jbB (B : Nat → Int) (c : Nat) (j s p r len : Int) : Nat → Int := upB (upB (upB (upB (upB (upB B 2197 j) (1950 + c) j) (1956 + c) s) (1962 + c) p) (1968 + c) r) (1974 + c) len
theorem m_fl_tops {μ : Sl} {b : Nat} {B : Nat → Int} {T : List Nat} {j : Int} {c : Nat} (hb : MB μ b) (hT : TH μ T) (hT8 : T.length ≤ 8) (hTl : ∀ x, x ∈ T → x < 192) (h1 : B 2197 = j) (h2 : B 1944 = (c : Int)) (v7 v8 : Int32) : ∀ (post pre : List Nat) (k : Nat), T = pre ++ post → post.length < k →
    Mo_flushed_253 k v7 v8 (zI (pre.length : Int)) (bst μ b (tpB j pre B)) = some (v8 - v7, bst μ b (upB (tpB j T B) 1944 ((c : Int) + 1))) := by
  intro post
  induction post with
  | nil =>
    intro pre k hl hk
    obtain ⟨c1, rfl⟩ : ∃ c, k = c + 1 := ⟨k - 1, by omega⟩
    rw [List.append_nil] at hl
    subst hl
    have e30 : bst μ b (tpB j T B) 34 30 = zI (T.length : Int) := by rw [bst_ne _ _ _ (by decide), hT.1]
    have e3 : tpB j T B 1944 = (c : Int) := by
      unfold tpB; rw [if_neg (fun z => by have := hTl _ z.2; omega), h2]
    have e4 := m_more hb (tpB j T B) (k := 1944) (by omega) (by omega)
    rw [show (1944 : Int).toNat = 1944 from rfl, e3] at e4
    rw [Mo_flushed_253, e30, if_pos (by rw [zI_le (by omega) (by omega) (by omega) (by omega)]; omega), show (1944 : Int32) = zI 1944 from rfl, e4, bd_some]
  | cons x post ih =>
    intro pre k hl hk
    obtain ⟨c1, rfl⟩ : ∃ c, k = c + 1 := ⟨k - 1, by omega⟩
    have hlen : T.length = pre.length + post.length + 1 := by rw [hl]; simp; omega
    have e30 : bst μ b (tpB j pre B) 34 30 = zI ((pre.length + post.length + 1 : Nat) : Int) := by rw [bst_ne _ _ _ (by decide), hT.1, hlen]
    have hlx : bst μ b (tpB j pre B) 47 pre.length = zI (x : Int) := by rw [bst_ne _ _ _ (by decide)]; exact hT.2 pre.length x (by rw [hl]; simp)
    have hx := hTl x (by rw [hl]; simp)
    have e5 := m_of hb (tpB j pre B) (k := 2197) (by omega) (by omega)
    have e6 : tpB j pre B 2197 = j := by
      unfold tpB; rw [if_neg (fun z => by have := hTl _ (by rw [hl]; exact List.mem_append.mpr (.inl z.2)); omega), h1]
    rw [show (2197 : Int).toNat = 2197 from rfl, e6] at e5
    have e7 := m_lay hb (tpB j pre B) (k := ((1728 + x : Nat) : Int)) j (by omega) (by omega)
    rw [Int.toNat_natCast, ← tpB_snoc] at e7
    have hrec := ih (pre ++ [x]) c1 (by rw [hl]; simp) (by simp at hk; omega)
    have hplen : (pre ++ [x]).length = pre.length + 1 := by simp
    rw [hplen] at hrec
    rw [Mo_flushed_253, e30, if_neg (by rw [zI_le (by omega) (by omega) (by omega) (by omega)]; omega), if_pos (by rw [zI_inb (by omega) (by omega)]; omega), show (2197 : Int32) = zI 2197 from rfl, e5, bp_some, zI_ix (by omega) (by omega), Int.toNat_natCast, hlx, show (1728 : Int32) = zI 1728 from rfl, zI_add, show (1728 : Int) + (x : Int) = ((1728 + x : Nat) : Int) by omega, e7, bd_some, bnd_ap, show (1 : Int32) = zI 1 from rfl, zI_add, show (pre.length : Int) + 1 = ((pre.length + 1 : Nat) : Int) by omega, hrec]
theorem m_fl_end {μ : Sl} {b : Nat} {B : Nat → Int} {T : List Nat} {j s p r : Int} {c a len : Nat} (hb : MB μ b) (hT : TH μ T) (hT8 : T.length ≤ 8) (hTl : ∀ x, x ∈ T → x < 192) (h1 : B 2197 + 1 = j) (h2 : B 1944 = (c : Int)) (hc : c < 6) (hal : a + len ≤ 192) (v4 : Int32) (k : Nat) :
    Mo_flushed_125 (k + 1) (zI s) (zI r) v4 (zI p) (zI (a : Int)) (zI ((a + len : Nat) : Int)) (zI (T.length : Int)) (bst μ b B) = if len = 0 then some (0, bst μ b B) else some (zI (len : Int), bst μ b (upB (tpB j T (jbB B c j s p r (len : Int))) 1944 ((c : Int) + 1))) := by
  have e30 : bst μ b B 34 30 = zI (T.length : Int) := by rw [bst_ne _ _ _ (by decide), hT.1]
  rw [Mo_flushed_125, e30, if_pos (by rw [zI_le (by omega) (by omega) (by omega) (by omega)]; omega)]
  by_cases c0 : len = 0
  · subst c0; rw [if_pos (by rfl), if_pos rfl]
  · rw [if_neg (by rw [zI_eq (by omega) (by omega) (by omega) (by omega)]; omega), if_neg c0]
    have hsub : zI ((a + len : Nat) : Int) - zI (a : Int) = zI (len : Int) := by rw [zI_sub]; congr 1; omega
    have o1 := m_of hb B (k := 1944) (by omega) (by omega)
    rw [show (1944 : Int).toNat = 1944 from rfl, h2] at o1
    have o2 := m_more hb B (k := 2197) (by omega) (by omega)
    rw [show (2197 : Int).toNat = 2197 from rfl, h1] at o2
    have o3 := m_of hb (upB B 2197 j) (k := 2197) (by omega) (by omega)
    rw [show (2197 : Int).toNat = 2197 from rfl, upB_ap, if_pos rfl] at o3
    have adn : ∀ k : Nat, zI (k : Int) + zI (c : Int) = zI ((k + c : Nat) : Int) := fun k => by rw [zI_add]; rfl
    have o4 := m_lay hb (upB B 2197 j) (k := ((1950 + c : Nat) : Int)) j (by omega) (by omega)
    rw [Int.toNat_natCast] at o4
    have o5 := m_lay hb (upB (upB B 2197 j) (1950 + c) j) (k := ((1956 + c : Nat) : Int)) s (by omega) (by omega)
    rw [Int.toNat_natCast] at o5
    have o6 := m_lay hb (upB (upB (upB B 2197 j) (1950 + c) j) (1956 + c) s) (k := ((1962 + c : Nat) : Int)) p (by omega) (by omega)
    rw [Int.toNat_natCast] at o6
    have o7 := m_lay hb (upB (upB (upB (upB B 2197 j) (1950 + c) j) (1956 + c) s) (1962 + c) p) (k := ((1968 + c : Nat) : Int)) r (by omega) (by omega)
    rw [Int.toNat_natCast] at o7
    have o8 := m_lay hb (upB (upB (upB (upB (upB B 2197 j) (1950 + c) j) (1956 + c) s) (1962 + c) p) (1968 + c) r) (k := ((1974 + c : Nat) : Int)) (len : Int) (by omega) (by omega)
    rw [Int.toNat_natCast] at o8
    have t1 : jbB B c j s p r (len : Int) 2197 = j := by unfold jbB; simp only [upB_ap]; rw [if_neg (by omega), if_neg (by omega), if_neg (by omega), if_neg (by omega), if_neg (by omega), if_pos trivial]
    have t2 : jbB B c j s p r (len : Int) 1944 = (c : Int) := by unfold jbB; simp only [upB_ap]; rw [if_neg (by omega), if_neg (by omega), if_neg (by omega), if_neg (by omega), if_neg (by omega), if_neg (by omega), h2]
    have ht := m_fl_tops hb hT hT8 hTl t1 t2 (zI (a : Int)) (zI ((a + len : Nat) : Int)) T [] FU rfl (FU_gt (by omega))
    have t0 : tpB j [] (jbB B c j s p r (len : Int)) = jbB B c j s p r (len : Int) := by funext k; unfold tpB; simp
    rw [t0] at ht
    rw [show (1944 : Int32) = zI 1944 from rfl, o1, bp_some, bnd_ap, show (2197 : Int32) = zI 2197 from rfl, o2, bd_some, o3, bp_some]
    rw [show (1950 : Int32) = zI ((1950 : Nat) : Int) from rfl, adn, o4, bd_some, show (1956 : Int32) = zI ((1956 : Nat) : Int) from rfl, adn, o5, bd_some, show (1962 : Int32) = zI ((1962 : Nat) : Int) from rfl, adn, o6, bd_some]
    rw [show (1968 : Int32) = zI ((1968 : Nat) : Int) from rfl, adn, o7, bd_some, show (1974 : Int32) = zI ((1974 : Nat) : Int) from rfl, adn, hsub, o8, bd_some, bnd_ap]
    have ht' : Mo_flushed_253 FU (zI (a : Int)) (zI ((a + len : Nat) : Int)) 0 (bst μ b (jbB B c j s p r (len : Int))) = _ := ht
    rw [hsub] at ht'
    exact ht'
