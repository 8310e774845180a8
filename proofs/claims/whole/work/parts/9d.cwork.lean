/-! ===== a step of work: the class ===== -/
def FB (σ : Nat → Nat) (A : Ab) (L : List Nat) (i : Nat) (v : Int32) : Prop := (v = zI (-1) ∧ ∀ y, y ∈ L → ¬ σ y < i) ∨ ∃ y, y ∈ L ∧ v = zI (σ y : Int) ∧ σ y < i ∧ ∀ z, z ∈ L → σ z < i → A.1 11 y ≤ A.1 11 z
theorem c_first_loop {δ : Sl} {σ : Nat → Nat} {bn : Nat} {A : Ab} {id : Int} {L : List Nat} (hC : CRep δ σ bn A) (h4 : ∀ x, Lv A x → A.1 0 x ≤ 4) (hid : 0 < id ∧ id < 2147483648) (h10 : ∀ x, Lv A x → 0 ≤ A.1 10 x ∧ A.1 10 x < 2147483648) (h11 : ∀ x, x ∈ L → 0 ≤ A.1 11 x ∧ A.1 11 x < 192) (hL : ∀ x, x ∈ L ↔ Lv A x ∧ A.1 10 x = id) : ∀ (m i k : Nat) (v : Int32), i + m = bn → m < k → FB σ A L i v →
    ∃ w, De_firstToDo_4 δ k (zI id) v (zI (i : Int)) = some w ∧ FB σ A L bn w := by
  have hbn := hC.1.1
  have e16 := hC.1.2.1
  intro m
  induction m with
  | zero =>
    intro i k v hi hk hF
    obtain ⟨c, rfl⟩ : ∃ c, k = c + 1 := ⟨k - 1, by omega⟩
    have : i = bn := by omega
    subst this
    exact ⟨v, by rw [De_firstToDo_4, e16, if_pos (by rw [zI_le (by omega) (by omega) (by omega) (by omega)]; omega)], hF⟩
  | succ m ih =>
    intro i k v hi hk hF
    obtain ⟨c, rfl⟩ : ∃ c, k = c + 1 := ⟨k - 1, by omega⟩
    have hib : inb (zI (i : Int)) 192 := by rw [zI_inb (by omega) (by omega)]; omega
    rw [De_firstToDo_4, e16, if_neg (by rw [zI_le (by omega) (by omega) (by omega) (by omega)]; omega), if_pos hib, zI_ix (by omega) (by omega), Int.toNat_natCast]
    have hnext : ∀ w, FB σ A L (i + 1) w → ∃ w', De_firstToDo_52 (De_firstToDo_4 δ c) δ (zI id) w (zI (i : Int)) = some w' ∧ FB σ A L bn w' := fun w hw => by
      obtain ⟨w', f1, f2⟩ := ih (i + 1) c w (by omega) (by omega) hw
      refine ⟨w', ?_, f2⟩
      rw [De_firstToDo_52, bnd_ap, show (1 : Int32) = zI 1 from rfl, zI_add, show (i : Int) + 1 = ((i + 1 : Nat) : Int) by omega, f1]
    have hskip : (∀ y, y ∈ L → σ y ≠ i) → FB σ A L (i + 1) v := fun hn => by
      rcases hF with ⟨a, b⟩ | ⟨y, y1, y2, y3, y4⟩
      · exact .inl ⟨a, fun y hy z => by have := b y hy; have := hn y hy; omega⟩
      · exact .inr ⟨y, y1, y2, by omega, fun z hz hz2 => y4 z hz (by have := hn z hz; omega)⟩
    by_cases hu : δ 21 i < 0
    · rw [if_pos hu]
      refine hnext v (hskip (fun y hy he => ?_))
      have hy' := ((hL y).mp hy).1
      have e21 := (hC.2.2.1 y hy').2.2.2.1
      rw [he] at e21
      have := hy'.2
      have := h4 y hy'
      rw [e21, zI_lit, zI_lt (by omega) (by omega) (by omega) (by omega)] at hu
      omega
    · rw [if_neg hu, if_pos hib]
      obtain ⟨x, hx, he⟩ := hC.1.2.2.2.2 i (by omega) hu
      have e29 := (hC.2.2.1 x hx).2.2.2.2.2.2.1
      rw [he] at e29
      have hinj : ∀ y, Lv A y → σ y = i → y = x := fun y hy hyi => hC.1.2.2.2.1 y x hy hx (by omega)
      have r10 := h10 x hx
      rw [e29]
      by_cases c1 : A.1 10 x = id
      · rw [if_pos (by rw [c1])]
        have hxL := (hL x).mpr ⟨hx, c1⟩
        have e50 : De_firstToDo_50 (De_firstToDo_4 δ c) δ (zI id) (zI (i : Int)) = De_firstToDo_52 (De_firstToDo_4 δ c) δ (zI id) (zI (i : Int)) (zI (i : Int)) := by rw [De_firstToDo_50, bnd_ap]
        rcases hF with ⟨a, b⟩ | ⟨y, y1, y2, y3, y4⟩
        · rw [a, if_pos (by rw [zI_lit, zI_lt (by omega) (by omega) (by omega) (by omega)]; decide), e50]
          refine hnext _ (.inr ⟨x, hxL, by rw [he], by omega, fun z hz hz2 => ?_⟩)
          have h1 := b z hz
          have : z = x := hinj z ((hL z).mp hz).1 (by omega)
          rw [this]; omega
        · have hy' := ((hL y).mp y1).1
          have b1 := cr_lt hC hy'
          have e30y := (hC.2.2.1 y hy').2.2.2.2.2.2.2.1
          have e30x := (hC.2.2.1 x hx).2.2.2.2.2.2.2.1
          rw [he] at e30x
          have ty := h11 y y1
          have tx := h11 x hxL
          rw [y2, if_neg (by rw [zI_lit, zI_lt (by omega) (by omega) (by omega) (by omega)]; omega), if_pos hib, if_pos (by rw [zI_inb (by omega) (by omega)]; omega), zI_ix (by omega) (by omega), Int.toNat_natCast, e30y, e30x]
          by_cases c2 : A.1 11 y ≤ A.1 11 x
          · rw [if_pos (by rw [zI_le (by omega) (by omega) (by omega) (by omega)]; exact c2)]
            refine hnext _ (.inr ⟨y, y1, rfl, by omega, fun z hz hz2 => ?_⟩)
            by_cases c3 : σ z < i
            · exact y4 z hz c3
            · rw [hinj z ((hL z).mp hz).1 (by omega)]; exact c2
          · rw [if_neg (by rw [zI_le (by omega) (by omega) (by omega) (by omega)]; exact c2), e50]
            refine hnext _ (.inr ⟨x, hxL, by rw [he], by omega, fun z hz hz2 => ?_⟩)
            by_cases c3 : σ z < i
            · have := y4 z hz c3; omega
            · rw [hinj z ((hL z).mp hz).1 (by omega)]; omega
      · rw [if_neg (by rw [zI_eq (by omega) (by omega) (by omega) (by omega)]; exact c1)]
        refine hnext v (hskip (fun y hy hyi => ?_))
        have h1 := (hL y).mp hy
        rw [hinj y h1.1 hyi] at h1
        exact c1 h1.2
def hdS (σ : Nat → Nat) : List Nat → Int32
  | [] => zI (-1)
  | x :: _ => zI (σ x : Int)
def shW (δ : Sl) : Sl := wrA (wr δ 10 3 (δ 10 3 - 1)) 11 (va_cpy (wr δ 10 3 (δ 10 3 - 1) 11) (wr δ 10 3 (δ 10 3 - 1) 11) (ix (4 : Int32)) (ix (0 : Int32)) (ix (20 : Int32)))
theorem c_first {δ : Sl} {σ : Nat → Nat} {bn : Nat} {A : Ab} {id : Int} {L : List Nat} (hC : CRep δ σ bn A) (h4 : ∀ x, Lv A x → A.1 0 x ≤ 4) (hid : 0 < id ∧ id < 2147483648) (h10 : ∀ x, Lv A x → 0 ≤ A.1 10 x ∧ A.1 10 x < 2147483648) (h11 : ∀ x, x ∈ L → 0 ≤ A.1 11 x ∧ A.1 11 x < 192) (hL : ∀ x, x ∈ L ↔ Lv A x ∧ A.1 10 x = id) (hp : L.Pairwise (fun a b => A.1 11 a < A.1 11 b)) :
    De_firstToDo δ (zI id) = some (hdS σ L) := by
  obtain ⟨w, f1, f2⟩ := c_first_loop hC h4 hid h10 h11 hL bn 0 FU (zI (-1)) (by omega) (FU_gt (by have := hC.1.1; omega)) (.inl ⟨rfl, fun y _ => by omega⟩)
  unfold De_firstToDo
  rw [bnd_ap, bnd_ap]
  have f1' : De_firstToDo_4 δ FU (zI id) (-1 : Int32) (0 : Int32) = some w := f1
  rw [f1']
  congr 1
  rcases f2 with ⟨a, b⟩ | ⟨y, y1, y2, y3, y4⟩
  · cases L with
    | nil => exact a
    | cons x L =>
      have := b x (by simp)
      have := hC.1.2.2.1 x ((hL x).mp (by simp)).1
      omega
  · cases L with
    | nil => simp at y1
    | cons x L =>
      show w = zI (σ x : Int)
      rcases List.mem_cons.mp y1 with z | z
      · rw [y2, z]
      · have h1 := (List.pairwise_cons.mp hp).1 y z
        have h2 := y4 x (by simp) (hC.1.2.2.1 x ((hL x).mp (by simp)).1)
        omega
theorem zI_an8 : ∀ a c : Fin 8, zI (a.val : Int) &&& (zI (c.val : Int) ^^^ (-1 : Int32)) = zI ((a.val - (a.val &&& c.val) : Nat) : Int) ∧ (a.val &&& c.val) ≤ a.val := by decide +kernel
theorem zI_an {a r : Int} (h1 : 0 ≤ a) (h2 : a ≤ 7) (h3 : 0 ≤ r) (h4 : r ≤ 7) : zI a &&& (zI r ^^^ (-1 : Int32)) = zI (a - la a r) ∧ 0 ≤ a - la a r ∧ a - la a r ≤ 7 := by
  obtain ⟨x, rfl⟩ : ∃ x : Nat, a = (x : Int) := ⟨a.toNat, by omega⟩
  obtain ⟨y, rfl⟩ : ∃ y : Nat, r = (y : Int) := ⟨r.toNat, by omega⟩
  have := zI_an8 ⟨x, by omega⟩ ⟨y, by omega⟩
  simp only at this
  unfold la
  rw [Int.toNat_natCast, Int.toNat_natCast]
  have h5 : ((x - (x &&& y) : Nat) : Int) = (x : Int) - ((x &&& y : Nat) : Int) := by have := this.2; omega
  rw [this.1, h5]
  exact ⟨rfl, by have := this.2; omega, by have := this.2; omega⟩
def rwv (A : Ab) (x : Nat) (r : Int) : Int := A.1 2 x - la (A.1 2 x) r
def aW2 (A : Ab) (x : Nat) (r : Int) : Ab := if rwv A x r = 0 then aGo (aW1 A x (rwv A x r)) x else aW1 A x (rwv A x r)
def aW (A : Ab) (x : Nat) (id r : Int) (L : List Nat) : Ab := if L = [] then aE (aW2 A x r) id else aW2 A x r
def jW (id s p r : Int) (L : List Nat) (J : List Jb) : List Jb := if L = [] then J else (id, s, p, r, L) :: J
theorem JA0_10 {A : Ab} {J : List Jb} {N : Int} (h : JA0 A J N) (hN : N < 2147483648) : ∀ x, Lv A x → 0 ≤ A.1 10 x ∧ A.1 10 x < 2147483648 := fun x hx => by
  by_cases c : A.1 10 x = 0
  · omega
  · obtain ⟨e, e1, e2⟩ := h.2.1 x hx c
    have := h.1.2.2 e e1
    have := this.1; have := (h.1.2.2 e e1).2.1
    omega
theorem c_once70 {n S : Nat} {A : Ab} {dep : Nat → Nat} {δ : Sl} {σ : Nat → Nat} {bn : Nat} {N id s p r : Int} {L L0 : List Nat} {J : List Jb} (M : Mem) (hW : WF n S A dep) (hC : CRep δ σ bn A) (h : JA0 A ((id, s, p, r, L) :: J) N) (hN : N < 2147483648) (hJC : JC δ ((id, s, p, r, L0) :: J)) :
    ∃ δ', Wo_workOnce_70 M (zI id) δ = some ((), δ') ∧ CRep δ' σ bn (if L = [] then aE A id else A) ∧ JC δ' (jW id s p r L J) ∧ (∀ a i, a ≠ 11 → ¬ (a = 10 ∧ i = 3) → a ≠ 28 → (a ≠ 17 ∨ i ≠ 18) → δ' a i = δ a i) := by
  have h10 := JA0_10 h hN
  have hE := h.1.2.2 _ (List.mem_cons_self ..)
  obtain ⟨e1, e2, e3, e4, e5, e7, e8⟩ := hE
  have e1' : 0 < id := e1
  have e2' : id ≤ N := e2
  have hL : ∀ x, x ∈ L ↔ Lv A x ∧ A.1 10 x = id := e8
  have h11 : ∀ x, x ∈ L → 0 ≤ A.1 11 x ∧ A.1 11 x < 192 := fun x hx => by
    have := (hL x).mp hx
    exact (h.2.2.1.2 x this.1).2.2 (by omega)
  have hf := c_first hC (fun x hx => (hW.2.2.2.1 x hx).1) ⟨e1', by omega⟩ h10 h11 hL e7
  have hJl := h.1.1
  rw [Wo_workOnce_70, hf, bp_some]
  cases L with
  | nil =>
    obtain ⟨δ1, k1, k2, k3⟩ := c_endJob hW hC e1' (by omega)
    have h3 : δ1 10 3 = zI ((J.length + 1 : Nat) : Int) := by rw [k3 _ _ (by omega) (by omega)]; exact hJC.1
    have hcp : cpok (4 : Int32) (0 : Int32) (20 : Int32) 24 24 := by decide
    refine ⟨shW δ1, ?_, ?_, ?_, ?_⟩
    · rw [if_neg (show ¬ 0 ≤ hdS σ [] from (by decide : ¬ (0 : Int32) ≤ zI (-1))), k1, bd_some, bnd_ap, if_pos hcp, bnd_ap]; rfl
    · rw [if_pos rfl]
      refine cr_frame k2 (fun a i h1 h2 => ?_) ?_ ?_ ?_
      · unfold shW wrA; rw [if_neg (by omega), wr_ap, if_neg (by omega)]
      · unfold shW wrA; rw [if_neg (by omega), wr_ap, if_neg (by omega)]
      · unfold shW wrA; rw [if_neg (by omega), wr_ap, if_neg (by omega)]
      · unfold shW wrA; rw [if_neg (by omega), wr_ap, if_neg (by omega)]
    · unfold jW
      rw [if_pos rfl]
      refine ⟨?_, fun i e hi => ?_⟩
      · unfold shW wrA
        rw [if_neg (by omega), wr_ap, if_pos ⟨rfl, rfl⟩, h3, show (1 : Int32) = zI 1 from rfl, zI_sub]
        congr 1; omega
      · have hil : i < J.length := (List.getElem?_eq_some_iff.mp hi).1
        have hJl' : J.length + 1 ≤ 6 := by simpa using hJl
        have hr := hJC.2 (i + 1) e (by rw [List.getElem?_cons_succ]; exact hi)
        have hrow : ∀ k, k < 20 → shW δ1 11 k = δ 11 (4 + k) := fun k hk => by
          unfold shW wrA va_cpy
          rw [if_pos rfl, show ix (4 : Int32) = 4 from rfl, show ix (0 : Int32) = 0 from rfl, show ix (20 : Int32) = 20 from rfl, if_pos (by omega), wr_ap, if_neg (by omega), k3 _ _ (by omega) (by omega)]
          congr 1
        rw [hrow _ (by omega), hrow _ (by omega), hrow _ (by omega), hrow _ (by omega)]
        rw [show 4 + 4 * i = 4 * (i + 1) by omega, show 4 + (4 * i + 1) = 4 * (i + 1) + 1 by omega, show 4 + (4 * i + 2) = 4 * (i + 1) + 2 by omega, show 4 + (4 * i + 3) = 4 * (i + 1) + 3 by omega]
        exact hr
    · intro a i g1 g2 g3 g4
      unfold shW wrA
      rw [if_neg g1, wr_ap, if_neg g2, k3 a i g3 g4]
  | cons x L =>
    have hx := ((hL x).mp (by simp)).1
    have b1 := cr_lt hC hx
    refine ⟨δ, ?_, ?_, ?_, fun _ _ _ _ _ _ => rfl⟩
    · rw [show hdS σ (x :: L) = zI (σ x : Int) from rfl]
      rw [if_pos (by rw [zI_lit, zI_le (by omega) (by omega) (by omega) (by omega)]; omega)]
    · rw [if_neg (by simp)]; exact hC
    · unfold jW
      rw [if_neg (by simp)]
      exact ⟨hJC.1, fun i e hi => by
        cases i with
        | zero =>
          simp at hi; subst hi
          exact hJC.2 0 (id, s, p, r, L0) rfl
        | succ i => exact hJC.2 (i + 1) e (by simpa using hi)⟩
theorem c_once {n S : Nat} {A : Ab} {dep : Nat → Nat} {δ : Sl} {σ : Nat → Nat} {bn : Nat} {N id s p r : Int} {x : Nat} {L : List Nat} {J : List Jb} (M : Mem) (hW : WF n S A dep) (hC : CRep δ σ bn A) (h : JA A ((id, s, p, r, x :: L) :: J) N) (hN : N < 2147483648) (hJC : JC δ ((id, s, p, r, x :: L) :: J)) :
    ∃ δ', Wo_workOnce M δ = some ((), δ') ∧ CRep δ' σ bn (aW A x id r L) ∧ WF n S (aW A x id r L) dep ∧ JC δ' (jW id s p r L J) ∧ JA (aW A x id r L) (jW id s p r L J) N ∧ (∀ a i, a ≠ 11 → ¬ (a = 10 ∧ i = 3) → (a < 17 ∨ 32 < a) → δ' a i = δ a i) ∧ δ' 17 19 = δ 17 19 := by
  obtain ⟨h0, hne⟩ := JA_0.mp h
  have h10 := JA0_10 h0 hN
  obtain ⟨e1, e2, e3, e4, e5, e7, e8⟩ := h0.1.2.2 _ (List.mem_cons_self ..)
  have e1' : 0 < id := e1
  have e2' : id ≤ N := e2
  have e5' : 1 ≤ r ∧ r ≤ 7 := e5
  have hL : ∀ y, y ∈ x :: L ↔ Lv A y ∧ A.1 10 y = id := e8
  have hx := (hL x).mp (by simp)
  have h11 : ∀ y, y ∈ x :: L → 0 ≤ A.1 11 y ∧ A.1 11 y < 192 := fun y hy => by
    have := (hL y).mp hy
    exact (h.2.2.1.2 y this.1).2.2 (by omega)
  have hf := c_first hC (fun x hx => (hW.2.2.2.1 x hx).1) ⟨e1', by omega⟩ h10 h11 hL e7
  have b1 := cr_lt hC hx.1
  have hrow := hJC.2 0 _ rfl
  have r0 : δ 11 0 = zI id := hrow.1
  have r3 : δ 11 3 = zI r := hrow.2.2.2
  have hwa := hW.2.2.2.1 x hx.1
  have h2a : 0 ≤ A.1 2 x ∧ A.1 2 x ≤ 7 := ⟨hwa.2.2.2.2.2.2.2.1, hwa.2.2.2.2.2.2.2.2.1⟩
  obtain ⟨n1, n2, n3⟩ := zI_an (r := r) h2a.1 h2a.2 (by omega) e5'.2
  have hw1 := cr_fld hC (a := 29) (j := 10) (d := x) (v := 0) (by omega) hx.1
  have hx1 : Lv (setA A 10 x 0) x := by
    refine ⟨hx.1.1, ?_⟩
    rw [setA_ne _ _ (by omega)]; exact hx.1.2
  have hw2 := cr_fld hw1 (a := 22) (j := 2) (d := x) (v := rwv A x r) (by omega) hx1
  have hib : inb (zI (σ x : Int)) 192 := by rw [zI_inb (by omega) (by omega)]; omega
  have hW1 : WF n S (aW1 A x (rwv A x r)) dep := aW1_WF hW n2 n3
  obtain ⟨q1, q2⟩ := JA_w1 (v := rwv A x r) h
  have hx1' : Lv (aW1 A x (rwv A x r)) x := (aW1_lv x).mpr hx.1
  have hfree : ∀ y, Lv (aW1 A x (rwv A x r)) y → bl (aW1 A x (rwv A x r)) x y = true → (aW1 A x (rwv A x r)).1 10 y = 0 := fun y hy hb => w_free hW h ((aW1_lv y).mp hy) (by rw [aW1_bl] at hb; exact hb)
  have e22 : δ 22 (σ x) = zI (A.1 2 x) := (hC.2.2.1 x hx.1).2.2.2.2.1
  have d9a : wr δ 29 (σ x) (0 : Int32) 22 (σ x) = zI (A.1 2 x) := by rw [wr_ap, if_neg (by omega), e22]
  have d9b : wr δ 29 (σ x) (0 : Int32) 11 3 = zI r := by rw [wr_ap, if_neg (by omega), r3]
  have d10 : wr (wr δ 29 (σ x) (zI 0)) 22 (σ x) (zI (rwv A x r)) 22 (σ x) = zI (rwv A x r) := by rw [wr_ap, if_pos ⟨rfl, rfl⟩]
  have hrun : Wo_workOnce M δ = if rwv A x r = 0 then (bd (De_remove (wr (wr δ 29 (σ x) (zI 0)) 22 (σ x) (zI (rwv A x r))) (zI (σ x : Int))) fun r11 d12 => Wo_workOnce_70 M (zI id) d12) else Wo_workOnce_70 M (zI id) (wr (wr δ 29 (σ x) (zI 0)) 22 (σ x) (zI (rwv A x r))) := by
    rw [Wo_workOnce, if_pos (by decide), show ix (0 : Int32) = 0 from rfl, r0, bnd_ap, hf, bp_some, bnd_ap]
    rw [show hdS σ (x :: L) = zI (σ x : Int) from rfl]
    rw [if_neg (by rw [zI_lit, zI_lt (by omega) (by omega) (by omega) (by omega)]; omega), if_pos hib, bnd_ap, if_pos hib, if_pos (by decide), if_pos hib, bnd_ap, if_pos hib, zI_ix (by omega) (by omega), Int.toNat_natCast, show ix (3 : Int32) = 3 from rfl, d9a, d9b, n1]
    have d10' : wr (wr δ 29 (σ x) 0) 22 (σ x) (zI (A.1 2 x - la (A.1 2 x) r)) 22 (σ x) = zI (rwv A x r) := d10
    rw [d10']
    by_cases c : rwv A x r = 0
    · rw [if_pos (by rw [c]; rfl), if_pos c]; rfl
    · have n2' : 0 ≤ rwv A x r := n2
      have n3' : rwv A x r ≤ 7 := n3
      rw [if_neg (by rw [zI_lit, zI_eq (by omega) (by omega) (by omega) (by omega)]; exact c), if_neg c]; rfl
  have hfr1 : ∀ a i, a ≠ 29 → a ≠ 22 → wr (wr δ 29 (σ x) (zI 0)) 22 (σ x) (zI (rwv A x r)) a i = δ a i := fun a i g1 g2 => by rw [wr_ap, if_neg (fun z => g2 z.1), wr_ap, if_neg (fun z => g1 z.1)]
  have hfin : ∀ (A2 : Ab) (δ2 : Sl), WF n S A2 dep → CRep δ2 σ bn A2 → JA0 A2 ((id, s, p, r, L) :: J) N → (∀ a i, a < 17 ∨ 32 < a → δ2 a i = δ a i) → δ2 17 19 = δ 17 19 → A2 = aW2 A x r →
      ∃ δ', Wo_workOnce_70 M (zI id) δ2 = some ((), δ') ∧ CRep δ' σ bn (aW A x id r L) ∧ WF n S (aW A x id r L) dep ∧ JC δ' (jW id s p r L J) ∧ JA (aW A x id r L) (jW id s p r L J) N ∧ (∀ a i, a ≠ 11 → ¬ (a = 10 ∧ i = 3) → (a < 17 ∨ 32 < a) → δ' a i = δ a i) ∧ δ' 17 19 = δ 17 19 := fun A2 δ2 hW2 hC2 hJ2 hfr h19 hA2 => by
    obtain ⟨δ', k1, k2, k3, k4⟩ := c_once70 (L0 := x :: L) M hW2 hC2 hJ2 hN (JC_keep hJC (hfr _ _ (by omega)) (fun i => hfr _ _ (by omega)))
    rw [hA2] at k2 hW2 hJ2
    refine ⟨δ', k1, k2, ?_, k3, ?_, fun a i g1 g2 g3 => by rw [k4 a i g1 g2 (by omega) (by omega), hfr a i g3], by rw [k4 _ _ (by omega) (by omega) (by omega) (by omega), h19]⟩
    · unfold aW
      by_cases c : L = []
      · rw [if_pos c]
        exact FC_WF (A := aW2 A x r) (A' := aE (aW2 A x r) id) ⟨rfl, fun i y hi => aE_ne (aW2 A x r) id (show i ≠ 9 by omega)⟩ hW2
      · rw [if_neg c]; exact hW2
    · unfold aW jW
      by_cases c : L = []
      · rw [if_pos c, if_pos c]
        refine JA_0.mpr ⟨?_, q2⟩
        rw [c] at hJ2
        exact JA_w3 hJ2
      · rw [if_neg c, if_neg c]
        refine JA_0.mpr ⟨hJ2, fun e he => ?_⟩
        rcases List.mem_cons.mp he with rfl | he
        · exact c
        · exact q2 e he
  rw [hrun]
  by_cases c : rwv A x r = 0
  · rw [if_pos c]
    obtain ⟨g, hg⟩ : ∃ g : Nat, A.1 3 x = (g : Int) + 1 := by
      have := h.2.2.2.2.2.2 x hx.1 (by omega)
      rcases gv_or hW hx.1 with ⟨z, -⟩ | ⟨g, z, -⟩
      · exact absurd z this
      · exact ⟨g, z⟩
    obtain ⟨δ2, k1, k2, k3, k4⟩ := cr_remove hW1 hw2 hx1' (g := g) (by rw [aW1_j (by omega) (by omega)]; exact hg)
    rw [k1, bd_some]
    exact hfin (aGo (aW1 A x (rwv A x r)) x) δ2 (WF_go hW1 hx1') k2 (JA_w2 hW1 hx1' hfree q1) (fun a i g => by rw [k3 a i g, hfr1 a i (by omega) (by omega)]) (by rw [k4, hfr1 _ _ (by omega) (by omega)]) (by unfold aW2; rw [if_pos c])
  · rw [if_neg c]
    exact hfin _ _ hW1 hw2 q1 (fun a i g => hfr1 a i (by omega) (by omega)) (hfr1 _ _ (by omega) (by omega)) (by unfold aW2; rw [if_neg c])
