/-! ===== a space begins to wait ===== -/
def PK (M : Mem) (δ : Sl) (n : Nat) (pv : Nat → Int) : Prop := ∃ k : Nat, δ 10 0 = zI (k : Int) ∧ k < 2147483648 ∧ ∀ s, s < n → M k 6 s = zI (pv s)
def PM (μ : Sl) (n : Nat) (pv : Nat → Int) : Prop := ∀ s, s < n → μ 38 s = zI (pv s)
def PN (n : Nat) (pv : Nat → Int) : Prop := ∀ s, s < n → -1 ≤ pv s ∧ pv s < (n : Int)
def wtS (δ : Sl) (s : Nat) (p r st : Int) : Sl := wr (wr (wr (wr (wr δ 12 s (zI p)) 13 s (zI r)) 10 8 (zI st)) 14 s (zI st)) 10 12 (δ 10 12 + 1)
def wtB (B : Nat → Int) (s : Nat) (p r : Int) : Nat → Int := upB (upB (upB (upB (upB (upB B 2199 (B 2199 + 1)) 2196 (B 2196 + 1)) (2172 + s) 1) (2178 + s) p) (2184 + s) r) (2190 + s) (B 2196 + 1)
theorem c_wait {M : Mem} {δ : Sl} {s : Nat} {p r st : Int} (hs : s < 6) (h8 : δ 10 8 = zI st) : Wo_startWait M δ (zI (s : Int)) (zI p) (zI r) = some ((), wtS δ s p r (st + 1)) := by
  have hib : inb (zI (s : Int)) 6 := by rw [zI_inb (by omega) (by omega)]; omega
  have e8 : wr (wr δ 12 s (zI p)) 13 s (zI r) 10 8 = zI st := by rw [wr_ap, if_neg (by omega), wr_ap, if_neg (by omega), h8]
  have e9 : ∀ v, wr (wr (wr δ 12 s (zI p)) 13 s (zI r)) 10 8 v 10 8 = v := fun v => by rw [wr_ap, if_pos ⟨rfl, rfl⟩]
  have e12 : ∀ v w, wr (wr (wr (wr δ 12 s (zI p)) 13 s (zI r)) 10 8 v) 14 s w 10 12 = δ 10 12 := fun v w => by rw [wr_ap, if_neg (by omega), wr_ap, if_neg (by omega), wr_ap, if_neg (by omega), wr_ap, if_neg (by omega)]
  rw [Wo_startWait, if_pos hib, bnd_ap, if_pos hib, bnd_ap, bnd_ap, if_pos hib, bnd_ap, bnd_ap, zI_ix (by omega) (by omega), Int.toNat_natCast, e8, e9, e12, show (1 : Int32) = zI 1 from rfl, zI_add]
  rfl
theorem m_wait {μ : Sl} {b : Nat} {B : Nat → Int} (hb : MB μ b) {s : Nat} {p r : Int} (hs : s < 6) : Mo_waitsFor (bst μ b B) (zI (s : Int)) (zI p) (zI r) = some ((), bst μ b (wtB B s p r)) := by
  have o1 := m_more hb B (k := 2199) (by omega) (by omega)
  rw [show (2199 : Int).toNat = 2199 from rfl] at o1
  have o2 := m_more hb (upB B 2199 (B 2199 + 1)) (k := 2196) (by omega) (by omega)
  rw [show (2196 : Int).toNat = 2196 from rfl, upB_ap, if_neg (by omega)] at o2
  have adn : ∀ k : Nat, zI (k : Int) + zI (s : Int) = zI ((k + s : Nat) : Int) := fun k => by rw [zI_add]; rfl
  have ly : ∀ (B' : Nat → Int) (k : Nat) (v : Int), k + s < 2227 → Mo_lay (bst μ b B') (zI (k : Int) + zI (s : Int)) (zI v) = some ((), bst μ b (upB B' (k + s) v)) := fun B' k v hk => by
    have := m_lay hb B' (k := ((k + s : Nat) : Int)) v (by omega) (by omega)
    rw [Int.toNat_natCast] at this
    rw [adn, this]
  have o3 := m_of hb (upB (upB (upB (upB (upB B 2199 (B 2199 + 1)) 2196 (B 2196 + 1)) (2172 + s) 1) (2178 + s) p) (2184 + s) r) (k := 2196) (by omega) (by omega)
  rw [show (2196 : Int).toNat = 2196 from rfl, upB_ap, if_neg (by omega), upB_ap, if_neg (by omega), upB_ap, if_neg (by omega), upB_ap, if_pos rfl] at o3
  rw [Mo_waitsFor, show (2199 : Int32) = zI 2199 from rfl, o1, bd_some, show (2196 : Int32) = zI 2196 from rfl, o2, bd_some, show (2172 : Int32) = zI ((2172 : Nat) : Int) from rfl, show (1 : Int32) = zI 1 from rfl, ly _ 2172 _ (by omega), bd_some, show (2178 : Int32) = zI ((2178 : Nat) : Int) from rfl, ly _ 2178 _ (by omega), bd_some, show (2184 : Int32) = zI ((2184 : Nat) : Int) from rfl, ly _ 2184 _ (by omega), bd_some, o3, bp_some, show (2190 : Int32) = zI ((2190 : Nat) : Int) from rfl, ly _ 2190 _ (by omega), bd_some]
  rfl
theorem wt_WX {ee : Int × Int} {n S : Nat} {δ : Sl} {B : Nat → Int} {s : Nat} {p r : Int} (h : WX ee n S δ B) (hs : s < 6) (hsn : s < n) (h0 : B (2172 + s) = 0) (hp1 : 0 ≤ p) (hp2 : p < (S : Int)) (hr : r = 1 ∨ r = 2 ∨ r = 4) : WX ee n S (wtS δ s p r (B 2196 + 1)) (wtB B s p r) := by
  obtain ⟨h1, h2, ⟨h3, h3'⟩, ⟨h4, h5, h6, h7⟩, ⟨h8, h9, h9'⟩, h10⟩ := h
  have bv : ∀ k, wtB B s p r k = if k = 2190 + s then B 2196 + 1 else if k = 2184 + s then r else if k = 2178 + s then p else if k = 2172 + s then 1 else if k = 2196 then B 2196 + 1 else if k = 2199 then B 2199 + 1 else B k := fun k => by unfold wtB; simp only [upB_ap]
  have dv : ∀ a i, wtS δ s p r (B 2196 + 1) a i = if a = 10 ∧ i = 12 then δ 10 12 + 1 else if a = 14 ∧ i = s then zI (B 2196 + 1) else if a = 10 ∧ i = 8 then zI (B 2196 + 1) else if a = 13 ∧ i = s then zI r else if a = 12 ∧ i = s then zI p else δ a i := fun a i => by unfold wtS; simp only [wr_ap]
  have bo : ∀ k, k ≠ 2190 + s → k ≠ 2184 + s → k ≠ 2178 + s → k ≠ 2172 + s → k ≠ 2196 → k ≠ 2199 → wtB B s p r k = B k := fun k g1 g2 g3 g4 g5 g6 => by rw [bv, if_neg g1, if_neg g2, if_neg g3, if_neg g4, if_neg g5, if_neg g6]
  have b96 : wtB B s p r 2196 = B 2196 + 1 := by rw [bv, if_neg (by omega), if_neg (by omega), if_neg (by omega), if_neg (by omega), if_pos rfl]
  have bs : wtB B s p r (2190 + s) = B 2196 + 1 ∧ wtB B s p r (2184 + s) = r ∧ wtB B s p r (2178 + s) = p ∧ wtB B s p r (2172 + s) = 1 := by
    refine ⟨by rw [bv, if_pos rfl], ?_, ?_, ?_⟩
    · rw [bv, if_neg (by omega), if_pos rfl]
    · rw [bv, if_neg (by omega), if_neg (by omega), if_pos rfl]
    · rw [bv, if_neg (by omega), if_neg (by omega), if_neg (by omega), if_pos rfl]
  have ds : wtS δ s p r (B 2196 + 1) 14 s = zI (B 2196 + 1) ∧ wtS δ s p r (B 2196 + 1) 13 s = zI r ∧ wtS δ s p r (B 2196 + 1) 12 s = zI p := by
    refine ⟨?_, ?_, ?_⟩
    · rw [dv, if_neg (by omega), if_pos ⟨rfl, rfl⟩]
    · rw [dv, if_neg (by omega), if_neg (by omega), if_neg (by omega), if_pos ⟨rfl, rfl⟩]
    · rw [dv, if_neg (by omega), if_neg (by omega), if_neg (by omega), if_neg (by omega), if_pos ⟨rfl, rfl⟩]
  have dn : ∀ a i, ¬ (a = 10 ∧ i = 12) → ¬ (a = 14 ∧ i = s) → ¬ (a = 10 ∧ i = 8) → ¬ (a = 13 ∧ i = s) → ¬ (a = 12 ∧ i = s) → wtS δ s p r (B 2196 + 1) a i = δ a i := fun a i g1 g2 g3 g4 g5 => by rw [dv, if_neg g1, if_neg g2, if_neg g3, if_neg g4, if_neg g5]
  refine ⟨fun t ht => ?_, fun t u ht hu g1 g2 g3 => ?_, ⟨?_, ?_⟩, ⟨?_, ?_, ?_, ?_⟩, ⟨?_, ?_, ?_⟩, fun i hi => ?_⟩
  · by_cases c : t = s
    · subst c
      refine .inr ⟨bs.2.2.2, hsn, by rw [ds.1, bs.1], by rw [bs.1]; omega, by rw [bs.1, b96]; omega, by rw [ds.2.2, bs.2.2.1], by rw [bs.2.2.1]; exact hp1, by rw [bs.2.2.1]; exact hp2, by rw [ds.2.1, bs.2.1], by rw [bs.2.1]; exact hr⟩
    · have := h1 t ht
      unfold WT at this ⊢
      rw [dn 14 t (by omega) (by omega) (by omega) (by omega) (by omega), dn 13 t (by omega) (by omega) (by omega) (by omega) (by omega), dn 12 t (by omega) (by omega) (by omega) (by omega) (by omega), bo (2172 + t) (by omega) (by omega) (by omega) (by omega) (by omega) (by omega), bo (2178 + t) (by omega) (by omega) (by omega) (by omega) (by omega) (by omega), bo (2184 + t) (by omega) (by omega) (by omega) (by omega) (by omega) (by omega), bo (2190 + t) (by omega) (by omega) (by omega) (by omega) (by omega) (by omega), b96]
      rcases this with z | ⟨z1, z2, z3, z4, z5, z6⟩
      · exact .inl z
      · exact .inr ⟨z1, z2, z3, z4, by omega, z6⟩
  · by_cases c1 : t = s <;> by_cases c2 : u = s
    · omega
    · subst c1
      rw [bs.1, bo (2190 + u) (by omega) (by omega) (by omega) (by omega) (by omega) (by omega)] at g3
      rw [bo (2172 + u) (by omega) (by omega) (by omega) (by omega) (by omega) (by omega)] at g2
      rcases h1 u hu with z | ⟨z1, z2, z3, z4, z5, z6⟩
      · omega
      · omega
    · subst c2
      rw [bs.1, bo (2190 + t) (by omega) (by omega) (by omega) (by omega) (by omega) (by omega)] at g3
      rw [bo (2172 + t) (by omega) (by omega) (by omega) (by omega) (by omega) (by omega)] at g1
      rcases h1 t ht with z | ⟨z1, z2, z3, z4, z5, z6⟩
      · omega
      · omega
    · rw [bo (2190 + t) (by omega) (by omega) (by omega) (by omega) (by omega) (by omega), bo (2190 + u) (by omega) (by omega) (by omega) (by omega) (by omega) (by omega)] at g3
      rw [bo (2172 + t) (by omega) (by omega) (by omega) (by omega) (by omega) (by omega)] at g1
      rw [bo (2172 + u) (by omega) (by omega) (by omega) (by omega) (by omega) (by omega)] at g2
      exact h2 t u ht hu g1 g2 g3
  · rw [b96, dv, if_neg (by omega), if_neg (by omega), if_pos ⟨rfl, rfl⟩]
  · rw [b96]; omega
  · rw [dv, if_pos ⟨rfl, rfl⟩, h4, show (1 : Int32) = zI 1 from rfl, zI_add, bv, if_neg (by omega), if_neg (by omega), if_neg (by omega), if_neg (by omega), if_neg (by omega), if_pos rfl]
  · rw [dn _ _ (by omega) (by omega) (by omega) (by omega) (by omega), bo _ (by omega) (by omega) (by omega) (by omega) (by omega) (by omega)]; exact h5
  · rw [dn _ _ (by omega) (by omega) (by omega) (by omega) (by omega), bo _ (by omega) (by omega) (by omega) (by omega) (by omega) (by omega)]; exact h6
  · rw [dn _ _ (by omega) (by omega) (by omega) (by omega) (by omega), bo _ (by omega) (by omega) (by omega) (by omega) (by omega) (by omega)]; exact h7
  · rw [dn _ _ (by omega) (by omega) (by omega) (by omega) (by omega)]; exact h8
  · rw [bo _ (by omega) (by omega) (by omega) (by omega) (by omega) (by omega)]; exact h9
  · exact h9'
  · have h10b := h10 i hi
    have hi24 : i < 24 := by have := h9'.2; omega
    rw [dn _ _ (by omega) (by omega) (by omega) (by omega) (by omega), bo _ (by omega) (by omega) (by omega) (by omega) (by omega) (by omega)]; exact h10b
theorem wt_RC {n S : Nat} {δ : Sl} {σ : Nat → Nat} {bn : Nat} {B : Nat → Int} {A : Ab} {dep : Nat → Nat} {J : List Jb} {N : Int} {s : Nat} {p r st : Int} (h : RC n S δ σ bn B A dep J N) (hs : s < 6) : RC n S (wtS δ s p r st) σ bn (wtB B s p r) A dep J N := by
  refine RC_bank (RC_fld h (fun a i ha => ?_) ?_ ?_) (fun k hk => ?_)
  · unfold wtS; simp only [wr_ap]; simp (disch := omega) only [if_neg]
  · unfold wtS; simp only [wr_ap]; simp (disch := omega) only [if_neg]
  · unfold wtS; simp only [wr_ap]; simp (disch := omega) only [if_neg]
  · unfold wtB; simp only [upB_ap]; simp (disch := omega) only [if_neg]
