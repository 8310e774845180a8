theorem c_si {e : Int} (h0 : 0 ≤ e) (h1 : e < 24) {j : Nat} (hj : j < 7) : inb (zI (e * 7) + zI (j : Int)) 168 ∧ ix (zI (e * 7) + zI (j : Int)) = 7 * e.toNat + j := by
  rw [zI_add, zI_inb (by omega) (by omega), zI_ix (by omega) (by omega)]
  exact ⟨⟨by omega, by omega⟩, by omega⟩
theorem m_si {e : Int} (h0 : 0 ≤ e) (h1 : e < 24) {j : Nat} (hj : j < 6) : inb (zI (6 * e) + zI (j : Int)) 288 ∧ ix (zI (6 * e) + zI (j : Int)) = 6 * e.toNat + j := by
  rw [zI_add, zI_inb (by omega) (by omega), zI_ix (by omega) (by omega)]
  exact ⟨⟨by omega, by omega⟩, by omega⟩
theorem c_perf0 {n : Nat} {M : Mem} {δ μ : Sl} {k : Nat} {e c kd : Int} {x : (Nat → Int) × (Nat → Int)} (hk1 : δ 10 0 = zI (k : Int)) (hk2 : k < 2147483648) (hc : M k 4 10 = zI c) (hc1 : c ≤ 24) (he : δ 10 11 = zI e) (h0 : 0 ≤ e) (h1 : e < c) (hD : SD n M k μ e.toNat kd x) :
    Wo_performNext M δ = if zI kd = (7 : Int32) then bd (Wo_handOn M δ (zI (x.1 0)) ((4 : Int32) * zI (x.1 1) + zI (x.1 4)) (zI (x.1 2)) (zI (x.1 3)) (zI (x.1 5))) fun r d => Wo_performNext_221 M r d
      else if zI kd = (8 : Int32) then bd (Wo_giveAway M δ (zI (x.1 0)) ((4 : Int32) * zI (x.1 1) + zI (x.1 4)) (zI (x.1 2)) (zI (x.1 3))) fun r d => Wo_performNext_221 M r d
      else if zI kd = (9 : Int32) then (if zI (x.1 4) = (1 : Int32) then Wo_performNext_189 M (1 : Int32) (zI (x.1 3)) ((4 : Int32) * zI (x.1 1) + zI (x.1 2)) (zI (x.1 0)) δ else Wo_performNext_189 M (0 : Int32) (zI (x.1 3)) ((4 : Int32) * zI (x.1 1) + zI (x.1 2)) (zI (x.1 0)) δ)
      else if zI kd = (10 : Int32) then bd (Wo_touchPage M δ (zI (x.1 0)) (zI (x.1 1)) (zI (x.1 2))) fun r d => Wo_performNext_221 M r d
      else bd (Wo_serveFirst M δ (zI (x.1 0))) fun r d => Wo_performNext_221 M r d := by
  obtain ⟨d0, d1, -, -, -⟩ := hD
  have p0 : inb (zI (e * 7)) 168 := by rw [zI_inb (by omega) (by omega)]; omega
  have q0 : ix (zI (e * 7)) = 7 * e.toNat := by rw [zI_ix (by omega) (by omega)]; omega
  have p1 : inb (zI (e * 7) + (1 : Int32)) 168 := (c_si h0 (by omega) (j := 1) (by omega)).1
  have p2 : inb (zI (e * 7) + (2 : Int32)) 168 := (c_si h0 (by omega) (j := 2) (by omega)).1
  have p3 : inb (zI (e * 7) + (3 : Int32)) 168 := (c_si h0 (by omega) (j := 3) (by omega)).1
  have p4 : inb (zI (e * 7) + (4 : Int32)) 168 := (c_si h0 (by omega) (j := 4) (by omega)).1
  have p5 : inb (zI (e * 7) + (5 : Int32)) 168 := (c_si h0 (by omega) (j := 5) (by omega)).1
  have p6 : inb (zI (e * 7) + (6 : Int32)) 168 := (c_si h0 (by omega) (j := 6) (by omega)).1
  have q1 : ix (zI (e * 7) + (1 : Int32)) = 7 * e.toNat + (1 + 0) := (c_si h0 (by omega) (j := 1) (by omega)).2
  have q2 : ix (zI (e * 7) + (2 : Int32)) = 7 * e.toNat + (1 + 1) := (c_si h0 (by omega) (j := 2) (by omega)).2
  have q3 : ix (zI (e * 7) + (3 : Int32)) = 7 * e.toNat + (1 + 2) := (c_si h0 (by omega) (j := 3) (by omega)).2
  have q4 : ix (zI (e * 7) + (4 : Int32)) = 7 * e.toNat + (1 + 3) := (c_si h0 (by omega) (j := 4) (by omega)).2
  have q5 : ix (zI (e * 7) + (5 : Int32)) = 7 * e.toNat + (1 + 4) := (c_si h0 (by omega) (j := 5) (by omega)).2
  have q6 : ix (zI (e * 7) + (6 : Int32)) = 7 * e.toNat + (1 + 5) := (c_si h0 (by omega) (j := 6) (by omega)).2
  have f0 := d1 0 (by omega)
  have f1 := d1 1 (by omega)
  have f2 := d1 2 (by omega)
  have f3 := d1 3 (by omega)
  have f4 := d1 4 (by omega)
  have f5 := d1 5 (by omega)
  have s7 : zI e * (7 : Int32) = zI (e * 7) := by rw [show (7 : Int32) = zI 7 from rfl, zI_mul]
  rw [Wo_performNext, he, if_neg (by rw [zI_lit, zI_lt (by omega) (by omega) (by omega) (by omega)]; omega), if_neg (by rw [zI_lit, zI_le (by omega) (by omega) (by omega) (by omega)]; omega), hk1, gref_z hk2, hc, if_pos (by rw [zI_lt (by omega) (by omega) (by omega) (by omega)]; omega), gref_z hk2, s7]
  simp only [bnd_ap, if_pos p0, if_pos p1, if_pos p2, if_pos p3, if_pos p4, if_pos p5, if_pos p6, q0, q1, q2, q3, q4, q5, q6, d0, f0, f1, f2, f3, f4, f5]
theorem m_step0 {n : Nat} {M : Mem} {μ : Sl} {b : Nat} {B : Nat → Int} {k : Nat} {e kd : Int} {x : (Nat → Int) × (Nat → Int)} (h0 : 0 ≤ e) (h1 : e < 24) (hD : SD n M k μ e.toNat kd x) :
    Mo_stepDone (bst μ b B) (zI e) = if zI kd = (7 : Int32) then (bp (Mo_isPassing (bst μ b B) (zI (x.2 0)) ((4 : Int32) * zI (x.2 1) + zI (x.2 4)) (zI (x.2 2)) (zI (x.2 3))) fun r => if r = 0 then some ((-1 : Int32), bst μ b B) else bd (Mo_mapped (bst μ b B) (zI (x.2 0)) ((4 : Int32) * zI (x.2 1) + zI (x.2 4)) (zI (x.2 2)) (zI (x.2 3)) (zI (x.2 5))) fun r d => some (r, d))
      else if zI kd = (8 : Int32) then (bp (Mo_isPassing (bst μ b B) (zI (x.2 0)) ((4 : Int32) * zI (x.2 1) + zI (x.2 4)) (zI (x.2 2)) (zI (x.2 3))) fun r => if r = 0 then some ((-1 : Int32), bst μ b B) else bd (Mo_granted (bst μ b B) (zI (x.2 0)) ((4 : Int32) * zI (x.2 1) + zI (x.2 4)) (zI (x.2 2)) (zI (x.2 3))) fun r d => some (r, d))
      else if zI kd = (9 : Int32) then (bp (Mo_isRegion (bst μ b B) ((4 : Int32) * zI (x.2 1) + zI (x.2 2))) fun r => if r = 0 then some ((-1 : Int32), bst μ b B) else if zI (x.2 4) = (1 : Int32) then Mo_stepDone_212 (1 : Int32) (zI (x.2 3)) ((4 : Int32) * zI (x.2 1) + zI (x.2 2)) (zI (x.2 0)) (bst μ b B) else Mo_stepDone_212 (0 : Int32) (zI (x.2 3)) ((4 : Int32) * zI (x.2 1) + zI (x.2 2)) (zI (x.2 0)) (bst μ b B))
      else if zI kd = (10 : Int32) then (bp (Mo_isTouch (bst μ b B) (zI (x.2 0)) (zI (x.2 1)) (zI (x.2 2))) fun r => if r = 0 then some ((-1 : Int32), bst μ b B) else bd (Mo_touched (bst μ b B) (zI (x.2 0)) (zI (x.2 1)) (zI (x.2 2))) fun r d => some (r, d))
      else bd (Mo_served (bst μ b B) (zI (x.2 0))) fun r d => some (r, d) := by
  obtain ⟨-, -, d0, d1, -⟩ := hD
  have p0 : inb (zI (6 * e)) 288 := by rw [zI_inb (by omega) (by omega)]; omega
  have pe : inb (zI e) 48 := by rw [zI_inb (by omega) (by omega)]; omega
  have qe : ix (zI e) = e.toNat := by rw [zI_ix (by omega) (by omega)]
  have q0 : ix (zI (6 * e)) = 6 * e.toNat + 0 := by rw [zI_ix (by omega) (by omega)]; omega
  have p1 : inb (zI (6 * e) + (1 : Int32)) 288 := (m_si h0 h1 (j := 1) (by omega)).1
  have p2 : inb (zI (6 * e) + (2 : Int32)) 288 := (m_si h0 h1 (j := 2) (by omega)).1
  have p3 : inb (zI (6 * e) + (3 : Int32)) 288 := (m_si h0 h1 (j := 3) (by omega)).1
  have p4 : inb (zI (6 * e) + (4 : Int32)) 288 := (m_si h0 h1 (j := 4) (by omega)).1
  have p5 : inb (zI (6 * e) + (5 : Int32)) 288 := (m_si h0 h1 (j := 5) (by omega)).1
  have q1 : ix (zI (6 * e) + (1 : Int32)) = 6 * e.toNat + 1 := (m_si h0 h1 (j := 1) (by omega)).2
  have q2 : ix (zI (6 * e) + (2 : Int32)) = 6 * e.toNat + 2 := (m_si h0 h1 (j := 2) (by omega)).2
  have q3 : ix (zI (6 * e) + (3 : Int32)) = 6 * e.toNat + 3 := (m_si h0 h1 (j := 3) (by omega)).2
  have q4 : ix (zI (6 * e) + (4 : Int32)) = 6 * e.toNat + 4 := (m_si h0 h1 (j := 4) (by omega)).2
  have q5 : ix (zI (6 * e) + (5 : Int32)) = 6 * e.toNat + 5 := (m_si h0 h1 (j := 5) (by omega)).2
  have g : ∀ i, bst μ b B 44 i = μ 44 i := fun i => bst_ne μ b B (by omega)
  have g3 : ∀ i, bst μ b B 43 i = μ 43 i := fun i => bst_ne μ b B (by omega)
  have f0 := d1 0 (by omega)
  have f1 := d1 1 (by omega)
  have f2 := d1 2 (by omega)
  have f3 := d1 3 (by omega)
  have f4 := d1 4 (by omega)
  have f5 := d1 5 (by omega)
  have s7 : (6 : Int32) * zI e = zI (6 * e) := by rw [show (6 : Int32) = zI 6 from rfl, zI_mul]
  rw [Mo_stepDone, s7]
  simp only [bnd_ap, if_pos p0, if_pos p1, if_pos p2, if_pos p3, if_pos p4, if_pos p5, if_pos pe, q0, q1, q2, q3, q4, q5, qe, g, g3, d0, f0, f1, f2, f3, f4, f5]
section
variable {ee : Int × Int} {n S : Nat} {A : Ab} {dep : Nat → Nat} {δ : Sl} {σ : Nat → Nat} {bn : Nat} {M : Mem} {μ : Sl} {b : Nat} {B : Nat → Int} {qv pv wv : Nat → Int} {J : List Jb} {N : Int}
theorem step_on (hR : RC n S δ σ bn B A dep J N) (hX : WX ee n S δ B) (hN : N + 1 < 2147483648) (hW : B 2196 + 1 < 2147483648) (hb : MB μ b) (hS : SB M δ μ n S qv pv wv) {k : Nat} {c kd : Int} {x : (Nat → Int) × (Nat → Int)} (hk1 : δ 10 0 = zI (k : Int)) (hk2 : k < 2147483648) (hc : M k 4 10 = zI c) (hc1 : c ≤ 24) (h1 : ee.1 < c) (hD : SD n M k μ ee.1.toNat kd x) :
    ∃ R1 R2, Wo_performNext M δ = bd R1 (fun r d => Wo_performNext_221 M r d) ∧ Mo_stepDone (bst μ b B) (zI ee.1) = R2 ∧ WY ee n S δ μ b B N R1 R2 := by
  obtain ⟨y1, -, y3, y4⟩ := hX.2.2.2.2.1
  have hcl := c_perf0 hk1 hk2 hc hc1 y1 y3 h1 hD
  have hmo := m_step0 (b := b) (B := B) y3 (by omega) hD
  obtain ⟨-, -, -, -, ⟨t1, t2⟩, t3, t4, t5, t6⟩ := hD
  have ea : (4 : Int32) * zI (x.1 1) + zI (x.1 4) = zI (4 * x.1 1 + x.1 4) := by rw [lz4, zI_mul, zI_add]
  have eb : (4 : Int32) * zI (x.1 1) + zI (x.1 2) = zI (4 * x.1 1 + x.1 2) := by rw [lz4, zI_mul, zI_add]
  rw [ea, eb] at hcl
  by_cases k7 : kd = 7
  · have z : zI kd = (7 : Int32) := by rw [k7]; rfl
    have ar : arK kd = 6 := by rw [k7]; rfl
    obtain ⟨e0, b0, c0⟩ := t3 0 (by omega)
    obtain ⟨e1, b1, c1⟩ := t3 1 (by omega)
    obtain ⟨e2, b2, c2⟩ := t3 2 (by omega)
    obtain ⟨e3, b3, c3⟩ := t3 3 (by omega)
    obtain ⟨e4, b4, c4⟩ := t3 4 (by omega)
    obtain ⟨e5, b5, c5⟩ := t3 5 (by omega)
    rw [if_pos z] at hcl hmo
    simp only [e0, e1, e2, e3, e4, e5, ea] at hmo
    exact ⟨_, _, hcl, hmo, k7_on hR hX (by omega) hb hS ⟨by omega, by omega⟩ ⟨by omega, by omega⟩ ⟨by omega, by omega⟩ ⟨by omega, by omega⟩ (t4 k7)⟩
  have z7 : ¬ zI kd = (7 : Int32) := by rw [zI_lit, zI_eq (by omega) (by omega) (by omega) (by omega)]; exact k7
  rw [if_neg z7] at hcl hmo
  by_cases k8 : kd = 8
  · have z : zI kd = (8 : Int32) := by rw [k8]; rfl
    have ar : arK kd = 5 := by rw [k8]; rfl
    obtain ⟨e0, b0, c0⟩ := t3 0 (by omega)
    obtain ⟨e1, b1, c1⟩ := t3 1 (by omega)
    obtain ⟨e2, b2, c2⟩ := t3 2 (by omega)
    obtain ⟨e3, b3, c3⟩ := t3 3 (by omega)
    obtain ⟨e4, b4, c4⟩ := t3 4 (by omega)
    rw [if_pos z] at hcl hmo
    simp only [e0, e1, e2, e3, e4, ea] at hmo
    exact ⟨_, _, hcl, hmo, k8_on hR hX (by omega) hb hS ⟨by omega, by omega⟩ ⟨by omega, by omega⟩ ⟨by omega, by omega⟩ ⟨by omega, by omega⟩⟩
  have z8 : ¬ zI kd = (8 : Int32) := by rw [zI_lit, zI_eq (by omega) (by omega) (by omega) (by omega)]; exact k8
  rw [if_neg z8] at hcl hmo
  by_cases k9 : kd = 9
  · have z : zI kd = (9 : Int32) := by rw [k9]; rfl
    have ar : arK kd = 5 := by rw [k9]; rfl
    obtain ⟨e0, b0, c0⟩ := t3 0 (by omega)
    obtain ⟨e1, b1, c1⟩ := t3 1 (by omega)
    obtain ⟨e2, b2, c2⟩ := t3 2 (by omega)
    obtain ⟨e3, b3, c3⟩ := t3 3 (by omega)
    obtain ⟨e4, b4, c4⟩ := t3 4 (by omega)
    have ib : i32 (4 * x.1 1 + x.1 2) := ⟨by omega, by omega⟩
    rw [if_pos z] at hcl hmo
    simp only [e0, e1, e2, e3, e4, eb] at hmo
    obtain ⟨u1, u2⟩ := t5 k9
    by_cases w : zI (x.1 4) = (1 : Int32)
    · rw [if_pos w] at hcl
      simp only [if_pos w] at hmo
      exact ⟨_, _, hcl, hmo, k9_on hR hX hN hb hS u1 ib u2 1⟩
    · rw [if_neg w] at hcl
      simp only [if_neg w] at hmo
      exact ⟨_, _, hcl, hmo, k9_on hR hX hN hb hS u1 ib u2 0⟩
  have z9 : ¬ zI kd = (9 : Int32) := by rw [zI_lit, zI_eq (by omega) (by omega) (by omega) (by omega)]; exact k9
  rw [if_neg z9] at hcl hmo
  by_cases k10 : kd = 10
  · have z : zI kd = (10 : Int32) := by rw [k10]; rfl
    have ar : arK kd = 3 := by rw [k10]; rfl
    obtain ⟨e0, b0, c0⟩ := t3 0 (by omega)
    obtain ⟨e1, b1, c1⟩ := t3 1 (by omega)
    obtain ⟨e2, b2, c2⟩ := t3 2 (by omega)
    rw [if_pos z] at hcl hmo
    simp only [e0, e1, e2] at hmo
    exact ⟨_, _, hcl, hmo, k10_on hR hX hW hb hS ⟨by omega, by omega⟩ ⟨by omega, by omega⟩ ⟨by omega, by omega⟩⟩
  have z10 : ¬ zI kd = (10 : Int32) := by rw [zI_lit, zI_eq (by omega) (by omega) (by omega) (by omega)]; exact k10
  have ar : 0 < arK kd := by unfold arK; rw [if_neg k7, if_neg (by omega), if_neg k10]; omega
  obtain ⟨e0, b0, c0⟩ := t3 0 ar
  rw [if_neg z10] at hcl hmo
  simp only [e0] at hmo
  exact ⟨_, _, hcl, hmo, k11_on hR hX (by omega) hW hb hS (t6 k7 k8 k9 k10)⟩
end
