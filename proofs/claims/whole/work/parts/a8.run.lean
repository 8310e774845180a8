theorem WX_ee {ee ef : Int × Int} {n S : Nat} {δ δ' : Sl} {B B' : Nat → Int} (h : WX ee n S δ B) (e1 : ∀ a i, a = 12 ∨ a = 13 ∨ a = 14 → δ' a i = δ a i) (e2 : ∀ i, i = 8 ∨ i = 12 ∨ i = 13 ∨ i = 14 → δ' 10 i = δ 10 i) (e3 : δ' 17 19 = δ 17 19) (e4 : ∀ k, 2172 ≤ k → k < 2202 → B' k = B k) (e5 : δ' 10 11 = zI ef.1 ∧ B' 2202 = ef.1 + ef.2 ∧ 0 ≤ ef.1 ∧ ef.1 ≤ 24) (e6 : ∀ i : Nat, i < 24 → ((i : Int) < ef.1 → δ' 16 i = zI (B' (2203 + i))) ∧ (ef.1 ≤ (i : Int) → B' (2203 + i) = -9)) : WX ef n S δ' B' := by
  obtain ⟨h1, h2, ⟨h3, h4⟩, ⟨h5, h6, h7, h8⟩, -, -⟩ := h
  refine ⟨fun s hs => ?_, fun s t hs ht q1 q2 q3 => ?_, ⟨?_, ?_⟩, ⟨?_, ?_, ?_, ?_⟩, e5, e6⟩
  · have w := h1 s hs
    unfold WT at w ⊢
    rw [e1 12 s (by omega), e1 13 s (by omega), e1 14 s (by omega), e4 (2172 + s) (by omega) (by omega), e4 (2178 + s) (by omega) (by omega), e4 (2184 + s) (by omega) (by omega), e4 (2190 + s) (by omega) (by omega), e4 2196 (by omega) (by omega)]
    exact w
  · rw [e4 (2172 + s) (by omega) (by omega)] at q1
    rw [e4 (2172 + t) (by omega) (by omega)] at q2
    rw [e4 (2190 + s) (by omega) (by omega), e4 (2190 + t) (by omega) (by omega)] at q3
    exact h2 s t hs ht q1 q2 q3
  · rw [e2 8 (by omega), e4 2196 (by omega) (by omega)]; exact h3
  · rw [e4 2196 (by omega) (by omega)]; exact h4
  · rw [e2 12 (by omega), e4 2199 (by omega) (by omega)]; exact h5
  · rw [e2 13 (by omega), e4 2200 (by omega) (by omega)]; exact h6
  · rw [e2 14 (by omega), e4 2201 (by omega) (by omega)]; exact h7
  · rw [e3, e4 2198 (by omega) (by omega)]; exact h8
theorem upB_ne {B : Nat → Int} {k i : Nat} {v : Int} (h : i ≠ k) : upB B k v i = B i := by rw [upB_ap, if_neg h]
theorem upB_at (B : Nat → Int) (k : Nat) (v : Int) : upB B k v k = v := by rw [upB_ap, if_pos rfl]
section
variable {n S : Nat} {A : Ab} {dep : Nat → Nat} {δ : Sl} {σ : Nat → Nat} {bn : Nat} {M : Mem} {μ : Sl} {b : Nat} {B : Nat → Int} {qv pv wv : Nat → Int} {J : List Jb} {N : Int}
theorem perf_on {e : Int} (hR : RC n S δ σ bn B A dep J N) (hX : WX (e, 0) n S δ B) (hN : N + 1 < 2147483648) (hW : B 2196 + 1 < 2147483648) (hb : MB μ b) (hS : SB M δ μ n S qv pv wv) {k : Nat} {c kd : Int} {x : (Nat → Int) × (Nat → Int)} (hk1 : δ 10 0 = zI (k : Int)) (hk2 : k < 2147483648) (hc : M k 4 10 = zI c) (hc1 : c ≤ 24) (h1 : e < c) (hD : SD n M k μ e.toNat kd x) :
    ∃ δ' σ' bn' μ' B' A' dep' J' N', Wo_performNext M δ = some ((), δ') ∧ (∀ K : Sl → Option (Int32 × Sl), (bd (Mo_lay (bst μ b B) (2202 : Int32) (zI e + (1 : Int32))) fun _ d5 => bd (Mo_stepDone d5 (zI e)) fun r6 d7 => bd (Mo_lay d7 ((2203 : Int32) + zI e) r6) fun _ d9 => K d9) = K (bst μ' b B')) ∧ RC n S δ' σ' bn' B' A' dep' J' N' ∧ WX (e + 1, 0) n S δ' B' ∧ SC μ μ' ∧ δ' 10 0 = δ 10 0 ∧ N' ≤ N + 1 ∧ B' 2196 ≤ B 2196 + 1 ∧ QMq μ n S B B' := by
  obtain ⟨y1, y2, y3, y4⟩ := hX.2.2.2.2.1
  have y5 := hX.2.2.2.2.2
  have y6 : 0 ≤ e := y3
  have hR1 : RC n S δ σ bn (upB B 2202 (e + 1)) A dep J N := RC_bank hR (fun i hi => upB_ne (by omega))
  have hX1 : WX (e, 1) n S δ (upB B 2202 (e + 1)) := WX_ee hX (fun _ _ _ => rfl) (fun _ _ => rfl) rfl (fun i _ _ => upB_ne (by omega)) ⟨y1, upB_at _ _ _, y3, y4⟩ (fun i hi => by rw [upB_ne (by omega)]; exact y5 i hi)
  obtain ⟨R1, R2, hcl, hmo, v, δ1, σ1, bn1, μ1, B1, A1, dep1, J1, N1, r1, r2, r3, r4, r5, r6, r7, r8, r9, r10⟩ := step_on hR1 hX1 hN (by rw [upB_ne (by omega)]; exact hW) hb hS hk1 hk2 hc hc1 h1 hD
  obtain ⟨z1, z2, -, z4⟩ := r5.2.2.2.2.1
  have z1 : δ1 10 11 = zI e := z1
  have z2 : B1 2202 = e + 1 := z2
  have z5 : ∀ i : Nat, i < 24 → ((i : Int) < e → δ1 16 i = zI (B1 (2203 + i))) ∧ (e ≤ (i : Int) → B1 (2203 + i) = -9) := r5.2.2.2.2.2
  have y7 : ((2203 : Int) + e).toNat = 2203 + e.toNat := by omega
  have hl1 : Mo_lay (bst μ b B) (2202 : Int32) (zI e + (1 : Int32)) = some ((), bst μ b (upB B 2202 (e + 1))) := by
    have t := m_lay hb B (k := 2202) (e + 1) (by omega) (by omega)
    rw [← zI_add] at t
    exact t
  have hl2 : Mo_lay (bst μ1 b B1) ((2203 : Int32) + zI e) (zI v) = some ((), bst μ1 b (upB B1 (2203 + e.toNat) v)) := by
    have t := m_lay (SC_MB r6 hb) B1 (k := 2203 + e) v (by omega) (by omega)
    rw [← zI_add, y7] at t
    exact t
  have hw : ∀ a i, ¬ (a = 16 ∧ i = e.toNat) → ¬ (a = 10 ∧ i = 11) → wr (wr δ1 16 e.toNat (zI v)) 10 11 (zI (e + 1)) a i = δ1 a i := by
    intro a i g1 g2
    rw [wr_ap, if_neg g2, wr_ap, if_neg g1]
  refine ⟨wr (wr δ1 16 e.toNat (zI v)) 10 11 (zI (e + 1)), σ1, bn1, μ1, upB B1 (2203 + e.toNat) v, A1, dep1, J1, N1, ?_, fun K => ?_, ?_, ?_, r6, ?_, r8, ?_, QMq.tr (QMq.same hR.1.1 (fun k hk => upB_ne (by omega))) (QMq.trans r10 r6 (QMq.same hR.1.1 (fun k hk => upB_ne (by omega))))⟩
  · have g : wr δ1 16 e.toNat (zI v) 10 11 = zI e := by rw [wr_ap, if_neg (by omega)]; exact z1
    rw [hcl, r1, bd_some, Wo_performNext_221, z1, if_pos (by rw [zI_inb (by omega) (by omega)]; omega), zI_ix (by omega) (by omega), bnd_ap, bnd_ap, g, show (1 : Int32) = zI 1 from rfl, zI_add]
  · rw [hl1, bd_some, hmo, r2, bd_some, hl2, bd_some]
  · exact RC_fld (RC_bank r4 (fun i hi => upB_ne (by omega))) (fun a i g => hw a i (by omega) (by omega)) (hw _ _ (by omega) (by omega)) (hw _ _ (by omega) (by omega))
  · refine WX_ee r5 (fun a i g => hw a i (by omega) (by omega)) (fun i g => hw _ _ (by omega) (by omega)) (hw _ _ (by omega) (by omega)) (fun i g1 g2 => upB_ne (by omega)) ⟨by rw [wr_ap, if_pos ⟨rfl, rfl⟩], ?_, by show 0 ≤ e + 1; omega, by show e + 1 ≤ 24; omega⟩ (fun i hi => ?_)
    · rw [upB_ne (by omega), z2]; show e + 1 = e + 1 + 0; omega
    · refine ⟨fun hj => ?_, fun hj => ?_⟩
      · have hi2 : (i : Int) < e + 1 := hj
        by_cases q : i = e.toNat
        · rw [wr_ap, if_neg (by omega), wr_ap, if_pos ⟨rfl, q⟩, q, upB_at]
        · rw [hw _ _ (by omega) (by omega), upB_ne (by omega)]; exact (z5 i hi).1 (by omega)
      · have hj2 : e + 1 ≤ (i : Int) := hj
        rw [upB_ne (by omega)]; exact (z5 i hi).2 (by omega)
  · rw [hw _ _ (by omega) (by omega)]; exact r7
  · rw [upB_ne (by omega)]; rw [upB_ne (by omega)] at r9; exact r9
theorem SD_SC {n : Nat} {M M' : Mem} {k : Nat} {μ μ' : Sl} {i : Nat} {kd : Int} {x : (Nat → Int) × (Nat → Int)} (h : SD n M k μ i kd x) (hs : SC μ μ') (hM : M' k = M k) : SD n M' k μ' i kd x := by
  obtain ⟨a1, a2, a3, a4, a5⟩ := h
  refine ⟨by rw [hM]; exact a1, fun j hj => by rw [hM]; exact a2 j hj, by rw [hs 43 _ (by omega) (by omega) (by omega)]; exact a3, fun j hj => by rw [hs 44 _ (by omega) (by omega) (by omega)]; exact a4 j hj, a5⟩
theorem SB_M {M M' : Mem} {δ μ : Sl} {n S : Nat} {qv pv wv : Nat → Int} {k : Nat} (h : SB M δ μ n S qv pv wv) (hk1 : δ 10 0 = zI (k : Int)) (hk2 : k < 2147483648) (hM : M' k = M k) : SB M' δ μ n S qv pv wv := by
  obtain ⟨⟨k1, a1, a2, a3⟩, b1, b2, ⟨k2, c1, c2, c3⟩, b3, b4, ⟨k3, d1, d2, d3⟩, b5, b6⟩ := h
  have e : ∀ j : Nat, j < 2147483648 → δ 10 0 = zI (j : Int) → j = k := by
    intro j hj ej
    rw [hk1] at ej
    have := (zI_eq (by omega) (by omega) (by omega) (by omega)).mp ej
    omega
  have := e k1 a2 a1
  have := e k2 c2 c1
  have := e k3 d2 d1
  subst k1 k2 k3
  exact ⟨⟨k, a1, a2, by rw [hM]; exact a3⟩, b1, b2, ⟨k, c1, c2, by rw [hM]; exact c3⟩, b3, b4, ⟨k, d1, d2, by rw [hM]; exact d3⟩, b5, b6⟩
end
