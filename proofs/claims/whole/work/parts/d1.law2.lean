/-! ===== the law: arguments, what a call owes ===== -/
def bz (v : Int32) : Int32 := if v = 0 then 0 else 1
theorem inv_n0 {c n0 : Nat} {M : Mem} {μ : Sl} (hI : Inv c n0 M μ) : 2 ≤ n0 := by
  obtain ⟨n, S, k, w, s, t, nx, κ, B, C, h0, hR, -⟩ := hI
  have := hR.2.1
  omega
theorem inv_more {c n0 : Nat} {M : Mem} {μ : Sl} (hI : Inv c n0 M μ) : Inv (c + 1) n0 M μ := by
  obtain ⟨n, S, k, w, s, t, nx, κ, B, C, h0, hR, hk, hT, hP, hTB, hM, hwh, hK⟩ := hI
  exact ⟨n, S, k, w, s, t, nx, κ, B, C, by omega, hR, hk, hT, hP, hTB, hM, WH_mono hwh (by omega), (fun j hj => by
    obtain ⟨p, p1, p2, p3⟩ := hK.1 j hj
    exact ⟨p, p1, p2, WH_mono p3 (by omega)⟩), hK.2⟩
section LAW
variable {p : Program} {l : Launch} {e : Env} {s : State} {m : MethodId} {below : List Frame} {meth : Method} {c : Code} {b L : Nat} {xs : Nat → Int32} {Q : State → Prop} {H : Heap} {locs : List Loc} {cs ss : Nat} {ls : Array Slot} {lv : List (Nat × Value)} {pc : Nat} {st : List Value}
theorem nI_addn (i j : Nat) : nI i + nI j = nI (i + j) := by
  show Int32.ofNat i + Int32.ofNat j = Int32.ofNat (i + j)
  rw [zI_nI, zI_nI, zI_nI, zI_add, ← Int.natCast_add]
/-- script[i + j] -/
theorem lw_arg (hF : LF p s m c b L xs) (hLb : L ≤ 3072) (hS : va_S (LH s) s.heap H locs) (hl : lv_has ls 7 lv) {i j : Nat} {jv : Int} (h0 : ls[0]? = some (.val (.ref b))) (h4 : ls[4]? = some (.val (.int (nI i)))) (hj : i + j < L) (hjv : Int32.ofInt jv = nI j)
    (d0 : decode code pc = .ok (.aload_n 0, 1)) (d1 : decode code (pc + 1) = .ok (.iload 4, 2)) (d2 : decode code (pc + 3) = .ok (.iconst jv, 1)) (d3 : decode code (pc + 4) = .ok (.iadd, 1)) (d4 : decode code (pc + 5) = .ok (.iaload, 1))
    (kk : W p l e room_1 s m #[Value.ref b] below meth c H locs cs ss Q (F0 m (pc + 6) ls (.int (xs (i + j)) :: st))) : W p l e room_1 s m #[Value.ref b] below meth c H locs cs ss Q (F0 m pc ls st) := by
  obtain ⟨hx, hb, hml, hown, hts, hX, hbl⟩ := hF
  have hbA : ¬ LH s b := Nat.not_le.mpr hbl
  refine lv_aload_n hx hb d0 rfl h0 ?_
  refine lv_iload hx hb d1 h4 ?_
  refine lv_iconst (v := nI j) hx hb d2 hjv ?_
  refine lv_iadd hx hb d3 ?_
  rw [nI_addn]
  refine va_sld hx hb hX hbl hbA hS (vp_in_nI hj (by omega)) d4 ?_
  rw [nI_clamp (by omega)]
  exact kk
/-- a number as a truth -/
theorem lw_bool (hF : LF p s m c b L xs) {v : Int32} (d0 : decode code pc = .ok (.ifCond .eq 7, 3)) (d1 : decode code (pc + 3) = .ok (.iconst 1, 1)) (d2 : decode code (pc + 4) = .ok (.goto 4, 3)) (d3 : decode code (pc + 7) = .ok (.iconst 0, 1))
    (kk : W p l e room_1 s m #[Value.ref b] below meth c H locs cs ss Q (F0 m (pc + 8) ls (.int (bz v) :: st))) : W p l e room_1 s m #[Value.ref b] below meth c H locs cs ss Q (F0 m pc ls (.int v :: st)) := by
  obtain ⟨hx, hb, hml, hown, hts, hX, hbl⟩ := hF
  refine lv_if_eq (tgt := pc + 7) hx hb d0 (by omega) (fun h => ?_) (fun h => ?_)
  · rw [show bz v = 0 from if_pos h] at kk
    exact lv_iconst (v := 0) hx hb d3 (by decide) kk
  · rw [show bz v = 1 from if_neg h] at kk
    refine lv_iconst (v := 1) hx hb d1 (by decide) ?_
    exact lv_goto (tgt := pc + 8) hx hb d2 (by omega) kk
variable {D : va_G} {cA : ClassId} {qo qx qm n0 i cc : Nat} {M M1 : Mem} {μ μ1 : Sl} {Gx Gm : Geo}
/-- behind a call: the loop goes on at 1630 -/
def KK (p : Program) (l : Launch) (e : Env) (s : State) (m : MethodId) (below : List Frame) (meth : Method) (c : Code) (b : Nat) (Q : State → Prop) (D : va_G) (cA : ClassId) (qo qx qm : Nat) (Gm : Geo) (i cc cs ss : Nat) : Prop :=
  ∀ n1 M1 μ1 G1 H1 locs1 ls1, LWS s D cA qo n1 M1 μ1 G1 Gm H1 locs1 → G1.2.2.1 0 0 = qx → Inv (cc + 1) n1 M1 μ1 → lv_has ls1 7 [(0, .ref b), (1, .ref qx), (2, .ref qm), (3, .ref qo), (4, .int (nI i))] → W p l e room_1 s m #[Value.ref b] below meth c H1 locs1 (cs + 40) (ss + 4000) Q (F0 m 1630 ls1 [])
/-- the state ahead of a call -/
def KP0 (s : State) (D : va_G) (cA : ClassId) (qo qx qm b L i cc n0 : Nat) (M : Mem) (μ : Sl) (Gx Gm : Geo) (H : Heap) (locs : List Loc) (ls : Array Slot) (cs ss : Nat) : Prop :=
  LWS s D cA qo n0 M μ Gx Gm H locs ∧ Gx.2.2.1 0 0 = qx ∧ Gm.2.2.1 0 34 = qm ∧ Inv cc n0 M μ ∧ cc < 600 ∧ lv_has ls 7 [(0, .ref b), (1, .ref qx), (2, .ref qm), (3, .ref qo), (4, .int (nI i))] ∧ i + 6 ≤ L ∧ L ≤ 3072 ∧ (cs + 40 ≤ 601024 ∧ ss + 4000 ≤ 7293034)
end LAW
