/-! ===== the law from its entry ===== -/
abbrev LX0 : List (Nat × Nat) := [(0, 3), (4, 10), (4, 16), (4, 15), (4, 14), (4, 13), (4, 12), (4, 11), (4, 17), (4, 33), (4, 32), (4, 31), (4, 30), (4, 29), (4, 28), (4, 27), (4, 26), (4, 25), (4, 24), (4, 23), (4, 22), (4, 21), (4, 20), (4, 19), (4, 18), (3, 10), (3, 16), (3, 15), (3, 14), (3, 13), (3, 12), (3, 11), (3, 17), (3, 33), (3, 32), (3, 31), (3, 30), (3, 29), (3, 28), (3, 27), (3, 26), (3, 25), (3, 24), (3, 23), (3, 22), (3, 21), (3, 20), (3, 19), (3, 18), (2, 10), (2, 16), (2, 15), (2, 14), (2, 13), (2, 12), (2, 11), (2, 17), (2, 33), (2, 32), (2, 31), (2, 30), (2, 29), (2, 28), (2, 27), (2, 26), (2, 25), (2, 24), (2, 23), (2, 22), (2, 21), (2, 20), (2, 19), (2, 18), (1, 4), (1, 9), (1, 8), (1, 7), (1, 6), (1, 5), (0, 2), (0, 4), (0, 9), (0, 8), (0, 7), (0, 6), (0, 5), (0, 1)]
abbrev LM0 : List (Nat × Nat) := [(0, 47), (0, 46), (0, 45), (0, 44), (0, 43), (0, 42), (0, 41), (0, 40), (0, 39), (0, 38), (0, 37), (0, 36), (0, 35)]
theorem LX0_in : ∀ q ∈ LX0, q.1 < 5 ∧ q.2 < 34 ∧ q.2 ≠ 0 ∧ ((q.1 = 0 ∧ q.2 < 4) ∨ (q.1 < 2 ∧ 4 ≤ q.2 ∧ q.2 < 10) ∨ (2 ≤ q.1 ∧ 10 ≤ q.2)) := by decide +kernel
theorem LX0_all : ∀ (k : Fin 5) (a : Fin 34), ((k.val = 0 ∧ a.val < 4) ∨ (k.val < 2 ∧ 4 ≤ a.val ∧ a.val < 10) ∨ (2 ≤ k.val ∧ 10 ≤ a.val)) → a.val ≠ 0 → (k.val, a.val) ∈ LX0 := by decide +kernel
theorem LM0_in : ∀ q ∈ LM0, q.1 = 0 ∧ 34 < q.2 ∧ q.2 < 48 := by decide +kernel
theorem LM0_all : ∀ a : Fin 13, (0, 35 + a.val) ∈ LM0 := by decide +kernel
theorem dnW_tbl : ∀ w ∈ dnW, w ∈ lw_tbl := by decide +kernel
theorem cstW_tbl : ∀ w ∈ cstW, w ∈ lw_tbl := by decide +kernel
theorem Holds.ext' {G : Geo} {M M1 : Mem} {H : Heap} (h : Holds G M H) (he : ∀ k a, G.2.2.2 k a → M1 k a = M k a) : Holds G M1 H := ⟨fun k a hl => by rw [he k a hl]; exact h.1 k a hl, fun k a hl => by rw [he k a hl]; exact h.2 k a hl⟩
theorem st_D {args : Array Value} {s : State} (hs : ∀ c ∈ flatC (Jvm.Cond.and given_1 narrow_1), c.before args s = true) (hts : ∀ w ∈ lw_tbl, w.before args s = true) : DX (LH s) s ∧ va_Nc NSE IOE s ∧ ∀ w ∈ cstW, w.before #[] s = true := by
  have hA : ∀ a : Nat, a < s.heap.size → ¬ LH s a := fun a h => Nat.not_le.mpr h
  have e1 : (Cond.exactly (.string "FrameHeirs" 162) "java/lang/String").before args s = true := hs _ (by decide +kernel)
  have e2 : (Cond.exactly (.string "FrameHeirs" 169) "java/lang/String").before args s = true := hs _ (by decide +kernel)
  obtain ⟨sa, -, -, -, q1, -⟩ := Cond.exactly_spec (args := args) (first := s) (o := none) (s := s) (idx := []) e1
  obtain ⟨sb, -, -, -, q2, -⟩ := Cond.exactly_spec (args := args) (first := s) (o := none) (s := s) (idx := []) e2
  refine ⟨⟨⟨sa, vk_R.of (A := args) (hts _ (mT5 (i := 71) rfl)) q1⟩, ⟨sb, vk_R.of (A := args) (hts _ (mT5 (i := 107) rfl)) q2⟩, ?_, ?_, fun w hw => dn_any (dnW_on w hw) (hts w (dnW_tbl w hw))⟩, va_Nc.of (hs (.not (.castable NSE IOE)) (by decide +kernel)), fun w hw => dn_any (cstW_on w hw) (hts w (cstW_tbl w hw))⟩
  · exact vx_Zqof (hts _ (mT5 (i := 58) rfl)) (hts (.initialized "java/lang/Throwable") (by decide +kernel)) (hs (.isRef (.static Bundle.tN "UNASSIGNED_STACK" Bundle.steD)) (by decide +kernel)) hA
  · exact vx_Zqof (hts _ (mT5 (i := 60) rfl)) (hts (.initialized "java/lang/Throwable") (by decide +kernel)) (hs (.isRef (.static Bundle.tN "SUPPRESSED_SENTINEL" Bundle.listD)) (by decide +kernel)) hA
theorem tx_mem {k a : Nat} (h : k ≠ 0 ∨ a ≠ 64) (h2 : k ≠ 0 ∨ a ≠ 65) (r : Nat → Int32) : wrAM mem0 0 64 r k a = mem0 k a ∧ wrAM mem0 0 65 r k a = mem0 k a := ⟨wrAM_ne _ _ _ _ _ _ (by omega), wrAM_ne _ _ _ _ _ _ (by omega)⟩
