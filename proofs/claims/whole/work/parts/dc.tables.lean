/-! ===== the start: the tables of the class Reader ===== -/
def tbL : Nat → List Int := fun a => match a with
  | 48 => [654347424, 538154560, 592957472, 647828480, 89267380, 139560736, 642945024, 437780480, 253803136, 214617344, 687508736, 643389600]
  | 49 => [0, 0, 0, 1, 0, 1]
  | 50 => [5, 31, 3, 7, 1, 4]
  | 51 => [0, 1, 0, 1, 2, 3]
  | 52 => [0, 1, 0, 1, 2]
  | 53 => [0, 1, 2, 3, 4]
  | 54 => [0, 1, 5]
  | _ => [0]
def tv (a j : Nat) : Int32 := zI ((tbL a).getD j 0)
abbrev given : Cond := Cond.and given_1 narrow_1
theorem tab_48 {args : Array Value} {s : State} (hs : ∀ c ∈ flatC (Jvm.Cond.and given_1 narrow_1), c.before args s = true) (hts : ∀ w ∈ lw_tbl, w.before args s = true) : ∃ t : Nat, va_Z RX2 (stn 48) "[I" (.ref t) (LH s) s s.heap ∧ va_T .int t (tbn 48) (fun j => .int (tv 48 j)) (LH s) s s.heap := by
  have hA : ∀ a : Nat, a < s.heap.size → ¬ LH s a := fun a h => Nat.not_le.mpr h
  have harr := hs (Cond.arrayOf (.static "FrameHeirs$Reader" "WORDS" "[I") .int) (by decide +kernel)
  have hlen := va_eqt (hs (Cond.eq (.length (.static "FrameHeirs$Reader" "WORDS" "[I")) (.int 12)) (by decide +kernel))
  have h0 := va_eqt (hs (Cond.eq (.elem (.static "FrameHeirs$Reader" "WORDS" "[I") (.int 0)) (.int 654347424)) (by decide +kernel))
  have h1 := va_eqt (hs (Cond.eq (.elem (.static "FrameHeirs$Reader" "WORDS" "[I") (.int 1)) (.int 538154560)) (by decide +kernel))
  have h2 := va_eqt (hs (Cond.eq (.elem (.static "FrameHeirs$Reader" "WORDS" "[I") (.int 2)) (.int 592957472)) (by decide +kernel))
  have h3 := va_eqt (hs (Cond.eq (.elem (.static "FrameHeirs$Reader" "WORDS" "[I") (.int 3)) (.int 647828480)) (by decide +kernel))
  have h4 := va_eqt (hs (Cond.eq (.elem (.static "FrameHeirs$Reader" "WORDS" "[I") (.int 4)) (.int 89267380)) (by decide +kernel))
  have h5 := va_eqt (hs (Cond.eq (.elem (.static "FrameHeirs$Reader" "WORDS" "[I") (.int 5)) (.int 139560736)) (by decide +kernel))
  have h6 := va_eqt (hs (Cond.eq (.elem (.static "FrameHeirs$Reader" "WORDS" "[I") (.int 6)) (.int 642945024)) (by decide +kernel))
  have h7 := va_eqt (hs (Cond.eq (.elem (.static "FrameHeirs$Reader" "WORDS" "[I") (.int 7)) (.int 437780480)) (by decide +kernel))
  have h8 := va_eqt (hs (Cond.eq (.elem (.static "FrameHeirs$Reader" "WORDS" "[I") (.int 8)) (.int 253803136)) (by decide +kernel))
  have h9 := va_eqt (hs (Cond.eq (.elem (.static "FrameHeirs$Reader" "WORDS" "[I") (.int 9)) (.int 214617344)) (by decide +kernel))
  have h10 := va_eqt (hs (Cond.eq (.elem (.static "FrameHeirs$Reader" "WORDS" "[I") (.int 10)) (.int 687508736)) (by decide +kernel))
  have h11 := va_eqt (hs (Cond.eq (.elem (.static "FrameHeirs$Reader" "WORDS" "[I") (.int 11)) (.int 643389600)) (by decide +kernel))
  obtain ⟨t, ht, hT⟩ := va_Tof (N := 12) (f := fun j => .int (tv 48 j)) (A := LH s) (by decide) harr hlen (fun j hj => by
    match j, hj with
    | 0, _ => exact h0
    | 1, _ => exact h1
    | 2, _ => exact h2
    | 3, _ => exact h3
    | 4, _ => exact h4
    | 5, _ => exact h5
    | 6, _ => exact h6
    | 7, _ => exact h7
    | 8, _ => exact h8
    | 9, _ => exact h9
    | 10, _ => exact h10
    | 11, _ => exact h11
    | j + 12, h => omega) hA
  exact ⟨t, va_Zof (hts _ (mT2 (i := 122) rfl)) (hts _ (List.mem_filter.mp q145).1) ht hA, hT⟩
theorem tab_49 {args : Array Value} {s : State} (hs : ∀ c ∈ flatC (Jvm.Cond.and given_1 narrow_1), c.before args s = true) (hts : ∀ w ∈ lw_tbl, w.before args s = true) : ∃ t : Nat, va_Z RX2 (stn 49) "[I" (.ref t) (LH s) s s.heap ∧ va_T .int t (tbn 49) (fun j => .int (tv 49 j)) (LH s) s s.heap := by
  have hA : ∀ a : Nat, a < s.heap.size → ¬ LH s a := fun a h => Nat.not_le.mpr h
  have harr := hs (Cond.arrayOf (.static "FrameHeirs$Reader" "LOWEST" "[I") .int) (by decide +kernel)
  have hlen := va_eqt (hs (Cond.eq (.length (.static "FrameHeirs$Reader" "LOWEST" "[I")) (.int 6)) (by decide +kernel))
  have h0 := va_eqt (hs (Cond.eq (.elem (.static "FrameHeirs$Reader" "LOWEST" "[I") (.int 0)) (.int 0)) (by decide +kernel))
  have h1 := va_eqt (hs (Cond.eq (.elem (.static "FrameHeirs$Reader" "LOWEST" "[I") (.int 1)) (.int 0)) (by decide +kernel))
  have h2 := va_eqt (hs (Cond.eq (.elem (.static "FrameHeirs$Reader" "LOWEST" "[I") (.int 2)) (.int 0)) (by decide +kernel))
  have h3 := va_eqt (hs (Cond.eq (.elem (.static "FrameHeirs$Reader" "LOWEST" "[I") (.int 3)) (.int 1)) (by decide +kernel))
  have h4 := va_eqt (hs (Cond.eq (.elem (.static "FrameHeirs$Reader" "LOWEST" "[I") (.int 4)) (.int 0)) (by decide +kernel))
  have h5 := va_eqt (hs (Cond.eq (.elem (.static "FrameHeirs$Reader" "LOWEST" "[I") (.int 5)) (.int 1)) (by decide +kernel))
  obtain ⟨t, ht, hT⟩ := va_Tof (N := 6) (f := fun j => .int (tv 49 j)) (A := LH s) (by decide) harr hlen (fun j hj => by
    match j, hj with
    | 0, _ => exact h0
    | 1, _ => exact h1
    | 2, _ => exact h2
    | 3, _ => exact h3
    | 4, _ => exact h4
    | 5, _ => exact h5
    | j + 6, h => omega) hA
  exact ⟨t, va_Zof (hts _ (mT2 (i := 190) rfl)) (hts _ (List.mem_filter.mp q145).1) ht hA, hT⟩
theorem tab_50 {args : Array Value} {s : State} (hs : ∀ c ∈ flatC (Jvm.Cond.and given_1 narrow_1), c.before args s = true) (hts : ∀ w ∈ lw_tbl, w.before args s = true) : ∃ t : Nat, va_Z RX2 (stn 50) "[I" (.ref t) (LH s) s s.heap ∧ va_T .int t (tbn 50) (fun j => .int (tv 50 j)) (LH s) s s.heap := by
  have hA : ∀ a : Nat, a < s.heap.size → ¬ LH s a := fun a h => Nat.not_le.mpr h
  have harr := hs (Cond.arrayOf (.static "FrameHeirs$Reader" "HIGHEST" "[I") .int) (by decide +kernel)
  have hlen := va_eqt (hs (Cond.eq (.length (.static "FrameHeirs$Reader" "HIGHEST" "[I")) (.int 6)) (by decide +kernel))
  have h0 := va_eqt (hs (Cond.eq (.elem (.static "FrameHeirs$Reader" "HIGHEST" "[I") (.int 0)) (.int 5)) (by decide +kernel))
  have h1 := va_eqt (hs (Cond.eq (.elem (.static "FrameHeirs$Reader" "HIGHEST" "[I") (.int 1)) (.int 31)) (by decide +kernel))
  have h2 := va_eqt (hs (Cond.eq (.elem (.static "FrameHeirs$Reader" "HIGHEST" "[I") (.int 2)) (.int 3)) (by decide +kernel))
  have h3 := va_eqt (hs (Cond.eq (.elem (.static "FrameHeirs$Reader" "HIGHEST" "[I") (.int 3)) (.int 7)) (by decide +kernel))
  have h4 := va_eqt (hs (Cond.eq (.elem (.static "FrameHeirs$Reader" "HIGHEST" "[I") (.int 4)) (.int 1)) (by decide +kernel))
  have h5 := va_eqt (hs (Cond.eq (.elem (.static "FrameHeirs$Reader" "HIGHEST" "[I") (.int 5)) (.int 4)) (by decide +kernel))
  obtain ⟨t, ht, hT⟩ := va_Tof (N := 6) (f := fun j => .int (tv 50 j)) (A := LH s) (by decide) harr hlen (fun j hj => by
    match j, hj with
    | 0, _ => exact h0
    | 1, _ => exact h1
    | 2, _ => exact h2
    | 3, _ => exact h3
    | 4, _ => exact h4
    | 5, _ => exact h5
    | j + 6, h => omega) hA
  exact ⟨t, va_Zof (hts _ (mT2 (i := 192) rfl)) (hts _ (List.mem_filter.mp q145).1) ht hA, hT⟩
theorem tab_51 {args : Array Value} {s : State} (hs : ∀ c ∈ flatC (Jvm.Cond.and given_1 narrow_1), c.before args s = true) (hts : ∀ w ∈ lw_tbl, w.before args s = true) : ∃ t : Nat, va_Z RX2 (stn 51) "[I" (.ref t) (LH s) s s.heap ∧ va_T .int t (tbn 51) (fun j => .int (tv 51 j)) (LH s) s s.heap := by
  have hA : ∀ a : Nat, a < s.heap.size → ¬ LH s a := fun a h => Nat.not_le.mpr h
  have harr := hs (Cond.arrayOf (.static "FrameHeirs$Reader" "MAP_FORM" "[I") .int) (by decide +kernel)
  have hlen := va_eqt (hs (Cond.eq (.length (.static "FrameHeirs$Reader" "MAP_FORM" "[I")) (.int 6)) (by decide +kernel))
  have h0 := va_eqt (hs (Cond.eq (.elem (.static "FrameHeirs$Reader" "MAP_FORM" "[I") (.int 0)) (.int 0)) (by decide +kernel))
  have h1 := va_eqt (hs (Cond.eq (.elem (.static "FrameHeirs$Reader" "MAP_FORM" "[I") (.int 1)) (.int 1)) (by decide +kernel))
  have h2 := va_eqt (hs (Cond.eq (.elem (.static "FrameHeirs$Reader" "MAP_FORM" "[I") (.int 2)) (.int 0)) (by decide +kernel))
  have h3 := va_eqt (hs (Cond.eq (.elem (.static "FrameHeirs$Reader" "MAP_FORM" "[I") (.int 3)) (.int 1)) (by decide +kernel))
  have h4 := va_eqt (hs (Cond.eq (.elem (.static "FrameHeirs$Reader" "MAP_FORM" "[I") (.int 4)) (.int 2)) (by decide +kernel))
  have h5 := va_eqt (hs (Cond.eq (.elem (.static "FrameHeirs$Reader" "MAP_FORM" "[I") (.int 5)) (.int 3)) (by decide +kernel))
  obtain ⟨t, ht, hT⟩ := va_Tof (N := 6) (f := fun j => .int (tv 51 j)) (A := LH s) (by decide) harr hlen (fun j hj => by
    match j, hj with
    | 0, _ => exact h0
    | 1, _ => exact h1
    | 2, _ => exact h2
    | 3, _ => exact h3
    | 4, _ => exact h4
    | 5, _ => exact h5
    | j + 6, h => omega) hA
  exact ⟨t, va_Zof (hts _ (mT2 (i := 180) rfl)) (hts _ (List.mem_filter.mp q145).1) ht hA, hT⟩
theorem tab_52 {args : Array Value} {s : State} (hs : ∀ c ∈ flatC (Jvm.Cond.and given_1 narrow_1), c.before args s = true) (hts : ∀ w ∈ lw_tbl, w.before args s = true) : ∃ t : Nat, va_Z RX2 (stn 52) "[I" (.ref t) (LH s) s s.heap ∧ va_T .int t (tbn 52) (fun j => .int (tv 52 j)) (LH s) s s.heap := by
  have hA : ∀ a : Nat, a < s.heap.size → ¬ LH s a := fun a h => Nat.not_le.mpr h
  have harr := hs (Cond.arrayOf (.static "FrameHeirs$Reader" "GRANT_FORM" "[I") .int) (by decide +kernel)
  have hlen := va_eqt (hs (Cond.eq (.length (.static "FrameHeirs$Reader" "GRANT_FORM" "[I")) (.int 5)) (by decide +kernel))
  have h0 := va_eqt (hs (Cond.eq (.elem (.static "FrameHeirs$Reader" "GRANT_FORM" "[I") (.int 0)) (.int 0)) (by decide +kernel))
  have h1 := va_eqt (hs (Cond.eq (.elem (.static "FrameHeirs$Reader" "GRANT_FORM" "[I") (.int 1)) (.int 1)) (by decide +kernel))
  have h2 := va_eqt (hs (Cond.eq (.elem (.static "FrameHeirs$Reader" "GRANT_FORM" "[I") (.int 2)) (.int 0)) (by decide +kernel))
  have h3 := va_eqt (hs (Cond.eq (.elem (.static "FrameHeirs$Reader" "GRANT_FORM" "[I") (.int 3)) (.int 1)) (by decide +kernel))
  have h4 := va_eqt (hs (Cond.eq (.elem (.static "FrameHeirs$Reader" "GRANT_FORM" "[I") (.int 4)) (.int 2)) (by decide +kernel))
  obtain ⟨t, ht, hT⟩ := va_Tof (N := 5) (f := fun j => .int (tv 52 j)) (A := LH s) (by decide) harr hlen (fun j hj => by
    match j, hj with
    | 0, _ => exact h0
    | 1, _ => exact h1
    | 2, _ => exact h2
    | 3, _ => exact h3
    | 4, _ => exact h4
    | j + 5, h => omega) hA
  exact ⟨t, va_Zof (hts _ (mT2 (i := 182) rfl)) (hts _ (List.mem_filter.mp q145).1) ht hA, hT⟩
theorem tab_53 {args : Array Value} {s : State} (hs : ∀ c ∈ flatC (Jvm.Cond.and given_1 narrow_1), c.before args s = true) (hts : ∀ w ∈ lw_tbl, w.before args s = true) : ∃ t : Nat, va_Z RX2 (stn 53) "[I" (.ref t) (LH s) s s.heap ∧ va_T .int t (tbn 53) (fun j => .int (tv 53 j)) (LH s) s s.heap := by
  have hA : ∀ a : Nat, a < s.heap.size → ¬ LH s a := fun a h => Nat.not_le.mpr h
  have harr := hs (Cond.arrayOf (.static "FrameHeirs$Reader" "FLUSH_FORM" "[I") .int) (by decide +kernel)
  have hlen := va_eqt (hs (Cond.eq (.length (.static "FrameHeirs$Reader" "FLUSH_FORM" "[I")) (.int 5)) (by decide +kernel))
  have h0 := va_eqt (hs (Cond.eq (.elem (.static "FrameHeirs$Reader" "FLUSH_FORM" "[I") (.int 0)) (.int 0)) (by decide +kernel))
  have h1 := va_eqt (hs (Cond.eq (.elem (.static "FrameHeirs$Reader" "FLUSH_FORM" "[I") (.int 1)) (.int 1)) (by decide +kernel))
  have h2 := va_eqt (hs (Cond.eq (.elem (.static "FrameHeirs$Reader" "FLUSH_FORM" "[I") (.int 2)) (.int 2)) (by decide +kernel))
  have h3 := va_eqt (hs (Cond.eq (.elem (.static "FrameHeirs$Reader" "FLUSH_FORM" "[I") (.int 3)) (.int 3)) (by decide +kernel))
  have h4 := va_eqt (hs (Cond.eq (.elem (.static "FrameHeirs$Reader" "FLUSH_FORM" "[I") (.int 4)) (.int 4)) (by decide +kernel))
  obtain ⟨t, ht, hT⟩ := va_Tof (N := 5) (f := fun j => .int (tv 53 j)) (A := LH s) (by decide) harr hlen (fun j hj => by
    match j, hj with
    | 0, _ => exact h0
    | 1, _ => exact h1
    | 2, _ => exact h2
    | 3, _ => exact h3
    | 4, _ => exact h4
    | j + 5, h => omega) hA
  exact ⟨t, va_Zof (hts _ (mT2 (i := 184) rfl)) (hts _ (List.mem_filter.mp q145).1) ht hA, hT⟩
theorem tab_54 {args : Array Value} {s : State} (hs : ∀ c ∈ flatC (Jvm.Cond.and given_1 narrow_1), c.before args s = true) (hts : ∀ w ∈ lw_tbl, w.before args s = true) : ∃ t : Nat, va_Z RX2 (stn 54) "[I" (.ref t) (LH s) s s.heap ∧ va_T .int t (tbn 54) (fun j => .int (tv 54 j)) (LH s) s s.heap := by
  have hA : ∀ a : Nat, a < s.heap.size → ¬ LH s a := fun a h => Nat.not_le.mpr h
  have harr := hs (Cond.arrayOf (.static "FrameHeirs$Reader" "TOUCH_FORM" "[I") .int) (by decide +kernel)
  have hlen := va_eqt (hs (Cond.eq (.length (.static "FrameHeirs$Reader" "TOUCH_FORM" "[I")) (.int 3)) (by decide +kernel))
  have h0 := va_eqt (hs (Cond.eq (.elem (.static "FrameHeirs$Reader" "TOUCH_FORM" "[I") (.int 0)) (.int 0)) (by decide +kernel))
  have h1 := va_eqt (hs (Cond.eq (.elem (.static "FrameHeirs$Reader" "TOUCH_FORM" "[I") (.int 1)) (.int 1)) (by decide +kernel))
  have h2 := va_eqt (hs (Cond.eq (.elem (.static "FrameHeirs$Reader" "TOUCH_FORM" "[I") (.int 2)) (.int 5)) (by decide +kernel))
  obtain ⟨t, ht, hT⟩ := va_Tof (N := 3) (f := fun j => .int (tv 54 j)) (A := LH s) (by decide) harr hlen (fun j hj => by
    match j, hj with
    | 0, _ => exact h0
    | 1, _ => exact h1
    | 2, _ => exact h2
    | j + 3, h => omega) hA
  exact ⟨t, va_Zof (hts _ (mT2 (i := 186) rfl)) (hts _ (List.mem_filter.mp q145).1) ht hA, hT⟩
theorem tab_55 {args : Array Value} {s : State} (hs : ∀ c ∈ flatC (Jvm.Cond.and given_1 narrow_1), c.before args s = true) (hts : ∀ w ∈ lw_tbl, w.before args s = true) : ∃ t : Nat, va_Z RX2 (stn 55) "[I" (.ref t) (LH s) s s.heap ∧ va_T .int t (tbn 55) (fun j => .int (tv 55 j)) (LH s) s s.heap := by
  have hA : ∀ a : Nat, a < s.heap.size → ¬ LH s a := fun a h => Nat.not_le.mpr h
  have harr := hs (Cond.arrayOf (.static "FrameHeirs$Reader" "SERVE_FORM" "[I") .int) (by decide +kernel)
  have hlen := va_eqt (hs (Cond.eq (.length (.static "FrameHeirs$Reader" "SERVE_FORM" "[I")) (.int 1)) (by decide +kernel))
  have h0 := va_eqt (hs (Cond.eq (.elem (.static "FrameHeirs$Reader" "SERVE_FORM" "[I") (.int 0)) (.int 0)) (by decide +kernel))
  obtain ⟨t, ht, hT⟩ := va_Tof (N := 1) (f := fun j => .int (tv 55 j)) (A := LH s) (by decide) harr hlen (fun j hj => by
    match j, hj with
    | 0, _ => exact h0
    | j + 1, h => omega) hA
  exact ⟨t, va_Zof (hts _ (mT2 (i := 188) rfl)) (hts _ (List.mem_filter.mp q145).1) ht hA, hT⟩
theorem tab_of {args : Array Value} {s : State} (hs : ∀ c ∈ flatC (Jvm.Cond.and given_1 narrow_1), c.before args s = true) (hts : ∀ w ∈ lw_tbl, w.before args s = true) (a : Nat) : ∃ t : Nat, 48 ≤ a → a < 56 → va_Z RX2 (stn a) "[I" (.ref t) (LH s) s s.heap ∧ va_T .int t (tbn a) (fun j => .int (tv a j)) (LH s) s s.heap := by
  by_cases h : 48 ≤ a ∧ a < 56
  · have hc : a = 48 ∨ a = 49 ∨ a = 50 ∨ a = 51 ∨ a = 52 ∨ a = 53 ∨ a = 54 ∨ a = 55 := by omega
    rcases hc with e | e | e | e | e | e | e | e <;> subst e
    · obtain ⟨t, h1⟩ := tab_48 hs hts; exact ⟨t, fun _ _ => h1⟩
    · obtain ⟨t, h1⟩ := tab_49 hs hts; exact ⟨t, fun _ _ => h1⟩
    · obtain ⟨t, h1⟩ := tab_50 hs hts; exact ⟨t, fun _ _ => h1⟩
    · obtain ⟨t, h1⟩ := tab_51 hs hts; exact ⟨t, fun _ _ => h1⟩
    · obtain ⟨t, h1⟩ := tab_52 hs hts; exact ⟨t, fun _ _ => h1⟩
    · obtain ⟨t, h1⟩ := tab_53 hs hts; exact ⟨t, fun _ _ => h1⟩
    · obtain ⟨t, h1⟩ := tab_54 hs hts; exact ⟨t, fun _ _ => h1⟩
    · obtain ⟨t, h1⟩ := tab_55 hs hts; exact ⟨t, fun _ _ => h1⟩
  · exact ⟨0, fun h1 h2 => absurd ⟨h1, h2⟩ h⟩
theorem tv_tbl (a : Nat) : tbl (tv a) (tbL a) := fun i v h => by
  unfold tv
  rw [List.getD_eq_getElem?_getD, h]
  rfl
theorem tab_ne : ∀ x y : Fin 8, Int32.ofNat (tbn (48 + x.val)) = Int32.ofNat (tbn (48 + y.val)) → ((List.range (tbn (48 + x.val))).all fun j => decide (tv (48 + x.val) j = tv (48 + y.val) j)) = true → x = y := by decide +kernel
theorem tbn_f : ∀ x y : Fin 8, Int32.ofNat (tbn (48 + x.val)) = Int32.ofNat (tbn (48 + y.val)) → tbn (48 + x.val) = tbn (48 + y.val) := by decide +kernel
theorem tbn_inj {a a' : Nat} (h1 : 48 ≤ a) (h2 : a < 56) (h3 : 48 ≤ a') (h4 : a' < 56) (h : Int32.ofNat (tbn a) = Int32.ofNat (tbn a')) : tbn a = tbn a' := by
  have := tbn_f ⟨a - 48, by omega⟩ ⟨a' - 48, by omega⟩
  simp only [show 48 + (a - 48) = a by omega, show 48 + (a' - 48) = a' by omega] at this
  exact this h
