abbrev vwc : List vw_C := [(RX0, TX0, 20), (RX2, TX2, 11), (RX3, TX3, 12), (RX4, TX4, 15), (RX5, TX5, 10), (RX6, TX6, 32)]
def cs0 : List (Nat × Nat) := [(1, 1), (0, 0), (2, 4), (1, 2), (2, 10), (2, 10), (2, 10), (1, 3), (0, 0), (0, 0)]
def cs2 : List (Nat × Nat) := [(0, 0), (0, 0), (1, 1), (0, 0), (0, 0), (0, 0), (0, 0), (0, 0), (0, 0), (0, 0), (2, 4)]
def cs4 : List (Nat × Nat) := [(1, 5), (1, 6), (1, 7), (1, 8), (1, 9), (0, 0), (0, 0), (0, 0), (0, 0), (0, 0), (0, 0), (0, 0)]
def cs10 : List (Nat × Nat) := [(2, 4), (1, 17), (1, 11), (0, 0), (0, 0), (1, 12), (1, 13), (1, 14), (0, 0), (1, 15), (1, 16), (0, 0), (0, 0), (0, 0), (0, 0)]
def cs17 : List (Nat × Nat) := [(1, 18), (1, 19), (1, 20), (1, 21), (1, 22), (1, 23), (1, 24), (1, 25), (1, 26), (1, 27), (1, 28), (1, 29), (1, 30), (1, 31), (1, 32), (1, 33), (0, 0), (0, 0), (0, 0), (0, 0)]
def cs34 : List (Nat × Nat) := [(1, 35), (0, 0), (0, 0), (1, 36), (0, 0), (0, 0), (0, 0), (0, 0), (0, 0), (0, 0), (0, 0), (0, 0), (0, 0), (0, 0), (0, 0), (1, 37), (1, 38), (1, 39), (1, 40), (1, 41), (1, 42), (1, 43), (1, 44), (0, 0), (1, 45), (0, 0), (0, 0), (1, 46), (0, 0), (1, 47), (0, 0), (3, 0)]
def cs60 : List (Nat × Nat) := [(4, 5), (4, 6), (4, 7), (4, 8), (4, 9), (0, 0), (0, 0), (0, 0), (0, 0), (0, 0), (0, 0), (0, 0)]
def cs61 : List (Nat × Nat) := [(2, 4), (4, 17), (4, 11), (0, 0), (0, 0), (4, 12), (4, 13), (4, 14), (0, 0), (4, 15), (4, 16), (0, 0), (0, 0), (0, 0), (0, 0)]
def cs62 : List (Nat × Nat) := [(4, 18), (4, 19), (4, 20), (4, 21), (4, 22), (4, 23), (4, 24), (4, 25), (4, 26), (4, 27), (4, 28), (4, 29), (4, 30), (4, 31), (4, 32), (4, 33), (0, 0), (0, 0), (0, 0), (0, 0)]
def cs63 : List (Nat × Nat) := [(0, 0), (0, 0), (4, 1), (0, 0), (0, 0), (0, 0), (0, 0), (0, 0), (0, 0), (0, 0), (2, 4)]
def cs64 : List (Nat × Nat) := [(4, 1), (0, 0), (2, 4), (4, 2), (2, 10), (2, 10), (2, 10), (4, 3), (0, 0), (0, 0)]
def cs65 : List (Nat × Nat) := [(4, 35), (0, 0), (0, 0), (4, 36), (0, 0), (0, 0), (0, 0), (0, 0), (0, 0), (0, 0), (0, 0), (0, 0), (0, 0), (0, 0), (0, 0), (4, 37), (4, 38), (4, 39), (4, 40), (4, 41), (4, 42), (4, 43), (4, 44), (0, 0), (4, 45), (0, 0), (0, 0), (4, 46), (0, 0), (4, 47), (0, 0), (3, 0)]
def kd (a : Nat) : (Nat × Nat) ⊕ (Nat × List (Nat × Nat)) := match a with
  | 0 => .inr (4, cs0)
  | 1 => .inl (0, 700)
  | 2 => .inr (1, cs2)
  | 3 => .inl (3, 20)
  | 4 => .inr (2, cs4)
  | 5 => .inl (0, 6)
  | 6 => .inl (0, 6)
  | 7 => .inl (0, 6)
  | 8 => .inl (0, 6)
  | 9 => .inl (0, 168)
  | 10 => .inr (3, cs10)
  | 11 => .inl (0, 24)
  | 12 => .inl (0, 6)
  | 13 => .inl (0, 6)
  | 14 => .inl (0, 6)
  | 15 => .inl (0, 6)
  | 16 => .inl (0, 24)
  | 17 => .inr (0, cs17)
  | 18 => .inl (0, 192)
  | 19 => .inl (0, 192)
  | 20 => .inl (0, 192)
  | 21 => .inl (0, 192)
  | 22 => .inl (0, 192)
  | 23 => .inl (0, 192)
  | 24 => .inl (0, 192)
  | 25 => .inl (0, 192)
  | 26 => .inl (0, 192)
  | 27 => .inl (0, 192)
  | 28 => .inl (0, 192)
  | 29 => .inl (0, 192)
  | 30 => .inl (0, 192)
  | 31 => .inl (1, 192)
  | 32 => .inl (0, 192)
  | 33 => .inl (0, 192)
  | 34 => .inr (5, cs34)
  | 35 => .inl (0, 700)
  | 36 => .inl (0, 69)
  | 37 => .inl (0, 12)
  | 38 => .inl (0, 12)
  | 39 => .inl (0, 12)
  | 40 => .inl (0, 12)
  | 41 => .inl (0, 14)
  | 42 => .inl (2, 7)
  | 43 => .inl (0, 48)
  | 44 => .inl (0, 288)
  | 45 => .inl (0, 48994)
  | 46 => .inl (0, 192)
  | 47 => .inl (0, 8)
  | 48 => .inl (0, 12)
  | 49 => .inl (0, 6)
  | 50 => .inl (0, 6)
  | 51 => .inl (0, 6)
  | 52 => .inl (0, 5)
  | 53 => .inl (0, 5)
  | 54 => .inl (0, 3)
  | 55 => .inl (0, 1)
  | 56 => .inl (9, 0)
  | 57 => .inl (9, 0)
  | 58 => .inl (9, 0)
  | 59 => .inl (9, 0)
  | 60 => .inr (2, cs60)
  | 61 => .inr (3, cs61)
  | 62 => .inr (0, cs62)
  | 63 => .inr (1, cs63)
  | 64 => .inr (4, cs64)
  | 65 => .inr (5, cs65)
  | _ => .inl (9, 0)
/-! ===== the memory of the programs, by slices and kinds; the judgement Rz: the bytecode from here on does what the program P (a pure function's value) says ===== -/
abbrev Sl : Type := Nat → Nat → Int32
abbrev Mem : Type := Nat → Nat → Nat → Int32
def setS (M : Mem) (k : Nat) (d : Sl) : Mem := fun j => if j = k then d else M j
def wr (d : Sl) (a i : Nat) (v : Int32) : Sl := fun b j => if b = a ∧ j = i then v else d b j
def wrM (M : Mem) (k a i : Nat) (v : Int32) : Mem := setS M k (wr (M k) a i v)
theorem setS_at (M : Mem) (k : Nat) (d : Sl) : setS M k d k = d := if_pos rfl
theorem setS_ne (M : Mem) {k j : Nat} (d : Sl) (h : j ≠ k) : setS M k d j = M j := if_neg h
theorem setS_self (M : Mem) (k : Nat) : setS M k (M k) = M := by
  funext j; by_cases h : j = k
  · subst h; exact setS_at M j (M j)
  · exact setS_ne M (M k) h
theorem setS_setS (M : Mem) (k : Nat) (d d' : Sl) : setS (setS M k d) k d' = setS M k d' := by
  funext j; by_cases h : j = k
  · subst h; rw [setS_at, setS_at]
  · rw [setS_ne _ _ h, setS_ne _ _ h, setS_ne _ _ h]
theorem wrM_setS (M : Mem) (k : Nat) (d : Sl) (a i : Nat) (v : Int32) : wrM (setS M k d) k a i v = setS M k (wr d a i v) := by
  unfold wrM; rw [setS_at, setS_setS]
/-- a value: a number (or null), or a reference to the cell of a kind in a slice -/
abbrev AV : Type := Value ⊕ (Nat × Nat)
/-- the two halves of a long -/
def dl (lo hi : Int32) : Int64 := Int64.ofInt (hi.toInt * 4294967296 + (lo.toBitVec.toNat : Int))
def lo32 (v : Int64) : Int32 := Int32.ofInt v.toInt
def hi32 (v : Int64) : Int32 := Int32.ofInt (v.toInt / 4294967296)
/-- classes and slots; array classes; addresses; which cells there are -/
abbrev Geo : Type := va_G × (Nat → ClassId) × (Nat → Nat → Nat) × (Nat → Nat → Prop)
def ph (G : Geo) (v : AV) : Value := match v with
  | .inl v => v
  | .inr q => .ref (G.2.2.1 q.1 q.2)
def phl (G : Geo) (q : Nat × AV) : Nat × Value := (q.1, ph G q.2)
/-- a cell that holds a reference: below 0 none -/
def rf (G : Geo) (a : Nat) (v : Int32) : Option Nat := if v < 0 then none else some (G.2.2.1 v.toNatClampNeg a)
def fv (G : Geo) (k : Nat) (f : Nat → Int32) (c : Nat × Nat) (j : Nat) : Value := match c.1 with
  | 0 => .int (f j)
  | 1 => .ref (G.2.2.1 k c.2)
  | 2 => va_rf (rf G c.2 (f j))
  | 3 => .long (dl (f j) (f (j + 64)))
  | _ => if f j = 0 then .null else .ref (G.2.2.1 k c.2)
def fvs (G : Geo) (k : Nat) (f : Nat → Int32) : Nat → List (Nat × Nat) → List Value
  | _, [] => []
  | j, c :: cs => fv G k f c j :: fvs G k f (j + 1) cs
def arrC (G : Geo) (ty len : Nat) (f : Nat → Int32) : vp_A := (len, match ty with
  | 0 => .inl f
  | 1 => .inr (.inr (.inl (fun i => (f i).toUInt32)))
  | 2 => .inl f
  | _ => .inr (.inr (.inr (.inr (fun i => rf G 10 (f i))))))
def ent (G : Geo) (k a : Nat) (f : Nat → Int32) : va_E := match kd a with
  | .inl q => .inl (G.2.1 q.1, arrC G q.1 q.2 f)
  | .inr q => .inr (q.1, fvs G k f 0 q.2)
/-- the references that a cell holds are of cells that there are -/
def RefOk (G : Geo) (k a : Nat) (f : Nat → Int32) : Prop := match kd a with
  | .inl q => 2 < q.1 → ∀ i, f i < 0 ∨ G.2.2.2 (f i).toNatClampNeg 10
  | .inr q => ∀ (j c b : Nat), q.2[j]? = some (c, b) → (c = 1 → G.2.2.2 k b) ∧ (c = 2 → f j < 0 ∨ G.2.2.2 (f j).toNatClampNeg b) ∧ (3 < c → f j = 0 ∨ G.2.2.2 k b)
/-- the tables of the class Reader: cells that were there ahead of the run, and nobody writes them -/
def tbc (a : Nat) : Bool := Nat.ble 48 a && Nat.ble a 55
def tbn (a : Nat) : Nat := match kd a with
  | .inl q => q.2
  | .inr _ => 0
def TT (c : ClassId) (q n : Nat) (f : Nat → Int32) (H : Heap) : Prop := ∃ cell : Cell, H[q]? = some cell ∧ cell.cls = c ∧ (∀ k, cell.vm ≠ .statics k) ∧ cell.vm ≠ .unknown ∧ n ≤ cell.slots.size ∧ cell.slots.size.toInt32 = Int32.ofNat n ∧ ∀ j : Nat, j < n → cell.slots[j]? = some (.int (f j))
def ET (G : Geo) (k a : Nat) (f : Nat → Int32) (H : Heap) : Prop := if tbc a = true then TT (G.2.1 (20 + a)) (G.2.2.1 k a) (tbn a) f H else va_at G.1 vwc (G.2.2.1 k a, ent G k a f) H
theorem ET.no {G : Geo} {k a : Nat} {f : Nat → Int32} {H : Heap} (h : ET G k a f H) (ht : tbc a = false) : va_at G.1 vwc (G.2.2.1 k a, ent G k a f) H := by
  unfold ET at h
  rw [ht, if_neg (by decide)] at h
  exact h
theorem ET.of {G : Geo} {k a : Nat} {f : Nat → Int32} {H : Heap} (h : va_at G.1 vwc (G.2.2.1 k a, ent G k a f) H) (ht : tbc a = false) : ET G k a f H := by
  unfold ET
  rw [ht, if_neg (by decide)]
  exact h
theorem ET.tb {G : Geo} {k a : Nat} {f : Nat → Int32} {H : Heap} (h : ET G k a f H) (ht : tbc a = true) : TT (G.2.1 (20 + a)) (G.2.2.1 k a) (tbn a) f H := by
  unfold ET at h
  rw [if_pos ht] at h
  exact h
theorem ET.kept {G : Geo} {k a : Nat} {f : Nat → Int32} {H H1 : Heap} (h : ET G k a f H) (hq : H1[G.2.2.1 k a]? = H[G.2.2.1 k a]?) : ET G k a f H1 := by
  cases ht : tbc a with
  | false => exact ET.of ((h.no ht).kept hq) ht
  | true =>
    obtain ⟨cell, h1, h2⟩ := h.tb ht
    unfold ET
    rw [if_pos ht]
    exact ⟨cell, by rw [hq]; exact h1, h2⟩
theorem ET.lt {G : Geo} {k a : Nat} {f : Nat → Int32} {H : Heap} (h : ET G k a f H) : G.2.2.1 k a < H.size := by
  cases ht : tbc a with
  | false => exact (h.no ht).lt
  | true =>
    obtain ⟨cell, h1, h2⟩ := h.tb ht
    exact (Array.getElem?_eq_some_iff.mp h1).1
theorem tb_48 {a : Nat} (h : tbc a = true) : 48 ≤ a ∧ a < 56 := by
  unfold tbc at h
  rw [Bool.and_eq_true, Nat.ble_eq, Nat.ble_eq] at h
  omega
theorem nt_of {a : Nat} (h : a < 48 ∨ 60 ≤ a) : tbc a = false := by
  cases ht : tbc a with
  | false => rfl
  | true => have := tb_48 ht; omega
theorem tb_kd {a : Nat} (h : tbc a = true) : kd a = .inl (0, tbn a) := by
  have := tb_48 h
  have hc : a = 48 ∨ a = 49 ∨ a = 50 ∨ a = 51 ∨ a = 52 ∨ a = 53 ∨ a = 54 ∨ a = 55 := by omega
  rcases hc with e | e | e | e | e | e | e | e <;> subst e <;> rfl
theorem nt_obj {a : Nat} {q : Nat × List (Nat × Nat)} (h : kd a = .inr q) : tbc a = false := by
  cases ht : tbc a with
  | false => rfl
  | true => rw [tb_kd ht] at h; cases h
theorem nt_arr {a ty n : Nat} (h : kd a = .inl (ty, n)) (h0 : ty ≠ 0) : tbc a = false := by
  cases ht : tbc a with
  | false => rfl
  | true => rw [tb_kd ht] at h; cases h; exact absurd rfl h0
def Holds (G : Geo) (M : Mem) (H : Heap) : Prop := (∀ k a, G.2.2.2 k a → ET G k a (M k a) H) ∧ ∀ k a, G.2.2.2 k a → RefOk G k a (M k a)
def LWd (G : Geo) (k : Nat) : Prop := ∀ a, (Nat.ble 10 a && Nat.ble a 33) = true → G.2.2.2 k a
def LSc (G : Geo) (k : Nat) : Prop := ∀ a, (Nat.ble 4 a && Nat.ble a 9) = true → G.2.2.2 k a
/-- no two cells at one address -/
def GOk (G : Geo) : Prop := (∀ k a k' a', G.2.2.2 k a → G.2.2.2 k' a' → G.2.2.1 k a = G.2.2.1 k' a' → k = k' ∧ a = a') ∧ ∀ k a, G.2.2.2 k a → k < 1000
/-- a script, a world is there with all its cells -/
def GCl (G : Geo) : Prop := (∀ k, G.2.2.2 k 4 → LSc G k ∧ k < 2) ∧ ∀ k, G.2.2.2 k 10 → LWd G k ∧ 2 ≤ k
/-- what the program may write: all but the tables of the class Reader -/
def Fr (G : Geo) : Nat → Prop := fun q => ∃ k a, G.2.2.2 k a ∧ (a < 48 ∨ 60 ≤ a) ∧ q = G.2.2.1 k a
def KOk (G : Geo) (U : State) : Prop := va_K G.1 vwc [(G.2.1 0, .int), (G.2.1 1, .float), (G.2.1 2, .boolean), (G.2.1 3, .object RX4)] U
def stn : Nat → String := fun a => match a with
  | 48 => "WORDS"
  | 49 => "LOWEST"
  | 50 => "HIGHEST"
  | 51 => "MAP_FORM"
  | 52 => "GRANT_FORM"
  | 53 => "FLUSH_FORM"
  | 54 => "TOUCH_FORM"
  | _ => "SERVE_FORM"
def NkOk (U : State) : Prop := va_Nw (Jvm.Cond.methodLinkNest "FrameHeirs" (19 : Nat) ({ cls := "FrameHeirs$Script", name := "<init>", desc := "()V" } : Jvm.MethodName) "FrameHeirs") U ∧ va_Nw (Jvm.Cond.methodLinkNest "FrameHeirs$World" (135 : Nat) ({ cls := "FrameHeirs", name := "areRights", desc := "(I)Z" } : Jvm.MethodName) "FrameHeirs") U
/-- a class of arrays of ints -/
def TK (U : State) (c : ClassId) : Prop := U.isArrayOf { cls := c, slots := #[], vm := .none } .int
theorem TK.moved {s U : State} {c : ClassId} (hvm : s.vm.Alike U.vm) (h : TK s c) : TK U c := State.isArrayOf_alike hvm h
def StOk (G : Geo) (U : State) : Prop := (∀ k a, 48 ≤ a → a < 56 → G.2.2.2 k a → va_Z RX2 (stn a) "[I" (.ref (G.2.2.1 k a)) (Fr G) U U.heap ∧ TK U (G.2.1 (20 + a))) ∧ NkOk U
theorem NkOk.warm {s U : State} (hW : s.WarmedH U.vm) (h : NkOk s) : NkOk U := ⟨va_Nw.warmM hW h.1, va_Nw.warmM hW h.2⟩
theorem NkOk.same {s U : State} (hv : s.vm = U.vm) (h : NkOk s) : NkOk U := ⟨va_Nw.same rfl hv h.1, va_Nw.same rfl hv h.2⟩
theorem fvs_get (G : Geo) (k : Nat) (f : Nat → Int32) : ∀ (cs : List (Nat × Nat)) (n j : Nat), (fvs G k f n cs)[j]? = (cs[j]?).map (fun c => fv G k f c (n + j))
  | [], n, j => by simp [fvs]
  | c :: cs, n, 0 => by simp [fvs]
  | c :: cs, n, j + 1 => by
    have h := fvs_get G k f cs (n + 1) j
    simp only [fvs, List.getElem?_cons_succ]
    rw [h, show n + 1 + j = n + (j + 1) by omega]
theorem fvs_len (G : Geo) (k : Nat) (f : Nat → Int32) : ∀ (cs : List (Nat × Nat)) (n : Nat), (fvs G k f n cs).length = cs.length
  | [], n => rfl
  | c :: cs, n => by simp [fvs, fvs_len G k f cs (n + 1)]
/-- the machine at a method's body, in one -/
abbrev Cxt : Type := Program × Launch × Env × Room × State × MethodId × Array Value × List Frame × Method × Code
def QR (G : Geo) (r : Option AV) (M : Mem) : Array Value → State → Outcome → State → Prop := fun _ st o t => o = .returned (r.map (ph G)) ∧ Holds G M t.heap ∧ va_F (Fr G) st t
def PC (G : Geo) (as : List AV) (M : Mem) : Array Value → State → Prop := fun v U => v = (as.map (ph G)).toArray ∧ Holds G M U.heap ∧ KOk G U ∧ StOk G U
def Wx (C : Cxt) (H : Heap) (locs : List Loc) (cs ss : Nat) (Q : State → Prop) (g : JFrame) : Prop := W C.1 C.2.1 C.2.2.1 C.2.2.2.1 C.2.2.2.2.1 C.2.2.2.2.2.1 C.2.2.2.2.2.2.1 C.2.2.2.2.2.2.2.1 C.2.2.2.2.2.2.2.2.1 C.2.2.2.2.2.2.2.2.2 H locs cs ss Q g
def Cx (C : Cxt) (cc : ByteArray) (nL : Nat) (own : String) (ret : Option FieldType) (rm : Room) (G : Geo) : Prop :=
  C.1.tables.exec = Jvm.exec ∧ C.2.2.2.2.2.2.2.2.2.code = cc ∧ C.2.2.2.2.2.2.2.2.2.maxLocals = nL ∧ C.2.2.2.2.1.vm.findClass own = some C.2.2.2.2.2.1.cls ∧ (∀ w ∈ gw, w.before C.2.2.2.2.2.2.1 C.2.2.2.2.1 = true) ∧ KOk G C.2.2.2.2.1 ∧ GOk G ∧ C.2.2.2.2.2.2.2.2.1.locks = false ∧ C.2.2.2.2.2.2.2.2.1.sig.returnType = ret ∧ C.2.2.2.1 = rm ∧ StOk G C.2.2.2.2.1
/-- what may be written: the program's cells, and those that are made -/
def Fa (C : Cxt) (G : Geo) : Nat → Prop := fun q => Fr G q ∨ C.2.2.2.2.1.heap.size ≤ q
theorem Fa.kept {C : Cxt} {G : Geo} {H : Heap} {locs : List Loc} (h : va_S (Fa C G) C.2.2.2.2.1.heap H locs) (q : Nat) (h1 : q < C.2.2.2.2.1.heap.size) (h2 : ¬ Fr G q) : H[q]? = C.2.2.2.2.1.heap[q]? := h.2.1 q h1 (fun z => z.elim h2 (fun z => by omega))
theorem Fa.F {C : Cxt} {G : Geo} {H : Heap} {locs : List Loc} {t : State} (h : va_S (Fa C G) C.2.2.2.2.1.heap H locs) (ht : t.heap = H) : va_F (Fr G) C.2.2.2.2.1 t := ⟨by rw [ht]; exact h.1, fun q h1 h2 => by rw [ht]; exact Fa.kept h q h1 h2⟩
theorem va_Z_fr {C n d : String} {v : Value} {A B : Nat → Prop} {U : State} {H : Heap} (h : va_Z C n d v A U H) (hAB : ∀ q, q < H.size → B q → A q) : va_Z C n d v B U H := by
  obtain ⟨cf, kf, fi, f, a, cell, h1, h2, h3, h4, h5, h6, h7, h8⟩ := h
  exact ⟨cf, kf, fi, f, a, cell, h1, h2, h3, h4, h5, h6, h7, fun z => h8 (hAB a (Array.getElem?_eq_some_iff.mp h5).1 z)⟩
def Rg {σ τ : Type} (C : Cxt) (nL : Nat) (G : Geo) (cs ss : Nat) (mem : σ → Mem) (Qt : τ → State → Prop) (pc : Nat) (ls : List (Nat × AV)) (st : List AV) (x : σ) (P : Option τ) : Prop :=
  ∀ t : τ, P = some t → ∀ (H : Heap) (locs : List Loc) (lsA : Array Slot), Holds G (mem x) H → va_S (Fa C G) C.2.2.2.2.1.heap H locs → lv_has lsA nL (ls.map (phl G)) →
    Wx C H locs cs ss (Qt t) (F0 C.2.2.2.2.2.1 pc lsA (st.map (ph G)))
/-- the end of a method that makes nothing -/
def QM {τ : Type} (C : Cxt) (G : Geo) (po : τ → Option AV × Mem) (t : τ) : State → Prop := MQ C.2.2.2.2.2.2.2.1 (QR G (po t).1 (po t).2) C.2.2.2.2.2.2.1 C.2.2.2.2.1 0 0 (Fa C G)
abbrev Rz {σ τ : Type} (C : Cxt) (nL : Nat) (G : Geo) (mem : σ → Mem) (po : τ → Option AV × Mem) (pc : Nat) (ls : List (Nat × AV)) (st : List AV) (x : σ) (P : Option τ) : Prop := Rg C nL G 0 0 mem (QM C G po) pc ls st x P
def bnd {α β : Type} (a : α) (f : α → β) : β := f a
/-- a call that may write: its answer, the state behind it; a call that doesn't: its answer -/
def bd {ρ σ β : Type} (o : Option (ρ × σ)) (K : ρ → σ → Option β) : Option β := match o with
  | some q => K q.1 q.2
  | none => none
def bp {ρ β : Type} (o : Option ρ) (K : ρ → Option β) : Option β := match o with
  | some q => K q
  | none => none
/-- a slice's own call, seen from the whole memory -/
def lft {ρ : Type} (M : Mem) (k : Nat) (o : Option (ρ × Sl)) : Option (ρ × Mem) := match o with
  | some q => some (q.1, setS M k q.2)
  | none => none
abbrev ix (i : Int32) : Nat := i.toNatClampNeg
abbrev inb (i : Int32) (n : Nat) : Prop := 0 ≤ i.toInt ∧ i.toInt < (n : Int)
abbrev nn32 (r : UInt32) : Prop := r &&& 0x7fffffff ≤ 0x7f800000
abbrev nn64 (r : UInt64) : Prop := r &&& 0x7fffffffffffffff ≤ 0x7ff0000000000000
def avI (r : Int32) : Option AV := some (.inl (.int r))
def avV (_ : Unit) : Option AV := none
def avF (r : UInt32) : Option AV := some (.inl (.float r))
def avL (r : Int64) : Option AV := some (.inl (.long r))
/-- what a method leaves: with a state, without -/
def poM {ρ σ : Type} (rv : ρ → Option AV) (mem : σ → Mem) (t : ρ × σ) : Option AV × Mem := (rv t.1, mem t.2)
def poP {ρ : Type} (rv : ρ → Option AV) (M : Mem) (r : ρ) : Option AV × Mem := (rv r, M)
/-- a store into a local: one word, two words -/
def cat (v : AV) : Nat := match v with
  | .inl v => v.category
  | .inr _ => 1
def stl (ls : List (Nat × AV)) (i : Nat) (v : AV) : List (Nat × AV) := (i, v) :: ls.filter (fun q => !(q.1 == i) && !(q.1 + 1 == i && cat q.2 == 2))
def stl2 (ls : List (Nat × AV)) (i : Nat) (v : AV) : List (Nat × AV) := (i, v) :: ls.filter (fun q => !(q.1 == i) && (!(q.1 == i + 1) && !(q.1 + 1 == i && cat q.2 == 2)))
theorem cat_ph (G : Geo) (v : AV) : (ph G v).category = cat v := by
  rcases v with v | v <;> rfl
theorem st_map1 {G : Geo} {ls ls1 : List (Nat × AV)} {i : Nat} {v : AV} (h : stl ls i v = ls1) : (i, ph G v) :: (ls.map (phl G)).filter (fun q => !(q.1 == i) && !(q.1 + 1 == i && q.2.category == 2)) = ls1.map (phl G) := by
  subst h
  simp only [stl, List.map_cons, List.filter_map]
  congr 2
  apply List.filter_congr
  intro q _
  simp [phl, cat_ph]
theorem st_map2 {G : Geo} {ls ls1 : List (Nat × AV)} {i : Nat} {v : AV} (h : stl2 ls i v = ls1) : (i, ph G v) :: (ls.map (phl G)).filter (fun q => !(q.1 == i) && (!(q.1 == i + 1) && !(q.1 + 1 == i && q.2.category == 2))) = ls1.map (phl G) := by
  subst h
  simp only [stl2, List.map_cons, List.filter_map]
  congr 2
  apply List.filter_congr
  intro q _
  simp [phl, cat_ph]
theorem ld_at {G : Geo} {lsA : Array Slot} {nL : Nat} {ls : List (Nat × AV)} (h : lv_has lsA nL (ls.map (phl G))) {n i : Nat} {v : AV} (hl : ls[n]? = some (i, v)) : lsA[i]? = some (.val (ph G v)) :=
  h.2.2 (i, ph G v) (List.mem_map.mpr ⟨(i, v), List.mem_of_getElem? hl, rfl⟩)
theorem ld_sub {G : Geo} {lsA : Array Slot} {nL : Nat} {ls ls1 : List (Nat × AV)} (ks : List Nat) (hl : ks.filterMap (fun k => ls[k]?) = ls1) (h : lv_has lsA nL (ls.map (phl G))) : lv_has lsA nL (ls1.map (phl G)) := by
  refine ⟨h.1, h.2.1, fun q hq => h.2.2 q ?_⟩
  subst hl
  obtain ⟨q1, h1, rfl⟩ := List.mem_map.mp hq
  obtain ⟨k, -, hk⟩ := List.mem_filterMap.mp h1
  exact List.mem_map.mpr ⟨q1, List.mem_of_getElem? hk, rfl⟩
section ZR
variable {C : Cxt} {cc : ByteArray} {nL : Nat} {own : String} {ret : Option FieldType} {rm : Room} {G : Geo} {σ τ : Type} {mem : σ → Mem} {Qt : τ → State → Prop} {cs ss : Nat} {pc : Nat} {ls : List (Nat × AV)} {st : List AV} {x0 : σ} {P P1 P2 : Option τ}
theorem z_iconst (hC : Cx C cc nL own ret rm G) {n : Int} (v : Int32) (hv : Int32.ofInt n = v) (d : decode cc pc = .ok (.iconst n, 1))
    (k : Rg C nL G cs ss mem Qt (pc + 1) ls (.inl (.int v) :: st) x0 P) : Rg C nL G cs ss mem Qt pc ls st x0 P := fun t hP H locs lsA hH hS hL => lv_iconst hC.1 hC.2.1 d hv (k t hP H locs lsA hH hS hL)
theorem z_bipush (hC : Cx C cc nL own ret rm G) {n : Int} (v : Int32) (hv : (Int8.ofInt n).toInt32 = v) (d : decode cc pc = .ok (.bipush n, 2))
    (k : Rg C nL G cs ss mem Qt (pc + 2) ls (.inl (.int v) :: st) x0 P) : Rg C nL G cs ss mem Qt pc ls st x0 P := fun t hP H locs lsA hH hS hL => lv_bipush hC.1 hC.2.1 d hv (k t hP H locs lsA hH hS hL)
theorem z_sipush (hC : Cx C cc nL own ret rm G) {n : Int} (v : Int32) (hv : (Int16.ofInt n).toInt32 = v) (d : decode cc pc = .ok (.sipush n, 3))
    (k : Rg C nL G cs ss mem Qt (pc + 3) ls (.inl (.int v) :: st) x0 P) : Rg C nL G cs ss mem Qt pc ls st x0 P := fun t hP H locs lsA hH hS hL => lv_sipush hC.1 hC.2.1 d hv (k t hP H locs lsA hH hS hL)
theorem z_lconst (hC : Cx C cc nL own ret rm G) {n : Fin 2} (v : Int64) (hv : Int64.ofNat (n : Nat) = v) (d : decode cc pc = .ok (.lconst n, 1))
    (k : Rg C nL G cs ss mem Qt (pc + 1) ls (.inl (.long v) :: st) x0 P) : Rg C nL G cs ss mem Qt pc ls st x0 P := fun t hP H locs lsA hH hS hL => lv_lconst hC.1 hC.2.1 d hv (k t hP H locs lsA hH hS hL)
theorem z_fconst0 (hC : Cx C cc nL own ret rm G)  (d : decode cc pc = .ok (.fconst 0, 1))
    (k : Rg C nL G cs ss mem Qt (pc + 1) ls (.inl (.float FP.fconst0) :: st) x0 P) : Rg C nL G cs ss mem Qt pc ls st x0 P := fun t hP H locs lsA hH hS hL => lv_fconst0 hC.1 hC.2.1 d (k t hP H locs lsA hH hS hL)
theorem z_fconst1 (hC : Cx C cc nL own ret rm G)  (d : decode cc pc = .ok (.fconst 1, 1))
    (k : Rg C nL G cs ss mem Qt (pc + 1) ls (.inl (.float FP.fconst1) :: st) x0 P) : Rg C nL G cs ss mem Qt pc ls st x0 P := fun t hP H locs lsA hH hS hL => lv_fconst1 hC.1 hC.2.1 d (k t hP H locs lsA hH hS hL)
theorem z_fconst2 (hC : Cx C cc nL own ret rm G)  (d : decode cc pc = .ok (.fconst 2, 1))
    (k : Rg C nL G cs ss mem Qt (pc + 1) ls (.inl (.float FP.fconst2) :: st) x0 P) : Rg C nL G cs ss mem Qt pc ls st x0 P := fun t hP H locs lsA hH hS hL => lv_fconst2 hC.1 hC.2.1 d (k t hP H locs lsA hH hS hL)
theorem z_dconst1 (hC : Cx C cc nL own ret rm G)  (d : decode cc pc = .ok (.dconst 1, 1))
    (k : Rg C nL G cs ss mem Qt (pc + 1) ls (.inl (.double FP.dconst1) :: st) x0 P) : Rg C nL G cs ss mem Qt pc ls st x0 P := fun t hP H locs lsA hH hS hL => lv_dconst1 hC.1 hC.2.1 d (k t hP H locs lsA hH hS hL)
theorem z_iadd (hC : Cx C cc nL own ret rm G) {x y : Int32} (d : decode cc pc = .ok (.iadd, 1))
    (k : Rg C nL G cs ss mem Qt (pc + 1) ls (.inl (.int (x + y)) :: st) x0 P) : Rg C nL G cs ss mem Qt pc ls (.inl (.int y) :: .inl (.int x) :: st) x0 P := fun t hP H locs lsA hH hS hL => lv_iadd hC.1 hC.2.1 d (k t hP H locs lsA hH hS hL)
theorem z_isub (hC : Cx C cc nL own ret rm G) {x y : Int32} (d : decode cc pc = .ok (.isub, 1))
    (k : Rg C nL G cs ss mem Qt (pc + 1) ls (.inl (.int (x - y)) :: st) x0 P) : Rg C nL G cs ss mem Qt pc ls (.inl (.int y) :: .inl (.int x) :: st) x0 P := fun t hP H locs lsA hH hS hL => lv_isub hC.1 hC.2.1 d (k t hP H locs lsA hH hS hL)
theorem z_imul (hC : Cx C cc nL own ret rm G) {x y : Int32} (d : decode cc pc = .ok (.imul, 1))
    (k : Rg C nL G cs ss mem Qt (pc + 1) ls (.inl (.int (x * y)) :: st) x0 P) : Rg C nL G cs ss mem Qt pc ls (.inl (.int y) :: .inl (.int x) :: st) x0 P := fun t hP H locs lsA hH hS hL => lv_imul hC.1 hC.2.1 d (k t hP H locs lsA hH hS hL)
theorem z_iand (hC : Cx C cc nL own ret rm G) {x y : Int32} (d : decode cc pc = .ok (.iand, 1))
    (k : Rg C nL G cs ss mem Qt (pc + 1) ls (.inl (.int (x &&& y)) :: st) x0 P) : Rg C nL G cs ss mem Qt pc ls (.inl (.int y) :: .inl (.int x) :: st) x0 P := fun t hP H locs lsA hH hS hL => lv_iand hC.1 hC.2.1 d (k t hP H locs lsA hH hS hL)
theorem z_ior (hC : Cx C cc nL own ret rm G) {x y : Int32} (d : decode cc pc = .ok (.ior, 1))
    (k : Rg C nL G cs ss mem Qt (pc + 1) ls (.inl (.int (x ||| y)) :: st) x0 P) : Rg C nL G cs ss mem Qt pc ls (.inl (.int y) :: .inl (.int x) :: st) x0 P := fun t hP H locs lsA hH hS hL => lv_ior hC.1 hC.2.1 d (k t hP H locs lsA hH hS hL)
theorem z_ixor (hC : Cx C cc nL own ret rm G) {x y : Int32} (d : decode cc pc = .ok (.ixor, 1))
    (k : Rg C nL G cs ss mem Qt (pc + 1) ls (.inl (.int (x ^^^ y)) :: st) x0 P) : Rg C nL G cs ss mem Qt pc ls (.inl (.int y) :: .inl (.int x) :: st) x0 P := fun t hP H locs lsA hH hS hL => lv_ixor hC.1 hC.2.1 d (k t hP H locs lsA hH hS hL)
theorem z_ishl (hC : Cx C cc nL own ret rm G) {x y : Int32} (d : decode cc pc = .ok (.ishl, 1))
    (k : Rg C nL G cs ss mem Qt (pc + 1) ls (.inl (.int (x <<< (y &&& 31))) :: st) x0 P) : Rg C nL G cs ss mem Qt pc ls (.inl (.int y) :: .inl (.int x) :: st) x0 P := fun t hP H locs lsA hH hS hL => lv_ishl hC.1 hC.2.1 d (k t hP H locs lsA hH hS hL)
theorem z_ishr (hC : Cx C cc nL own ret rm G) {x y : Int32} (d : decode cc pc = .ok (.ishr, 1))
    (k : Rg C nL G cs ss mem Qt (pc + 1) ls (.inl (.int (x >>> (y &&& 31))) :: st) x0 P) : Rg C nL G cs ss mem Qt pc ls (.inl (.int y) :: .inl (.int x) :: st) x0 P := fun t hP H locs lsA hH hS hL => lv_ishr hC.1 hC.2.1 d (k t hP H locs lsA hH hS hL)
theorem z_iushr (hC : Cx C cc nL own ret rm G) {x y : Int32} (d : decode cc pc = .ok (.iushr, 1))
    (k : Rg C nL G cs ss mem Qt (pc + 1) ls (.inl (.int (x.toUInt32 >>> (y.toUInt32 &&& Int32.toUInt32 31)).toInt32) :: st) x0 P) : Rg C nL G cs ss mem Qt pc ls (.inl (.int y) :: .inl (.int x) :: st) x0 P := fun t hP H locs lsA hH hS hL => lv_iushr hC.1 hC.2.1 d rfl (k t hP H locs lsA hH hS hL)
theorem z_ineg (hC : Cx C cc nL own ret rm G) {x : Int32} (d : decode cc pc = .ok (.ineg, 1))
    (k : Rg C nL G cs ss mem Qt (pc + 1) ls (.inl (.int (-x)) :: st) x0 P) : Rg C nL G cs ss mem Qt pc ls (.inl (.int x) :: st) x0 P := fun t hP H locs lsA hH hS hL => lv_ineg hC.1 hC.2.1 d (k t hP H locs lsA hH hS hL)
theorem z_ladd (hC : Cx C cc nL own ret rm G) {x y : Int64} (d : decode cc pc = .ok (.ladd, 1))
    (k : Rg C nL G cs ss mem Qt (pc + 1) ls (.inl (.long (x + y)) :: st) x0 P) : Rg C nL G cs ss mem Qt pc ls (.inl (.long y) :: .inl (.long x) :: st) x0 P := fun t hP H locs lsA hH hS hL => lv_ladd hC.1 hC.2.1 d (k t hP H locs lsA hH hS hL)
theorem z_lsub (hC : Cx C cc nL own ret rm G) {x y : Int64} (d : decode cc pc = .ok (.lsub, 1))
    (k : Rg C nL G cs ss mem Qt (pc + 1) ls (.inl (.long (x - y)) :: st) x0 P) : Rg C nL G cs ss mem Qt pc ls (.inl (.long y) :: .inl (.long x) :: st) x0 P := fun t hP H locs lsA hH hS hL => lv_lsub hC.1 hC.2.1 d (k t hP H locs lsA hH hS hL)
theorem z_lmul (hC : Cx C cc nL own ret rm G) {x y : Int64} (d : decode cc pc = .ok (.lmul, 1))
    (k : Rg C nL G cs ss mem Qt (pc + 1) ls (.inl (.long (x * y)) :: st) x0 P) : Rg C nL G cs ss mem Qt pc ls (.inl (.long y) :: .inl (.long x) :: st) x0 P := fun t hP H locs lsA hH hS hL => lv_lmul hC.1 hC.2.1 d (k t hP H locs lsA hH hS hL)
theorem z_land (hC : Cx C cc nL own ret rm G) {x y : Int64} (d : decode cc pc = .ok (.land, 1))
    (k : Rg C nL G cs ss mem Qt (pc + 1) ls (.inl (.long (x &&& y)) :: st) x0 P) : Rg C nL G cs ss mem Qt pc ls (.inl (.long y) :: .inl (.long x) :: st) x0 P := fun t hP H locs lsA hH hS hL => lv_land hC.1 hC.2.1 d (k t hP H locs lsA hH hS hL)
theorem z_lor (hC : Cx C cc nL own ret rm G) {x y : Int64} (d : decode cc pc = .ok (.lor, 1))
    (k : Rg C nL G cs ss mem Qt (pc + 1) ls (.inl (.long (x ||| y)) :: st) x0 P) : Rg C nL G cs ss mem Qt pc ls (.inl (.long y) :: .inl (.long x) :: st) x0 P := fun t hP H locs lsA hH hS hL => lv_lor hC.1 hC.2.1 d (k t hP H locs lsA hH hS hL)
theorem z_lshl (hC : Cx C cc nL own ret rm G) {x : Int64} {y : Int32} (d : decode cc pc = .ok (.lshl, 1))
    (k : Rg C nL G cs ss mem Qt (pc + 1) ls (.inl (.long (x <<< (y.toInt64 &&& 63))) :: st) x0 P) : Rg C nL G cs ss mem Qt pc ls (.inl (.int y) :: .inl (.long x) :: st) x0 P := fun t hP H locs lsA hH hS hL => lv_lshl hC.1 hC.2.1 d rfl (k t hP H locs lsA hH hS hL)
theorem z_lshr (hC : Cx C cc nL own ret rm G) {x : Int64} {y : Int32} (d : decode cc pc = .ok (.lshr, 1))
    (k : Rg C nL G cs ss mem Qt (pc + 1) ls (.inl (.long (x >>> (y.toInt64 &&& 63))) :: st) x0 P) : Rg C nL G cs ss mem Qt pc ls (.inl (.int y) :: .inl (.long x) :: st) x0 P := fun t hP H locs lsA hH hS hL => lv_lshr hC.1 hC.2.1 d rfl (k t hP H locs lsA hH hS hL)
theorem z_i2l (hC : Cx C cc nL own ret rm G) {x : Int32} (d : decode cc pc = .ok (.i2l, 1))
    (k : Rg C nL G cs ss mem Qt (pc + 1) ls (.inl (.long x.toInt64) :: st) x0 P) : Rg C nL G cs ss mem Qt pc ls (.inl (.int x) :: st) x0 P := fun t hP H locs lsA hH hS hL => lv_i2l hC.1 hC.2.1 d rfl (k t hP H locs lsA hH hS hL)
theorem z_l2i (hC : Cx C cc nL own ret rm G) {x : Int64} (d : decode cc pc = .ok (.l2i, 1))
    (k : Rg C nL G cs ss mem Qt (pc + 1) ls (.inl (.int x.toInt32) :: st) x0 P) : Rg C nL G cs ss mem Qt pc ls (.inl (.long x) :: st) x0 P := fun t hP H locs lsA hH hS hL => lv_l2i hC.1 hC.2.1 d rfl (k t hP H locs lsA hH hS hL)
theorem z_lcmp (hC : Cx C cc nL own ret rm G) {x y : Int64} (d : decode cc pc = .ok (.lcmp, 1))
    (k : Rg C nL G cs ss mem Qt (pc + 1) ls (.inl (.int (lg_cmp x y)) :: st) x0 P) : Rg C nL G cs ss mem Qt pc ls (.inl (.long y) :: .inl (.long x) :: st) x0 P := fun t hP H locs lsA hH hS hL => W.lcmp hC.1 hC.2.1 d (k t hP H locs lsA hH hS hL)
theorem z_fcmp (hC : Cx C cc nL own ret rm G) {x y : UInt32} {op : CmpOp} (d : decode cc pc = .ok (.fcmp op, 1))
    (k : Rg C nL G cs ss mem Qt (pc + 1) ls (.inl (.int (Op.cmpValue (FP.fcmp x y) op)) :: st) x0 P) : Rg C nL G cs ss mem Qt pc ls (.inl (.float y) :: .inl (.float x) :: st) x0 P := fun t hP H locs lsA hH hS hL => lv_fcmp hC.1 hC.2.1 d (k t hP H locs lsA hH hS hL)
theorem z_dcmp (hC : Cx C cc nL own ret rm G) {x y : UInt64} {op : CmpOp} (d : decode cc pc = .ok (.dcmp op, 1))
    (k : Rg C nL G cs ss mem Qt (pc + 1) ls (.inl (.int (Op.cmpValue (FP.dcmp x y) op)) :: st) x0 P) : Rg C nL G cs ss mem Qt pc ls (.inl (.double y) :: .inl (.double x) :: st) x0 P := fun t hP H locs lsA hH hS hL => lv_dcmp hC.1 hC.2.1 d (k t hP H locs lsA hH hS hL)
theorem z_i2f (hC : Cx C cc nL own ret rm G) {x : Int32} (d : decode cc pc = .ok (.i2f, 1))
    (k : Rg C nL G cs ss mem Qt (pc + 1) ls (.inl (.float (FP.i2f x)) :: st) x0 P) : Rg C nL G cs ss mem Qt pc ls (.inl (.int x) :: st) x0 P := fun t hP H locs lsA hH hS hL => lv_i2f hC.1 hC.2.1 d (k t hP H locs lsA hH hS hL)
theorem z_f2i (hC : Cx C cc nL own ret rm G) {x : UInt32} (d : decode cc pc = .ok (.f2i, 1))
    (k : Rg C nL G cs ss mem Qt (pc + 1) ls (.inl (.int (FP.f2i x)) :: st) x0 P) : Rg C nL G cs ss mem Qt pc ls (.inl (.float x) :: st) x0 P := fun t hP H locs lsA hH hS hL => lv_f2i hC.1 hC.2.1 d (k t hP H locs lsA hH hS hL)
theorem z_d2i (hC : Cx C cc nL own ret rm G) {x : UInt64} (d : decode cc pc = .ok (.d2i, 1))
    (k : Rg C nL G cs ss mem Qt (pc + 1) ls (.inl (.int (FP.d2i x)) :: st) x0 P) : Rg C nL G cs ss mem Qt pc ls (.inl (.double x) :: st) x0 P := fun t hP H locs lsA hH hS hL => lv_d2i hC.1 hC.2.1 d (k t hP H locs lsA hH hS hL)
theorem z_idiv (hC : Cx C cc nL own ret rm G) {x y : Int32} (d : decode cc pc = .ok (.idiv, 1))
    (k : Rg C nL G cs ss mem Qt (pc + 1) ls (.inl (.int (x / y)) :: st) x0 P) : Rg C nL G cs ss mem Qt pc ls (.inl (.int y) :: .inl (.int x) :: st) x0 (if ¬ y = 0 then P else none) := by
  intro t hP H locs lsA hH hS hL
  by_cases h : ¬ y = 0
  · rw [if_pos h] at hP
    exact lv_idiv hC.1 hC.2.1 d h (k t hP H locs lsA hH hS hL)
  · rw [if_neg h] at hP; cases hP
theorem z_irem (hC : Cx C cc nL own ret rm G) {x y : Int32} (d : decode cc pc = .ok (.irem, 1))
    (k : Rg C nL G cs ss mem Qt (pc + 1) ls (.inl (.int (x - x / y * y)) :: st) x0 P) : Rg C nL G cs ss mem Qt pc ls (.inl (.int y) :: .inl (.int x) :: st) x0 (if ¬ y = 0 then P else none) := by
  intro t hP H locs lsA hH hS hL
  by_cases h : ¬ y = 0
  · rw [if_pos h] at hP
    exact lv_irem hC.1 hC.2.1 d h (k t hP H locs lsA hH hS hL)
  · rw [if_neg h] at hP; cases hP
theorem z_ldiv (hC : Cx C cc nL own ret rm G) {x y : Int64} (d : decode cc pc = .ok (.ldiv, 1))
    (k : Rg C nL G cs ss mem Qt (pc + 1) ls (.inl (.long (x / y)) :: st) x0 P) : Rg C nL G cs ss mem Qt pc ls (.inl (.long y) :: .inl (.long x) :: st) x0 (if ¬ y = 0 then P else none) := by
  intro t hP H locs lsA hH hS hL
  by_cases h : ¬ y = 0
  · rw [if_pos h] at hP
    exact lv_ldiv hC.1 hC.2.1 d h (k t hP H locs lsA hH hS hL)
  · rw [if_neg h] at hP; cases hP
theorem z_lrem (hC : Cx C cc nL own ret rm G) {x y : Int64} (d : decode cc pc = .ok (.lrem, 1))
    (k : Rg C nL G cs ss mem Qt (pc + 1) ls (.inl (.long (x - x / y * y)) :: st) x0 P) : Rg C nL G cs ss mem Qt pc ls (.inl (.long y) :: .inl (.long x) :: st) x0 (if ¬ y = 0 then P else none) := by
  intro t hP H locs lsA hH hS hL
  by_cases h : ¬ y = 0
  · rw [if_pos h] at hP
    exact lv_lrem hC.1 hC.2.1 d h (k t hP H locs lsA hH hS hL)
  · rw [if_neg h] at hP; cases hP
theorem z_fadd (hC : Cx C cc nL own ret rm G) {x y : UInt32} (d : decode cc pc = .ok (.fadd, 1))
    (k : Rg C nL G cs ss mem Qt (pc + 1) ls (.inl (.float (FP.fadd x y)) :: st) x0 P) : Rg C nL G cs ss mem Qt pc ls (.inl (.float y) :: .inl (.float x) :: st) x0 (if nn32 (FP.fadd x y) then P else none) := by
  intro t hP H locs lsA hH hS hL
  by_cases h : nn32 (FP.fadd x y)
  · rw [if_pos h] at hP
    exact lv_fadd hC.1 hC.2.1 d h (k t hP H locs lsA hH hS hL)
  · rw [if_neg h] at hP; cases hP
theorem z_fmul (hC : Cx C cc nL own ret rm G) {x y : UInt32} (d : decode cc pc = .ok (.fmul, 1))
    (k : Rg C nL G cs ss mem Qt (pc + 1) ls (.inl (.float (FP.fmul x y)) :: st) x0 P) : Rg C nL G cs ss mem Qt pc ls (.inl (.float y) :: .inl (.float x) :: st) x0 (if nn32 (FP.fmul x y) then P else none) := by
  intro t hP H locs lsA hH hS hL
  by_cases h : nn32 (FP.fmul x y)
  · rw [if_pos h] at hP
    exact lv_fmul hC.1 hC.2.1 d h (k t hP H locs lsA hH hS hL)
  · rw [if_neg h] at hP; cases hP
theorem z_fdiv (hC : Cx C cc nL own ret rm G) {x y : UInt32} (d : decode cc pc = .ok (.fdiv, 1))
    (k : Rg C nL G cs ss mem Qt (pc + 1) ls (.inl (.float (FP.fdiv x y)) :: st) x0 P) : Rg C nL G cs ss mem Qt pc ls (.inl (.float y) :: .inl (.float x) :: st) x0 (if nn32 (FP.fdiv x y) then P else none) := by
  intro t hP H locs lsA hH hS hL
  by_cases h : nn32 (FP.fdiv x y)
  · rw [if_pos h] at hP
    exact lv_fdiv hC.1 hC.2.1 d h (k t hP H locs lsA hH hS hL)
  · rw [if_neg h] at hP; cases hP
theorem z_dmul (hC : Cx C cc nL own ret rm G) {x y : UInt64} (d : decode cc pc = .ok (.dmul, 1))
    (k : Rg C nL G cs ss mem Qt (pc + 1) ls (.inl (.double (FP.dmul x y)) :: st) x0 P) : Rg C nL G cs ss mem Qt pc ls (.inl (.double y) :: .inl (.double x) :: st) x0 (if nn64 (FP.dmul x y) then P else none) := by
  intro t hP H locs lsA hH hS hL
  by_cases h : nn64 (FP.dmul x y)
  · rw [if_pos h] at hP
    exact lv_dmul hC.1 hC.2.1 d h (k t hP H locs lsA hH hS hL)
  · rw [if_neg h] at hP; cases hP
theorem z_ddiv (hC : Cx C cc nL own ret rm G) {x y : UInt64} (d : decode cc pc = .ok (.ddiv, 1))
    (k : Rg C nL G cs ss mem Qt (pc + 1) ls (.inl (.double (FP.ddiv x y)) :: st) x0 P) : Rg C nL G cs ss mem Qt pc ls (.inl (.double y) :: .inl (.double x) :: st) x0 (if nn64 (FP.ddiv x y) then P else none) := by
  intro t hP H locs lsA hH hS hL
  by_cases h : nn64 (FP.ddiv x y)
  · rw [if_pos h] at hP
    exact lv_ddiv hC.1 hC.2.1 d h (k t hP H locs lsA hH hS hL)
  · rw [if_neg h] at hP; cases hP
theorem z_f2d (hC : Cx C cc nL own ret rm G) {x : UInt32} (d : decode cc pc = .ok (.f2d, 1))
    (k : Rg C nL G cs ss mem Qt (pc + 1) ls (.inl (.double (FP.f2d x)) :: st) x0 P) : Rg C nL G cs ss mem Qt pc ls (.inl (.float x) :: st) x0 (if nn64 (FP.f2d x) then P else none) := by
  intro t hP H locs lsA hH hS hL
  by_cases h : nn64 (FP.f2d x)
  · rw [if_pos h] at hP
    exact lv_f2d hC.1 hC.2.1 d h (k t hP H locs lsA hH hS hL)
  · rw [if_neg h] at hP; cases hP
theorem z_iload_n (hC : Cx C cc nL own ret rm G) {q : Fin 4} (i : Nat) (hi : (q : Nat) = i) (n : Nat) {x : Int32} (hl : ls[n]? = some (i, .inl (.int x))) (d : decode cc pc = .ok (.iload_n q, 1))
    (k : Rg C nL G cs ss mem Qt (pc + 1) ls (.inl (.int x) :: st) x0 P) : Rg C nL G cs ss mem Qt pc ls st x0 P := fun t hP H locs lsA hH hS hL => lv_iload_n hC.1 hC.2.1 d hi (ld_at hL hl) (k t hP H locs lsA hH hS hL)
theorem z_iload (hC : Cx C cc nL own ret rm G) (i : Nat) (n : Nat) {x : Int32} (hl : ls[n]? = some (i, .inl (.int x))) (d : decode cc pc = .ok (.iload i, 2))
    (k : Rg C nL G cs ss mem Qt (pc + 2) ls (.inl (.int x) :: st) x0 P) : Rg C nL G cs ss mem Qt pc ls st x0 P := fun t hP H locs lsA hH hS hL => lv_iload hC.1 hC.2.1 d (ld_at hL hl) (k t hP H locs lsA hH hS hL)
theorem z_lload_n (hC : Cx C cc nL own ret rm G) {q : Fin 4} (i : Nat) (hi : (q : Nat) = i) (n : Nat) {x : Int64} (hl : ls[n]? = some (i, .inl (.long x))) (d : decode cc pc = .ok (.lload_n q, 1))
    (k : Rg C nL G cs ss mem Qt (pc + 1) ls (.inl (.long x) :: st) x0 P) : Rg C nL G cs ss mem Qt pc ls st x0 P := fun t hP H locs lsA hH hS hL => lv_lload_n hC.1 hC.2.1 d hi (ld_at hL hl) (k t hP H locs lsA hH hS hL)
theorem z_lload (hC : Cx C cc nL own ret rm G) (i : Nat) (n : Nat) {x : Int64} (hl : ls[n]? = some (i, .inl (.long x))) (d : decode cc pc = .ok (.lload i, 2))
    (k : Rg C nL G cs ss mem Qt (pc + 2) ls (.inl (.long x) :: st) x0 P) : Rg C nL G cs ss mem Qt pc ls st x0 P := fun t hP H locs lsA hH hS hL => lv_lload hC.1 hC.2.1 d (ld_at hL hl) (k t hP H locs lsA hH hS hL)
theorem z_fload_n (hC : Cx C cc nL own ret rm G) {q : Fin 4} (i : Nat) (hi : (q : Nat) = i) (n : Nat) {x : UInt32} (hl : ls[n]? = some (i, .inl (.float x))) (d : decode cc pc = .ok (.fload_n q, 1))
    (k : Rg C nL G cs ss mem Qt (pc + 1) ls (.inl (.float x) :: st) x0 P) : Rg C nL G cs ss mem Qt pc ls st x0 P := fun t hP H locs lsA hH hS hL => lv_fload_n hC.1 hC.2.1 d hi (ld_at hL hl) (k t hP H locs lsA hH hS hL)
theorem z_fload (hC : Cx C cc nL own ret rm G) (i : Nat) (n : Nat) {x : UInt32} (hl : ls[n]? = some (i, .inl (.float x))) (d : decode cc pc = .ok (.fload i, 2))
    (k : Rg C nL G cs ss mem Qt (pc + 2) ls (.inl (.float x) :: st) x0 P) : Rg C nL G cs ss mem Qt pc ls st x0 P := fun t hP H locs lsA hH hS hL => lv_fload hC.1 hC.2.1 d (ld_at hL hl) (k t hP H locs lsA hH hS hL)
theorem z_dload_n (hC : Cx C cc nL own ret rm G) {q : Fin 4} (i : Nat) (hi : (q : Nat) = i) (n : Nat) {x : UInt64} (hl : ls[n]? = some (i, .inl (.double x))) (d : decode cc pc = .ok (.dload_n q, 1))
    (k : Rg C nL G cs ss mem Qt (pc + 1) ls (.inl (.double x) :: st) x0 P) : Rg C nL G cs ss mem Qt pc ls st x0 P := fun t hP H locs lsA hH hS hL => lv_dload_n hC.1 hC.2.1 d hi (ld_at hL hl) (k t hP H locs lsA hH hS hL)
theorem z_dload (hC : Cx C cc nL own ret rm G) (i : Nat) (n : Nat) {x : UInt64} (hl : ls[n]? = some (i, .inl (.double x))) (d : decode cc pc = .ok (.dload i, 2))
    (k : Rg C nL G cs ss mem Qt (pc + 2) ls (.inl (.double x) :: st) x0 P) : Rg C nL G cs ss mem Qt pc ls st x0 P := fun t hP H locs lsA hH hS hL => lv_dload hC.1 hC.2.1 d (ld_at hL hl) (k t hP H locs lsA hH hS hL)
theorem z_aload_n (hC : Cx C cc nL own ret rm G) {q : Fin 4} (i : Nat) (hi : (q : Nat) = i) (n : Nat) {b : Nat × Nat} (hl : ls[n]? = some (i, .inr b)) (d : decode cc pc = .ok (.aload_n q, 1))
    (k : Rg C nL G cs ss mem Qt (pc + 1) ls (.inr b :: st) x0 P) : Rg C nL G cs ss mem Qt pc ls st x0 P := fun t hP H locs lsA hH hS hL => lv_aload_n hC.1 hC.2.1 d hi (ld_at hL hl) (k t hP H locs lsA hH hS hL)
theorem z_aload (hC : Cx C cc nL own ret rm G) (i : Nat) (n : Nat) {b : Nat × Nat} (hl : ls[n]? = some (i, .inr b)) (d : decode cc pc = .ok (.aload i, 2))
    (k : Rg C nL G cs ss mem Qt (pc + 2) ls (.inr b :: st) x0 P) : Rg C nL G cs ss mem Qt pc ls st x0 P := fun t hP H locs lsA hH hS hL => lv_aload hC.1 hC.2.1 d (ld_at hL hl) (k t hP H locs lsA hH hS hL)
theorem z_istore_n (hC : Cx C cc nL own ret rm G) {q : Fin 4} (i : Nat) (hi : (q : Nat) = i) (hn : i < nL) {v : Int32} {ls1 : Int32 → List (Nat × AV)} {K : Int32 → Option τ} (hl : ∀ v, stl ls i (.inl (.int v)) = ls1 v) (d : decode cc pc = .ok (.istore_n q, 1))
    (k : ∀ v, Rg C nL G cs ss mem Qt (pc + 1) (ls1 v) st x0 (K v)) : Rg C nL G cs ss mem Qt pc ls (.inl (.int v) :: st) x0 (bnd v K) := fun t hP H locs lsA hH hS hL => lv_istore_n hC.1 hC.2.1 d hi hL hn (st_map1 (hl v)) (fun lsA hL => k v t hP H locs lsA hH hS hL)
theorem z_istore (hC : Cx C cc nL own ret rm G) (i : Nat) (hn : i < nL) {v : Int32} {ls1 : Int32 → List (Nat × AV)} {K : Int32 → Option τ} (hl : ∀ v, stl ls i (.inl (.int v)) = ls1 v) (d : decode cc pc = .ok (.istore i, 2))
    (k : ∀ v, Rg C nL G cs ss mem Qt (pc + 2) (ls1 v) st x0 (K v)) : Rg C nL G cs ss mem Qt pc ls (.inl (.int v) :: st) x0 (bnd v K) := fun t hP H locs lsA hH hS hL => lv_istore hC.1 hC.2.1 d hL hn (st_map1 (hl v)) (fun lsA hL => k v t hP H locs lsA hH hS hL)
theorem z_fstore_n (hC : Cx C cc nL own ret rm G) {q : Fin 4} (i : Nat) (hi : (q : Nat) = i) (hn : i < nL) {v : UInt32} {ls1 : UInt32 → List (Nat × AV)} {K : UInt32 → Option τ} (hl : ∀ v, stl ls i (.inl (.float v)) = ls1 v) (d : decode cc pc = .ok (.fstore_n q, 1))
    (k : ∀ v, Rg C nL G cs ss mem Qt (pc + 1) (ls1 v) st x0 (K v)) : Rg C nL G cs ss mem Qt pc ls (.inl (.float v) :: st) x0 (bnd v K) := fun t hP H locs lsA hH hS hL => lv_fstore_n hC.1 hC.2.1 d hi hL hn (st_map1 (hl v)) (fun lsA hL => k v t hP H locs lsA hH hS hL)
theorem z_fstore (hC : Cx C cc nL own ret rm G) (i : Nat) (hn : i < nL) {v : UInt32} {ls1 : UInt32 → List (Nat × AV)} {K : UInt32 → Option τ} (hl : ∀ v, stl ls i (.inl (.float v)) = ls1 v) (d : decode cc pc = .ok (.fstore i, 2))
    (k : ∀ v, Rg C nL G cs ss mem Qt (pc + 2) (ls1 v) st x0 (K v)) : Rg C nL G cs ss mem Qt pc ls (.inl (.float v) :: st) x0 (bnd v K) := fun t hP H locs lsA hH hS hL => lv_fstore hC.1 hC.2.1 d hL hn (st_map1 (hl v)) (fun lsA hL => k v t hP H locs lsA hH hS hL)
theorem z_lstore_n (hC : Cx C cc nL own ret rm G) {q : Fin 4} (i : Nat) (hi : (q : Nat) = i) (hn : i + 1 < nL) {v : Int64} {ls1 : Int64 → List (Nat × AV)} {K : Int64 → Option τ} (hl : ∀ v, stl2 ls i (.inl (.long v)) = ls1 v) (d : decode cc pc = .ok (.lstore_n q, 1))
    (k : ∀ v, Rg C nL G cs ss mem Qt (pc + 1) (ls1 v) st x0 (K v)) : Rg C nL G cs ss mem Qt pc ls (.inl (.long v) :: st) x0 (bnd v K) := fun t hP H locs lsA hH hS hL => lv_lstore_n hC.1 hC.2.1 d hi hL hn (st_map2 (hl v)) (fun lsA hL => k v t hP H locs lsA hH hS hL)
theorem z_lstore (hC : Cx C cc nL own ret rm G) (i : Nat) (hn : i + 1 < nL) {v : Int64} {ls1 : Int64 → List (Nat × AV)} {K : Int64 → Option τ} (hl : ∀ v, stl2 ls i (.inl (.long v)) = ls1 v) (d : decode cc pc = .ok (.lstore i, 2))
    (k : ∀ v, Rg C nL G cs ss mem Qt (pc + 2) (ls1 v) st x0 (K v)) : Rg C nL G cs ss mem Qt pc ls (.inl (.long v) :: st) x0 (bnd v K) := fun t hP H locs lsA hH hS hL => lv_lstore hC.1 hC.2.1 d hL hn (st_map2 (hl v)) (fun lsA hL => k v t hP H locs lsA hH hS hL)
theorem z_dstore_n (hC : Cx C cc nL own ret rm G) {q : Fin 4} (i : Nat) (hi : (q : Nat) = i) (hn : i + 1 < nL) {v : UInt64} {ls1 : UInt64 → List (Nat × AV)} {K : UInt64 → Option τ} (hl : ∀ v, stl2 ls i (.inl (.double v)) = ls1 v) (d : decode cc pc = .ok (.dstore_n q, 1))
    (k : ∀ v, Rg C nL G cs ss mem Qt (pc + 1) (ls1 v) st x0 (K v)) : Rg C nL G cs ss mem Qt pc ls (.inl (.double v) :: st) x0 (bnd v K) := fun t hP H locs lsA hH hS hL => lv_dstore_n hC.1 hC.2.1 d hi hL hn (st_map2 (hl v)) (fun lsA hL => k v t hP H locs lsA hH hS hL)
theorem z_dstore (hC : Cx C cc nL own ret rm G) (i : Nat) (hn : i + 1 < nL) {v : UInt64} {ls1 : UInt64 → List (Nat × AV)} {K : UInt64 → Option τ} (hl : ∀ v, stl2 ls i (.inl (.double v)) = ls1 v) (d : decode cc pc = .ok (.dstore i, 2))
    (k : ∀ v, Rg C nL G cs ss mem Qt (pc + 2) (ls1 v) st x0 (K v)) : Rg C nL G cs ss mem Qt pc ls (.inl (.double v) :: st) x0 (bnd v K) := fun t hP H locs lsA hH hS hL => lv_dstore hC.1 hC.2.1 d hL hn (st_map2 (hl v)) (fun lsA hL => k v t hP H locs lsA hH hS hL)
theorem z_astore_n (hC : Cx C cc nL own ret rm G) {q : Fin 4} (i : Nat) (hi : (q : Nat) = i) (hn : i < nL) {b : Nat × Nat} {ls1 : List (Nat × AV)} (hl : stl ls i (.inr b) = ls1) (d : decode cc pc = .ok (.astore_n q, 1))
    (k : Rg C nL G cs ss mem Qt (pc + 1) ls1 st x0 P) : Rg C nL G cs ss mem Qt pc ls (.inr b :: st) x0 P := fun t hP H locs lsA hH hS hL => lv_astore_n hC.1 hC.2.1 d hi hL hn (st_map1 hl) (fun lsA hL => k t hP H locs lsA hH hS hL)
theorem z_astore (hC : Cx C cc nL own ret rm G) (i : Nat) (hn : i < nL) {b : Nat × Nat} {ls1 : List (Nat × AV)} (hl : stl ls i (.inr b) = ls1) (d : decode cc pc = .ok (.astore i, 2))
    (k : Rg C nL G cs ss mem Qt (pc + 2) ls1 st x0 P) : Rg C nL G cs ss mem Qt pc ls (.inr b :: st) x0 P := fun t hP H locs lsA hH hS hL => lv_astore hC.1 hC.2.1 d hL hn (st_map1 hl) (fun lsA hL => k t hP H locs lsA hH hS hL)
theorem z_iinc (hC : Cx C cc nL own ret rm G) (i n : Nat) (hn : i < nL) {c : Int} (w : Int32) (hw : Int32.ofInt c = w) {y : Int32} {ls1 : Int32 → List (Nat × AV)} {K : Int32 → Option τ} (hg : ls[n]? = some (i, .inl (.int y))) (hl : ∀ v, stl ls i (.inl (.int v)) = ls1 v) (d : decode cc pc = .ok (.iinc i c, 3))
    (k : ∀ v, Rg C nL G cs ss mem Qt (pc + 3) (ls1 v) st x0 (K v)) : Rg C nL G cs ss mem Qt pc ls st x0 (bnd (y + w) K) := fun t hP H locs lsA hH hS hL => lv_iinc (k := n) hC.1 hC.2.1 d hL (by rw [List.getElem?_map, hg]; rfl) (by rw [hw]) hn (st_map1 (hl (y + w))) (fun lsA hL => k (y + w) t hP H locs lsA hH hS hL)
theorem z_dup (hC : Cx C cc nL own ret rm G) {v : AV} (hv : (ph G v).category = 1) (d : decode cc pc = .ok (.dup, 1))
    (k : Rg C nL G cs ss mem Qt (pc + 1) ls (v :: v :: st) x0 P) : Rg C nL G cs ss mem Qt pc ls (v :: st) x0 P := fun t hP H locs lsA hH hS hL => lv_dup hC.1 hC.2.1 d hv (k t hP H locs lsA hH hS hL)
theorem z_pop (hC : Cx C cc nL own ret rm G) {v : AV} (hv : (ph G v).category = 1) (d : decode cc pc = .ok (.pop, 1))
    (k : Rg C nL G cs ss mem Qt (pc + 1) ls st x0 P) : Rg C nL G cs ss mem Qt pc ls (v :: st) x0 P := fun t hP H locs lsA hH hS hL => lv_pop hC.1 hC.2.1 d hv (k t hP H locs lsA hH hS hL)
theorem z_dup2 (hC : Cx C cc nL own ret rm G) {v w : AV} (hv : (ph G v).category = 1) (hw : (ph G w).category = 1) (d : decode cc pc = .ok (.dup2, 1))
    (k : Rg C nL G cs ss mem Qt (pc + 1) ls (v :: w :: v :: w :: st) x0 P) : Rg C nL G cs ss mem Qt pc ls (v :: w :: st) x0 P := fun t hP H locs lsA hH hS hL => lv_dup2_11 hC.1 hC.2.1 d hv hw (k t hP H locs lsA hH hS hL)
theorem z_if_eq (hC : Cx C cc nL own ret rm G) {off : Int} (tgt : Nat) (ht : (pc : Int) + off = (tgt : Int)) {x : Int32} (d : decode cc pc = .ok (.ifCond .eq off, 3))
    (kt : Rg C nL G cs ss mem Qt tgt ls st x0 P1) (kf : Rg C nL G cs ss mem Qt (pc + 3) ls st x0 P2) : Rg C nL G cs ss mem Qt pc ls (.inl (.int x) :: st) x0 (if x = 0 then P1 else P2) := by
  intro t hP H locs lsA hH hS hL
  refine lv_if_eq (tgt := tgt) hC.1 hC.2.1 d ht (fun h => ?_) (fun h => ?_)
  · exact kt t (by rw [if_pos h] at hP; exact hP) H locs lsA hH hS hL
  · exact kf t (by rw [if_neg h] at hP; exact hP) H locs lsA hH hS hL
theorem z_icmp_eq (hC : Cx C cc nL own ret rm G) {off : Int} (tgt : Nat) (ht : (pc : Int) + off = (tgt : Int)) {x y : Int32} (d : decode cc pc = .ok (.if_icmp .eq off, 3))
    (kt : Rg C nL G cs ss mem Qt tgt ls st x0 P1) (kf : Rg C nL G cs ss mem Qt (pc + 3) ls st x0 P2) : Rg C nL G cs ss mem Qt pc ls (.inl (.int y) :: .inl (.int x) :: st) x0 (if x = y then P1 else P2) := by
  intro t hP H locs lsA hH hS hL
  refine lv_icmp_eq (tgt := tgt) hC.1 hC.2.1 d ht (fun h => ?_) (fun h => ?_)
  · exact kt t (by rw [if_pos h] at hP; exact hP) H locs lsA hH hS hL
  · exact kf t (by rw [if_neg h] at hP; exact hP) H locs lsA hH hS hL
theorem z_if_ne (hC : Cx C cc nL own ret rm G) {off : Int} (tgt : Nat) (ht : (pc : Int) + off = (tgt : Int)) {x : Int32} (d : decode cc pc = .ok (.ifCond .ne off, 3))
    (kt : Rg C nL G cs ss mem Qt tgt ls st x0 P1) (kf : Rg C nL G cs ss mem Qt (pc + 3) ls st x0 P2) : Rg C nL G cs ss mem Qt pc ls (.inl (.int x) :: st) x0 (if x = 0 then P2 else P1) := by
  intro t hP H locs lsA hH hS hL
  refine lv_if_ne (tgt := tgt) hC.1 hC.2.1 d ht (fun h => ?_) (fun h => ?_)
  · exact kt t (by rw [if_neg h] at hP; exact hP) H locs lsA hH hS hL
  · exact kf t (by rw [if_pos h] at hP; exact hP) H locs lsA hH hS hL
theorem z_icmp_ne (hC : Cx C cc nL own ret rm G) {off : Int} (tgt : Nat) (ht : (pc : Int) + off = (tgt : Int)) {x y : Int32} (d : decode cc pc = .ok (.if_icmp .ne off, 3))
    (kt : Rg C nL G cs ss mem Qt tgt ls st x0 P1) (kf : Rg C nL G cs ss mem Qt (pc + 3) ls st x0 P2) : Rg C nL G cs ss mem Qt pc ls (.inl (.int y) :: .inl (.int x) :: st) x0 (if x = y then P2 else P1) := by
  intro t hP H locs lsA hH hS hL
  refine lv_icmp_ne (tgt := tgt) hC.1 hC.2.1 d ht (fun h => ?_) (fun h => ?_)
  · exact kt t (by rw [if_neg h] at hP; exact hP) H locs lsA hH hS hL
  · exact kf t (by rw [if_pos h] at hP; exact hP) H locs lsA hH hS hL
theorem z_if_lt (hC : Cx C cc nL own ret rm G) {off : Int} (tgt : Nat) (ht : (pc : Int) + off = (tgt : Int)) {x : Int32} (d : decode cc pc = .ok (.ifCond .lt off, 3))
    (kt : Rg C nL G cs ss mem Qt tgt ls st x0 P1) (kf : Rg C nL G cs ss mem Qt (pc + 3) ls st x0 P2) : Rg C nL G cs ss mem Qt pc ls (.inl (.int x) :: st) x0 (if x < 0 then P1 else P2) := by
  intro t hP H locs lsA hH hS hL
  refine lv_if_lt (tgt := tgt) hC.1 hC.2.1 d ht (fun h => ?_) (fun h => ?_)
  · exact kt t (by rw [if_pos h] at hP; exact hP) H locs lsA hH hS hL
  · exact kf t (by rw [if_neg h] at hP; exact hP) H locs lsA hH hS hL
theorem z_icmp_lt (hC : Cx C cc nL own ret rm G) {off : Int} (tgt : Nat) (ht : (pc : Int) + off = (tgt : Int)) {x y : Int32} (d : decode cc pc = .ok (.if_icmp .lt off, 3))
    (kt : Rg C nL G cs ss mem Qt tgt ls st x0 P1) (kf : Rg C nL G cs ss mem Qt (pc + 3) ls st x0 P2) : Rg C nL G cs ss mem Qt pc ls (.inl (.int y) :: .inl (.int x) :: st) x0 (if x < y then P1 else P2) := by
  intro t hP H locs lsA hH hS hL
  refine lv_icmp_lt (tgt := tgt) hC.1 hC.2.1 d ht (fun h => ?_) (fun h => ?_)
  · exact kt t (by rw [if_pos h] at hP; exact hP) H locs lsA hH hS hL
  · exact kf t (by rw [if_neg h] at hP; exact hP) H locs lsA hH hS hL
theorem z_if_ge (hC : Cx C cc nL own ret rm G) {off : Int} (tgt : Nat) (ht : (pc : Int) + off = (tgt : Int)) {x : Int32} (d : decode cc pc = .ok (.ifCond .ge off, 3))
    (kt : Rg C nL G cs ss mem Qt tgt ls st x0 P1) (kf : Rg C nL G cs ss mem Qt (pc + 3) ls st x0 P2) : Rg C nL G cs ss mem Qt pc ls (.inl (.int x) :: st) x0 (if 0 ≤ x then P1 else P2) := by
  intro t hP H locs lsA hH hS hL
  refine lv_if_ge (tgt := tgt) hC.1 hC.2.1 d ht (fun h => ?_) (fun h => ?_)
  · exact kt t (by rw [if_pos h] at hP; exact hP) H locs lsA hH hS hL
  · exact kf t (by rw [if_neg h] at hP; exact hP) H locs lsA hH hS hL
theorem z_icmp_ge (hC : Cx C cc nL own ret rm G) {off : Int} (tgt : Nat) (ht : (pc : Int) + off = (tgt : Int)) {x y : Int32} (d : decode cc pc = .ok (.if_icmp .ge off, 3))
    (kt : Rg C nL G cs ss mem Qt tgt ls st x0 P1) (kf : Rg C nL G cs ss mem Qt (pc + 3) ls st x0 P2) : Rg C nL G cs ss mem Qt pc ls (.inl (.int y) :: .inl (.int x) :: st) x0 (if y ≤ x then P1 else P2) := by
  intro t hP H locs lsA hH hS hL
  refine lv_icmp_ge (tgt := tgt) hC.1 hC.2.1 d ht (fun h => ?_) (fun h => ?_)
  · exact kt t (by rw [if_pos h] at hP; exact hP) H locs lsA hH hS hL
  · exact kf t (by rw [if_neg h] at hP; exact hP) H locs lsA hH hS hL
theorem z_if_gt (hC : Cx C cc nL own ret rm G) {off : Int} (tgt : Nat) (ht : (pc : Int) + off = (tgt : Int)) {x : Int32} (d : decode cc pc = .ok (.ifCond .gt off, 3))
    (kt : Rg C nL G cs ss mem Qt tgt ls st x0 P1) (kf : Rg C nL G cs ss mem Qt (pc + 3) ls st x0 P2) : Rg C nL G cs ss mem Qt pc ls (.inl (.int x) :: st) x0 (if 0 < x then P1 else P2) := by
  intro t hP H locs lsA hH hS hL
  refine lv_if_gt (tgt := tgt) hC.1 hC.2.1 d ht (fun h => ?_) (fun h => ?_)
  · exact kt t (by rw [if_pos h] at hP; exact hP) H locs lsA hH hS hL
  · exact kf t (by rw [if_neg h] at hP; exact hP) H locs lsA hH hS hL
theorem z_icmp_gt (hC : Cx C cc nL own ret rm G) {off : Int} (tgt : Nat) (ht : (pc : Int) + off = (tgt : Int)) {x y : Int32} (d : decode cc pc = .ok (.if_icmp .gt off, 3))
    (kt : Rg C nL G cs ss mem Qt tgt ls st x0 P1) (kf : Rg C nL G cs ss mem Qt (pc + 3) ls st x0 P2) : Rg C nL G cs ss mem Qt pc ls (.inl (.int y) :: .inl (.int x) :: st) x0 (if y < x then P1 else P2) := by
  intro t hP H locs lsA hH hS hL
  refine lv_icmp_gt (tgt := tgt) hC.1 hC.2.1 d ht (fun h => ?_) (fun h => ?_)
  · exact kt t (by rw [if_pos h] at hP; exact hP) H locs lsA hH hS hL
  · exact kf t (by rw [if_neg h] at hP; exact hP) H locs lsA hH hS hL
theorem z_if_le (hC : Cx C cc nL own ret rm G) {off : Int} (tgt : Nat) (ht : (pc : Int) + off = (tgt : Int)) {x : Int32} (d : decode cc pc = .ok (.ifCond .le off, 3))
    (kt : Rg C nL G cs ss mem Qt tgt ls st x0 P1) (kf : Rg C nL G cs ss mem Qt (pc + 3) ls st x0 P2) : Rg C nL G cs ss mem Qt pc ls (.inl (.int x) :: st) x0 (if x ≤ 0 then P1 else P2) := by
  intro t hP H locs lsA hH hS hL
  refine lv_if_le (tgt := tgt) hC.1 hC.2.1 d ht (fun h => ?_) (fun h => ?_)
  · exact kt t (by rw [if_pos h] at hP; exact hP) H locs lsA hH hS hL
  · exact kf t (by rw [if_neg h] at hP; exact hP) H locs lsA hH hS hL
theorem z_icmp_le (hC : Cx C cc nL own ret rm G) {off : Int} (tgt : Nat) (ht : (pc : Int) + off = (tgt : Int)) {x y : Int32} (d : decode cc pc = .ok (.if_icmp .le off, 3))
    (kt : Rg C nL G cs ss mem Qt tgt ls st x0 P1) (kf : Rg C nL G cs ss mem Qt (pc + 3) ls st x0 P2) : Rg C nL G cs ss mem Qt pc ls (.inl (.int y) :: .inl (.int x) :: st) x0 (if x ≤ y then P1 else P2) := by
  intro t hP H locs lsA hH hS hL
  refine lv_icmp_le (tgt := tgt) hC.1 hC.2.1 d ht (fun h => ?_) (fun h => ?_)
  · exact kt t (by rw [if_pos h] at hP; exact hP) H locs lsA hH hS hL
  · exact kf t (by rw [if_neg h] at hP; exact hP) H locs lsA hH hS hL
theorem z_goto (hC : Cx C cc nL own ret rm G) {off : Int} (tgt : Nat) (ht : (pc : Int) + off = (tgt : Int)) (d : decode cc pc = .ok (.goto off, 3)) (k : Rg C nL G cs ss mem Qt tgt ls st x0 P) : Rg C nL G cs ss mem Qt pc ls st x0 P := fun t hP H locs lsA hH hS hL => lv_goto (tgt := tgt) hC.1 hC.2.1 d ht (k t hP H locs lsA hH hS hL)
theorem z_ite {c : Prop} [Decidable c] (kt : c → Rg C nL G cs ss mem Qt pc ls st x0 P1) (kf : ¬ c → Rg C nL G cs ss mem Qt pc ls st x0 P2) : Rg C nL G cs ss mem Qt pc ls st x0 (if c then P1 else P2) := by
  intro t hP H locs lsA hH hS hL
  by_cases h : c
  · rw [if_pos h] at hP; exact kt h t hP H locs lsA hH hS hL
  · rw [if_neg h] at hP; exact kf h t hP H locs lsA hH hS hL
theorem z_tswIn (hC : Cx C cc nL own ret rm G) {dflt lo hi : Int} {offs : Array Int} {len : Nat} {x : Int32} (n : Int) {off : Int} (tgt : Nat) (hx : x.toInt = n) (hlo : lo ≤ n) (hhi : n ≤ hi) (ho : offs[(n - lo).toNat]? = some off) (ht : (pc : Int) + off = (tgt : Int)) (d : decode cc pc = .ok (.tableswitch dflt lo hi offs, len)) (k : Rg C nL G cs ss mem Qt tgt ls st x0 P) : Rg C nL G cs ss mem Qt pc ls (.inl (.int x) :: st) x0 P := fun t hP H locs lsA hH hS hL => lv_tableIn (tgt := tgt) (off := off) hC.1 hC.2.1 d (by rw [hx]; omega) (by rw [hx]; omega) (by rw [hx]; exact ho) ht (k t hP H locs lsA hH hS hL)
theorem z_tswOut (hC : Cx C cc nL own ret rm G) {dflt lo hi : Int} {offs : Array Int} {len : Nat} {x : Int32} (tgt : Nat) (ho : x.toInt < lo ∨ hi < x.toInt) (ht : (pc : Int) + dflt = (tgt : Int)) (d : decode cc pc = .ok (.tableswitch dflt lo hi offs, len)) (k : Rg C nL G cs ss mem Qt tgt ls st x0 P) : Rg C nL G cs ss mem Qt pc ls (.inl (.int x) :: st) x0 P := fun t hP H locs lsA hH hS hL => lv_tableOut (tgt := tgt) hC.1 hC.2.1 d ho ht (k t hP H locs lsA hH hS hL)
theorem z_sub (ks : List Nat) {ls1 : List (Nat × AV)} (hl : ks.filterMap (fun k => ls[k]?) = ls1) (k : Rg C nL G cs ss mem Qt pc ls1 st x0 P) : Rg C nL G cs ss mem Qt pc ls st x0 P := fun t hP H locs lsA hH hS hL => k t hP H locs lsA hH hS (ld_sub ks hl hL)
theorem z_none : Rg C nL G cs ss mem Qt pc ls st x0 none := fun t hP => by cases hP
theorem z_iret {C : Cxt} {cc : ByteArray} {nL : Nat} {own : String} {rm : Room} {G : Geo} {σ τ : Type} {mem : σ → Mem} {po : τ → Option AV × Mem} {pc : Nat} {ls : List (Nat × AV)} {x0 : σ} {r : τ} (hC : Cx C cc nL own (some .int) rm G) {v : Int32} (hr : po r = (some (.inl (.int v)), mem x0)) (d : decode cc pc = .ok (.ireturn, 1)) : Rz C nL G mem po pc ls [(.inl (.int v))] x0 (some r) := by
  intro t hP H locs lsA hH hS hL
  cases hP
  unfold QM
  rw [hr]
  exact W.iret hC.1 hC.2.1 hC.2.2.2.2.2.2.2.2.1 (fun t ht _ => ⟨rfl, by rw [ht]; exact hH, Fa.F hS ht⟩) hS.2.2 d hC.2.2.2.2.2.2.2.1
theorem z_zret {C : Cxt} {cc : ByteArray} {nL : Nat} {own : String} {rm : Room} {G : Geo} {σ τ : Type} {mem : σ → Mem} {po : τ → Option AV × Mem} {pc : Nat} {ls : List (Nat × AV)} {x0 : σ} {r : τ} (hC : Cx C cc nL own (some .boolean) rm G) {v : Int32} (hr : po r = (some (.inl (.int v)), mem x0)) (hv : narrow .boolean (.int v) = .int v) (d : decode cc pc = .ok (.ireturn, 1)) : Rz C nL G mem po pc ls [(.inl (.int v))] x0 (some r) := by
  intro t hP H locs lsA hH hS hL
  cases hP
  unfold QM
  rw [hr]
  exact W.zret hC.1 hC.2.1 hC.2.2.2.2.2.2.2.2.1 hv (fun t ht _ => ⟨rfl, by rw [ht]; exact hH, Fa.F hS ht⟩) hS.2.2 d hC.2.2.2.2.2.2.2.1
theorem z_vret {C : Cxt} {cc : ByteArray} {nL : Nat} {own : String} {rm : Room} {G : Geo} {σ τ : Type} {mem : σ → Mem} {po : τ → Option AV × Mem} {pc : Nat} {ls : List (Nat × AV)} {x0 : σ} {r : τ} (hC : Cx C cc nL own none rm G)  (hr : po r = (none, mem x0)) (d : decode cc pc = .ok (.return_, 1)) : Rz C nL G mem po pc ls [] x0 (some r) := by
  intro t hP H locs lsA hH hS hL
  cases hP
  unfold QM
  rw [hr]
  exact W.vret hC.1 hC.2.1 hC.2.2.2.2.2.2.2.2.1 (fun t ht _ => ⟨rfl, by rw [ht]; exact hH, Fa.F hS ht⟩) hS.2.2 d hC.2.2.2.2.2.2.2.1
theorem z_fret {C : Cxt} {cc : ByteArray} {nL : Nat} {own : String} {rm : Room} {G : Geo} {σ τ : Type} {mem : σ → Mem} {po : τ → Option AV × Mem} {pc : Nat} {ls : List (Nat × AV)} {x0 : σ} {r : τ} (hC : Cx C cc nL own (some .float) rm G) {v : UInt32} (hr : po r = (some (.inl (.float v)), mem x0)) (d : decode cc pc = .ok (.freturn, 1)) : Rz C nL G mem po pc ls [(.inl (.float v))] x0 (some r) := by
  intro t hP H locs lsA hH hS hL
  cases hP
  unfold QM
  rw [hr]
  exact W.fret hC.1 hC.2.1 hC.2.2.2.2.2.2.2.2.1 (fun t ht _ => ⟨rfl, by rw [ht]; exact hH, Fa.F hS ht⟩) hS.2.2 d hC.2.2.2.2.2.2.2.1
theorem z_lret {C : Cxt} {cc : ByteArray} {nL : Nat} {own : String} {rm : Room} {G : Geo} {σ τ : Type} {mem : σ → Mem} {po : τ → Option AV × Mem} {pc : Nat} {ls : List (Nat × AV)} {x0 : σ} {r : τ} (hC : Cx C cc nL own (some .long) rm G) {v : Int64} (hr : po r = (some (.inl (.long v)), mem x0)) (d : decode cc pc = .ok (.lreturn, 1)) : Rz C nL G mem po pc ls [(.inl (.long v))] x0 (some r) := by
  intro t hP H locs lsA hH hS hL
  cases hP
  unfold QM
  rw [hr]
  exact W.lret hC.1 hC.2.1 hC.2.2.2.2.2.2.2.2.1 (fun t ht _ => ⟨rfl, by rw [ht]; exact hH, Fa.F hS ht⟩) hS.2.2 d hC.2.2.2.2.2.2.2.1
theorem z_zretG {C : Cxt} {cc : ByteArray} {nL : Nat} {own : String} {rm : Room} {G : Geo} {σ τ : Type} {mem : σ → Mem} {po : τ → Option AV × Mem} {pc : Nat} {ls : List (Nat × AV)} {x0 : σ} {r : τ} (hC : Cx C cc nL own (some .boolean) rm G) {v : Int32} (hr : po r = (some (.inl (.int v)), mem x0)) (d : decode cc pc = .ok (.ireturn, 1)) : Rz C nL G mem po pc ls [.inl (.int v)] x0 (if v = 0 ∨ v = 1 then some r else none) := by
  intro t hP H locs lsA hH hS hL
  by_cases h : v = 0 ∨ v = 1
  · rw [if_pos h] at hP
    exact z_zret hC hr (by rcases h with h | h <;> subst h <;> rfl) d t hP H locs lsA hH hS hL
  · rw [if_neg h] at hP; cases hP
end ZR
