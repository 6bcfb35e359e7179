/-! J: bytecode of the claim over one memory of whole numbers. Values are whole numbers (Int), told to the machine by Int32.ofInt, Int64.ofInt. -/
def s32 (a : Int) : Int := Int.bmod a 4294967296
def s64 (a : Int) : Int := Int.bmod a 18446744073709551616
def s8 (a : Int) : Int := Int.bmod a 256
def vI (a : Int) : Value := .int (Int32.ofInt a)
def vL (a : Int) : Value := .long (Int64.ofInt a)
def vR (base c : Nat) : Value := .ref (base + c)
abbrev Mem : Type := Nat → Int → Int
def mset (m : Mem) (c : Nat) (i v : Int) : Mem := fun c' i' => if c' = c ∧ i' = i then v else m c' i'
theorem s32_toInt (a : Int) : (Int32.ofInt a).toInt = s32 a := by simp [s32, Int32.size]
theorem s64_toInt (a : Int) : (Int64.ofInt a).toInt = s64 a := by simp [s64, Int64.size]
theorem i32_of (x : Int32) : Int32.ofInt x.toInt = x := Int32.ofInt_toInt x
theorem i64_of (x : Int64) : Int64.ofInt x.toInt = x := Int64.ofInt_toInt x
theorem i32_lt (a b : Int) : Int32.ofInt a < Int32.ofInt b ↔ s32 a < s32 b := by rw [Int32.lt_iff_toInt_lt, s32_toInt, s32_toInt]
theorem i32_le (a b : Int) : Int32.ofInt a ≤ Int32.ofInt b ↔ s32 a ≤ s32 b := by rw [Int32.le_iff_toInt_le, s32_toInt, s32_toInt]
theorem i32_eq (a b : Int) : Int32.ofInt a = Int32.ofInt b ↔ s32 a = s32 b := by rw [← Int32.toInt_inj, s32_toInt, s32_toInt]
theorem i64_lt (a b : Int) : Int64.ofInt a < Int64.ofInt b ↔ s64 a < s64 b := by rw [Int64.lt_iff_toInt_lt, s64_toInt, s64_toInt]
theorem i64_le (a b : Int) : Int64.ofInt a ≤ Int64.ofInt b ↔ s64 a ≤ s64 b := by rw [Int64.le_iff_toInt_le, s64_toInt, s64_toInt]
theorem i64_eq (a b : Int) : Int64.ofInt a = Int64.ofInt b ↔ s64 a = s64 b := by rw [← Int64.toInt_inj, s64_toInt, s64_toInt]
theorem i32_0 : (0 : Int32) = Int32.ofInt 0 := by decide +kernel
theorem s32_0 : s32 0 = 0 := by decide +kernel
theorem i32_lt0 (a : Int) : Int32.ofInt a < 0 ↔ s32 a < 0 := by rw [i32_0, i32_lt, s32_0]
theorem i32_0le (a : Int) : 0 ≤ Int32.ofInt a ↔ 0 ≤ s32 a := by rw [i32_0, i32_le, s32_0]
theorem i32_le0 (a : Int) : Int32.ofInt a ≤ 0 ↔ s32 a ≤ 0 := by rw [i32_0, i32_le, s32_0]
theorem i32_0lt (a : Int) : 0 < Int32.ofInt a ↔ 0 < s32 a := by rw [i32_0, i32_lt, s32_0]
theorem i32_eq0 (a : Int) : Int32.ofInt a = 0 ↔ s32 a = 0 := by rw [i32_0, i32_eq, s32_0]
theorem s64_0 : s64 0 = 0 := by decide +kernel
theorem i64_eq0 (a : Int) : Int64.ofInt a = 0 ↔ s64 a = 0 := by rw [show (0 : Int64) = Int64.ofInt 0 by decide +kernel, i64_eq, s64_0]
theorem i32_clamp (a : Int) : (Int32.ofInt a).toNatClampNeg = (s32 a).toNat := by rw [← s32_toInt]; rfl
theorem i32_i2l (a : Int) : (Int32.ofInt a).toInt64 = Int64.ofInt (s32 a) := by
  rw [← s32_toInt, ← Int64.toInt_inj, Int32.toInt_toInt64, Int64.toInt_ofInt]
  have h1 := Int32.le_toInt (Int32.ofInt a)
  have h2 := Int32.toInt_lt (Int32.ofInt a)
  rw [Int.bmod_eq_of_le] <;> simp only [Int64.size] <;> omega
theorem i32_div (a b : Int) : Int32.ofInt a / Int32.ofInt b = Int32.ofInt ((s32 a).tdiv (s32 b)) := by
  rw [← Int32.toInt_inj, Int32.toInt_div, s32_toInt, s32_toInt, s32_toInt]
  rfl
theorem i32_s (a : Int) : Int32.ofInt (s32 a) = Int32.ofInt a := by rw [← s32_toInt]; exact Int32.ofInt_toInt _
theorem i32_rem (a b : Int) : Int32.ofInt a - Int32.ofInt a / Int32.ofInt b * Int32.ofInt b = Int32.ofInt ((s32 a).tmod (s32 b)) := by
  rw [i32_div, ← i32_s a, ← i32_s b, ← Int32.ofInt_mul, ← Int32.ofInt_sub, Int.tmod_def, Int.mul_comm (s32 b)]
theorem i64_div (a b : Int) : Int64.ofInt a / Int64.ofInt b = Int64.ofInt ((s64 a).tdiv (s64 b)) := by
  rw [← Int64.toInt_inj, Int64.toInt_div, s64_toInt, s64_toInt, s64_toInt]
  rfl
theorem i64_s (a : Int) : Int64.ofInt (s64 a) = Int64.ofInt a := by rw [← s64_toInt]; exact Int64.ofInt_toInt _
theorem i64_rem (a b : Int) : Int64.ofInt a - Int64.ofInt a / Int64.ofInt b * Int64.ofInt b = Int64.ofInt ((s64 a).tmod (s64 b)) := by
  rw [i64_div, ← i64_s a, ← i64_s b, ← Int64.ofInt_mul, ← Int64.ofInt_sub, Int.tmod_def, Int.mul_comm (s64 b)]
theorem i32_i2b (a : Int) : (Int32.ofInt a).toInt8.toInt32 = Int32.ofInt (s8 a) := by
  rw [Int32.toInt8_ofInt, ← Int32.toInt_inj, Int8.toInt_toInt32, Int8.toInt_ofInt, Int32.toInt_ofInt]
  have h1 := Int.bmod_lt (x := a) (m := 256) (by decide)
  have h2 := Int.le_bmod (x := a) (m := 256) (by decide)
  show Int.bmod a 256 = Int.bmod (s8 a) _
  unfold s8
  rw [Int.bmod_eq_of_le (n := Int.bmod a 256)] <;> simp only [Int32.size] <;> omega
/-! combinators of the told programs -/
def ck {α : Type} (i : Int) (n : Nat) (k : Option α) : Option α := if 0 ≤ s32 i ∧ s32 i < (n : Int) then k else none
def dv {α : Type} (b : Int) (k : Option α) : Option α := if b = 0 then none else k
def lt {α β : Type} (e : α) (k : α → Option β) : Option β := k e
def jn {γ α : Type} (b : γ) (f : γ → Option α) : Option α := f b

/-! the cells: their kinds and lengths, in the order in which the constructors make them -/
def jKinds : List Nat := [8, 0, 20, 20, 20, 20, 20, 20, 20, 20, 1, 24, 0, 20, 20, 20, 20, 20, 20, 20, 20, 0, 20, 20, 20, 20, 20, 20, 20, 20, 0, 20, 20, 20, 20, 20, 20, 20, 20, 0, 20, 20, 20, 20, 20, 20, 20, 20, 0, 20, 20, 20, 20, 20, 20, 20, 20, 0, 20, 20, 20, 20, 20, 20, 20, 20, 0, 20, 20, 20, 20, 20, 20, 20, 20, 0, 20, 20, 20, 20, 20, 20, 20, 20, 0, 20, 20, 20, 20, 20, 20, 20, 20, 0, 20, 20, 20, 20, 20, 20, 20, 20, 0, 20, 20, 20, 20, 20, 20, 20, 20, 7, 20, 20, 21, 21, 21, 21, 21, 21, 4, 2, 2, 4, 2, 2, 21, 2, 2, 2, 2, 5, 0, 20, 20, 20, 20, 20, 20, 20, 20, 22, 20, 3, 22, 22, 6, 20, 21, 9, 20, 20, 20, 21, 21, 21, 21, 21, 21, 21, 20, 20, 23, 20, 20, 20, 20, 20, 21, 20]
def jLens : List Nat := [0, 0, 4, 4, 6, 6, 6, 6, 3, 3, 0, 10, 0, 4, 4, 6, 6, 6, 6, 3, 3, 0, 4, 4, 6, 6, 6, 6, 3, 3, 0, 4, 4, 6, 6, 6, 6, 3, 3, 0, 4, 4, 6, 6, 6, 6, 3, 3, 0, 4, 4, 6, 6, 6, 6, 3, 3, 0, 4, 4, 6, 6, 6, 6, 3, 3, 0, 4, 4, 6, 6, 6, 6, 3, 3, 0, 4, 4, 6, 6, 6, 6, 3, 3, 0, 4, 4, 6, 6, 6, 6, 3, 3, 0, 4, 4, 6, 6, 6, 6, 3, 3, 0, 4, 4, 6, 6, 6, 6, 3, 3, 0, 4, 4, 11, 11, 4, 11, 11, 11, 0, 0, 0, 0, 0, 0, 4, 0, 0, 0, 0, 0, 0, 4, 4, 6, 6, 6, 6, 3, 3, 120, 3, 0, 1000, 20, 0, 3, 72, 0, 36, 36, 360, 4, 4, 2, 2, 4, 4, 11, 36, 120, 31, 7, 6, 3, 360, 1000, 72, 3]
def kd (c : Nat) : Nat := jKinds.getD c 99
def ln (c : Nat) : Nat := jLens.getD c 0
abbrev jN : Nat := 170
/-- a field by class and number: 0 int, 1 long, 2 a reference; and how far behind the object its cell is -/
def jFields : List (List (Nat × Nat)) := [[(0, 0), (0, 0), (2, 1), (2, 2), (0, 0), (2, 3), (2, 4), (2, 5), (2, 6), (0, 0), (2, 7), (2, 8)],
  [(0, 0), (0, 0), (2, 1)],
  [(1, 0), (1, 0)],
  [(0, 0), (2, 1), (2, 2)],
  [(2, 1), (2, 2), (0, 0), (0, 0)],
  [(0, 0), (2, 1), (2, 10), (0, 0), (0, 0), (2, 11)],
  [(2, 1), (2, 2)],
  [(0, 0), (0, 0), (2, 1), (2, 2), (2, 3), (2, 4), (1, 0), (2, 5), (2, 6), (2, 7), (1, 0), (2, 8), (2, 9), (2, 12), (1, 0), (2, 15), (2, 16), (2, 17)],
  [(2, 1), (2, 10), (2, 102), (0, 0), (2, 111), (2, 129), (2, 130), (2, 131), (2, 143), (2, 146)],
  [(2, 1), (2, 2), (0, 0), (2, 3), (0, 0), (1, 0), (1, 0), (2, 4), (2, 5), (2, 6), (2, 7), (2, 8), (2, 9), (1, 0), (2, 10), (1, 0), (1, 0), (1, 0), (1, 0), (1, 0), (1, 0), (2, 11), (2, 12), (0, 0), (2, 13), (2, 14), (2, 15), (2, 16), (0, 0), (0, 0), (2, 17), (2, 18), (0, 0), (2, 19), (2, 20)]]
def fld (ci k : Nat) : Nat × Nat := (jFields.getD ci []).getD k (0, 0)
def fv (base : Nat) (mem : Mem) (c : Nat) (k : Nat) (q : Nat × Nat) : Value := if q.1 = 0 then vI (mem c k) else if q.1 = 1 then vL (mem c k) else vR base (c + q.2)
/-- the array classes of the run: bytes, chars, ints, longs, beams -/
abbrev jCy : Type := ClassId × ClassId × ClassId × ClassId × ClassId
def cellE (cy : jCy) (base : Nat) (mem : Mem) (c : Nat) : va_E :=
  if kd c < 10 then .inr (kd c, (jFields.getD (kd c) []).mapIdx (fv base mem c))
  else if kd c = 20 then .inl (cy.2.2.1, ln c, .inl (fun i => Int32.ofInt (mem c i)))
  else if kd c = 21 then .inl (cy.2.2.2.1, ln c, .inr (.inl (fun i => Int64.ofInt (mem c i))))
  else if kd c = 22 then .inl (cy.1, ln c, .inl (fun i => Int32.ofInt (mem c i)))
  else if kd c = 23 then .inl (cy.2.1, ln c, .inl (fun i => Int32.ofInt (mem c i)))
  else .inl (cy.2.2.2.2, ln c, .inr (.inr (.inr (.inr (fun i => some (base + (c + 1 + 9 * i)))))))
def vws (cy : jCy) (base : Nat) (mem : Mem) : va_W := (List.range jN).map (fun c => (base + c, cellE cy base mem c))
def jtys (cy : jCy) : List (ClassId × FieldType) := [(cy.1, .byte), (cy.2.1, .char), (cy.2.2.1, .int), (cy.2.2.2.1, .long), (cy.2.2.2.2, .object "BeamPieces$Beam")]
def jA (base : Nat) : Nat → Prop := fun q => base ≤ q
theorem vws_at (cy : jCy) (base : Nat) (mem : Mem) {c : Nat} (h : c < jN) : (vws cy base mem)[c]? = some (base + c, cellE cy base mem c) := by
  unfold vws
  rw [List.getElem?_map, List.getElem?_range h]
  rfl
theorem vws_lt {cy : jCy} {base : Nat} {mem : Mem} {c : Nat} {q : Nat × va_E} (h : (vws cy base mem)[c]? = some q) : c < jN ∧ q = (base + c, cellE cy base mem c) := by
  have h1 : c < (vws cy base mem).length := (List.getElem?_eq_some_iff.mp h).1
  have h2 : c < jN := by simpa [vws] using h1
  rw [vws_at cy base mem h2] at h
  exact ⟨h2, (Option.some.inj h).symm⟩
theorem vws_D (cy : jCy) (base : Nat) (mem : Mem) : va_D (jA base) (vws cy base mem) := by
  refine ⟨fun i j p q hi hj h => ?_, fun k q hk => ?_⟩
  · obtain ⟨-, e1⟩ := vws_lt hi
    obtain ⟨-, e2⟩ := vws_lt hj
    rw [e1, e2] at h
    have : base + i = base + j := h
    omega
  · obtain ⟨-, e1⟩ := vws_lt hk
    rw [e1]
    exact Nat.le_add_right _ _
theorem vws_set {cy : jCy} {base : Nat} {mem mem' : Mem} {c : Nat} (hc : c < jN) (h : ∀ c', c' ≠ c → cellE cy base mem' c' = cellE cy base mem c') : (vws cy base mem).set c (base + c, cellE cy base mem' c) = vws cy base mem' := by
  apply List.ext_getElem?
  intro k
  by_cases hk : k = c
  · subst hk
    rw [List.getElem?_set_self (by simpa [vws] using hc), vws_at _ _ _ hc]
  · rw [List.getElem?_set_ne (Ne.symm hk)]
    by_cases hl : k < jN
    · rw [vws_at _ _ _ hl, vws_at _ _ _ hl, h k hk]
    · rw [List.getElem?_eq_none (by simpa [vws] using Nat.le_of_not_lt hl), List.getElem?_eq_none (by simpa [vws] using Nat.le_of_not_lt hl)]
theorem kd_lt {c k : Nat} (h : kd c = k) (hk : k ≠ 99) : c < jN := by
  by_cases hc : c < jN
  · exact hc
  · exfalso
    have h1 : jKinds.length ≤ c := Nat.le_trans (by decide +kernel) (Nat.le_of_not_lt hc)
    have h2 : kd c = 99 := by
      unfold kd
      rw [List.getD_eq_getElem?_getD, List.getElem?_eq_none h1]
      rfl
    exact hk (h.symm.trans h2)
theorem mset_self (m : Mem) (c : Nat) (i v : Int) : mset m c i v c i = v := by simp [mset]
theorem mset_ne (m : Mem) (c : Nat) (i v : Int) {c' : Nat} (h : c' ≠ c) : mset m c i v c' = m c' := by funext i'; simp [mset, h]
theorem cellE_congr {cy : jCy} {base : Nat} {mem mem' : Mem} {c : Nat} (h : mem' c = mem c) : cellE cy base mem' c = cellE cy base mem c := by
  unfold cellE fv
  rw [h]
/-! the machine's side: what a frame knows -/
def jNest (U : State) : Prop := va_Nw (.methodLinkNest RX0 63 yX8_isV RX8) U ∧ va_Nw (.methodLinkNest RX7 153 yX8_divide RX8) U ∧ va_Nw (.methodLinkNest RX2 15 yX8_commonDivisor RX8) U ∧ va_Nw (.methodLinkNest RX2 21 yX8_divide RX8) U ∧ va_Nw (.methodLinkNest RX6 25 yX8_isList RX8) U ∧ va_AO "BeamPieces$Beam" U
def jNums : Nat → Value := fun j => .int (([1, 1, 1, 2, 3, 2] : List Int32).getD j 0)
def jTx : List String := ["beam", "support", "hinge", "point", "spread", "axle"]
def jTk : List Nat := [92, 94, 96, 98, 100, 102]
def jTl : List Nat := [4, 7, 5, 5, 6, 4]
def jTb : List (List Int32) := [[98, 101, 97, 109], [115, 117, 112, 112, 111, 114, 116], [104, 105, 110, 103, 101], [112, 111, 105, 110, 116], [115, 112, 114, 101, 97, 100], [97, 120, 108, 101]]
/-- what stands outside of the cells and is read: the numbers' row, the words -/
def jStat (base : Nat) (adK adV : Nat → Nat) (tN : Nat) (U : State) : Prop :=
  va_Z RX5 "NUMBERS" "[I" (.ref tN) (jA base) U U.heap ∧ va_T .int tN 6 jNums (jA base) U U.heap ∧
  vk_S 6 jTl jTb adK adV (jA base) U U.heap ∧ (∀ i, i < 6 → vk_R RX5 (jTk.getD i 0) (jTx.getD i "") (adK i) U) ∧
  va_Z "java/lang/String" "COMPACT_STRINGS" "Z" (.int 1) (jA base) U U.heap ∧ va_Zq "jdk/internal/util/Preconditions" "SIOOBE_FORMATTER" "Ljava/util/function/BiFunction;" (jA base) U U.heap
/-- the run's fixed things: launch, classes, array classes, where the cells begin, where the words and the row are -/
abbrev jU : Type := Launch × va_G × jCy × Nat × (Nat → Nat) × (Nat → Nat) × Nat
def jEnv (u : jU) (U : State) : Prop := jNest U ∧ jStat u.2.2.2.1 u.2.2.2.2.1 u.2.2.2.2.2.1 u.2.2.2.2.2.2 U
abbrev uB (u : jU) : Nat := u.2.2.2.1
def jPic (u : jU) (mem : Mem) (U : State) : Prop := va_P u.2.1 vwCl (vws u.2.2.1 (uB u) mem) U.heap ∧ va_K u.2.1 vwCl (jtys u.2.2.1) U ∧ jEnv u U
def jTW : List Cond := lw_tbl.filter goodWord
/-- a frame's context -/
abbrev jX : Type := Program × Env × Room × State × MethodId × Array Value × List Frame × Method × Code × Nat × Nat
def jG (u : jU) (x : jX) (cc : ByteArray) (own : String) (nL : Nat) (ret : Option FieldType) (rm : Room) : Prop := match x with
  | (p, _, R, s, m, args, _, meth, c, cells, slots) => p.tables.exec = Jvm.exec ∧ c.code = cc ∧ c.maxLocals = nL ∧ s.vm.findClass own = some m.cls ∧ (∀ w ∈ jTW, w.before args s = true) ∧ va_K u.2.1 vwCl (jtys u.2.2.1) s ∧ jEnv u s ∧ meth.locks = false ∧ meth.sig.returnType = ret ∧ cells ≤ R.cells ∧ slots ≤ R.slots ∧ R = rm
def J {α : Type} (u : jU) (x : jX) (nL : Nat) (Qf : α → State → Prop) (pc : Nat) (lv : List (Nat × Value)) (st : List Value) (mem : Mem) (o : Option α) : Prop := match x with
  | (p, e, R, s, m, args, below, meth, c, cells, slots) => ∀ a, o = some a → ∀ (H : Heap) (locs : List Loc) (ls : Array Slot), va_P u.2.1 vwCl (vws u.2.2.1 (uB u) mem) H → va_S (jA (uB u)) s.heap H locs → lv_has ls nL lv → W p u.1 e R s m args below meth c H locs cells slots (Qf a) (F0 m pc ls st)
section JR
variable {α : Type} {u : jU} {x : jX} {cc : ByteArray} {own : String} {nL : Nat} {ret : Option FieldType} {rm : Room} {Qf : α → State → Prop} {pc : Nat} {lv : List (Nat × Value)} {st : List Value} {mem : Mem} {o o' : Option α} {a b : Int} {k : Nat}
theorem J_none : J u x nL Qf pc lv st mem (none : Option α) := by
  obtain ⟨p, e, R, s, m, args, below, meth, c, cells, slots⟩ := x
  intro r hr
  cases hr
theorem J_iadd (G : jG u x cc own nL ret rm) (hd : decode cc pc = .ok (.iadd, 1)) (k : J u x nL Qf (pc + 1) lv (vI (a + b) :: st) mem o) : J u x nL Qf pc lv (vI b :: vI a :: st) mem o := by
  obtain ⟨p, e, R, s, m, args, below, meth, c, cells, slots⟩ := x
  intro r hr H locs ls hP hS hl
  have k := k r hr H locs ls hP hS hl
  rw [vI, Int32.ofInt_add] at k
  exact lv_iadd G.1 G.2.1 hd k
theorem J_ladd (G : jG u x cc own nL ret rm) (hd : decode cc pc = .ok (.ladd, 1)) (k : J u x nL Qf (pc + 1) lv (vL (a + b) :: st) mem o) : J u x nL Qf pc lv (vL b :: vL a :: st) mem o := by
  obtain ⟨p, e, R, s, m, args, below, meth, c, cells, slots⟩ := x
  intro r hr H locs ls hP hS hl
  have k := k r hr H locs ls hP hS hl
  rw [vL, Int64.ofInt_add] at k
  exact lv_ladd G.1 G.2.1 hd k
theorem J_isub (G : jG u x cc own nL ret rm) (hd : decode cc pc = .ok (.isub, 1)) (k : J u x nL Qf (pc + 1) lv (vI (a - b) :: st) mem o) : J u x nL Qf pc lv (vI b :: vI a :: st) mem o := by
  obtain ⟨p, e, R, s, m, args, below, meth, c, cells, slots⟩ := x
  intro r hr H locs ls hP hS hl
  have k := k r hr H locs ls hP hS hl
  rw [vI, Int32.ofInt_sub] at k
  exact lv_isub G.1 G.2.1 hd k
theorem J_lsub (G : jG u x cc own nL ret rm) (hd : decode cc pc = .ok (.lsub, 1)) (k : J u x nL Qf (pc + 1) lv (vL (a - b) :: st) mem o) : J u x nL Qf pc lv (vL b :: vL a :: st) mem o := by
  obtain ⟨p, e, R, s, m, args, below, meth, c, cells, slots⟩ := x
  intro r hr H locs ls hP hS hl
  have k := k r hr H locs ls hP hS hl
  rw [vL, Int64.ofInt_sub] at k
  exact lv_lsub G.1 G.2.1 hd k
theorem J_imul (G : jG u x cc own nL ret rm) (hd : decode cc pc = .ok (.imul, 1)) (k : J u x nL Qf (pc + 1) lv (vI (a * b) :: st) mem o) : J u x nL Qf pc lv (vI b :: vI a :: st) mem o := by
  obtain ⟨p, e, R, s, m, args, below, meth, c, cells, slots⟩ := x
  intro r hr H locs ls hP hS hl
  have k := k r hr H locs ls hP hS hl
  rw [vI, Int32.ofInt_mul] at k
  exact lv_imul G.1 G.2.1 hd k
theorem J_lmul (G : jG u x cc own nL ret rm) (hd : decode cc pc = .ok (.lmul, 1)) (k : J u x nL Qf (pc + 1) lv (vL (a * b) :: st) mem o) : J u x nL Qf pc lv (vL b :: vL a :: st) mem o := by
  obtain ⟨p, e, R, s, m, args, below, meth, c, cells, slots⟩ := x
  intro r hr H locs ls hP hS hl
  have k := k r hr H locs ls hP hS hl
  rw [vL, Int64.ofInt_mul] at k
  exact lv_lmul G.1 G.2.1 hd k
theorem J_ineg (G : jG u x cc own nL ret rm) (hd : decode cc pc = .ok (.ineg, 1)) (k : J u x nL Qf (pc + 1) lv (vI (-a) :: st) mem o) : J u x nL Qf pc lv (vI a :: st) mem o := by
  obtain ⟨p, e, R, s, m, args, below, meth, c, cells, slots⟩ := x
  intro r hr H locs ls hP hS hl
  have k := k r hr H locs ls hP hS hl
  rw [vI, Int32.ofInt_neg] at k
  exact lv_ineg G.1 G.2.1 hd k
theorem J_lneg (G : jG u x cc own nL ret rm) (hd : decode cc pc = .ok (.lneg, 1)) (k : J u x nL Qf (pc + 1) lv (vL (-a) :: st) mem o) : J u x nL Qf pc lv (vL a :: st) mem o := by
  obtain ⟨p, e, R, s, m, args, below, meth, c, cells, slots⟩ := x
  intro r hr H locs ls hP hS hl
  have k := k r hr H locs ls hP hS hl
  rw [vL, Int64.ofInt_neg] at k
  exact lv_lneg G.1 G.2.1 hd k
theorem J_i2l (G : jG u x cc own nL ret rm) (hd : decode cc pc = .ok (.i2l, 1)) (k : J u x nL Qf (pc + 1) lv (vL (s32 a) :: st) mem o) : J u x nL Qf pc lv (vI a :: st) mem o := by
  obtain ⟨p, e, R, s, m, args, below, meth, c, cells, slots⟩ := x
  intro r hr H locs ls hP hS hl
  have k := k r hr H locs ls hP hS hl
  exact lv_i2l G.1 G.2.1 hd (i32_i2l a) k
theorem J_l2i (G : jG u x cc own nL ret rm) (hd : decode cc pc = .ok (.l2i, 1)) (k : J u x nL Qf (pc + 1) lv (vI a :: st) mem o) : J u x nL Qf pc lv (vL a :: st) mem o := by
  obtain ⟨p, e, R, s, m, args, below, meth, c, cells, slots⟩ := x
  intro r hr H locs ls hP hS hl
  have k := k r hr H locs ls hP hS hl
  exact lv_l2i G.1 G.2.1 hd Int64.toInt32_ofInt k
theorem J_i2b (G : jG u x cc own nL ret rm) (hd : decode cc pc = .ok (.i2b, 1)) (k : J u x nL Qf (pc + 1) lv (vI (s8 a) :: st) mem o) : J u x nL Qf pc lv (vI a :: st) mem o := by
  obtain ⟨p, e, R, s, m, args, below, meth, c, cells, slots⟩ := x
  intro r hr H locs ls hP hS hl
  have k := k r hr H locs ls hP hS hl
  exact lv_i2b G.1 G.2.1 hd (i32_i2b a) k
theorem J_idiv (G : jG u x cc own nL ret rm) (hd : decode cc pc = .ok (.idiv, 1)) (k : J u x nL Qf (pc + 1) lv (vI ((s32 a).tdiv (s32 b)) :: st) mem o) : J u x nL Qf pc lv (vI b :: vI a :: st) mem (dv (s32 b) o) := by
  obtain ⟨p, e, R, s, m, args, below, meth, c, cells, slots⟩ := x
  intro r hr H locs ls hP hS hl
  unfold dv at hr
  split at hr
  · cases hr
  · rename_i hz
    have k := k r hr H locs ls hP hS hl
    rw [vI, ← i32_div] at k
    exact lv_idiv G.1 G.2.1 hd (fun q => hz ((i32_eq0 b).mp q)) k
theorem J_idivC (G : jG u x cc own nL ret rm) (hd : decode cc pc = .ok (.idiv, 1)) (hz : ¬ s32 b = 0) (k : J u x nL Qf (pc + 1) lv (vI ((s32 a).tdiv (s32 b)) :: st) mem o) : J u x nL Qf pc lv (vI b :: vI a :: st) mem o := by
  obtain ⟨p, e, R, s, m, args, below, meth, c, cells, slots⟩ := x
  intro r hr H locs ls hP hS hl
  have k := k r hr H locs ls hP hS hl
  rw [vI, ← i32_div] at k
  exact lv_idiv G.1 G.2.1 hd (fun q => hz ((i32_eq0 b).mp q)) k
theorem J_irem (G : jG u x cc own nL ret rm) (hd : decode cc pc = .ok (.irem, 1)) (k : J u x nL Qf (pc + 1) lv (vI ((s32 a).tmod (s32 b)) :: st) mem o) : J u x nL Qf pc lv (vI b :: vI a :: st) mem (dv (s32 b) o) := by
  obtain ⟨p, e, R, s, m, args, below, meth, c, cells, slots⟩ := x
  intro r hr H locs ls hP hS hl
  unfold dv at hr
  split at hr
  · cases hr
  · rename_i hz
    have k := k r hr H locs ls hP hS hl
    rw [vI, ← i32_rem] at k
    exact lv_irem G.1 G.2.1 hd (fun q => hz ((i32_eq0 b).mp q)) k
theorem J_iremC (G : jG u x cc own nL ret rm) (hd : decode cc pc = .ok (.irem, 1)) (hz : ¬ s32 b = 0) (k : J u x nL Qf (pc + 1) lv (vI ((s32 a).tmod (s32 b)) :: st) mem o) : J u x nL Qf pc lv (vI b :: vI a :: st) mem o := by
  obtain ⟨p, e, R, s, m, args, below, meth, c, cells, slots⟩ := x
  intro r hr H locs ls hP hS hl
  have k := k r hr H locs ls hP hS hl
  rw [vI, ← i32_rem] at k
  exact lv_irem G.1 G.2.1 hd (fun q => hz ((i32_eq0 b).mp q)) k
theorem J_ldiv (G : jG u x cc own nL ret rm) (hd : decode cc pc = .ok (.ldiv, 1)) (k : J u x nL Qf (pc + 1) lv (vL ((s64 a).tdiv (s64 b)) :: st) mem o) : J u x nL Qf pc lv (vL b :: vL a :: st) mem (dv (s64 b) o) := by
  obtain ⟨p, e, R, s, m, args, below, meth, c, cells, slots⟩ := x
  intro r hr H locs ls hP hS hl
  unfold dv at hr
  split at hr
  · cases hr
  · rename_i hz
    have k := k r hr H locs ls hP hS hl
    rw [vL, ← i64_div] at k
    exact lv_ldiv G.1 G.2.1 hd (fun q => hz ((i64_eq0 b).mp q)) k
theorem J_ldivC (G : jG u x cc own nL ret rm) (hd : decode cc pc = .ok (.ldiv, 1)) (hz : ¬ s64 b = 0) (k : J u x nL Qf (pc + 1) lv (vL ((s64 a).tdiv (s64 b)) :: st) mem o) : J u x nL Qf pc lv (vL b :: vL a :: st) mem o := by
  obtain ⟨p, e, R, s, m, args, below, meth, c, cells, slots⟩ := x
  intro r hr H locs ls hP hS hl
  have k := k r hr H locs ls hP hS hl
  rw [vL, ← i64_div] at k
  exact lv_ldiv G.1 G.2.1 hd (fun q => hz ((i64_eq0 b).mp q)) k
theorem J_lrem (G : jG u x cc own nL ret rm) (hd : decode cc pc = .ok (.lrem, 1)) (k : J u x nL Qf (pc + 1) lv (vL ((s64 a).tmod (s64 b)) :: st) mem o) : J u x nL Qf pc lv (vL b :: vL a :: st) mem (dv (s64 b) o) := by
  obtain ⟨p, e, R, s, m, args, below, meth, c, cells, slots⟩ := x
  intro r hr H locs ls hP hS hl
  unfold dv at hr
  split at hr
  · cases hr
  · rename_i hz
    have k := k r hr H locs ls hP hS hl
    rw [vL, ← i64_rem] at k
    exact lv_lrem G.1 G.2.1 hd (fun q => hz ((i64_eq0 b).mp q)) k
theorem J_lremC (G : jG u x cc own nL ret rm) (hd : decode cc pc = .ok (.lrem, 1)) (hz : ¬ s64 b = 0) (k : J u x nL Qf (pc + 1) lv (vL ((s64 a).tmod (s64 b)) :: st) mem o) : J u x nL Qf pc lv (vL b :: vL a :: st) mem o := by
  obtain ⟨p, e, R, s, m, args, below, meth, c, cells, slots⟩ := x
  intro r hr H locs ls hP hS hl
  have k := k r hr H locs ls hP hS hl
  rw [vL, ← i64_rem] at k
  exact lv_lrem G.1 G.2.1 hd (fun q => hz ((i64_eq0 b).mp q)) k
theorem J_iload_n {q : Fin 4} (G : jG u x cc own nL ret rm) (i : Nat) (hd : decode cc pc = .ok (.iload_n q, 1)) (hl : lv[i]? = some ((q : Nat), vI a)) (k : J u x nL Qf (pc + 1) lv (vI a :: st) mem o) : J u x nL Qf pc lv st mem o := by
  obtain ⟨p, e, R, s, m, args, below, meth, c, cells, slots⟩ := x
  intro r hr H locs ls hP hS hh
  exact lv_iload_n G.1 G.2.1 hd rfl (lv_at hh i hl) (k r hr H locs ls hP hS hh)
theorem J_iload {q : Nat} (G : jG u x cc own nL ret rm) (i : Nat) (hd : decode cc pc = .ok (.iload q, 2)) (hl : lv[i]? = some (q, vI a)) (k : J u x nL Qf (pc + 2) lv (vI a :: st) mem o) : J u x nL Qf pc lv st mem o := by
  obtain ⟨p, e, R, s, m, args, below, meth, c, cells, slots⟩ := x
  intro r hr H locs ls hP hS hh
  exact lv_iload G.1 G.2.1 hd (lv_at hh i hl) (k r hr H locs ls hP hS hh)
theorem J_lload_n {q : Fin 4} (G : jG u x cc own nL ret rm) (i : Nat) (hd : decode cc pc = .ok (.lload_n q, 1)) (hl : lv[i]? = some ((q : Nat), vL a)) (k : J u x nL Qf (pc + 1) lv (vL a :: st) mem o) : J u x nL Qf pc lv st mem o := by
  obtain ⟨p, e, R, s, m, args, below, meth, c, cells, slots⟩ := x
  intro r hr H locs ls hP hS hh
  exact lv_lload_n G.1 G.2.1 hd rfl (lv_at hh i hl) (k r hr H locs ls hP hS hh)
theorem J_lload {q : Nat} (G : jG u x cc own nL ret rm) (i : Nat) (hd : decode cc pc = .ok (.lload q, 2)) (hl : lv[i]? = some (q, vL a)) (k : J u x nL Qf (pc + 2) lv (vL a :: st) mem o) : J u x nL Qf pc lv st mem o := by
  obtain ⟨p, e, R, s, m, args, below, meth, c, cells, slots⟩ := x
  intro r hr H locs ls hP hS hh
  exact lv_lload G.1 G.2.1 hd (lv_at hh i hl) (k r hr H locs ls hP hS hh)
theorem J_aload_nX {q : Fin 4} {d : Nat} (G : jG u x cc own nL ret rm) (i : Nat) (hd : decode cc pc = .ok (.aload_n q, 1)) (hl : lv[i]? = some ((q : Nat), .ref d)) (k : J u x nL Qf (pc + 1) lv (.ref d :: st) mem o) : J u x nL Qf pc lv st mem o := by
  obtain ⟨p, e, R, s, m, args, below, meth, c, cells, slots⟩ := x
  intro r hr H locs ls hP hS hh
  exact lv_aload_n G.1 G.2.1 hd rfl (lv_at hh i hl) (k r hr H locs ls hP hS hh)
theorem J_aloadX {q d : Nat} (G : jG u x cc own nL ret rm) (i : Nat) (hd : decode cc pc = .ok (.aload q, 2)) (hl : lv[i]? = some (q, .ref d)) (k : J u x nL Qf (pc + 2) lv (.ref d :: st) mem o) : J u x nL Qf pc lv st mem o := by
  obtain ⟨p, e, R, s, m, args, below, meth, c, cells, slots⟩ := x
  intro r hr H locs ls hP hS hh
  exact lv_aload G.1 G.2.1 hd (lv_at hh i hl) (k r hr H locs ls hP hS hh)
theorem J_aload_n {q : Fin 4} {d : Nat} (G : jG u x cc own nL ret rm) (i : Nat) (hd : decode cc pc = .ok (.aload_n q, 1)) (hl : lv[i]? = some ((q : Nat), vR (uB u) d)) (k : J u x nL Qf (pc + 1) lv (vR (uB u) d :: st) mem o) : J u x nL Qf pc lv st mem o := by
  obtain ⟨p, e, R, s, m, args, below, meth, c, cells, slots⟩ := x
  intro r hr H locs ls hP hS hh
  exact lv_aload_n G.1 G.2.1 hd rfl (lv_at hh i hl) (k r hr H locs ls hP hS hh)
theorem J_aload {q d : Nat} (G : jG u x cc own nL ret rm) (i : Nat) (hd : decode cc pc = .ok (.aload q, 2)) (hl : lv[i]? = some (q, vR (uB u) d)) (k : J u x nL Qf (pc + 2) lv (vR (uB u) d :: st) mem o) : J u x nL Qf pc lv st mem o := by
  obtain ⟨p, e, R, s, m, args, below, meth, c, cells, slots⟩ := x
  intro r hr H locs ls hP hS hh
  exact lv_aload G.1 G.2.1 hd (lv_at hh i hl) (k r hr H locs ls hP hS hh)
theorem J_istore_n {f : Fin 4} {i : Nat} {lv' : List (Nat × Value)} (G : jG u x cc own nL ret rm) (hd : decode cc pc = .ok (.istore_n f, 1)) (hi : (f : Nat) = i) (hn : i < nL) (hl : (i, vI a) :: lv.filter (fun q => !(q.1 == i) && !(q.1 + 1 == i && q.2.category == 2)) = lv') (k : J u x nL Qf (pc + 1) lv' st mem o) : J u x nL Qf pc lv (vI a :: st) mem o := by
  obtain ⟨p, e, R, s, m, args, below, meth, c, cells, slots⟩ := x
  intro r hr H locs ls hP hS hh
  exact lv_istore_n G.1 G.2.1 hd hi hh hn hl (fun ls' hh' => k r hr H locs ls' hP hS hh')
theorem J_istore {i : Nat} {lv' : List (Nat × Value)} (G : jG u x cc own nL ret rm) (hd : decode cc pc = .ok (.istore i, 2)) (hn : i < nL) (hl : (i, vI a) :: lv.filter (fun q => !(q.1 == i) && !(q.1 + 1 == i && q.2.category == 2)) = lv') (k : J u x nL Qf (pc + 2) lv' st mem o) : J u x nL Qf pc lv (vI a :: st) mem o := by
  obtain ⟨p, e, R, s, m, args, below, meth, c, cells, slots⟩ := x
  intro r hr H locs ls hP hS hh
  exact lv_istore G.1 G.2.1 hd hh hn hl (fun ls' hh' => k r hr H locs ls' hP hS hh')
theorem J_lstore_n {f : Fin 4} {i : Nat} {lv' : List (Nat × Value)} (G : jG u x cc own nL ret rm) (hd : decode cc pc = .ok (.lstore_n f, 1)) (hi : (f : Nat) = i) (hn : i + 1 < nL) (hl : (i, vL a) :: lv.filter (fun q => !(q.1 == i) && (!(q.1 == i + 1) && !(q.1 + 1 == i && q.2.category == 2))) = lv') (k : J u x nL Qf (pc + 1) lv' st mem o) : J u x nL Qf pc lv (vL a :: st) mem o := by
  obtain ⟨p, e, R, s, m, args, below, meth, c, cells, slots⟩ := x
  intro r hr H locs ls hP hS hh
  exact lv_lstore_n G.1 G.2.1 hd hi hh hn hl (fun ls' hh' => k r hr H locs ls' hP hS hh')
theorem J_lstore {i : Nat} {lv' : List (Nat × Value)} (G : jG u x cc own nL ret rm) (hd : decode cc pc = .ok (.lstore i, 2)) (hn : i + 1 < nL) (hl : (i, vL a) :: lv.filter (fun q => !(q.1 == i) && (!(q.1 == i + 1) && !(q.1 + 1 == i && q.2.category == 2))) = lv') (k : J u x nL Qf (pc + 2) lv' st mem o) : J u x nL Qf pc lv (vL a :: st) mem o := by
  obtain ⟨p, e, R, s, m, args, below, meth, c, cells, slots⟩ := x
  intro r hr H locs ls hP hS hh
  exact lv_lstore G.1 G.2.1 hd hh hn hl (fun ls' hh' => k r hr H locs ls' hP hS hh')
theorem J_astore_n {f : Fin 4} {d : Nat} {i : Nat} {lv' : List (Nat × Value)} (G : jG u x cc own nL ret rm) (hd : decode cc pc = .ok (.astore_n f, 1)) (hi : (f : Nat) = i) (hn : i < nL) (hl : (i, vR (uB u) d) :: lv.filter (fun q => !(q.1 == i) && !(q.1 + 1 == i && q.2.category == 2)) = lv') (k : J u x nL Qf (pc + 1) lv' st mem o) : J u x nL Qf pc lv (vR (uB u) d :: st) mem o := by
  obtain ⟨p, e, R, s, m, args, below, meth, c, cells, slots⟩ := x
  intro r hr H locs ls hP hS hh
  exact lv_astore_n G.1 G.2.1 hd hi hh hn hl (fun ls' hh' => k r hr H locs ls' hP hS hh')
theorem J_astore {d : Nat} {i : Nat} {lv' : List (Nat × Value)} (G : jG u x cc own nL ret rm) (hd : decode cc pc = .ok (.astore i, 2)) (hn : i < nL) (hl : (i, vR (uB u) d) :: lv.filter (fun q => !(q.1 == i) && !(q.1 + 1 == i && q.2.category == 2)) = lv') (k : J u x nL Qf (pc + 2) lv' st mem o) : J u x nL Qf pc lv (vR (uB u) d :: st) mem o := by
  obtain ⟨p, e, R, s, m, args, below, meth, c, cells, slots⟩ := x
  intro r hr H locs ls hP hS hh
  exact lv_astore G.1 G.2.1 hd hh hn hl (fun ls' hh' => k r hr H locs ls' hP hS hh')
theorem J_iinc {i : Nat} {n : Int} {lv' : List (Nat × Value)} (G : jG u x cc own nL ret rm) (j : Nat) (hd : decode cc pc = .ok (.iinc i n, 3)) (hk : lv[j]? = some (i, vI a)) (hn : i < nL) (hl : (i, vI (a + n)) :: lv.filter (fun q => !(q.1 == i) && !(q.1 + 1 == i && q.2.category == 2)) = lv') (k : J u x nL Qf (pc + 3) lv' st mem o) : J u x nL Qf pc lv st mem o := by
  obtain ⟨p, e, R, s, m, args, below, meth, c, cells, slots⟩ := x
  intro r hr H locs ls hP hS hh
  exact lv_iinc G.1 G.2.1 hd hh hk (by rw [← Int32.ofInt_add]) hn hl (fun ls' hh' => k r hr H locs ls' hP hS hh')
theorem J_lv {lv' : List (Nat × Value)} (ks : List Nat) (hl : lv_pick lv ks = lv') (k : J u x nL Qf pc lv' st mem o) : J u x nL Qf pc lv st mem o := by
  obtain ⟨p, e, R, s, m, args, below, meth, c, cells, slots⟩ := x
  intro r hr H locs ls hP hS hh
  exact k r hr H locs ls hP hS (lv_sub hh ks hl)
theorem J_iconst {n : Int} (G : jG u x cc own nL ret rm) (hd : decode cc pc = .ok (.iconst n, 1)) (k : J u x nL Qf (pc + 1) lv (vI n :: st) mem o) : J u x nL Qf pc lv st mem o := by
  obtain ⟨p, e, R, s, m, args, below, meth, c, cells, slots⟩ := x
  intro r hr H locs ls hP hS hh
  exact lv_iconst G.1 G.2.1 hd rfl (k r hr H locs ls hP hS hh)
theorem J_bipush {n : Int} (G : jG u x cc own nL ret rm) (hd : decode cc pc = .ok (.bipush n, 2)) (hv : (Int8.ofInt n).toInt32 = Int32.ofInt n) (k : J u x nL Qf (pc + 2) lv (vI n :: st) mem o) : J u x nL Qf pc lv st mem o := by
  obtain ⟨p, e, R, s, m, args, below, meth, c, cells, slots⟩ := x
  intro r hr H locs ls hP hS hh
  exact lv_bipush G.1 G.2.1 hd hv (k r hr H locs ls hP hS hh)
theorem J_sipush {n : Int} (G : jG u x cc own nL ret rm) (hd : decode cc pc = .ok (.sipush n, 3)) (hv : (Int16.ofInt n).toInt32 = Int32.ofInt n) (k : J u x nL Qf (pc + 3) lv (vI n :: st) mem o) : J u x nL Qf pc lv st mem o := by
  obtain ⟨p, e, R, s, m, args, below, meth, c, cells, slots⟩ := x
  intro r hr H locs ls hP hS hh
  exact lv_sipush G.1 G.2.1 hd hv (k r hr H locs ls hP hS hh)
theorem J_lconst {n : Fin 2} {v : Int} (G : jG u x cc own nL ret rm) (hd : decode cc pc = .ok (.lconst n, 1)) (hv : Int64.ofNat (n : Nat) = Int64.ofInt v) (k : J u x nL Qf (pc + 1) lv (vL v :: st) mem o) : J u x nL Qf pc lv st mem o := by
  obtain ⟨p, e, R, s, m, args, below, meth, c, cells, slots⟩ := x
  intro r hr H locs ls hP hS hh
  exact lv_lconst G.1 G.2.1 hd hv (k r hr H locs ls hP hS hh)
theorem J_ldc2 {i : Nat} {v : Int} {v' : Int64} (G : jG u x cc own nL ret rm) (hd : decode cc pc = .ok (.ldc2_w i, 3)) (hw : Cond.constantLong own i v' ∈ jTW) (hv : v' = Int64.ofInt v) (k : J u x nL Qf (pc + 3) lv (vL v :: st) mem o) : J u x nL Qf pc lv st mem o := by
  obtain ⟨p, e, R, s, m, args, below, meth, c, cells, slots⟩ := x
  intro r hr H locs ls hP hS hh
  subst hv
  exact lv_ldc2 G.1 G.2.1 G.2.2.2.1 (G.2.2.2.2.1 _ hw) hd (k r hr H locs ls hP hS hh)
theorem J_goto {off : Int} (tgt : Nat) (G : jG u x cc own nL ret rm) (hd : decode cc pc = .ok (.goto off, 3)) (ht : (pc : Int) + off = (tgt : Int)) (k : J u x nL Qf tgt lv st mem o) : J u x nL Qf pc lv st mem o := by
  obtain ⟨p, e, R, s, m, args, below, meth, c, cells, slots⟩ := x
  intro r hr H locs ls hP hS hh
  exact lv_goto G.1 G.2.1 hd ht (k r hr H locs ls hP hS hh)
theorem J_dup {v : Value} (G : jG u x cc own nL ret rm) (hd : decode cc pc = .ok (.dup, 1)) (hv : v.category = 1) (k : J u x nL Qf (pc + 1) lv (v :: v :: st) mem o) : J u x nL Qf pc lv (v :: st) mem o := by
  obtain ⟨p, e, R, s, m, args, below, meth, c, cells, slots⟩ := x
  intro r hr H locs ls hP hS hh
  exact lv_dup G.1 G.2.1 hd hv (k r hr H locs ls hP hS hh)
theorem J_dup2 {v w : Value} (G : jG u x cc own nL ret rm) (hd : decode cc pc = .ok (.dup2, 1)) (hv : v.category = 1) (hw : w.category = 1) (k : J u x nL Qf (pc + 1) lv (v :: w :: v :: w :: st) mem o) : J u x nL Qf pc lv (v :: w :: st) mem o := by
  obtain ⟨p, e, R, s, m, args, below, meth, c, cells, slots⟩ := x
  intro r hr H locs ls hP hS hh
  exact lv_dup2_11 G.1 G.2.1 hd hv hw (k r hr H locs ls hP hS hh)
theorem J_pop {v : Value} (G : jG u x cc own nL ret rm) (hd : decode cc pc = .ok (.pop, 1)) (hv : v.category = 1) (k : J u x nL Qf (pc + 1) lv st mem o) : J u x nL Qf pc lv (v :: st) mem o := by
  obtain ⟨p, e, R, s, m, args, below, meth, c, cells, slots⟩ := x
  intro r hr H locs ls hP hS hh
  exact lv_pop G.1 G.2.1 hd hv (k r hr H locs ls hP hS hh)
theorem J_ifnull {d : Nat} {off : Int} (G : jG u x cc own nL ret rm) (hd : decode cc pc = .ok (.ifnull off, 3)) (k : J u x nL Qf (pc + 3) lv st mem o) : J u x nL Qf pc lv (vR (uB u) d :: st) mem o := by
  obtain ⟨p, e, R, s, m, args, below, meth, c, cells, slots⟩ := x
  intro r hr H locs ls hP hS hh
  exact lv_ifnull G.1 G.2.1 hd (k r hr H locs ls hP hS hh)
theorem J_lt {β : Type} {e : β} {f : β → Option α} (h : ∀ y, y = e → J u x nL Qf pc lv st mem (f y)) : J u x nL Qf pc lv st mem (lt e f) := h e rfl
theorem J_ltI {e : Int} {f : Int → Option α} (h : ∀ y, J u x nL Qf pc lv (vI y :: st) mem (f y)) : J u x nL Qf pc lv (vI e :: st) mem (lt e f) := h e
theorem J_ltL {e : Int} {f : Int → Option α} (h : ∀ y, J u x nL Qf pc lv (vL y :: st) mem (f y)) : J u x nL Qf pc lv (vL e :: st) mem (lt e f) := h e
theorem J_ltM {mm : Mem} {f : Mem → Option α} (h : ∀ y, J u x nL Qf pc lv st y (f y)) : J u x nL Qf pc lv st mm (lt mm f) := h mm
theorem J_jn {γ : Type} (P : γ → Prop) {b : γ} {f : γ → Option α} (hb : P b) (hf : ∀ g, P g → J u x nL Qf pc lv st mem (f g)) : J u x nL Qf pc lv st mem (jn b f) := hf b hb
theorem J_icmp_eq {off : Int} (tgt : Nat) (G : jG u x cc own nL ret rm) (hd : decode cc pc = .ok (.if_icmp .eq off, 3)) (ht : (pc : Int) + off = (tgt : Int)) (k1 : J u x nL Qf tgt lv st mem o) (k2 : J u x nL Qf (pc + 3) lv st mem o') : J u x nL Qf pc lv (vI b :: vI a :: st) mem (if s32 a = s32 b then o else o') := by
  obtain ⟨p, e, R, s, m, args, below, meth, c, cells, slots⟩ := x
  intro r hr H locs ls hP hS hh
  exact lv_icmp_eq G.1 G.2.1 hd ht (fun q => k1 r (by rw [if_pos ((i32_eq a b).mp q)] at hr; exact hr) H locs ls hP hS hh) (fun q => k2 r (by rw [if_neg (fun z => q ((i32_eq a b).mpr z))] at hr; exact hr) H locs ls hP hS hh)
theorem J_icmp_ne {off : Int} (tgt : Nat) (G : jG u x cc own nL ret rm) (hd : decode cc pc = .ok (.if_icmp .ne off, 3)) (ht : (pc : Int) + off = (tgt : Int)) (k1 : J u x nL Qf tgt lv st mem o) (k2 : J u x nL Qf (pc + 3) lv st mem o') : J u x nL Qf pc lv (vI b :: vI a :: st) mem (if ¬ s32 a = s32 b then o else o') := by
  obtain ⟨p, e, R, s, m, args, below, meth, c, cells, slots⟩ := x
  intro r hr H locs ls hP hS hh
  exact lv_icmp_ne G.1 G.2.1 hd ht (fun q => k1 r (by rw [if_pos (fun z => q ((i32_eq a b).mpr z))] at hr; exact hr) H locs ls hP hS hh) (fun q => k2 r (by rw [if_neg (fun z => z ((i32_eq a b).mp q))] at hr; exact hr) H locs ls hP hS hh)
theorem J_icmp_lt {off : Int} (tgt : Nat) (G : jG u x cc own nL ret rm) (hd : decode cc pc = .ok (.if_icmp .lt off, 3)) (ht : (pc : Int) + off = (tgt : Int)) (k1 : J u x nL Qf tgt lv st mem o) (k2 : J u x nL Qf (pc + 3) lv st mem o') : J u x nL Qf pc lv (vI b :: vI a :: st) mem (if s32 a < s32 b then o else o') := by
  obtain ⟨p, e, R, s, m, args, below, meth, c, cells, slots⟩ := x
  intro r hr H locs ls hP hS hh
  exact lv_icmp_lt G.1 G.2.1 hd ht (fun q => k1 r (by rw [if_pos ((i32_lt a b).mp q)] at hr; exact hr) H locs ls hP hS hh) (fun q => k2 r (by rw [if_neg (fun z => q ((i32_lt a b).mpr z))] at hr; exact hr) H locs ls hP hS hh)
theorem J_icmp_ge {off : Int} (tgt : Nat) (G : jG u x cc own nL ret rm) (hd : decode cc pc = .ok (.if_icmp .ge off, 3)) (ht : (pc : Int) + off = (tgt : Int)) (k1 : J u x nL Qf tgt lv st mem o) (k2 : J u x nL Qf (pc + 3) lv st mem o') : J u x nL Qf pc lv (vI b :: vI a :: st) mem (if s32 b ≤ s32 a then o else o') := by
  obtain ⟨p, e, R, s, m, args, below, meth, c, cells, slots⟩ := x
  intro r hr H locs ls hP hS hh
  exact lv_icmp_ge G.1 G.2.1 hd ht (fun q => k1 r (by rw [if_pos ((i32_le b a).mp q)] at hr; exact hr) H locs ls hP hS hh) (fun q => k2 r (by rw [if_neg (fun z => q ((i32_le b a).mpr z))] at hr; exact hr) H locs ls hP hS hh)
theorem J_icmp_gt {off : Int} (tgt : Nat) (G : jG u x cc own nL ret rm) (hd : decode cc pc = .ok (.if_icmp .gt off, 3)) (ht : (pc : Int) + off = (tgt : Int)) (k1 : J u x nL Qf tgt lv st mem o) (k2 : J u x nL Qf (pc + 3) lv st mem o') : J u x nL Qf pc lv (vI b :: vI a :: st) mem (if s32 b < s32 a then o else o') := by
  obtain ⟨p, e, R, s, m, args, below, meth, c, cells, slots⟩ := x
  intro r hr H locs ls hP hS hh
  exact lv_icmp_gt G.1 G.2.1 hd ht (fun q => k1 r (by rw [if_pos ((i32_lt b a).mp q)] at hr; exact hr) H locs ls hP hS hh) (fun q => k2 r (by rw [if_neg (fun z => q ((i32_lt b a).mpr z))] at hr; exact hr) H locs ls hP hS hh)
theorem J_icmp_le {off : Int} (tgt : Nat) (G : jG u x cc own nL ret rm) (hd : decode cc pc = .ok (.if_icmp .le off, 3)) (ht : (pc : Int) + off = (tgt : Int)) (k1 : J u x nL Qf tgt lv st mem o) (k2 : J u x nL Qf (pc + 3) lv st mem o') : J u x nL Qf pc lv (vI b :: vI a :: st) mem (if s32 a ≤ s32 b then o else o') := by
  obtain ⟨p, e, R, s, m, args, below, meth, c, cells, slots⟩ := x
  intro r hr H locs ls hP hS hh
  exact lv_icmp_le G.1 G.2.1 hd ht (fun q => k1 r (by rw [if_pos ((i32_le a b).mp q)] at hr; exact hr) H locs ls hP hS hh) (fun q => k2 r (by rw [if_neg (fun z => q ((i32_le a b).mpr z))] at hr; exact hr) H locs ls hP hS hh)
theorem J_if_eq {off : Int} (tgt : Nat) (G : jG u x cc own nL ret rm) (hd : decode cc pc = .ok (.ifCond .eq off, 3)) (ht : (pc : Int) + off = (tgt : Int)) (k1 : J u x nL Qf tgt lv st mem o) (k2 : J u x nL Qf (pc + 3) lv st mem o') : J u x nL Qf pc lv (vI a :: st) mem (if s32 a = 0 then o else o') := by
  obtain ⟨p, e, R, s, m, args, below, meth, c, cells, slots⟩ := x
  intro r hr H locs ls hP hS hh
  exact lv_if_eq G.1 G.2.1 hd ht (fun q => k1 r (by rw [if_pos ((i32_eq0 a).mp q)] at hr; exact hr) H locs ls hP hS hh) (fun q => k2 r (by rw [if_neg (fun z => q ((i32_eq0 a).mpr z))] at hr; exact hr) H locs ls hP hS hh)
theorem J_if_ne {off : Int} (tgt : Nat) (G : jG u x cc own nL ret rm) (hd : decode cc pc = .ok (.ifCond .ne off, 3)) (ht : (pc : Int) + off = (tgt : Int)) (k1 : J u x nL Qf tgt lv st mem o) (k2 : J u x nL Qf (pc + 3) lv st mem o') : J u x nL Qf pc lv (vI a :: st) mem (if ¬ s32 a = 0 then o else o') := by
  obtain ⟨p, e, R, s, m, args, below, meth, c, cells, slots⟩ := x
  intro r hr H locs ls hP hS hh
  exact lv_if_ne G.1 G.2.1 hd ht (fun q => k1 r (by rw [if_pos (fun z => q ((i32_eq0 a).mpr z))] at hr; exact hr) H locs ls hP hS hh) (fun q => k2 r (by rw [if_neg (fun z => z ((i32_eq0 a).mp q))] at hr; exact hr) H locs ls hP hS hh)
theorem J_if_lt {off : Int} (tgt : Nat) (G : jG u x cc own nL ret rm) (hd : decode cc pc = .ok (.ifCond .lt off, 3)) (ht : (pc : Int) + off = (tgt : Int)) (k1 : J u x nL Qf tgt lv st mem o) (k2 : J u x nL Qf (pc + 3) lv st mem o') : J u x nL Qf pc lv (vI a :: st) mem (if s32 a < 0 then o else o') := by
  obtain ⟨p, e, R, s, m, args, below, meth, c, cells, slots⟩ := x
  intro r hr H locs ls hP hS hh
  exact lv_if_lt G.1 G.2.1 hd ht (fun q => k1 r (by rw [if_pos ((i32_lt0 a).mp q)] at hr; exact hr) H locs ls hP hS hh) (fun q => k2 r (by rw [if_neg (fun z => q ((i32_lt0 a).mpr z))] at hr; exact hr) H locs ls hP hS hh)
theorem J_if_ge {off : Int} (tgt : Nat) (G : jG u x cc own nL ret rm) (hd : decode cc pc = .ok (.ifCond .ge off, 3)) (ht : (pc : Int) + off = (tgt : Int)) (k1 : J u x nL Qf tgt lv st mem o) (k2 : J u x nL Qf (pc + 3) lv st mem o') : J u x nL Qf pc lv (vI a :: st) mem (if 0 ≤ s32 a then o else o') := by
  obtain ⟨p, e, R, s, m, args, below, meth, c, cells, slots⟩ := x
  intro r hr H locs ls hP hS hh
  exact lv_if_ge G.1 G.2.1 hd ht (fun q => k1 r (by rw [if_pos ((i32_0le a).mp q)] at hr; exact hr) H locs ls hP hS hh) (fun q => k2 r (by rw [if_neg (fun z => q ((i32_0le a).mpr z))] at hr; exact hr) H locs ls hP hS hh)
theorem J_if_gt {off : Int} (tgt : Nat) (G : jG u x cc own nL ret rm) (hd : decode cc pc = .ok (.ifCond .gt off, 3)) (ht : (pc : Int) + off = (tgt : Int)) (k1 : J u x nL Qf tgt lv st mem o) (k2 : J u x nL Qf (pc + 3) lv st mem o') : J u x nL Qf pc lv (vI a :: st) mem (if 0 < s32 a then o else o') := by
  obtain ⟨p, e, R, s, m, args, below, meth, c, cells, slots⟩ := x
  intro r hr H locs ls hP hS hh
  exact lv_if_gt G.1 G.2.1 hd ht (fun q => k1 r (by rw [if_pos ((i32_0lt a).mp q)] at hr; exact hr) H locs ls hP hS hh) (fun q => k2 r (by rw [if_neg (fun z => q ((i32_0lt a).mpr z))] at hr; exact hr) H locs ls hP hS hh)
theorem J_if_le {off : Int} (tgt : Nat) (G : jG u x cc own nL ret rm) (hd : decode cc pc = .ok (.ifCond .le off, 3)) (ht : (pc : Int) + off = (tgt : Int)) (k1 : J u x nL Qf tgt lv st mem o) (k2 : J u x nL Qf (pc + 3) lv st mem o') : J u x nL Qf pc lv (vI a :: st) mem (if s32 a ≤ 0 then o else o') := by
  obtain ⟨p, e, R, s, m, args, below, meth, c, cells, slots⟩ := x
  intro r hr H locs ls hP hS hh
  exact lv_if_le G.1 G.2.1 hd ht (fun q => k1 r (by rw [if_pos ((i32_le0 a).mp q)] at hr; exact hr) H locs ls hP hS hh) (fun q => k2 r (by rw [if_neg (fun z => q ((i32_le0 a).mpr z))] at hr; exact hr) H locs ls hP hS hh)
theorem jcmp_lt (a b : Int) : lg_cmp (Int64.ofInt a) (Int64.ofInt b) < 0 ↔ s64 a < s64 b := by
  unfold lg_cmp
  by_cases h1 : Int64.ofInt a > Int64.ofInt b
  · rw [if_pos h1]
    refine ⟨fun h => absurd h (by decide), fun h => ?_⟩
    have h1 := (i64_lt b a).mp h1
    omega
  · rw [if_neg h1]
    by_cases h2 : Int64.ofInt a = Int64.ofInt b
    · rw [if_pos h2]
      refine ⟨fun h => absurd h (by decide), fun h => ?_⟩
      rw [i64_eq] at h2; omega
    · rw [if_neg h2]
      refine ⟨fun _ => ?_, fun _ => by decide⟩
      rw [i64_eq] at h2
      have h1 : ¬ s64 b < s64 a := fun z => h1 ((i64_lt b a).mpr z)
      omega
theorem jcmp_eq (a b : Int) : lg_cmp (Int64.ofInt a) (Int64.ofInt b) = 0 ↔ s64 a = s64 b := by
  unfold lg_cmp
  by_cases h1 : Int64.ofInt a > Int64.ofInt b
  · rw [if_pos h1]
    refine ⟨fun h => absurd h (by decide), fun h => ?_⟩
    have h1 := (i64_lt b a).mp h1
    omega
  · rw [if_neg h1]
    by_cases h2 : Int64.ofInt a = Int64.ofInt b
    · rw [if_pos h2]
      rw [i64_eq] at h2
      exact ⟨fun _ => h2, fun _ => rfl⟩
    · rw [if_neg h2]
      rw [i64_eq] at h2
      exact ⟨fun h => absurd h (by decide), fun h => absurd h h2⟩
theorem jcmp_gt (a b : Int) : 0 < lg_cmp (Int64.ofInt a) (Int64.ofInt b) ↔ s64 b < s64 a := by
  have h1 := jcmp_lt a b
  have h2 := jcmp_eq a b
  have h3 : ∀ z : Int32, 0 < z ↔ ¬ z < 0 ∧ ¬ z = 0 := by
    intro z
    rw [Int32.lt_iff_toInt_lt, Int32.lt_iff_toInt_lt, ← Int32.toInt_inj]
    simp only [Int32.toInt_zero]
    omega
  rw [h3, h1, h2]
  omega
theorem i32_nlt0 (z : Int32) : 0 ≤ z ↔ ¬ z < 0 := by
  rw [Int32.le_iff_toInt_le, Int32.lt_iff_toInt_lt]; simp only [Int32.toInt_zero]; omega
theorem i32_n0lt (z : Int32) : z ≤ 0 ↔ ¬ 0 < z := by
  rw [Int32.le_iff_toInt_le, Int32.lt_iff_toInt_lt]; simp only [Int32.toInt_zero]; omega
theorem J_lcmp_eq {off : Int} (tgt : Nat) (G : jG u x cc own nL ret rm) (hd0 : decode cc pc = .ok (.lcmp, 1)) (hd : decode cc (pc + 1) = .ok (.ifCond .eq off, 3)) (ht : ((pc + 1 : Nat) : Int) + off = (tgt : Int)) (k1 : J u x nL Qf tgt lv st mem o) (k2 : J u x nL Qf (pc + 4) lv st mem o') : J u x nL Qf pc lv (vL b :: vL a :: st) mem (if s64 a = s64 b then o else o') := by
  obtain ⟨p, e, R, s, m, args, below, meth, c, cells, slots⟩ := x
  intro r hr H locs ls hP hS hh
  have key := jcmp_eq a b
  refine W.lcmp G.1 G.2.1 hd0 ?_
  exact lv_if_eq G.1 G.2.1 hd ht (fun q => k1 r (by rw [if_pos (key.mp q)] at hr; exact hr) H locs ls hP hS hh) (fun q => k2 r (by rw [if_neg (fun z => q (key.mpr z))] at hr; exact hr) H locs ls hP hS hh)
theorem J_lcmp_ne {off : Int} (tgt : Nat) (G : jG u x cc own nL ret rm) (hd0 : decode cc pc = .ok (.lcmp, 1)) (hd : decode cc (pc + 1) = .ok (.ifCond .ne off, 3)) (ht : ((pc + 1 : Nat) : Int) + off = (tgt : Int)) (k1 : J u x nL Qf tgt lv st mem o) (k2 : J u x nL Qf (pc + 4) lv st mem o') : J u x nL Qf pc lv (vL b :: vL a :: st) mem (if ¬ s64 a = s64 b then o else o') := by
  obtain ⟨p, e, R, s, m, args, below, meth, c, cells, slots⟩ := x
  intro r hr H locs ls hP hS hh
  have key := (not_congr (jcmp_eq a b))
  refine W.lcmp G.1 G.2.1 hd0 ?_
  exact lv_if_ne G.1 G.2.1 hd ht (fun q => k1 r (by rw [if_pos (key.mp q)] at hr; exact hr) H locs ls hP hS hh) (fun q => k2 r (by rw [if_neg (fun z => z ((jcmp_eq a b).mp q))] at hr; exact hr) H locs ls hP hS hh)
theorem J_lcmp_lt {off : Int} (tgt : Nat) (G : jG u x cc own nL ret rm) (hd0 : decode cc pc = .ok (.lcmp, 1)) (hd : decode cc (pc + 1) = .ok (.ifCond .lt off, 3)) (ht : ((pc + 1 : Nat) : Int) + off = (tgt : Int)) (k1 : J u x nL Qf tgt lv st mem o) (k2 : J u x nL Qf (pc + 4) lv st mem o') : J u x nL Qf pc lv (vL b :: vL a :: st) mem (if s64 a < s64 b then o else o') := by
  obtain ⟨p, e, R, s, m, args, below, meth, c, cells, slots⟩ := x
  intro r hr H locs ls hP hS hh
  have key := jcmp_lt a b
  refine W.lcmp G.1 G.2.1 hd0 ?_
  exact lv_if_lt G.1 G.2.1 hd ht (fun q => k1 r (by rw [if_pos (key.mp q)] at hr; exact hr) H locs ls hP hS hh) (fun q => k2 r (by rw [if_neg (fun z => q (key.mpr z))] at hr; exact hr) H locs ls hP hS hh)
theorem J_lcmp_ge {off : Int} (tgt : Nat) (G : jG u x cc own nL ret rm) (hd0 : decode cc pc = .ok (.lcmp, 1)) (hd : decode cc (pc + 1) = .ok (.ifCond .ge off, 3)) (ht : ((pc + 1 : Nat) : Int) + off = (tgt : Int)) (k1 : J u x nL Qf tgt lv st mem o) (k2 : J u x nL Qf (pc + 4) lv st mem o') : J u x nL Qf pc lv (vL b :: vL a :: st) mem (if s64 b ≤ s64 a then o else o') := by
  obtain ⟨p, e, R, s, m, args, below, meth, c, cells, slots⟩ := x
  intro r hr H locs ls hP hS hh
  have key := ((i32_nlt0 _).trans ((not_congr (jcmp_lt a b)).trans Int.not_lt))
  refine W.lcmp G.1 G.2.1 hd0 ?_
  exact lv_if_ge G.1 G.2.1 hd ht (fun q => k1 r (by rw [if_pos (key.mp q)] at hr; exact hr) H locs ls hP hS hh) (fun q => k2 r (by rw [if_neg (fun z => q (key.mpr z))] at hr; exact hr) H locs ls hP hS hh)
theorem J_lcmp_gt {off : Int} (tgt : Nat) (G : jG u x cc own nL ret rm) (hd0 : decode cc pc = .ok (.lcmp, 1)) (hd : decode cc (pc + 1) = .ok (.ifCond .gt off, 3)) (ht : ((pc + 1 : Nat) : Int) + off = (tgt : Int)) (k1 : J u x nL Qf tgt lv st mem o) (k2 : J u x nL Qf (pc + 4) lv st mem o') : J u x nL Qf pc lv (vL b :: vL a :: st) mem (if s64 b < s64 a then o else o') := by
  obtain ⟨p, e, R, s, m, args, below, meth, c, cells, slots⟩ := x
  intro r hr H locs ls hP hS hh
  have key := jcmp_gt a b
  refine W.lcmp G.1 G.2.1 hd0 ?_
  exact lv_if_gt G.1 G.2.1 hd ht (fun q => k1 r (by rw [if_pos (key.mp q)] at hr; exact hr) H locs ls hP hS hh) (fun q => k2 r (by rw [if_neg (fun z => q (key.mpr z))] at hr; exact hr) H locs ls hP hS hh)
theorem J_lcmp_le {off : Int} (tgt : Nat) (G : jG u x cc own nL ret rm) (hd0 : decode cc pc = .ok (.lcmp, 1)) (hd : decode cc (pc + 1) = .ok (.ifCond .le off, 3)) (ht : ((pc + 1 : Nat) : Int) + off = (tgt : Int)) (k1 : J u x nL Qf tgt lv st mem o) (k2 : J u x nL Qf (pc + 4) lv st mem o') : J u x nL Qf pc lv (vL b :: vL a :: st) mem (if s64 a ≤ s64 b then o else o') := by
  obtain ⟨p, e, R, s, m, args, below, meth, c, cells, slots⟩ := x
  intro r hr H locs ls hP hS hh
  have key := ((i32_n0lt _).trans ((not_congr (jcmp_gt a b)).trans Int.not_lt))
  refine W.lcmp G.1 G.2.1 hd0 ?_
  exact lv_if_le G.1 G.2.1 hd ht (fun q => k1 r (by rw [if_pos (key.mp q)] at hr; exact hr) H locs ls hP hS hh) (fun q => k2 r (by rw [if_neg (fun z => q (key.mpr z))] at hr; exact hr) H locs ls hP hS hh)
end JR
section JM
variable {α : Type} {u : jU} {x : jX} {cc : ByteArray} {own : String} {nL : Nat} {ret : Option FieldType} {rm : Room} {Qf : α → State → Prop} {pc : Nat} {lv : List (Nat × Value)} {st : List Value} {mem : Mem} {o o' : Option α} {a b : Int}
/-- a class of the worlds, by its number: its name, its fields' table, how many, their types; its words are there -/
def jCls (ci : Nat) (C : String) (T : u_T) (N : Nat) (ty : Nat → FieldType) : Prop := vwCl[ci]? = some (C, T, N) ∧ (∀ w ∈ u_ws C T N, w ∈ jTW) ∧ (∀ k, k < N → parseFieldDescriptor (T k).2.2.1 = some (ty k)) ∧ (∀ a, a < N → ∀ b, b < N → a ≠ b → (T a).2.1 ≠ (T b).2.1) ∧ (jFields.getD ci []).length = N ∧ ci < 10
theorem cellE_obj {cy : jCy} {base : Nat} {mem : Mem} {c ci : Nat} (h : kd c = ci) (hc : ci < 10) : cellE cy base mem c = .inr (ci, (jFields.getD ci []).mapIdx (fv base mem c)) := by
  subst h
  unfold cellE
  rw [if_pos hc]
theorem fields_at {base : Nat} {mem : Mem} {c ci k : Nat} {q : Nat × Nat} (h : (jFields.getD ci [])[k]? = some q) : ((jFields.getD ci []).mapIdx (fv base mem c))[k]? = some (fv base mem c k q) := by
  rw [List.getElem?_mapIdx, h]
  rfl
theorem fields_set {base : Nat} {mem : Mem} {c ci k : Nat} {q : Nat × Nat} {v : Int} (h : (jFields.getD ci [])[k]? = some q) (hq : q.1 < 2) : ((jFields.getD ci []).mapIdx (fv base mem c)).set k (fv base (mset mem c k v) c k q) = (jFields.getD ci []).mapIdx (fv base (mset mem c k v) c) := by
  apply List.ext_getElem?
  intro j
  by_cases hj : j = k
  · subst hj
    have hl : j < (jFields.getD ci []).length := (List.getElem?_eq_some_iff.mp h).1
    rw [List.getElem?_set_self (by simpa using hl), fields_at h]
  · rw [List.getElem?_set_ne (Ne.symm hj), List.getElem?_mapIdx, List.getElem?_mapIdx]
    congr 1
    funext q'
    have hne : (j : Int) ≠ (k : Int) := by omega
    simp [fv, mset, hne]
theorem J_getf {c ci k idx : Nat} {C : String} {T : u_T} {N : Nat} {ty : Nat → FieldType} {q : Nat × Nat} {v : Value} (G : jG u x cc own nL ret rm) (hC : jCls ci C T N ty) (hw : Cond.fieldLink own idx (T k).1 (T k).2.1 (T k).2.2.1 ∈ jTW) (hkd : kd c = ci) (hq : (jFields.getD ci [])[k]? = some q) (hv : fv (uB u) mem c k q = v) (hd : decode cc pc = .ok (.getfield idx, 3)) (kk : J u x nL Qf (pc + 3) lv (v :: st) mem o) : J u x nL Qf pc lv (vR (uB u) c :: st) mem o := by
  obtain ⟨p, e, R, s, m, args, below, meth, cd, cells, slots⟩ := x
  intro r hr H locs ls hP hS hh
  obtain ⟨h1, h2, h3, h4, h5, h6⟩ := hC
  have hl : k < N := h5 ▸ (List.getElem?_eq_some_iff.mp hq).1
  refine va_get G.1 G.2.1 (C := C) (T := T) (N := N) (ref := (T k).1) (index := idx) G.2.2.2.2.1 h2 G.2.2.2.1 G.2.2.2.2.2.1 hP c (by rw [vws_at _ _ _ (kd_lt hkd (by omega)), cellE_obj hkd h6]) h1 k hl (G.2.2.2.2.1 _ hw) (fun _ h => h) (v := v) ?_ hd (kk r hr H locs ls hP hS hh)
  rw [← hv]
  exact fields_at hq
theorem J_getI {c ci k idx : Nat} {i : Int} {C : String} {T : u_T} {N : Nat} {ty : Nat → FieldType} (G : jG u x cc own nL ret rm) (hC : jCls ci C T N ty) (hw : Cond.fieldLink own idx (T k).1 (T k).2.1 (T k).2.2.1 ∈ jTW) (hkd : kd c = ci) (hi : ((k : Nat) : Int) = i) (hq : (jFields.getD ci [])[k]? = some (0, 0)) (hd : decode cc pc = .ok (.getfield idx, 3)) (kk : J u x nL Qf (pc + 3) lv (vI (mem c i) :: st) mem o) : J u x nL Qf pc lv (vR (uB u) c :: st) mem o := J_getf G hC hw hkd hq (by subst hi; rfl) hd kk
theorem J_getL {c ci k idx : Nat} {i : Int} {C : String} {T : u_T} {N : Nat} {ty : Nat → FieldType} (G : jG u x cc own nL ret rm) (hC : jCls ci C T N ty) (hw : Cond.fieldLink own idx (T k).1 (T k).2.1 (T k).2.2.1 ∈ jTW) (hkd : kd c = ci) (hi : ((k : Nat) : Int) = i) (hq : (jFields.getD ci [])[k]? = some (1, 0)) (hd : decode cc pc = .ok (.getfield idx, 3)) (kk : J u x nL Qf (pc + 3) lv (vL (mem c i) :: st) mem o) : J u x nL Qf pc lv (vR (uB u) c :: st) mem o := J_getf G hC hw hkd hq (by subst hi; rfl) hd kk
theorem J_getR {c ci k idx f d : Nat} {C : String} {T : u_T} {N : Nat} {ty : Nat → FieldType} (G : jG u x cc own nL ret rm) (hC : jCls ci C T N ty) (hw : Cond.fieldLink own idx (T k).1 (T k).2.1 (T k).2.2.1 ∈ jTW) (hkd : kd c = ci) (hq : (jFields.getD ci [])[k]? = some (2, f)) (hf : c + f = d) (hd : decode cc pc = .ok (.getfield idx, 3)) (kk : J u x nL Qf (pc + 3) lv (vR (uB u) d :: st) mem o) : J u x nL Qf pc lv (vR (uB u) c :: st) mem o := J_getf G hC hw hkd hq (by rw [← hf]; rfl) hd kk
theorem J_putf {c ci k idx : Nat} {C : String} {T : u_T} {N : Nat} {ty : Nat → FieldType} {q : Nat × Nat} {v : Int} {V : Value} (G : jG u x cc own nL ret rm) (hC : jCls ci C T N ty) (hw : Cond.fieldLink own idx (T k).1 (T k).2.1 (T k).2.2.1 ∈ jTW) (hkd : kd c = ci) (hq : (jFields.getD ci [])[k]? = some q) (hq2 : q.1 < 2) (hfin : (T k).2.2.2 = false) (hv : fv (uB u) (mset mem c k v) c k q = V) (hn : narrow (ty k) V = V) (hft : fits (ty k) V = true) (hd : decode cc pc = .ok (.putfield idx, 3)) (kk : J u x nL Qf (pc + 3) lv st (mset mem c k v) o) : J u x nL Qf pc lv (V :: vR (uB u) c :: st) mem o := by
  obtain ⟨p, e, R, s, m, args, below, meth, cd, cells, slots⟩ := x
  intro r hr H locs ls hP hS hh
  obtain ⟨h1, h2, h3, h4, h5, h6⟩ := hC
  have hl : k < N := h5 ▸ (List.getElem?_eq_some_iff.mp hq).1
  have hcN := kd_lt hkd (by omega)
  have he : (vws u.2.2.1 (uB u) mem)[c]? = some (uB u + c, .inr (ci, (jFields.getD ci []).mapIdx (fv (uB u) mem c))) := by rw [vws_at _ _ _ hcN, cellE_obj hkd h6]
  refine va_put G.1 G.2.1 (C := C) (T := T) (N := N) (ref := (T k).1) (index := idx) G.2.2.2.2.1 h2 ty h3 h4 G.2.2.2.1 G.2.2.2.2.2.1 hP (vws_D _ _ _) hS c he h1 k hl (G.2.2.2.2.1 _ hw) (fun _ h => h) hfin (h3 k hl) hn hft (by rw [List.length_mapIdx, h5]; exact hl) hd ?_
  intro H1 locs1 hP1 _ hS1
  refine kk r hr H1 locs1 ls ?_ hS1 hh
  have hset := vws_set (cy := u.2.2.1) (base := uB u) (mem := mem) (mem' := mset mem c k v) hcN (fun c' hc' => cellE_congr (mset_ne _ _ _ _ hc'))
  rw [cellE_obj hkd h6, ← fields_set hq hq2, hv] at hset
  rw [← hset]
  exact hP1
theorem J_putI {c ci k idx : Nat} {i : Int} {C : String} {T : u_T} {N : Nat} {ty : Nat → FieldType} {v : Int} (G : jG u x cc own nL ret rm) (hC : jCls ci C T N ty) (hw : Cond.fieldLink own idx (T k).1 (T k).2.1 (T k).2.2.1 ∈ jTW) (hkd : kd c = ci) (hi : ((k : Nat) : Int) = i) (hq : (jFields.getD ci [])[k]? = some (0, 0)) (hfin : (T k).2.2.2 = false) (hty : ty k = .int) (hd : decode cc pc = .ok (.putfield idx, 3)) (kk : J u x nL Qf (pc + 3) lv st (mset mem c i v) o) : J u x nL Qf pc lv (vI v :: vR (uB u) c :: st) mem o :=
  J_putf G hC hw hkd hq (by decide) hfin (by show vI (mset mem c k v c k) = _; rw [mset_self]) (by rw [hty]; rfl) (by rw [hty]; rfl) hd (by subst hi; exact kk)
theorem J_putZ {c ci k idx : Nat} {i : Int} {C : String} {T : u_T} {N : Nat} {ty : Nat → FieldType} {v : Int} (G : jG u x cc own nL ret rm) (hC : jCls ci C T N ty) (hw : Cond.fieldLink own idx (T k).1 (T k).2.1 (T k).2.2.1 ∈ jTW) (hkd : kd c = ci) (hi : ((k : Nat) : Int) = i) (hq : (jFields.getD ci [])[k]? = some (0, 0)) (hfin : (T k).2.2.2 = false) (hty : ty k = .boolean) (hv : narrow .boolean (vI v) = vI v) (hv2 : fits .boolean (vI v) = true) (hd : decode cc pc = .ok (.putfield idx, 3)) (kk : J u x nL Qf (pc + 3) lv st (mset mem c i v) o) : J u x nL Qf pc lv (vI v :: vR (uB u) c :: st) mem o :=
  J_putf G hC hw hkd hq (by decide) hfin (by show vI (mset mem c k v c k) = _; rw [mset_self]) (by rw [hty]; exact hv) (by rw [hty]; exact hv2) hd (by subst hi; exact kk)
theorem J_putL {c ci k idx : Nat} {i : Int} {C : String} {T : u_T} {N : Nat} {ty : Nat → FieldType} {v : Int} (G : jG u x cc own nL ret rm) (hC : jCls ci C T N ty) (hw : Cond.fieldLink own idx (T k).1 (T k).2.1 (T k).2.2.1 ∈ jTW) (hkd : kd c = ci) (hi : ((k : Nat) : Int) = i) (hq : (jFields.getD ci [])[k]? = some (1, 0)) (hfin : (T k).2.2.2 = false) (hty : ty k = .long) (hd : decode cc pc = .ok (.putfield idx, 3)) (kk : J u x nL Qf (pc + 3) lv st (mset mem c i v) o) : J u x nL Qf pc lv (vL v :: vR (uB u) c :: st) mem o :=
  J_putf G hC hw hkd hq (by decide) hfin (by show vL (mset mem c k v c k) = _; rw [mset_self]) (by rw [hty]; rfl) (by rw [hty]; rfl) hd (by subst hi; exact kk)
/-! arrays -/
theorem cellE_arrI {cy : jCy} {base : Nat} {mem : Mem} {c : Nat} (h : kd c = 20) : cellE cy base mem c = .inl (cy.2.2.1, ln c, .inl (fun i => Int32.ofInt (mem c i))) := by
  unfold cellE; rw [h]; rfl
theorem cellE_arrL {cy : jCy} {base : Nat} {mem : Mem} {c : Nat} (h : kd c = 21) : cellE cy base mem c = .inl (cy.2.2.2.1, ln c, .inr (.inl (fun i => Int64.ofInt (mem c i)))) := by
  unfold cellE; rw [h]; rfl
theorem cellE_arrB {cy : jCy} {base : Nat} {mem : Mem} {c : Nat} (h : kd c = 22) : cellE cy base mem c = .inl (cy.1, ln c, .inl (fun i => Int32.ofInt (mem c i))) := by
  unfold cellE; rw [h]; rfl
theorem cellE_arrC {cy : jCy} {base : Nat} {mem : Mem} {c : Nat} (h : kd c = 23) : cellE cy base mem c = .inl (cy.2.1, ln c, .inl (fun i => Int32.ofInt (mem c i))) := by
  unfold cellE; rw [h]; rfl
theorem cellE_arrR {cy : jCy} {base : Nat} {mem : Mem} {c : Nat} (h : kd c = 24) : cellE cy base mem c = .inl (cy.2.2.2.2, ln c, .inr (.inr (.inr (.inr (fun i => some (base + (c + 1 + 9 * i))))))) := by
  unfold cellE; rw [h]; rfl
theorem ck_some {α : Type} {i : Int} {n : Nat} {k : Option α} {r : α} (h : ck i n k = some r) : (0 ≤ s32 i ∧ s32 i < (n : Int)) ∧ k = some r := by
  unfold ck at h
  split at h
  · rename_i hc; exact ⟨hc, h⟩
  · cases h
theorem ck_in {i : Int} {n : Nat} (h : 0 ≤ s32 i ∧ s32 i < (n : Int)) : vp_in (Int32.ofInt i) n := by
  unfold vp_in
  rw [i32_lt0, i32_clamp]
  omega
theorem ck_ix {i : Int} {n : Nat} (h : 0 ≤ s32 i ∧ s32 i < (n : Int)) : (((Int32.ofInt i).toNatClampNeg : Nat) : Int) = s32 i := by
  rw [i32_clamp]
  exact Int.toNat_of_nonneg h.1
theorem J_iald {c n : Nat} {i : Int} (G : jG u x cc own nL ret rm) (hkd : kd c = 20) (hn : ln c = n) (hd : decode cc pc = .ok (.iaload, 1)) (kk : J u x nL Qf (pc + 1) lv (vI (mem c (s32 i)) :: st) mem o) : J u x nL Qf pc lv (vI i :: vR (uB u) c :: st) mem (ck i n o) := by
  obtain ⟨p, e, R, s, m, args, below, meth, cd, cells, slots⟩ := x
  intro r hr H locs ls hP hS hh
  obtain ⟨hc, hk⟩ := ck_some hr
  refine va_iald G.1 G.2.1 G.2.2.2.2.2.1 hP c 2 (by rw [vws_at _ _ _ (kd_lt hkd (by decide)), cellE_arrI hkd]) rfl (ck_in (hn ▸ hc)) hd ?_
  rw [ck_ix hc]
  exact kk r hk H locs ls hP hS hh
theorem J_ialdC {c n : Nat} {i : Int} (G : jG u x cc own nL ret rm) (hkd : kd c = 20) (hn : ln c = n) (hc : 0 ≤ i ∧ i < (n : Int) ∧ i < 2147483648) (hd : decode cc pc = .ok (.iaload, 1)) (kk : J u x nL Qf (pc + 1) lv (vI (mem c i) :: st) mem o) : J u x nL Qf pc lv (vI i :: vR (uB u) c :: st) mem o := by
  have hs : s32 i = i := by unfold s32; rw [Int.bmod_eq_of_le] <;> omega
  have h := J_iald (o := o) G hkd hn hd (by rw [hs]; exact kk)
  unfold ck at h
  rw [hs, if_pos ⟨hc.1, hc.2.1⟩] at h
  exact h
theorem J_lald {c n : Nat} {i : Int} (G : jG u x cc own nL ret rm) (hkd : kd c = 21) (hn : ln c = n) (hd : decode cc pc = .ok (.laload, 1)) (kk : J u x nL Qf (pc + 1) lv (vL (mem c (s32 i)) :: st) mem o) : J u x nL Qf pc lv (vI i :: vR (uB u) c :: st) mem (ck i n o) := by
  obtain ⟨p, e, R, s, m, args, below, meth, cd, cells, slots⟩ := x
  intro r hr H locs ls hP hS hh
  obtain ⟨hc, hk⟩ := ck_some hr
  refine va_lald G.1 G.2.1 G.2.2.2.2.2.1 hP c 3 (by rw [vws_at _ _ _ (kd_lt hkd (by decide)), cellE_arrL hkd]) rfl (ck_in (hn ▸ hc)) hd ?_
  rw [ck_ix hc]
  exact kk r hk H locs ls hP hS hh
theorem J_laldC {c n : Nat} {i : Int} (G : jG u x cc own nL ret rm) (hkd : kd c = 21) (hn : ln c = n) (hc : 0 ≤ i ∧ i < (n : Int) ∧ i < 2147483648) (hd : decode cc pc = .ok (.laload, 1)) (kk : J u x nL Qf (pc + 1) lv (vL (mem c i) :: st) mem o) : J u x nL Qf pc lv (vI i :: vR (uB u) c :: st) mem o := by
  have hs : s32 i = i := by unfold s32; rw [Int.bmod_eq_of_le] <;> omega
  have h := J_lald (o := o) G hkd hn hd (by rw [hs]; exact kk)
  unfold ck at h
  rw [hs, if_pos ⟨hc.1, hc.2.1⟩] at h
  exact h
theorem J_bald {c n : Nat} {i : Int} (G : jG u x cc own nL ret rm) (hkd : kd c = 22) (hn : ln c = n) (hd : decode cc pc = .ok (.baload, 1)) (kk : J u x nL Qf (pc + 1) lv (vI (mem c (s32 i)) :: st) mem o) : J u x nL Qf pc lv (vI i :: vR (uB u) c :: st) mem (ck i n o) := by
  obtain ⟨p, e, R, s, m, args, below, meth, cd, cells, slots⟩ := x
  intro r hr H locs ls hP hS hh
  obtain ⟨hc, hk⟩ := ck_some hr
  refine va_bald G.1 G.2.1 G.2.2.2.2.2.1 hP c 0 (by rw [vws_at _ _ _ (kd_lt hkd (by decide)), cellE_arrB hkd]) rfl (ck_in (hn ▸ hc)) hd ?_
  rw [ck_ix hc]
  exact kk r hk H locs ls hP hS hh
theorem J_baldC {c n : Nat} {i : Int} (G : jG u x cc own nL ret rm) (hkd : kd c = 22) (hn : ln c = n) (hc : 0 ≤ i ∧ i < (n : Int) ∧ i < 2147483648) (hd : decode cc pc = .ok (.baload, 1)) (kk : J u x nL Qf (pc + 1) lv (vI (mem c i) :: st) mem o) : J u x nL Qf pc lv (vI i :: vR (uB u) c :: st) mem o := by
  have hs : s32 i = i := by unfold s32; rw [Int.bmod_eq_of_le] <;> omega
  have h := J_bald (o := o) G hkd hn hd (by rw [hs]; exact kk)
  unfold ck at h
  rw [hs, if_pos ⟨hc.1, hc.2.1⟩] at h
  exact h
theorem J_cald {c n : Nat} {i : Int} (G : jG u x cc own nL ret rm) (hkd : kd c = 23) (hn : ln c = n) (hd : decode cc pc = .ok (.caload, 1)) (kk : J u x nL Qf (pc + 1) lv (vI (mem c (s32 i)) :: st) mem o) : J u x nL Qf pc lv (vI i :: vR (uB u) c :: st) mem (ck i n o) := by
  obtain ⟨p, e, R, s, m, args, below, meth, cd, cells, slots⟩ := x
  intro r hr H locs ls hP hS hh
  obtain ⟨hc, hk⟩ := ck_some hr
  refine va_cald G.1 G.2.1 G.2.2.2.2.2.1 hP c 1 (by rw [vws_at _ _ _ (kd_lt hkd (by decide)), cellE_arrC hkd]) rfl (ck_in (hn ▸ hc)) hd ?_
  rw [ck_ix hc]
  exact kk r hk H locs ls hP hS hh
theorem J_caldC {c n : Nat} {i : Int} (G : jG u x cc own nL ret rm) (hkd : kd c = 23) (hn : ln c = n) (hc : 0 ≤ i ∧ i < (n : Int) ∧ i < 2147483648) (hd : decode cc pc = .ok (.caload, 1)) (kk : J u x nL Qf (pc + 1) lv (vI (mem c i) :: st) mem o) : J u x nL Qf pc lv (vI i :: vR (uB u) c :: st) mem o := by
  have hs : s32 i = i := by unfold s32; rw [Int.bmod_eq_of_le] <;> omega
  have h := J_cald (o := o) G hkd hn hd (by rw [hs]; exact kk)
  unfold ck at h
  rw [hs, if_pos ⟨hc.1, hc.2.1⟩] at h
  exact h
theorem J_iast {c n : Nat} {i v : Int} (G : jG u x cc own nL ret rm) (hkd : kd c = 20) (hn : ln c = n) (hd : decode cc pc = .ok (.iastore, 1)) (kk : J u x nL Qf (pc + 1) lv st (mset mem c (s32 i) v) o) : J u x nL Qf pc lv (vI v :: vI i :: vR (uB u) c :: st) mem (ck i n o) := by
  obtain ⟨p, e, R, s, m, args, below, meth, cd, cells, slots⟩ := x
  intro r hr H locs ls hP hS hh
  obtain ⟨hc, hk⟩ := ck_some hr
  have hcN := kd_lt hkd (by decide)
  refine va_iast G.1 G.2.1 G.2.2.2.2.2.1 hP (vws_D _ _ _) hS c 2 (by rw [vws_at _ _ _ hcN, cellE_arrI hkd]) rfl (ck_in (hn ▸ hc)) hd ?_
  intro H1 locs1 hP1 _ hS1
  refine kk r hk H1 locs1 ls ?_ hS1 hh
  have hset := vws_set (cy := u.2.2.1) (base := uB u) (mem := mem) (mem' := mset mem c (s32 i) v) hcN (fun c' hc' => cellE_congr (mset_ne _ _ _ _ hc'))
  rw [cellE_arrI hkd] at hset
  rw [← hset]
  have hf : (fun j : Nat => Int32.ofInt (mset mem c (s32 i) v c j)) = upd (fun j : Nat => Int32.ofInt (mem c j)) (Int32.ofInt i).toNatClampNeg (Int32.ofInt v) := by
    have hx := ck_ix hc
    funext j
    unfold upd mset
    by_cases hj : j = (Int32.ofInt i).toNatClampNeg
    · subst hj; rw [hx]; simp
    · have h2 : ¬ (j : Int) = s32 i := by rw [← hx]; omega
      simp [hj, h2]
  rw [hf]
  exact hP1
theorem J_iastC {c n : Nat} {i v : Int} (G : jG u x cc own nL ret rm) (hkd : kd c = 20) (hn : ln c = n) (hc : 0 ≤ i ∧ i < (n : Int) ∧ i < 2147483648) (hd : decode cc pc = .ok (.iastore, 1)) (kk : J u x nL Qf (pc + 1) lv st (mset mem c i v) o) : J u x nL Qf pc lv (vI v :: vI i :: vR (uB u) c :: st) mem o := by
  have hs : s32 i = i := by unfold s32; rw [Int.bmod_eq_of_le] <;> omega
  have h := J_iast (o := o) (v := v) G hkd hn hd (by rw [hs]; exact kk)
  unfold ck at h
  rw [hs, if_pos ⟨hc.1, hc.2.1⟩] at h
  exact h
theorem J_last {c n : Nat} {i v : Int} (G : jG u x cc own nL ret rm) (hkd : kd c = 21) (hn : ln c = n) (hd : decode cc pc = .ok (.lastore, 1)) (kk : J u x nL Qf (pc + 1) lv st (mset mem c (s32 i) v) o) : J u x nL Qf pc lv (vL v :: vI i :: vR (uB u) c :: st) mem (ck i n o) := by
  obtain ⟨p, e, R, s, m, args, below, meth, cd, cells, slots⟩ := x
  intro r hr H locs ls hP hS hh
  obtain ⟨hc, hk⟩ := ck_some hr
  have hcN := kd_lt hkd (by decide)
  refine va_last G.1 G.2.1 G.2.2.2.2.2.1 hP (vws_D _ _ _) hS c 3 (by rw [vws_at _ _ _ hcN, cellE_arrL hkd]) rfl (ck_in (hn ▸ hc)) hd ?_
  intro H1 locs1 hP1 _ hS1
  refine kk r hk H1 locs1 ls ?_ hS1 hh
  have hset := vws_set (cy := u.2.2.1) (base := uB u) (mem := mem) (mem' := mset mem c (s32 i) v) hcN (fun c' hc' => cellE_congr (mset_ne _ _ _ _ hc'))
  rw [cellE_arrL hkd] at hset
  rw [← hset]
  have hf : (fun j : Nat => Int64.ofInt (mset mem c (s32 i) v c j)) = vp_updL (fun j : Nat => Int64.ofInt (mem c j)) (Int32.ofInt i).toNatClampNeg (Int64.ofInt v) := by
    have hx := ck_ix hc
    funext j
    unfold vp_updL mset
    by_cases hj : j = (Int32.ofInt i).toNatClampNeg
    · subst hj; rw [hx]; simp
    · have h2 : ¬ (j : Int) = s32 i := by rw [← hx]; omega
      simp [hj, h2]
  rw [hf]
  exact hP1
theorem J_lastC {c n : Nat} {i v : Int} (G : jG u x cc own nL ret rm) (hkd : kd c = 21) (hn : ln c = n) (hc : 0 ≤ i ∧ i < (n : Int) ∧ i < 2147483648) (hd : decode cc pc = .ok (.lastore, 1)) (kk : J u x nL Qf (pc + 1) lv st (mset mem c i v) o) : J u x nL Qf pc lv (vL v :: vI i :: vR (uB u) c :: st) mem o := by
  have hs : s32 i = i := by unfold s32; rw [Int.bmod_eq_of_le] <;> omega
  have h := J_last (o := o) (v := v) G hkd hn hd (by rw [hs]; exact kk)
  unfold ck at h
  rw [hs, if_pos ⟨hc.1, hc.2.1⟩] at h
  exact h
theorem J_bast {c n : Nat} {i v : Int} (G : jG u x cc own nL ret rm) (hkd : kd c = 22) (hn : ln c = n) (hd : decode cc pc = .ok (.bastore, 1)) (kk : J u x nL Qf (pc + 1) lv st (mset mem c (s32 i) (s8 v)) o) : J u x nL Qf pc lv (vI v :: vI i :: vR (uB u) c :: st) mem (ck i n o) := by
  obtain ⟨p, e, R, s, m, args, below, meth, cd, cells, slots⟩ := x
  intro r hr H locs ls hP hS hh
  obtain ⟨hc, hk⟩ := ck_some hr
  have hcN := kd_lt hkd (by decide)
  refine va_bast G.1 G.2.1 G.2.2.2.2.2.1 hP (vws_D _ _ _) hS c 0 (by rw [vws_at _ _ _ hcN, cellE_arrB hkd]) rfl (ck_in (hn ▸ hc)) hd ?_
  intro H1 locs1 hP1 _ hS1
  refine kk r hk H1 locs1 ls ?_ hS1 hh
  have hset := vws_set (cy := u.2.2.1) (base := uB u) (mem := mem) (mem' := mset mem c (s32 i) (s8 v)) hcN (fun c' hc' => cellE_congr (mset_ne _ _ _ _ hc'))
  rw [cellE_arrB hkd] at hset
  rw [← hset]
  have hf : (fun j : Nat => Int32.ofInt (mset mem c (s32 i) (s8 v) c j)) = upd (fun j : Nat => Int32.ofInt (mem c j)) (Int32.ofInt i).toNatClampNeg (vp_nar .byte (Int32.ofInt v)) := by
    have hx := ck_ix hc
    rw [vp_nar_byte, i32_i2b]
    funext j
    unfold upd mset
    by_cases hj : j = (Int32.ofInt i).toNatClampNeg
    · subst hj; rw [hx]; simp
    · have h2 : ¬ (j : Int) = s32 i := by rw [← hx]; omega
      simp [hj, h2]
  rw [hf]
  exact hP1
theorem J_bastC {c n : Nat} {i v : Int} (G : jG u x cc own nL ret rm) (hkd : kd c = 22) (hn : ln c = n) (hc : 0 ≤ i ∧ i < (n : Int) ∧ i < 2147483648) (hd : decode cc pc = .ok (.bastore, 1)) (kk : J u x nL Qf (pc + 1) lv st (mset mem c i (s8 v)) o) : J u x nL Qf pc lv (vI v :: vI i :: vR (uB u) c :: st) mem o := by
  have hs : s32 i = i := by unfold s32; rw [Int.bmod_eq_of_le] <;> omega
  have h := J_bast (o := o) (v := v) G hkd hn hd (by rw [hs]; exact kk)
  unfold ck at h
  rw [hs, if_pos ⟨hc.1, hc.2.1⟩] at h
  exact h
theorem J_aald {c n : Nat} {i : Int} (G : jG u x cc own nL ret rm) (hkd : kd c = 24) (hn : ln c = n) (hd : decode cc pc = .ok (.aaload, 1)) (kk : (0 ≤ s32 i ∧ s32 i < (n : Int)) → J u x nL Qf (pc + 1) lv (vR (uB u) (c + 1 + 9 * (s32 i).toNat) :: st) mem o) : J u x nL Qf pc lv (vI i :: vR (uB u) c :: st) mem (ck i n o) := by
  obtain ⟨p, e, R, s, m, args, below, meth, cd, cells, slots⟩ := x
  intro r hr H locs ls hP hS hh
  obtain ⟨hc, hk⟩ := ck_some hr
  refine va_aldq (C := "BeamPieces$Beam") G.1 G.2.1 G.2.2.2.2.2.1 hP c 4 (by rw [vws_at _ _ _ (kd_lt hkd (by decide)), cellE_arrR hkd]) rfl (ck_in (hn ▸ hc)) hd ?_
  rw [i32_clamp]
  exact kk hc r hk H locs ls hP hS hh
theorem J_olds {i : Int} {f : Nat → Option α} (G : jG u x cc own nL ret rm) (hd : decode cc pc = .ok (.aaload, 1)) (kk : ∀ q, kd q = 0 → J u x nL Qf (pc + 1) lv (vR (uB u) q :: st) mem (f q)) : J u x nL Qf pc lv (vI i :: vR (uB u) 11 :: st) mem (ck i 10 (lt (12 + 9 * (s32 i).toNat) f)) := by
  refine J_aald (c := 11) (n := 10) G (by decide +kernel) (by decide +kernel) hd (fun hc => ?_)
  refine kk (12 + 9 * (s32 i).toNat) ?_
  have h : ∀ j, j < 10 → kd (12 + 9 * j) = 0 := by decide +kernel
  exact h _ (by omega)
theorem J_alen {c n : Nat} {i : Int} (G : jG u x cc own nL ret rm) (hkd : kd c = 20 ∨ kd c = 21) (hn : ln c = n) (hi : ((n : Nat) : Int) = i) (hd : decode cc pc = .ok (.arraylength, 1)) (kk : J u x nL Qf (pc + 1) lv (vI i :: st) mem o) : J u x nL Qf pc lv (vR (uB u) c :: st) mem o := by
  subst hi
  obtain ⟨p, e, R, s, m, args, below, meth, cd, cells, slots⟩ := x
  intro r hr H locs ls hP hS hh
  have e0 : ∀ n : Nat, Int32.ofNat n = Int32.ofInt (n : Int) := fun n => by first | rfl | exact (Int32.ofInt_eq_ofNat).symm | simp
  rcases hkd with hkd | hkd
  · exact va_alen (ty := .int) G.1 G.2.1 G.2.2.2.2.2.1 hP c 2 (by rw [vws_at _ _ _ (kd_lt hkd (by decide)), cellE_arrI hkd]) rfl (by rw [← hn]; exact e0 _) hd (kk r hr H locs ls hP hS hh)
  · exact va_alen (ty := .long) G.1 G.2.1 G.2.2.2.2.2.1 hP c 3 (by rw [vws_at _ _ _ (kd_lt hkd (by decide)), cellE_arrL hkd]) rfl (by rw [← hn]; exact e0 _) hd (kk r hr H locs ls hP hS hh)
end JM
/-! calls and ends -/
theorem jEnv.to {u : jU} {s U : State} (h : jEnv u s) (hW : s.WarmedH U.vm) (hH : ∀ q : Nat, q < s.heap.size → ¬ jA (uB u) q → U.heap[q]? = s.heap[q]?) : jEnv u U := by
  obtain ⟨⟨a1, a2, a3, a4, a5, a6⟩, b1, b2, b3, b4, b5, b6⟩ := h
  exact ⟨⟨a1.warmM hW, a2.warmM hW, a3.warmM hW, a4.warmM hW, a5.warmM hW, a6.moved hW.alike⟩, (b1.moved hW.alike).kept hH, (b2.moved hW.alike).kept hH, (b3.moved hW.alike).kept hH, fun i hi => (b4 i hi).warm hW, (b5.moved hW.alike).kept hH, (b6.moved hW.alike).kept hH⟩
theorem jEnv.same {u : jU} {s U : State} (h : jEnv u s) (hv : s.vm = U.vm) (hH : U.heap = s.heap) : jEnv u U := by
  obtain ⟨⟨a1, a2, a3, a4, a5, a6⟩, b1, b2, b3, b4, b5, b6⟩ := h
  have al : s.vm.Alike U.vm := hv ▸ Vm.Alike.refl s.vm
  have hk : ∀ q : Nat, q < s.heap.size → ¬ jA (uB u) q → U.heap[q]? = s.heap[q]? := fun q _ _ => by rw [hH]
  exact ⟨⟨a1.same rfl hv, a2.same rfl hv, a3.same rfl hv, a4.same rfl hv, a5.same rfl hv, a6.moved al⟩, (b1.moved al).kept hk, (b2.moved al).kept hk, (b3.moved al).kept hk, fun i hi => (b4 i hi).same hv.symm, (b5.moved al).kept hk, (b6.moved al).kept hk⟩
def jMet (u : jU) (y : MethodName) (cc : ByteArray) (nL : Nat) (ret : Option FieldType) (rm : Room) (as : List Value) (mem : Mem) {β : Type} (E : β → Option Value × Mem) (o : Option β) : Prop :=
  ∀ b, o = some b → Met u.1 y (.code y cc nL ret :: jTW) rm (va_Pc as (jPic u mem)) (fun _ st oc t => (oc = .returned (E b).1 ∧ jPic u (E b).2 t) ∧ va_F (jA (uB u)) st t) 0 0 (jA (uB u))
abbrev EpI (mem : Mem) : Int → Option Value × Mem := fun r => (some (vI r), mem)
abbrev EpL (mem : Mem) : Int → Option Value × Mem := fun r => (some (vL r), mem)
abbrev EwI : Int × Mem → Option Value × Mem := fun p => (some (vI p.1), p.2)
abbrev EwL : Int × Mem → Option Value × Mem := fun p => (some (vL p.1), p.2)
abbrev EwV : Mem → Option Value × Mem := fun m => (none, m)
/-- a method that is called: its code's word, its class is there, its name is plain, how many parameters -/
def jSg (y : MethodName) (cc : ByteArray) (nL : Nat) (ret : Option FieldType) (n : Nat) : Prop := Cond.code y cc nL ret ∈ jTW ∧ Cond.initialized y.cls ∈ jTW ∧ (y.cls ≠ "java/lang/invoke/MethodHandle" ∧ y.cls ≠ "java/lang/invoke/VarHandle" ∧ (parseMethodDescriptor y.desc).map (fun d => d.parameters.length) = some n)
def jSgV (y : MethodName) : Prop := Cond.instanceMethod y ∈ jTW ∧ Cond.selects y.cls y y ∈ jTW
def jRm (f l : Nat) : Room := { frames := f, cells := 0, slots := 0, locals := l }
theorem jTW_good {y : MethodName} {cc : ByteArray} {nL : Nat} {ret : Option FieldType} (h : Cond.code y cc nL ret ∈ jTW) : GoodIn jTW (.code y cc nL ret :: jTW) := by
  intro w hw
  have hw : w ∈ jTW := (List.mem_cons.mp hw).elim (fun e => e ▸ h) id
  exact ⟨hw, good_of_word (List.mem_filter.mp hw).2⟩
def jQ (u : jU) (x : jX) {β : Type} (E : β → Option Value × Mem) : β → State → Prop := fun b => match x with
  | (_, _, _, s, _, args, below, _, _, cells, slots) => MQ below (fun _ st oc t => (oc = .returned (E b).1 ∧ jPic u (E b).2 t) ∧ va_F (jA (uB u)) st t) args s cells slots (jA (uB u))
section JC
variable {α β : Type} {u : jU} {x : jX} {cc : ByteArray} {own : String} {nL : Nat} {ret : Option FieldType} {rm : Room} {Qf : α → State → Prop} {pc : Nat} {lv : List (Nat × Value)} {st : List Value} {mem : Mem} {o o' : Option α} {a b : Int}
variable {y : MethodName} {cY : ByteArray} {nY : Nat} {rY : Option FieldType} {f l n idx c ci : Nat} {As stk : List Value} {E : β → Option Value × Mem} {oc : Option β} {k : β → Option α}
theorem jPic.blind {as : List Value} : FrameBlind (va_Pc as (jPic u mem)) := by
  intro a U g mk h
  obtain ⟨h0, h1, h2, h3⟩ := h
  exact ⟨h0, h1, va_K.moved (u := U) (U := U.calling g mk a) (Vm.Alike.refl U.vm) h2, h3.same rfl rfl⟩
/-- behind a call -/
theorem J_after {p : Program} {e : Env} {R : Room} {s : State} {m : MethodId} {args : Array Value} {below : List Frame} {meth : Method} {cd : Code} {cells slots : Nat} {H : Heap} {locs : List Loc} {ls : Array Slot} {Q : State → Prop} {a0 : Array Value} {bb : β} (hS : va_S (jA (uB u)) s.heap H locs)
    (hr : va_Run p u.1 e R s m args below meth cd H locs cells slots 0 0 (F0 m pc ls stk) st ((fun (_ : Array Value) st oc t => (oc = Outcome.returned (E bb).1 ∧ jPic u (E bb).2 t) ∧ va_F (jA (uB u)) st t) a0) (jA (uB u)))
    (kk : ∀ (H1 : Heap) (locs1 : List Loc), va_P u.2.1 vwCl (vws u.2.2.1 (uB u) (E bb).2) H1 → va_S (jA (uB u)) s.heap H1 locs1 → W p u.1 e R s m args below meth cd H1 locs1 cells slots Q (F0 m (pc + 3) ls ((E bb).1.toList ++ st))) : W p u.1 e R s m args below meth cd H locs cells slots Q (F0 m pc ls stk) := by
  intro T hT X
  obtain ⟨v, st₀, t, T', L, h0, X', hL, e1, e2, ⟨⟨hv, hp⟩, hz, hk⟩, stp⟩ := hr T hT X
  cases hv
  rw [h0] at hz hk
  obtain ⟨t2, a1, b1⟩ := kk T'.heap (locs ++ L) (by rw [e1]; exact hp.1) ⟨Nat.le_trans hS.1 (by rw [e1]; exact hz), fun q h1 h2 => by rw [e1, hk q (Nat.lt_of_lt_of_le h1 hS.1) h2]; exact hS.2.1 q h1 h2, fun q hq => by
      rcases List.mem_append.mp hq with h | h
      · exact hS.2.2 q h
      · exact hL q h⟩ T' rfl X'
  exact ⟨t2, stp t2 a1, b1⟩
theorem jPre {p : Program} {e : Env} {R : Room} {s : State} {m : MethodId} {args : Array Value} {below : List Frame} {meth : Method} {cd : Code} {cells slots : Nat} {H : Heap} {locs : List Loc} (G : jG u (p, e, R, s, m, args, below, meth, cd, cells, slots) cc own nL ret rm) (hP : va_P u.2.1 vwCl (vws u.2.2.1 (uB u) mem) H) (hS : va_S (jA (uB u)) s.heap H locs) : ∀ U : State, U.heap = H → s.WarmedH U.vm → va_Pc As (jPic u mem) As.toArray U :=
  fun U hU hW => ⟨rfl, by rw [hU]; exact hP, G.2.2.2.2.2.1.moved hW.alike, G.2.2.2.2.2.2.1.to hW (fun q h1 h2 => by rw [hU]; exact hS.2.1 q h1 h2)⟩
theorem J_callV {C : String} {T : u_T} {N : Nat} {ty : Nat → FieldType} (G : jG u x cc own nL ret rm) (hM : jMet u y cY nY rY (jRm f l) (vR (uB u) c :: As) mem E oc) (hs : jSg y cY nY rY n) (hv : jSgV y) (hw : Cond.methodLink own idx y ∈ jTW) (hC : jCls ci C T N ty) (hkd : kd c = ci) (hyC : y.cls = C)
    (hR : f + 1 ≤ rm.frames ∧ 8 + (nY + 11) + l ≤ rm.locals) (hstk : stk = As.reverse ++ vR (uB u) c :: st) (hn : As.length = n) (hcat : (st.map fun v => v.category).sum ≤ 8) (hd : decode cc pc = .ok (.invokevirtual idx, 3))
    (kk : ∀ bb, J u x nL Qf (pc + 3) lv ((E bb).1.toList ++ st) (E bb).2 (k bb)) : J u x nL Qf pc lv stk mem (oc.bind k) := by
  obtain ⟨p, e, R, s, m, args, below, meth, cd, cells, slots⟩ := x
  intro r hr H locs ls hP hS hh
  cases hoc : oc with
  | none => rw [hoc] at hr; cases hr
  | some bb =>
    rw [hoc] at hr
    subst hyC
    obtain ⟨hx, hb, hml, hown, hts, hK, hE, hlk, hrt, hc1, hc2, hRe⟩ := G
    subst hRe
    have hcN := kd_lt hkd (by have := hC.2.2.2.2.2; omega)
    have hk := kk bb r hr
    refine J_after (a0 := #[]) (bb := bb) (E := E) (u := u) hS (va_runV (As := As) (rest := st) (C := y.cls) (n := n) (b := uB u + c) ⟨hx, hb, hml, hown, hts⟩ (hM bb hoc) ⟨callB_of n hts (jTW_good hs.1) rfl rfl rfl (hts _ hs.2.1) (hts _ hw) hs.2.2 hR, hts _ hv.1, hts _ hv.2⟩ ⟨jPic.blind, ?_, ?_⟩ rfl hn hh.1 hstk ?_ hd ⟨hc1, hc2⟩) (fun H1 locs1 hP1 hS1 => hk H1 locs1 ls hP1 hS1 hh)
    · exact va_recv hK hP (ci := ci) (q0 := c) hC.1 (by rw [vws_at _ _ _ hcN, cellE_obj hkd hC.2.2.2.2.2])
    · exact jPre (e := e) (below := below) (As := vR (uB u) c :: As) ⟨hx, hb, hml, hown, hts, hK, hE, hlk, hrt, hc1, hc2, rfl⟩ hP hS
    · show 2 * 0 + _ ≤ 8; omega
theorem J_callS (G : jG u x cc own nL ret rm) (hM : jMet u y cY nY rY (jRm f l) As mem E oc) (hs : jSg y cY nY rY n) (hv : Cond.static y ∈ jTW) (hw : Cond.methodLink own idx y ∈ jTW)
    (hR : f + 1 ≤ rm.frames ∧ 8 + (nY + 11) + l ≤ rm.locals) (hstk : stk = As.reverse ++ st) (hn : As.length = n) (hcat : (st.map fun v => v.category).sum ≤ 8) (hd : decode cc pc = .ok (.invokestatic idx, 3))
    (kk : ∀ bb, J u x nL Qf (pc + 3) lv ((E bb).1.toList ++ st) (E bb).2 (k bb)) : J u x nL Qf pc lv stk mem (oc.bind k) := by
  obtain ⟨p, e, R, s, m, args, below, meth, cd, cells, slots⟩ := x
  intro r hr H locs ls hP hS hh
  cases hoc : oc with
  | none => rw [hoc] at hr; cases hr
  | some bb =>
    rw [hoc] at hr
    obtain ⟨hx, hb, hml, hown, hts, hK, hE, hlk, hrt, hc1, hc2, hRe⟩ := G
    subst hRe
    have hk := kk bb r hr
    refine J_after (a0 := #[]) (bb := bb) (E := E) (u := u) hS (va_runS (As := As) (rest := st) (n := n) ⟨hx, hb, hml, hown, hts⟩ (hM bb hoc) ⟨callB_of n hts (jTW_good hs.1) rfl rfl rfl (hts _ hs.2.1) (hts _ hw) hs.2.2 hR, hts _ hv⟩ ⟨jPic.blind, ?_⟩ rfl hn hh.1 hstk ?_ hd ⟨hc1, hc2⟩) (fun H1 locs1 hP1 hS1 => hk H1 locs1 ls hP1 hS1 hh)
    · exact jPre (e := e) (below := below) (As := As) ⟨hx, hb, hml, hown, hts, hK, hE, hlk, hrt, hc1, hc2, rfl⟩ hP hS
    · show 2 * 0 + _ ≤ 8; omega
theorem J_callN {host : String} (G : jG u x cc own nL ret rm) (hM : jMet u y cY nY rY (jRm f l) As mem E oc) (hs : jSg y cY nY rY n) (hv : Cond.static y ∈ jTW) (hw : ∀ U, jNest U → va_Nw (.methodLinkNest own idx y host) U)
    (hR : f + 1 ≤ rm.frames ∧ 8 + (nY + 11) + l ≤ rm.locals) (hstk : stk = As.reverse ++ st) (hn : As.length = n) (hcat : (st.map fun v => v.category).sum ≤ 8) (hd : decode cc pc = .ok (.invokestatic idx, 3))
    (kk : ∀ bb, J u x nL Qf (pc + 3) lv ((E bb).1.toList ++ st) (E bb).2 (k bb)) : J u x nL Qf pc lv stk mem (oc.bind k) := by
  obtain ⟨p, e, R, s, m, args, below, meth, cd, cells, slots⟩ := x
  intro r hr H locs ls hP hS hh
  cases hoc : oc with
  | none => rw [hoc] at hr; cases hr
  | some bb =>
    rw [hoc] at hr
    obtain ⟨hx, hb, hml, hown, hts, hK, hE, hlk, hrt, hc1, hc2, hRe⟩ := G
    subst hRe
    have hk := kk bb r hr
    refine J_after (a0 := #[]) (bb := bb) (E := E) (u := u) hS (va_runSN (As := As) (rest := st) (n := n) (host := host) ⟨hx, hb, hml, hown, hts⟩ (hM bb hoc) ⟨va_cnB n hts (jTW_good hs.1) rfl rfl rfl (hw _ hE.1) (hts _ hs.2.1) hs.2.2 hR, hts _ hv, trivial⟩ ⟨jPic.blind, ?_⟩ rfl hn hh.1 hstk ?_ hd ⟨hc1, hc2⟩) (fun H1 locs1 hP1 hS1 => hk H1 locs1 ls hP1 hS1 hh)
    · exact jPre (e := e) (below := below) (As := As) ⟨hx, hb, hml, hown, hts, hK, hE, hlk, hrt, hc1, hc2, rfl⟩ hP hS
    · show 2 * 0 + _ ≤ 8; omega
theorem jEnd {p : Program} {e : Env} {R : Room} {s : State} {m : MethodId} {args : Array Value} {below : List Frame} {meth : Method} {cd : Code} {cells slots : Nat} {H : Heap} {locs : List Loc} (G : jG u (p, e, R, s, m, args, below, meth, cd, cells, slots) cc own nL ret rm) (hP : va_P u.2.1 vwCl (vws u.2.2.1 (uB u) mem) H) (hS : va_S (jA (uB u)) s.heap H locs) {t : State} (ht : t.heap = H) (hW : s.WarmedH t.vm) : jPic u mem t ∧ va_F (jA (uB u)) s t :=
  ⟨⟨by rw [ht]; exact hP, G.2.2.2.2.2.1.moved hW.alike, G.2.2.2.2.2.2.1.to hW (fun q h1 h2 => by rw [ht]; exact hS.2.1 q h1 h2)⟩, hS.F ht⟩
theorem J_iret {bb : β} (G : jG u x cc own nL (some .int) rm) (hd : decode cc pc = .ok (.ireturn, 1)) (hE : E bb = (some (vI a), mem)) : J u x nL (jQ u x E) pc lv [vI a] mem (some bb) := by
  obtain ⟨p, e, R, s, m, args, below, meth, cd, cells, slots⟩ := x
  intro r hr H locs ls hP hS hh
  cases hr
  show W p u.1 e R s m args below meth cd H locs cells slots (MQ below (fun _ st oc t => (oc = .returned (E bb).1 ∧ jPic u (E bb).2 t) ∧ va_F (jA (uB u)) st t) args s cells slots (jA (uB u))) (F0 m pc ls [.int (Int32.ofInt a)])
  refine W.iret G.1 G.2.1 G.2.2.2.2.2.2.2.2.1 (fun t ht hW => ?_) hS.2.2 hd G.2.2.2.2.2.2.2.1
  obtain ⟨h1, h2⟩ := jEnd G hP hS ht hW
  exact ⟨⟨by rw [hE]; rfl, by rw [hE]; exact h1⟩, h2⟩
theorem J_zret {bb : β} {ty : FieldType} (G : jG u x cc own nL (some ty) rm) (hd : decode cc pc = .ok (.ireturn, 1)) (hn : narrow ty (vI a) = vI a) (hE : E bb = (some (vI a), mem)) : J u x nL (jQ u x E) pc lv [vI a] mem (some bb) := by
  obtain ⟨p, e, R, s, m, args, below, meth, cd, cells, slots⟩ := x
  intro r hr H locs ls hP hS hh
  cases hr
  show W p u.1 e R s m args below meth cd H locs cells slots (MQ below (fun _ st oc t => (oc = .returned (E bb).1 ∧ jPic u (E bb).2 t) ∧ va_F (jA (uB u)) st t) args s cells slots (jA (uB u))) (F0 m pc ls [.int (Int32.ofInt a)])
  refine W.zret G.1 G.2.1 G.2.2.2.2.2.2.2.2.1 hn (fun t ht hW => ?_) hS.2.2 hd G.2.2.2.2.2.2.2.1
  obtain ⟨h1, h2⟩ := jEnd G hP hS ht hW
  exact ⟨⟨by rw [hE]; rfl, by rw [hE]; exact h1⟩, h2⟩
theorem J_lret {bb : β} (G : jG u x cc own nL (some .long) rm) (hd : decode cc pc = .ok (.lreturn, 1)) (hE : E bb = (some (vL a), mem)) : J u x nL (jQ u x E) pc lv [vL a] mem (some bb) := by
  obtain ⟨p, e, R, s, m, args, below, meth, cd, cells, slots⟩ := x
  intro r hr H locs ls hP hS hh
  cases hr
  show W p u.1 e R s m args below meth cd H locs cells slots (MQ below (fun _ st oc t => (oc = .returned (E bb).1 ∧ jPic u (E bb).2 t) ∧ va_F (jA (uB u)) st t) args s cells slots (jA (uB u))) (F0 m pc ls [.long (Int64.ofInt a)])
  refine W.lret G.1 G.2.1 G.2.2.2.2.2.2.2.2.1 (fun t ht hW => ?_) hS.2.2 hd G.2.2.2.2.2.2.2.1
  obtain ⟨h1, h2⟩ := jEnd G hP hS ht hW
  exact ⟨⟨by rw [hE]; rfl, by rw [hE]; exact h1⟩, h2⟩
theorem J_vret {bb : β} (G : jG u x cc own nL none rm) (hd : decode cc pc = .ok (.return_, 1)) (hE : E bb = (none, mem)) : J u x nL (jQ u x E) pc lv [] mem (some bb) := by
  obtain ⟨p, e, R, s, m, args, below, meth, cd, cells, slots⟩ := x
  intro r hr H locs ls hP hS hh
  cases hr
  show W p u.1 e R s m args below meth cd H locs cells slots (MQ below (fun _ st oc t => (oc = .returned (E bb).1 ∧ jPic u (E bb).2 t) ∧ va_F (jA (uB u)) st t) args s cells slots (jA (uB u))) (F0 m pc ls [])
  refine W.vret G.1 G.2.1 G.2.2.2.2.2.2.2.2.1 (fun t ht hW => ?_) hS.2.2 hd G.2.2.2.2.2.2.2.1
  obtain ⟨h1, h2⟩ := jEnd G hP hS ht hW
  exact ⟨⟨by rw [hE], by rw [hE]; exact h1⟩, h2⟩
theorem jMet_of {as : List Value} (hy : plainName y.cls = true) (hl : (lg_sl as).length ≤ nY) (body : ∀ x : jX, jG u x cY y.cls nY rY (jRm f l) → J u x nY (jQ u x E) 0 (lv_args 0 as) [] mem oc) : jMet u y cY nY rY (jRm f l) as mem E oc := by
  intro bb hb
  refine Met.ofW (cc := cY) (maxL := nY) (ret := rY) hy rfl ?_
  intro p e s m args below meth c s₁ B hml hv
  obtain ⟨rfl, hP, hK, hE⟩ := hv
  have hts := atoms_spec (ws := .code y cY nY rY :: jTW) B.pre
  have h := body (p, e, jRm f l, s, m, as.toArray, below, meth, c, 0, 0) ⟨B.exec, B.bytes, hml, findClass_of_methodNamed B.named, fun w hw => hts w (List.mem_cons_of_mem _ hw), hK, hE, B.notSynchronized, B.returns, Nat.zero_le _, Nat.zero_le _, rfl⟩ bb hb
  rw [lg_entry_eq]
  exact h s.heap [] _ hP va_S.rf (lv_entry as hl)
/-! the calls by what they answer -/
def bdI {α : Type} (o : Option (Int × Mem)) (k : Int → Mem → Option α) : Option α := o.bind (fun p => k p.1 p.2)
section JS
variable {C : String} {T : u_T} {N : Nat} {ty : Nat → FieldType} {ocP : Option Int} {ocW : Option (Int × Mem)} {ocM : Option Mem} {kP : Int → Option α} {kW : Int → Mem → Option α} {kM : Mem → Option α}
theorem J_cVpI (G : jG u x cc own nL ret rm) (hM : jMet u y cY nY rY (jRm f l) (vR (uB u) c :: As) mem (EpI mem) ocP) (hs : jSg y cY nY rY n) (hv : jSgV y) (hw : Cond.methodLink own idx y ∈ jTW) (hC : jCls ci C T N ty) (hkd : kd c = ci) (hyC : y.cls = C)
    (hR : f + 1 ≤ rm.frames ∧ 8 + (nY + 11) + l ≤ rm.locals) (hstk : stk = As.reverse ++ vR (uB u) c :: st) (hn : As.length = n) (hcat : (st.map fun v => v.category).sum ≤ 8) (hd : decode cc pc = .ok (.invokevirtual idx, 3))
    (kk : ∀ r, J u x nL Qf (pc + 3) lv (vI r :: st) mem (kP r)) : J u x nL Qf pc lv stk mem (ocP.bind kP) := J_callV G hM hs hv hw hC hkd hyC hR hstk hn hcat hd kk
theorem J_cSpI (G : jG u x cc own nL ret rm) (hM : jMet u y cY nY rY (jRm f l) As mem (EpI mem) ocP) (hs : jSg y cY nY rY n) (hv : Cond.static y ∈ jTW) (hw : Cond.methodLink own idx y ∈ jTW)
    (hR : f + 1 ≤ rm.frames ∧ 8 + (nY + 11) + l ≤ rm.locals) (hstk : stk = As.reverse ++ st) (hn : As.length = n) (hcat : (st.map fun v => v.category).sum ≤ 8) (hd : decode cc pc = .ok (.invokestatic idx, 3))
    (kk : ∀ r, J u x nL Qf (pc + 3) lv (vI r :: st) mem (kP r)) : J u x nL Qf pc lv stk mem (ocP.bind kP) := J_callS G hM hs hv hw hR hstk hn hcat hd kk
theorem J_cNpI {host : String} (G : jG u x cc own nL ret rm) (hM : jMet u y cY nY rY (jRm f l) As mem (EpI mem) ocP) (hs : jSg y cY nY rY n) (hv : Cond.static y ∈ jTW) (hw : ∀ U, jNest U → va_Nw (.methodLinkNest own idx y host) U)
    (hR : f + 1 ≤ rm.frames ∧ 8 + (nY + 11) + l ≤ rm.locals) (hstk : stk = As.reverse ++ st) (hn : As.length = n) (hcat : (st.map fun v => v.category).sum ≤ 8) (hd : decode cc pc = .ok (.invokestatic idx, 3))
    (kk : ∀ r, J u x nL Qf (pc + 3) lv (vI r :: st) mem (kP r)) : J u x nL Qf pc lv stk mem (ocP.bind kP) := J_callN G hM hs hv hw hR hstk hn hcat hd kk
theorem J_cVpL (G : jG u x cc own nL ret rm) (hM : jMet u y cY nY rY (jRm f l) (vR (uB u) c :: As) mem (EpL mem) ocP) (hs : jSg y cY nY rY n) (hv : jSgV y) (hw : Cond.methodLink own idx y ∈ jTW) (hC : jCls ci C T N ty) (hkd : kd c = ci) (hyC : y.cls = C)
    (hR : f + 1 ≤ rm.frames ∧ 8 + (nY + 11) + l ≤ rm.locals) (hstk : stk = As.reverse ++ vR (uB u) c :: st) (hn : As.length = n) (hcat : (st.map fun v => v.category).sum ≤ 8) (hd : decode cc pc = .ok (.invokevirtual idx, 3))
    (kk : ∀ r, J u x nL Qf (pc + 3) lv (vL r :: st) mem (kP r)) : J u x nL Qf pc lv stk mem (ocP.bind kP) := J_callV G hM hs hv hw hC hkd hyC hR hstk hn hcat hd kk
theorem J_cSpL (G : jG u x cc own nL ret rm) (hM : jMet u y cY nY rY (jRm f l) As mem (EpL mem) ocP) (hs : jSg y cY nY rY n) (hv : Cond.static y ∈ jTW) (hw : Cond.methodLink own idx y ∈ jTW)
    (hR : f + 1 ≤ rm.frames ∧ 8 + (nY + 11) + l ≤ rm.locals) (hstk : stk = As.reverse ++ st) (hn : As.length = n) (hcat : (st.map fun v => v.category).sum ≤ 8) (hd : decode cc pc = .ok (.invokestatic idx, 3))
    (kk : ∀ r, J u x nL Qf (pc + 3) lv (vL r :: st) mem (kP r)) : J u x nL Qf pc lv stk mem (ocP.bind kP) := J_callS G hM hs hv hw hR hstk hn hcat hd kk
theorem J_cNpL {host : String} (G : jG u x cc own nL ret rm) (hM : jMet u y cY nY rY (jRm f l) As mem (EpL mem) ocP) (hs : jSg y cY nY rY n) (hv : Cond.static y ∈ jTW) (hw : ∀ U, jNest U → va_Nw (.methodLinkNest own idx y host) U)
    (hR : f + 1 ≤ rm.frames ∧ 8 + (nY + 11) + l ≤ rm.locals) (hstk : stk = As.reverse ++ st) (hn : As.length = n) (hcat : (st.map fun v => v.category).sum ≤ 8) (hd : decode cc pc = .ok (.invokestatic idx, 3))
    (kk : ∀ r, J u x nL Qf (pc + 3) lv (vL r :: st) mem (kP r)) : J u x nL Qf pc lv stk mem (ocP.bind kP) := J_callN G hM hs hv hw hR hstk hn hcat hd kk
theorem J_cVwI (G : jG u x cc own nL ret rm) (hM : jMet u y cY nY rY (jRm f l) (vR (uB u) c :: As) mem EwI ocW) (hs : jSg y cY nY rY n) (hv : jSgV y) (hw : Cond.methodLink own idx y ∈ jTW) (hC : jCls ci C T N ty) (hkd : kd c = ci) (hyC : y.cls = C)
    (hR : f + 1 ≤ rm.frames ∧ 8 + (nY + 11) + l ≤ rm.locals) (hstk : stk = As.reverse ++ vR (uB u) c :: st) (hn : As.length = n) (hcat : (st.map fun v => v.category).sum ≤ 8) (hd : decode cc pc = .ok (.invokevirtual idx, 3))
    (kk : ∀ r m, J u x nL Qf (pc + 3) lv (vI r :: st) m (kW r m)) : J u x nL Qf pc lv stk mem (bdI ocW kW) := J_callV G hM hs hv hw hC hkd hyC hR hstk hn hcat hd (fun bb => kk bb.1 bb.2)
theorem J_cSwI (G : jG u x cc own nL ret rm) (hM : jMet u y cY nY rY (jRm f l) As mem EwI ocW) (hs : jSg y cY nY rY n) (hv : Cond.static y ∈ jTW) (hw : Cond.methodLink own idx y ∈ jTW)
    (hR : f + 1 ≤ rm.frames ∧ 8 + (nY + 11) + l ≤ rm.locals) (hstk : stk = As.reverse ++ st) (hn : As.length = n) (hcat : (st.map fun v => v.category).sum ≤ 8) (hd : decode cc pc = .ok (.invokestatic idx, 3))
    (kk : ∀ r m, J u x nL Qf (pc + 3) lv (vI r :: st) m (kW r m)) : J u x nL Qf pc lv stk mem (bdI ocW kW) := J_callS G hM hs hv hw hR hstk hn hcat hd (fun bb => kk bb.1 bb.2)
theorem J_cNwI {host : String} (G : jG u x cc own nL ret rm) (hM : jMet u y cY nY rY (jRm f l) As mem EwI ocW) (hs : jSg y cY nY rY n) (hv : Cond.static y ∈ jTW) (hw : ∀ U, jNest U → va_Nw (.methodLinkNest own idx y host) U)
    (hR : f + 1 ≤ rm.frames ∧ 8 + (nY + 11) + l ≤ rm.locals) (hstk : stk = As.reverse ++ st) (hn : As.length = n) (hcat : (st.map fun v => v.category).sum ≤ 8) (hd : decode cc pc = .ok (.invokestatic idx, 3))
    (kk : ∀ r m, J u x nL Qf (pc + 3) lv (vI r :: st) m (kW r m)) : J u x nL Qf pc lv stk mem (bdI ocW kW) := J_callN G hM hs hv hw hR hstk hn hcat hd (fun bb => kk bb.1 bb.2)
theorem J_cVwL (G : jG u x cc own nL ret rm) (hM : jMet u y cY nY rY (jRm f l) (vR (uB u) c :: As) mem EwL ocW) (hs : jSg y cY nY rY n) (hv : jSgV y) (hw : Cond.methodLink own idx y ∈ jTW) (hC : jCls ci C T N ty) (hkd : kd c = ci) (hyC : y.cls = C)
    (hR : f + 1 ≤ rm.frames ∧ 8 + (nY + 11) + l ≤ rm.locals) (hstk : stk = As.reverse ++ vR (uB u) c :: st) (hn : As.length = n) (hcat : (st.map fun v => v.category).sum ≤ 8) (hd : decode cc pc = .ok (.invokevirtual idx, 3))
    (kk : ∀ r m, J u x nL Qf (pc + 3) lv (vL r :: st) m (kW r m)) : J u x nL Qf pc lv stk mem (bdI ocW kW) := J_callV G hM hs hv hw hC hkd hyC hR hstk hn hcat hd (fun bb => kk bb.1 bb.2)
theorem J_cSwL (G : jG u x cc own nL ret rm) (hM : jMet u y cY nY rY (jRm f l) As mem EwL ocW) (hs : jSg y cY nY rY n) (hv : Cond.static y ∈ jTW) (hw : Cond.methodLink own idx y ∈ jTW)
    (hR : f + 1 ≤ rm.frames ∧ 8 + (nY + 11) + l ≤ rm.locals) (hstk : stk = As.reverse ++ st) (hn : As.length = n) (hcat : (st.map fun v => v.category).sum ≤ 8) (hd : decode cc pc = .ok (.invokestatic idx, 3))
    (kk : ∀ r m, J u x nL Qf (pc + 3) lv (vL r :: st) m (kW r m)) : J u x nL Qf pc lv stk mem (bdI ocW kW) := J_callS G hM hs hv hw hR hstk hn hcat hd (fun bb => kk bb.1 bb.2)
theorem J_cNwL {host : String} (G : jG u x cc own nL ret rm) (hM : jMet u y cY nY rY (jRm f l) As mem EwL ocW) (hs : jSg y cY nY rY n) (hv : Cond.static y ∈ jTW) (hw : ∀ U, jNest U → va_Nw (.methodLinkNest own idx y host) U)
    (hR : f + 1 ≤ rm.frames ∧ 8 + (nY + 11) + l ≤ rm.locals) (hstk : stk = As.reverse ++ st) (hn : As.length = n) (hcat : (st.map fun v => v.category).sum ≤ 8) (hd : decode cc pc = .ok (.invokestatic idx, 3))
    (kk : ∀ r m, J u x nL Qf (pc + 3) lv (vL r :: st) m (kW r m)) : J u x nL Qf pc lv stk mem (bdI ocW kW) := J_callN G hM hs hv hw hR hstk hn hcat hd (fun bb => kk bb.1 bb.2)
theorem J_cVwV (G : jG u x cc own nL ret rm) (hM : jMet u y cY nY rY (jRm f l) (vR (uB u) c :: As) mem EwV ocM) (hs : jSg y cY nY rY n) (hv : jSgV y) (hw : Cond.methodLink own idx y ∈ jTW) (hC : jCls ci C T N ty) (hkd : kd c = ci) (hyC : y.cls = C)
    (hR : f + 1 ≤ rm.frames ∧ 8 + (nY + 11) + l ≤ rm.locals) (hstk : stk = As.reverse ++ vR (uB u) c :: st) (hn : As.length = n) (hcat : (st.map fun v => v.category).sum ≤ 8) (hd : decode cc pc = .ok (.invokevirtual idx, 3))
    (kk : ∀ m, J u x nL Qf (pc + 3) lv st m (kM m)) : J u x nL Qf pc lv stk mem (ocM.bind kM) := J_callV G hM hs hv hw hC hkd hyC hR hstk hn hcat hd kk
theorem J_cSwV (G : jG u x cc own nL ret rm) (hM : jMet u y cY nY rY (jRm f l) As mem EwV ocM) (hs : jSg y cY nY rY n) (hv : Cond.static y ∈ jTW) (hw : Cond.methodLink own idx y ∈ jTW)
    (hR : f + 1 ≤ rm.frames ∧ 8 + (nY + 11) + l ≤ rm.locals) (hstk : stk = As.reverse ++ st) (hn : As.length = n) (hcat : (st.map fun v => v.category).sum ≤ 8) (hd : decode cc pc = .ok (.invokestatic idx, 3))
    (kk : ∀ m, J u x nL Qf (pc + 3) lv st m (kM m)) : J u x nL Qf pc lv stk mem (ocM.bind kM) := J_callS G hM hs hv hw hR hstk hn hcat hd kk
theorem J_cNwV {host : String} (G : jG u x cc own nL ret rm) (hM : jMet u y cY nY rY (jRm f l) As mem EwV ocM) (hs : jSg y cY nY rY n) (hv : Cond.static y ∈ jTW) (hw : ∀ U, jNest U → va_Nw (.methodLinkNest own idx y host) U)
    (hR : f + 1 ≤ rm.frames ∧ 8 + (nY + 11) + l ≤ rm.locals) (hstk : stk = As.reverse ++ st) (hn : As.length = n) (hcat : (st.map fun v => v.category).sum ≤ 8) (hd : decode cc pc = .ok (.invokestatic idx, 3))
    (kk : ∀ m, J u x nL Qf (pc + 3) lv st m (kM m)) : J u x nL Qf pc lv stk mem (ocM.bind kM) := J_callN G hM hs hv hw hR hstk hn hcat hd kk
end JS
end JC
