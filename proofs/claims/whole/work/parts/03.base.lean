/-! J: bytecode of the claim over one memory of whole numbers. Values are whole numbers (Int), told to the machine by Int32.ofInt, Int64.ofInt. -/
def s32 (a : Int) : Int := Int.bmod a 4294967296
def s64 (a : Int) : Int := Int.bmod a 18446744073709551616
def s8 (a : Int) : Int := Int.bmod a 256
def vI (a : Int) : Value := .int (Int32.ofInt a)
def vL (a : Int) : Value := .long (Int64.ofInt a)
def vR (base c : Nat) : Value := .ref (base + c)
abbrev Mem : Type := Nat → Int → Int
def upd (m : Mem) (c : Nat) (i v : Int) : Mem := fun c' i' => if c' = c ∧ i' = i then v else m c' i'
theorem s32_toInt (a : Int) : (Int32.ofInt a).toInt = s32 a := by simp [s32, Int32.size]
theorem s64_toInt (a : Int) : (Int64.ofInt a).toInt = s64 a := by simp [s64, Int64.size]
theorem i32_of (x : Int32) : Int32.ofInt x.toInt = x := Int32.ofInt_toInt x
theorem i64_of (x : Int64) : Int64.ofInt x.toInt = x := Int64.ofInt_toInt x
theorem i32_lt (a b : Int) : Int32.ofInt a < Int32.ofInt b ↔ s32 a < s32 b := by rw [Int32.lt_iff_toInt_lt, s32_toInt, s32_toInt]
theorem i32_le (a b : Int) : Int32.ofInt a ≤ Int32.ofInt b ↔ s32 a ≤ s32 b := by rw [Int32.le_iff_toInt_le, s32_toInt, s32_toInt]
theorem i32_eq (a b : Int) : Int32.ofInt a = Int32.ofInt b ↔ s32 a = s32 b := by rw [← Int32.toInt_inj, s32_toInt, s32_toInt]
theorem i64_lt (a b : Int) : Int64.ofInt a < Int64.ofInt b ↔ s64 a < s64 b := by rw [Int64.lt_iff_toInt_lt, s64_toInt, s64_toInt]
theorem i64_le (a b : Int) : Int64.ofInt a ≤ Int64.ofInt b ↔ s64 a ≤ s64 b := by rw [Int64.le_iff_toInt_le, s64_toInt, s64_toInt]
theorem i64_eq (a b : Int) : Int64.ofInt a = Int64.ofInt b ↔ s64 a = s64 b := by rw [← Int64.toInt_inj, s64_toInt, s64_toInt]
theorem i32_0 : (0 : Int32) = Int32.ofInt 0 := by decide +kernel
theorem s32_0 : s32 0 = 0 := by decide +kernel
theorem i32_lt0 (a : Int) : Int32.ofInt a < 0 ↔ s32 a < 0 := by rw [i32_0, i32_lt, s32_0]
theorem i32_0le (a : Int) : 0 ≤ Int32.ofInt a ↔ 0 ≤ s32 a := by rw [i32_0, i32_le, s32_0]
theorem i32_le0 (a : Int) : Int32.ofInt a ≤ 0 ↔ s32 a ≤ 0 := by rw [i32_0, i32_le, s32_0]
theorem i32_0lt (a : Int) : 0 < Int32.ofInt a ↔ 0 < s32 a := by rw [i32_0, i32_lt, s32_0]
theorem i32_eq0 (a : Int) : Int32.ofInt a = 0 ↔ s32 a = 0 := by rw [i32_0, i32_eq, s32_0]
theorem s64_0 : s64 0 = 0 := by decide +kernel
theorem i64_eq0 (a : Int) : Int64.ofInt a = 0 ↔ s64 a = 0 := by rw [show (0 : Int64) = Int64.ofInt 0 by decide +kernel, i64_eq, s64_0]
theorem i32_clamp (a : Int) : (Int32.ofInt a).toNatClampNeg = (s32 a).toNat := by rw [← s32_toInt]; rfl
theorem i32_i2l (a : Int) : (Int32.ofInt a).toInt64 = Int64.ofInt (s32 a) := by
  rw [← s32_toInt, ← Int64.toInt_inj, Int32.toInt_toInt64, Int64.toInt_ofInt]
  have h1 := Int32.le_toInt (Int32.ofInt a)
  have h2 := Int32.toInt_lt (Int32.ofInt a)
  rw [Int.bmod_eq_of_le] <;> simp only [Int64.size] <;> omega
theorem i32_div (a b : Int) : Int32.ofInt a / Int32.ofInt b = Int32.ofInt ((s32 a).tdiv (s32 b)) := by
  rw [← Int32.toInt_inj, Int32.toInt_div, Int32.toInt_ofInt, s32_toInt, s32_toInt]
theorem i32_rem (a b : Int) : Int32.ofInt a % Int32.ofInt b = Int32.ofInt ((s32 a).tmod (s32 b)) := by
  rw [← Int32.toInt_inj, Int32.toInt_mod, s32_toInt, s32_toInt, Int32.toInt_ofInt]
  have h1 := Int32.le_toInt (Int32.ofInt a % Int32.ofInt b)
  have h2 := Int32.toInt_lt (Int32.ofInt a % Int32.ofInt b)
  rw [Int32.toInt_mod, s32_toInt, s32_toInt] at h1 h2
  rw [Int.bmod_eq_of_le] <;> simp only [Int32.size] <;> omega
theorem i64_div (a b : Int) : Int64.ofInt a / Int64.ofInt b = Int64.ofInt ((s64 a).tdiv (s64 b)) := by
  rw [← Int64.toInt_inj, Int64.toInt_div, Int64.toInt_ofInt, s64_toInt, s64_toInt]
theorem i64_rem (a b : Int) : Int64.ofInt a % Int64.ofInt b = Int64.ofInt ((s64 a).tmod (s64 b)) := by
  rw [← Int64.toInt_inj, Int64.toInt_mod, s64_toInt, s64_toInt, Int64.toInt_ofInt]
  have h1 := Int64.le_toInt (Int64.ofInt a % Int64.ofInt b)
  have h2 := Int64.toInt_lt (Int64.ofInt a % Int64.ofInt b)
  rw [Int64.toInt_mod, s64_toInt, s64_toInt] at h1 h2
  rw [Int.bmod_eq_of_le] <;> simp only [Int64.size] <;> omega
theorem i32_i2b (a : Int) : (Int32.ofInt a).toInt8.toInt32 = Int32.ofInt (s8 a) := by
  rw [Int32.toInt8_ofInt, ← Int32.toInt_inj, Int8.toInt_toInt32, Int8.toInt_ofInt, Int32.toInt_ofInt]
  have h1 := Int.bmod_lt (x := a) (m := 256) (by decide)
  have h2 := Int.le_bmod (x := a) (m := 256) (by decide)
  show Int.bmod a 256 = Int.bmod (s8 a) _
  unfold s8
  rw [Int.bmod_eq_of_le (n := Int.bmod a 256)] <;> simp only [Int32.size] <;> omega
/-! combinators of the told programs -/
def ck {α : Type} (i : Int) (n : Nat) (k : Option α) : Option α := if 0 ≤ s32 i ∧ s32 i < (n : Int) then k else none
def dv {α : Type} (b : Int) (k : Option α) : Option α := if b = 0 then none else k
def lt {α β : Type} (e : α) (k : α → Option β) : Option β := k e
def jn {γ α : Type} (b : γ) (f : γ → Option α) : Option α := f b

/-! the cells: their kinds and lengths, in the order in which the constructors make them -/
def jKinds : List Nat := [8, 0, 20, 20, 20, 20, 20, 20, 20, 20, 1, 24, 0, 20, 20, 20, 20, 20, 20, 20, 20, 0, 20, 20, 20, 20, 20, 20, 20, 20, 0, 20, 20, 20, 20, 20, 20, 20, 20, 0, 20, 20, 20, 20, 20, 20, 20, 20, 0, 20, 20, 20, 20, 20, 20, 20, 20, 0, 20, 20, 20, 20, 20, 20, 20, 20, 0, 20, 20, 20, 20, 20, 20, 20, 20, 0, 20, 20, 20, 20, 20, 20, 20, 20, 0, 20, 20, 20, 20, 20, 20, 20, 20, 0, 20, 20, 20, 20, 20, 20, 20, 20, 0, 20, 20, 20, 20, 20, 20, 20, 20, 7, 20, 20, 21, 21, 21, 21, 21, 21, 4, 2, 2, 4, 2, 2, 21, 2, 2, 2, 2, 5, 0, 20, 20, 20, 20, 20, 20, 20, 20, 22, 20, 3, 22, 22, 6, 20, 21, 9, 20, 20, 20, 21, 21, 21, 21, 21, 21, 21, 20, 20, 23, 20, 20, 20, 20, 20, 21, 20]
def jLens : List Nat := [0, 0, 4, 4, 6, 6, 6, 6, 3, 3, 0, 10, 0, 4, 4, 6, 6, 6, 6, 3, 3, 0, 4, 4, 6, 6, 6, 6, 3, 3, 0, 4, 4, 6, 6, 6, 6, 3, 3, 0, 4, 4, 6, 6, 6, 6, 3, 3, 0, 4, 4, 6, 6, 6, 6, 3, 3, 0, 4, 4, 6, 6, 6, 6, 3, 3, 0, 4, 4, 6, 6, 6, 6, 3, 3, 0, 4, 4, 6, 6, 6, 6, 3, 3, 0, 4, 4, 6, 6, 6, 6, 3, 3, 0, 4, 4, 6, 6, 6, 6, 3, 3, 0, 4, 4, 6, 6, 6, 6, 3, 3, 0, 4, 4, 11, 11, 4, 11, 11, 11, 0, 0, 0, 0, 0, 0, 4, 0, 0, 0, 0, 0, 0, 4, 4, 6, 6, 6, 6, 3, 3, 120, 3, 0, 1000, 20, 0, 3, 72, 0, 36, 36, 360, 4, 4, 2, 2, 4, 4, 11, 36, 120, 31, 7, 6, 3, 360, 1000, 72, 3]
def kd (c : Nat) : Nat := jKinds.getD c 99
def ln (c : Nat) : Nat := jLens.getD c 0
abbrev jN : Nat := 170
/-- a field by class and number: 0 int, 1 long, 2 a reference; and how far behind the object its cell is -/
def jFields : List (List (Nat × Nat)) := [[(0, 0), (0, 0), (2, 1), (2, 2), (0, 0), (2, 3), (2, 4), (2, 5), (2, 6), (0, 0), (2, 7), (2, 8)],
  [(0, 0), (0, 0), (2, 1)],
  [(1, 0), (1, 0)],
  [(0, 0), (2, 1), (2, 2)],
  [(2, 1), (2, 2), (0, 0), (0, 0)],
  [(0, 0), (2, 1), (2, 10), (0, 0), (0, 0), (2, 11)],
  [(2, 1), (2, 2)],
  [(0, 0), (0, 0), (2, 1), (2, 2), (2, 3), (2, 4), (1, 0), (2, 5), (2, 6), (2, 7), (1, 0), (2, 8), (2, 9), (2, 12), (1, 0), (2, 15), (2, 16), (2, 17)],
  [(2, 1), (2, 10), (2, 102), (0, 0), (2, 111), (2, 129), (2, 130), (2, 131), (2, 143), (2, 146)],
  [(2, 1), (2, 2), (0, 0), (2, 3), (0, 0), (1, 0), (1, 0), (2, 4), (2, 5), (2, 6), (2, 7), (2, 8), (2, 9), (1, 0), (2, 10), (1, 0), (1, 0), (1, 0), (1, 0), (1, 0), (1, 0), (2, 11), (2, 12), (0, 0), (2, 13), (2, 14), (2, 15), (2, 16), (0, 0), (0, 0), (2, 17), (2, 18), (0, 0), (2, 19), (2, 20)]]
def fld (ci k : Nat) : Nat × Nat := (jFields.getD ci []).getD k (0, 0)
def fv (base : Nat) (mem : Mem) (c : Nat) (k : Nat) (q : Nat × Nat) : Value := if q.1 = 0 then vI (mem c k) else if q.1 = 1 then vL (mem c k) else vR base (c + q.2)
/-- the array classes of the run: bytes, chars, ints, longs, beams -/
abbrev jCy : Type := ClassId × ClassId × ClassId × ClassId × ClassId
def cellE (cy : jCy) (base : Nat) (mem : Mem) (c : Nat) : va_E :=
  if kd c < 10 then .inr (kd c, (jFields.getD (kd c) []).mapIdx (fv base mem c))
  else if kd c = 20 then .inl (cy.2.2.1, ln c, .inl (fun i => Int32.ofInt (mem c i)))
  else if kd c = 21 then .inl (cy.2.2.2.1, ln c, .inr (.inl (fun i => Int64.ofInt (mem c i))))
  else if kd c = 22 then .inl (cy.1, ln c, .inl (fun i => Int32.ofInt (mem c i)))
  else if kd c = 23 then .inl (cy.2.1, ln c, .inl (fun i => Int32.ofInt (mem c i)))
  else .inl (cy.2.2.2.2, ln c, .inr (.inr (.inr (.inr (fun i => some (base + (c + 1 + 9 * i)))))))
def vws (cy : jCy) (base : Nat) (mem : Mem) : va_W := (List.range jN).map (fun c => (base + c, cellE cy base mem c))
def jtys (cy : jCy) : List (ClassId × FieldType) := [(cy.1, .byte), (cy.2.1, .char), (cy.2.2.1, .int), (cy.2.2.2.1, .long), (cy.2.2.2.2, .object "BeamPieces$Beam")]
def jA (base : Nat) : Nat → Prop := fun q => base ≤ q
theorem vws_at (cy : jCy) (base : Nat) (mem : Mem) {c : Nat} (h : c < jN) : (vws cy base mem)[c]? = some (base + c, cellE cy base mem c) := by
  unfold vws
  rw [List.getElem?_map, List.getElem?_range h]
  rfl
theorem vws_lt {cy : jCy} {base : Nat} {mem : Mem} {c : Nat} {q : Nat × va_E} (h : (vws cy base mem)[c]? = some q) : c < jN ∧ q = (base + c, cellE cy base mem c) := by
  have h1 : c < (vws cy base mem).length := (List.getElem?_eq_some_iff.mp h).1
  have h2 : c < jN := by simpa [vws] using h1
  rw [vws_at cy base mem h2] at h
  exact ⟨h2, (Option.some.inj h).symm⟩
theorem vws_D (cy : jCy) (base : Nat) (mem : Mem) : va_D (jA base) (vws cy base mem) := by
  refine ⟨fun i j p q hi hj h => ?_, fun k q hk => ?_⟩
  · obtain ⟨-, e1⟩ := vws_lt hi
    obtain ⟨-, e2⟩ := vws_lt hj
    rw [e1, e2] at h
    have : base + i = base + j := h
    omega
  · obtain ⟨-, e1⟩ := vws_lt hk
    rw [e1]
    exact Nat.le_add_right _ _
theorem vws_set {cy : jCy} {base : Nat} {mem mem' : Mem} {c : Nat} (hc : c < jN) (h : ∀ c', c' ≠ c → cellE cy base mem' c' = cellE cy base mem c') : (vws cy base mem).set c (base + c, cellE cy base mem' c) = vws cy base mem' := by
  apply List.ext_getElem?
  intro k
  by_cases hk : k = c
  · subst hk
    rw [List.getElem?_set_self (by simpa [vws] using hc), vws_at _ _ _ hc]
  · rw [List.getElem?_set_ne (Ne.symm hk)]
    by_cases hl : k < jN
    · rw [vws_at _ _ _ hl, vws_at _ _ _ hl, h k hk]
    · rw [List.getElem?_eq_none (by simpa [vws] using Nat.le_of_not_lt hl), List.getElem?_eq_none (by simpa [vws] using Nat.le_of_not_lt hl)]
theorem kd_lt {c k : Nat} (h : kd c = k) (hk : k ≠ 99) : c < jN := by
  by_cases hc : c < jN
  · exact hc
  · exfalso
    have h1 : jKinds.length ≤ c := Nat.le_trans (by decide) (Nat.le_of_not_lt hc)
    have h2 : kd c = 99 := by
      unfold kd
      rw [List.getD_eq_getElem?_getD, List.getElem?_eq_none h1]
      rfl
    exact hk (h.symm.trans h2)
theorem upd_self (m : Mem) (c : Nat) (i v : Int) : upd m c i v c i = v := by simp [upd]
theorem upd_ne (m : Mem) (c : Nat) (i v : Int) {c' : Nat} (h : c' ≠ c) : upd m c i v c' = m c' := by funext i'; simp [upd, h]
theorem cellE_congr {cy : jCy} {base : Nat} {mem mem' : Mem} {c : Nat} (h : mem' c = mem c) : cellE cy base mem' c = cellE cy base mem c := by
  unfold cellE fv
  rw [h]
