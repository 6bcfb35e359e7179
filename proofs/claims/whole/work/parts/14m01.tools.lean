/-! pure mathematics over the told programs: tools -/
theorem s32_id {a : Int} (h1 : -2147483648 ≤ a) (h2 : a < 2147483648) : s32 a = a := by
  unfold s32; rw [Int.bmod_eq_of_le] <;> omega
theorem s64_id {a : Int} (h1 : -9223372036854775808 ≤ a) (h2 : a < 9223372036854775808) : s64 a = a := by
  unfold s64; rw [Int.bmod_eq_of_le] <;> omega
theorem ck_id {α : Type} {i : Int} {n : Nat} {k : Option α} (h1 : 0 ≤ i) (h2 : i < (n : Int)) (h3 : i < 2147483648) : ck i n k = k := by
  unfold ck; rw [s32_id (by omega) h3, if_pos ⟨h1, h2⟩]
theorem dv_id {α : Type} {b : Int} {k : Option α} (h : ¬ b = 0) : dv b k = k := by unfold dv; rw [if_neg h]
theorem lt_id {α β : Type} (e : α) (k : α → Option β) : lt e k = k e := Eq.trans rfl rfl
theorem jn_id {γ α : Type} (b : γ) (f : γ → Option α) : jn b f = f b := Eq.trans rfl rfl
theorem bdI_some {α : Type} (r : Int) (m : Mem) (k : Int → Mem → Option α) : bdI (some (r, m)) k = k r m := Eq.trans rfl rfl
theorem ob_some {α β : Type} (a : α) (f : α → Option β) : (some a).bind f = f a := Eq.trans rfl rfl
theorem ob_none {α β : Type} (f : α → Option β) : (none : Option α).bind f = none := Eq.trans rfl rfl
theorem bz_0 {α : Type} (k : Option α) : bz 0 k = k := Eq.trans rfl rfl
theorem bz_1 {α : Type} (k : Option α) : bz 1 k = k := Eq.trans rfl rfl
theorem mset_if (m : Mem) (c : Nat) (i v : Int) (c' : Nat) (i' : Int) : mset m c i v c' i' = if c' = c ∧ i' = i then v else m c' i' := rfl
theorem mset_c (m : Mem) (c : Nat) (i v i' : Int) : mset m c i v c i' = if i' = i then v else m c i' := by simp [mset]
/-- a number of 32 bits -/
def r32 (a : Int) : Prop := -2147483648 ≤ a ∧ a < 2147483648
theorem scI_r32 (xs : Nat → Int32) (i : Int) : r32 (scI xs i) := by
  unfold scI r32
  have h1 := Int32.le_toInt (xs i.toNat)
  have h2 := Int32.toInt_lt (xs i.toNat)
  constructor <;> omega
theorem Mo_in_eq {p0 p1 p2 : Int} {mem : Mem} (h0 : -9223372036854775808 ≤ p0 ∧ p0 < 9223372036854775808) (h1 : -9223372036854775808 ≤ p1 ∧ p1 < 9223372036854775808) (h2 : -9223372036854775808 ≤ p2 ∧ p2 < 9223372036854775808) : Mo_in p0 p1 p2 mem = some (if p1 ≤ p0 ∧ p0 ≤ p2 then 1 else 0) := by
  unfold Mo_in
  rw [s64_id h0.1 h0.2, s64_id h1.1 h1.2, s64_id h2.1 h2.2]
  by_cases a1 : p0 < p1
  · rw [if_pos a1, if_neg (by omega)]
  · rw [if_neg a1]
    by_cases a2 : p2 < p0
    · rw [if_pos a2, if_neg (by omega)]
    · rw [if_neg a2, if_pos (by omega)]
theorem Beam_isPlace_eq {a : Nat} {p0 : Int} {mem : Mem} (hp : r32 p0) (h : r32 (mem a 0)) : Beam_isPlace a p0 mem = some (if 0 ≤ p0 ∧ p0 ≤ mem a 0 then 1 else 0) := by
  obtain ⟨hp1, hp2⟩ := hp
  obtain ⟨h1, h2⟩ := h
  unfold Beam_isPlace
  simp (disch := omega) only [s32_id]
  repeat' split
  all_goals first | rfl | (exfalso; omega) | (congr 1; omega)
theorem Mo_isPlace_eq {p0 : Int} {mem : Mem} (hp : r32 p0) (h : r32 (mem 150 0)) : Mo_isPlace p0 mem = some (if 0 ≤ p0 ∧ p0 ≤ mem 150 0 then 1 else 0) := by
  obtain ⟨hp1, hp2⟩ := hp
  obtain ⟨h1, h2⟩ := h
  unfold Mo_isPlace
  simp (disch := omega) only [s32_id]
  rw [Mo_in_eq (by omega) (by omega) (by omega)]
  by_cases c : 0 ≤ p0 ∧ p0 ≤ mem 150 0 <;> simp [c, bz]
theorem Beam_numberAt_L {a : Nat} {p0 : Int} {mem : Mem} (hp : r32 p0) (hn : 0 ≤ mem a 1 ∧ mem a 1 ≤ 4) (hr : ∀ k, 0 ≤ k → k < mem a 1 → r32 (mem (a + 1) k)) : ∀ (n : Nat) (i : Int), 0 ≤ i → i ≤ mem a 1 → (mem a 1 - i).toNat < n →
    (∃ k, i ≤ k ∧ k < mem a 1 ∧ mem (a + 1) k = p0 ∧ (∀ j, i ≤ j → j < k → mem (a + 1) j ≠ p0) ∧ Beam_numberAt_L2 a p0 mem n i = some k) ∨ ((∀ j, i ≤ j → j < mem a 1 → mem (a + 1) j ≠ p0) ∧ Beam_numberAt_L2 a p0 mem n i = some (-1)) := by
  obtain ⟨hp1, hp2⟩ := hp
  intro n
  induction n with
  | zero => intro i h0 h1 h2; omega
  | succ n ih =>
    intro i h0 h1 h2
    rw [Beam_numberAt_L2]
    simp (disch := omega) only [s32_id]
    by_cases c : mem a 1 ≤ i
    · rw [if_pos c]
      exact Or.inr ⟨fun j hj1 hj2 => by omega, rfl⟩
    · rw [if_neg c]
      obtain ⟨r1, r2⟩ := hr i h0 (by omega)
      simp (disch := omega) only [ck_id, s32_id]
      by_cases e : mem (a + 1) i = p0
      · rw [if_neg (fun z => z e)]
        exact Or.inl ⟨i, by omega, by omega, e, fun j hj1 hj2 => by omega, rfl⟩
      · rw [if_pos e]
        rcases ih (i + 1) (by omega) (by omega) (by omega) with ⟨k, g1, g2, g3, g4, g5⟩ | ⟨g1, g2⟩
        · refine Or.inl ⟨k, by omega, g2, g3, fun j hj1 hj2 => ?_, g5⟩
          by_cases hji : j = i
          · rw [hji]; exact e
          · exact g4 j (by omega) hj2
        · refine Or.inr ⟨fun j hj1 hj2 => ?_, g2⟩
          by_cases hji : j = i
          · rw [hji]; exact e
          · exact g1 j (by omega) hj2
