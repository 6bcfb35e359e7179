/-! heavier, axle, unhitch, hinge -/
theorem numberAt_eq {m : Mem} {a : Nat} {A : Int → Int} (v : VA A) (h : RB m a A) {x : Int} (hx : r32 x) : (∃ k, 0 ≤ k ∧ k < A 1 ∧ aT A k = x ∧ Beam_numberAt a x m = some k) ∨ ((∀ k, 0 ≤ k → k < A 1 → ¬ aT A k = x) ∧ Beam_numberAt a x m = some (-1)) := by
  have n4 := v.2.1
  have l10 := v.1
  have h1 := h.2.1
  have h5 := h.2.2.2.2.1
  unfold Beam_numberAt
  rcases Beam_numberAt_L (a := a) (mem := m) hx (by omega) (fun k k0 k1 => by rw [(h5 k k0 (by omega)).1]; have := VA_at v k0 (show k < A 1 by omega); exact r32_of (by unfold aT at this; omega)) 2000 0 (by omega) (by omega) (by omega) with ⟨k, g1, g2, g3, g4, g5⟩ | ⟨g1, g2⟩
  · exact Or.inl ⟨k, g1, by omega, by rw [← g3]; exact (h5 k g1 (by omega)).1.symm, g5⟩
  · exact Or.inr ⟨fun k k0 k1 z => g1 k k0 (by omega) (by rw [← z]; exact (h5 k k0 k1).1), g2⟩
theorem supportAt_eq {m : Mem} {A : Int → Int} (v : VA A) (hA : m 150 = A) {x : Int} (hx : r32 x) : (∃ k, 0 ≤ k ∧ k < A 1 ∧ aT A k = x ∧ Mo_supportAt x m = some k) ∨ ((∀ k, 0 ≤ k → k < A 1 → ¬ aT A k = x) ∧ Mo_supportAt x m = some (-1)) := by
  have n4 := v.2.1
  have l10 := v.1
  obtain ⟨hx1, hx2⟩ := hx
  have key : ∀ (n : Nat) (i : Int), 0 ≤ i → i ≤ A 1 → (A 1 - i).toNat < n → (∃ k, i ≤ k ∧ k < A 1 ∧ aT A k = x ∧ Mo_supportAt_L2 x m n i = some k) ∨ ((∀ k, i ≤ k → k < A 1 → ¬ aT A k = x) ∧ Mo_supportAt_L2 x m n i = some (-1)) := by
    intro n
    induction n with
    | zero => intro i h0 h1 h2; omega
    | succ n ih =>
      intro i h0 h1 h2
      rw [Mo_supportAt_L2, hA, s32_id (a := A 1) (by omega) (by omega), s32_id (a := i) (by omega) (by omega)]
      by_cases c : A 1 ≤ i
      · rw [if_pos c]
        exact Or.inr ⟨fun k k0 k1 => by omega, rfl⟩
      · have t := VA_at v h0 (show i < A 1 by omega)
        rw [if_neg c, ck_id (by omega) (by omega) (by omega), s32_id (a := 2 + i) (by omega) (by omega), show A (2 + i) = aT A i from rfl, s32_id (a := aT A i) (by omega) (by omega), s32_id (a := x) (by omega) (by omega)]
        by_cases e : aT A i = x
        · rw [if_neg (fun z => z e)]
          exact Or.inl ⟨i, by omega, by omega, e, rfl⟩
        · rw [if_pos e]
          rcases ih (i + 1) (by omega) (by omega) (by omega) with ⟨k, g1, g2, g3, g4⟩ | ⟨g1, g2⟩
          · exact Or.inl ⟨k, by omega, g2, g3, g4⟩
          · refine Or.inr ⟨fun k k0 k1 => ?_, g2⟩
            by_cases f : k = i
            · rw [f]; exact e
            · exact g1 k (by omega) k1
  unfold Mo_supportAt
  exact key 2000 0 (by omega) (by omega) (by omega)
theorem at_unique {A : Int → Int} (v : VA A) {j k : Int} (j0 : 0 ≤ j) (j1 : j < A 1) (k0 : 0 ≤ k) (k1 : k < A 1) (h : aT A j = aT A k) : j = k := by
  by_cases c : j < k
  · have := VA_lt2 v j0 c k1; omega
  · by_cases d : k < j
    · have := VA_lt2 v k0 d j1; omega
    · omega
theorem edit_one {mem m2 : Mem} (R : Rel mem) (C : CHist m2 (kh (mem 149 4)) (kH (mem 150) (mem 149 4) (mH mem))) (f2 : ∀ c i, ¬ (10 ≤ c ∧ c ≤ 101) → m2 c i = mem c i) {c0 : Nat} {i0 w0 j0 w1 : Int} (hc : 1 ≤ c0 ∧ c0 ≤ 9) (hB : RB (mset m2 c0 i0 w0) 1 (setA (mem 150) j0 w1)) (vB : VA (setA (mem 150) j0 w1)) : ∃ m4, Mo_changes (mset m2 c0 i0 w0) = some m4 ∧ Rel (mset m4 150 j0 w1) ∧ m4 150 = mem 150 := by
  have hA : mset m2 c0 i0 w0 150 = mem 150 := by funext i; rw [mset_if, if_neg (by omega), f2 150 i (by omega)]
  have h4 : mset m2 c0 i0 w0 149 4 = mem 149 4 := by rw [mset_if, if_neg (by omega), f2 _ _ (by omega)]
  obtain ⟨m4, e4, a4, b4, g4⟩ := changes_eq h4 (Rel_hist R).1
  have hA4 : m4 150 = mem 150 := by rw [← hA]; funext i; exact g4 150 i (by decide) (by omega)
  have hN : mset m4 150 j0 w1 150 = setA (mem 150) j0 w1 := by
    funext i
    rw [mset_c, hA4]
    rfl
  refine ⟨m4, e4, ?_, hA4⟩
  refine Rel_both (mc := mset m2 c0 i0 w0) R C f2 (fun c i hc' => by rw [mset_if, if_neg (by omega)]) (by rw [hN]; exact hB) (by rw [hN]; exact vB) (by rw [mset_if, if_neg (by omega)]; exact a4) (fun k i k0 k1 x0 x1 => ?_) (fun c i hc' => by rw [mset_if, if_neg (by omega), g4 c i (by omega) (by omega)])
  have := b4 k i k0 k1 x0 x1
  rw [hA] at this
  unfold mH at this ⊢
  rw [mset_if, if_neg (by omega)]
  exact this
theorem Mo_isLoad_A {p0 : Int} {m mem : Mem} (hA : m 150 = mem 150) (hp : r32 p0) (h : 0 ≤ mem 150 10 ∧ mem 150 10 ≤ 6) : Mo_isLoad p0 m = some (if 0 ≤ p0 ∧ p0 < mem 150 10 then 1 else 0) := by
  rw [Mo_isLoad_eq hp (by rw [hA]; exact h), hA]
theorem ok_heavier (a : Int) (b : Int) (ha : r32 a) (hb : r32 b) : OkM (BP_heavier a b) (Mo_heavier a b) s32 := by
  intro mem R
  have R0 := R
  obtain ⟨⟨v, rb⟩, -⟩ := R0
  have n4 := v.2.1
  have v4 := v.2.2.2.1
  have v3 := v.2.2.1
  have b3 := rb.2.2.1
  obtain ⟨ha1, ha2⟩ := ha
  obtain ⟨hb1, hb2⟩ := hb
  unfold BP_heavier Mo_heavier
  rw [Beam_isLoad_eq ⟨ha1, ha2⟩ (by omega), b3, ob_some, isV_eq ⟨hb1, hb2⟩, ob_some]
  by_cases h1 : 0 ≤ a ∧ a < mem 150 10
  · rw [if_pos h1, s32_1, if_1']
    by_cases h2 : -9 ≤ b ∧ b ≤ 9
    · rw [if_pos h2, s32_1, if_1]
      obtain ⟨m2, e2, C, b2, f2⟩ := keepR R
      have w6 := b2.2.2.2.2.2.1 a h1.1 h1.2
      simp only [Nat.reduceAdd] at w6
      have vB : VA (setA (mem 150) (23 + a) b) := by
        obtain ⟨v1, v2, v3', v4, v5, v6, v7, v8⟩ := v
        have s : ∀ i, i < 23 ∨ 29 ≤ i → setA (mem 150) (23 + a) b i = mem 150 i := fun i hi => setA_ne (by omega)
        refine ⟨by rw [s 0 (by omega)]; exact v1, by rw [s 1 (by omega)]; exact v2, by rw [s 10 (by omega)]; exact v3', by rw [s 29 (by omega)]; exact v4, fun k k0 k1 => ?_, fun k k0 k1 => ?_, fun k k0 k1 => ?_, fun k k0 k1 => ?_⟩
        · rw [s 1 (by omega)] at k1
          rw [s (2 + k) (by omega), s (6 + k) (by omega), s 0 (by omega)]; exact v5 k k0 k1
        · rw [s 1 (by omega)] at k1
          rw [s (2 + k) (by omega), s (2 + (k + 1)) (by omega)]; exact v6 k k0 k1
        · rw [s 10 (by omega)] at k1
          rw [s (11 + k) (by omega), s (17 + k) (by omega), s 0 (by omega)]
          have w := v7 k k0 k1
          by_cases c : k = a
          · rw [c, setA_at]; rw [c] at w; exact ⟨w.1, w.2.1, w.2.2.1, h2.1, h2.2⟩
          · rw [setA_ne (by omega)]; exact w
        · rw [s 29 (by omega)] at k1
          rw [s (30 + k) (by omega), s (33 + k) (by omega)]; exact v8 k k0 k1
      have hB : RB (mset m2 6 a b) 1 (setA (mem 150) (23 + a) b) := by
        obtain ⟨q1, q2, q3, q4, q5, q6, q7⟩ := b2
        simp only [Nat.reduceAdd] at q5 q6 q7
        have s : ∀ i, i < 23 ∨ 29 ≤ i → setA (mem 150) (23 + a) b i = mem 150 i := fun i hi => setA_ne (by omega)
        refine ⟨by rw [s 0 (by omega), mset_if, if_neg (by omega)]; exact q1, by rw [s 1 (by omega), mset_if, if_neg (by omega)]; exact q2, by rw [s 10 (by omega), mset_if, if_neg (by omega)]; exact q3, by rw [s 29 (by omega), mset_if, if_neg (by omega)]; exact q4, fun k k0 k1 => ?_, fun k k0 k1 => ?_, fun k k0 k1 => ?_⟩
        · rw [s 1 (by omega)] at k1
          rw [s (2 + k) (by omega), s (6 + k) (by omega), mset_if, if_neg (by omega), mset_if, if_neg (by omega)]; exact q5 k k0 k1
        · rw [s 10 (by omega)] at k1
          have w := q6 k k0 k1
          rw [s (11 + k) (by omega), s (17 + k) (by omega)]
          simp only [Nat.reduceAdd]
          refine ⟨by rw [mset_if, if_neg (by omega)]; exact w.1, by rw [mset_if, if_neg (by omega)]; exact w.2.1, ?_, by rw [mset_if, if_neg (by omega)]; exact w.2.2.2⟩
          rw [mset_c]
          by_cases c : k = a
          · rw [if_pos c, c, setA_at]
          · rw [if_neg c, setA_ne (by omega)]; exact w.2.2.1
        · rw [s 29 (by omega)] at k1
          rw [s (30 + k) (by omega), s (33 + k) (by omega), mset_if, if_neg (by omega), mset_if, if_neg (by omega)]; exact q7 k k0 k1
      obtain ⟨m4, e4, Rm, hA4⟩ := edit_one R C f2 (by omega) hB vB
      have hA : mset m2 6 a b 150 = mem 150 := by funext i; rw [mset_if, if_neg (by omega), f2 150 i (by omega)]
      refine ⟨m2 6 a, mset m2 6 a b, mem 150 (23 + a), mset m4 150 (23 + a) b, ?_, ?_, by rw [w6.2.2.1], Rm⟩
      · rw [e2, ob_some, ck_id h1.1 (by omega) (by omega), s32_id (a := a) (by omega) (by omega), lt_id, ck_id h1.1 (by omega) (by omega), lt_id]
      · rw [Mo_isLoad_A hA ⟨ha1, ha2⟩ v3, ob_some, if_pos h1, s32_1, if_1', s32_id (a := b) (by omega) (by omega), Mo_in_eq (by omega) (by omega) (by omega), ob_some, if_pos h2, s32_1, if_1, ck_id (by omega) (by omega) (by omega), s32_id (a := 23 + a) (by omega) (by omega), hA, lt_id, e4, ob_some, ck_id (by omega) (by omega) (by omega), lt_id]
    · rw [if_neg h2, s32_0, if_0]
      refine ⟨_, mem, _, mem, rfl, ?_, rfl, R⟩
      rw [Mo_isLoad_A rfl ⟨ha1, ha2⟩ v3, ob_some, if_pos h1, s32_1, if_1', s32_id (a := b) (by omega) (by omega), Mo_in_eq (by omega) (by omega) (by omega), ob_some, if_neg h2, s32_0, if_0]
  · rw [if_neg h1, s32_0, if_0']
    refine ⟨_, mem, _, mem, rfl, ?_, rfl, R⟩
    rw [Mo_isLoad_A rfl ⟨ha1, ha2⟩ v3, ob_some, if_neg h1, s32_0, if_0']
theorem ok_unhitch : OkM BP_unhitch Mo_unhitch s32 := by
  intro mem R
  have R0 := R
  obtain ⟨⟨v, rb⟩, -⟩ := R0
  obtain ⟨m2, e2, C, b2, f2⟩ := keepR R
  have q4 := b2.2.2.2.1
  have s : ∀ i, ¬ i = 29 → setA (mem 150) 29 0 i = mem 150 i := fun i hi => setA_ne hi
  have vB : VA (setA (mem 150) 29 0) := by
    obtain ⟨v1, v2, v3', v4, v5, v6, v7, v8⟩ := v
    refine ⟨by rw [s 0 (by omega)]; exact v1, by rw [s 1 (by omega)]; exact v2, by rw [s 10 (by omega)]; exact v3', by rw [setA_at]; omega, fun k k0 k1 => ?_, fun k k0 k1 => ?_, fun k k0 k1 => ?_, fun k k0 k1 => ?_⟩
    · rw [s 1 (by omega)] at k1
      rw [s (2 + k) (by omega), s (6 + k) (by omega), s 0 (by omega)]; exact v5 k k0 k1
    · rw [s 1 (by omega)] at k1
      rw [s (2 + k) (by omega), s (2 + (k + 1)) (by omega)]; exact v6 k k0 k1
    · rw [s 10 (by omega)] at k1
      rw [s (11 + k) (by omega), s (17 + k) (by omega), s (23 + k) (by omega), s 0 (by omega)]; exact v7 k k0 k1
    · rw [setA_at] at k1; omega
  have hB : RB (mset m2 1 9 0) 1 (setA (mem 150) 29 0) := by
    obtain ⟨v1, v2, v3', v4, v5, v6, v7, v8⟩ := v
    obtain ⟨q1, q2, q3, q4, q5, q6, q7⟩ := b2
    refine ⟨by rw [s 0 (by omega), mset_if, if_neg (by omega)]; exact q1, by rw [s 1 (by omega), mset_if, if_neg (by omega)]; exact q2, by rw [s 10 (by omega), mset_if, if_neg (by omega)]; exact q3, by rw [setA_at, mset_here], fun k k0 k1 => ?_, fun k k0 k1 => ?_, fun k k0 k1 => ?_⟩
    · rw [s 1 (by omega)] at k1
      rw [s (2 + k) (by omega), s (6 + k) (by omega), mset_if, if_neg (by omega), mset_if, if_neg (by omega)]; exact q5 k k0 k1
    · rw [s 10 (by omega)] at k1
      rw [s (11 + k) (by omega), s (17 + k) (by omega), s (23 + k) (by omega), mset_if, if_neg (by omega), mset_if, if_neg (by omega), mset_if, if_neg (by omega), mset_if, if_neg (by omega)]; exact q6 k k0 k1
    · rw [setA_at] at k1; omega
  obtain ⟨m4, e4, Rm, hA4⟩ := edit_one R C f2 (by omega) hB vB
  have hA : mset m2 1 9 0 150 29 = mem 150 29 := by rw [mset_if, if_neg (by omega), f2 150 29 (by omega)]
  refine ⟨m2 1 9, mset m2 1 9 0, mem 150 29, mset m4 150 29 0, ?_, ?_, by rw [q4], Rm⟩
  · unfold BP_unhitch
    rw [e2, ob_some, lt_id, lt_id]
  · unfold Mo_unhitch
    rw [hA, lt_id, e4, ob_some, lt_id]
