/-! the model's sums over loads -/
theorem isum_lsum (A : Int → Int) (f : Int → Int → Int) : ∀ n : Nat, isum (fun i => A (23 + i) * f (A (11 + i)) (A (17 + i))) 0 n = lsum A f n := by
  intro n
  induction n with
  | zero => rfl
  | succ n ih => rw [isum_last, ih, Int.zero_add]; rfl
theorem Mo_more_eq {a b : Int} {m : Mem} (ha : r32 a) (hb : r32 b) : Mo_more a b m = some (moreI a b) := by
  unfold Mo_more moreI
  rw [s32_id ha.1 ha.2, s32_id hb.1 hb.2]
  split <;> rfl
theorem Mo_less_eq {a b : Int} {m : Mem} (ha : r32 a) (hb : r32 b) : Mo_less a b m = some (lessI a b) := by
  unfold Mo_less lessI
  rw [s32_id ha.1 ha.2, s32_id hb.1 hb.2]
  split <;> rfl
theorem moreI_b {a b B : Int} (ha : 0 ≤ a ∧ a ≤ B) (hb : b ≤ B) : 0 ≤ moreI a b ∧ moreI a b ≤ B := by unfold moreI; split <;> omega
theorem lessI_b {a b B : Int} (ha : 0 ≤ a ∧ a ≤ B) (hb : 0 ≤ b) : 0 ≤ lessI a b ∧ lessI a b ≤ B := by unfold lessI; split <;> omega
theorem load_b {A : Int → Int} (v : VA A) {i : Int} (h0 : 0 ≤ i) (h1 : i < A 10) : 0 ≤ A (11 + i) ∧ A (11 + i) ≤ A (17 + i) ∧ A (17 + i) ≤ 10 ∧ -9 ≤ A (23 + i) ∧ A (23 + i) ≤ 9 ∧ i < 6 := by
  obtain ⟨v1, v2, v3, v4, v5, v6, v7, v8⟩ := v
  have := v7 i h0 h1
  omega
theorem Mo_isSpread_eq {A : Int → Int} (v : VA A) {m : Mem} (hA : m 150 = A) {i : Int} (h0 : 0 ≤ i) (h1 : i < A 10) : Mo_isSpread i m = some (if A (11 + i) < A (17 + i) then 1 else 0) := by
  obtain ⟨b1, b2, b3, b4, b5, b6⟩ := load_b v h0 h1
  unfold Mo_isSpread
  rw [hA]
  simp (disch := omega) only [s32_id, ck_id]
  by_cases c : A (11 + i) < A (17 + i)
  · rw [if_pos c, if_neg (by omega)]
  · rw [if_neg c, if_pos (by omega)]
theorem r32_of {x : Int} (h : -1000000 ≤ x ∧ x ≤ 1000000) : r32 x := ⟨by omega, by omega⟩
theorem lsumLoop {A : Int → Int} (v : VA A) {α : Type} (F : Nat → Int → Int → Option α) (f : Int → Int → Int) (k : Int → Option α) (h1 : ∀ n a, F (n + 1) a (A 10) = k a) (h2 : ∀ n a i, 0 ≤ i → i < A 10 → F (n + 1) a i = F n (a + A (23 + i) * f (A (11 + i)) (A (17 + i))) (i + 1)) (a : Int) : F 2000 a 0 = k (a + ZS A f) := by
  have := v.2.2.1
  rw [loopA F (A 10) (fun i => A (23 + i) * f (A (11 + i)) (A (17 + i))) k h1 0 h2 (A 10).toNat 2000 a 0 (by omega) (by omega) (by omega), isum_lsum]
  rfl
theorem sums_eq {A : Int → Int} (v : VA A) {m : Mem} (hA : m 150 = A) {a b r : Int} (ha : 0 ≤ a ∧ a ≤ 10) (hb : 0 ≤ b ∧ b ≤ 10) (hr : r = 0 ∨ r = 1) : Mo_sums a b r m = some (ZS A (sF a b r)) := by
  have v3 := v.2.2.1
  unfold Mo_sums
  rw [lt_id, s32_id (by omega) (by omega)]
  rw [lsumLoop v (fun n s i => Mo_sums_L12 a b r m (b - a) n s i) (sF a b r) some
    (fun n s => by
      show Mo_sums_L12 a b r m (b - a) (n + 1) s (A 10) = some s
      rw [Mo_sums_L12, hA, if_pos (by omega)])
    (fun n s i h0 h1 => by
      show Mo_sums_L12 a b r m (b - a) (n + 1) s i = Mo_sums_L12 a b r m (b - a) n (s + _) (i + 1)
      obtain ⟨b1, b2, b3, b4, b5, b6⟩ := load_b v h0 h1
      rw [Mo_sums_L12, Mo_isSpread_eq v hA h0 h1, hA]
      simp (disch := omega) only [s32_id, ck_id, lt_id, jn_id, ob_some]
      rw [if_neg (by omega)]
      generalize A (11 + i) = x at *
      generalize A (17 + i) = y at *
      generalize A (23 + i) = w at *
      rw [Mo_more_eq (r32_of (by omega)) (r32_of (by omega)), ob_some, Mo_less_eq (r32_of (by omega)) (r32_of (by omega)), ob_some]
      have mb := moreI_b (a := x) (b := a) (B := 10) (by omega) (by omega)
      have lb := lessI_b (a := y) (b := b) (B := 10) (by omega) (by omega)
      unfold sF
      generalize moreI x a = mo at *
      generalize lessI y b = lo at *
      simp (disch := omega) only [s32_id]
      rcases hr with rfl | rfl
      · simp only [if_0', if_0, if_1, if_1', ↓reduceIte, not_true_eq_false, not_false_eq_true]
        by_cases c : x < y
        · simp only [if_pos c, s32_1, if_1', if_1, if_0, if_0', ↓reduceIte, not_true_eq_false, not_false_eq_true]
          by_cases d : lo ≤ mo
          · rw [if_pos d, if_neg (show ¬ mo < lo by omega), Int.mul_zero, Int.add_zero]
          · rw [if_neg d, if_pos (show mo < lo by omega)]
            rfl
        · simp only [if_neg c, s32_0, if_0', if_0, if_1, if_1', ↓reduceIte, not_true_eq_false, not_false_eq_true]
          by_cases d : x ≤ a
          · rw [if_pos d, if_pos d, Int.mul_zero, Int.add_zero]
          · rw [if_neg d, if_neg d]
            by_cases e : b ≤ x
            · rw [if_pos e, if_pos e, Int.mul_zero, Int.add_zero]
            · rw [if_neg e, if_neg e]
              congr 1; grind
      · simp only [if_1', if_0, if_0', if_1, ↓reduceIte, not_true_eq_false, not_false_eq_true]
        by_cases c : x < y
        · simp only [if_pos c, s32_1, if_1', if_1, if_0, if_0', ↓reduceIte, not_true_eq_false, not_false_eq_true]
          by_cases d : lo ≤ mo
          · rw [if_pos d, if_neg (show ¬ mo < lo by omega), Int.mul_zero, Int.add_zero]
          · rw [if_neg d, if_pos (show mo < lo by omega)]
            rfl
        · simp only [if_neg c, s32_0, if_0', if_0, if_1, if_1', ↓reduceIte, not_true_eq_false, not_false_eq_true]
          by_cases d : x ≤ a
          · rw [if_pos d, if_pos d, Int.mul_zero, Int.add_zero]
          · rw [if_neg d, if_neg d]
            by_cases e : b ≤ x
            · rw [if_pos e, if_pos e, Int.mul_zero, Int.add_zero]
            · rw [if_neg e, if_neg e]
              congr 1; grind)
    0, Int.zero_add]
theorem beyond_eq {A : Int → Int} (v : VA A) {m : Mem} (hA : m 150 = A) {p r : Int} (hp : 0 ≤ p ∧ p ≤ 10) (hr : r = 0 ∨ r = 1) : Mo_beyond p r m = some (ZS A (byF p r)) := by
  have v3 := v.2.2.1
  unfold Mo_beyond
  rw [lsumLoop v (fun n s i => Mo_beyond_L5 p r m n s i) (byF p r) some
    (fun n s => by
      show Mo_beyond_L5 p r m (n + 1) s (A 10) = some s
      rw [Mo_beyond_L5, hA, if_pos (by omega)])
    (fun n s i h0 h1 => by
      show Mo_beyond_L5 p r m (n + 1) s i = Mo_beyond_L5 p r m n (s + _) (i + 1)
      obtain ⟨b1, b2, b3, b4, b5, b6⟩ := load_b v h0 h1
      rw [Mo_beyond_L5, Mo_isSpread_eq v hA h0 h1, hA]
      simp (disch := omega) only [s32_id, ck_id, lt_id, jn_id, ob_some]
      rw [if_neg (by omega)]
      generalize A (11 + i) = x at *
      generalize A (17 + i) = y at *
      generalize A (23 + i) = w at *
      unfold byF
      rcases hr with rfl | rfl
      · simp only [if_0', if_0, if_1, if_1', ↓reduceIte, not_true_eq_false, not_false_eq_true]
        rw [Mo_more_eq (r32_of (by omega)) (r32_of (by omega)), ob_some]
        have mb := moreI_b (a := 0) (b := x - p) (B := 10) (by omega) (by omega)
        generalize moreI 0 (x - p) = mo at *
        simp (disch := omega) only [s32_id, s64_id, s64_0]
        by_cases d : y - p ≤ 0
        · rw [if_pos d, if_pos d, Int.mul_zero, Int.add_zero]
        · rw [if_neg d, if_neg d]
          by_cases c : x < y
          · simp only [if_pos c, s32_1, if_1', if_0, if_0', if_1, ↓reduceIte, not_true_eq_false, not_false_eq_true]; congr 1; grind
          · simp only [if_neg c, s32_0, if_0', if_0, if_1, if_1', ↓reduceIte, not_true_eq_false, not_false_eq_true]; congr 1; grind
      · simp only [if_1', if_0, if_0', if_1, ↓reduceIte, not_true_eq_false, not_false_eq_true]
        rw [Mo_more_eq (r32_of (by omega)) (r32_of (by omega)), ob_some]
        have mb := moreI_b (a := 0) (b := p - y) (B := 10) (by omega) (by omega)
        generalize moreI 0 (p - y) = mo at *
        simp (disch := omega) only [s32_id, s64_id, s64_0]
        by_cases d : p - x ≤ 0
        · rw [if_pos d, if_pos d, Int.mul_zero, Int.add_zero]
        · rw [if_neg d, if_neg d]
          by_cases c : x < y
          · simp only [if_pos c, s32_1, if_1', if_0, if_0', if_1, ↓reduceIte, not_true_eq_false, not_false_eq_true]; congr 1; grind
          · simp only [if_neg c, s32_0, if_0', if_0, if_1, if_1', ↓reduceIte, not_true_eq_false, not_false_eq_true]; congr 1; grind)
    0, Int.zero_add]
theorem small_mul {a b : Int} (ha : -9 ≤ a ∧ a ≤ 9) (hb : 0 ≤ b ∧ b ≤ 10) : s32 (a * b) = a * b := by
  have := mul_b (a := a) (b := b) (A := 9) (B := 10) ha hb
  exact s32_id (by omega) (by omega)
theorem beside_eq {A : Int → Int} (v : VA A) {m : Mem} (hA : m 150 = A) {p r : Int} (hp : 0 ≤ p ∧ p ≤ 10) (hr : r = 0 ∨ r = 1) : Mo_beside p r m = some (ZS A (bsF p r)) := by
  have v3 := v.2.2.1
  unfold Mo_beside
  rw [lsumLoop v (fun n s i => Mo_beside_L5 p r m n s i) (bsF p r) some
    (fun n s => by
      show Mo_beside_L5 p r m (n + 1) s (A 10) = some s
      rw [Mo_beside_L5, hA, if_pos (by omega)])
    (fun n s i h0 h1 => by
      show Mo_beside_L5 p r m (n + 1) s i = Mo_beside_L5 p r m n (s + _) (i + 1)
      obtain ⟨b1, b2, b3, b4, b5, b6⟩ := load_b v h0 h1
      rw [Mo_beside_L5, Mo_isSpread_eq v hA h0 h1, hA]
      simp (disch := omega) only [s32_id, ck_id, lt_id, jn_id, ob_some]
      rw [if_neg (by omega)]
      generalize A (11 + i) = x at *
      generalize A (17 + i) = y at *
      generalize A (23 + i) = w at *
      unfold bsF
      have mb := moreI_b (a := x) (b := p) (B := 10) (by omega) (by omega)
      have lb := lessI_b (a := y) (b := p) (B := 10) (by omega) (by omega)
      rw [Mo_more_eq (r32_of (by omega)) (r32_of (by omega)), Mo_less_eq (r32_of (by omega)) (r32_of (by omega))]
      simp only [ob_some]
      generalize moreI x p = mo at *
      generalize lessI y p = lo at *
      rw [Mo_more_eq (r32_of (by omega)) (r32_of (by omega)), Mo_more_eq (r32_of (by omega)) (r32_of (by omega))]
      simp only [ob_some]
      have n1 := moreI_b (a := 0) (b := y - mo) (B := 10) (by omega) (by omega)
      have n2 := moreI_b (a := 0) (b := lo - x) (B := 10) (by omega) (by omega)
      by_cases c : x < y
      · simp only [if_pos c, s32_1, if_1', if_0, if_0', if_1, ↓reduceIte, not_true_eq_false, not_false_eq_true]
        rcases hr with rfl | rfl
        · rw [if_0', if_0', small_mul ⟨b4, b5⟩ n1]
        · rw [if_1', if_1', small_mul ⟨b4, b5⟩ n2]
      · simp only [if_neg c, s32_0, if_0', if_0, if_1, if_1', ↓reduceIte, not_true_eq_false, not_false_eq_true]
        rcases hr with rfl | rfl
        · rw [if_0', if_0']
          by_cases d : x ≤ p
          · rw [if_pos d, if_pos d, Int.mul_zero]
          · rw [if_neg d, if_neg d, Int.mul_one]
        · rw [if_1', if_1']
          by_cases d : p ≤ x
          · rw [if_pos d, if_pos d, Int.mul_zero]
          · rw [if_neg d, if_neg d, Int.mul_one])
    0, Int.zero_add]
theorem pointsAt_eq {A : Int → Int} (v : VA A) {m : Mem} (hA : m 150 = A) {p : Int} (hp : 0 ≤ p ∧ p ≤ 10) : Mo_pointsAt p m = some (ZS A (plF p)) := by
  have v3 := v.2.2.1
  unfold Mo_pointsAt
  rw [lsumLoop v (fun n s i => Mo_pointsAt_L5 p m n s i) (plF p) some
    (fun n s => by
      show Mo_pointsAt_L5 p m (n + 1) s (A 10) = some s
      rw [Mo_pointsAt_L5, hA, if_pos (by omega)])
    (fun n s i h0 h1 => by
      show Mo_pointsAt_L5 p m (n + 1) s i = Mo_pointsAt_L5 p m n (s + _) (i + 1)
      obtain ⟨b1, b2, b3, b4, b5, b6⟩ := load_b v h0 h1
      rw [Mo_pointsAt_L5, Mo_isSpread_eq v hA h0 h1, hA]
      simp (disch := omega) only [s32_id, ck_id, lt_id, jn_id, ob_some]
      rw [if_neg (by omega)]
      generalize A (11 + i) = x at *
      generalize A (17 + i) = y at *
      generalize A (23 + i) = w at *
      unfold plF
      by_cases c : x < y
      · simp only [if_pos c, s32_1, if_1, if_0, if_0', if_1', ↓reduceIte, not_true_eq_false, not_false_eq_true]
        rw [if_neg (show ¬ x = y by omega), Int.mul_zero]
      · simp only [if_neg c, s32_0, if_0, if_0', if_1, if_1', ↓reduceIte, not_true_eq_false, not_false_eq_true]
        rw [if_pos (show x = y by omega)]
        by_cases d : x = p
        · rw [if_neg (fun z => z d), if_pos d, Int.mul_one]
        · rw [if_pos d, if_neg d, Int.mul_zero])
    0, Int.zero_add]
theorem spreadOn_eq {A : Int → Int} (v : VA A) {m : Mem} (hA : m 150 = A) {p : Int} (hp : 0 ≤ p ∧ p ≤ 10) : Mo_spreadOn p m = some (ZS A (deF p)) := by
  have v3 := v.2.2.1
  unfold Mo_spreadOn
  rw [lsumLoop v (fun n s i => Mo_spreadOn_L4 p m n s i) (deF p) some
    (fun n s => by
      show Mo_spreadOn_L4 p m (n + 1) s (A 10) = some s
      rw [Mo_spreadOn_L4, hA, if_pos (by omega)])
    (fun n s i h0 h1 => by
      show Mo_spreadOn_L4 p m (n + 1) s i = Mo_spreadOn_L4 p m n (s + _) (i + 1)
      obtain ⟨b1, b2, b3, b4, b5, b6⟩ := load_b v h0 h1
      rw [Mo_spreadOn_L4, hA]
      simp (disch := omega) only [s32_id, ck_id, lt_id, jn_id, ob_some]
      rw [if_neg (by omega)]
      generalize A (11 + i) = x at *
      generalize A (17 + i) = y at *
      generalize A (23 + i) = w at *
      unfold deF
      by_cases c : p < x
      · rw [if_pos c, if_neg (show ¬ x ≤ p by omega), Int.mul_zero]
      · rw [if_neg c, if_pos (show x ≤ p by omega)]
        by_cases d : y ≤ p
        · rw [if_pos d, if_neg (show ¬ p < y by omega), Int.mul_zero]
        · rw [if_neg d, if_pos (show p < y by omega), Int.mul_one])
    0, Int.zero_add]
theorem spanOf_eq {A : Int → Int} (v : VA A) {m : Mem} (hA : m 150 = A) {k : Int} (h0 : 0 ≤ k) (h1 : k + 1 < A 1) : Mo_spanOf k m = some (spA A k) := by
  have := v.2.1
  unfold Mo_spanOf
  rw [hA]
  simp (disch := omega) only [s32_id, ck_id]
  unfold spA aT
  rw [show 2 + k + 1 = 2 + (k + 1) by omega]
theorem isLoose_eq {A : Int → Int} (v : VA A) {m : Mem} (hA : m 150 = A) {k : Int} (h0 : 0 < k) (h1 : k < A 1 - 1) : Mo_isLoose k m = some (1 - hrI A k) := by
  have := v.2.1
  obtain ⟨v1, v2, v3, v4, v5, v6, v7, v8⟩ := v
  have hj := (v5 k (by omega) (by omega)).2.2
  unfold Mo_isLoose hrI
  rw [hA]
  simp (disch := omega) only [s32_id, ck_id]
  rcases hj with g | g
  · rw [g, if_pos (by decide), if_pos ⟨h0, h1, rfl⟩]; rfl
  · rw [g, if_neg (by decide), if_neg (by omega)]; rfl
