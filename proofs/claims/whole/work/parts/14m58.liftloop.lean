theorem tload_loop {m0 : Mem} {a : Nat} {N : Int} (h4 : 1 ≤ N ∧ N ≤ 6) (h1 : m0 a 4 = N) {k : Int} (k0 : 0 ≤ k) (K : Mem → Option (Int × Mem)) : ∀ (d n : Nat) (i : Int) (m : Mem), k ≤ i → i + (d : Int) = N - 1 → d < n → (∀ c j, m c j = if (a + 3 ≤ c ∧ c ≤ a + 6) ∧ k ≤ j ∧ j < i then m0 c (j + 1) else m0 c j) →
    ∃ m', Beam_takeLoad_L12 a K n i m = K m' ∧ (∀ c j, m' c j = if (a + 3 ≤ c ∧ c ≤ a + 6) ∧ k ≤ j ∧ j < N - 1 then m0 c (j + 1) else m0 c j) := by
  intro d
  induction d with
  | zero =>
    intro n i m ki hi hd F
    obtain ⟨n', rfl⟩ : ∃ n', n = n' + 1 := ⟨n - 1, by omega⟩
    have hi' : i = N - 1 := by omega
    have q : m a 4 = N := by rw [F a 4, if_neg (by omega)]; exact h1
    refine ⟨m, ?_, fun c j => by rw [F c j, hi']⟩
    rw [Beam_takeLoad_L12, q, s32_id (a := N) (by omega) (by omega), s32_id (a := i + 1) (by omega) (by omega), if_pos (by omega)]
  | succ d ih =>
    intro n i m ki hi hd F
    obtain ⟨n', rfl⟩ : ∃ n', n = n' + 1 := ⟨n - 1, by omega⟩
    have q : m a 4 = N := by rw [F a 4, if_neg (by omega)]; exact h1
    have w : ∀ c, m c (i + 1) = m0 c (i + 1) := fun c => by rw [F c (i + 1), if_neg (by omega)]
    have w4 : mset m (a + 3) i (m0 (a + 3) (i + 1)) (a + 4) (i + 1) = m0 (a + 4) (i + 1) := by rw [mset_if, if_neg (by omega)]; exact w _
    have w5 : mset (mset m (a + 3) i (m0 (a + 3) (i + 1))) (a + 4) i (m0 (a + 4) (i + 1)) (a + 5) (i + 1) = m0 (a + 5) (i + 1) := by rw [mset_if, if_neg (by omega), mset_if, if_neg (by omega)]; exact w _
    have w6 : mset (mset (mset m (a + 3) i (m0 (a + 3) (i + 1))) (a + 4) i (m0 (a + 4) (i + 1))) (a + 5) i (m0 (a + 5) (i + 1)) (a + 6) (i + 1) = m0 (a + 6) (i + 1) := by rw [mset_if, if_neg (by omega), mset_if, if_neg (by omega), mset_if, if_neg (by omega)]; exact w _
    rw [Beam_takeLoad_L12, q, s32_id (a := N) (by omega) (by omega), s32_id (a := i + 1) (by omega) (by omega), if_neg (by omega), ck_id (i := i + 1) (by omega) (by omega) (by omega), ck_id (i := i) (by omega) (by omega) (by omega), s32_id (a := i) (by omega) (by omega), lt_id, ck_id (i := i + 1) (by omega) (by omega) (by omega), ck_id (i := i) (by omega) (by omega) (by omega), lt_id, ck_id (i := i + 1) (by omega) (by omega) (by omega), ck_id (i := i) (by omega) (by omega) (by omega), lt_id, ck_id (i := i + 1) (by omega) (by omega) (by omega), ck_id (i := i) (by omega) (by omega) (by omega), lt_id, w (a + 3), w4, w5, w6]
    refine ih n' (i + 1) _ (by omega) (by omega) (by omega) (fun c j => ?_)
    by_cases cj : j = i
    · by_cases c3 : a + 3 ≤ c ∧ c ≤ a + 6
      · rw [if_pos (show (a + 3 ≤ c ∧ c ≤ a + 6) ∧ k ≤ j ∧ j < i + 1 by omega), cj]
        by_cases d6 : c = a + 6
        · rw [d6, mset_here]
        · rw [mset_if, if_neg (by omega)]
          by_cases d5 : c = a + 5
          · rw [d5, mset_here]
          · rw [mset_if, if_neg (by omega)]
            by_cases d4 : c = a + 4
            · rw [d4, mset_here]
            · rw [mset_if, if_neg (by omega), show c = a + 3 by omega, mset_here]
      · rw [if_neg (by omega), mset_if, if_neg (by omega), mset_if, if_neg (by omega), mset_if, if_neg (by omega), mset_if, if_neg (by omega), F c j, if_neg (by omega)]
    · rw [mset_if, if_neg (by omega), mset_if, if_neg (by omega), mset_if, if_neg (by omega), mset_if, if_neg (by omega), F c j]
      by_cases e : (a + 3 ≤ c ∧ c ≤ a + 6) ∧ k ≤ j ∧ j < i
      · rw [if_pos e, if_pos (by omega)]
      · rw [if_neg e, if_neg (by omega)]
