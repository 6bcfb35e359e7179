def liI (A : Int → Int) (k i q : Int) : Int := if q = 10 then A 10 - 1 else if (11 + k ≤ q ∧ q < 11 + i) ∨ (17 + k ≤ q ∧ q < 17 + i) ∨ (23 + k ≤ q ∧ q < 23 + i) then A (q + 1) else A q
theorem mlift_loop {m0 : Mem} {A : Int → Int} (h4 : 1 ≤ A 10 ∧ A 10 ≤ 6) {k : Int} (k0 : 0 ≤ k) : ∀ (d n : Nat) (i : Int) (m : Mem), k ≤ i → i + (d : Int) = A 10 - 1 → d < n → (∀ q, m 150 q = liI A k i q) → (∀ c q, ¬ c = 150 → m c q = m0 c q) →
    ∃ m', Mo_lift_L27 n i m = some (A 10 - 1, m') ∧ m' 150 = liA A k ∧ (∀ c q, ¬ c = 150 → m' c q = m0 c q) := by
  intro d
  induction d with
  | zero =>
    intro n i m ki hi hd I F
    obtain ⟨n', rfl⟩ : ∃ n', n = n' + 1 := ⟨n - 1, by omega⟩
    have q1 : m 150 10 = A 10 - 1 := by rw [I 10]; exact if_pos rfl
    have hi' : i = A 10 - 1 := by omega
    refine ⟨m, ?_, ?_, F⟩
    · rw [Mo_lift_L27, q1, s32_id (a := A 10 - 1) (by omega) (by omega), s32_id (a := i) (by omega) (by omega), if_pos (by omega)]
    · funext q
      rw [I q, hi']
      rfl
  | succ d ih =>
    intro n i m ki hi hd I F
    obtain ⟨n', rfl⟩ : ∃ n', n = n' + 1 := ⟨n - 1, by omega⟩
    have q1 : m 150 10 = A 10 - 1 := by rw [I 10]; exact if_pos rfl
    have q2 : m 150 (11 + i + 1) = A (11 + i + 1) := by rw [I]; unfold liI; rw [if_neg (by omega), if_neg (by omega)]
    have q3 : m 150 (17 + i + 1) = A (17 + i + 1) := by rw [I]; unfold liI; rw [if_neg (by omega), if_neg (by omega)]
    have q4 : m 150 (23 + i + 1) = A (23 + i + 1) := by rw [I]; unfold liI; rw [if_neg (by omega), if_neg (by omega)]
    have w3 : mset m 150 (11 + i) (A (11 + i + 1)) 150 (17 + i + 1) = A (17 + i + 1) := by rw [mset_c, if_neg (by omega)]; exact q3
    have w4 : mset (mset m 150 (11 + i) (A (11 + i + 1))) 150 (17 + i) (A (17 + i + 1)) 150 (23 + i + 1) = A (23 + i + 1) := by rw [mset_c, if_neg (by omega), mset_c, if_neg (by omega)]; exact q4
    rw [Mo_lift_L27, q1, s32_id (a := A 10 - 1) (by omega) (by omega), s32_id (a := i) (by omega) (by omega), if_neg (by omega), ck_id (by omega) (by omega) (by omega), ck_id (by omega) (by omega) (by omega), s32_id (a := 11 + i) (by omega) (by omega), s32_id (a := 11 + i + 1) (by omega) (by omega), lt_id, ck_id (by omega) (by omega) (by omega), ck_id (by omega) (by omega) (by omega), s32_id (a := 17 + i) (by omega) (by omega), s32_id (a := 17 + i + 1) (by omega) (by omega), lt_id, ck_id (by omega) (by omega) (by omega), ck_id (by omega) (by omega) (by omega), s32_id (a := 23 + i) (by omega) (by omega), s32_id (a := 23 + i + 1) (by omega) (by omega), lt_id, q2, w3, w4]
    refine ih n' (i + 1) _ (by omega) (by omega) (by omega) (fun q => ?_) (fun c r hc => by rw [mset_if, if_neg (by omega), mset_if, if_neg (by omega), mset_if, if_neg (by omega)]; exact F c r hc)
    rw [mset_c, mset_c, mset_c]
    unfold liI
    by_cases c1 : q = 23 + i
    · rw [if_pos c1, c1, if_neg (by omega), if_pos (by omega)]
    · rw [if_neg c1]
      by_cases c2 : q = 17 + i
      · rw [if_pos c2, c2, if_neg (by omega), if_pos (by omega)]
      · rw [if_neg c2]
        by_cases c5 : q = 11 + i
        · rw [if_pos c5, c5, if_neg (by omega), if_pos (by omega)]
        · rw [if_neg c5, I q]
          unfold liI
          by_cases c3 : q = 10
          · rw [if_pos c3, if_pos c3]
          · rw [if_neg c3, if_neg c3]
            by_cases c4 : (11 + k ≤ q ∧ q < 11 + i) ∨ (17 + k ≤ q ∧ q < 17 + i) ∨ (23 + k ≤ q ∧ q < 23 + i)
            · rw [if_pos c4, if_pos (by omega)]
            · rw [if_neg c4, if_neg (by omega)]
