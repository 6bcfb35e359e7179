/-! drop -/
def drA (A : Int → Int) (k : Int) : Int → Int := fun i => if i = 1 then A 1 - 1 else if (2 + k ≤ i ∧ i < 2 + (A 1 - 1)) ∨ (6 + k ≤ i ∧ i < 6 + (A 1 - 1)) then A (i + 1) else A i
theorem dr_at {A : Int → Int} {k j : Int} (h : 1 ≤ A 1 ∧ A 1 ≤ 4) (k0 : 0 ≤ k) (j0 : 0 ≤ j) (j1 : j < A 1 - 1) : drA A k (2 + j) = (if j < k then A (2 + j) else A (2 + (j + 1))) ∧ drA A k (6 + j) = (if j < k then A (6 + j) else A (6 + (j + 1))) := by
  unfold drA
  constructor
  · rw [if_neg (by omega)]
    by_cases c : j < k
    · rw [if_neg (by omega), if_pos c]
    · rw [if_pos (by omega), if_neg c, show 2 + j + 1 = 2 + (j + 1) by omega]
  · rw [if_neg (by omega)]
    by_cases c : j < k
    · rw [if_neg (by omega), if_pos c]
    · rw [if_pos (by omega), if_neg c, show 6 + j + 1 = 6 + (j + 1) by omega]
theorem dr_ne {A : Int → Int} {k i : Int} (h : 1 ≤ A 1 ∧ A 1 ≤ 4) (k0 : 0 ≤ k) (hi : i < 1 ∨ 10 ≤ i) : drA A k i = A i := by
  unfold drA
  rw [if_neg (by omega), if_neg (by omega)]
theorem VA_dr {A : Int → Int} (v : VA A) {k : Int} (k0 : 0 ≤ k) (k1 : k < A 1) : VA (drA A k) := by
  obtain ⟨v1, v2, v3, v4, v5, v6, v7, v8⟩ := v
  have h : 1 ≤ A 1 ∧ A 1 ≤ 4 := by omega
  have s : ∀ i, i < 1 ∨ 10 ≤ i → drA A k i = A i := fun i hi => dr_ne h k0 hi
  have s1 : drA A k 1 = A 1 - 1 := if_pos rfl
  refine ⟨by rw [s 0 (by omega)]; exact v1, by rw [s1]; omega, by rw [s 10 (by omega)]; exact v3, by rw [s 29 (by omega)]; exact v4, fun j j0 j1 => ?_, fun j j0 j1 => ?_, fun j j0 j1 => ?_, fun j j0 j1 => ?_⟩
  · rw [s1] at j1
    have e := dr_at (A := A) (k := k) (j := j) h k0 j0 j1
    rw [e.1, e.2, s 0 (by omega)]
    by_cases c : j < k
    · rw [if_pos c, if_pos c]; exact v5 j j0 (by omega)
    · rw [if_neg c, if_neg c]; exact v5 (j + 1) (by omega) (by omega)
  · rw [s1] at j1
    rw [(dr_at (A := A) (k := k) (j := j) h k0 j0 (by omega)).1, (dr_at (A := A) (k := k) (j := j + 1) h k0 (by omega) j1).1]
    by_cases c : j + 1 < k
    · rw [if_pos (show j < k by omega), if_pos c]; exact v6 j j0 (by omega)
    · rw [if_neg c]
      by_cases d : j < k
      · rw [if_pos d]
        have a := v6 j j0 (by omega)
        have b := v6 (j + 1) (by omega) (by omega)
        omega
      · rw [if_neg d]; exact v6 (j + 1) (by omega) (by omega)
  · rw [s 10 (by omega)] at j1
    rw [s (11 + j) (by omega), s (17 + j) (by omega), s (23 + j) (by omega), s 0 (by omega)]; exact v7 j j0 j1
  · rw [s 29 (by omega)] at j1
    rw [s (30 + j) (by omega), s (33 + j) (by omega)]; exact v8 j j0 j1
theorem take_loop {m0 : Mem} {a : Nat} {A : Int → Int} (h4 : A 1 ≤ 4) (h1 : m0 a 1 = A 1) {k : Int} (k0 : 0 ≤ k) (h5 : ∀ j, 0 ≤ j → j < A 1 → m0 (a + 1) j = A (2 + j) ∧ m0 (a + 2) j = A (6 + j)) (K : Mem → Option (Int × Mem)) : ∀ (d n : Nat) (i : Int) (m : Mem), k ≤ i → i + (d : Int) = A 1 - 1 → d < n → (∀ j, 0 ≤ j → j < i → m (a + 1) j = (if j < k then A (2 + j) else A (2 + (j + 1))) ∧ m (a + 2) j = (if j < k then A (6 + j) else A (6 + (j + 1)))) → (∀ j, i ≤ j → m (a + 1) j = m0 (a + 1) j ∧ m (a + 2) j = m0 (a + 2) j) → (∀ c q, ¬ (c = a + 1 ∨ c = a + 2) → m c q = m0 c q) →
    ∃ m', Beam_takeSupport_L13 a K n i m = K m' ∧ (∀ j, 0 ≤ j → j < A 1 - 1 → m' (a + 1) j = (if j < k then A (2 + j) else A (2 + (j + 1))) ∧ m' (a + 2) j = (if j < k then A (6 + j) else A (6 + (j + 1)))) ∧ (∀ c q, ¬ (c = a + 1 ∨ c = a + 2) → m' c q = m0 c q) := by
  intro d
  induction d with
  | zero =>
    intro n i m ki hi hd I1 I2 F
    obtain ⟨n', rfl⟩ : ∃ n', n = n' + 1 := ⟨n - 1, by omega⟩
    refine ⟨m, ?_, fun j j0 j1 => I1 j j0 (by omega), F⟩
    rw [Beam_takeSupport_L13, F a 1 (by omega), h1, s32_id (a := A 1) (by omega) (by omega), s32_id (a := i + 1) (by omega) (by omega), if_pos (by omega)]
  | succ d ih =>
    intro n i m ki hi hd I1 I2 F
    obtain ⟨n', rfl⟩ : ∃ n', n = n' + 1 := ⟨n - 1, by omega⟩
    have q := I2 (i + 1) (by omega)
    have w := h5 (i + 1) (by omega) (by omega)
    rw [Beam_takeSupport_L13, F a 1 (by omega), h1, s32_id (a := A 1) (by omega) (by omega), s32_id (a := i + 1) (by omega) (by omega), if_neg (by omega), ck_id (by omega) (by omega) (by omega), ck_id (by omega) (by omega) (by omega), s32_id (a := i) (by omega) (by omega), lt_id, ck_id (by omega) (by omega) (by omega), ck_id (by omega) (by omega) (by omega), lt_id, q.1, w.1, mset_if, if_neg (by omega), q.2, w.2]
    refine ih n' (i + 1) _ (by omega) (by omega) (by omega) (fun j j0 j1 => ?_) (fun j j0 => ?_) (fun c r hc => by rw [mset_if, if_neg (by omega), mset_if, if_neg (by omega)]; exact F c r hc)
    · by_cases c : j = i
      · rw [c, if_neg (by omega), if_neg (by omega)]
        refine ⟨?_, ?_⟩
        · rw [mset_if, if_neg (by omega), mset_here]
        · rw [mset_here]
      · have z := I1 j j0 (by omega)
        exact ⟨by rw [mset_if, if_neg (by omega), mset_if, if_neg (by omega)]; exact z.1, by rw [mset_if, if_neg (by omega), mset_if, if_neg (by omega)]; exact z.2⟩
    · have z := I2 j (by omega)
      exact ⟨by rw [mset_if, if_neg (by omega), mset_if, if_neg (by omega)]; exact z.1, by rw [mset_if, if_neg (by omega), mset_if, if_neg (by omega)]; exact z.2⟩
theorem takeSupport_eq {m : Mem} {a : Nat} {A : Int → Int} (v : VA A) (h : RB m a A) {k : Int} (k0 : 0 ≤ k) (k1 : k < A 1) : ∃ m', Beam_takeSupport a k m = some (A 1 - 1, m') ∧ RB m' a (drA A k) ∧ (∀ c i, ¬ (a ≤ c ∧ c ≤ a + 8) → m' c i = m c i) := by
  have n4 := v.2.1
  have v3 := v.2.2.1
  have v4 := v.2.2.2.1
  obtain ⟨h1, h2, h3, h4, h5, h6, h7⟩ := h
  have hh : 1 ≤ A 1 ∧ A 1 ≤ 4 := by omega
  have s : ∀ i, i < 1 ∨ 10 ≤ i → drA A k i = A i := fun i hi => dr_ne hh k0 hi
  have s1 : drA A k 1 = A 1 - 1 := if_pos rfl
  unfold Beam_takeSupport
  rw [Beam_isSupport_eq (r32_of (by omega)) (by omega), h2, ob_some, if_pos (show 0 ≤ k ∧ k < A 1 from ⟨k0, k1⟩), s32_1, if_1, jn_id]
  obtain ⟨m3, e3, b1, f3⟩ := take_loop n4.2 h2 k0 h5 (fun m2 => lt (mset m2 a 1 ((m2 a 1) - 1)) (fun m3 => some ((m3 a 1), m3))) (A 1 - 1 - k).toNat 2000 k m (Int.le_refl k) (by omega) (by omega) (fun j j0 j1 => by rw [if_pos j1, if_pos j1]; exact h5 j j0 (by omega)) (fun _ _ => ⟨rfl, rfl⟩) (fun _ _ _ => rfl)
  rw [e3, lt_id, f3 a 1 (by omega), h2, mset_here]
  have g : ∀ c i, ¬ (c = a + 1 ∨ c = a + 2) → ¬ (c = a ∧ i = 1) → mset m3 a 1 (A 1 - 1) c i = m c i := fun c i x1 x2 => by rw [mset_if, if_neg x2]; exact f3 c i x1
  refine ⟨_, rfl, ⟨?_, ?_, ?_, ?_, fun j j0 j1 => ?_, fun j j0 j1 => ?_, fun j j0 j1 => ?_⟩, fun c i hc => g c i (by omega) (by omega)⟩
  · rw [s 0 (by omega), g _ _ (by omega) (by omega)]; exact h1
  · rw [s1, mset_here]
  · rw [s 10 (by omega), g _ _ (by omega) (by omega)]; exact h3
  · rw [s 29 (by omega), g _ _ (by omega) (by omega)]; exact h4
  · rw [s1] at j1
    have e := dr_at (A := A) (k := k) (j := j) hh k0 j0 j1
    rw [e.1, e.2]
    have z := b1 j j0 j1
    exact ⟨by rw [mset_if, if_neg (by omega)]; exact z.1, by rw [mset_if, if_neg (by omega)]; exact z.2⟩
  · rw [s 10 (by omega)] at j1
    rw [s (11 + j) (by omega), s (17 + j) (by omega), s (23 + j) (by omega), g _ _ (by omega) (by omega), g _ _ (by omega) (by omega), g _ _ (by omega) (by omega), g _ _ (by omega) (by omega)]
    exact h6 j j0 j1
  · rw [s 29 (by omega)] at j1
    rw [s (30 + j) (by omega), s (33 + j) (by omega), g _ _ (by omega) (by omega), g _ _ (by omega) (by omega)]
    exact h7 j j0 j1
