theorem takeLoad_eq {m : Mem} {a : Nat} {A : Int → Int} (v : VA A) (h : RB m a A) {k : Int} (k0 : 0 ≤ k) (k1 : k < A 10) : ∃ m', Beam_takeLoad a k m = some (A 10 - 1, m') ∧ RB m' a (liA A k) ∧ (∀ c i, ¬ (a ≤ c ∧ c ≤ a + 8) → m' c i = m c i) := by
  have v3 := v.2.2.1
  have n4 := v.2.1
  obtain ⟨h1, h2, h3, h4, h5, h6, h7⟩ := h
  have hh : 1 ≤ A 10 ∧ A 10 ≤ 6 := by omega
  have s : ∀ i, i < 10 ∨ 29 ≤ i → liA A k i = A i := fun i hi => li_ne hh k0 hi
  have s1 : liA A k 10 = A 10 - 1 := if_pos rfl
  obtain ⟨m3, e3, f3⟩ := tload_loop (m0 := m) hh h3 k0 (fun m2 => lt (mset m2 a 4 ((m2 a 4) - 1)) (fun m3 => some ((m3 a 4), m3))) (A 10 - 1 - k).toNat 2000 k m (Int.le_refl k) (by omega) (by omega) (fun c j => by rw [if_neg (by omega)])
  have q : m3 a 4 = A 10 := by rw [f3 a 4, if_neg (by omega)]; exact h3
  have il : Beam_isLoad a k m = some 1 := by
    unfold Beam_isLoad
    rw [h3, s32_id (a := k) (by omega) (by omega), s32_id (a := A 10) (by omega) (by omega), if_neg (by omega), if_neg (by omega)]
  unfold Beam_takeLoad
  rw [il, ob_some, s32_1, if_1, jn_id, e3, lt_id, q, mset_here]
  have g : ∀ c i, ¬ (a + 3 ≤ c ∧ c ≤ a + 6) → ¬ (c = a ∧ i = 4) → mset m3 a 4 (A 10 - 1) c i = m c i := fun c i x1 x2 => by rw [mset_if, if_neg x2, f3 c i, if_neg (by omega)]
  have gs : ∀ c j, (a + 3 ≤ c ∧ c ≤ a + 6) → 0 ≤ j → j < A 10 - 1 → mset m3 a 4 (A 10 - 1) c j = m c (shJ k j) := fun c j x j0 j1 => by
    rw [mset_if, if_neg (by omega), f3 c j]
    unfold shJ
    by_cases c1 : j < k
    · rw [if_pos c1, if_neg (by omega)]
    · rw [if_neg c1, if_pos (by omega)]
  refine ⟨_, rfl, ⟨?_, ?_, ?_, ?_, fun j j0 j1 => ?_, fun j j0 j1 => ?_, fun j j0 j1 => ?_⟩, fun c i hc => g c i (by omega) (by omega)⟩
  · rw [s 0 (by omega), g _ _ (by omega) (by omega)]; exact h1
  · rw [s 1 (by omega), g _ _ (by omega) (by omega)]; exact h2
  · rw [s1, mset_here]
  · rw [s 29 (by omega), g _ _ (by omega) (by omega)]; exact h4
  · rw [s 1 (by omega)] at j1
    rw [s (2 + j) (by omega), s (6 + j) (by omega), g _ _ (by omega) (by omega), g _ _ (by omega) (by omega)]; exact h5 j j0 j1
  · rw [s1] at j1
    have e := li_at (A := A) (k := k) (j := j) hh k0 j0 j1
    have z := shJ_in k0 j0 j1
    rw [e.1, e.2.1, e.2.2, gs (a + 3) j (by omega) j0 j1, gs (a + 4) j (by omega) j0 j1, gs (a + 5) j (by omega) j0 j1, gs (a + 6) j (by omega) j0 j1]; exact h6 _ z.1 z.2
  · rw [s 29 (by omega)] at j1
    rw [s (30 + j) (by omega), s (33 + j) (by omega), g _ _ (by omega) (by omega), g _ _ (by omega) (by omega)]; exact h7 j j0 j1
