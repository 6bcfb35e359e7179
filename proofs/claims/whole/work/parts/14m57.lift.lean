/-! lift -/
def liA (A : Int → Int) (k : Int) : Int → Int := fun i => if i = 10 then A 10 - 1 else if (11 + k ≤ i ∧ i < 11 + (A 10 - 1)) ∨ (17 + k ≤ i ∧ i < 17 + (A 10 - 1)) ∨ (23 + k ≤ i ∧ i < 23 + (A 10 - 1)) then A (i + 1) else A i
def shJ (k j : Int) : Int := if j < k then j else j + 1
theorem shJ_in {k j n : Int} (k0 : 0 ≤ k) (j0 : 0 ≤ j) (j1 : j < n - 1) : 0 ≤ shJ k j ∧ shJ k j < n := by
  unfold shJ
  by_cases c : j < k
  · rw [if_pos c]; omega
  · rw [if_neg c]; omega
theorem li_at {A : Int → Int} {k j : Int} (h : 1 ≤ A 10 ∧ A 10 ≤ 6) (k0 : 0 ≤ k) (j0 : 0 ≤ j) (j1 : j < A 10 - 1) : liA A k (11 + j) = A (11 + shJ k j) ∧ liA A k (17 + j) = A (17 + shJ k j) ∧ liA A k (23 + j) = A (23 + shJ k j) := by
  unfold liA shJ
  by_cases c : j < k
  · rw [if_pos c]
    refine ⟨?_, ?_, ?_⟩
    · rw [if_neg (by omega), if_neg (by omega)]
    · rw [if_neg (by omega), if_neg (by omega)]
    · rw [if_neg (by omega), if_neg (by omega)]
  · rw [if_neg c]
    refine ⟨?_, ?_, ?_⟩
    · rw [if_neg (by omega), if_pos (by omega), show 11 + j + 1 = 11 + (j + 1) by omega]
    · rw [if_neg (by omega), if_pos (by omega), show 17 + j + 1 = 17 + (j + 1) by omega]
    · rw [if_neg (by omega), if_pos (by omega), show 23 + j + 1 = 23 + (j + 1) by omega]
theorem li_ne {A : Int → Int} {k i : Int} (h : 1 ≤ A 10 ∧ A 10 ≤ 6) (k0 : 0 ≤ k) (hi : i < 10 ∨ 29 ≤ i) : liA A k i = A i := by
  unfold liA
  rw [if_neg (by omega), if_neg (by omega)]
theorem VA_li {A : Int → Int} (v : VA A) {k : Int} (k0 : 0 ≤ k) (k1 : k < A 10) : VA (liA A k) := by
  obtain ⟨v1, v2, v3, v4, v5, v6, v7, v8⟩ := v
  have h : 1 ≤ A 10 ∧ A 10 ≤ 6 := by omega
  have s : ∀ i, i < 10 ∨ 29 ≤ i → liA A k i = A i := fun i hi => li_ne h k0 hi
  have s1 : liA A k 10 = A 10 - 1 := if_pos rfl
  refine ⟨by rw [s 0 (by omega)]; exact v1, by rw [s 1 (by omega)]; exact v2, by rw [s1]; omega, by rw [s 29 (by omega)]; exact v4, fun j j0 j1 => ?_, fun j j0 j1 => ?_, fun j j0 j1 => ?_, fun j j0 j1 => ?_⟩
  · rw [s 1 (by omega)] at j1
    rw [s (2 + j) (by omega), s (6 + j) (by omega), s 0 (by omega)]; exact v5 j j0 j1
  · rw [s 1 (by omega)] at j1
    rw [s (2 + j) (by omega), s (2 + (j + 1)) (by omega)]; exact v6 j j0 j1
  · rw [s1] at j1
    have e := li_at (A := A) (k := k) (j := j) h k0 j0 j1
    have z := shJ_in k0 j0 j1
    rw [e.1, e.2.1, e.2.2, s 0 (by omega)]; exact v7 _ z.1 z.2
  · rw [s 29 (by omega)] at j1
    rw [s (30 + j) (by omega), s (33 + j) (by omega)]; exact v8 j j0 j1
