/-! the class solves: moments over supports, shear, bending -/
theorem SF_put {m : Mem} {A : Int → Int} (h : SF m A) {c : Nat} {i x : Int} (hc : ¬ c = 111 ∨ (¬ i = 0 ∧ ¬ i = 1)) (h2 : ¬ c = 112) (h3 : ¬ c = 113) (h4 : ¬ c = 114) (h5 : ¬ c = 115) : SF (mset m c i x) A := by
  obtain ⟨⟨a1, a2, a3⟩, a4⟩ := h
  refine ⟨⟨?_, ?_, fun k k0 k1 => ⟨?_, ?_⟩⟩, fun k k0 k1 => ⟨?_, ?_⟩⟩
  · rw [mset_if, if_neg (by omega)]; exact a1
  · rw [mset_if, if_neg (by omega)]; exact a2
  · rw [mset_if, if_neg (by omega)]; exact (a3 k k0 k1).1
  · rw [mset_if, if_neg (by omega)]; exact (a3 k k0 k1).2
  · rw [mset_if, if_neg (by omega)]; exact (a4 k k0 k1).1
  · rw [mset_if, if_neg (by omega)]; exact (a4 k k0 k1).2
theorem SF_fr {m m' : Mem} {A : Int → Int} (h : SF m A) (h0 : m' 111 0 = m 111 0) (h1 : m' 111 1 = m 111 1) (hf : ∀ c i, c = 112 ∨ c = 113 ∨ c = 114 ∨ c = 115 → m' c i = m c i) : SF m' A := by
  obtain ⟨⟨a1, a2, a3⟩, a4⟩ := h
  refine ⟨⟨by rw [h0]; exact a1, by rw [h1]; exact a2, fun k k0 k1 => ⟨?_, ?_⟩⟩, fun k k0 k1 => ⟨?_, ?_⟩⟩
  · rw [hf _ _ (by omega)]; exact (a3 k k0 k1).1
  · rw [hf _ _ (by omega)]; exact (a3 k k0 k1).2
  · rw [hf _ _ (by omega)]; exact (a4 k k0 k1).1
  · rw [hf _ _ (by omega)]; exact (a4 k k0 k1).2
theorem mset_mset (m : Mem) (c : Nat) (i a b : Int) : mset (mset m c i a) c i b = mset m c i b := by
  funext c' i'
  simp only [mset]
  split <;> rfl
theorem mset_here (m : Mem) (c : Nat) (i a : Int) : mset m c i a c i = a := by simp [mset]
theorem prod_step {m : Mem} {A : Int → Int} (v : VA A) (h : SF m A) (K : Mem → Option Mem) (n : Nat) {i : Int} (p : Int) (h0 : 0 ≤ i) (h1 : i + 1 < A 1) : Sta_solveOverSupports_L7 K (n + 1) i (mset m 111 14 p) = Sta_solveOverSupports_L7 K n (i + 1) (mset m 111 14 (p * spA A i)) := by
  have s := SF_put (x := p) (c := 111) (i := 14) h (Or.inr ⟨by decide, by decide⟩) (by decide) (by decide) (by decide) (by decide)
  have := v.2.1
  rw [Sta_solveOverSupports_L7, s.1.2.1, s32_id (by omega) (by omega), s32_id (by omega) (by omega), if_neg (by omega), span_eq v s.1 h0 h1, ob_some, lt_id, mset_here, mset_mset]
theorem prod_end {m : Mem} {A : Int → Int} (v : VA A) (h : SF m A) (K : Mem → Option Mem) (n : Nat) {i : Int} (p : Int) (h0 : 0 ≤ i) (h1 : i + 1 = A 1) : Sta_solveOverSupports_L7 K (n + 1) i (mset m 111 14 p) = K (mset m 111 14 p) := by
  have s := SF_put (x := p) (c := 111) (i := 14) h (Or.inr ⟨by decide, by decide⟩) (by decide) (by decide) (by decide) (by decide)
  have := v.2.1
  rw [Sta_solveOverSupports_L7, s.1.2.1, h1, if_pos (Int.le_refl _)]
theorem prod_eq {m : Mem} {A : Int → Int} (v : VA A) (hn : 2 ≤ A 1) (h : SF m A) (K : Mem → Option Mem) : Sta_solveOverSupports_L7 K 2000 0 (mset m 111 14 1) = K (mset m 111 14 (PP A)) := by
  unfold PP
  rcases VA_n v hn with g | g | g
  · rw [if_pos g, prod_step v h K 1999 1 (by omega) (by omega), prod_end v h K 1998 _ (by omega) (by omega), Int.one_mul]
  · rw [if_neg (by omega), if_pos g, prod_step v h K 1999 1 (by omega) (by omega), prod_step v h K 1998 _ (by omega) (by omega), prod_end v h K 1997 _ (by omega) (by omega), Int.one_mul]
    rfl
  · rw [if_neg (by omega), if_neg (by omega), prod_step v h K 1999 1 (by omega) (by omega), prod_step v h K 1998 _ (by omega) (by omega), prod_step v h K 1997 _ (by omega) (by omega), prod_end v h K 1996 _ (by omega) (by omega), Int.one_mul]
    rfl
theorem over_tail {m2 : Mem} {P n x5 x7 x9 x10 x12 x13 x15 : Int} (hP : m2 111 14 = P) (hn : 2 ≤ n ∧ n ≤ 4) : ∃ m', lt (((x9 * x12) - (x15 * x15))) (fun x16 => lt (mset m2 126 1 (((x12 * x10) - (x15 * x13)) * (m2 111 14))) (fun m17 => lt (mset m17 126 2 (((x9 * x13) - (x15 * x10)) * (m17 111 14))) (fun m18 => lt (mset m18 126 0 ((x5 * x16) * (m18 111 14))) (fun m19 => ck (n - 1) 4 (lt (mset m19 126 (s32 (n - 1)) ((x7 * x16) * (m19 111 14))) (fun m20 => lt (mset m20 111 6 (((4 * (m20 111 14)) * (m20 111 14)) * x16)) (fun m21 => some m21))))))) = some m' ∧ m' 111 14 = P ∧ m' 111 6 = ((4 * P) * P) * (x9 * x12 - x15 * x15) ∧ (∀ k, 0 ≤ k → k < n → m' 126 k = (if k = n - 1 then x7 * (x9 * x12 - x15 * x15) else if k = 0 then x5 * (x9 * x12 - x15 * x15) else if k = 1 then x12 * x10 - x15 * x13 else x9 * x13 - x15 * x10) * P) ∧ (∀ c i, ¬ c = 126 → ¬ (c = 111 ∧ i = 6) → m' c i = m2 c i) := by
  simp only [lt_id]
  rw [ck_id (by omega) (by omega) (by omega), s32_id (by omega) (by omega)]
  refine ⟨_, rfl, ?_, ?_, fun k k0 k1 => ?_, fun c i hc hi => ?_⟩
  · simp [mset, hP]
  · simp [mset, hP]
  · by_cases c1 : k = n - 1
    · rw [if_pos c1]; simp [mset, hP, c1]
    · rw [if_neg c1]
      by_cases c2 : k = 0
      · rw [if_pos c2]; simp [mset, hP, c2]; omega
      · rw [if_neg c2]
        by_cases c3 : k = 1
        · rw [if_pos c3]; simp [mset, hP, c3]; omega
        · rw [if_neg c3]
          have c4 : k = 2 := by omega
          simp [mset, hP, c4]; omega
  · simp only [mset]
    rw [if_neg (by omega), if_neg (by omega), if_neg (by omega), if_neg (by omega), if_neg (by omega)]
def OV (m : Mem) (A : Int → Int) : Prop := m 111 14 = PP A ∧ m 111 6 = DD A ∧ (∀ k, 0 ≤ k → k < A 1 → m 126 k = ooA A k * PP A)
set_option maxHeartbeats 4000000 in
theorem over_eq {m : Mem} {A : Int → Int} (v : VA A) (hn : 2 ≤ A 1) (h : SF m A) : ∃ m', Sta_solveOverSupports m = some m' ∧ SF m' A ∧ OV m' A ∧ (∀ c i, ¬ c = 126 → ¬ (c = 111 ∧ (i = 6 ∨ i = 14)) → m' c i = m c i) := by
  have s := SF_put (x := PP A) (c := 111) (i := 14) h (Or.inr ⟨by decide, by decide⟩) (by decide) (by decide) (by decide) (by decide)
  have hP : mset m 111 14 (PP A) 111 14 = PP A := mset_here _ _ _ _
  have hfr : ∀ c i, ¬ (c = 111 ∧ i = 14) → mset m 111 14 (PP A) c i = m c i := fun c i hc => by rw [mset_if, if_neg hc]
  have hn4 := v.2.1
  unfold Sta_solveOverSupports
  rw [lt_id, jn_id, prod_eq v hn h]
  generalize mset m 111 14 (PP A) = m2 at *
  have fin : ∀ {x5 x7 x9 x10 x12 x13 x15 : Int}, x5 = oF A → x7 = oL A → x9 = wA1 A → x10 = tA1 A → x12 = wA2 A → x13 = tA2 A → x15 = btA A → ∃ m', lt (((x9 * x12) - (x15 * x15))) (fun x16 => lt (mset m2 126 1 (((x12 * x10) - (x15 * x13)) * PP A)) (fun m17 => lt (mset m17 126 2 (((x9 * x13) - (x15 * x10)) * (m17 111 14))) (fun m18 => lt (mset m18 126 0 ((x5 * x16) * (m18 111 14))) (fun m19 => ck (A 1 - 1) 4 (lt (mset m19 126 (A 1 - 1) ((x7 * x16) * (m19 111 14))) (fun m20 => lt (mset m20 111 6 (((4 * (m20 111 14)) * (m20 111 14)) * x16)) (fun m21 => some m21))))))) = some m' ∧ SF m' A ∧ OV m' A ∧ (∀ c i, ¬ c = 126 → ¬ (c = 111 ∧ (i = 6 ∨ i = 14)) → m' c i = m c i) := by
    intro x5 x7 x9 x10 x12 x13 x15 e5 e7 e9 e10 e12 e13 e15
    obtain ⟨m', f1, f2, f3, f4, f5⟩ := over_tail (m2 := m2) (P := PP A) (n := A 1) (x5 := x5) (x7 := x7) (x9 := x9) (x10 := x10) (x12 := x12) (x13 := x13) (x15 := x15) hP (by omega)
    rw [hP] at f1
    rw [s32_id (a := A 1 - 1) (by omega) (by omega)] at f1
    subst e5 e7 e9 e10 e12 e13 e15
    refine ⟨m', f1, SF_fr s (f5 _ _ (by decide) (by decide)) (f5 _ _ (by decide) (by decide)) (fun c i hc => f5 c i (by omega) (by omega)), ⟨f2, f3, fun k k0 k1 => ?_⟩, fun c i hc hi => ?_⟩
    · rw [f4 k k0 k1]; rfl
    · rw [f5 c i hc (by omega), hfr c i (by omega)]
  have H1 := hasRow_eq v hn s (k := 1) (by omega) (by omega)
  have H2 := hasRow_eq v hn s (k := 2) (by omega) (by omega)
  rw [lt_id, first_eq v hn s, ob_some, lt_id, last_eq v hn s, ob_some, lt_id, s.1.2.1, hP]
  rcases hrI_01 A 1 with h1 | h1
  · rcases hrI_01 A 2 with h2 | h2
    · rw [h1] at H1
      rw [h2] at H2
      simp only [H1, H2, ob_some, jn_id, s32_0, if_0', lt_id, s32_id (show -2147483648 ≤ A 1 - 1 by omega) (show A 1 - 1 < 2147483648 by omega)]
      exact fin (x5 := oF A) (x7 := oL A) (x9 := 1) (x10 := 0) (x12 := 1) (x13 := 0) (x15 := 0) rfl rfl (by unfold wA1; rw [if_pos h1]) (by unfold tA1; rw [if_pos h1]) (by unfold wA2; rw [if_pos h2]) (by unfold tA2; rw [if_pos h2]) (by unfold btA; rw [if_pos h1])
    · have g2 := hrI_1 (A := A) (k := 2) (by omega)
      have S1 := span_eq v s.1 (k := 1) (by omega) (by omega)
      have S2 := span_eq v s.1 (k := 2) (by omega) (by omega)
      have E2 := leans_eq v hn s hP (k := 2) (by omega) (by omega)
      rw [h1] at H1
      rw [h2] at H2
      simp only [H1, H2, S1, S2, E2, ob_some, jn_id, s32_0, s32_1, if_0', if_1', lt_id, s32_id (show -2147483648 ≤ A 1 - 1 by omega) (show A 1 - 1 < 2147483648 by omega)]
      exact fin (x5 := oF A) (x7 := oL A) (x9 := 1) (x10 := 0) (x12 := 2 * (spA A 1 + spA A 2)) (x13 := -leA A 2 - spA A 2 * oL A) (x15 := 0) rfl rfl (by unfold wA1; rw [if_pos h1]) (by unfold tA1; rw [if_pos h1]) (by unfold wA2; rw [if_neg (by omega)]) (by unfold tA2; rw [if_neg (by omega)]) (by unfold btA; rw [if_pos h1])
  · have g1 := hrI_1 (A := A) (k := 1) (by omega)
    have S0 := span_eq v s.1 (k := 0) (by omega) (by omega)
    have S1 := span_eq v s.1 (k := 1) (by omega) (by omega)
    have E1 := leans_eq v hn s hP (k := 1) (by omega) (by omega)
    have e2 : s32 2 = 2 := s32_id (by decide) (by decide)
    rw [h1] at H1
    rcases (show A 1 = 3 ∨ A 1 = 4 by omega) with g | g
    · have h2 : hrI A 2 = 0 := by unfold hrI; rw [if_neg (by omega)]
      rw [h2] at H2
      have z : ∀ {α : Type} (x y : α), (if ¬ A 1 - 1 = 2 then x else y) = y := fun x y => if_neg (by omega)
      simp only [H1, H2, S0, S1, E1, ob_some, jn_id, s32_0, s32_1, if_0', if_1', lt_id, e2, s32_id (show -2147483648 ≤ A 1 - 1 by omega) (show A 1 - 1 < 2147483648 by omega), z]
      exact fin (x5 := oF A) (x7 := oL A) (x9 := 2 * (spA A 0 + spA A 1)) (x10 := -leA A 1 - spA A 0 * oF A - spA A 1 * oL A) (x12 := 1) (x13 := 0) (x15 := 0) rfl rfl (by unfold wA1; rw [if_neg (by omega)]) (by unfold tA1; rw [if_neg (by omega), if_pos g]) (by unfold wA2; rw [if_pos h2]) (by unfold tA2; rw [if_pos h2]) (by unfold btA; rw [if_neg (by omega), if_pos h2])
    · have z : ∀ {α : Type} (x y : α), (if ¬ A 1 - 1 = 2 then x else y) = x := fun x y => if_pos (by omega)
      rcases hrI_01 A 2 with h2 | h2
      · rw [h2] at H2
        simp only [H1, H2, S0, S1, E1, ob_some, jn_id, s32_0, s32_1, if_0', if_1', lt_id, e2, s32_id (show -2147483648 ≤ A 1 - 1 by omega) (show A 1 - 1 < 2147483648 by omega), z]
        exact fin (x5 := oF A) (x7 := oL A) (x9 := 2 * (spA A 0 + spA A 1)) (x10 := -leA A 1 - spA A 0 * oF A - 0) (x12 := 1) (x13 := 0) (x15 := 0) rfl rfl (by unfold wA1; rw [if_neg (by omega)]) (by unfold tA1; rw [if_neg (by omega), if_neg (by omega)]) (by unfold wA2; rw [if_pos h2]) (by unfold tA2; rw [if_pos h2]) (by unfold btA; rw [if_neg (by omega), if_pos h2])
      · have S2 := span_eq v s.1 (k := 2) (by omega) (by omega)
        have E2 := leans_eq v hn s hP (k := 2) (by omega) (by omega)
        rw [h2] at H2
        simp only [H1, H2, S0, S1, S2, E1, E2, ob_some, jn_id, s32_0, s32_1, if_0', if_1', lt_id, e2, s32_id (show -2147483648 ≤ A 1 - 1 by omega) (show A 1 - 1 < 2147483648 by omega), z]
        exact fin (x5 := oF A) (x7 := oL A) (x9 := 2 * (spA A 0 + spA A 1)) (x10 := -leA A 1 - spA A 0 * oF A - 0) (x12 := 2 * (spA A 1 + spA A 2)) (x13 := -leA A 2 - spA A 2 * oL A) (x15 := spA A 1) rfl rfl (by unfold wA1; rw [if_neg (by omega)]) (by unfold tA1; rw [if_neg (by omega), if_neg (by omega)]) (by unfold wA2; rw [if_neg (by omega)]) (by unfold tA2; rw [if_neg (by omega)]) (by unfold btA; rw [if_neg (by omega), if_neg (by omega)])
