/-! support: the model, and both -/
theorem sup_loop {m0 : Mem} {A : Int → Int} (v : VA A) (hn : A 1 < 4) {p x : Int} (hx : 0 ≤ x ∧ x ≤ 10) (hp : spot A p x) (K : Int → Mem → Option (Int × Mem)) : ∀ (d n : Nat) (i : Int) (m : Mem), p + (d : Int) = i → i ≤ A 1 → d < n → (∀ j, 0 ≤ j → j < i → m 150 (2 + j) = A (2 + j) ∧ m 150 (6 + j) = A (6 + j)) → (∀ j, i < j → j ≤ A 1 → m 150 (2 + j) = A (2 + (j - 1)) ∧ m 150 (6 + j) = A (6 + (j - 1))) → (∀ q, ¬ (2 ≤ q ∧ q ≤ 2 + A 1) → ¬ (6 ≤ q ∧ q ≤ 6 + A 1) → m 150 q = A q) → (∀ c q, ¬ c = 150 → m c q = m0 c q) →
    ∃ m', Mo_support_L45 x K n i m = K p m' ∧ (∀ j, 0 ≤ j → j < p → m' 150 (2 + j) = A (2 + j) ∧ m' 150 (6 + j) = A (6 + j)) ∧ (∀ j, p < j → j ≤ A 1 → m' 150 (2 + j) = A (2 + (j - 1)) ∧ m' 150 (6 + j) = A (6 + (j - 1))) ∧ (∀ q, ¬ (2 ≤ q ∧ q ≤ 2 + A 1) → ¬ (6 ≤ q ∧ q ≤ 6 + A 1) → m' 150 q = A q) ∧ (∀ c q, ¬ c = 150 → m' c q = m0 c q) := by
  have l10 := v.1
  obtain ⟨p0, p1, p2, p3⟩ := hp
  intro d
  induction d with
  | zero =>
    intro n i m hi hA hd I1 I2 I3 F
    obtain ⟨n', rfl⟩ : ∃ n', n = n' + 1 := ⟨n - 1, by omega⟩
    have e : i = p := by omega
    subst e
    refine ⟨m, ?_, I1, I2, I3, F⟩
    rw [Mo_support_L45, s32_id (a := i) (by omega) (by omega)]
    by_cases c : i ≤ 0
    · rw [if_pos c]
    · have w := p2 (i - 1) (by omega) (by omega)
      have t := VA_at v (k := i - 1) (by omega) (by omega)
      rw [if_neg c, ck_id (by omega) (by omega) (by omega), s32_id (a := 2 + i - 1) (by omega) (by omega), show 2 + i - 1 = 2 + (i - 1) by omega, (I1 (i - 1) (by omega) (by omega)).1, show A (2 + (i - 1)) = aT A (i - 1) from rfl, s32_id (a := aT A (i - 1)) (by omega) (by omega), s32_id (a := x) (by omega) (by omega), if_pos (by omega)]
  | succ d ih =>
    intro n i m hi hA hd I1 I2 I3 F
    obtain ⟨n', rfl⟩ : ∃ n', n = n' + 1 := ⟨n - 1, by omega⟩
    have w := p3 (i - 1) (by omega) (by omega)
    have t := VA_at v (k := i - 1) (by omega) (by omega)
    have q := I1 (i - 1) (by omega) (by omega)
    rw [Mo_support_L45, s32_id (a := i) (by omega) (by omega), if_neg (by omega), ck_id (by omega) (by omega) (by omega), s32_id (a := 2 + i - 1) (by omega) (by omega), show 2 + i - 1 = 2 + (i - 1) by omega, q.1, show A (2 + (i - 1)) = aT A (i - 1) from rfl, s32_id (a := aT A (i - 1)) (by omega) (by omega), s32_id (a := x) (by omega) (by omega), if_neg (by omega), ck_id (by omega) (by omega) (by omega), ck_id (by omega) (by omega) (by omega), s32_id (a := 2 + i) (by omega) (by omega), lt_id, ck_id (by omega) (by omega) (by omega), ck_id (by omega) (by omega) (by omega), s32_id (a := 6 + i) (by omega) (by omega), s32_id (a := 6 + i - 1) (by omega) (by omega), lt_id, mset_if, if_neg (by omega), show 6 + i - 1 = 6 + (i - 1) by omega, q.2]
    refine ih n' (i + -1) _ (by omega) (by omega) (by omega) (fun j j0 j1 => ?_) (fun j j0 j1 => ?_) (fun r h1 h2 => by rw [mset_c, if_neg (by omega), mset_c, if_neg (by omega)]; exact I3 r h1 h2) (fun c r hc => by rw [mset_if, if_neg (by omega), mset_if, if_neg (by omega)]; exact F c r hc)
    · have z := I1 j j0 (by omega)
      exact ⟨by rw [mset_c, if_neg (by omega), mset_c, if_neg (by omega)]; exact z.1, by rw [mset_c, if_neg (by omega), mset_c, if_neg (by omega)]; exact z.2⟩
    · by_cases c : j = i
      · rw [c]
        refine ⟨?_, ?_⟩
        · rw [mset_c, if_neg (by omega), mset_here]; rfl
        · rw [mset_here]
      · have z := I2 j (by omega) j1
        exact ⟨by rw [mset_c, if_neg (by omega), mset_c, if_neg (by omega)]; exact z.1, by rw [mset_c, if_neg (by omega), mset_c, if_neg (by omega)]; exact z.2⟩
theorem ins_of {A B : Int → Int} {p x : Int} (h : 0 ≤ A 1 ∧ A 1 ≤ 3) (hp : 0 ≤ p ∧ p ≤ A 1) (b1 : ∀ j, 0 ≤ j → j < p → B (2 + j) = A (2 + j) ∧ B (6 + j) = A (6 + j)) (b2 : ∀ j, p < j → j ≤ A 1 → B (2 + j) = A (2 + (j - 1)) ∧ B (6 + j) = A (6 + (j - 1))) (b3 : ∀ q, ¬ (2 ≤ q ∧ q ≤ 2 + A 1) → ¬ (6 ≤ q ∧ q ≤ 6 + A 1) → B q = A q) : (fun i => if i = 1 then A 1 + 1 else if i = 6 + p then 0 else if i = 2 + p then x else B i) = insA A p x := by
  funext i
  by_cases c1 : i = 1
  · rw [if_pos c1, c1]; exact (if_pos rfl).symm
  rw [if_neg c1]
  by_cases c2 : 2 ≤ i ∧ i ≤ 2 + A 1
  · have e := (ins_at (A := A) (p := p) (x := x) (j := i - 2) h (by omega) (by omega)).1
    rw [show 2 + (i - 2) = i by omega] at e
    rw [e, if_neg (show ¬ i = 6 + p by omega)]
    by_cases d : i - 2 < p
    · have z := (b1 (i - 2) (by omega) d).1
      rw [show 2 + (i - 2) = i by omega] at z
      rw [if_pos d, if_neg (by omega), z]
    · rw [if_neg d]
      by_cases g : i - 2 = p
      · rw [if_pos g, if_pos (by omega)]
      · have z := (b2 (i - 2) (by omega) (by omega)).1
        rw [show 2 + (i - 2) = i by omega] at z
        rw [if_neg g, if_neg (by omega), z]
  · by_cases c3 : 6 ≤ i ∧ i ≤ 6 + A 1
    · have e := (ins_at (A := A) (p := p) (x := x) (j := i - 6) h (by omega) (by omega)).2
      rw [show 6 + (i - 6) = i by omega] at e
      rw [e]
      by_cases d : i - 6 < p
      · have z := (b1 (i - 6) (by omega) d).2
        rw [show 6 + (i - 6) = i by omega] at z
        rw [if_pos d, if_neg (by omega), if_neg (by omega), z]
      · rw [if_neg d]
        by_cases g : i - 6 = p
        · rw [if_pos g, if_pos (by omega)]
        · have z := (b2 (i - 6) (by omega) (by omega)).2
          rw [show 6 + (i - 6) = i by omega] at z
          rw [if_neg g, if_neg (by omega), if_neg (by omega), z]
    · rw [if_neg (by omega), if_neg (by omega), b3 i c2 c3]
      unfold insA
      rw [if_neg c1, if_neg c2, if_neg c3]
def atB (A : Int → Int) (x : Int) : Int := if (0 < A 1 ∧ aT A 0 = x) ∨ (1 < A 1 ∧ aT A 1 = x) ∨ (2 < A 1 ∧ aT A 2 = x) ∨ (3 < A 1 ∧ aT A 3 = x) then 1 else 0
theorem atB_1 {A : Int → Int} {x k : Int} (h : A 1 ≤ 4) (k0 : 0 ≤ k) (k1 : k < A 1) (k2 : aT A k = x) : atB A x = 1 := by
  unfold atB
  refine if_pos ?_
  rcases (show k = 0 ∨ k = 1 ∨ k = 2 ∨ k = 3 by omega) with rfl | rfl | rfl | rfl
  · exact Or.inl ⟨k1, k2⟩
  · exact Or.inr (Or.inl ⟨k1, k2⟩)
  · exact Or.inr (Or.inr (Or.inl ⟨k1, k2⟩))
  · exact Or.inr (Or.inr (Or.inr ⟨k1, k2⟩))
theorem atB_0 {A : Int → Int} {x : Int} (h : ∀ k, 0 ≤ k → k < A 1 → ¬ aT A k = x) : ¬ atB A x = 1 := by
  unfold atB
  rw [if_neg]
  · decide
  · intro z
    rcases z with z | z | z | z
    · exact h 0 (by omega) z.1 z.2
    · exact h 1 (by omega) z.1 z.2
    · exact h 2 (by omega) z.1 z.2
    · exact h 3 (by omega) z.1 z.2
theorem whyNotSupport_eq {m : Mem} {a : Nat} {A : Int → Int} (v : VA A) (h : RB m a A) {x : Int} (hx : r32 x) : Beam_whyNotSupport a x m = some (if 0 ≤ x ∧ x ≤ A 0 then (if atB A x = 1 then -6 else if A 1 < 4 then 0 else -3) else -1) := by
  have n4 := v.2.1
  have l10 := v.1
  have e4 : s32 4 = 4 := s32_id (by decide) (by decide)
  unfold Beam_whyNotSupport
  rw [Beam_isPlace_eq hx (by rw [h.1]; exact r32_of (by omega)), h.1, ob_some, h.2.1, s32_id (a := A 1) (by omega) (by omega), e4]
  by_cases c : 0 ≤ x ∧ x ≤ A 0
  · rw [if_pos c, if_pos c, s32_1, if_1]
    rcases numberAt_eq v h hx with ⟨k, k0, k1, k2, k3⟩ | ⟨k2, k3⟩
    · rw [k3, ob_some, s32_id (a := k) (by omega) (by omega), if_neg (by omega), if_pos (atB_1 n4.2 k0 k1 k2)]
    · rw [k3, ob_some, s32_id (a := -1) (by decide) (by decide), if_pos (by decide), if_neg (atB_0 k2)]
      by_cases d : A 1 < 4
      · rw [if_pos d, if_pos d]
      · rw [if_neg d, if_neg d]
  · rw [if_neg c, if_neg c, s32_0, if_0]
