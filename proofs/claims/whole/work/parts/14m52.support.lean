/-! support -/
def insA (A : Int → Int) (p x : Int) : Int → Int := fun i => if i = 1 then A 1 + 1 else if 2 ≤ i ∧ i ≤ 2 + A 1 then (if i < 2 + p then A i else if i = 2 + p then x else A (i - 1)) else if 6 ≤ i ∧ i ≤ 6 + A 1 then (if i < 6 + p then A i else if i = 6 + p then 0 else A (i - 1)) else A i
theorem ins_at {A : Int → Int} {p x j : Int} (h : 0 ≤ A 1 ∧ A 1 ≤ 3) (j0 : 0 ≤ j) (j1 : j ≤ A 1) : insA A p x (2 + j) = (if j < p then A (2 + j) else if j = p then x else A (2 + (j - 1))) ∧ insA A p x (6 + j) = (if j < p then A (6 + j) else if j = p then 0 else A (6 + (j - 1))) := by
  unfold insA
  constructor
  · rw [if_neg (by omega), if_pos (show 2 ≤ 2 + j ∧ 2 + j ≤ 2 + A 1 by omega)]
    by_cases c : j < p
    · rw [if_pos (by omega), if_pos c]
    · rw [if_neg (by omega), if_neg c]
      by_cases d : j = p
      · rw [if_pos (by omega), if_pos d]
      · rw [if_neg (by omega), if_neg d, show 2 + j - 1 = 2 + (j - 1) by omega]
  · rw [if_neg (by omega), if_neg (show ¬ (2 ≤ 6 + j ∧ 6 + j ≤ 2 + A 1) by omega), if_pos (show 6 ≤ 6 + j ∧ 6 + j ≤ 6 + A 1 by omega)]
    by_cases c : j < p
    · rw [if_pos (by omega), if_pos c]
    · rw [if_neg (by omega), if_neg c]
      by_cases d : j = p
      · rw [if_pos (by omega), if_pos d]
      · rw [if_neg (by omega), if_neg d, show 6 + j - 1 = 6 + (j - 1) by omega]
theorem ins_ne {A : Int → Int} {p x i : Int} (h : 0 ≤ A 1 ∧ A 1 ≤ 3) (hi : i < 1 ∨ 10 ≤ i) : insA A p x i = A i := by
  unfold insA
  rw [if_neg (by omega), if_neg (by omega), if_neg (by omega)]
def spot (A : Int → Int) (p x : Int) : Prop := 0 ≤ p ∧ p ≤ A 1 ∧ (∀ j, 0 ≤ j → j < p → aT A j < x) ∧ (∀ j, p ≤ j → j < A 1 → x < aT A j)
theorem spot_ex {A : Int → Int} (v : VA A) (x : Int) (hno : ∀ k, 0 ≤ k → k < A 1 → ¬ aT A k = x) : ∃ p, spot A p x := by
  obtain ⟨k, k0, k1, k2, k3⟩ := last_before v x (A 1).toNat (by have := v.2.1; omega)
  have n4 := v.2.1
  refine ⟨k, k0, by omega, fun j j0 j1 => ?_, fun j j0 j1 => k3 j j0 (by omega)⟩
  have a := k2 j j0 j1
  have b := hno j j0 (by omega)
  omega
theorem VA_ins {A : Int → Int} (v : VA A) {p x : Int} (hn : A 1 < 4) (hx : 0 ≤ x ∧ x ≤ A 0) (hp : spot A p x) : VA (insA A p x) := by
  obtain ⟨v1, v2, v3, v4, v5, v6, v7, v8⟩ := v
  obtain ⟨p0, p1, p2, p3⟩ := hp
  have h3 : 0 ≤ A 1 ∧ A 1 ≤ 3 := by omega
  have s : ∀ i, i < 1 ∨ 10 ≤ i → insA A p x i = A i := fun i hi => ins_ne h3 hi
  have s1 : insA A p x 1 = A 1 + 1 := if_pos rfl
  refine ⟨by rw [s 0 (by omega)]; exact v1, by rw [s1]; omega, by rw [s 10 (by omega)]; exact v3, by rw [s 29 (by omega)]; exact v4, fun k k0 k1 => ?_, fun k k0 k1 => ?_, fun k k0 k1 => ?_, fun k k0 k1 => ?_⟩
  · rw [s1] at k1
    have e := ins_at (A := A) (p := p) (x := x) (j := k) h3 k0 (by omega)
    rw [e.1, e.2, s 0 (by omega)]
    by_cases c : k < p
    · rw [if_pos c, if_pos c]; exact v5 k k0 (by omega)
    · rw [if_neg c, if_neg c]
      by_cases d : k = p
      · rw [if_pos d, if_pos d]; exact ⟨hx.1, hx.2, Or.inl rfl⟩
      · rw [if_neg d, if_neg d]; exact v5 (k - 1) (by omega) (by omega)
  · rw [s1] at k1
    have e := (ins_at (A := A) (p := p) (x := x) (j := k) h3 k0 (by omega)).1
    have f := (ins_at (A := A) (p := p) (x := x) (j := k + 1) h3 (by omega) (by omega)).1
    rw [e, f]
    by_cases c : k + 1 < p
    · rw [if_pos (show k < p by omega), if_pos c]; exact v6 k k0 (by omega)
    · rw [if_neg c]
      by_cases d : k + 1 = p
      · rw [if_pos (show k < p by omega), if_pos d]; exact p2 k k0 (by omega)
      · rw [if_neg (show ¬ k < p by omega), if_neg d]
        by_cases g : k = p
        · rw [if_pos g, show k + 1 - 1 = k by omega]
          exact p3 k (by omega) (by omega)
        · rw [if_neg g, show k + 1 - 1 = (k - 1) + 1 by omega]
          exact v6 (k - 1) (by omega) (by omega)
  · rw [s 10 (by omega)] at k1
    rw [s (11 + k) (by omega), s (17 + k) (by omega), s (23 + k) (by omega), s 0 (by omega)]; exact v7 k k0 k1
  · rw [s 29 (by omega)] at k1
    rw [s (30 + k) (by omega), s (33 + k) (by omega)]; exact v8 k k0 k1
theorem put_loop {m0 : Mem} {a : Nat} {A : Int → Int} (v : VA A) (hn : A 1 < 4) {p x : Int} (hx : 0 ≤ x ∧ x ≤ 10) (hp : spot A p x) (K : Int → Mem → Option (Int × Mem)) : ∀ (d n : Nat) (i : Int) (m : Mem), p + (d : Int) = i → i ≤ A 1 → d < n → (∀ j, 0 ≤ j → j < i → m (a + 1) j = A (2 + j) ∧ m (a + 2) j = A (6 + j)) → (∀ j, i < j → j ≤ A 1 → m (a + 1) j = A (2 + (j - 1)) ∧ m (a + 2) j = A (6 + (j - 1))) → (∀ c q, ¬ (c = a + 1 ∨ c = a + 2) → m c q = m0 c q) →
    ∃ m', Beam_putSupport_L16 a x K n i m = K p m' ∧ (∀ j, 0 ≤ j → j < p → m' (a + 1) j = A (2 + j) ∧ m' (a + 2) j = A (6 + j)) ∧ (∀ j, p < j → j ≤ A 1 → m' (a + 1) j = A (2 + (j - 1)) ∧ m' (a + 2) j = A (6 + (j - 1))) ∧ (∀ c q, ¬ (c = a + 1 ∨ c = a + 2) → m' c q = m0 c q) := by
  have l10 := v.1
  obtain ⟨p0, p1, p2, p3⟩ := hp
  intro d
  induction d with
  | zero =>
    intro n i m hi hA hd I1 I2 F
    obtain ⟨n', rfl⟩ : ∃ n', n = n' + 1 := ⟨n - 1, by omega⟩
    have e : i = p := by omega
    subst e
    refine ⟨m, ?_, I1, I2, F⟩
    rw [Beam_putSupport_L16, s32_id (a := i) (by omega) (by omega)]
    by_cases c : i ≤ 0
    · rw [if_pos c]
    · have w := p2 (i - 1) (by omega) (by omega)
      have t := VA_at v (k := i - 1) (by omega) (by omega)
      rw [if_neg c, ck_id (by omega) (by omega) (by omega), s32_id (a := i - 1) (by omega) (by omega), (I1 (i - 1) (by omega) (by omega)).1, show A (2 + (i - 1)) = aT A (i - 1) from rfl, s32_id (a := aT A (i - 1)) (by omega) (by omega), s32_id (a := x) (by omega) (by omega), if_pos (by omega)]
  | succ d ih =>
    intro n i m hi hA hd I1 I2 F
    obtain ⟨n', rfl⟩ : ∃ n', n = n' + 1 := ⟨n - 1, by omega⟩
    have w := p3 (i - 1) (by omega) (by omega)
    have t := VA_at v (k := i - 1) (by omega) (by omega)
    have q := I1 (i - 1) (by omega) (by omega)
    rw [Beam_putSupport_L16, s32_id (a := i) (by omega) (by omega), if_neg (by omega), ck_id (by omega) (by omega) (by omega), s32_id (a := i - 1) (by omega) (by omega), q.1, show A (2 + (i - 1)) = aT A (i - 1) from rfl, s32_id (a := aT A (i - 1)) (by omega) (by omega), s32_id (a := x) (by omega) (by omega), if_neg (by omega), ck_id (by omega) (by omega) (by omega), ck_id (by omega) (by omega) (by omega), lt_id, ck_id (by omega) (by omega) (by omega), ck_id (by omega) (by omega) (by omega), lt_id, mset_if, if_neg (by omega), q.2]
    refine ih n' (i + -1) _ (by omega) (by omega) (by omega) (fun j j0 j1 => ?_) (fun j j0 j1 => ?_) (fun c r hc => by rw [mset_if, if_neg (by omega), mset_if, if_neg (by omega)]; exact F c r hc)
    · have z := I1 j j0 (by omega)
      exact ⟨by rw [mset_if, if_neg (by omega), mset_if, if_neg (by omega)]; exact z.1, by rw [mset_if, if_neg (by omega), mset_if, if_neg (by omega)]; exact z.2⟩
    · by_cases c : j = i
      · rw [c]
        refine ⟨?_, ?_⟩
        · rw [mset_if, if_neg (by omega), mset_here]; rfl
        · rw [mset_here]
      · have z := I2 j (by omega) j1
        exact ⟨by rw [mset_if, if_neg (by omega), mset_if, if_neg (by omega)]; exact z.1, by rw [mset_if, if_neg (by omega), mset_if, if_neg (by omega)]; exact z.2⟩
theorem putSupport_eq {m : Mem} {a : Nat} {A : Int → Int} (v : VA A) (h : RB m a A) (hn : A 1 < 4) {p x : Int} (hx : 0 ≤ x ∧ x ≤ A 0) (hp : spot A p x) : ∃ m', Beam_putSupport a x m = some (p, m') ∧ RB m' a (insA A p x) ∧ (∀ c i, ¬ (a ≤ c ∧ c ≤ a + 8) → m' c i = m c i) := by
  have l10 := v.1
  have n4 := v.2.1
  have v3 := v.2.2.1
  have v4 := v.2.2.2.1
  obtain ⟨h1, h2, h3, h4, h5, h6, h7⟩ := h
  have hp' := hp
  obtain ⟨p0, p1, p2, p3⟩ := hp'
  have e4 : s32 4 = 4 := s32_id (by decide) (by decide)
  have h33 : 0 ≤ A 1 ∧ A 1 ≤ 3 := by omega
  have s : ∀ i, i < 1 ∨ 10 ≤ i → insA A p x i = A i := fun i hi => ins_ne h33 hi
  have s1 : insA A p x 1 = A 1 + 1 := if_pos rfl
  unfold Beam_putSupport
  rw [h2, s32_id (a := A 1) (by omega) (by omega), e4, if_pos hn, lt_id, jn_id]
  obtain ⟨m3, e3, b1, b2, f3⟩ := put_loop v hn (by omega) hp (m0 := m) (a := a) (fun x2 m3 => ck x2 4 (lt (mset m3 (a + 1) (s32 x2) x) (fun m4 => ck x2 4 (lt (mset m4 (a + 2) (s32 x2) 0) (fun m5 => lt (mset m5 a 1 ((m5 a 1) + 1)) (fun m6 => some (x2, m6))))))) (A 1 - p).toNat 2000 (A 1) m (by omega) (by omega) (by omega) h5 (fun j j0 j1 => by omega) (fun _ _ _ => rfl)
  rw [e3, ck_id p0 (by omega) (by omega), s32_id (a := p) (by omega) (by omega), lt_id, ck_id p0 (by omega) (by omega), lt_id, lt_id]
  have q1 : mset (mset m3 (a + 1) p x) (a + 2) p 0 a 1 = A 1 := by rw [mset_if, if_neg (by omega), mset_if, if_neg (by omega), f3 a 1 (by omega)]; exact h2
  rw [q1]
  have g : ∀ c i, ¬ (c = a + 1 ∨ c = a + 2) → ¬ (c = a ∧ i = 1) → mset (mset (mset m3 (a + 1) p x) (a + 2) p 0) a 1 (A 1 + 1) c i = m c i := fun c i x1 x2 => by rw [mset_if, if_neg (by omega), mset_if, if_neg (by omega), mset_if, if_neg (by omega)]; exact f3 c i x1
  refine ⟨_, rfl, ⟨?_, ?_, ?_, ?_, fun k k0 k1 => ?_, fun k k0 k1 => ?_, fun k k0 k1 => ?_⟩, fun c i hc => g c i (by omega) (by omega)⟩
  · rw [s 0 (by omega), g _ _ (by omega) (by omega)]; exact h1
  · rw [s1, mset_here]
  · rw [s 10 (by omega), g _ _ (by omega) (by omega)]; exact h3
  · rw [s 29 (by omega), g _ _ (by omega) (by omega)]; exact h4
  · rw [s1] at k1
    have e := ins_at (A := A) (p := p) (x := x) (j := k) h33 k0 (by omega)
    have r1 : mset (mset (mset m3 (a + 1) p x) (a + 2) p 0) a 1 (A 1 + 1) (a + 1) k = if k = p then x else m3 (a + 1) k := by rw [mset_if, if_neg (by omega), mset_if, if_neg (by omega), mset_c]
    have r2 : mset (mset (mset m3 (a + 1) p x) (a + 2) p 0) a 1 (A 1 + 1) (a + 2) k = if k = p then 0 else m3 (a + 2) k := by
      rw [mset_if, if_neg (by omega), mset_c]
      by_cases c : k = p
      · rw [if_pos c, if_pos c]
      · rw [if_neg c, if_neg c, mset_if, if_neg (by omega)]
    rw [e.1, e.2, r1, r2]
    by_cases d : k < p
    · rw [if_pos d, if_pos d, if_neg (show ¬ k = p by omega), if_neg (show ¬ k = p by omega)]; exact b1 k k0 d
    · rw [if_neg d, if_neg d]
      by_cases c : k = p
      · rw [if_pos c, if_pos c, if_pos c, if_pos c]; exact ⟨rfl, rfl⟩
      · rw [if_neg c, if_neg c, if_neg c, if_neg c]; exact b2 k (by omega) (by omega)
  · rw [s 10 (by omega)] at k1
    rw [s (11 + k) (by omega), s (17 + k) (by omega), s (23 + k) (by omega), g _ _ (by omega) (by omega), g _ _ (by omega) (by omega), g _ _ (by omega) (by omega), g _ _ (by omega) (by omega)]
    exact h6 k k0 k1
  · rw [s 29 (by omega)] at k1
    rw [s (30 + k) (by omega), s (33 + k) (by omega), g _ _ (by omega) (by omega), g _ _ (by omega) (by omega)]
    exact h7 k k0 k1
