/-! loads that roll along it -/
def rlA (A B0 : Int → Int) (p : Int) : Nat → Int → Int
  | 0 => noA B0
  | n + 1 => if 0 ≤ p - A (30 + (n : Int)) ∧ p - A (30 + (n : Int)) ≤ A 0 then putA (rlA A B0 p n) (p - A (30 + (n : Int))) (A (33 + (n : Int))) else rlA A B0 p n
def gA (A : Int → Int) : Nat → Int → Int
  | 0 => A
  | p + 1 => rlA A (gA A p) (p : Int) (A 29).toNat
def rlF (A : Int → Int) (p : Nat) : Int → Int := gA A (p + 1)
theorem rl_ok {A B0 : Int → Int} (v : VA A) (v0 : VA B0) (h0 : ∀ i, i < 10 ∨ 29 ≤ i → B0 i = A i) (p : Int) : ∀ n : Nat, (n : Int) ≤ A 29 → VA (rlA A B0 p n) ∧ (0 ≤ rlA A B0 p n 10 ∧ rlA A B0 p n 10 ≤ (n : Int)) ∧ (∀ i, i < 10 ∨ 29 ≤ i → rlA A B0 p n i = A i) := by
  have v4 := v.2.2.2.1
  intro n
  induction n with
  | zero =>
    intro _
    refine ⟨VA_no v0, by show 0 ≤ (0 : Int) ∧ (0 : Int) ≤ 0; decide, fun i hi => ?_⟩
    show (if i = 10 then 0 else B0 i) = A i
    rw [if_neg (by omega)]
    exact h0 i hi
  | succ n ih =>
    intro h
    obtain ⟨a, b, c⟩ := ih (by omega)
    obtain ⟨v1, v2, v3, v4', v5, v6, v7, v8⟩ := v
    have ax := v8 (n : Int) (by omega) (by omega)
    simp only [rlA]
    by_cases x : 0 ≤ p - A (30 + (n : Int)) ∧ p - A (30 + (n : Int)) ≤ A 0
    · rw [if_pos x]
      have s0 : rlA A B0 p n 0 = A 0 := c 0 (by omega)
      refine ⟨VA_put a (by omega) (by rw [s0]; exact x) (by omega), ?_, fun i hi => ?_⟩
      · have := (put_new (B := rlA A B0 p n) (x := p - A (30 + (n : Int))) (w := A (33 + (n : Int))) (by omega)).1
        rw [this]; omega
      · rw [put_same (by omega)]; exact c i hi
    · rw [if_neg x]
      exact ⟨a, by omega, c⟩
theorem gA_ok {A : Int → Int} (v : VA A) : ∀ p : Nat, VA (gA A p) ∧ (∀ i, i < 10 ∨ 29 ≤ i → gA A p i = A i) := by
  intro p
  induction p with
  | zero => exact ⟨v, fun _ _ => rfl⟩
  | succ p ih =>
    have := rl_ok v ih.1 ih.2 (p : Int) (A 29).toNat (by have := v.2.2.2.1; omega)
    exact ⟨this.1, this.2.2⟩
theorem rlF_ok {A : Int → Int} (v : VA A) (p : Nat) : VA (rlF A p) ∧ (∀ i, i < 10 ∨ 29 ≤ i → rlF A p i = A i) := gA_ok v (p + 1)
theorem roll_cls {mem : Mem} {A : Int → Int} (v : VA A) (h : RB mem 1 A) {p : Nat} (hp : p ≤ 19) (K : Mem → Option Mem) : ∀ (d n : Nat) (i : Nat) (m : Mem), (i : Int) + (d : Int) = A 29 → d < n → SF m (rlA A (gA A p) p i) → (∀ c q, (c < 111 ∨ 115 < c) → m c q = mem c q) → ∃ m', BP_solveRolling_L13 (p : Int) K n (i : Int) m = K m' ∧ SF m' (rlF A p) ∧ (∀ c q, (c < 111 ∨ 115 < c) → m' c q = mem c q) := by
  have v4 := v.2.2.2.1
  have l10 := v.1
  obtain ⟨b1, b2, b3, b4, b5, b6, b7⟩ := h
  intro d
  induction d with
  | zero =>
    intro n i m hi hd S F
    obtain ⟨n', rfl⟩ : ∃ n', n = n' + 1 := ⟨n - 1, by omega⟩
    refine ⟨m, ?_, by show SF m (rlA A (gA A p) (p : Int) (A 29).toNat); rw [show (A 29).toNat = i by omega]; exact S, F⟩
    rw [BP_solveRolling_L13, F 1 9 (by omega), b4, show A 29 = (i : Int) by omega, if_pos (Int.le_refl _)]
  | succ d ih =>
    intro n i m hi hd S F
    obtain ⟨n', rfl⟩ : ∃ n', n = n' + 1 := ⟨n - 1, by omega⟩
    obtain ⟨ra, rb, rc⟩ := rl_ok v (gA_ok v p).1 (gA_ok v p).2 (p : Int) i (by omega)
    have ax := v.2.2.2.2.2.2.2 (i : Int) (by omega) (by omega)
    have w := b7 (i : Int) (by omega) (by omega)
    simp only [Nat.reduceAdd] at w
    have s0 : rlA A (gA A p) p i 0 = A 0 := rc 0 (by omega)
    rw [BP_solveRolling_L13, F 1 9 (by omega), b4, s32_id (a := A 29) (by omega) (by omega), s32_id (a := (i : Int)) (by omega) (by omega), if_neg (by omega), ck_id (by omega) (by omega) (by omega), ck_id (by omega) (by omega) (by omega), F 8 (i : Int) (by omega), F 9 (i : Int) (by omega), w.1, w.2]
    have nx : rlA A (gA A p) p (i + 1) = if 0 ≤ (p : Int) - A (30 + (i : Int)) ∧ (p : Int) - A (30 + (i : Int)) ≤ A 0 then putA (rlA A (gA A p) p i) ((p : Int) - A (30 + (i : Int))) (A (33 + (i : Int))) else rlA A (gA A p) p i := rfl
    by_cases x : 0 ≤ (p : Int) - A (30 + (i : Int)) ∧ (p : Int) - A (30 + (i : Int)) ≤ A 0
    · have bp := bear_put (x := (p : Int) - A (30 + (i : Int))) (w := A (33 + (i : Int))) ra S (by omega) (by rw [s0]; exact x) (by omega)
      rw [if_pos x] at nx
      rw [bp.1, ob_some, show (i : Int) + 1 = ((i + 1 : Nat) : Int) by omega]
      exact ih n' (i + 1) _ (by omega) (by omega) (by rw [nx]; exact bp.2) (fun c q hc => by rw [mset_if, if_neg (by omega)]; exact F c q hc)
    · rw [if_neg x] at nx
      have hl : m 111 0 = A 0 := by rw [S.1.1]; exact s0
      rw [bearPoint_out (by rw [hl]; exact x) (by rw [hl]; omega) (r32_of (by omega)), ob_some, show (i : Int) + 1 = ((i + 1 : Nat) : Int) by omega]
      exact ih n' (i + 1) m (by omega) (by omega) (by rw [nx]; exact S) F
theorem solveRolling_eq {mem : Mem} {A : Int → Int} (v : VA A) (hn : 2 ≤ A 1) (h : RB mem 1 A) {p : Nat} (hp : p ≤ 19) : ∃ m', BP_solveRolling (p : Int) mem = some m' ∧ SV m' (rlF A p) ∧ sfr m' mem := by
  have v4 := v.2.2.2.1
  obtain ⟨m1, a1, a2', a3⟩ := frame_no v h
  have a2 : SF m1 (rlA A (gA A p) (p : Int) 0) := by
    have g := gA_ok v p
    have n4 := v.2.1
    have e : ∀ i, i < 10 ∨ 29 ≤ i → noA (gA A p) i = noA A i := fun i hi => by unfold noA; rw [g.2 i hi]
    refine ⟨⟨by rw [a2'.1.1]; exact (e 0 (by omega)).symm, by rw [a2'.1.2.1]; exact (e 1 (by omega)).symm, fun k k0 k1 => ?_⟩, fun k k0 k1 => a2'.2 k k0 k1⟩
    have k1' : k < A 1 := by
      have : noA (gA A p) 1 = A 1 := by rw [e 1 (by omega)]; rfl
      have k2 : k < noA (gA A p) 1 := k1
      omega
    have w := a2'.1.2.2 k k0 k1'
    show m1 112 k = noA (gA A p) (2 + k) ∧ m1 113 k = noA (gA A p) (6 + k)
    rw [e (2 + k) (by omega), e (6 + k) (by omega)]
    exact w
  have R := rlF_ok v p
  have s1 : rlF A p 1 = A 1 := R.2 1 (by omega)
  obtain ⟨m2, b1, b2, b3⟩ := roll_cls v h hp (fun m2 => (Sta_solve m2).bind (fun m3 => some m3)) (A 29).toNat 2000 0 m1 (by omega) (by omega) a2 a3
  obtain ⟨m3, c1, c2, c3⟩ := solve_eq R.1 (by rw [s1]; exact hn) b2
  unfold BP_solveRolling
  rw [a1, ob_some, jn_id]
  have b1' : BP_solveRolling_L13 (p : Int) (fun m2 => (Sta_solve m2).bind (fun m3 => some m3)) 2000 0 m1 = (Sta_solve m2).bind (fun m3 => some m3) := b1
  rw [b1', c1, ob_some]
  exact ⟨m3, rfl, c2, fun c i hc => by rw [c3 c i (by omega) (by omega) (by omega) (by omega) (by omega), b3 c i (by omega)]⟩
/-- the k-th of the sums: the best so far of the first p fronts -/
def rsN (A : Int → Int) (x k : Int) : Nat → Int × Int × Int × Int
  | 0 => (0, 0, 0, 0)
  | p + 1 => updS (rsN A x k p) (aN (rlF A p) x k) (aD (rlF A p) k) (p : Int) 1
theorem rs_pos {A : Int → Int} (v : VA A) (hn : 2 ≤ A 1) {x k : Int} (hx : 0 ≤ x ∧ x ≤ A 0) (hk : -1 ≤ k ∧ k < A 1) : ∀ p : Nat, okS (rsN A x k p) ∧ (0 < p → 0 < (rsN A x k p).2.1 ∧ 0 ≤ (rsN A x k p).2.2.1 ∧ (rsN A x k p).2.2.1 < (p : Int)) := by
  intro p
  induction p with
  | zero => exact ⟨okS_zero, fun h => by omega⟩
  | succ p ih =>
    have R := rlF_ok v p
    have s1 : rlF A p 1 = A 1 := R.2 1 (by omega)
    have s0 : rlF A p 0 = A 0 := R.2 0 (by omega)
    have b := aN_b R.1 (by rw [s1]; exact hn) (x := x) (k := k) (by rw [s0]; exact hx) (by rw [s1]; exact hk.2)
    simp only [rsN]
    refine ⟨okS_updS ih.1 ⟨b.2.1, by omega⟩ (ab_mono b.1 (by decide)), fun _ => ?_⟩
    by_cases c : (rsN A x k p).2.1 = 0 ∨ (rsN A x k p).1 * aD (rlF A p) k < aN (rlF A p) x k * (rsN A x k p).2.1
    · rw [updS_yes c]
      exact ⟨b.2.1, by show 0 ≤ (p : Int); omega, by show (p : Int) < _; omega⟩
    · rw [updS_no c]
      by_cases z : 0 < p
      · have := ih.2 z; omega
      · have : p = 0 := by omega
        subst this
        exact absurd (Or.inl rfl) c
theorem roll_loop {mem : Mem} {A : Int → Int} (v : VA A) (hn : 2 ≤ A 1) (h : RB mem 1 A) {b : Nat} {i x k : Int} (hx : 0 ≤ x ∧ x ≤ A 0) (hk : -1 ≤ k ∧ k < A 1) (hi : 0 ≤ i ∧ i < (ln b : Int) ∧ i < 100) (hbc : b = 116 ∨ b = 118)
    (hb : ∀ m B, VA B → 2 ≤ B 1 → B 0 = A 0 → B 1 = A 1 → SV m B → b62 (m b i) ∧ nm (m b i) (DD B) = nm (aN B x k) (aD B k) ∧ dn (m b i) (DD B) = dn (aN B x k) (aD B k)) (K : Int → Mem → Option (Int × Mem)) :
    ∀ (d n : Nat) (p : Nat) (f : Int) (m : Mem), (p : Int) + (d : Int) = 20 → d < n → (∀ c q, (c < 111 ∨ 130 < c ∨ (119 ≤ c ∧ c ≤ 125)) → m c q = mem c q) → (0 < p → f = (rsN A x k p).2.2.1 ∧ m 129 0 = nm (rsN A x k p).1 (rsN A x k p).2.1 ∧ m 129 1 = dn (rsN A x k p).1 (rsN A x k p).2.1) →
    ∃ m', BP_mostByRolling_L6 b i K n f (p : Int) m = K (rsN A x k 20).2.2.1 m' ∧ (∀ c q, (c < 111 ∨ 130 < c ∨ (119 ≤ c ∧ c ≤ 125)) → m' c q = mem c q) ∧ m' 129 0 = nm (rsN A x k 20).1 (rsN A x k 20).2.1 ∧ m' 129 1 = dn (rsN A x k 20).1 (rsN A x k 20).2.1 := by
  intro d
  induction d with
  | zero =>
    intro n p f m hp hd F I
    obtain ⟨n', rfl⟩ : ∃ n', n = n' + 1 := ⟨n - 1, by omega⟩
    have e : p = 20 := by omega
    subst e
    obtain ⟨i1, i2, i3⟩ := I (by omega)
    refine ⟨m, ?_, F, i2, i3⟩
    rw [BP_mostByRolling_L6, s32_id (a := 19) (by decide) (by decide), s32_id (a := ((20 : Nat) : Int)) (by decide) (by decide), if_pos (by decide), i1]
  | succ d ih =>
    intro n p f m hp hd F I
    obtain ⟨n', rfl⟩ : ∃ n', n = n' + 1 := ⟨n - 1, by omega⟩
    have R := rlF_ok v p
    have s1 : rlF A p 1 = A 1 := R.2 1 (by omega)
    have s0 : rlF A p 0 = A 0 := R.2 0 (by omega)
    have rbm : RB m 1 A := RB_frame h (fun c q _ _ => F c q (by omega))
    obtain ⟨m7, e7, V7, f7⟩ := solveRolling_eq v hn rbm (p := p) (by omega)
    have B1 := (bnd R.1 (by rw [s1]; exact hn)).1
    obtain ⟨bb, n1, n2⟩ := hb m7 _ R.1 (by rw [s1]; exact hn) s0 s1 V7
    have ab1 := aN_b R.1 (by rw [s1]; exact hn) (x := x) (k := k) (by rw [s0]; exact hx) (by rw [s1]; exact hk.2)
    have d1 := dn_b (p := aN (rlF A p) x k) ab1.2.1
    have a1 := nm_ab (q := aD (rlF A p) k) ab1.1
    rw [BP_mostByRolling_L6, s32_id (a := 19) (by decide) (by decide), s32_id (a := (p : Int)) (by omega) (by omega), if_neg (by omega), e7, ob_some, ck_id hi.1 hi.2.1 (by omega), s32_id (a := i) (by omega) (by omega), V7.2.1, become_pos bb ⟨by omega, by omega⟩ B1.1, n1, n2, ob_some, jn_id]
    generalize hm8 : mset (mset m7 130 0 (nm (aN (rlF A p) x k) (aD (rlF A p) k))) 130 1 (dn (aN (rlF A p) x k) (aD (rlF A p) k)) = m8
    have r0 : m8 130 0 = nm (aN (rlF A p) x k) (aD (rlF A p) k) := by rw [← hm8]; simp [mset]
    have r1 : m8 130 1 = dn (aN (rlF A p) x k) (aD (rlF A p) k) := by rw [← hm8]; simp [mset]
    have fr8 : ∀ c q, ¬ c = 130 → m8 c q = m7 c q := fun c q hc => by rw [← hm8, mset_if, if_neg (by omega), mset_if, if_neg (by omega)]
    have F8 : ∀ c q, (c < 111 ∨ 130 < c ∨ (119 ≤ c ∧ c ≤ 125)) → m8 c q = mem c q := fun c q hc => by rw [fr8 c q (by omega), f7 c q (by omega)]; exact F c q hc
    have take : ∃ m9, Frac_copy 129 130 m8 = some m9 ∧ (∀ c q, ¬ c = 129 → m9 c q = m8 c q) ∧ m9 129 0 = nm (aN (rlF A p) x k) (aD (rlF A p) k) ∧ m9 129 1 = dn (aN (rlF A p) x k) (aD (rlF A p) k) := by
      unfold Frac_copy
      simp only [lt_id]
      refine ⟨_, rfl, fun c q hc => by rw [mset_if, if_neg (by omega), mset_if, if_neg (by omega)], ?_, ?_⟩
      · simp [mset, r0]
      · simp [mset, r1]
    obtain ⟨m9, e9, fr9, t0, t1⟩ := take
    have yes : (rsN A x k p).2.1 = 0 ∨ (rsN A x k p).1 * aD (rlF A p) k < aN (rlF A p) x k * (rsN A x k p).2.1 → ∃ m', (Frac_copy 129 130 m8).bind (fun m9 => BP_mostByRolling_L6 b i K n' (p : Int) ((p : Int) + 1) m9) = K (rsN A x k 20).2.2.1 m' ∧ (∀ c q, (c < 111 ∨ 130 < c ∨ (119 ≤ c ∧ c ≤ 125)) → m' c q = mem c q) ∧ m' 129 0 = nm (rsN A x k 20).1 (rsN A x k 20).2.1 ∧ m' 129 1 = dn (rsN A x k 20).1 (rsN A x k 20).2.1 := by
      intro c
      rw [e9, ob_some, show (p : Int) + 1 = ((p + 1 : Nat) : Int) by omega]
      refine ih n' (p + 1) (p : Int) m9 (by omega) (by omega) (fun c' q hc => by rw [fr9 c' q (by omega)]; exact F8 c' q hc) (fun _ => ?_)
      simp only [rsN]
      rw [updS_yes c]
      exact ⟨rfl, t0, t1⟩
    by_cases z : (p : Int) = 0
    · rw [if_pos z]
      have : p = 0 := by omega
      subst this
      exact yes (Or.inl rfl)
    · rw [if_neg z]
      obtain ⟨i1, i2, i3⟩ := I (by omega)
      have ps := rs_pos v hn hx hk p
      have ps2 := ps.2 (by omega)
      have os : (0 < (rsN A x k p).2.1 ∧ (rsN A x k p).2.1 ≤ 200000000000000) ∧ ab (rsN A x k p).1 3000000000000000000 := by
        rcases ps.1 with y | y
        · omega
        · exact y
      have d2 := dn_b (p := (rsN A x k p).1) os.1.1
      have a2 := nm_ab (q := (rsN A x k p).2.1) os.2
      have g0 : m8 129 0 = nm (rsN A x k p).1 (rsN A x k p).2.1 := by rw [fr8 _ _ (by decide), f7 _ _ (by omega)]; exact i2
      have g1 : m8 129 1 = dn (rsN A x k p).1 (rsN A x k p).2.1 := by rw [fr8 _ _ (by decide), f7 _ _ (by omega)]; exact i3
      rw [against_eq (by rw [r0]; exact b62_le a1 (by decide)) (by rw [g0]; exact b62_le a2 (by decide)) (by rw [r1]; omega) (by rw [g1]; omega), ob_some, r0, r1, g0, g1]
      have C := (cmp_nd (x := aN (rlF A p) x k) (d := aD (rlF A p) k) (y := (rsN A x k p).1) (e := (rsN A x k p).2.1) ab1.2.1 os.1.1).1
      have key : s32 (sgn (nm (aN (rlF A p) x k) (aD (rlF A p) k) * dn (rsN A x k p).1 (rsN A x k p).2.1 - nm (rsN A x k p).1 (rsN A x k p).2.1 * dn (aN (rlF A p) x k) (aD (rlF A p) k))) ≤ 0 ↔ ¬ ((rsN A x k p).1 * aD (rlF A p) k < aN (rlF A p) x k * (rsN A x k p).2.1) := by
        rw [← C]
        unfold sgn
        split
        · rw [s32_id (a := -1) (by decide) (by decide)]
          constructor <;> intro _ <;> omega
        · split
          · rw [s32_0]
            constructor <;> intro _ <;> omega
          · rw [s32_1]
            constructor <;> intro _ <;> omega
      by_cases c : (rsN A x k p).1 * aD (rlF A p) k < aN (rlF A p) x k * (rsN A x k p).2.1
      · rw [if_neg (fun y => key.mp y c)]
        exact yes (Or.inr c)
      · rw [if_pos (key.mpr c), show (p : Int) + 1 = ((p + 1 : Nat) : Int) by omega]
        refine ih n' (p + 1) f m8 (by omega) (by omega) F8 (fun _ => ?_)
        simp only [rsN]
        rw [updS_no (by intro y; rcases y with y | y; omega; exact c y)]
        exact ⟨i1, g0, g1⟩
