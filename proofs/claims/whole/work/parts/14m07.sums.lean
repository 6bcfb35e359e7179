/-! sums over places and over loads; loops -/
/-- g i + g (i+1) + .. , d of them -/
def isum (g : Int → Int) : Int → Nat → Int
  | _, 0 => 0
  | i, d + 1 => g i + isum g (i + 1) d
theorem loopA {α : Type} (F : Nat → Int → Int → Option α) (N : Int) (g : Int → Int) (k : Int → Option α) (h1 : ∀ n a, F (n + 1) a N = k a) (lo : Int) (h2 : ∀ n a i, lo ≤ i → i < N → F (n + 1) a i = F n (a + g i) (i + 1)) :
    ∀ (d n : Nat) (a i : Int), lo ≤ i → i + (d : Int) = N → d < n → F n a i = k (a + isum g i d) := by
  intro d
  induction d with
  | zero =>
    intro n a i h0 h3 h4
    obtain ⟨n', rfl⟩ : ∃ n', n = n' + 1 := ⟨n - 1, by omega⟩
    have : i = N := by omega
    subst this
    rw [h1]; show k a = k (a + 0); rw [Int.add_zero]
  | succ d ih =>
    intro n a i h0 h3 h4
    obtain ⟨n', rfl⟩ : ∃ n', n = n' + 1 := ⟨n - 1, by omega⟩
    rw [h2 n' a i h0 (by omega), ih n' _ (i + 1) (by omega) (by omega) (by omega)]
    show k (a + g i + isum g (i + 1) d) = k (a + (g i + isum g (i + 1) d))
    rw [Int.add_assoc]
theorem loopM {α : Type} (F : Nat → Int → Mem → Option α) (N : Int) (I : Int → Mem → Prop) (k : Mem → Option α) (lo : Int) (h1 : ∀ n m, I N m → F (n + 1) N m = k m) (h2 : ∀ n i m, lo ≤ i → i < N → I i m → ∃ m', F (n + 1) i m = F n (i + 1) m' ∧ I (i + 1) m') :
    ∀ (d n : Nat) (i : Int) (m : Mem), lo ≤ i → i + (d : Int) = N → d < n → I i m → ∃ m', F n i m = k m' ∧ I N m' := by
  intro d
  induction d with
  | zero =>
    intro n i m h0 h3 h4 hI
    obtain ⟨n', rfl⟩ : ∃ n', n = n' + 1 := ⟨n - 1, by omega⟩
    have : i = N := by omega
    subst this
    exact ⟨m, h1 n' m hI, hI⟩
  | succ d ih =>
    intro n i m h0 h3 h4 hI
    obtain ⟨n', rfl⟩ : ∃ n', n = n' + 1 := ⟨n - 1, by omega⟩
    obtain ⟨m', e, hI'⟩ := h2 n' i m h0 (by omega) hI
    obtain ⟨m'', e', hI''⟩ := ih n' (i + 1) m' (by omega) (by omega) (by omega) hI'
    exact ⟨m'', by rw [e, e'], hI''⟩
theorem isum_congr {g h : Int → Int} : ∀ (d : Nat) (i : Int), (∀ j, i ≤ j → j < i + d → g j = h j) → isum g i d = isum h i d := by
  intro d
  induction d with
  | zero => intro i _; rfl
  | succ d ih =>
    intro i hj
    show g i + isum g (i + 1) d = h i + isum h (i + 1) d
    rw [hj i (by omega) (by omega), ih (i + 1) (fun j a b => hj j (by omega) (by omega))]
/-- the sum over the first n loads of A of f at its ends, v times -/
def lsum (A : Int → Int) (f : Int → Int → Int) : Nat → Int
  | 0 => 0
  | n + 1 => lsum A f n + A (23 + (n : Int)) * f (A (11 + (n : Int))) (A (17 + (n : Int)))
def ZS (A : Int → Int) (f : Int → Int → Int) : Int := lsum A f (A 10).toNat
theorem lsum_add (A : Int → Int) (f g : Int → Int → Int) : ∀ n, lsum A (fun x y => f x y + g x y) n = lsum A f n + lsum A g n := by
  intro n
  induction n with
  | zero => rfl
  | succ n ih => simp only [lsum]; rw [ih, Int.mul_add]; omega
theorem lsum_mul (A : Int → Int) (c : Int) (f : Int → Int → Int) : ∀ n, lsum A (fun x y => c * f x y) n = c * lsum A f n := by
  intro n
  induction n with
  | zero => simp [lsum]
  | succ n ih => simp only [lsum]; rw [ih, Int.mul_add, Int.mul_left_comm]
theorem lsum_zero (A : Int → Int) : ∀ n, lsum A (fun _ _ => 0) n = 0 := by
  intro n
  induction n with
  | zero => rfl
  | succ n ih => simp only [lsum]; rw [ih]; simp
theorem ZS_add (A : Int → Int) (f g : Int → Int → Int) : ZS A (fun x y => f x y + g x y) = ZS A f + ZS A g := lsum_add A f g _
theorem ZS_mul (A : Int → Int) (c : Int) (f : Int → Int → Int) : ZS A (fun x y => c * f x y) = c * ZS A f := lsum_mul A c f _
theorem ZS_zero (A : Int → Int) : ZS A (fun _ _ => 0) = 0 := lsum_zero A _
theorem lsum_congr (A : Int → Int) {f g : Int → Int → Int} : ∀ n : Nat, (∀ k : Nat, k < n → f (A (11 + (k : Int))) (A (17 + (k : Int))) = g (A (11 + (k : Int))) (A (17 + (k : Int)))) → lsum A f n = lsum A g n := by
  intro n
  induction n with
  | zero => intro _; rfl
  | succ n ih =>
    intro h
    simp only [lsum]
    rw [ih (fun k hk => h k (by omega)), h n (by omega)]
theorem ZS_congr {A : Int → Int} (hA : VA A) {f g : Int → Int → Int} (h : ∀ x y, 0 ≤ x → x ≤ y → y ≤ A 0 → f x y = g x y) : ZS A f = ZS A g := by
  refine lsum_congr A _ (fun k hk => ?_)
  obtain ⟨v1, v2, v3, v4, v5, v6, v7, v8⟩ := hA
  obtain ⟨a1, a2, a3, a4, a5⟩ := v7 k (by omega) (by omega)
  exact h _ _ a1 a2 a3
/-- sums of the places' lumps and spreads are sums over loads -/
theorem ZS_isum (A : Int → Int) (c : Int → Int) (f : Int → Int → Int → Int) : ∀ (d : Nat) (i : Int), isum (fun k => c k * ZS A (f k)) i d = ZS A (fun x y => isum (fun k => c k * f k x y) i d) := by
  intro d
  induction d with
  | zero => intro i; exact (ZS_zero A).symm
  | succ d ih =>
    intro i
    show c i * ZS A (f i) + isum (fun k => c k * ZS A (f k)) (i + 1) d = _
    rw [ih (i + 1), ← ZS_mul, ← ZS_add]
    rfl
theorem isum_add (g h : Int → Int) : ∀ (d : Nat) (i : Int), isum (fun k => g k + h k) i d = isum g i d + isum h i d := by
  intro d
  induction d with
  | zero => intro i; rfl
  | succ d ih => intro i; simp only [isum]; rw [ih]; omega
theorem isum_neg (g : Int → Int) : ∀ (d : Nat) (i : Int), isum (fun k => - g k) i d = - isum g i d := by
  intro d
  induction d with
  | zero => intro i; rfl
  | succ d ih => intro i; simp only [isum]; rw [ih]; omega
theorem lsum_bound (A : Int → Int) (f : Int → Int → Int) (B : Int) (hB : 0 ≤ B) : ∀ n : Nat, (∀ k : Nat, k < n → -9 ≤ A (23 + (k : Int)) ∧ A (23 + (k : Int)) ≤ 9 ∧ -B ≤ f (A (11 + (k : Int))) (A (17 + (k : Int))) ∧ f (A (11 + (k : Int))) (A (17 + (k : Int))) ≤ B) → -(9 * B * n) ≤ lsum A f n ∧ lsum A f n ≤ 9 * B * n := by
  intro n
  induction n with
  | zero => intro _; simp [lsum]
  | succ n ih =>
    intro h
    obtain ⟨i1, i2⟩ := ih (fun k hk => h k (by omega))
    obtain ⟨v1, v2, f1, f2⟩ := h n (by omega)
    simp only [lsum]
    generalize A (23 + (n : Int)) = v at *
    generalize f (A (11 + (n : Int))) (A (17 + (n : Int))) = w at *
    have e : 9 * B * ((n + 1 : Nat) : Int) = 9 * B * n + 9 * B := by grind
    have m1 : v * w ≤ 9 * B ∧ -(9 * B) ≤ v * w := by
      have a1 : 0 ≤ (9 - v) * (B - w) := Int.mul_nonneg (by omega) (by omega)
      have a2 : 0 ≤ (9 - v) * (B + w) := Int.mul_nonneg (by omega) (by omega)
      have a3 : 0 ≤ (9 + v) * (B - w) := Int.mul_nonneg (by omega) (by omega)
      have a4 : 0 ≤ (9 + v) * (B + w) := Int.mul_nonneg (by omega) (by omega)
      grind
    omega
theorem ZS_bound {A : Int → Int} (hA : VA A) {f : Int → Int → Int} (B : Int) (hB : 0 ≤ B) (h : ∀ x y, 0 ≤ x → x ≤ y → y ≤ A 0 → -B ≤ f x y ∧ f x y ≤ B) : -(54 * B) ≤ ZS A f ∧ ZS A f ≤ 54 * B := by
  obtain ⟨v1, v2, v3, v4, v5, v6, v7, v8⟩ := hA
  have k := lsum_bound A f B hB (A 10).toNat (fun k hk => by
    obtain ⟨a1, a2, a3, a4, a5⟩ := v7 k (by omega) (by omega)
    exact ⟨a4, a5, h _ _ a1 a2 a3⟩)
  have e : 9 * B * (((A 10).toNat : Nat) : Int) ≤ 9 * B * 6 := Int.mul_le_mul_of_nonneg_left (by omega) (by omega)
  unfold ZS
  omega
