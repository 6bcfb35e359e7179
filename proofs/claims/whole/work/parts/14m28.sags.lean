/-! how much it sags: the class, all of it -/
/-- x is measured from the span j -/
def IsJ (A : Int → Int) (x j : Int) : Prop := 0 ≤ j ∧ j + 1 < A 1 ∧ (j = 0 ∨ aT A j ≤ x) ∧ (j = A 1 - 2 ∨ x ≤ aT A (j + 1))
theorem GG_a (A : Int → Int) (j : Int) : GG A j (aT A j) = 0 := by unfold GG; grind
theorem GG_b (A : Int → Int) (j : Int) : GG A j (aT A (j + 1)) = 0 := by unfold GG spA; grind
theorem VA_le2 {A : Int → Int} (v : VA A) {i j : Int} (h0 : 0 ≤ i) (h1 : i ≤ j) (h2 : j < A 1) : aT A i ≤ aT A j := by
  by_cases c : i = j
  · rw [c]; omega
  · have := VA_lt2 v h0 (show i < j by omega) h2; omega
def SI (m0 : Mem) (A : Int → Int) (i : Int) (m : Mem) : Prop := (∀ j, j < i → ∀ x, 0 ≤ x → x ≤ A 0 → IsJ A x j → m 119 x = QQ A j * GG A j x) ∧ (∀ c i, ¬ c = 119 → m c i = m0 c i)
theorem sags_step {m0 m : Mem} {A : Int → Int} (v : VA A) (hn : 2 ≤ A 1) (V : SV m0 A) {i : Int} (h0 : 0 ≤ i) (h1 : i + 1 < A 1) (I : SI m0 A i m) (n : Nat) : ∃ m', Sta_findSags_L19 (n + 1) i m = Sta_findSags_L19 n (i + 1) m' ∧ SI m0 A (i + 1) m' := by
  have l10 := v.1
  have n4 := v.2.1
  obtain ⟨I1, I2⟩ := I
  have V1 : SV m A := SV_sag V (fun c i hc _ => I2 c i hc)
  obtain ⟨m5, a1, a2, a3⟩ := sagSpan_eq v hn V1 h0 h1
  have ta := VA_at v h0 (show i < A 1 by omega)
  have tb := VA_at v (k := i + 1) (by omega) h1
  have tl := VA_lt v h0 h1
  have V5 : SV m5 A := SV_sag V1 (fun c i hc _ => a3 c i (fun z => hc z.1))
  have old5 : ∀ j, j < i → ∀ x, 0 ≤ x → x ≤ A 0 → IsJ A x j → m5 119 x = QQ A j * GG A j x := by
    intro j ji x x0 x1 hj
    obtain ⟨j0, j1, j2, j3⟩ := hj
    have q := VA_le2 v (i := j + 1) (j := i) (by omega) (by omega) (by omega)
    by_cases c : x = aT A i
    · rw [a2 x (by omega) (by omega), c, GG_a, Int.mul_zero]
      have : x = aT A (j + 1) := by omega
      rw [← c, this, GG_b, Int.mul_zero]
    · rw [a3 119 x (by omega)]
      exact I1 j ji x x0 x1 ⟨j0, j1, j2, j3⟩
  rw [Sta_findSags_L19, V1.1.1.2.1, s32_id (a := A 1) (by omega) (by omega), s32_id (a := i + 1) (by omega) (by omega), if_neg (by omega), a1, bdI_some, jn_id, s32_id (a := i) (by omega) (by omega)]
  have st1 : ∃ m6, (∀ K : Mem → Option Mem, (if ¬ i = 0 then K m5 else (Sta_sagAheadOfFirst (lf A i) m5).bind K) = K m6) ∧ (i = 0 → ∀ k, 0 ≤ k → k ≤ aT A i → m6 119 k = QQ A i * GG A i k) ∧ (∀ c q, ¬ (c = 119 ∧ i = 0 ∧ 0 ≤ q ∧ q < aT A i) → m6 c q = m5 c q) := by
    by_cases c : i = 0
    · subst c
      obtain ⟨m6, b1, b2, b3⟩ := sagAhead_eq v hn V5 (a2 _ (by omega) (by omega))
      exact ⟨m6, fun K => by rw [if_neg (fun z => z rfl), b1, ob_some], fun _ => b2, fun c q hc => b3 c q (by omega)⟩
    · exact ⟨m5, fun K => by rw [if_pos c], fun z => absurd z c, fun _ _ _ => rfl⟩
  obtain ⟨m6, b1, b2, b3⟩ := st1
  have V6 : SV m6 A := SV_sag V5 (fun c i hc _ => b3 c i (fun z => hc z.1))
  rw [b1 (fun m6 => if ¬ i = s32 (m6 111 1 - 2) then Sta_findSags_L19 n (i + 1) m6 else (Sta_sagBehindLast (lf A i) m6).bind fun m7 => Sta_findSags_L19 n (i + 1) m7)]
  rw [V6.1.1.2.1, s32_id (a := A 1 - 2) (by omega) (by omega)]
  have old6 : ∀ j, j < i → ∀ x, 0 ≤ x → x ≤ A 0 → IsJ A x j → m6 119 x = QQ A j * GG A j x := by
    intro j ji x x0 x1 hj
    rw [b3 119 x (by have := hj.1; omega)]
    exact old5 j ji x x0 x1 hj
  have new6 : ∀ x, 0 ≤ x → x ≤ aT A (i + 1) → (i = 0 ∨ aT A i ≤ x) → m6 119 x = QQ A i * GG A i x := by
    intro x x0 x1 x2
    by_cases c : i = 0 ∧ x ≤ aT A i
    · exact b2 c.1 x x0 c.2
    · rw [b3 119 x (by omega)]
      exact a2 x (by omega) x1
  have fr6 : ∀ c q, ¬ c = 119 → m6 c q = m0 c q := fun c q hc => by rw [b3 c q (by omega), a3 c q (by omega), I2 c q hc]
  by_cases c : i = A 1 - 2
  · have hl := new6 (aT A (A 1 - 2 + 1)) (by rw [← c]; omega) (by rw [← c]; omega) (Or.inr (by rw [← c]; omega))
    rw [c] at hl
    obtain ⟨m7, d1, d2, d3⟩ := sagBehind_eq v hn V6 hl
    rw [if_neg (fun z => z c)]
    conv => enter [1, m', 1, 1]; rw [c, d1, ob_some]
    refine ⟨m7, by rw [← c], ?_, fun c' q hc => by rw [d3 c' q (by omega), fr6 c' q hc]⟩
    intro j ji x x0 x1 hj
    by_cases e : j = i
    · rw [e] at hj ⊢
      by_cases f : aT A (i + 1) ≤ x
      · rw [c] at f ⊢; exact d2 x f x1
      · rw [d3 119 x (by rw [← c]; omega)]
        exact new6 x x0 (by omega) hj.2.2.1
    · have hj3 := hj.2.2.2
      have q := VA_le2 v (i := j + 1) (j := i + 1) (by have := hj.1; omega) (by omega) h1
      rw [d3 119 x (by rw [← c]; omega)]
      exact old6 j (by omega) x x0 x1 hj
  · rw [if_pos c]
    refine ⟨m6, rfl, ?_, fr6⟩
    intro j ji x x0 x1 hj
    by_cases e : j = i
    · rw [e] at hj ⊢
      exact new6 x x0 (by have := hj.2.2.2; omega) hj.2.2.1
    · exact old6 j (by omega) x x0 x1 hj
theorem sags_loop {m0 : Mem} {A : Int → Int} (v : VA A) (hn : 2 ≤ A 1) (V : SV m0 A) : ∀ (d n : Nat) (i : Int) (m : Mem), 0 ≤ i → i + 1 + (d : Int) = A 1 → d < n → SI m0 A i m → ∃ m', Sta_findSags_L19 n i m = some m' ∧ SI m0 A (A 1 - 1) m' := by
  intro d
  induction d with
  | zero =>
    intro n i m k0 k1 hd I
    obtain ⟨n', rfl⟩ : ∃ n', n = n' + 1 := ⟨n - 1, by omega⟩
    refine ⟨m, ?_, by rw [show A 1 - 1 = i by omega]; exact I⟩
    rw [Sta_findSags_L19, I.2 _ _ (by decide), V.1.1.2.1, show i + 1 = A 1 by omega, if_pos (Int.le_refl _)]
  | succ d ih =>
    intro n i m k0 k1 hd I
    obtain ⟨n', rfl⟩ : ∃ n', n = n' + 1 := ⟨n - 1, by omega⟩
    obtain ⟨m', e, I'⟩ := sags_step v hn V k0 (by omega) I n'
    obtain ⟨m2, e2, I2⟩ := ih n' (i + 1) m' (by omega) (by omega) (by omega) I'
    exact ⟨m2, by rw [e, e2], I2⟩
theorem findSags_eq {m : Mem} {A : Int → Int} (v : VA A) (hn : 2 ≤ A 1) (V : SV m A) : ∃ m', Sta_findSags m = some m' ∧ m' 111 10 = 24 * DD A * PP A ∧ SV m' A ∧ (∀ x j, 0 ≤ x → x ≤ A 0 → IsJ A x j → m' 119 x = QQ A j * GG A j x) ∧ (∀ c i, ¬ c = 119 → ¬ (c = 111 ∧ i = 10) → m' c i = m c i) := by
  unfold Sta_findSags
  rw [lt_id, V.2.1, V.2.2.1]
  have V1 : SV (mset m 111 10 (24 * DD A * PP A)) A := SV_sag V (fun c i hc h2 => by rw [mset_if, if_neg h2])
  obtain ⟨m', e, I1, I2⟩ := sags_loop v hn V1 (A 1 - 1).toNat 2000 0 _ (by omega) (by omega) (by have := v.2.1; omega) ⟨fun j hj x x0 x1 h => absurd h.1 (by omega), fun _ _ _ => rfl⟩
  refine ⟨m', e, by rw [I2 _ _ (by decide), mset_here], SV_sag V (fun c i hc h2 => by rw [I2 c i hc, mset_if, if_neg h2]), fun x j x0 x1 hj => I1 j (by have := hj.2.1; omega) x x0 x1 hj, fun c i hc h2 => by rw [I2 c i hc, mset_if, if_neg h2]⟩
