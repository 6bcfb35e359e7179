/-! what reactions() gives, and what is read off it -/
def MV (m : Mem) (A : Int → Int) : Prop := m 150 = A ∧ (0 < m 149 13 ∧ m 149 13 ∣ DD A) ∧ (∀ k, 0 ≤ k → k < A 1 → m 157 k * DD A = UU A k * m 149 13)
theorem react_loop {A : Int → Int} (v : VA A) (hn : 2 ≤ A 1) (m0 : Mem) (K : Mem → Option Mem) : ∀ (d n : Nat) (k : Int) (m : Mem), 0 ≤ k → k + (d : Int) = A 1 → d < n → FI A m0 k m → ∃ m', Mo_reactions_L18 (A 1) K n k m = K m' ∧ FI A m0 (A 1) m' := by
  intro d
  induction d with
  | zero =>
    intro n k m k0 k1 hd I
    obtain ⟨n', rfl⟩ : ∃ n', n = n' + 1 := ⟨n - 1, by omega⟩
    have hk : k = A 1 := by omega
    subst hk
    exact ⟨m, by rw [Mo_reactions_L18, if_pos (Int.le_refl _)], I⟩
  | succ d ih =>
    intro n k m k0 k1 hd I
    obtain ⟨n', rfl⟩ : ∃ n', n = n' + 1 := ⟨n - 1, by omega⟩
    obtain ⟨m', e, I'⟩ := react_step v hn k0 (by omega) I K n'
    obtain ⟨m2, e2, I2⟩ := ih n' (k + 1) m' (by omega) (by omega) (by omega) I'
    exact ⟨m2, by rw [e, e2], I2⟩
theorem tdiv_dvd {a b : Int} (h : b ∣ a) : b * a.tdiv b = a := Int.mul_tdiv_cancel' h
theorem force_loop {A : Int → Int} (v : VA A) (hn : 2 ≤ A 1) {m0 m : Mem} (I : FI A m0 (A 1) m) : ∃ m', Mo_reactions_L265 (A 1) 2000 0 m = some m' ∧ MV m' A ∧ rfr m' m0 := by
  have n4 := v.2.1
  obtain ⟨B1, -⟩ := bnd v hn
  obtain ⟨I1, I2, ⟨I3, I3'⟩, I4, I5⟩ := I
  have ol : m 149 13 ≤ DD A := Int.le_of_dvd B1.1 I3'
  obtain ⟨m', e, h1, h2, h3, h4⟩ := loopM (fun n i m => Mo_reactions_L265 (A 1) n i m) (A 1) (fun i m' => (∀ j, 0 ≤ j → j < i → m' 157 j * DD A = UU A j * m 149 13) ∧ (∀ j, i ≤ j → m' 157 j = m 157 j) ∧ (∀ c j, ¬ c = 157 → m' c j = m c j) ∧ True) some 0
    (fun n m' _ => by
      show Mo_reactions_L265 (A 1) (n + 1) (A 1) m' = some m'
      rw [Mo_reactions_L265, if_pos (Int.le_refl _)])
    (fun n i m' h0 h1 J => by
      show ∃ m'', Mo_reactions_L265 (A 1) (n + 1) i m' = Mo_reactions_L265 (A 1) n (i + 1) m'' ∧ _
      obtain ⟨J1, J2, J3, -⟩ := J
      obtain ⟨f1, f2, f3⟩ := I4 i h0 h1
      have d := dn_b (p := UU A i) B1.1
      rw [Mo_reactions_L265, s32_id (a := A 1) (by omega) (by omega), s32_id (a := i) (by omega) (by omega), if_neg (by omega), ck_id h0 (by omega) (by omega), ck_id h0 (by omega) (by omega), ck_id h0 (by omega) (by omega), J3 158 i (by decide), f2, J3 149 13 (by decide), b62_s (x := dn (UU A i) (DD A)) ⟨by omega, by omega⟩, dv_id (by omega), b62_s (x := m 149 13) ⟨by omega, by omega⟩, lt_id]
      refine ⟨_, rfl, fun j j0 j1 => ?_, fun j j0 => ?_, fun c j hc => ?_, trivial⟩
      · rw [mset_c]
        by_cases c : j = i
        · rw [if_pos c, J2 i (by omega), f1, c]
          have x := cross_nd (UU A i) (DD A)
          have t := tdiv_dvd f3
          generalize (m 149 13).tdiv (dn (UU A i) (DD A)) = q at *
          rw [← t]
          clear J1 J2 J3 I4 I5 I2
          grind
        · rw [if_neg c]; exact J1 j j0 (by omega)
      · rw [mset_c, if_neg (by omega)]; exact J2 j (by omega)
      · rw [mset_if, if_neg (fun z => hc z.1)]; exact J3 c j hc)
    (A 1).toNat 2000 0 m (by omega) (by omega) (by omega) ⟨fun j j0 j1 => by omega, fun j _ => rfl, fun _ _ _ => rfl, trivial⟩
  refine ⟨m', e, ⟨by rw [← I1]; funext i; exact h3 150 i (by decide), ⟨by rw [h3 149 13 (by decide)]; exact I3, by rw [h3 149 13 (by decide)]; exact I3'⟩, fun k k0 k1 => by rw [h3 149 13 (by decide)]; exact h1 k k0 k1⟩, fun c i c1 c2 => by rw [h3 c i (by omega)]; exact I5 c i c1 c2⟩
theorem reactions_eq {A : Int → Int} (v : VA A) (hn : 2 ≤ A 1) {m : Mem} (hA : m 150 = A) : ∃ m', Mo_reactions m = some m' ∧ MV m' A ∧ rfr m' m := by
  obtain ⟨B1, -⟩ := bnd v hn
  have n4 := v.2.1
  obtain ⟨m1, a1, a2, a3⟩ := moments_eq v hn hA
  have hA1 := mfr_150 a3 hA
  unfold Mo_reactions
  rw [a1, ob_some, lt_id, lt_id, hA1, jn_id]
  obtain ⟨m4, b1, b2⟩ := react_loop v hn m (fun m4 => Mo_reactions_L265 (A 1) 2000 0 m4) (A 1).toNat 2000 0 (mset m1 149 13 1) (by omega) (by omega) (by omega) ⟨by rw [← hA1]; funext i; rw [mset_if, if_neg (by omega)], fun j j0 j1 => ⟨by rw [mset_if, if_neg (by omega)]; exact (a2 j j0 j1).1, by rw [mset_if, if_neg (by omega)]; exact (a2 j j0 j1).2⟩, ⟨by rw [mset_here]; decide, by rw [mset_here]; exact Int.one_dvd _⟩, fun j j0 j1 => by omega, fun c i c1 c2 => by rw [mset_if, if_neg (by omega), a3 c i (by omega) (by omega)]⟩
  rw [b1]
  exact force_loop v hn b2
theorem isum_one {A : Int → Int} {m : Mem} (V : MV m A) (p : Int → Prop) [∀ k, Decidable (p k)] (c : Int → Int) : isum (fun k => if p k then 0 else c k * m 157 k) 0 (A 1).toNat * DD A = isum (fun k => if p k then 0 else c k * UU A k) 0 (A 1).toNat * m 149 13 := by
  rw [Int.mul_comm _ (DD A), Int.mul_comm _ (m 149 13), ← isum_cmul, ← isum_cmul]
  refine isum_congr _ _ (fun j j0 j1 => ?_)
  have e := V.2.2 j j0 (by omega)
  by_cases h : p j
  · simp [if_pos h]
  · rw [if_neg h, if_neg h]
    have a1 : DD A * (c j * m 157 j) = c j * (m 157 j * DD A) := by grind
    rw [a1, e]
    grind
theorem sumLoop {N : Int} (hN : 0 ≤ N ∧ N ≤ 4) {α : Type} (F : Nat → Int → Int → Option α) (g : Int → Int) (k : Int → Option α) (h1 : ∀ n a, F (n + 1) a N = k a) (h2 : ∀ n a i, 0 ≤ i → i < N → F (n + 1) a i = F n (a + g i) (i + 1)) : F 2000 0 0 = k (isum g 0 N.toNat) := by
  rw [loopA F N g k h1 0 h2 N.toNat 2000 0 0 (by omega) (by omega) (by omega), Int.zero_add]
theorem momentAt_eq {A : Int → Int} (v : VA A) (hn : 2 ≤ A 1) {m : Mem} (V : MV m A) {a b : Int} (ha : 0 ≤ a ∧ a ≤ 1000) (hb : 1 ≤ b ∧ b ≤ 100) : ∃ w, Mo_momentAt a b m = some w ∧ w * DD A = MB A a b * m 149 13 := by
  have n4 := v.2.1
  have v3 := v.2.2.1
  have l10 := v.1
  obtain ⟨hA, ho, hF⟩ := V
  refine ⟨isum (fun k => if a - b * aT A k ≤ 0 then 0 else ((2 * b) * (a - b * aT A k)) * m 157 k) 0 (A 1).toNat - m 149 13 * ZS A (mF a b), ?_, ?_⟩
  · have bx : ∀ x, 0 ≤ x → x ≤ 10 → -1000 ≤ b * x ∧ b * x ≤ 1000 := by
      intro x x0 x1
      have := mul_b (a := b) (b := x) (A := 100) (B := 10) ⟨by omega, hb.2⟩ ⟨x0, x1⟩
      omega
    unfold Mo_momentAt
    rw [jn_id]
    rw [sumLoop n4 (fun n s i => Mo_momentAt_L6 a b m _ n s i) (fun k => if a - b * aT A k ≤ 0 then 0 else ((2 * b) * (a - b * aT A k)) * m 157 k) _
      (fun n s => by
        show Mo_momentAt_L6 a b m _ (n + 1) s (A 1) = _
        rw [Mo_momentAt_L6, hA, if_pos (Int.le_refl _)])
      (fun n s i h0 h1 => by
        show Mo_momentAt_L6 a b m _ (n + 1) s i = Mo_momentAt_L6 a b m _ n (s + _) (i + 1)
        have t := VA_at v h0 h1
        have bt := bx (aT A i) t.1 (by omega)
        rw [Mo_momentAt_L6, hA]
        simp (disch := omega) only [s32_id, ck_id, lt_id, jn_id]
        rw [if_neg (by omega), show A (2 + i) = aT A i from rfl]
        simp (disch := omega) only [s32_id, s64_id]
        by_cases c : a - b * aT A i ≤ 0
        · rw [if_pos c, if_pos c]
        · rw [if_neg c, if_neg c])]
    rw [jn_id, lsumLoop v (fun n s i => Mo_momentAt_L77 a b m _ n s i) (mF a b) _
      (fun n s => by
        show Mo_momentAt_L77 a b m _ (n + 1) s (A 10) = _
        rw [Mo_momentAt_L77, hA, if_pos (Int.le_refl _)])
      (fun n s i h0 h1 => by
        show Mo_momentAt_L77 a b m _ (n + 1) s i = Mo_momentAt_L77 a b m _ n (s + _) (i + 1)
        obtain ⟨b1, b2, b3, b4, b5, b6⟩ := load_b v h0 h1
        rw [Mo_momentAt_L77, Mo_isSpread_eq v hA h0 h1, hA]
        simp (disch := omega) only [s32_id, ck_id, lt_id, jn_id, ob_some]
        rw [if_neg (by omega)]
        generalize A (11 + i) = x at *
        generalize A (17 + i) = y at *
        generalize A (23 + i) = w at *
        have bt := bx x b1 (by omega)
        have bt2 := bx y (by omega) (by omega)
        simp (disch := omega) only [s32_id, s64_id]
        unfold mF
        by_cases c : a - b * x ≤ 0
        · rw [if_pos c, if_pos c, if_pos c, Int.mul_zero, Int.add_zero]
        · rw [if_neg c, if_neg c, if_neg c]
          by_cases d : x < y
          · simp only [if_pos d, s32_1, if_0, if_0', if_1, if_1', ↓reduceIte]
            by_cases e : a - b * y ≤ 0
            · rw [if_pos e, if_pos e]
            · rw [if_neg e, if_neg e]
          · simp only [if_neg d, s32_0, if_0, if_0', if_1, if_1', ↓reduceIte]
            congr 1
            rw [Int.mul_comm w])
      0, Int.zero_add]
  · have i1 := isum_one ⟨hA, ho, hF⟩ (fun k => a - b * aT A k ≤ 0) (fun k => (2 * b) * (a - b * aT A k))
    unfold MB
    rw [Int.sub_mul, Int.sub_mul, i1]
    grind
theorem shearBehind_eq {A : Int → Int} (v : VA A) (hn : 2 ≤ A 1) {m : Mem} (V : MV m A) {x : Int} (hx : 0 ≤ x ∧ x ≤ 10) : ∃ w, Mo_shearBehind x m = some w ∧ w * DD A = CT A x * m 149 13 := by
  have n4 := v.2.1
  have l10 := v.1
  obtain ⟨hA, ho, hF⟩ := V
  refine ⟨isum (fun k => if x < aT A k then 0 else 1 * m 157 k) 0 (A 1).toNat - m 149 13 * (ZS A (plF x) + ZS A (bsF x 1)), ?_, ?_⟩
  · unfold Mo_shearBehind
    rw [jn_id]
    rw [sumLoop n4 (fun n s i => Mo_shearBehind_L5 x m _ n s i) (fun k => if x < aT A k then 0 else 1 * m 157 k) _
      (fun n s => by
        show Mo_shearBehind_L5 x m _ (n + 1) s (A 1) = _
        rw [Mo_shearBehind_L5, hA, if_pos (Int.le_refl _)])
      (fun n s i h0 h1 => by
        show Mo_shearBehind_L5 x m _ (n + 1) s i = Mo_shearBehind_L5 x m _ n (s + _) (i + 1)
        have t := VA_at v h0 h1
        rw [Mo_shearBehind_L5, hA]
        simp (disch := omega) only [s32_id, ck_id, lt_id, jn_id]
        rw [if_neg (by omega), show A (2 + i) = aT A i from rfl]
        simp (disch := omega) only [s32_id, s64_id]
        by_cases c : x < aT A i
        · rw [if_pos c, if_pos c]
        · rw [if_neg c, if_neg c, Int.one_mul])]
    rw [pointsAt_eq v hA hx, ob_some, beside_eq v hA hx (Or.inr rfl), ob_some, lt_id]
  · have i1 := isum_one ⟨hA, ho, hF⟩ (fun k => x < aT A k) (fun _ => 1)
    unfold CT
    rw [Int.sub_mul, Int.sub_mul, i1]
    have : isum (fun k => if x < aT A k then 0 else 1 * UU A k) 0 (A 1).toNat = isum (fun k => if x < aT A k then 0 else UU A k) 0 (A 1).toNat := isum_congr _ _ (fun j _ _ => by rw [Int.one_mul])
    rw [this]
    grind
