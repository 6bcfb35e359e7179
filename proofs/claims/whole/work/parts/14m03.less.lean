/-! the model's comparing and adding -/
theorem tfloor {a b : Int} (hb : 0 < b) : a.tdiv b - (if 0 ≤ a.tmod b then 0 else 1) = a / b := by
  have h1 := Int.tmod_add_mul_tdiv a b
  have h2 := Int.emod_add_mul_ediv a b
  have h3 := Int.emod_nonneg a (b := b) (by omega)
  have h4 := Int.emod_lt_of_pos a hb
  have h5 : -b < a.tmod b ∧ a.tmod b < b := by
    have := Int.natAbs_tmod a b
    have h := Nat.mod_lt a.natAbs (y := b.natAbs) (by omega)
    omega
  have key : ∀ q r : Int, 0 ≤ r → r < b → r + b * q = a → q = a / b := by
    intro q r r1 r2 e
    have : b * (q - a / b) = a % b - r := by rw [Int.mul_sub]; omega
    have g1 : b * (q - a / b) < b * 1 := by omega
    have g2 : b * (-1) < b * (q - a / b) := by omega
    have q1 := Int.lt_of_mul_lt_mul_left g1 (by omega)
    have q2 := Int.lt_of_mul_lt_mul_left g2 (by omega)
    omega
  by_cases h : 0 ≤ a.tmod b
  · rw [if_pos h]
    exact key _ _ (by omega) (by omega) (by rw [Int.sub_zero]; omega)
  · rw [if_neg h]
    refine key _ (a.tmod b + b) (by omega) (by omega) ?_
    rw [Int.mul_sub]
    omega
def ilK1 : Int → Int → Int → Option Int := fun x1 x2 x3 => if s32 x1 = 0 then (if ¬ s64 x2 = s64 0 then (some 0) else (if s64 x3 = s64 0 then (some 0) else (some 1))) else (if ¬ s64 x3 = s64 0 then (some 0) else (if s64 x2 = s64 0 then (some 0) else (some 1)))
def ilK2 : Int → Int → Int → Option Int := fun x4 x5 x6 => if s32 x4 = 0 then (if s64 x6 ≤ s64 x5 then (some 0) else (some 1)) else (if s64 x5 ≤ s64 x6 then (some 0) else (some 1))
/-- what isLess answers: whether x < y, or the other way about -/
def ilR (t x y : Int) : Int := if t = 0 then (if x < y then 1 else 0) else (if y < x then 1 else 0)
theorem ilR_flip {t x y x' y' : Int} (ht : t = 0 ∨ t = 1) (h : x - y = y' - x') : ilR t x y = ilR (1 - t) x' y' := by
  unfold ilR
  rcases ht with rfl | rfl
  · rw [if_pos rfl, if_neg (show ¬ (1 - 0 : Int) = 0 by decide)]
    by_cases q : x < y
    · rw [if_pos q, if_pos (show y' < x' by omega)]
    · rw [if_neg q, if_neg (show ¬ y' < x' by omega)]
  · rw [if_neg (show ¬ (1 : Int) = 0 by decide), if_pos (show (1 - 1 : Int) = 0 by decide)]
    by_cases q : y < x
    · rw [if_pos q, if_pos (show x' < y' by omega)]
    · rw [if_neg q, if_neg (show ¬ x' < y' by omega)]
theorem il_step (n : Nat) (a b c d t : Int) (ht : t = 0 ∨ t = 1) (ha : b62 a) (hc : b62 c) (hb : 0 < b) (hd : 0 < d) (hb2 : b < 4611686018427387904) (hd2 : d < 4611686018427387904) :
    Mo_isLess_L17 ilK1 ilK2 (n + 1) a b c d t = some (ilR t (a * d) (c * b)) ∨ (0 < a % b ∧ 0 < c % d ∧ a / b = c / d ∧ Mo_isLess_L17 ilK1 ilK2 (n + 1) a b c d t = Mo_isLess_L17 ilK1 ilK2 n b (a % b) d (c % d) (1 - t)) := by
  obtain ⟨wa, r1, r2, ea⟩ := fdiv_b ha hb
  obtain ⟨wc, r3, r4, ec⟩ := fdiv_b hc hd
  have hbb : b62 b := ⟨by omega, hb2⟩
  have hdd : b62 d := ⟨by omega, hd2⟩
  have ra : b62 (a % b) := ⟨by omega, by omega⟩
  have rc : b62 (c % d) := ⟨by omega, by omega⟩
  have exa : a - a / b * b = a % b := by omega
  have exc : c - c / d * d = c % d := by omega
  have eD : a * d - c * b = (a / b - c / d) * (b * d) + (a % b * d - c % d * b) := by
    conv => lhs; rw [ea, ec]
    grind
  have hta : b62 (a.tmod b) := by
    have := Int.natAbs_tmod a b
    have h := Nat.mod_lt a.natAbs (y := b.natAbs) (by omega)
    exact ⟨by omega, by omega⟩
  have htc : b62 (c.tmod d) := by
    have := Int.natAbs_tmod c d
    have h := Nat.mod_lt c.natAbs (y := d.natAbs) (by omega)
    exact ⟨by omega, by omega⟩
  have fa := tfloor (a := a) hb
  have fc := tfloor (a := c) hd
  have st : s32 t = t := s32_id (by omega) (by omega)
  have hbd : 0 < b * d := Int.mul_pos hb hd
  have hm1 : a % b * d < b * d := Int.mul_lt_mul_of_pos_right r2 hd
  have hm2 : c % d * b < d * b := Int.mul_lt_mul_of_pos_right r4 hb
  have hm3 : 0 ≤ a % b * d := Int.mul_nonneg r1 (by omega)
  have hm4 : 0 ≤ c % d * b := Int.mul_nonneg r3 (by omega)
  rw [Int.mul_comm d b] at hm2
  have core : Mo_isLess_L17 ilK1 ilK2 (n + 1) a b c d t = (if a / b = c / d then (if a % b = 0 then ilK1 t (a % b) (c % d) else (if ¬ c % d = 0 then Mo_isLess_L17 ilK1 ilK2 n b (a % b) d (c % d) (1 - t) else ilK1 t (a % b) (c % d))) else ilK2 t (a / b) (c / d)) := by
    rw [Mo_isLess_L17]
    simp only [lt_id, jn_id]
    rw [b62_s hbb, b62_s hdd, b62_s ha, b62_s hc, s64_0]
    simp (disch := omega) only [dv_id]
    rw [b62_s hta, b62_s htc]
    have inner : ∀ x13 : Int, x13 = a / b → (if 0 ≤ c.tmod d then
        (if s64 x13 = s64 (c.tdiv d - 0) then (if s64 (a - x13 * b) = 0 then ilK1 t (a - x13 * b) (c - (c.tdiv d - 0) * d) else if ¬ s64 (c - (c.tdiv d - 0) * d) = 0 then (if ¬ s32 t = 0 then Mo_isLess_L17 ilK1 ilK2 n b (a - x13 * b) d (c - (c.tdiv d - 0) * d) 0 else Mo_isLess_L17 ilK1 ilK2 n b (a - x13 * b) d (c - (c.tdiv d - 0) * d) 1) else ilK1 t (a - x13 * b) (c - (c.tdiv d - 0) * d)) else ilK2 t x13 (c.tdiv d - 0))
      else (if s64 x13 = s64 (c.tdiv d - 1) then (if s64 (a - x13 * b) = 0 then ilK1 t (a - x13 * b) (c - (c.tdiv d - 1) * d) else if ¬ s64 (c - (c.tdiv d - 1) * d) = 0 then (if ¬ s32 t = 0 then Mo_isLess_L17 ilK1 ilK2 n b (a - x13 * b) d (c - (c.tdiv d - 1) * d) 0 else Mo_isLess_L17 ilK1 ilK2 n b (a - x13 * b) d (c - (c.tdiv d - 1) * d) 1) else ilK1 t (a - x13 * b) (c - (c.tdiv d - 1) * d)) else ilK2 t x13 (c.tdiv d - 1))) =
        (if a / b = c / d then (if a % b = 0 then ilK1 t (a % b) (c % d) else (if ¬ c % d = 0 then Mo_isLess_L17 ilK1 ilK2 n b (a % b) d (c % d) (1 - t) else ilK1 t (a % b) (c % d))) else ilK2 t (a / b) (c / d)) := by
      intro x13 hx
      subst hx
      have fin : ∀ x15 : Int, x15 = c / d → (if s64 (a / b) = s64 x15 then (if s64 (a - a / b * b) = 0 then ilK1 t (a - a / b * b) (c - x15 * d) else if ¬ s64 (c - x15 * d) = 0 then (if ¬ s32 t = 0 then Mo_isLess_L17 ilK1 ilK2 n b (a - a / b * b) d (c - x15 * d) 0 else Mo_isLess_L17 ilK1 ilK2 n b (a - a / b * b) d (c - x15 * d) 1) else ilK1 t (a - a / b * b) (c - x15 * d)) else ilK2 t (a / b) x15) = (if a / b = c / d then (if a % b = 0 then ilK1 t (a % b) (c % d) else (if ¬ c % d = 0 then Mo_isLess_L17 ilK1 ilK2 n b (a % b) d (c % d) (1 - t) else ilK1 t (a % b) (c % d))) else ilK2 t (a / b) (c / d)) := by
        intro x15 hx
        subst hx
        rw [exa, exc, b62_s wa, b62_s wc, b62_s ra, b62_s rc, st]
        rcases ht with rfl | rfl
        · rw [if_neg (show ¬ ¬ (0 : Int) = 0 by decide)]; rfl
        · rw [if_pos (show ¬ (1 : Int) = 0 by decide)]; rfl
      by_cases hq : 0 ≤ c.tmod d
      · rw [if_pos hq] at fc ⊢; exact fin _ fc
      · rw [if_neg hq] at fc ⊢; exact fin _ fc
    by_cases hq : 0 ≤ a.tmod b
    · rw [if_pos hq] at fa ⊢; exact inner _ fa
    · rw [if_neg hq] at fa ⊢; exact inner _ fa
  rw [core]
  have e1 : 0 < a % b ↔ 0 < a % b * d := ⟨fun h => Int.mul_pos h hd, fun h => Int.pos_of_mul_pos_left h (by omega)⟩
  have e2 : 0 < c % d ↔ 0 < c % d * b := ⟨fun h => Int.mul_pos h hb, fun h => Int.pos_of_mul_pos_left h (by omega)⟩
  by_cases hw : a / b = c / d
  · have eD0 : a * d - c * b = a % b * d - c % d * b := by rw [eD, hw]; simp
    rw [if_pos hw]
    have k1 : a % b = 0 ∨ c % d = 0 → ilK1 t (a % b) (c % d) = some (ilR t (a * d) (c * b)) := by
      intro hz
      unfold ilK1 ilR
      rw [st, b62_s ra, b62_s rc, s64_0]
      rcases ht with rfl | rfl
      · rw [if_pos rfl, if_pos rfl]
        by_cases z1 : a % b = 0
        · rw [if_neg (fun z => z z1)]
          by_cases z2 : c % d = 0
          · rw [if_pos z2, if_neg (show ¬ a * d < c * b by rw [z1, z2] at eD0; omega)]
          · rw [if_neg z2, if_pos (show a * d < c * b by rw [z1] at eD0; omega)]
        · rw [if_pos z1, if_neg (show ¬ a * d < c * b by have z2 : c % d = 0 := hz.resolve_left z1; rw [z2] at eD0; omega)]
      · rw [if_neg (show ¬ (1 : Int) = 0 by decide), if_neg (show ¬ (1 : Int) = 0 by decide)]
        by_cases z2 : c % d = 0
        · rw [if_neg (fun z => z z2)]
          by_cases z1 : a % b = 0
          · rw [if_pos z1, if_neg (show ¬ c * b < a * d by rw [z1, z2] at eD0; omega)]
          · rw [if_neg z1, if_pos (show c * b < a * d by rw [z2] at eD0; omega)]
        · rw [if_pos z2, if_neg (show ¬ c * b < a * d by have z1 : a % b = 0 := hz.resolve_right z2; rw [z1] at eD0; omega)]
    by_cases z1 : a % b = 0
    · left; rw [if_pos z1]; exact k1 (Or.inl z1)
    · rw [if_neg z1]
      by_cases z2 : c % d = 0
      · left; rw [if_neg (fun z => z z2)]; exact k1 (Or.inr z2)
      · right; rw [if_pos z2]; exact ⟨by omega, by omega, hw, rfl⟩
  · left
    rw [if_neg hw]
    unfold ilK2 ilR
    rw [st, b62_s wa, b62_s wc]
    have h1 : a / b - c / d ≤ -1 ∨ 1 ≤ a / b - c / d := by omega
    have dir : (a / b < c / d → a * d < c * b) ∧ (c / d < a / b → c * b < a * d) := by
      rcases h1 with h1 | h1
      · have : (a / b - c / d) * (b * d) ≤ -1 * (b * d) := Int.mul_le_mul_of_nonneg_right h1 (by omega)
        constructor <;> intro h <;> omega
      · have : 1 * (b * d) ≤ (a / b - c / d) * (b * d) := Int.mul_le_mul_of_nonneg_right h1 (by omega)
        constructor <;> intro h <;> omega
    rcases ht with rfl | rfl
    · rw [if_pos rfl, if_pos rfl]
      by_cases q : c / d ≤ a / b
      · rw [if_pos q, if_neg (show ¬ a * d < c * b by have := dir.2 (by omega); omega)]
      · rw [if_neg q, if_pos (dir.1 (by omega))]
    · rw [if_neg (show ¬ (1 : Int) = 0 by decide), if_neg (show ¬ (1 : Int) = 0 by decide)]
      by_cases q : a / b ≤ c / d
      · rw [if_pos q, if_neg (show ¬ c * b < a * d by have := dir.1 (by omega); omega)]
      · rw [if_neg q, if_pos (dir.2 (by omega))]
theorem keep_c {a b c d : Int} (hw : a / b = c / d) : b * (c % d) - d * (a % b) = c * b - a * d := by
  have h3 := Int.emod_add_mul_ediv a b
  have h4 := Int.emod_add_mul_ediv c d
  rw [← hw] at h4
  have e1 : a % b = a - b * (a / b) := by omega
  have e2 : c % d = c - d * (a / b) := by omega
  rw [e1, e2]
  grind
theorem half_modI {b r : Int} (g1 : 0 < r) (h : r < b) : 2 * (b % r) < b := by
  have h1 := Int.emod_lt_of_pos b g1
  have h2 := Int.emod_add_mul_ediv b r
  have h3 : 1 ≤ b / r := by
    have := Int.ediv_nonneg (a := b) (b := r) (by omega) (by omega)
    by_cases z : b / r = 0
    · rw [z] at h2; omega
    · omega
  have h4 : r * 1 ≤ r * (b / r) := Int.mul_le_mul_of_nonneg_left h3 (by omega)
  omega
theorem il_L : ∀ (k n : Nat) (a b c d t : Int), (t = 0 ∨ t = 1) → b62 a → b62 c → 0 < b → 0 < d → b < 4611686018427387904 → d < 4611686018427387904 → b < 2 ^ k → d < 2 ^ k → 2 * k + 1 ≤ n → Mo_isLess_L17 ilK1 ilK2 n a b c d t = some (ilR t (a * d) (c * b)) := by
  intro k
  induction k with
  | zero => intro n a b c d t ht ha hc hb hd hb2 hd2 hk1 hk2; simp at hk1; omega
  | succ k ih =>
    intro n a b c d t ht ha hc hb hd hb2 hd2 hk1 hk2 hn
    obtain ⟨n, rfl⟩ : ∃ m, n = m + 1 := ⟨n - 1, by omega⟩
    rcases il_step n a b c d t ht ha hc hb hd hb2 hd2 with h | ⟨g1, g2, g3, g4⟩
    · exact h
    · rw [g4]
      have r2 := Int.emod_lt_of_pos a hb
      have r4 := Int.emod_lt_of_pos c hd
      have ht' : 1 - t = 0 ∨ 1 - t = 1 := by omega
      have k1 := keep_c g3
      have f1 : ilR t (a * d) (c * b) = ilR (1 - t) (b * (c % d)) (d * (a % b)) := ilR_flip ht (by omega)
      obtain ⟨n, rfl⟩ : ∃ m, n = m + 1 := ⟨n - 1, by omega⟩
      rcases il_step n b (a % b) d (c % d) (1 - t) ht' ⟨by omega, hb2⟩ ⟨by omega, hd2⟩ g1 g2 (by omega) (by omega) with h | ⟨q1, q2, q3, q4⟩
      · rw [h, f1]
      · rw [q4]
        have hp : (2 : Int) ^ (k + 1) = 2 * 2 ^ k := by rw [Int.pow_succ, Int.mul_comm]
        have m1 := half_modI g1 r2
        have m2 := half_modI g2 r4
        have k2 := keep_c q3
        have f2 : ilR (1 - t) (b * (c % d)) (d * (a % b)) = ilR (1 - (1 - t)) (a % b * (d % (c % d))) (c % d * (b % (a % b))) := ilR_flip ht' (by omega)
        rw [ih n (a % b) (b % (a % b)) (c % d) (d % (c % d)) (1 - (1 - t)) (by omega) ⟨by omega, by omega⟩ ⟨by omega, by omega⟩ q1 q2 (by omega) (by omega) (by omega) (by omega) (by omega)]
        rw [f1, f2]
theorem isLess_eq {a b c d : Int} {mem : Mem} (ha : b62 a) (hc : b62 c) (hb : 0 < b ∧ b < 4611686018427387904) (hd : 0 < d ∧ d < 4611686018427387904) : Mo_isLess a b c d mem = some (if a * d < c * b then 1 else 0) := by
  unfold Mo_isLess
  rw [jn_id, jn_id]
  have := il_L 62 2000 a b c d 0 (Or.inl rfl) ha hc hb.1 hd.1 hb.2 hd.2 (by have := hb.2; show _ < (4611686018427387904 : Int); omega) (by have := hd.2; show _ < (4611686018427387904 : Int); omega) (by omega)
  unfold ilR at this
  rw [if_pos rfl] at this
  exact this
/-- the model's fraction is X over D -/
def frac (mem : Mem) (X D : Int) : Prop := mem 149 5 = nm X D ∧ mem 149 6 = dn X D
theorem is_frac {p q X D : Int} {mem : Mem} (hp : b62 p) (hq : b62 q) (h0 : 0 < q) (hD : 0 < D) (h : p * D = X * q) : ∃ m, Mo_is p q mem = some m ∧ frac m X D ∧ (∀ c i, ¬ (c = 149 ∧ (i = 5 ∨ i = 6)) → m c i = mem c i) := by
  obtain ⟨e1, e2⟩ := nd_eq h0 hD h
  refine ⟨_, is_eq hp hq h0, ⟨?_, ?_⟩, fun c i hc => ?_⟩
  · rw [← e1]; simp [mset]
  · rw [← e2]; simp [mset]
  · simp only [mset]
    rw [if_neg (fun z => hc ⟨z.1, Or.inr z.2⟩), if_neg (fun z => hc ⟨z.1, Or.inl z.2⟩)]
