/-! gcd, lowest terms, comparing -/
def b62 (x : Int) : Prop := -4611686018427387904 < x ∧ x < 4611686018427387904
theorem b62_s {x : Int} (h : b62 x) : s64 x = x := s64_id (by have := h.1; omega) (by have := h.2; omega)
theorem half_mod {y r : Nat} (h0 : 0 < r) (h : r < y) : 2 * (y % r) < y := by
  have h1 := Nat.mod_lt y h0
  have h2 := Nat.mod_add_div y r
  have h3 : 1 ≤ y / r := Nat.div_pos (Nat.le_of_lt h) h0
  have h4 : r * 1 ≤ r * (y / r) := Nat.mul_le_mul_left r h3
  omega
theorem tmod_nat (X Y : Nat) : ((X : Int)).tmod (Y : Int) = ((X % Y : Nat) : Int) := by
  rw [Int.tmod_eq_emod_of_nonneg (by omega)]; simp
theorem euclid_cl : ∀ (k n X Y : Nat) (i : Int), X < 4611686018427387904 → Y < 4611686018427387904 → Y < 2 ^ k → 2 * k + 1 ≤ n → 0 ≤ i → i + 2 * k + 1 ≤ 200 → BP_commonDivisor_L15 n X Y i = some ((Nat.gcd X Y : Nat) : Int) := by
  intro k
  induction k with
  | zero =>
    intro n X Y i hX hY hk hn h0 hi
    obtain ⟨n, rfl⟩ : ∃ m, n = m + 1 := ⟨n - 1, by omega⟩
    have hY0 : Y = 0 := by simpa using hk
    subst hY0
    rw [BP_commonDivisor_L15, if_neg (by rw [s32_id (by omega) (by omega), s32_id (by omega) (by omega)]; omega), if_pos (by rfl), Nat.gcd_zero_right]
  | succ k ih =>
    intro n X Y i hX hY hk hn h0 hi
    obtain ⟨n, rfl⟩ : ∃ m, n = m + 1 := ⟨n - 1, by omega⟩
    rw [BP_commonDivisor_L15, if_neg (by rw [s32_id (by omega) (by omega), s32_id (by omega) (by omega)]; omega)]
    rw [s64_id (a := (X : Int)) (by omega) (by omega), s64_id (a := (Y : Int)) (by omega) (by omega), s64_0]
    by_cases hY0 : Y = 0
    · subst hY0
      rw [if_pos (by rfl), Nat.gcd_zero_right]
    · rw [if_neg (by omega), dv_id (by omega), lt_id, tmod_nat]
      have hr := Nat.mod_lt X (Nat.pos_of_ne_zero hY0)
      obtain ⟨n, rfl⟩ : ∃ m, n = m + 1 := ⟨n - 1, by omega⟩
      have e1 : Nat.gcd X Y = Nat.gcd Y (X % Y) := by rw [Nat.gcd_comm X Y, Nat.gcd_rec, Nat.gcd_comm]
      rw [BP_commonDivisor_L15, if_neg (by rw [s32_id (by omega) (by omega), s32_id (by omega) (by omega)]; omega)]
      rw [s64_id (a := (Y : Int)) (by omega) (by omega), s64_id (a := ((X % Y : Nat) : Int)) (by omega) (by omega), s64_0]
      by_cases hr0 : X % Y = 0
      · rw [if_pos (by omega), e1, hr0, Nat.gcd_zero_right]
      · rw [if_neg (by omega), dv_id (by omega), lt_id, tmod_nat]
        have h2 := half_mod (Nat.pos_of_ne_zero hr0) hr
        have hp : 2 ^ (k + 1) = 2 * 2 ^ k := by rw [Nat.pow_succ, Nat.mul_comm]
        rw [ih n (X % Y) (Y % (X % Y)) (i + 1 + 1) (by omega) (by omega) (by omega) (by omega) (by omega) (by omega)]
        rw [e1, Nat.gcd_comm Y (X % Y), Nat.gcd_rec (X % Y) Y, Nat.gcd_comm]
theorem euclid_mo : ∀ (k n X Y : Nat), X < 4611686018427387904 → Y < 4611686018427387904 → Y < 2 ^ k → 2 * k + 1 ≤ n → Mo_divisor_L17 n X Y = some ((Nat.gcd X Y : Nat) : Int) := by
  intro k
  induction k with
  | zero =>
    intro n X Y hX hY hk hn
    obtain ⟨n, rfl⟩ : ∃ m, n = m + 1 := ⟨n - 1, by omega⟩
    have hY0 : Y = 0 := by simpa using hk
    subst hY0
    rw [Mo_divisor_L17, if_pos (by rfl), Nat.gcd_zero_right]
  | succ k ih =>
    intro n X Y hX hY hk hn
    obtain ⟨n, rfl⟩ : ∃ m, n = m + 1 := ⟨n - 1, by omega⟩
    rw [Mo_divisor_L17]
    rw [s64_id (a := (X : Int)) (by omega) (by omega), s64_id (a := (Y : Int)) (by omega) (by omega), s64_0]
    by_cases hY0 : Y = 0
    · subst hY0
      rw [if_pos (by rfl), Nat.gcd_zero_right]
    · rw [if_neg (by omega), dv_id (by omega), lt_id, tmod_nat]
      have hr := Nat.mod_lt X (Nat.pos_of_ne_zero hY0)
      obtain ⟨n, rfl⟩ : ∃ m, n = m + 1 := ⟨n - 1, by omega⟩
      have e1 : Nat.gcd X Y = Nat.gcd Y (X % Y) := by rw [Nat.gcd_comm X Y, Nat.gcd_rec, Nat.gcd_comm]
      rw [Mo_divisor_L17]
      rw [s64_id (a := (Y : Int)) (by omega) (by omega), s64_id (a := ((X % Y : Nat) : Int)) (by omega) (by omega), s64_0]
      by_cases hr0 : X % Y = 0
      · rw [if_pos (by omega), e1, hr0, Nat.gcd_zero_right]
      · rw [if_neg (by omega), dv_id (by omega), lt_id, tmod_nat]
        have h2 := half_mod (Nat.pos_of_ne_zero hr0) hr
        have hp : 2 ^ (k + 1) = 2 * 2 ^ k := by rw [Nat.pow_succ, Nat.mul_comm]
        rw [ih n (X % Y) (Y % (X % Y)) (by omega) (by omega) (by omega) (by omega)]
        rw [e1, Nat.gcd_comm Y (X % Y), Nat.gcd_rec (X % Y) Y, Nat.gcd_comm]
theorem pow62 : (4611686018427387904 : Nat) = 2 ^ 62 := by decide
theorem abs_ite {p : Int} (h : b62 p) : (if 0 < s64 p then p else -p) = ((p.natAbs : Nat) : Int) := by
  rw [b62_s h]
  split <;> omega
theorem abs_lt {p : Int} (h : b62 p) : p.natAbs < 4611686018427387904 := by
  have := h.1; have := h.2; omega
theorem cdiv_eq {p q : Int} {mem : Mem} (hp : b62 p) (hq : b62 q) : BP_commonDivisor p q mem = some ((Int.gcd p q : Nat) : Int) := by
  unfold BP_commonDivisor
  rw [lt_id, lt_id, abs_ite hp, abs_ite hq]
  exact euclid_cl 62 2000 _ _ 0 (abs_lt hp) (abs_lt hq) (by rw [← pow62]; exact abs_lt hq) (by omega) (by omega) (by omega)
theorem mdiv_eq {p q : Int} {mem : Mem} (hp : b62 p) (hq : b62 q) (h0 : 0 ≤ q) : Mo_divisor p q mem = some ((Int.gcd p q : Nat) : Int) := by
  unfold Mo_divisor
  rw [jn_id, b62_s hp, s64_0]
  have e : q = ((q.natAbs : Nat) : Int) := by omega
  have key : ∀ z : Int, z = ((p.natAbs : Nat) : Int) → Mo_divisor_L17 2000 z q = some ((Int.gcd p q : Nat) : Int) := by
    intro z hz
    rw [hz, e]
    have := euclid_mo 62 2000 p.natAbs q.natAbs (abs_lt hp) (abs_lt hq) (by rw [← pow62]; exact abs_lt hq) (by omega)
    rw [this]
    simp [Int.gcd]
  split
  · exact key p (by omega)
  · exact key (-p) (by omega)
/-- above and below the line, in lowest terms -/
def nm (p q : Int) : Int := p / ((Int.gcd p q : Nat) : Int)
def dn (p q : Int) : Int := q / ((Int.gcd p q : Nat) : Int)
theorem gcd_pos {p q : Int} (h : ¬ q = 0) : 0 < Int.gcd p q := Int.gcd_pos_of_ne_zero_right p h
theorem gcd_le {p q : Int} (h : 0 < q) : ((Int.gcd p q : Nat) : Int) ≤ q := Int.le_of_dvd h (Int.gcd_dvd_right p q)
theorem nm_mul {p q : Int} : nm p q * ((Int.gcd p q : Nat) : Int) = p := Int.ediv_mul_cancel (Int.gcd_dvd_left p q)
theorem dn_mul {p q : Int} : dn p q * ((Int.gcd p q : Nat) : Int) = q := Int.ediv_mul_cancel (Int.gcd_dvd_right p q)
theorem dn_pos {p q : Int} (h : 0 < q) : 0 < dn p q := by
  have h1 := gcd_pos (p := p) (q := q) (by omega)
  have h2 := dn_mul (p := p) (q := q)
  have : 0 < dn p q * ((Int.gcd p q : Nat) : Int) := by rw [h2]; exact h
  exact Int.pos_of_mul_pos_left this (by omega)
theorem dn_le {p q : Int} (h : 0 < q) : dn p q ≤ q := Int.ediv_le_self _ (by omega)
theorem nm_b {p q B : Int} (h : -B < p ∧ p < B) : -B < nm p q ∧ nm p q < B := by
  have : (nm p q).natAbs ≤ p.natAbs := by
    unfold nm
    rw [Int.natAbs_ediv_of_dvd (Int.gcd_dvd_left p q)]
    exact Nat.div_le_self _ _
  omega
theorem cross_nd (p q : Int) : nm p q * q = p * dn p q := by
  have h1 := nm_mul (p := p) (q := q)
  have h2 := dn_mul (p := p) (q := q)
  calc nm p q * q = nm p q * (dn p q * ((Int.gcd p q : Nat) : Int)) := by rw [h2]
    _ = (nm p q * ((Int.gcd p q : Nat) : Int)) * dn p q := by rw [Int.mul_comm (dn p q), ← Int.mul_assoc]
    _ = p * dn p q := by rw [h1]
theorem cop {p q : Int} (h : ¬ q = 0) : Int.gcd (nm p q) (dn p q) = 1 := by
  unfold nm dn
  exact Int.gcd_ediv_gcd_ediv_gcd_of_ne_zero_right h
theorem nd_eq {a b c d : Int} (hb : 0 < b) (hd : 0 < d) (h : a * d = c * b) : nm a b = nm c d ∧ dn a b = dn c d := by
  have hb1 := dn_pos (p := a) hb
  have hd1 := dn_pos (p := c) hd
  have key : nm a b * dn c d = nm c d * dn a b := by
    have e1 := cross_nd a b
    have e2 := cross_nd c d
    have : (b * d) * (nm a b * dn c d) = (b * d) * (nm c d * dn a b) := by
      calc (b * d) * (nm a b * dn c d) = (nm a b * b) * (d * dn c d) := by grind
        _ = (a * dn a b) * (d * dn c d) := by rw [e1]
        _ = (a * d) * (dn a b * dn c d) := by grind
        _ = (c * b) * (dn a b * dn c d) := by rw [h]
        _ = (c * dn c d) * (b * dn a b) := by grind
        _ = (nm c d * d) * (b * dn a b) := by rw [← e2]
        _ = (b * d) * (nm c d * dn a b) := by grind
    exact Int.eq_of_mul_eq_mul_left (by have := Int.mul_pos hb hd; omega) this
  have c1 := cop (p := a) (q := b) (by omega)
  have c2 := cop (p := c) (q := d) (by omega)
  have d1 : dn a b ∣ dn c d := by
    have : dn a b ∣ nm a b * dn c d := by rw [key]; exact Int.dvd_mul_left _ _
    have := Int.dvd_gcd_mul_iff_dvd_mul.mpr this
    rw [Int.gcd_comm, c1] at this
    simpa using this
  have d2 : dn c d ∣ dn a b := by
    have : dn c d ∣ nm c d * dn a b := by rw [← key]; exact Int.dvd_mul_left _ _
    have := Int.dvd_gcd_mul_iff_dvd_mul.mpr this
    rw [Int.gcd_comm, c2] at this
    simpa using this
  have e : dn a b = dn c d := Int.le_antisymm (Int.le_of_dvd hd1 d1) (Int.le_of_dvd hb1 d2)
  refine ⟨?_, e⟩
  rw [e] at key
  exact Int.eq_of_mul_eq_mul_right (by omega) key
theorem tdiv_gl (p q : Int) : p.tdiv ((Int.gcd p q : Nat) : Int) = nm p q := Int.tdiv_eq_ediv_of_dvd (Int.gcd_dvd_left p q)
theorem tdiv_gr (p q : Int) : q.tdiv ((Int.gcd p q : Nat) : Int) = dn p q := Int.tdiv_eq_ediv_of_dvd (Int.gcd_dvd_right p q)
theorem gcd_b62 {p q : Int} (h0 : ¬ q = 0) (hq : b62 q) : b62 ((Int.gcd p q : Nat) : Int) := by
  have h1 := gcd_pos (p := p) h0
  have h2 : Int.gcd p q ≤ q.natAbs := Nat.le_of_dvd (by omega) (Int.gcd_dvd_natAbs_right p q)
  have := hq.1; have := hq.2
  constructor <;> omega
theorem divide_eq {p q : Int} {mem : Mem} (hp : b62 p) (hq : b62 q) (h0 : ¬ q = 0) : BP_divide p q mem = some (p.tdiv q) := by
  unfold BP_divide
  rw [b62_s hp, b62_s hq, s64_0, if_pos h0, dv_id h0]
theorem become_pos {a : Nat} {p q : Int} {mem : Mem} (hp : b62 p) (hq : b62 q) (h0 : 0 < q) : Frac_become a p q mem = some (mset (mset mem a 0 (nm p q)) a 1 (dn p q)) := by
  have hg := gcd_pos (p := p) (q := q) (by omega)
  have hgb := gcd_b62 (p := p) (q := q) (by omega) hq
  have hd := dn_pos (p := p) h0
  have hdl := dn_le (p := p) h0
  have := hq.2
  unfold Frac_become
  rw [cdiv_eq hp hq]
  simp only [ob_some, jn_id, lt_id]
  rw [b62_s hq, s64_0, if_pos (by omega), divide_eq hp hgb (by omega)]
  simp only [ob_some]
  rw [divide_eq hq hgb (by omega)]
  simp only [ob_some, tdiv_gl, tdiv_gr, Int.one_mul]
  rw [s64_id (a := dn p q) (by omega) (by omega), s64_id (a := 1) (by omega) (by omega), if_neg (by omega)]
theorem become_neg {a : Nat} {p q : Int} {mem : Mem} (hp : b62 p) (hq : b62 q) (h0 : q < 0) : Frac_become a p q mem = some (mset (mset mem a 0 (nm (-p) (-q))) a 1 (dn (-p) (-q))) := by
  have hg := gcd_pos (p := p) (q := q) (by omega)
  have hgb := gcd_b62 (p := p) (q := q) (by omega) hq
  have hd := dn_pos (p := -p) (q := -q) (by omega)
  have hdl := dn_le (p := -p) (q := -q) (by omega)
  have := hq.1
  have e : Int.gcd (-p) (-q) = Int.gcd p q := by simp [Int.gcd]
  have e1 : nm (-p) (-q) = -1 * nm p q := by unfold nm; rw [e, Int.neg_ediv_of_dvd (Int.gcd_dvd_left p q)]; omega
  have e2 : dn (-p) (-q) = -1 * dn p q := by unfold dn; rw [e, Int.neg_ediv_of_dvd (Int.gcd_dvd_right p q)]; omega
  unfold Frac_become
  rw [cdiv_eq hp hq]
  simp only [ob_some, jn_id, lt_id]
  rw [b62_s hq, s64_0, if_neg (by omega), divide_eq hp hgb (by omega)]
  simp only [ob_some]
  rw [divide_eq hq hgb (by omega)]
  simp only [ob_some, tdiv_gl, tdiv_gr]
  rw [← e1, ← e2, s64_id (a := dn (-p) (-q)) (by omega) (by omega), s64_id (a := 1) (by omega) (by omega), if_neg (by omega)]
theorem is_eq {p q : Int} {mem : Mem} (hp : b62 p) (hq : b62 q) (h0 : 0 < q) : Mo_is p q mem = some (mset (mset mem 149 5 (nm p q)) 149 6 (dn p q)) := by
  have hg := gcd_pos (p := p) (q := q) (by omega)
  have hgb := gcd_b62 (p := p) (q := q) (by omega) hq
  unfold Mo_is
  rw [mdiv_eq hp hq (by omega)]
  simp only [ob_some, lt_id]
  rw [b62_s hgb, dv_id (by omega), dv_id (by omega), b62_s hp, b62_s hq, tdiv_gl, tdiv_gr]
/-- which of two fractions is less -/
def sgn (x : Int) : Int := if x < 0 then -1 else if x = 0 then 0 else 1
theorem compare_eq {p q : Int} {mem : Mem} (hp : b62 p) (hq : b62 q) : jd_compare p q mem = some (sgn (p - q)) := by
  unfold jd_compare sgn
  rw [b62_s hp, b62_s hq]
  by_cases h1 : q ≤ p
  · rw [if_pos h1, if_neg (show ¬ p - q < 0 by omega)]
    by_cases h2 : p = q
    · rw [if_neg (fun z => z h2), if_pos (by omega)]
    · rw [if_pos h2, if_neg (by omega)]
  · rw [if_neg h1, if_pos (by omega)]
theorem sgn_eq {x y : Int} (h : (x < 0 ↔ y < 0) ∧ (x = 0 ↔ y = 0)) : sgn x = sgn y := by
  unfold sgn
  simp [h.1, h.2]
def agK (mem : Mem) : Int → Int → Int → Int → Option Int := fun x5 x6 x7 x8 => if s64 x5 = s64 x6 then ((jd_compare x7 x8 mem).bind (fun r9 => some r9)) else ((jd_compare x5 x6 mem).bind (fun r10 => some r10))
theorem fdiv_b {a b : Int} (ha : b62 a) (hb : 0 < b) : b62 (a / b) ∧ 0 ≤ a % b ∧ a % b < b ∧ a = a / b * b + a % b := by
  have h4 : (a / b).natAbs ≤ a.natAbs := Int.natAbs_ediv_le_natAbs a b
  have h5 := abs_lt ha
  have h6 : b62 (a / b) := ⟨by omega, by omega⟩
  have h1 := Int.emod_nonneg a (b := b) (by omega)
  have h2 := Int.emod_lt_of_pos a hb
  have h3 := Int.emod_add_mul_ediv a b
  refine ⟨h6, h1, h2, by rw [Int.mul_comm]; omega⟩
theorem against_L (mem : Mem) : ∀ (k n : Nat) (a b c d i : Int), b62 a → b62 c → 0 < b → 0 < d → b < 4611686018427387904 → d < 4611686018427387904 → b < 2 ^ k → d < 2 ^ k → 2 * k + 1 ≤ n → 0 ≤ i → i + 2 * k + 1 ≤ 200 → Frac_against_L26 (agK mem) n a b c d i = some (sgn (a * d - c * b)) := by
  have step : ∀ (n : Nat) (a b c d i : Int), b62 a → b62 c → 0 < b → 0 < d → b < 4611686018427387904 → d < 4611686018427387904 → 0 ≤ i → i < 200 →
      (Frac_against_L26 (agK mem) (n + 1) a b c d i = some (sgn (a * d - c * b)) ∨ (0 < a % b ∧ 0 < c % d ∧ a / b = c / d ∧ Frac_against_L26 (agK mem) (n + 1) a b c d i = Frac_against_L26 (agK mem) n d (c % d) b (a % b) (i + 1))) := by
    intro n a b c d i ha hc hb hd hb2 hd2 h0 hi
    obtain ⟨wa, r1, r2, ea⟩ := fdiv_b ha hb
    obtain ⟨wc, r3, r4, ec⟩ := fdiv_b hc hd
    have hbb : b62 b := ⟨by omega, hb2⟩
    have hdd : b62 d := ⟨by omega, hd2⟩
    have ra : b62 (a % b) := ⟨by omega, by omega⟩
    have rc : b62 (c % d) := ⟨by omega, by omega⟩
    have exa : a - a / b * b = a % b := by omega
    have exc : c - c / d * d = c % d := by omega
    have eD : a * d - c * b = (a / b - c / d) * (b * d) + (a % b * d - c % d * b) := by
      conv => lhs; rw [ea, ec]
      grind
    rw [Frac_against_L26, if_neg (by rw [s32_id (by omega) (by omega), s32_id (by omega) (by omega)]; omega)]
    simp only [lt_id]
    rw [b62_s hbb, b62_s hdd, s64_0, if_neg (by omega), if_neg (by omega), dv_id (by omega), dv_id (by omega), b62_s ha, b62_s hc]
    rw [Int.fdiv_eq_ediv_of_nonneg a (by omega), Int.fdiv_eq_ediv_of_nonneg c (by omega), b62_s wa, b62_s wc, exa, exc, b62_s ra, b62_s rc]
    have hbd : 0 < b * d := Int.mul_pos hb hd
    have hm1 : a % b * d < b * d := Int.mul_lt_mul_of_pos_right r2 hd
    have hm2 : c % d * b < d * b := Int.mul_lt_mul_of_pos_right r4 hb
    have hm3 : 0 ≤ a % b * d := Int.mul_nonneg r1 (by omega)
    have hm4 : 0 ≤ c % d * b := Int.mul_nonneg r3 (by omega)
    rw [Int.mul_comm d b] at hm2
    by_cases hw : a / b = c / d
    · have eD0 : a * d - c * b = a % b * d - c % d * b := by rw [eD, hw]; simp
      rw [if_neg (fun z => z hw)]
      by_cases z1 : a % b = 0
      · left
        rw [if_pos z1]
        unfold agK
        rw [hw, if_pos rfl, compare_eq ra rc]
        simp only [ob_some]
        congr 1
        apply sgn_eq
        rw [eD0, z1]
        have : 0 < c % d ↔ 0 < c % d * b := ⟨fun h => Int.mul_pos h hb, fun h => Int.pos_of_mul_pos_left h (by omega)⟩
        constructor <;> constructor <;> intro h <;> omega
      · rw [if_neg z1]
        by_cases z2 : c % d = 0
        · left
          rw [if_neg (fun z => z z2)]
          unfold agK
          rw [hw, if_pos rfl, compare_eq ra rc]
          simp only [ob_some]
          congr 1
          apply sgn_eq
          rw [eD0, z2]
          have : 0 < a % b * d := Int.mul_pos (by omega) hd
          constructor <;> constructor <;> intro h <;> omega
        · right
          rw [if_pos z2]
          exact ⟨by omega, by omega, hw, rfl⟩
    · left
      rw [if_pos hw]
      unfold agK
      rw [b62_s wa, b62_s wc, if_neg hw, compare_eq wa wc]
      simp only [ob_some]
      congr 1
      apply sgn_eq
      rw [eD]
      have h1 : a / b - c / d ≤ -1 ∨ 1 ≤ a / b - c / d := by omega
      rcases h1 with h1 | h1
      · have : (a / b - c / d) * (b * d) ≤ -1 * (b * d) := Int.mul_le_mul_of_nonneg_right h1 (by omega)
        constructor <;> constructor <;> intro h <;> omega
      · have : 1 * (b * d) ≤ (a / b - c / d) * (b * d) := Int.mul_le_mul_of_nonneg_right h1 (by omega)
        constructor <;> constructor <;> intro h <;> omega
  have keep : ∀ a b c d : Int, 0 < b → 0 < d → a / b = c / d → d * (a % b) - b * (c % d) = a * d - c * b := by
    intro a b c d hb hd hw
    have h3 := Int.emod_add_mul_ediv a b
    have h4 := Int.emod_add_mul_ediv c d
    rw [← hw] at h4
    have e1 : a % b = a - b * (a / b) := by omega
    have e2 : c % d = c - d * (a / b) := by omega
    rw [e1, e2]
    grind
  intro k
  induction k with
  | zero => intro n a b c d i ha hc hb hd hb2 hd2 hk1 hk2; simp at hk1; omega
  | succ k ih =>
    intro n a b c d i ha hc hb hd hb2 hd2 hk1 hk2 hn h0 hi
    obtain ⟨n, rfl⟩ : ∃ m, n = m + 1 := ⟨n - 1, by omega⟩
    rcases step n a b c d i ha hc hb hd hb2 hd2 h0 (by omega) with h | ⟨g1, g2, g3, g4⟩
    · exact h
    · rw [g4]
      have r2 := Int.emod_lt_of_pos a hb
      have r4 := Int.emod_lt_of_pos c hd
      obtain ⟨n, rfl⟩ : ∃ m, n = m + 1 := ⟨n - 1, by omega⟩
      have k1 := keep a b c d hb hd g3
      rcases step n d (c % d) b (a % b) (i + 1) ⟨by omega, hd2⟩ ⟨by omega, hb2⟩ g2 g1 (by omega) (by omega) (by omega) (by omega) with h | ⟨f1, f2, f3, f4⟩
      · rw [h, k1]
      · rw [f4]
        have k2 := keep d (c % d) b (a % b) g2 g1 f3
        have hp : (2 : Int) ^ (k + 1) = 2 * 2 ^ k := by rw [Int.pow_succ, Int.mul_comm]
        have q1 : 2 * (b % (a % b)) < b := by
          have h1 := Int.emod_lt_of_pos b g1
          have h2 := Int.emod_add_mul_ediv b (a % b)
          have h3 : 1 ≤ b / (a % b) := by
            have := Int.ediv_nonneg (a := b) (b := a % b) (by omega) (by omega)
            by_cases z : b / (a % b) = 0
            · rw [z] at h2; omega
            · omega
          have h4 : a % b * 1 ≤ a % b * (b / (a % b)) := Int.mul_le_mul_of_nonneg_left h3 (by omega)
          omega
        have q2 : 2 * (d % (c % d)) < d := by
          have h1 := Int.emod_lt_of_pos d g2
          have h2 := Int.emod_add_mul_ediv d (c % d)
          have h3 : 1 ≤ d / (c % d) := by
            have := Int.ediv_nonneg (a := d) (b := c % d) (by omega) (by omega)
            by_cases z : d / (c % d) = 0
            · rw [z] at h2; omega
            · omega
          have h4 : c % d * 1 ≤ c % d * (d / (c % d)) := Int.mul_le_mul_of_nonneg_left h3 (by omega)
          omega
        rw [ih n (a % b) (b % (a % b)) (c % d) (d % (c % d)) (i + 1 + 1) ⟨by omega, by omega⟩ ⟨by omega, by omega⟩ f2 f1 (by omega) (by omega) (by omega) (by omega) (by omega) (by omega) (by omega)]
        have k3 : a % b * (d % (c % d)) - c % d * (b % (a % b)) = d * (a % b) - b * (c % d) := by rw [← k2]
        rw [k3, k1]
theorem against_eq {a b : Nat} {mem : Mem} (h1 : b62 (mem a 0)) (h2 : b62 (mem b 0)) (h3 : 0 < mem a 1 ∧ mem a 1 < 4611686018427387904) (h4 : 0 < mem b 1 ∧ mem b 1 < 4611686018427387904) : Frac_against a b mem = some (sgn (mem a 0 * mem b 1 - mem b 0 * mem a 1)) := by
  unfold Frac_against
  rw [lt_id, lt_id, lt_id, lt_id, jn_id]
  exact against_L mem 62 2000 _ _ _ _ 0 h1 h2 h3.1 h4.1 h3.2 h4.2 (by have := h3.2; show _ < (4611686018427387904 : Int); omega) (by have := h4.2; show _ < (4611686018427387904 : Int); omega) (by omega) (by omega) (by omega)
