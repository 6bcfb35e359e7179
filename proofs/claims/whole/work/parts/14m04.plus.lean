/-! the model's adding -/
theorem mul_b {a b A B : Int} (ha : -A ≤ a ∧ a ≤ A) (hb : 0 ≤ b ∧ b ≤ B) : -(A * B) ≤ a * b ∧ a * b ≤ A * B := by
  have hA : 0 ≤ A := by omega
  have h1 : a * b ≤ A * b := Int.mul_le_mul_of_nonneg_right ha.2 hb.1
  have h2 : -A * b ≤ a * b := Int.mul_le_mul_of_nonneg_right ha.1 hb.1
  have h3 : A * b ≤ A * B := Int.mul_le_mul_of_nonneg_left hb.2 hA
  rw [Int.neg_mul] at h2
  omega
theorem plus_frac {p q X Z D : Int} {mem : Mem} (U P E Q : Int) (hf : frac mem X D) (hD : 0 < D) (hq : 0 < q ∧ q ≤ Q) (hp : -P ≤ p ∧ p ≤ P)
    (hu : -U ≤ mem 149 5 ∧ mem 149 5 ≤ U) (he : mem 149 6 ≤ E) (hB : U * Q + P * E < 4611686018427387904) (hB2 : E * Q < 4611686018427387904) (h : p * D = Z * q) :
    ∃ m, Mo_plus p q mem = some m ∧ frac m (X + Z) D ∧ (∀ c i, ¬ (c = 149 ∧ (i = 5 ∨ i = 6)) → m c i = mem c i) := by
  obtain ⟨f1, f2⟩ := hf
  have hd0 : 0 < mem 149 6 := by rw [f2]; exact dn_pos hD
  have cr : mem 149 5 * D = X * mem 149 6 := by rw [f1, f2]; exact cross_nd X D
  generalize hu5 : mem 149 5 = u at *
  generalize hd : mem 149 6 = d at *
  have hU : 0 ≤ U := by omega
  have hP : 0 ≤ P := by omega
  have e1 : E * 1 ≤ E * Q := Int.mul_le_mul_of_nonneg_left (by omega) (by omega)
  have e2 : 1 * Q ≤ E * Q := Int.mul_le_mul_of_nonneg_right (by omega) (by omega)
  have bd : b62 d := ⟨by omega, by omega⟩
  have bq : b62 q := ⟨by omega, by omega⟩
  unfold Mo_plus
  rw [hd, mdiv_eq bd bq (by omega), ob_some]
  have gp := gcd_pos (p := d) (q := q) (by omega)
  have gb := gcd_b62 (p := d) (q := q) (by omega) bq
  rw [b62_s gb, b62_s bd, b62_s bq, dv_id (by omega), dv_id (by omega), dv_id (by omega), tdiv_gl, tdiv_gr]
  have n1 : nm d q * ((Int.gcd d q : Nat) : Int) = d := nm_mul
  have n2 : dn d q * ((Int.gcd d q : Nat) : Int) = q := dn_mul
  have n3 := dn_pos (p := d) (q := q) (by omega)
  have n4 := dn_le (p := d) (q := q) (by omega)
  have n5 : 0 < nm d q := by
    refine Int.pos_of_mul_pos_left (b := ((Int.gcd d q : Nat) : Int)) ?_ (by omega)
    rw [n1]; exact hd0
  have n6 : nm d q ≤ d := by
    have : nm d q * 1 ≤ nm d q * ((Int.gcd d q : Nat) : Int) := Int.mul_le_mul_of_nonneg_left (by omega) (by omega)
    omega
  have x1 := mul_b (A := U) (B := Q) (b := dn d q) hu ⟨by omega, by omega⟩
  have x2 := mul_b (A := P) (B := E) (b := nm d q) hp ⟨by omega, by omega⟩
  have x3 := mul_b (A := E) (B := Q) (a := nm d q) (b := q) ⟨by omega, by omega⟩ ⟨by omega, by omega⟩
  have x4 : 0 < nm d q * q := Int.mul_pos n5 hq.1
  obtain ⟨m, g1, g2, g3⟩ := is_frac (p := u * dn d q + p * nm d q) (q := nm d q * q) (X := X + Z) (D := D) (mem := mem) ⟨by omega, by omega⟩ ⟨by omega, by omega⟩ x4 hD (by
    have k : nm d q * q = d * dn d q := by
      conv => lhs; rw [← n2]
      conv => rhs; rw [← n1]
      grind
    have k1 : (u * dn d q + p * nm d q) * D = (u * D) * dn d q + (p * D) * nm d q := by grind
    rw [k1, cr, h]
    have k2 : (X + Z) * (nm d q * q) = X * (nm d q * q) + Z * q * nm d q := by grind
    rw [k2, k]; grind)
  refine ⟨m, ?_, g2, g3⟩
  rw [hu5, g1, ob_some]
