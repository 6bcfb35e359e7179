/-! the model's forces -/
theorem lcm_dv {o d D : Int} (h1 : o ∣ D) (h2 : d ∣ D) (hd : 0 < d) : nm o d * d ∣ D ∧ o ∣ nm o d * d ∧ d ∣ nm o d * d := by
  have g1 := nm_mul (p := o) (q := d)
  have g2 := dn_mul (p := o) (q := d)
  have gp := gcd_pos (p := o) (q := d) (by omega)
  have c := cop (p := o) (q := d) (by omega)
  obtain ⟨s, hs⟩ := h1
  obtain ⟨t, ht⟩ := h2
  have k : nm o d * s = dn o d * t := by
    have : (nm o d * s) * ((Int.gcd o d : Nat) : Int) = (dn o d * t) * ((Int.gcd o d : Nat) : Int) := by
      have a1 : (nm o d * s) * ((Int.gcd o d : Nat) : Int) = (nm o d * ((Int.gcd o d : Nat) : Int)) * s := by grind
      have a2 : (dn o d * t) * ((Int.gcd o d : Nat) : Int) = (dn o d * ((Int.gcd o d : Nat) : Int)) * t := by grind
      rw [a1, a2, g1, g2, ← hs, ← ht]
    exact Int.eq_of_mul_eq_mul_right (by omega) this
  have dv : nm o d ∣ dn o d * t := by rw [← k]; exact Int.dvd_mul_right _ _
  have dv2 := Int.dvd_gcd_mul_iff_dvd_mul.mpr dv
  rw [c] at dv2
  have dv3 : nm o d ∣ t := by simpa using dv2
  obtain ⟨u, hu⟩ := dv3
  refine ⟨⟨u, ?_⟩, ⟨dn o d, ?_⟩, Int.dvd_mul_left _ _⟩
  · rw [ht, hu]; grind
  · have : o * dn o d = (nm o d * ((Int.gcd o d : Nat) : Int)) * dn o d := by rw [g1]
    rw [this]
    have : nm o d * d = nm o d * (dn o d * ((Int.gcd o d : Nat) : Int)) := by rw [g2]
    rw [this]
    grind
theorem nm_pos {p q : Int} (hp : 0 < p) (hq : 0 < q) : 0 < nm p q := by
  have g1 := nm_mul (p := p) (q := q)
  rw [← g1] at hp
  exact Int.pos_of_mul_pos_left hp (by have := gcd_pos (p := p) (q := q) (by omega); omega)
theorem dn_dvd (p q : Int) : dn p q ∣ q := ⟨((Int.gcd p q : Nat) : Int), (dn_mul (p := p) (q := q)).symm⟩
/-- what reactions() leaves alone -/
def rfr (m' m : Mem) : Prop := ∀ c i, ¬ (c = 149 ∧ (i = 5 ∨ i = 6 ∨ i = 13)) → ¬ (153 ≤ c ∧ c ≤ 158) → m' c i = m c i
theorem rfr_150 {m' m : Mem} {A : Int → Int} (h : rfr m' m) (hA : m 150 = A) : m' 150 = A := by
  rw [← hA]; funext i; exact h 150 i (by omega) (by omega)
def FI (A : Int → Int) (m0 : Mem) (k : Int) (m : Mem) : Prop := m 150 = A ∧ (∀ j, 0 ≤ j → j < A 1 → MK m A j) ∧ (0 < m 149 13 ∧ m 149 13 ∣ DD A) ∧ (∀ j, 0 ≤ j → j < k → m 157 j = nm (UU A j) (DD A) ∧ m 158 j = dn (UU A j) (DD A) ∧ dn (UU A j) (DD A) ∣ m 149 13) ∧ rfr m m0
/-- the last steps of a support -/
theorem put_force {A : Int → Int} (v : VA A) (hn : 2 ≤ A 1) {m m0 m16 : Mem} {k : Int} (h0 : 0 ≤ k) (h1 : k < A 1) (I : FI A m0 k m) (hf : frac m16 (UU A k) (DD A)) (fr : fr56 m16 m) (K : Mem → Option Mem) : ∃ m20, (ck k 4 (lt (mset m16 157 k (m16 149 5)) (fun m17 => ck k 4 (lt (mset m17 158 k (m17 149 6)) (fun m18 => (Mo_divisor (m18 149 13) (m18 149 6) m18).bind (fun r19 => dv (s64 r19) (lt (mset m18 149 13 (((s64 (m18 149 13)).tdiv (s64 r19)) * (m18 149 6))) (fun m20 => K m20)))))))) = K m20 ∧ FI A m0 (k + 1) m20 := by
  have n4 := v.2.1
  obtain ⟨B1, B2, B3, -⟩ := bnd v hn
  obtain ⟨I1, I2, ⟨I3, I3'⟩, I4, I5⟩ := I
  have d := dn_b (p := UU A k) B1.1
  have o13 : m16 149 13 = m 149 13 := fr _ _ (by omega)
  have ol : m 149 13 ≤ DD A := Int.le_of_dvd B1.1 I3'
  obtain ⟨l1, l2, l3⟩ := lcm_dv (o := m 149 13) (d := dn (UU A k) (DD A)) I3' (dn_dvd _ _) d.1
  have gp := gcd_pos (p := m 149 13) (q := dn (UU A k) (DD A)) (by omega)
  have gb := gcd_b62 (p := m 149 13) (q := dn (UU A k) (DD A)) (by omega) ⟨by omega, by omega⟩
  simp only [lt_id]
  rw [ck_id h0 (by omega) (by omega), ck_id h0 (by omega) (by omega)]
  have e13 : mset (mset m16 157 k (m16 149 5)) 158 k (mset m16 157 k (m16 149 5) 149 6) 149 13 = m 149 13 := by simp [mset, o13]
  have e6 : mset (mset m16 157 k (m16 149 5)) 158 k (mset m16 157 k (m16 149 5) 149 6) 149 6 = dn (UU A k) (DD A) := by simp [mset, hf.2]
  rw [e13, e6, mdiv_eq ⟨by omega, by omega⟩ ⟨by omega, by omega⟩ (by omega), ob_some, b62_s gb, b62_s (x := m 149 13) ⟨by omega, by omega⟩, dv_id (by omega), tdiv_gl]
  refine ⟨_, rfl, ?_, fun j j0 j1 => ⟨?_, ?_⟩, ⟨?_, ?_⟩, fun j j0 j1 => ?_, fun c i c1 c2 => ?_⟩
  · rw [← I1]; funext i; simp only [mset]; rw [if_neg (by omega), if_neg (by omega), if_neg (by omega), fr _ _ (by omega)]
  · simp only [mset]; rw [if_neg (by omega), if_neg (by omega), if_neg (by omega), fr _ _ (by omega)]; exact (I2 j j0 j1).1
  · simp only [mset]; rw [if_neg (by omega), if_neg (by omega), if_neg (by omega), fr _ _ (by omega)]; exact (I2 j j0 j1).2
  · rw [mset_here]; exact pos2 (nm_pos I3 d.1) d.1
  · rw [mset_here]; exact l1
  · rw [mset_here]
    by_cases e : j = k
    · subst e
      refine ⟨?_, ?_, l3⟩
      · simp [mset, hf.1]
      · simp [mset, hf.2]
    · obtain ⟨z1, z2, z3⟩ := I4 j j0 (by omega)
      refine ⟨?_, ?_, Int.dvd_trans z3 l2⟩
      · simp only [mset]; rw [if_neg (by omega), if_neg (by omega), if_neg (by omega), fr _ _ (by omega)]; exact z1
      · simp only [mset]; rw [if_neg (by omega), if_neg (by omega), if_neg (by omega), fr _ _ (by omega)]; exact z2
  · simp only [mset]; rw [if_neg (by omega), if_neg (by omega), if_neg (by omega), fr _ _ (by omega)]; exact I5 c i c1 c2
theorem both_eq {A : Int → Int} (v : VA A) {k : Int} (h0 : 0 ≤ k) (h1 : k + 1 < A 1) : ZS A (brF (aT A k) (aT A (k + 1)) 1) + ZS A (brF (aT A k) (aT A (k + 1)) 0) = (2 * spA A k) * (ZS A (bsF (aT A (k + 1)) 1) - ZS A (bsF (aT A k) 1) - ZS A (plF (aT A k))) := by
  have a1 := VA_at v h0 (by omega)
  have a2 := VA_at v (k := k + 1) (by omega) h1
  have a3 := VA_lt v h0 h1
  have := v.1
  have e : ZS A (bsF (aT A (k + 1)) 1) - ZS A (bsF (aT A k) 1) - ZS A (plF (aT A k)) = ZS A (fun x y => bsF (aT A (k + 1)) 1 x y + -1 * bsF (aT A k) 1 x y + -1 * plF (aT A k) x y) := by
    rw [ZS_add, ZS_add, ZS_mul, ZS_mul]; omega
  rw [e, ← ZS_mul, ← ZS_add]
  unfold spA
  generalize aT A (k + 1) = b at *
  generalize aT A k = a at *
  obtain ⟨a', rfl⟩ := nat_of a1.1
  obtain ⟨b', rfl⟩ := nat_of a2.1
  refine ZS_congr v (fun x y x0 xy y1 => ?_)
  obtain ⟨x', rfl⟩ := nat_of x0
  obtain ⟨y', rfl⟩ := nat_of (show 0 ≤ y by omega)
  have := d_both a' (by omega) b' (by omega) (by omega) x' (by omega) y' (by omega) (by omega)
  rw [this]
  grind
theorem UU_first {A : Int → Int} (hn : 2 ≤ A 1) : UU A 0 = DD A * (ZS A (plF (aT A 0)) + ZS A (bsF (aT A 0) 1) + 0) + hQ A 0 * ZS A (brF (aT A 0) (aT A (0 + 1)) 0) + (ooA A (0 + 1) * QQ A 0) + -(ooA A 0 * QQ A 0) := by
  unfold UU T0 TT SS
  rw [if_pos rfl, if_neg (by omega)]
  unfold shB hQ
  grind
theorem UU_left {A : Int → Int} (v : VA A) (hn : 2 ≤ A 1) {k : Int} (h0 : 0 < k) (h1 : k < A 1) : UU A k = DD A * (ZS A (plF (aT A k)) + 0 + 0) + hQ A (k - 1) * ZS A (brF (aT A (k - 1)) (aT A (k - 1 + 1)) 1) + (ooA A (k - 1) * QQ A (k - 1)) + -(ooA A k * QQ A (k - 1)) + SS A k := by
  have b := both_eq v (k := k - 1) (by omega) (by omega)
  have q := hQ_mul v hn (j := k - 1) (by omega) (by omega)
  rw [show k - 1 + 1 = k by omega] at *
  unfold UU T0 TT
  rw [if_neg (by omega)]
  have s : SS A (k - 1) = (ooA A k - ooA A (k - 1)) * QQ A (k - 1) + ZS A (brF (aT A (k - 1)) (aT A k) 0) * hQ A (k - 1) := by
    unfold SS shB hQ
    rw [if_neg (by omega), show k - 1 + 1 = k by omega]
  rw [s]
  have b' : hQ A (k - 1) * (ZS A (brF (aT A (k - 1)) (aT A k) 1) + ZS A (brF (aT A (k - 1)) (aT A k) 0)) = DD A * (ZS A (bsF (aT A k) 1) - ZS A (bsF (aT A (k - 1)) 1) - ZS A (plF (aT A (k - 1)))) := by rw [b, q]; grind
  grind
