/-! times -/
theorem most_f {U R : Int} (hR : 0 ≤ R) : ∀ n : Nat, ∃ F : Int, 0 ≤ F ∧ F ≤ (n : Int) ∧ F * U ≤ R ∧ ∀ f : Int, F < f → f ≤ (n : Int) → R < f * U := by
  intro n
  induction n with
  | zero => exact ⟨0, by omega, by omega, by omega, fun f f0 f1 => by omega⟩
  | succ n ih =>
    obtain ⟨F, a, b, c, d⟩ := ih
    by_cases x : ((n + 1 : Nat) : Int) * U ≤ R
    · exact ⟨((n + 1 : Nat) : Int), by omega, by omega, x, fun f f0 f1 => by omega⟩
    · refine ⟨F, a, by omega, c, fun f f0 f1 => ?_⟩
      by_cases e : f = ((n + 1 : Nat) : Int)
      · rw [e]; omega
      · exact d f f0 (by omega)
theorem times_cmp {U D p f : Int} (hD : 0 < D) (hf : 0 < f) : nm p f * D < U * dn p f ↔ p * D < f * U := by
  have c := cross_nd p f
  have d := dn_pos (p := p) hf
  generalize nm p f = x at *
  generalize dn p f = y at *
  have h1 : (x * D) * f = (p * D) * y := by
    have : (x * D) * f = (x * f) * D := by grind
    rw [this, c]; grind
  have h2 : (U * y) * f = (f * U) * y := by grind
  rw [← lt_mul_iff (a := x * D) hf, h1, h2, lt_mul_iff d]
theorem within_eq {U D p F : Int} {m0 : Mem} (h0 : m0 129 0 = U) (h1 : m0 129 1 = D) (hU : ab U 3000000000000000000) (hD : 0 < D ∧ D ≤ 200000000000000) (hp : 0 ≤ p ∧ p ≤ 9999) (hF : 0 ≤ F ∧ F ≤ 99) (f1 : F * U ≤ p * D) (f2 : ∀ f, F < f → f ≤ 99 → p * D < f * U) : ∀ (d n : Nat) (m : Mem), F + (d : Int) ≤ 99 → d < n → (∀ c i, ¬ c = 130 → m c i = m0 c i) → ∃ m', BP_timesWithin_L3 p n (F + (d : Int)) m = some (F, m') ∧ (∀ c i, ¬ c = 130 → m' c i = m0 c i) := by
  have one : ∀ (i : Int) (m : Mem), 0 < i → i ≤ 99 → (∀ c i, ¬ c = 130 → m c i = m0 c i) → ∃ m3, Frac_become 130 p i m = some m3 ∧ (∀ c i, ¬ c = 130 → m3 c i = m0 c i) ∧ Frac_against 129 130 m3 = some (sgn (U * dn p i - nm p i * D)) := by
    intro i m i0 i1 hm
    have d := dn_b (p := p) i0
    have n := nm_ab (q := i) (p := p) (B := 9999) ⟨by omega, by omega⟩
    refine ⟨_, become_pos ⟨by omega, by omega⟩ ⟨by omega, by omega⟩ i0, fun c j hc => by rw [mset_if, if_neg (by omega), mset_if, if_neg (by omega)]; exact hm c j hc, ?_⟩
    have e0 : mset (mset m 130 0 (nm p i)) 130 1 (dn p i) 129 0 = U := by rw [mset_if, if_neg (by omega), mset_if, if_neg (by omega), hm _ _ (by omega)]; exact h0
    have e1 : mset (mset m 130 0 (nm p i)) 130 1 (dn p i) 129 1 = D := by rw [mset_if, if_neg (by omega), mset_if, if_neg (by omega), hm _ _ (by omega)]; exact h1
    have e2 : mset (mset m 130 0 (nm p i)) 130 1 (dn p i) 130 0 = nm p i := by simp [mset]
    have e3 : mset (mset m 130 0 (nm p i)) 130 1 (dn p i) 130 1 = dn p i := by simp [mset]
    rw [against_eq (by rw [e0]; exact b62_le hU (by decide)) (by rw [e2]; exact b62_le n (by decide)) (by rw [e1]; omega) (by rw [e3]; omega), e0, e1, e2, e3]
  have sg : ∀ t : Int, (0 < s32 (sgn t)) ↔ 0 < t := by
    intro t
    unfold sgn
    split
    · rw [s32_id (a := -1) (by decide) (by decide)]; constructor <;> intro _ <;> omega
    · split
      · rw [s32_0]; constructor <;> intro _ <;> omega
      · rw [s32_1]; constructor <;> intro _ <;> omega
  intro d
  induction d with
  | zero =>
    intro n m hd hn hm
    obtain ⟨n', rfl⟩ : ∃ n', n = n' + 1 := ⟨n - 1, by omega⟩
    rw [show F + ((0 : Nat) : Int) = F by omega, BP_timesWithin_L3, s32_id (a := F) (by omega) (by omega), s32_id (a := p) (by omega) (by omega)]
    by_cases z : F ≤ 0
    · rw [if_pos z, show F = 0 by omega]; exact ⟨m, rfl, hm⟩
    · obtain ⟨m3, a, b, c⟩ := one F m (by omega) (by omega) hm
      have k := times_cmp (U := U) (D := D) (p := p) hD.1 (show 0 < F by omega)
      have ng : ¬ (0 < s32 (sgn (U * dn p F - nm p F * D))) := by
        rw [sg]
        intro y
        have := k.mp (by omega)
        omega
      rw [if_neg z, a, ob_some, c, ob_some, if_neg ng]
      exact ⟨m3, rfl, b⟩
  | succ d ih =>
    intro n m hd hn hm
    obtain ⟨n', rfl⟩ : ∃ n', n = n' + 1 := ⟨n - 1, by omega⟩
    obtain ⟨m3, a, b, c⟩ := one (F + ((d + 1 : Nat) : Int)) m (by omega) hd hm
    have k := times_cmp (U := U) (D := D) (p := p) (f := F + ((d + 1 : Nat) : Int)) hD.1 (by omega)
    have ps : 0 < s32 (sgn (U * dn p (F + ((d + 1 : Nat) : Int)) - nm p (F + ((d + 1 : Nat) : Int)) * D)) := by
      rw [sg]
      have := k.mpr (f2 _ (by omega) hd)
      omega
    rw [BP_timesWithin_L3, s32_id (a := F + ((d + 1 : Nat) : Int)) (by omega) (by omega), s32_id (a := p) (by omega) (by omega), if_neg (by omega), a, ob_some, c, ob_some, if_pos ps, show F + ((d + 1 : Nat) : Int) + -1 = F + (d : Int) by omega]
    exact ih n' m3 (by omega) (by omega) b
theorem times_mo {U D p F : Int} {m : Mem} (h0 : m 149 19 = U) (h1 : m 149 20 = D) (hU0 : 0 < U) (hU : ab U 3000000000000000000) (hD : 0 < D ∧ D ≤ 200000000000000) (hp : 0 ≤ p ∧ p ≤ 9999) (hF : 0 ≤ F ∧ F ≤ 99) (f1 : F * U ≤ p * D) (f2 : ∀ f, F < f → f ≤ 99 → p * D < f * U) : ∀ (d n : Nat) (i : Int), 0 ≤ i → i + (d : Int) = F → d < n → Mo_times_L42 p m n i = some (F, m) := by
  have pD := mul_b (a := p) (b := D) (A := 9999) (B := 200000000000000) ⟨by omega, by omega⟩ ⟨by omega, by omega⟩
  have e99 : s32 99 = 99 := s32_id (by decide) (by decide)
  have le : ∀ i, 0 ≤ i → i ≤ F → i * U ≤ p * D := by
    intro i i0 i1
    have := Int.mul_le_mul_of_nonneg_right i1 (show 0 ≤ U by omega)
    omega
  intro d
  induction d with
  | zero =>
    intro n i i0 i1 hd
    obtain ⟨n', rfl⟩ : ∃ n', n = n' + 1 := ⟨n - 1, by omega⟩
    have e : i = F := by omega
    subst e
    rw [Mo_times_L42, e99, s32_id (a := i) (by omega) (by omega)]
    by_cases z : 99 ≤ i
    · rw [if_pos z]
    · have hi := f2 (i + 1) (by omega) (by omega)
      have b : b62 ((i + 1) * U) := by
        have e : (i + 1) * U = i * U + U := by rw [Int.add_mul, Int.one_mul]
        have ui : U ≤ 2000000000000000000 ∨ i = 0 := by
          by_cases y : i = 0
          · exact Or.inr y
          · have := Int.mul_le_mul_of_nonneg_right (show 1 ≤ i by omega) (show 0 ≤ U by omega)
            rw [Int.one_mul] at this
            exact Or.inl (by omega)
        have iu : 0 ≤ i * U := Int.mul_nonneg i0 (by omega)
        unfold ab at hU
        rw [e]
        rcases ui with y | y
        · exact ⟨by omega, by omega⟩
        · rw [y, Int.zero_mul]; exact ⟨by omega, by omega⟩
      rw [if_neg z, s32_id (a := p) (by omega) (by omega), s32_id (a := i + 1) (by omega) (by omega), h0, h1, isLess_eq ⟨by omega, by omega⟩ b ⟨by decide, by decide⟩ ⟨by omega, by omega⟩, ob_some, Int.mul_one, if_pos hi, s32_1, if_1]
  | succ d ih =>
    intro n i i0 i1 hd
    obtain ⟨n', rfl⟩ : ∃ n', n = n' + 1 := ⟨n - 1, by omega⟩
    have l := le (i + 1) (by omega) (by omega)
    have b : b62 ((i + 1) * U) := by
      have : 0 ≤ (i + 1) * U := Int.mul_nonneg (by omega) (by omega)
      exact ⟨by omega, by omega⟩
    rw [Mo_times_L42, e99, s32_id (a := i) (by omega) (by omega), if_neg (by omega), s32_id (a := p) (by omega) (by omega), s32_id (a := i + 1) (by omega) (by omega), h0, h1, isLess_eq ⟨by omega, by omega⟩ b ⟨by decide, by decide⟩ ⟨by omega, by omega⟩, ob_some, Int.mul_one, if_neg (show ¬ p * D < (i + 1) * U by omega), s32_0, if_0]
    exact ih n' (i + 1) (by omega) (by omega) (by omega)
theorem Rel_tell {mem m4 m5 : Mem} (R : Rel mem) (f4 : sfr m4 mem) (f5 : ∀ c i, ¬ (120 ≤ c ∧ c ≤ 125) → ¬ (c = 127 ∨ c = 128 ∨ c = 129) → m5 c i = m4 c i) (c1 : m5 120 3 = 1) (c2 : m5 123 3 = -1) : Rel m5 := by
  have R0 := R
  obtain ⟨-, -, -, -, -, -, ⟨k1, k2, -⟩⟩ := R0
  refine Rel_cls R (fun c i hc => ?_)
  by_cases x : (c = 120 ∨ c = 123) ∧ i = 3
  · rcases x.1 with y | y
    · rw [y, x.2, c1, k1]
    · rw [y, x.2, c2, k2]
  · rw [f5 c i (by omega) (by omega), f4 c i (by omega)]
theorem ok_times (a : Int) (ha : r32 a) : OkM (BP_times a) (Mo_times a) s32 := by
  intro mem R
  have R0 := R
  obtain ⟨⟨v, rb⟩, -, -, -, -, -, ⟨k1, k2, -⟩⟩ := R0
  have n4 := v.2.1
  have l10 := v.1
  have b2 := rb.2.1
  obtain ⟨ha1, ha2⟩ := ha
  have e9 : s32 9999 = 9999 := s32_id (by decide) (by decide)
  by_cases h3 : 0 ≤ a ∧ a ≤ 9999
  · by_cases h1 : 2 ≤ mem 150 1
    · obtain ⟨m4, e4, V, f4⟩ := asItIs_eq v h1 rb
      obtain ⟨m5, e5, t0, t1, f5, c1, c2⟩ := tellSpan_eq v h1 V (by rw [f4 _ _ (by omega)]; exact k1) (by rw [f4 _ _ (by omega)]; exact k2)
      have R5 : Rel m5 := Rel_tell R f4 f5 c1 c2
      have hA5 : m5 150 = mem 150 := by funext i; rw [f5 150 i (by omega) (by omega), f4 150 i (by omega)]
      have sb := spN_b v h1
      have sn := spN_nn v h1
      have U := nm_ab (q := spD (mem 150)) sb.2
      have D := dn_b (p := spN (mem 150)) sb.1.1
      have cr := cross_nd (spN (mem 150)) (spD (mem 150))
      generalize hU : nm (spN (mem 150)) (spD (mem 150)) = u at *
      generalize hD : dn (spN (mem 150)) (spD (mem 150)) = dd at *
      have u0 : 0 ≤ u := by
        by_cases x : 0 ≤ u
        · exact x
        · have y1 := Int.mul_le_mul_of_nonneg_right (show u ≤ -1 by omega) (show 0 ≤ spD (mem 150) by omega)
          have y2 := Int.mul_nonneg sn (show 0 ≤ dd by omega)
          rw [Int.neg_mul, Int.one_mul] at y1
          omega
      by_cases hz : u = 0
      · obtain ⟨m7, e7, s0, s1, f7⟩ := span2_eq v h1 hA5
        rw [hU] at s0
        refine ⟨-2, m5, -2, m7, ?_, ?_, rfl, Rel_mod R5 (fun c i x1 x2 x3 => f7 c i (by omega) (by omega))⟩
        · unfold BP_times
          rw [s32_id (a := a) (by omega) (by omega), e9, if_neg (by omega), if_pos h3.2, Beam_stands_eq (by omega), ob_some, b2, if_pos h1, s32_1, if_1, e4, ob_some, e5, ob_some, t0, hz, s64_0, if_0]
        · unfold Mo_times
          rw [s32_id (a := a) (by omega) (by omega), Mo_in_eq (by omega) (by omega) (by omega), ob_some, if_pos h3, s32_1, if_1, Mo_stands_eq (by rw [hA5]; omega), hA5, ob_some, if_pos h1, s32_1, if_1, e7, ob_some, s0, hz, s64_0, if_0]
      · obtain ⟨F, F0, F1, F2, F3⟩ := most_f (U := u) (R := a * dd) (Int.mul_nonneg h3.1 (by omega)) 99
        obtain ⟨m6, e6, f6⟩ := within_eq t0 t1 U ⟨D.1, by omega⟩ h3 ⟨F0, F1⟩ F2 F3 (99 - F).toNat 2000 m5 (by omega) (by omega) (fun _ _ _ => rfl)
        rw [show F + (((99 - F).toNat : Nat) : Int) = 99 by omega] at e6
        have R6 : Rel m6 := Rel_cls R5 (fun c i hc => f6 c i (by omega))
        have hA6 : m6 150 = mem 150 := by rw [← hA5]; funext i; exact f6 150 i (by omega)
        obtain ⟨m7, e7, s0, s1, f7⟩ := span2_eq v h1 hA6
        rw [hU] at s0
        rw [hD] at s1
        have e8 := times_mo s0 s1 (by omega) U ⟨D.1, by omega⟩ h3 ⟨F0, F1⟩ F2 F3 F.toNat 2000 0 (by omega) (by omega) (by omega)
        refine ⟨F, m6, F, m7, ?_, ?_, rfl, Rel_mod R6 (fun c i x1 x2 x3 => f7 c i (by omega) (by omega))⟩
        · unfold BP_times BP_timesWithin
          rw [s32_id (a := a) (by omega) (by omega), e9, if_neg (by omega), if_pos h3.2, Beam_stands_eq (by omega), ob_some, b2, if_pos h1, s32_1, if_1, e4, ob_some, e5, ob_some, t0, b62_s (b62_le U (by decide)), s64_0, if_pos hz, e6, bdI_some]
        · unfold Mo_times
          rw [s32_id (a := a) (by omega) (by omega), Mo_in_eq (by omega) (by omega) (by omega), ob_some, if_pos h3, s32_1, if_1, Mo_stands_eq (by rw [hA6]; omega), hA6, ob_some, if_pos h1, s32_1, if_1, e7, ob_some, s0, b62_s (b62_le U (by decide)), s64_0, if_pos hz, e8]
    · refine ⟨-6, mem, -6, mem, ?_, ?_, rfl, R⟩
      · unfold BP_times
        rw [s32_id (a := a) (by omega) (by omega), e9, if_neg (by omega), if_pos h3.2, Beam_stands_eq (by omega), ob_some, b2, if_neg h1, s32_0, if_0]
      · unfold Mo_times
        rw [s32_id (a := a) (by omega) (by omega), Mo_in_eq (by omega) (by omega) (by omega), ob_some, if_pos h3, s32_1, if_1, Mo_stands_eq n4, ob_some, if_neg h1, s32_0, if_0]
  · refine ⟨-1, mem, -1, mem, ?_, ?_, rfl, R⟩
    · unfold BP_times
      rw [s32_id (a := a) (by omega) (by omega), e9]
      by_cases z : a < 0
      · rw [if_pos z]
      · rw [if_neg z, if_neg (by omega)]
    · unfold Mo_times
      rw [s32_id (a := a) (by omega) (by omega), Mo_in_eq (by omega) (by omega) (by omega), ob_some, if_neg h3, s32_0, if_0]
