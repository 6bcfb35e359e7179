theorem told_eq {r x y : Int} (hr : r = 0 ∨ r = 1) (c : Nat) (m : Mem) : Frac_told c r (mset (mset m c 0 x) c 1 y) = some (if r = 0 then x else y) := by
  unfold Frac_told
  rcases hr with rfl | rfl
  · rw [s32_0, if_0]; simp [mset]
  · rw [s32_1, if_1]; simp [mset]
theorem in_01 {p q : Int} (hp : r32 p) (hq : -1000000 ≤ q ∧ q ≤ 1000000) {l : Int} (hl : l = 0 ∨ l = 1) (mem : Mem) : Mo_in p l q mem = some (if l ≤ p ∧ p ≤ q then 1 else 0) := by
  obtain ⟨h1, h2⟩ := hp
  exact Mo_in_eq (by omega) (by omega) (by omega)
theorem ok_moment (a : Int) (b : Int) (c : Int) (ha : r32 a) (hb : r32 b) (hc : r32 c) : OkM (BP_moment a b c) (Mo_moment a b c) s64 := by
  intro mem R
  have R0 := R
  obtain ⟨⟨v, rb⟩, -⟩ := R0
  have n4 := v.2.1
  have l10 := v.1
  have b2 := rb.2.1
  have b1 := rb.1
  obtain ⟨ha1, ha2⟩ := ha
  obtain ⟨hb1, hb2⟩ := hb
  obtain ⟨hc1, hc2⟩ := hc
  have e100 : s32 100 = 100 := s32_id (by decide) (by decide)
  by_cases h4 : 1 ≤ b ∧ b ≤ 100
  · have bl := mul_b (a := b) (b := mem 150 0) (A := 100) (B := 10) ⟨by omega, h4.2⟩ ⟨by omega, by omega⟩
    by_cases h5 : 0 ≤ a ∧ a ≤ b * mem 150 0
    · by_cases h3 : c = 0 ∨ c = 1
      · by_cases h1 : 2 ≤ mem 150 1
        · unfold BP_moment Mo_moment
          obtain ⟨m4, e4, V, f4⟩ := asItIs_eq v h1 rb
          have R4 : Rel m4 := Rel_cls R (fun c i hc => f4 c i (by omega))
          have hA4 : m4 150 = mem 150 := by funext i; exact f4 150 i (by omega)
          have B1 := (bnd v h1).1
          obtain ⟨e5, mb⟩ := bendBetween_eq v h1 V h4 h5
          rw [Beam_stands_eq (by omega), ob_some, isPart_eq ⟨hc1, hc2⟩, ob_some, b2, b1, if_pos h1, s32_1, if_1', if_pos h3, s32_1, if_1', s32_id (a := b) (by omega) (by omega), s32_id (a := a) (by omega) (by omega), e100, if_neg (by omega), if_pos h4.2, if_neg (by omega), s32_id (a := b * mem 150 0) (by omega) (by omega), if_pos h5.2, e4, ob_some, e5, ob_some, told_eq h3, ob_some]
          have R6 := Rel_said R4 (nm (MB (mem 150) a b) (2 * b * b * DD (mem 150))) (dn (MB (mem 150) a b) (2 * b * b * DD (mem 150)))
          have hA6 : (mset (mset m4 129 0 (nm (MB (mem 150) a b) (2 * b * b * DD (mem 150)))) 129 1 (dn (MB (mem 150) a b) (2 * b * b * DD (mem 150)))) 150 = mem 150 := by rw [← hA4]; funext i; rw [mset_if, if_neg (by omega), mset_if, if_neg (by omega)]
          generalize mset (mset m4 129 0 (nm (MB (mem 150) a b) (2 * b * b * DD (mem 150)))) 129 1 (dn (MB (mem 150) a b) (2 * b * b * DD (mem 150))) = m6 at *
          obtain ⟨m7, e7, V7, f7⟩ := reactions_eq v h1 hA6
          obtain ⟨w, ew, hw⟩ := momentAt_eq v h1 V7 (a := a) (b := b) ⟨h5.1, by omega⟩ h4
          have o := MV_one v h1 V7
          have wb := ab_div o hw mb
          have bb := mul_b (a := 2 * b) (b := b) (A := 200) (B := 100) ⟨by omega, by omega⟩ ⟨by omega, h4.2⟩
          have pb : 0 < 2 * b * b := pos2 (by omega) (by omega)
          have bo := mul_b (a := 2 * b * b) (b := m7 149 13) (A := 20000) (B := 1100000) ⟨by omega, by omega⟩ ⟨by omega, by omega⟩
          have po := pos2 pb o.1
          have pd := pos2 pb B1.1
          obtain ⟨m8, e8, g8, f8⟩ := is_frac (mem := m7) (p := w) (q := 2 * b * b * m7 149 13) (X := MB (mem 150) a b) (D := 2 * b * b * DD (mem 150)) (b62_le wb (by decide)) ⟨by omega, by omega⟩ po pd (by
            have z : w * (2 * b * b * DD (mem 150)) = (2 * b * b) * (w * DD (mem 150)) := by clear hw ew; grind
            rw [z, hw]
            clear hw ew z
            grind)
          refine ⟨_, m6, (if c = 0 then nm (MB (mem 150) a b) (2 * b * b * DD (mem 150)) else dn (MB (mem 150) a b) (2 * b * b * DD (mem 150))), m8, rfl, ?_, rfl, Rel_calc R6 f7 f8⟩
          rw [in_01 ⟨hb1, hb2⟩ (by decide) (Or.inr rfl), ob_some, if_pos h4, s32_1, if_1', hA6, s32_id (a := mem 150 0) (by omega) (by omega), in_01 ⟨ha1, ha2⟩ ⟨by omega, by omega⟩ (Or.inl rfl), ob_some, if_pos h5, s32_1, if_1', s32_id (a := c) (by omega) (by omega), in_part ⟨hc1, hc2⟩, ob_some, if_pos h3, s32_1, if_1', Mo_stands_eq (by rw [hA6]; omega), hA6, ob_some, if_pos h1, s32_1, if_1, e7, ob_some, ew, ob_some, e8, ob_some]
          rcases h3 with rfl | rfl
          · rw [if_0, if_pos rfl, g8.1]
          · rw [if_1, if_neg (by decide), g8.2]
        · refine ⟨-9223372036854775808, mem, -9223372036854775808, mem, ?_, ?_, rfl, R⟩
          · unfold BP_moment
            rw [Beam_stands_eq (by omega), ob_some, b2, if_neg h1, s32_0, if_0']
          · unfold Mo_moment
            rw [s32_id (a := b) (by omega) (by omega), s32_id (a := a) (by omega) (by omega), s32_id (a := mem 150 0) (by omega) (by omega), in_01 ⟨hb1, hb2⟩ (by decide) (Or.inr rfl), ob_some, if_pos h4, s32_1, if_1', in_01 ⟨ha1, ha2⟩ ⟨by omega, by omega⟩ (Or.inl rfl), ob_some, if_pos h5, s32_1, if_1', s32_id (a := c) (by omega) (by omega), in_part ⟨hc1, hc2⟩, ob_some, if_pos h3, s32_1, if_1', Mo_stands_eq n4, ob_some, if_neg h1, s32_0, if_0]
      · refine ⟨-9223372036854775808, mem, -9223372036854775808, mem, ?_, ?_, rfl, R⟩
        · unfold BP_moment
          rw [Beam_stands_eq (by omega), ob_some, isPart_eq ⟨hc1, hc2⟩, ob_some, if_neg h3, s32_0, if_0']
          by_cases h1 : 2 ≤ mem 1 1
          · rw [if_pos h1, s32_1, if_1']
          · rw [if_neg h1, s32_0, if_0']
        · unfold Mo_moment
          rw [s32_id (a := b) (by omega) (by omega), s32_id (a := a) (by omega) (by omega), s32_id (a := mem 150 0) (by omega) (by omega), in_01 ⟨hb1, hb2⟩ (by decide) (Or.inr rfl), ob_some, if_pos h4, s32_1, if_1', in_01 ⟨ha1, ha2⟩ ⟨by omega, by omega⟩ (Or.inl rfl), ob_some, if_pos h5, s32_1, if_1', s32_id (a := c) (by omega) (by omega), in_part ⟨hc1, hc2⟩, ob_some, if_neg h3, s32_0, if_0']
    · refine ⟨-9223372036854775808, mem, -9223372036854775808, mem, ?_, ?_, rfl, R⟩
      · unfold BP_moment
        rw [Beam_stands_eq (by omega), ob_some, isPart_eq ⟨hc1, hc2⟩, ob_some, s32_id (a := b) (by omega) (by omega), s32_id (a := a) (by omega) (by omega), e100, s32_1, b1, s32_id (a := b * mem 150 0) (by omega) (by omega), if_neg (show ¬ b < 1 by omega), if_pos h4.2]
        have z : (if a < 0 then some ((-9223372036854775808 : Int), mem) else if a ≤ b * mem 150 0 then (BP_solveAsItIs mem).bind (fun m3 => (Sta_bendBetween a b m3).bind (fun m4 => (Frac_told 129 c m4).bind (fun r5 => some (r5, m4)))) else some (-9223372036854775808, mem)) = some (-9223372036854775808, mem) := by
          by_cases z : a < 0
          · rw [if_pos z]
          · rw [if_neg z, if_neg (by omega)]
        rw [z]
        by_cases h1 : 2 ≤ mem 1 1
        · rw [if_pos h1, s32_1, if_1']
          by_cases h3 : c = 0 ∨ c = 1
          · rw [if_pos h3, s32_1, if_1']
          · rw [if_neg h3, s32_0, if_0']
        · rw [if_neg h1, s32_0, if_0']
      · unfold Mo_moment
        rw [s32_id (a := b) (by omega) (by omega), s32_id (a := a) (by omega) (by omega), s32_id (a := mem 150 0) (by omega) (by omega), in_01 ⟨hb1, hb2⟩ (by decide) (Or.inr rfl), ob_some, if_pos h4, s32_1, if_1', in_01 ⟨ha1, ha2⟩ ⟨by omega, by omega⟩ (Or.inl rfl), ob_some, if_neg h5, s32_0, if_0']
  · refine ⟨-9223372036854775808, mem, -9223372036854775808, mem, ?_, ?_, rfl, R⟩
    · unfold BP_moment
      rw [Beam_stands_eq (by omega), ob_some, isPart_eq ⟨hc1, hc2⟩, ob_some, s32_id (a := b) (by omega) (by omega), e100, s32_1]
      have z : ∀ o : Option (Int × Mem), (if b < 1 then some ((-9223372036854775808 : Int), mem) else if b ≤ 100 then o else some (-9223372036854775808, mem)) = some (-9223372036854775808, mem) := by
        intro o
        by_cases z : b < 1
        · rw [if_pos z]
        · rw [if_neg z, if_neg (by omega)]
      rw [z]
      by_cases h1 : 2 ≤ mem 1 1
      · rw [if_pos h1, s32_1, if_1']
        by_cases h3 : c = 0 ∨ c = 1
        · rw [if_pos h3, s32_1, if_1']
        · rw [if_neg h3, s32_0, if_0']
      · rw [if_neg h1, s32_0, if_0']
    · unfold Mo_moment
      rw [s32_id (a := b) (by omega) (by omega), in_01 ⟨hb1, hb2⟩ (by decide) (Or.inr rfl), ob_some, if_neg h4, s32_0, if_0']
