theorem ok_unit (a : Int) (b : Int) (c : Int) (ha : r32 a) (hb : r32 b) (hc : r32 c) : OkM (BP_unit a b c) (Mo_unit a b c) s64 := by
  intro mem R
  have R0 := R
  obtain ⟨⟨v, rb⟩, -⟩ := R0
  have n4 := v.2.1
  have l10 := v.1
  have b2 := rb.2.1
  have b1 := rb.1
  obtain ⟨ha1, ha2⟩ := ha
  obtain ⟨hb1, hb2⟩ := hb
  obtain ⟨hc1, hc2⟩ := hc
  unfold BP_unit Mo_unit
  rw [Beam_stands_eq (by omega), ob_some, Beam_isPlace_eq ⟨ha1, ha2⟩ (r32_of (by omega)), ob_some, Beam_isPlace_eq ⟨hb1, hb2⟩ (r32_of (by omega)), ob_some, isPart_eq ⟨hc1, hc2⟩, ob_some, b2, b1]
  by_cases h2 : 0 ≤ a ∧ a ≤ mem 150 0
  · by_cases h3 : 0 ≤ b ∧ b ≤ mem 150 0
    · by_cases h4 : c = 0 ∨ c = 1
      · by_cases h1 : 2 ≤ mem 150 1
        · rw [if_pos h1, s32_1, if_1', if_pos h2, s32_1, if_1', if_pos h3, s32_1, if_1', if_pos h4, s32_1, if_1]
          obtain ⟨m5, e5, V, vB, nB, f5⟩ := solveUnit_eq v h1 rb h2
          have s0 : putA (noA (mem 150)) a 1 0 = mem 150 0 := rfl
          have B1 := (bnd vB nB).1
          have mb := MB_ab' vB nB (x := b) h3.1 (by rw [s0]; exact h3.2)
          have e := (V.2.2.2.2 b h3.1 (by rw [s0]; exact h3.2)).2
          have b118 : b62 (m5 118 b) := by unfold ab at mb; exact ⟨by omega, by omega⟩
          have ev : nm (m5 118 b) (DD (putA (noA (mem 150)) a 1)) = nm (aN (putA (noA (mem 150)) a 1) b (-1)) (aD (putA (noA (mem 150)) a 1) (-1)) ∧ dn (m5 118 b) (DD (putA (noA (mem 150)) a 1)) = dn (aN (putA (noA (mem 150)) a 1) b (-1)) (aD (putA (noA (mem 150)) a 1) (-1)) := by
            unfold aN aD
            rw [if_pos (by decide), if_pos (by decide)]
            rcases MB_even V h3.1 (by rw [s0]; exact h3.2) with z | z
            · exact z
            · omega
          have R5 : Rel m5 := Rel_cls R (fun c i hc => f5 c i (by omega))
          have hA5 : m5 150 = mem 150 := by funext i; exact f5 150 i (by omega)
          rw [e5, ob_some, ck_id h3.1 (by omega) (by omega), s32_id (a := b) (by omega) (by omega), V.2.1, inLowest_eq b118 ⟨by omega, by omega⟩ B1.1 h4, bdI_some]
          have R6 := Rel_said R5 (nm (m5 118 b) (DD (putA (noA (mem 150)) a 1))) (dn (m5 118 b) (DD (putA (noA (mem 150)) a 1)))
          have hA6 : (mset (mset m5 129 0 (nm (m5 118 b) (DD (putA (noA (mem 150)) a 1)))) 129 1 (dn (m5 118 b) (DD (putA (noA (mem 150)) a 1)))) 150 = mem 150 := by rw [← hA5]; funext i; rw [mset_if, if_neg (by omega), mset_if, if_neg (by omega)]
          generalize mset (mset m5 129 0 (nm (m5 118 b) (DD (putA (noA (mem 150)) a 1)))) 129 1 (dn (m5 118 b) (DD (putA (noA (mem 150)) a 1))) = m6 at *
          obtain ⟨m7, e7, R7⟩ := byUnit_eq v h1 hA6 (y := a) (x := b) (k := -1) (r := c) h2 h3 (by omega) h4 R6
          refine ⟨_, m6, (if c = 0 then nm (aN (putA (noA (mem 150)) a 1) b (-1)) (aD (putA (noA (mem 150)) a 1) (-1)) else dn (aN (putA (noA (mem 150)) a 1) b (-1)) (aD (putA (noA (mem 150)) a 1) (-1))), m7, rfl, ?_, ?_, R7⟩
          · rw [Mo_isPlace_eq ⟨ha1, ha2⟩ (by rw [hA6]; exact r32_of (by omega)), hA6, ob_some, if_pos h2, s32_1, if_1', Mo_isPlace_eq ⟨hb1, hb2⟩ (by rw [hA6]; exact r32_of (by omega)), hA6, ob_some, if_pos h3, s32_1, if_1', s32_id (a := c) (by omega) (by omega), in_part ⟨hc1, hc2⟩, ob_some, if_pos h4, s32_1, if_1', Mo_stands_eq (by rw [hA6]; omega), hA6, ob_some, if_pos h1, s32_1, if_1, e7, bdI_some]
          · rw [ev.1, ev.2]
        · refine ⟨-9223372036854775808, mem, -9223372036854775808, mem, ?_, ?_, rfl, R⟩
          · rw [if_neg h1, s32_0, if_0']
          · rw [Mo_isPlace_eq ⟨ha1, ha2⟩ (r32_of (by omega)), ob_some, if_pos h2, s32_1, if_1', Mo_isPlace_eq ⟨hb1, hb2⟩ (r32_of (by omega)), ob_some, if_pos h3, s32_1, if_1', s32_id (a := c) (by omega) (by omega), in_part ⟨hc1, hc2⟩, ob_some, if_pos h4, s32_1, if_1', Mo_stands_eq n4, ob_some, if_neg h1, s32_0, if_0]
      · refine ⟨-9223372036854775808, mem, -9223372036854775808, mem, ?_, ?_, rfl, R⟩
        · rw [if_pos h2, if_pos h3, if_neg h4, s32_0, s32_1, if_0, if_1', if_1']
          by_cases h1 : 2 ≤ mem 150 1
          · rw [if_pos h1, s32_1, if_1']
          · rw [if_neg h1, s32_0, if_0']
        · rw [Mo_isPlace_eq ⟨ha1, ha2⟩ (r32_of (by omega)), ob_some, if_pos h2, s32_1, if_1', Mo_isPlace_eq ⟨hb1, hb2⟩ (r32_of (by omega)), ob_some, if_pos h3, s32_1, if_1', s32_id (a := c) (by omega) (by omega), in_part ⟨hc1, hc2⟩, ob_some, if_neg h4, s32_0, if_0']
    · refine ⟨-9223372036854775808, mem, -9223372036854775808, mem, ?_, ?_, rfl, R⟩
      · rw [if_pos h2, if_neg h3, s32_0, s32_1, if_0', if_1']
        by_cases h1 : 2 ≤ mem 150 1
        · rw [if_pos h1, s32_1, if_1']
        · rw [if_neg h1, s32_0, if_0']
      · rw [Mo_isPlace_eq ⟨ha1, ha2⟩ (r32_of (by omega)), ob_some, if_pos h2, s32_1, if_1', Mo_isPlace_eq ⟨hb1, hb2⟩ (r32_of (by omega)), ob_some, if_neg h3, s32_0, if_0']
  · refine ⟨-9223372036854775808, mem, -9223372036854775808, mem, ?_, ?_, rfl, R⟩
    · rw [if_neg h2, s32_0, if_0']
      by_cases h1 : 2 ≤ mem 150 1
      · rw [if_pos h1, s32_1, if_1']
      · rw [if_neg h1, s32_0, if_0']
    · rw [Mo_isPlace_eq ⟨ha1, ha2⟩ (r32_of (by omega)), ob_some, if_neg h2, s32_0, if_0']
theorem ok_bears (a : Int) (b : Int) (c : Int) (ha : r32 a) (hb : r32 b) (hc : r32 c) : OkM (BP_bears a b c) (Mo_bears_ a b c) s64 := by
  intro mem R
  have R0 := R
  obtain ⟨⟨v, rb⟩, -⟩ := R0
  have n4 := v.2.1
  have l10 := v.1
  have b2 := rb.2.1
  have b1 := rb.1
  obtain ⟨ha1, ha2⟩ := ha
  obtain ⟨hb1, hb2⟩ := hb
  obtain ⟨hc1, hc2⟩ := hc
  unfold BP_bears Mo_bears_
  rw [Beam_stands_eq (by omega), ob_some, Beam_isPlace_eq ⟨ha1, ha2⟩ (r32_of (by omega)), ob_some, Beam_isSupport_eq ⟨hb1, hb2⟩ (by omega), ob_some, isPart_eq ⟨hc1, hc2⟩, ob_some, b2, b1]
  by_cases h2 : 0 ≤ a ∧ a ≤ mem 150 0
  · by_cases h3 : 0 ≤ b ∧ b < mem 150 1
    · by_cases h4 : c = 0 ∨ c = 1
      · by_cases h1 : 2 ≤ mem 150 1
        · rw [if_pos h1, s32_1, if_1', if_pos h2, s32_1, if_1', if_pos h3, s32_1, if_1', if_pos h4, s32_1, if_1]
          obtain ⟨m5, e5, V, vB, nB, f5⟩ := solveUnit_eq v h1 rb h2
          have s1 : putA (noA (mem 150)) a 1 1 = mem 150 1 := rfl
          have B1 := (bnd vB nB).1
          have ub := UU_ab vB nB (k := b) h3.1 (by rw [s1]; exact h3.2)
          have ev : nm (UU (putA (noA (mem 150)) a 1) b) (DD (putA (noA (mem 150)) a 1)) = nm (aN (putA (noA (mem 150)) a 1) 0 b) (aD (putA (noA (mem 150)) a 1) b) ∧ dn (UU (putA (noA (mem 150)) a 1) b) (DD (putA (noA (mem 150)) a 1)) = dn (aN (putA (noA (mem 150)) a 1) 0 b) (aD (putA (noA (mem 150)) a 1) b) := by
            unfold aN aD
            rw [if_neg (by omega), if_neg (by omega)]
            exact ⟨rfl, rfl⟩
          have R5 : Rel m5 := Rel_cls R (fun c i hc => f5 c i (by omega))
          have hA5 : m5 150 = mem 150 := by funext i; exact f5 150 i (by omega)
          rw [e5, ob_some, ck_id h3.1 (by omega) (by omega), s32_id (a := b) (by omega) (by omega), V.2.1, V.2.2.2.1 b h3.1 (by rw [s1]; exact h3.2), inLowest_eq (b62_le ub (by decide)) ⟨by omega, by omega⟩ B1.1 h4, bdI_some]
          have R6 := Rel_said R5 (nm (UU (putA (noA (mem 150)) a 1) b) (DD (putA (noA (mem 150)) a 1))) (dn (UU (putA (noA (mem 150)) a 1) b) (DD (putA (noA (mem 150)) a 1)))
          have hA6 : (mset (mset m5 129 0 (nm (UU (putA (noA (mem 150)) a 1) b) (DD (putA (noA (mem 150)) a 1)))) 129 1 (dn (UU (putA (noA (mem 150)) a 1) b) (DD (putA (noA (mem 150)) a 1)))) 150 = mem 150 := by rw [← hA5]; funext i; rw [mset_if, if_neg (by omega), mset_if, if_neg (by omega)]
          generalize mset (mset m5 129 0 (nm (UU (putA (noA (mem 150)) a 1) b) (DD (putA (noA (mem 150)) a 1)))) 129 1 (dn (UU (putA (noA (mem 150)) a 1) b) (DD (putA (noA (mem 150)) a 1))) = m6 at *
          obtain ⟨m7, e7, R7⟩ := byUnit_eq v h1 hA6 (y := a) (x := 0) (k := b) (r := c) h2 (by omega) (by omega) h4 R6
          refine ⟨_, m6, (if c = 0 then nm (aN (putA (noA (mem 150)) a 1) 0 b) (aD (putA (noA (mem 150)) a 1) b) else dn (aN (putA (noA (mem 150)) a 1) 0 b) (aD (putA (noA (mem 150)) a 1) b)), m7, rfl, ?_, ?_, R7⟩
          · rw [Mo_isPlace_eq ⟨ha1, ha2⟩ (by rw [hA6]; exact r32_of (by omega)), hA6, ob_some, if_pos h2, s32_1, if_1', Mo_isSupport_eq ⟨hb1, hb2⟩ (by rw [hA6]; omega), hA6, ob_some, if_pos h3, s32_1, if_1', s32_id (a := c) (by omega) (by omega), in_part ⟨hc1, hc2⟩, ob_some, if_pos h4, s32_1, if_1', Mo_stands_eq (by rw [hA6]; omega), hA6, ob_some, if_pos h1, s32_1, if_1, e7, bdI_some]
          · rw [ev.1, ev.2]
        · refine ⟨-9223372036854775808, mem, -9223372036854775808, mem, ?_, ?_, rfl, R⟩
          · rw [if_neg h1, s32_0, if_0']
          · rw [Mo_isPlace_eq ⟨ha1, ha2⟩ (r32_of (by omega)), ob_some, if_pos h2, s32_1, if_1', Mo_isSupport_eq ⟨hb1, hb2⟩ n4, ob_some, if_pos h3, s32_1, if_1', s32_id (a := c) (by omega) (by omega), in_part ⟨hc1, hc2⟩, ob_some, if_pos h4, s32_1, if_1', Mo_stands_eq n4, ob_some, if_neg h1, s32_0, if_0]
      · refine ⟨-9223372036854775808, mem, -9223372036854775808, mem, ?_, ?_, rfl, R⟩
        · rw [if_pos h2, if_pos h3, if_neg h4, s32_0, s32_1, if_0, if_1', if_1']
          by_cases h1 : 2 ≤ mem 150 1
          · rw [if_pos h1, s32_1, if_1']
          · rw [if_neg h1, s32_0, if_0']
        · rw [Mo_isPlace_eq ⟨ha1, ha2⟩ (r32_of (by omega)), ob_some, if_pos h2, s32_1, if_1', Mo_isSupport_eq ⟨hb1, hb2⟩ n4, ob_some, if_pos h3, s32_1, if_1', s32_id (a := c) (by omega) (by omega), in_part ⟨hc1, hc2⟩, ob_some, if_neg h4, s32_0, if_0']
    · refine ⟨-9223372036854775808, mem, -9223372036854775808, mem, ?_, ?_, rfl, R⟩
      · rw [if_pos h2, if_neg h3, s32_0, s32_1, if_0', if_1']
        by_cases h1 : 2 ≤ mem 150 1
        · rw [if_pos h1, s32_1, if_1']
        · rw [if_neg h1, s32_0, if_0']
      · rw [Mo_isPlace_eq ⟨ha1, ha2⟩ (r32_of (by omega)), ob_some, if_pos h2, s32_1, if_1', Mo_isSupport_eq ⟨hb1, hb2⟩ n4, ob_some, if_neg h3, s32_0, if_0']
  · refine ⟨-9223372036854775808, mem, -9223372036854775808, mem, ?_, ?_, rfl, R⟩
    · rw [if_neg h2, s32_0, if_0']
      by_cases h1 : 2 ≤ mem 150 1
      · rw [if_pos h1, s32_1, if_1']
      · rw [if_neg h1, s32_0, if_0']
    · rw [Mo_isPlace_eq ⟨ha1, ha2⟩ (r32_of (by omega)), ob_some, if_neg h2, s32_0, if_0']
