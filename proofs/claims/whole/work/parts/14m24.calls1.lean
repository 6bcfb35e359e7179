/-! reaction, shear, moment -/
theorem Rel_said {m4 : Mem} (R4 : Rel m4) (a b : Int) : Rel (mset (mset m4 129 0 a) 129 1 b) := Rel_cls R4 (fun c i hc => by rw [mset_if, if_neg (by omega), mset_if, if_neg (by omega)])
theorem Rel_calc {mem m5 m6 : Mem} (R : Rel mem) (h5 : rfr m5 mem) (h6 : fr56 m6 m5) : Rel m6 := Rel_mod R (fun c i c1 c2 c3 => by rw [h6 c i (by omega), h5 c i (by omega) (by omega)])
theorem ok_reaction (a : Int) (b : Int) (ha : r32 a) (hb : r32 b) : OkM (BP_reaction a b) (Mo_reaction a b) s64 := by
  intro mem R
  have R0 := R
  obtain ⟨⟨v, rb⟩, -⟩ := R0
  have n4 := v.2.1
  have b2 := rb.2.1
  obtain ⟨ha1, ha2⟩ := ha
  obtain ⟨hb1, hb2⟩ := hb
  unfold BP_reaction Mo_reaction
  rw [Beam_stands_eq (by omega), ob_some, Beam_isSupport_eq ⟨ha1, ha2⟩ (by omega), ob_some, isPart_eq ⟨hb1, hb2⟩, ob_some, b2]
  by_cases h1 : 2 ≤ mem 150 1
  · rw [if_pos h1, s32_1, if_1']
    by_cases h2 : 0 ≤ a ∧ a < mem 150 1
    · rw [if_pos h2, s32_1, if_1']
      by_cases h3 : b = 0 ∨ b = 1
      · rw [if_pos h3, s32_1, if_1]
        obtain ⟨m4, e4, V, f4⟩ := asItIs_eq v h1 rb
        have R4 : Rel m4 := Rel_cls R (fun c i hc => f4 c i (by omega))
        have hA4 : m4 150 = mem 150 := by funext i; exact f4 150 i (by omega)
        have ub := UU_ab v h1 h2.1 h2.2
        have B1 := (bnd v h1).1
        rw [e4, ob_some, ck_id h2.1 (by omega) (by omega), s32_id (a := a) (by omega) (by omega), V.2.1, V.2.2.2.1 a h2.1 h2.2, inLowest_eq (b62_le ub (by decide)) ⟨by omega, by omega⟩ B1.1 h3, bdI_some]
        have R6 := Rel_said R4 (nm (UU (mem 150) a) (DD (mem 150))) (dn (UU (mem 150) a) (DD (mem 150)))
        have hA6 : (mset (mset m4 129 0 (nm (UU (mem 150) a) (DD (mem 150)))) 129 1 (dn (UU (mem 150) a) (DD (mem 150)))) 150 = mem 150 := by rw [← hA4]; funext i; rw [mset_if, if_neg (by omega), mset_if, if_neg (by omega)]
        generalize mset (mset m4 129 0 (nm (UU (mem 150) a) (DD (mem 150)))) 129 1 (dn (UU (mem 150) a) (DD (mem 150))) = m6 at *
        obtain ⟨m7, e7, V7, f7⟩ := reactions_eq v h1 hA6
        obtain ⟨m8, e8, g8, f8⟩ := mo_answer v h1 V7 (V7.2.2 a h2.1 h2.2) ub (by decide)
        refine ⟨(if b = 0 then nm (UU (mem 150) a) (DD (mem 150)) else dn (UU (mem 150) a) (DD (mem 150))), m6, (if b = 0 then nm (UU (mem 150) a) (DD (mem 150)) else dn (UU (mem 150) a) (DD (mem 150))), m8, rfl, ?_, rfl, Rel_calc R6 f7 f8⟩
        rw [Mo_isSupport_eq ⟨ha1, ha2⟩ (by rw [hA6]; omega), hA6, ob_some, if_pos h2, s32_1, if_1', s32_id (a := b) (by omega) (by omega), in_part ⟨hb1, hb2⟩, ob_some, if_pos h3, s32_1, if_1', Mo_stands_eq (by rw [hA6]; omega), hA6, ob_some, if_pos h1, s32_1, if_1, e7, ob_some, ck_id h2.1 (by omega) (by omega), e8, ob_some]
        rcases h3 with rfl | rfl
        · rw [if_0, if_pos rfl, g8.1]
        · rw [if_1, if_neg (by decide), g8.2]
      · rw [if_neg h3, s32_0, if_0]
        refine ⟨_, _, _, mem, rfl, ?_, rfl, R⟩
        rw [Mo_isSupport_eq ⟨ha1, ha2⟩ n4, ob_some, if_pos h2, s32_1, if_1', s32_id (a := b) (by omega) (by omega), in_part ⟨hb1, hb2⟩, ob_some, if_neg h3, s32_0, if_0']
    · rw [if_neg h2, s32_0, if_0']
      refine ⟨_, _, _, mem, rfl, ?_, rfl, R⟩
      rw [Mo_isSupport_eq ⟨ha1, ha2⟩ n4, ob_some, if_neg h2, s32_0, if_0']
  · rw [if_neg h1, s32_0, if_0']
    refine ⟨-9223372036854775808, mem, -9223372036854775808, mem, rfl, ?_, rfl, R⟩
    rw [Mo_isSupport_eq ⟨ha1, ha2⟩ n4, ob_some, s32_id (a := b) (by omega) (by omega), in_part ⟨hb1, hb2⟩, ob_some, Mo_stands_eq n4, ob_some, if_neg h1, s32_0, if_0]
    by_cases h2 : 0 ≤ a ∧ a < mem 150 1
    · rw [if_pos h2, s32_1, if_1']
      by_cases h3 : b = 0 ∨ b = 1
      · rw [if_pos h3, s32_1, if_1']
      · rw [if_neg h3, s32_0, if_0']
    · rw [if_neg h2, s32_0, if_0']
theorem ok_shear (a : Int) (b : Int) (ha : r32 a) (hb : r32 b) : OkM (BP_shear a b) (Mo_shear a b) s64 := by
  intro mem R
  have R0 := R
  obtain ⟨⟨v, rb⟩, -⟩ := R0
  have n4 := v.2.1
  have l10 := v.1
  have b2 := rb.2.1
  have b1 := rb.1
  obtain ⟨ha1, ha2⟩ := ha
  obtain ⟨hb1, hb2⟩ := hb
  unfold BP_shear Mo_shear
  rw [Beam_stands_eq (by omega), ob_some, Beam_isPlace_eq ⟨ha1, ha2⟩ (r32_of (by omega)), ob_some, isPart_eq ⟨hb1, hb2⟩, ob_some, b2, b1]
  by_cases h1 : 2 ≤ mem 150 1
  · rw [if_pos h1, s32_1, if_1']
    by_cases h2 : 0 ≤ a ∧ a ≤ mem 150 0
    · rw [if_pos h2, s32_1, if_1']
      by_cases h3 : b = 0 ∨ b = 1
      · rw [if_pos h3, s32_1, if_1]
        obtain ⟨m4, e4, V, f4⟩ := asItIs_eq v h1 rb
        have R4 : Rel m4 := Rel_cls R (fun c i hc => f4 c i (by omega))
        have hA4 : m4 150 = mem 150 := by funext i; exact f4 150 i (by omega)
        have ub := CT_ab v h1 (x := a) (by omega)
        have B1 := (bnd v h1).1
        rw [e4, ob_some, ck_id h2.1 (by omega) (by omega), s32_id (a := a) (by omega) (by omega), V.2.1, (V.2.2.2.2 a h2.1 h2.2).1, inLowest_eq (b62_le ub (by decide)) ⟨by omega, by omega⟩ B1.1 h3, bdI_some]
        have R6 := Rel_said R4 (nm (CT (mem 150) a) (DD (mem 150))) (dn (CT (mem 150) a) (DD (mem 150)))
        have hA6 : (mset (mset m4 129 0 (nm (CT (mem 150) a) (DD (mem 150)))) 129 1 (dn (CT (mem 150) a) (DD (mem 150)))) 150 = mem 150 := by rw [← hA4]; funext i; rw [mset_if, if_neg (by omega), mset_if, if_neg (by omega)]
        generalize mset (mset m4 129 0 (nm (CT (mem 150) a) (DD (mem 150)))) 129 1 (dn (CT (mem 150) a) (DD (mem 150))) = m6 at *
        obtain ⟨m7, e7, V7, f7⟩ := reactions_eq v h1 hA6
        obtain ⟨w, ew, hw⟩ := shearBehind_eq v h1 V7 (x := a) (by omega)
        obtain ⟨m8, e8, g8, f8⟩ := mo_answer v h1 V7 hw ub (by decide)
        refine ⟨(if b = 0 then nm (CT (mem 150) a) (DD (mem 150)) else dn (CT (mem 150) a) (DD (mem 150))), m6, (if b = 0 then nm (CT (mem 150) a) (DD (mem 150)) else dn (CT (mem 150) a) (DD (mem 150))), m8, rfl, ?_, rfl, Rel_calc R6 f7 f8⟩
        rw [Mo_isPlace_eq ⟨ha1, ha2⟩ (by rw [hA6]; exact r32_of (by omega)), hA6, ob_some, if_pos h2, s32_1, if_1', s32_id (a := b) (by omega) (by omega), in_part ⟨hb1, hb2⟩, ob_some, if_pos h3, s32_1, if_1', Mo_stands_eq (by rw [hA6]; omega), hA6, ob_some, if_pos h1, s32_1, if_1, e7, ob_some, ew, ob_some, e8, ob_some]
        rcases h3 with rfl | rfl
        · rw [if_0, if_pos rfl, g8.1]
        · rw [if_1, if_neg (by decide), g8.2]
      · rw [if_neg h3, s32_0, if_0]
        refine ⟨_, _, _, mem, rfl, ?_, rfl, R⟩
        rw [Mo_isPlace_eq ⟨ha1, ha2⟩ (r32_of (by omega)), ob_some, if_pos h2, s32_1, if_1', s32_id (a := b) (by omega) (by omega), in_part ⟨hb1, hb2⟩, ob_some, if_neg h3, s32_0, if_0']
    · rw [if_neg h2, s32_0, if_0']
      refine ⟨_, _, _, mem, rfl, ?_, rfl, R⟩
      rw [Mo_isPlace_eq ⟨ha1, ha2⟩ (r32_of (by omega)), ob_some, if_neg h2, s32_0, if_0']
  · rw [if_neg h1, s32_0, if_0']
    refine ⟨-9223372036854775808, mem, -9223372036854775808, mem, rfl, ?_, rfl, R⟩
    rw [Mo_isPlace_eq ⟨ha1, ha2⟩ (r32_of (by omega)), ob_some, s32_id (a := b) (by omega) (by omega), in_part ⟨hb1, hb2⟩, ob_some, Mo_stands_eq n4, ob_some, if_neg h1, s32_0, if_0]
    by_cases h2 : 0 ≤ a ∧ a ≤ mem 150 0
    · rw [if_pos h2, s32_1, if_1']
      by_cases h3 : b = 0 ∨ b = 1
      · rw [if_pos h3, s32_1, if_1']
      · rw [if_neg h3, s32_0, if_0']
    · rw [if_neg h2, s32_0, if_0']
