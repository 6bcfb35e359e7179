/-! the calls that only look, and the lists -/
theorem some_pair {x y : Int} {f g : Option Int} (h1 : f = some x) (h2 : g = some y) (h : s32 x = s32 y) : ∃ r r', f = some r ∧ g = some r' ∧ s32 r = s32 r' := ⟨x, y, h1, h2, h⟩
theorem Mo_isLoad_eq {p0 : Int} {mem : Mem} (hp : r32 p0) (h : 0 ≤ mem 150 10 ∧ mem 150 10 ≤ 6) : Mo_isLoad p0 mem = some (if 0 ≤ p0 ∧ p0 < mem 150 10 then 1 else 0) := by
  obtain ⟨hp1, hp2⟩ := hp
  unfold Mo_isLoad
  simp (disch := omega) only [s32_id]
  rw [Mo_in_eq (by omega) (by omega) (by omega), ob_some]
  by_cases c : 0 ≤ p0 ∧ p0 < mem 150 10
  · rw [if_pos c, if_pos (by omega), bz_1]
  · rw [if_neg c, if_neg (by omega), bz_0]
theorem Mo_isSupport_eq {p0 : Int} {mem : Mem} (hp : r32 p0) (h : 0 ≤ mem 150 1 ∧ mem 150 1 ≤ 4) : Mo_isSupport p0 mem = some (if 0 ≤ p0 ∧ p0 < mem 150 1 then 1 else 0) := by
  obtain ⟨hp1, hp2⟩ := hp
  unfold Mo_isSupport
  simp (disch := omega) only [s32_id]
  rw [Mo_in_eq (by omega) (by omega) (by omega), ob_some]
  by_cases c : 0 ≤ p0 ∧ p0 < mem 150 1
  · rw [if_pos c, if_pos (by omega), bz_1]
  · rw [if_neg c, if_neg (by omega), bz_0]
theorem Mo_isList_eq {p0 : Int} {mem : Mem} (hp : r32 p0) : Mo_isList p0 mem = some (if 0 ≤ p0 ∧ p0 < 3 then 1 else 0) := by
  obtain ⟨hp1, hp2⟩ := hp
  unfold Mo_isList
  simp (disch := omega) only [s32_id]
  rw [Mo_in_eq (by omega) (by omega) (by omega), ob_some]
  by_cases c : 0 ≤ p0 ∧ p0 < 3
  · rw [if_pos c, if_pos (by omega), bz_1]
  · rw [if_neg c, if_neg (by omega), bz_0]
theorem Beam_isLoad_eq {a : Nat} {p0 : Int} {mem : Mem} (hp : r32 p0) (h : 0 ≤ mem a 4 ∧ mem a 4 ≤ 6) : Beam_isLoad a p0 mem = some (if 0 ≤ p0 ∧ p0 < mem a 4 then 1 else 0) := by
  obtain ⟨hp1, hp2⟩ := hp
  unfold Beam_isLoad
  simp (disch := omega) only [s32_id]
  repeat' split
  all_goals first | rfl | (exfalso; omega) | (congr 1; omega)
theorem Beam_isSupport_eq {a : Nat} {p0 : Int} {mem : Mem} (hp : r32 p0) (h : 0 ≤ mem a 1 ∧ mem a 1 ≤ 4) : Beam_isSupport a p0 mem = some (if 0 ≤ p0 ∧ p0 < mem a 1 then 1 else 0) := by
  obtain ⟨hp1, hp2⟩ := hp
  unfold Beam_isSupport
  simp (disch := omega) only [s32_id]
  repeat' split
  all_goals first | rfl | (exfalso; omega) | (congr 1; omega)
theorem BP_isList_eq {p0 : Int} {mem : Mem} (hp : r32 p0) : BP_isList p0 mem = some (if 0 ≤ p0 ∧ p0 < 3 then 1 else 0) := by
  obtain ⟨hp1, hp2⟩ := hp
  unfold BP_isList
  simp (disch := omega) only [s32_id]
  repeat' split
  all_goals first | rfl | (exfalso; omega) | (congr 1; omega)
theorem s32_1 : s32 1 = 1 := s32_id (by decide) (by decide)
theorem if_1 {α : Type} (x y : α) : (if ¬ (1 : Int) = 0 then x else y) = x := if_pos (by decide)
theorem if_0 {α : Type} (x y : α) : (if ¬ (0 : Int) = 0 then x else y) = y := if_neg (by decide)
theorem if_1' {α : Type} (x y : α) : (if (1 : Int) = 0 then x else y) = y := if_neg (by decide)
theorem if_0' {α : Type} (x y : α) : (if (0 : Int) = 0 then x else y) = x := if_pos rfl
theorem ok_paper (a : Int) (ha : r32 a) : OkP (BP_paper a) (Mo_paper a) s32 := by
  intro mem ⟨_, _, _, _, ⟨p1, p2, p3⟩, _, _⟩
  obtain ⟨ha1, ha2⟩ := ha
  unfold BP_paper Mo_paper
  simp (disch := omega) only [s32_id]
  by_cases h : 0 ≤ a
  · rw [if_pos h, if_pos h, p2]
    by_cases g : mem 149 32 ≤ a
    · rw [if_pos g, if_pos g]; exact ⟨_, _, rfl, rfl, rfl⟩
    · rw [if_neg g, if_neg g, ck_id h (by omega) (by omega), ck_id h (by omega) (by omega)]
      exact ⟨_, _, rfl, rfl, by rw [(p3 a h (by omega)).1]⟩
  · rw [if_neg h, if_neg h]; exact ⟨_, _, rfl, rfl, rfl⟩
theorem ok_loadOf (a : Int) (b : Int) (ha : r32 a) (hb : r32 b) : OkP (BP_loadOf a b) (Mo_loadOf a b) s32 := by
  intro mem ⟨⟨⟨v1, v2, v3, v4, v5, v6, v7, v8⟩, ⟨b1, b2, b3, b4, b5, b6, b7⟩⟩, _⟩
  unfold BP_loadOf Mo_loadOf
  rw [Beam_isLoad_eq ha (by omega), Mo_isLoad_eq ha v3, ob_some, ob_some, b3]
  obtain ⟨ha1, ha2⟩ := ha
  obtain ⟨hb1, hb2⟩ := hb
  by_cases c : 0 ≤ a ∧ a < mem 150 10
  · rw [if_pos c, s32_1, if_1, if_1']
    obtain ⟨w1, w2, w3, w4⟩ := b6 a c.1 c.2
    obtain ⟨u1, u2, u3, u4, u5⟩ := v7 a c.1 c.2
    simp (disch := omega) only [s32_id, ck_id, lt_id]
    rw [Mo_in_eq (by omega) (by omega) (by omega), ob_some]
    simp only [Nat.reduceAdd] at w1 w2 w3 w4
    rw [w1, w2, w3, w4]
    by_cases b0 : b = 0
    · subst b0; exact ⟨_, _, rfl, rfl, by simp [s32_1]⟩
    by_cases b1 : b = 1
    · subst b1; exact ⟨_, _, rfl, rfl, by simp [s32_1]⟩
    by_cases b2 : b = 2
    · subst b2; exact ⟨_, _, rfl, rfl, by simp [s32_1]⟩
    by_cases b3 : b = 3
    · subst b3
      by_cases e : mem 150 (11 + a) = mem 150 (17 + a)
      · exact ⟨1, 1, by simp [e], by simp [e, s32_1], rfl⟩
      · exact ⟨0, 0, by simp [e], by simp [e, s32_1], rfl⟩
    rw [if_neg b0, if_neg b1, if_neg b2, if_neg b3, if_neg (show ¬ (0 ≤ b ∧ b ≤ 3) by omega), s32_0, if_0]
    exact ⟨_, _, rfl, rfl, rfl⟩
  · rw [if_neg c, s32_0, if_0, if_0']; exact ⟨_, _, rfl, rfl, rfl⟩
theorem ok_supportOf (a : Int) (b : Int) (ha : r32 a) (hb : r32 b) : OkP (BP_supportOf a b) (Mo_supportOf a b) s32 := by
  intro mem ⟨⟨⟨v1, v2, v3, v4, v5, v6, v7, v8⟩, ⟨b1, b2, b3, b4, b5, b6, b7⟩⟩, _⟩
  unfold BP_supportOf Mo_supportOf
  rw [Beam_isSupport_eq ha (by omega), Mo_isSupport_eq ha v2, ob_some, ob_some, b2]
  obtain ⟨ha1, ha2⟩ := ha
  obtain ⟨hb1, hb2⟩ := hb
  by_cases c : 0 ≤ a ∧ a < mem 150 1
  · rw [if_pos c, s32_1, if_1, if_1']
    obtain ⟨w1, w2⟩ := b5 a c.1 c.2
    simp (disch := omega) only [s32_id, ck_id]
    rw [Mo_in_eq (by omega) (by omega) (by omega), ob_some]
    simp only [Nat.reduceAdd] at w1 w2
    rw [w1, w2]
    by_cases b0 : b = 0
    · subst b0; exact ⟨_, _, rfl, rfl, by simp [s32_1]⟩
    by_cases b1 : b = 1
    · subst b1; exact ⟨_, _, rfl, rfl, by simp [s32_1]⟩
    rw [if_neg b0, if_neg b1, if_neg (show ¬ (0 ≤ b ∧ b ≤ 1) by omega), s32_0, if_0]
    exact ⟨_, _, rfl, rfl, rfl⟩
  · rw [if_neg c, s32_0, if_0, if_0']; exact ⟨_, _, rfl, rfl, rfl⟩
theorem ok_get (a : Int) (b : Int) (ha : r32 a) (hb : r32 b) : OkP (BP_get a b) (Mo_get a b) s64 := by
  intro mem ⟨_, _, _, _, _, ls, _⟩
  unfold BP_get Rows_at Rows_has Mo_get
  rw [BP_isList_eq ha, Mo_isList_eq ha, ob_some, ob_some]
  obtain ⟨ha1, ha2⟩ := ha
  obtain ⟨hb1, hb2⟩ := hb
  by_cases c : 0 ≤ a ∧ a < 3
  · rw [if_pos c, s32_1, if_1', if_1']
    obtain ⟨l1, l2, l3⟩ := ls a c.1 c.2
    simp (disch := omega) only [s32_id, ck_id]
    rw [Mo_in_eq (by omega) (by omega) (by omega), ob_some, l1]
    by_cases d : 0 ≤ b ∧ b < mem 169 a
    · rw [if_neg (show ¬ b < 0 by omega), if_neg (show ¬ mem 169 a ≤ b by omega), ob_some, s32_1, if_1', if_pos (show 0 ≤ b ∧ b ≤ mem 169 a - 1 by omega), s32_1, if_1']
      simp (disch := omega) only [s32_id, ck_id]
      refine ⟨_, _, rfl, rfl, ?_⟩
      have := l3 b d.1 d.2
      rw [show a * 24 + b = 24 * a + b by omega, this]
    · rw [if_neg (show ¬ (0 ≤ b ∧ b ≤ mem 169 a - 1) by omega), s32_0, if_0']
      by_cases e : b < 0
      · rw [if_pos e, ob_some, s32_0, if_0']; exact ⟨_, _, rfl, rfl, rfl⟩
      · rw [if_neg e, if_pos (show mem 169 a ≤ b by omega), ob_some, s32_0, if_0']; exact ⟨_, _, rfl, rfl, rfl⟩
  · rw [if_neg c, s32_0, if_0', if_0', ob_some, s32_0, if_0']; exact ⟨_, _, rfl, rfl, rfl⟩
