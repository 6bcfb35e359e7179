/-! feed, list, set -/
theorem s8_id {x : Int} (h : -128 ≤ x ∧ x ≤ 127) : s8 x = x := by
  unfold s8; rw [Int.bmod_eq_of_le] <;> omega
theorem RHist_fr {m m' : Mem} (h : RHist m) (hm : ∀ c i, (10 ≤ c ∧ c ≤ 101) ∨ c = 152 ∨ (c = 149 ∧ i = 4) → m' c i = m c i) : RHist m' := by
  obtain ⟨q1, q2, q3, q4⟩ := h
  have h152 : m' 152 = m 152 := by funext i; exact hm 152 i (by omega)
  refine ⟨by rw [hm 149 4 (by omega)]; exact q1, by rw [hm 149 4 (by omega), hm 10 0 (by omega)]; exact q2, by rw [hm 10 1 (by omega)]; exact q3, fun k k0 k1 => ?_⟩
  rw [hm 149 4 (by omega)] at k1
  rw [h152, hm 149 4 (by omega), hm 10 1 (by omega)]
  have rl := ring_le (n := m 10 1) (h := m 149 4) (k := k)
  exact ⟨(q4 k k0 k1).1, RB_frame (q4 k k0 k1).2 (fun c i _ _ => hm c i (by omega))⟩
theorem Rel_tape {mem mm : Mem} (R : Rel mem) (T : RTape mm) (fm : ∀ c i, kept c i → ¬ (c = 141 ∨ c = 161 ∨ (c = 131 ∧ i = 0) ∨ (c = 149 ∧ i = 23)) → mm c i = mem c i) : Rel mm := by
  have h2 : Rel (fun c i => if c = 141 ∨ c = 161 ∨ (c = 131 ∧ i = 0) ∨ (c = 149 ∧ i = 23) then mem c i else mm c i) := by
    refine Rel_frame R (fun c i hk => ?_)
    by_cases c' : c = 141 ∨ c = 161 ∨ (c = 131 ∧ i = 0) ∨ (c = 149 ∧ i = 23)
    · show (if c = 141 ∨ c = 161 ∨ (c = 131 ∧ i = 0) ∨ (c = 149 ∧ i = 23) then mem c i else mm c i) = mem c i
      rw [if_pos c']
    · show (if c = 141 ∨ c = 161 ∨ (c = 131 ∧ i = 0) ∨ (c = 149 ∧ i = 23) then mem c i else mm c i) = mem c i
      rw [if_neg c']; exact fm c i hk c'
  obtain ⟨a, b, c, d, e, f, g⟩ := h2
  have q : ∀ c i, ¬ (c = 141 ∨ c = 161 ∨ (c = 131 ∧ i = 0) ∨ (c = 149 ∧ i = 23)) → (if c = 141 ∨ c = 161 ∨ (c = 131 ∧ i = 0) ∨ (c = 149 ∧ i = 23) then mem c i else mm c i) = mm c i := fun c i h => if_neg h
  exact ⟨a, RHist_fr b (fun c i hc => (q c i (by omega)).symm), c, T, e, f, g⟩
theorem ok_feed (a : Int) (ha : r32 a) : OkM (BP_feed a) (Mo_feed a) s32 := by
  intro mem R
  have R0 := R
  obtain ⟨-, -, -, ⟨t1, t2, t3⟩, -⟩ := R0
  obtain ⟨ha1, ha2⟩ := ha
  have e127 : s32 127 = 127 := s32_id (by decide) (by decide)
  have e120 : s32 120 = 120 := s32_id (by decide) (by decide)
  unfold BP_feed Rd_take Mo_feed
  rw [s32_id (a := a) (by omega) (by omega), s32_1, e127, t2, s32_id (a := mem 149 23) (by omega) (by omega), e120]
  by_cases h : 1 ≤ a ∧ a ≤ 127
  · rw [if_neg (show ¬ a < 1 by omega), if_pos h.2]
    have r0 : mset mem 141 (mem 149 23) a 131 0 = mem 149 23 := by rw [mset_if, if_neg (by omega)]; exact t2
    by_cases f : mem 149 23 < 120
    · rw [if_pos f, ck_id (by omega) (by omega) (by omega), lt_id, lt_id, s8_id (x := a) (by omega), s8_id (x := a) (by omega), r0, mset_here, bdI_some]
      have h23 : mset (mset mem 141 (mem 149 23) a) 131 0 (mem 149 23 + 1) 149 23 = mem 149 23 := by rw [mset_if, if_neg (by omega), mset_if, if_neg (by omega)]
      have h24 : mset (mset (mset mem 141 (mem 149 23) a) 131 0 (mem 149 23 + 1)) 161 (mem 149 23) a 149 23 = mem 149 23 := by rw [mset_if, if_neg (by omega)]; exact h23
      refine ⟨mem 149 23 + 1, mset (mset mem 141 (mem 149 23) a) 131 0 (mem 149 23 + 1), mem 149 23 + 1, mset (mset (mset (mset mem 141 (mem 149 23) a) 131 0 (mem 149 23 + 1)) 161 (mem 149 23) a) 149 23 (mem 149 23 + 1), rfl, ?_, rfl, ?_⟩
      · rw [Mo_in_eq (by omega) (by omega) (by omega), ob_some, if_pos h, s32_1, if_1, h23, s32_id (a := mem 149 23) (by omega) (by omega), if_pos (show ¬ mem 149 23 = 120 by omega), ck_id (by omega) (by omega) (by omega), lt_id, lt_id, h24, mset_here]
      · refine Rel_tape R ⟨by rw [mset_here]; omega, by rw [mset_here, mset_if, if_neg (by omega), mset_if, if_neg (by omega), mset_here], fun k k0 k1 => ?_⟩ (fun c i hk hc => by rw [mset_if, if_neg (by omega), mset_if, if_neg (by omega), mset_if, if_neg (by omega), mset_if, if_neg (by omega)])
        rw [mset_here] at k1
        by_cases c : k = mem 149 23
        · rw [c]; simp [mset]; omega
        · have w := t3 k k0 (by omega)
          simp only [mset]
          rw [if_neg (by omega), if_neg (by omega), if_neg (by omega), if_neg (by omega), if_neg (by omega), if_neg (by omega), if_neg (by omega), if_neg (by omega)]
          exact w
    · rw [if_neg f, bdI_some]
      refine ⟨_, mem, _, mem, rfl, ?_, rfl, R⟩
      rw [Mo_in_eq (by omega) (by omega) (by omega), ob_some, if_pos h, s32_1, if_1, s32_id (a := mem 149 23) (by omega) (by omega), if_neg (show ¬ ¬ mem 149 23 = 120 by omega)]
  · refine ⟨-1, mem, -1, mem, ?_, ?_, rfl, R⟩
    · by_cases c : a < 1
      · rw [if_pos c]
      · rw [if_neg c, if_neg (by omega)]
    · rw [Mo_in_eq (by omega) (by omega) (by omega), ob_some, if_neg h, s32_0, if_0]
theorem Rel_lists {mem mm : Mem} (R : Rel mem) (T : RLists mm) (fm : ∀ c i, ¬ (c = 147 ∨ c = 148 ∨ c = 168 ∨ c = 169) → mm c i = mem c i) : Rel mm := by
  have h2 : Rel (fun c i => if c = 147 ∨ c = 148 ∨ c = 168 ∨ c = 169 then mem c i else mm c i) := by
    refine Rel_frame R (fun c i hk => ?_)
    show (if c = 147 ∨ c = 148 ∨ c = 168 ∨ c = 169 then mem c i else mm c i) = mem c i
    by_cases c' : c = 147 ∨ c = 148 ∨ c = 168 ∨ c = 169
    · rw [if_pos c']
    · rw [if_neg c']; exact fm c i c'
  obtain ⟨a, b, c, d, e, f, g⟩ := h2
  have q : ∀ c i, ¬ (c = 147 ∨ c = 148 ∨ c = 168 ∨ c = 169) → (if c = 147 ∨ c = 148 ∨ c = 168 ∨ c = 169 then mem c i else mm c i) = mm c i := fun c i h => if_neg h
  exact ⟨a, RHist_fr b (fun c i hc => (q c i (by omega)).symm), c, d, e, T, g⟩
theorem ok_list (a : Int) (b : Int) (ha : r32 a) (hb : r32 b) : OkM (BP_list a b) (Mo_list a b) s32 := by
  intro mem R
  have R0 := R
  obtain ⟨-, -, -, -, -, ls, -⟩ := R0
  have e24 : s32 24 = 24 := s32_id (by decide) (by decide)
  unfold BP_list Rows_begin Mo_list
  rw [BP_isList_eq ha, ob_some, ob_some]
  have haa := ha
  obtain ⟨ha1, ha2⟩ := ha
  obtain ⟨hb1, hb2⟩ := hb
  rw [s32_id (a := b) (by omega) (by omega), s32_id (a := a) (by omega) (by omega), e24]
  by_cases h : 0 ≤ a ∧ a < 3
  · rw [if_pos h, s32_1, if_1', if_1']
    by_cases h2 : b ≤ 24
    · rw [if_pos h2, if_pos h2]
      by_cases h3 : 0 ≤ b
      · rw [if_pos h3, if_neg (show ¬ b < 0 by omega), ck_id h.1 (by omega) (by omega), lt_id]
        obtain ⟨m2, e2, a1, a2, a3⟩ := loopM (fun n i m => Rows_begin_L27 a b n i m) b (fun i m' => (∀ k, 0 ≤ k → k < i → m' 148 (24 * a + k) = 0) ∧ (∀ k, (k < 24 * a ∨ 24 * a + 24 ≤ k) → m' 148 k = mem 148 k) ∧ (∀ c k, ¬ c = 148 → m' c k = mset mem 147 a b c k)) some 0
          (fun n m' _ => by
            show Rows_begin_L27 a b (n + 1) b m' = some m'
            rw [Rows_begin_L27, if_pos (Int.le_refl _)])
          (fun n i m' g0 g1 I => by
            show ∃ m'', Rows_begin_L27 a b (n + 1) i m' = Rows_begin_L27 a b n (i + 1) m'' ∧ _
            obtain ⟨I1, I2, I3⟩ := I
            rw [Rows_begin_L27, s32_id (a := b) (by omega) (by omega), s32_id (a := i) (by omega) (by omega), if_neg (by omega), ck_id (by omega) (by omega) (by omega), lt_id, s32_id (a := a * 24 + i) (by omega) (by omega)]
            refine ⟨_, rfl, fun k k0 k1 => ?_, fun k hk => ?_, fun c k hc => ?_⟩
            · rw [mset_c]
              by_cases c : k = i
              · rw [if_pos (by omega)]
              · rw [if_neg (by omega)]; exact I1 k k0 (by omega)
            · rw [mset_c, if_neg (by omega)]; exact I2 k hk
            · rw [mset_if, if_neg (fun z => hc z.1)]; exact I3 c k hc)
          b.toNat 2000 0 (mset mem 147 a b) (by omega) (by omega) (by omega) ⟨fun k k0 k1 => by omega, fun k _ => by rw [mset_if, if_neg (by omega)], fun _ _ _ => rfl⟩
        have e2' : Rows_begin_L27 a b 2000 0 (mset mem 147 a b) = some m2 := e2
        rw [e2', ob_some]
        have key : ∃ m3, Mo_list_L31 a 2000 0 (mset m2 169 a b) = some (1, m3) ∧ (∀ k, 0 ≤ k → k < 24 → m3 168 (24 * a + k) = 0) ∧ (∀ k, (k < 24 * a ∨ 24 * a + 24 ≤ k) → m3 168 k = m2 168 k) ∧ (∀ c k, ¬ c = 168 → m3 c k = mset m2 169 a b c k) := by
          exact loopM (fun n i m => Mo_list_L31 a n i m) 24 (fun i m' => (∀ k, 0 ≤ k → k < i → m' 168 (24 * a + k) = 0) ∧ (∀ k, (k < 24 * a ∨ 24 * a + 24 ≤ k) → m' 168 k = m2 168 k) ∧ (∀ c k, ¬ c = 168 → m' c k = mset m2 169 a b c k)) (fun m => some (1, m)) 0
            (fun n m' _ => by
              show Mo_list_L31 a (n + 1) 24 m' = some (1, m')
              rw [Mo_list_L31, if_pos (Int.le_refl _)])
            (fun n i m' g0 g1 I => by
              show ∃ m'', Mo_list_L31 a (n + 1) i m' = Mo_list_L31 a n (i + 1) m'' ∧ _
              obtain ⟨I1, I2, I3⟩ := I
              rw [Mo_list_L31, e24, s32_id (a := i) (by omega) (by omega), if_neg (by omega), ck_id (by omega) (by omega) (by omega), lt_id, s32_id (a := 24 * a + i) (by omega) (by omega)]
              refine ⟨_, rfl, fun k k0 k1 => ?_, fun k hk => ?_, fun c k hc => ?_⟩
              · rw [mset_c]
                by_cases c : k = i
                · rw [if_pos (by omega)]
                · rw [if_neg (by omega)]; exact I1 k k0 (by omega)
              · rw [mset_c, if_neg (by omega)]; exact I2 k hk
              · rw [mset_if, if_neg (fun z => hc z.1)]; exact I3 c k hc)
            24 2000 0 (mset m2 169 a b) (by omega) (by omega) (by omega) ⟨fun k k0 k1 => by omega, fun k _ => by rw [mset_if, if_neg (by omega)], fun _ _ _ => rfl⟩
        obtain ⟨m3, e3, c1, c2, c3⟩ := key
        refine ⟨1, m2, 1, m3, rfl, ?_, rfl, ?_⟩
        · rw [Mo_isList_eq haa, ob_some, if_pos h, s32_1, if_1', if_pos h2, if_pos h3, ck_id h.1 (by omega) (by omega), lt_id, e3]
        · refine Rel_lists R (fun r r0 r1 => ?_) (fun c i hc => by rw [c3 c i (by omega), mset_if, if_neg (by omega), a3 c i (by omega), mset_if, if_neg (by omega)])
          by_cases c : r = a
          · rw [c, c3 147 a (by decide), mset_if, if_neg (by omega), a3 147 a (by decide), mset_here, c3 169 a (by decide), mset_here]
            refine ⟨rfl, by omega, fun k k0 k1 => ?_⟩
            rw [c3 148 _ (by decide), mset_if, if_neg (by omega), a1 k k0 k1, c1 k k0 (by omega)]
          · obtain ⟨l1, l2, l3⟩ := ls r r0 r1
            rw [c3 147 r (by decide), mset_if, if_neg (by omega), a3 147 r (by decide), mset_c, if_neg c, c3 169 r (by decide), mset_c, if_neg c, a3 169 r (by decide), mset_if, if_neg (by omega)]
            refine ⟨l1, l2, fun k k0 k1 => ?_⟩
            rw [c3 148 _ (by decide), mset_if, if_neg (by omega), a2 _ (by omega), c2 _ (by omega), a3 168 _ (by decide), mset_if, if_neg (by omega)]
            exact l3 k k0 k1
      · rw [if_neg h3]
        refine ⟨_, mem, _, mem, rfl, ?_, rfl, R⟩
        rw [Mo_isList_eq haa, ob_some, if_pos h, s32_1, if_1', if_pos h2, if_neg h3]
    · rw [if_neg h2]
      refine ⟨_, mem, _, mem, rfl, ?_, rfl, R⟩
      rw [Mo_isList_eq haa, ob_some, if_pos h, s32_1, if_1', if_neg h2]
  · rw [if_neg h, s32_0, if_0']
    refine ⟨_, mem, _, mem, rfl, ?_, rfl, R⟩
    rw [Mo_isList_eq haa, ob_some, if_neg h, s32_0, if_0']
