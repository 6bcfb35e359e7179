/-! axle -/
def axA (A : Int → Int) (b w : Int) : Int → Int := fun i => if i = 29 then A 29 + 1 else if i = 33 + A 29 then w else if i = 30 + A 29 then b else A i
theorem ax_same {A : Int → Int} {b w i : Int} (h : ¬ (i = 29 ∨ i = 33 + A 29 ∨ i = 30 + A 29)) : axA A b w i = A i := by
  unfold axA
  rw [if_neg (by omega), if_neg (by omega), if_neg (by omega)]
theorem ax_new {A : Int → Int} {b w : Int} (h : 0 ≤ A 29 ∧ A 29 < 3) : axA A b w 29 = A 29 + 1 ∧ axA A b w (30 + A 29) = b ∧ axA A b w (33 + A 29) = w := by
  unfold axA
  refine ⟨if_pos rfl, ?_, ?_⟩
  · rw [if_neg (by omega), if_neg (by omega), if_pos rfl]
  · rw [if_neg (by omega), if_pos rfl]
theorem VA_ax {A : Int → Int} (v : VA A) {b w : Int} (h : A 29 < 3) (hb : 0 ≤ b ∧ b ≤ 9) (hw : 1 ≤ w ∧ w ≤ 9) : VA (axA A b w) := by
  obtain ⟨v1, v2, v3, v4, v5, v6, v7, v8⟩ := v
  have n := ax_new (A := A) (b := b) (w := w) ⟨v4.1, h⟩
  have s : ∀ i, i < 29 → axA A b w i = A i := fun i hi => ax_same (by omega)
  refine ⟨by rw [s 0 (by omega)]; exact v1, by rw [s 1 (by omega)]; exact v2, by rw [s 10 (by omega)]; exact v3, by rw [n.1]; omega, fun k k0 k1 => ?_, fun k k0 k1 => ?_, fun k k0 k1 => ?_, fun k k0 k1 => ?_⟩
  · rw [s 1 (by omega)] at k1
    rw [s (2 + k) (by omega), s (6 + k) (by omega), s 0 (by omega)]; exact v5 k k0 k1
  · rw [s 1 (by omega)] at k1
    rw [s (2 + k) (by omega), s (2 + (k + 1)) (by omega)]; exact v6 k k0 k1
  · rw [s 10 (by omega)] at k1
    rw [s (11 + k) (by omega), s (17 + k) (by omega), s (23 + k) (by omega), s 0 (by omega)]; exact v7 k k0 k1
  · rw [n.1] at k1
    by_cases c : k = A 29
    · rw [c, n.2.1, n.2.2]; omega
    · rw [ax_same (i := 30 + k) (by omega), ax_same (i := 33 + k) (by omega)]; exact v8 k k0 (by omega)
theorem putAxle_eq {m : Mem} {a : Nat} {A : Int → Int} (v : VA A) (h : RB m a A) (hl : A 29 < 3) (b w : Int) : ∃ m', Beam_putAxle a b w m = some (A 29 + 1, m') ∧ RB m' a (axA A b w) ∧ (∀ c i, ¬ (a ≤ c ∧ c ≤ a + 8) → m' c i = m c i) := by
  have v1 := v.2.1
  have v3 := v.2.2.1
  have v4 := v.2.2.2.1
  obtain ⟨h1, h2, h3, h4, h5, h6, h7⟩ := h
  have n := ax_new (A := A) (b := b) (w := w) ⟨v4.1, hl⟩
  have s : ∀ i, i < 29 → axA A b w i = A i := fun i hi => ax_same (by omega)
  have e3 : s32 3 = 3 := s32_id (by decide) (by decide)
  unfold Beam_putAxle
  rw [h4, s32_id (a := A 29) (by omega) (by omega), e3, if_pos hl, ck_id (by omega) (by omega) (by omega)]
  simp only [lt_id]
  have g1 : mset m (a + 7) (A 29) b a 9 = A 29 := by rw [mset_if, if_neg (by omega)]; exact h4
  have g2 : mset (mset m (a + 7) (A 29) b) (a + 8) (A 29) w a 9 = A 29 := by rw [mset_if, if_neg (by omega)]; exact g1
  rw [g1, s32_id (a := A 29) (by omega) (by omega), ck_id (by omega) (by omega) (by omega), g2, mset_here]
  refine ⟨_, rfl, ⟨?_, ?_, ?_, ?_, fun k k0 k1 => ?_, fun k k0 k1 => ?_, fun k k0 k1 => ?_⟩, fun c i hc => by rw [mset_if, if_neg (by omega), mset_if, if_neg (by omega), mset_if, if_neg (by omega)]⟩
  · rw [s 0 (by omega), mset_if, if_neg (by omega), mset_if, if_neg (by omega), mset_if, if_neg (by omega)]; exact h1
  · rw [s 1 (by omega), mset_if, if_neg (by omega), mset_if, if_neg (by omega), mset_if, if_neg (by omega)]; exact h2
  · rw [s 10 (by omega), mset_if, if_neg (by omega), mset_if, if_neg (by omega), mset_if, if_neg (by omega)]; exact h3
  · rw [n.1, mset_here]
  · rw [s 1 (by omega)] at k1
    have q := h5 k k0 k1
    rw [s (2 + k) (by omega), s (6 + k) (by omega)]
    exact ⟨by rw [mset_if, if_neg (by omega), mset_if, if_neg (by omega), mset_if, if_neg (by omega)]; exact q.1, by rw [mset_if, if_neg (by omega), mset_if, if_neg (by omega), mset_if, if_neg (by omega)]; exact q.2⟩
  · rw [s 10 (by omega)] at k1
    have q := h6 k k0 k1
    rw [s (11 + k) (by omega), s (17 + k) (by omega), s (23 + k) (by omega)]
    exact ⟨by rw [mset_if, if_neg (by omega), mset_if, if_neg (by omega), mset_if, if_neg (by omega)]; exact q.1, by rw [mset_if, if_neg (by omega), mset_if, if_neg (by omega), mset_if, if_neg (by omega)]; exact q.2.1, by rw [mset_if, if_neg (by omega), mset_if, if_neg (by omega), mset_if, if_neg (by omega)]; exact q.2.2.1, by rw [mset_if, if_neg (by omega), mset_if, if_neg (by omega), mset_if, if_neg (by omega)]; exact q.2.2.2⟩
  · rw [n.1] at k1
    by_cases c : k = A 29
    · rw [c, n.2.1, n.2.2]
      refine ⟨?_, ?_⟩ <;> simp [mset]
    · rw [ax_same (i := 30 + k) (by omega), ax_same (i := 33 + k) (by omega)]
      have q := h7 k k0 (by omega)
      exact ⟨by rw [mset_if, if_neg (by omega), mset_if, if_neg (by omega), mset_if, if_neg (by omega)]; exact q.1, by rw [mset_if, if_neg (by omega), mset_if, if_neg (by omega), mset_if, if_neg (by omega)]; exact q.2⟩
theorem whyNotAxle_eq {m : Mem} {a : Nat} {A : Int → Int} (v : VA A) (h : RB m a A) {b w : Int} (hb : r32 b) (hw : r32 w) : Beam_whyNotAxle a b w m = some (if (0 ≤ b ∧ b ≤ 9) ∧ (1 ≤ w ∧ w ≤ 9) then (if A 29 < 3 then 0 else -3) else -1) := by
  have v4 := v.2.2.2.1
  obtain ⟨b1, b2⟩ := hb
  obtain ⟨w1, w2⟩ := hw
  unfold Beam_whyNotAxle
  rw [h.2.2.2.1, s32_id b1 b2, s32_id w1 w2, s32_id (a := A 29) (by omega) (by omega), s32_1, s32_id (a := 9) (by decide) (by decide), s32_id (a := 3) (by decide) (by decide)]
  by_cases c1 : b < 0
  · rw [if_pos c1, if_neg (by omega)]
  · rw [if_neg c1]
    by_cases c2 : 9 < b
    · rw [if_pos c2, if_neg (by omega)]
    · rw [if_neg c2]
      by_cases c3 : w < 1
      · rw [if_pos c3, if_neg (by omega)]
      · rw [if_neg c3]
        by_cases c4 : w ≤ 9
        · rw [if_pos c4, if_pos (show (0 ≤ b ∧ b ≤ 9) ∧ (1 ≤ w ∧ w ≤ 9) by omega)]
          by_cases c5 : A 29 < 3
          · rw [if_pos c5, if_pos c5]
          · rw [if_neg c5, if_neg c5]
        · rw [if_neg c4, if_neg (by omega)]
theorem moAxle_eq {m : Mem} {A : Int → Int} (v : VA A) (hA : m 150 = A) {h : Int} (hh : m 149 4 = h) (h0 : 0 ≤ h ∧ h ≤ 10) {b w : Int} (hb : r32 b) (hw : r32 w) :
    ((0 ≤ b ∧ b ≤ 9) ∧ (1 ≤ w ∧ w ≤ 9) ∧ A 29 < 3 → ∃ m', Mo_axle b w m = some (A 29 + 1, m') ∧ m' 150 = axA A b w ∧ m' 149 4 = kh h ∧ (∀ k i, 0 ≤ k → k < kh h → 0 ≤ i → i < 36 → mH m' k i = kH A h (mH m) k i) ∧ (∀ c i, ¬ (c = 150 ∨ c = 152 ∨ (c = 149 ∧ i = 4)) → m' c i = m c i)) ∧
    (¬ ((0 ≤ b ∧ b ≤ 9) ∧ (1 ≤ w ∧ w ≤ 9) ∧ A 29 < 3) → Mo_axle b w m = some (if (0 ≤ b ∧ b ≤ 9) ∧ (1 ≤ w ∧ w ≤ 9) then -3 else -1, m)) := by
  have v4 := v.2.2.2.1
  obtain ⟨b1, b2⟩ := hb
  obtain ⟨w1, w2⟩ := hw
  have e3 : s32 3 = 3 := s32_id (by decide) (by decide)
  unfold Mo_axle
  rw [s32_id b1 b2, s32_id w1 w2, Mo_in_eq (by omega) (by omega) (by omega), ob_some, Mo_in_eq (by omega) (by omega) (by omega), ob_some, show m 150 29 = A 29 by rw [hA], s32_id (a := A 29) (by omega) (by omega), e3]
  constructor
  · intro c
    obtain ⟨m1, e1, a1, b1', f1⟩ := changes_eq hh h0
    have hA1 : m1 150 = A := by rw [← hA]; funext i; exact f1 150 i (by decide) (by omega)
    rw [hA] at b1'
    have q1 : m1 150 29 = A 29 := by rw [hA1]
    rw [if_pos c.1, s32_1, if_1', if_pos c.2.1, s32_1, if_1, if_pos (show ¬ A 29 = 3 by omega), e1, ob_some, q1, ck_id (by omega) (by omega) (by omega), s32_id (a := 30 + A 29) (by omega) (by omega), lt_id]
    have q2 : mset m1 150 (30 + A 29) b 150 29 = A 29 := by rw [mset_if, if_neg (by omega)]; exact q1
    rw [q2, ck_id (by omega) (by omega) (by omega), s32_id (a := 33 + A 29) (by omega) (by omega), lt_id, lt_id]
    have q3 : mset (mset m1 150 (30 + A 29) b) 150 (33 + A 29) w 150 29 = A 29 := by rw [mset_if, if_neg (by omega)]; exact q2
    rw [q3, mset_here]
    refine ⟨_, rfl, ?_, ?_, fun k i k0 k1 i0 i1 => ?_, fun c i hc => ?_⟩
    · funext i
      unfold axA
      simp only [mset_c]
      rw [← hA1]
    · rw [mset_if, if_neg (by omega), mset_if, if_neg (by omega), mset_if, if_neg (by omega)]; exact a1
    · have := b1' k i k0 k1 i0 i1
      unfold mH at this ⊢
      rw [mset_if, if_neg (by omega), mset_if, if_neg (by omega), mset_if, if_neg (by omega)]
      exact this
    · rw [mset_if, if_neg (by omega), mset_if, if_neg (by omega), mset_if, if_neg (by omega), f1 c i (by omega) (by omega)]
  · intro c
    by_cases c1 : 0 ≤ b ∧ b ≤ 9
    · rw [if_pos c1, s32_1, if_1']
      by_cases c2 : 1 ≤ w ∧ w ≤ 9
      · rw [if_pos c2, s32_1, if_1, if_neg (show ¬ ¬ A 29 = 3 by omega), if_pos (show (0 ≤ b ∧ b ≤ 9) ∧ (1 ≤ w ∧ w ≤ 9) from ⟨c1, c2⟩)]
      · rw [if_neg c2, s32_0, if_0, if_neg (by omega)]
    · rw [if_neg c1, s32_0, if_0', if_neg (by omega)]
theorem ok_axle (a : Int) (b : Int) (ha : r32 a) (hb : r32 b) : OkM (BP_axle a b) (Mo_axle a b) s32 := by
  intro mem R
  have R0 := R
  obtain ⟨⟨v, rb⟩, -⟩ := R0
  unfold BP_axle
  rw [whyNotAxle_eq v rb ha hb, ob_some]
  by_cases h : (0 ≤ a ∧ a ≤ 9) ∧ (1 ≤ b ∧ b ≤ 9)
  · rw [if_pos h]
    by_cases h3 : mem 150 29 < 3
    · rw [if_pos h3, s32_0, if_0']
      obtain ⟨m2, e2, C, b2, f2⟩ := keepR R
      obtain ⟨mc, ec, bc, fc⟩ := putAxle_eq v b2 h3 a b
      have hA : mc 150 = mem 150 := by funext i; rw [fc 150 i (by omega), f2 150 i (by omega)]
      have h4 : mc 149 4 = mem 149 4 := by rw [fc _ _ (by omega), f2 _ _ (by omega)]
      obtain ⟨mm, em, a1, a2, a3, a4⟩ := (moAxle_eq v hA h4 (Rel_hist R).1 ha hb).1 ⟨h.1, h.2, h3⟩
      refine ⟨mem 150 29 + 1, mc, mem 150 29 + 1, mm, ?_, em, rfl, ?_⟩
      · rw [e2, ob_some, ec, bdI_some]
      · exact Rel_both R C f2 (fun c i hc => fc c i (by omega)) (by rw [a1]; exact bc) (by rw [a1]; exact VA_ax v h3 h.1 h.2) a2 a3 a4
    · rw [if_neg h3, s32_id (a := -3) (by decide) (by decide), if_neg (by decide)]
      refine ⟨_, mem, _, mem, rfl, (moAxle_eq v rfl rfl (Rel_hist R).1 ha hb).2 (fun z => h3 z.2.2), ?_, R⟩
      rw [if_pos h]
  · rw [if_neg h, s32_id (a := -1) (by decide) (by decide), if_neg (by decide)]
    refine ⟨_, mem, _, mem, rfl, (moAxle_eq v rfl rfl (Rel_hist R).1 ha hb).2 (fun z => h ⟨z.1, z.2.1⟩), ?_, R⟩
    rw [if_neg h]
