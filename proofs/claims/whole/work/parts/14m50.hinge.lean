/-! hinge, axle, set -/
theorem ok_set (a b c : Int) (ha : r32 a) (hb : r32 b) : OkM (BP_set a b c) (Mo_set a b c) s32 := by
  intro mem R
  have R0 := R
  obtain ⟨-, -, -, -, -, ls, -⟩ := R0
  have haa := ha
  obtain ⟨ha1, ha2⟩ := ha
  obtain ⟨hb1, hb2⟩ := hb
  unfold BP_set Rows_isThere Rows_put Rows_has Mo_set
  rw [BP_isList_eq haa, ob_some, s32_id (a := a) (by omega) (by omega), s32_id (a := b) (by omega) (by omega)]
  by_cases h : 0 ≤ a ∧ a < 3
  · obtain ⟨l1, l2, l3⟩ := ls a h.1 h.2
    rw [if_pos h, s32_1, if_1, ob_some, s32_1, if_1', ck_id h.1 (by omega) (by omega), l1, s32_id (a := mem 169 a) (by omega) (by omega)]
    by_cases h2 : mem 169 a < 0
    · rw [if_pos h2, ob_some, s32_0, if_0]
      refine ⟨_, mem, _, mem, rfl, ?_, rfl, R⟩
      rw [Mo_isList_eq haa, ob_some, if_pos h, s32_1, if_1, ck_id h.1 (by omega) (by omega), s32_id (a := mem 169 a) (by omega) (by omega), if_neg (by omega)]
    · rw [if_neg h2, ob_some, s32_1, if_1]
      by_cases h3 : 0 ≤ b ∧ b < mem 169 a
      · have e : (if b < 0 then some 0 else ck a 3 (if mem 169 a ≤ b then some (0 : Int) else some 1)) = some 1 := by
          rw [if_neg (by omega), ck_id h.1 (by omega) (by omega), if_neg (by omega)]
        rw [ob_some, s32_1, if_1', e, ob_some, s32_1, if_1]
        rw [ob_some, s32_1, if_1', ck_id (by omega) (by omega) (by omega), s32_id (a := a * 24 + b) (by omega) (by omega), lt_id, ob_some]
        have rr : mset mem 148 (a * 24 + b) c 169 a = mem 169 a := by rw [mset_if, if_neg (by omega)]
        refine ⟨1, mset mem 148 (a * 24 + b) c, 1, mset (mset mem 148 (a * 24 + b) c) 168 (24 * a + b) c, rfl, ?_, rfl, ?_⟩
        · rw [Mo_isList_eq haa, ob_some, if_pos h, s32_1, if_1, ck_id h.1 (by omega) (by omega), rr, s32_id (a := mem 169 a) (by omega) (by omega), if_pos (show 0 ≤ mem 169 a by omega), ck_id h.1 (by omega) (by omega), s32_id (a := mem 169 a - 1) (by omega) (by omega), Mo_in_eq (by omega) (by omega) (by omega), ob_some, if_pos (show 0 ≤ b ∧ b ≤ mem 169 a - 1 by omega), s32_1, if_1, ck_id (by omega) (by omega) (by omega), s32_id (a := 24 * a + b) (by omega) (by omega), lt_id]
        · refine Rel_lists R (fun r r0 r1 => ?_) (fun c' i hc => by rw [mset_if, if_neg (by omega), mset_if, if_neg (by omega)])
          obtain ⟨k1, k2, k3⟩ := ls r r0 r1
          refine ⟨by rw [mset_if, if_neg (by omega), mset_if, if_neg (by omega), mset_if, if_neg (by omega), mset_if, if_neg (by omega)]; exact k1, by rw [mset_if, if_neg (by omega), mset_if, if_neg (by omega)]; exact k2, fun k x y => ?_⟩
          have y' : k < mem 169 r := by rw [mset_if, if_neg (by omega), mset_if, if_neg (by omega)] at y; exact y
          by_cases z : r = a ∧ k = b
          · rw [z.1, z.2]; simp [mset]
            omega
          · rw [mset_if, if_neg (by omega), mset_if, if_neg (by omega), mset_if, if_neg (by omega), mset_if, if_neg (by omega)]
            exact k3 k x y'
      · have e : (if b < 0 then some 0 else ck a 3 (if mem 169 a ≤ b then some (0 : Int) else some 1)) = some 0 := by
          by_cases z : b < 0
          · rw [if_pos z]
          · rw [if_neg z, ck_id h.1 (by omega) (by omega), if_pos (by omega)]
        rw [ob_some, s32_1, if_1', e, ob_some, s32_0, if_0]
        refine ⟨_, mem, _, mem, rfl, ?_, rfl, R⟩
        rw [Mo_isList_eq haa, ob_some, if_pos h, s32_1, if_1, ck_id h.1 (by omega) (by omega), s32_id (a := mem 169 a) (by omega) (by omega), if_pos (show 0 ≤ mem 169 a by omega), ck_id h.1 (by omega) (by omega), s32_id (a := mem 169 a - 1) (by omega) (by omega), Mo_in_eq (by omega) (by omega) (by omega), ob_some, if_neg (show ¬ (0 ≤ b ∧ b ≤ mem 169 a - 1) by omega), s32_0, if_0]
  · rw [if_neg h, s32_0, if_0]
    refine ⟨_, mem, _, mem, rfl, ?_, rfl, R⟩
    rw [Mo_isList_eq haa, ob_some, if_neg h, s32_0, if_0]
theorem VA_joint {A : Int → Int} (v : VA A) {k w : Int} (h0 : 0 ≤ k) (h1 : k < A 1) (hw : w = 0 ∨ w = 1) : VA (setA A (6 + k) w) := by
  obtain ⟨v1, v2, v3, v4, v5, v6, v7, v8⟩ := v
  have s : ∀ i, i < 6 ∨ 10 ≤ i → setA A (6 + k) w i = A i := fun i hi => setA_ne (by omega)
  refine ⟨by rw [s 0 (by omega)]; exact v1, by rw [s 1 (by omega)]; exact v2, by rw [s 10 (by omega)]; exact v3, by rw [s 29 (by omega)]; exact v4, fun j j0 j1 => ?_, fun j j0 j1 => ?_, fun j j0 j1 => ?_, fun j j0 j1 => ?_⟩
  · rw [s 1 (by omega)] at j1
    rw [s (2 + j) (by omega), s 0 (by omega)]
    have := v5 j j0 j1
    refine ⟨this.1, this.2.1, ?_⟩
    by_cases c : j = k
    · rw [c, setA_at]; exact hw
    · rw [setA_ne (by omega)]; exact this.2.2
  · rw [s 1 (by omega)] at j1
    rw [s (2 + j) (by omega), s (2 + (j + 1)) (by omega)]
    exact v6 j j0 j1
  · rw [s 10 (by omega)] at j1
    rw [s (11 + j) (by omega), s (17 + j) (by omega), s (23 + j) (by omega), s 0 (by omega)]
    exact v7 j j0 j1
  · rw [s 29 (by omega)] at j1
    rw [s (30 + j) (by omega), s (33 + j) (by omega)]
    exact v8 j j0 j1
theorem putHinge_eq {m : Mem} {a : Nat} {A : Int → Int} (v : VA A) (h : RB m a A) {k w : Int} (h0 : 0 ≤ k) (h1 : k < A 1) : Beam_putHinge a k w m = some (A (6 + k), mset m (a + 2) k w) ∧ RB (mset m (a + 2) k w) a (setA A (6 + k) w) := by
  have n4 := v.2.1
  obtain ⟨q1, q2, q3, q4, q5, q6, q7⟩ := h
  have s : ∀ i, i < 6 ∨ 10 ≤ i → setA A (6 + k) w i = A i := fun i hi => setA_ne (by omega)
  have v3 := v.2.2.1
  refine ⟨?_, ⟨by rw [s 0 (by omega), mset_if, if_neg (by omega)]; exact q1, by rw [s 1 (by omega), mset_if, if_neg (by omega)]; exact q2, by rw [s 10 (by omega), mset_if, if_neg (by omega)]; exact q3, by rw [s 29 (by omega), mset_if, if_neg (by omega)]; exact q4, fun j j0 j1 => ?_, fun j j0 j1 => ?_, fun j j0 j1 => ?_⟩⟩
  · unfold Beam_putHinge
    rw [Beam_isSupport_eq (r32_of (by omega)) (by omega), q2, ob_some, if_pos (show 0 ≤ k ∧ k < A 1 from ⟨h0, h1⟩), s32_1, if_1, ck_id h0 (by omega) (by omega), s32_id (a := k) (by omega) (by omega), lt_id, ck_id h0 (by omega) (by omega), lt_id, (q5 k h0 h1).2]
  · rw [s 1 (by omega)] at j1
    rw [s (2 + j) (by omega), mset_if, if_neg (by omega)]
    refine ⟨(q5 j j0 j1).1, ?_⟩
    rw [mset_c]
    by_cases c : j = k
    · rw [if_pos c, c, setA_at]
    · rw [if_neg c, setA_ne (by omega)]; exact (q5 j j0 j1).2
  · rw [s 10 (by omega)] at j1
    rw [s (11 + j) (by omega), s (17 + j) (by omega), s (23 + j) (by omega), mset_if, if_neg (by omega), mset_if, if_neg (by omega), mset_if, if_neg (by omega), mset_if, if_neg (by omega)]
    exact q6 j j0 j1
  · rw [s 29 (by omega)] at j1
    rw [s (30 + j) (by omega), s (33 + j) (by omega), mset_if, if_neg (by omega), mset_if, if_neg (by omega)]
    exact q7 j j0 j1
theorem whyAt_eq {m : Mem} {a : Nat} {A : Int → Int} (v : VA A) (h : RB m a A) {x : Int} (hx : r32 x) : (∃ k, 0 ≤ k ∧ k < A 1 ∧ aT A k = x ∧ Beam_numberAt a x m = some k ∧ Beam_whyNotAtSupport a x m = some 0) ∨ ((∀ k, 0 ≤ k → k < A 1 → ¬ aT A k = x) ∧ Beam_numberAt a x m = some (-1) ∧ Beam_whyNotAtSupport a x m = some (if 0 ≤ x ∧ x ≤ A 0 then -6 else -1)) := by
  have n4 := v.2.1
  have l10 := v.1
  unfold Beam_whyNotAtSupport
  rw [Beam_isPlace_eq hx (by rw [h.1]; exact r32_of (by omega)), h.1, ob_some]
  rcases numberAt_eq v h hx with ⟨k, k0, k1, k2, k3⟩ | ⟨k2, k3⟩
  · have t := VA_at v k0 k1
    refine Or.inl ⟨k, k0, k1, k2, k3, ?_⟩
    rw [if_pos (show 0 ≤ x ∧ x ≤ A 0 by omega), s32_1, if_1, k3, ob_some, s32_id (a := k) (by omega) (by omega), if_pos k0]
  · refine Or.inr ⟨k2, k3, ?_⟩
    rw [k3]
    by_cases c : 0 ≤ x ∧ x ≤ A 0
    · rw [if_pos c, if_pos c, s32_1, if_1, ob_some, s32_id (a := -1) (by decide) (by decide), if_neg (by decide)]
    · rw [if_neg c, if_neg c, s32_0, if_0]
theorem ok_hinge (a : Int) (b : Int) (ha : r32 a) (hb : r32 b) : OkM (BP_hinge a b) (Mo_hinge a b) s32 := by
  intro mem R
  have R0 := R
  obtain ⟨⟨v, rb⟩, -⟩ := R0
  have n4 := v.2.1
  have l10 := v.1
  have haa := ha
  have hbb := hb
  obtain ⟨ha1, ha2⟩ := ha
  obtain ⟨hb1, hb2⟩ := hb
  by_cases h : b = 0 ∨ b = 1
  · have B : ∀ o : Option (Int × Mem), (if s32 b = 0 then o else (if s32 b = s32 1 then o else some (-1, mem))) = o := by
      intro o
      rw [s32_id (a := b) (by omega) (by omega), s32_1]
      by_cases c : b = 0
      · rw [if_pos c]
      · rw [if_neg c, if_pos (by omega)]
    rcases whyAt_eq v rb haa with ⟨k, k0, k1, k2, k3, k4⟩ | ⟨k2, k3, k4⟩
    · obtain ⟨m2, e2, C, b2, f2⟩ := keepR R
      have P := putHinge_eq v b2 (w := b) k0 k1
      simp only [Nat.reduceAdd] at P
      have N : Beam_numberAt 1 a m2 = some k := by
        rcases numberAt_eq v b2 haa with ⟨j, j0, j1, j2, j3⟩ | ⟨j2, j3⟩
        · rw [j3, at_unique v j0 j1 k0 k1 (by rw [j2, k2])]
        · exact absurd k2 (j2 k k0 k1)
      obtain ⟨m4, e4, Rm, hA4⟩ := edit_one R C f2 (by omega) P.2 (VA_joint v k0 k1 h)
      have hA : mset m2 3 k b 150 = mem 150 := by funext i; rw [mset_if, if_neg (by omega), f2 150 i (by omega)]
      have S : Mo_supportAt a (mset m2 3 k b) = some k := by
        rcases supportAt_eq v hA haa with ⟨j, j0, j1, j2, j3⟩ | ⟨j2, j3⟩
        · rw [j3, at_unique v j0 j1 k0 k1 (by rw [j2, k2])]
        · exact absurd k2 (j2 k k0 k1)
      have t := VA_at v k0 k1
      refine ⟨mem 150 (6 + k), mset m2 3 k b, mem 150 (6 + k), mset m4 150 (6 + k) b, ?_, ?_, rfl, Rm⟩
      · unfold BP_hinge
        rw [jn_id, B, k4, ob_some, s32_0, if_0', e2, ob_some, N, ob_some, P.1, bdI_some]
      · unfold Mo_hinge
        rw [Mo_isPlace_eq haa (by rw [hA]; exact r32_of (by omega)), hA, ob_some, if_pos (show 0 ≤ a ∧ a ≤ mem 150 0 by omega), s32_1, if_1', s32_id (a := b) (by omega) (by omega), in_part hbb, ob_some, if_pos h, s32_1, if_1, S, ob_some, s32_id (a := k) (by omega) (by omega), if_pos k0, ck_id (by omega) (by omega) (by omega), s32_id (a := 6 + k) (by omega) (by omega), lt_id, e4, ob_some, ck_id (by omega) (by omega) (by omega), lt_id]
    · refine ⟨(if 0 ≤ a ∧ a ≤ mem 150 0 then -6 else -1), mem, (if 0 ≤ a ∧ a ≤ mem 150 0 then -6 else -1), mem, ?_, ?_, rfl, R⟩
      · unfold BP_hinge
        rw [jn_id, B, k4, ob_some]
        by_cases c : 0 ≤ a ∧ a ≤ mem 150 0
        · rw [if_pos c, s32_id (a := -6) (by decide) (by decide), if_neg (by decide)]
        · rw [if_neg c, s32_id (a := -1) (by decide) (by decide), if_neg (by decide)]
      · unfold Mo_hinge
        have S : Mo_supportAt a mem = some (-1) := by
          rcases supportAt_eq v (m := mem) rfl haa with ⟨j, j0, j1, j2, j3⟩ | ⟨j2, j3⟩
          · exact absurd j2 (k2 j j0 j1)
          · exact j3
        rw [Mo_isPlace_eq haa (r32_of (by omega)), ob_some, s32_id (a := b) (by omega) (by omega), in_part hbb, ob_some, S, ob_some, if_pos h, s32_1, if_1]
        by_cases c : 0 ≤ a ∧ a ≤ mem 150 0
        · rw [if_pos c, if_pos c, s32_1, if_1', s32_id (a := -1) (by decide) (by decide), if_neg (by decide)]
        · rw [if_neg c, if_neg c, s32_0, if_0']
  · refine ⟨-1, mem, -1, mem, ?_, ?_, rfl, R⟩
    · unfold BP_hinge
      rw [jn_id, s32_id (a := b) (by omega) (by omega), s32_1, if_neg (show ¬ b = 0 by omega), if_neg (show ¬ b = 1 by omega)]
    · unfold Mo_hinge
      rw [Mo_isPlace_eq haa (r32_of (by omega)), ob_some, s32_id (a := b) (by omega) (by omega), in_part hbb, ob_some, if_neg h, s32_0, if_0]
      by_cases c : 0 ≤ a ∧ a ≤ mem 150 0
      · rw [if_pos c, s32_1, if_1']
      · rw [if_neg c, s32_0, if_0']
