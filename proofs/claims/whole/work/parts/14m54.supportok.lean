theorem moSupport_eq {m : Mem} {A : Int → Int} (v : VA A) (hA : m 150 = A) {h : Int} (hh : m 149 4 = h) (h0 : 0 ≤ h ∧ h ≤ 10) {x p : Int} (hx : 0 ≤ x ∧ x ≤ A 0) (hn : A 1 < 4) (hp : spot A p x) (hno : ∀ k, 0 ≤ k → k < A 1 → ¬ aT A k = x) : ∃ m', Mo_support x m = some (p, m') ∧ m' 150 = insA A p x ∧ m' 149 4 = kh h ∧ (∀ k i, 0 ≤ k → k < kh h → 0 ≤ i → i < 36 → mH m' k i = kH A h (mH m) k i) ∧ (∀ c i, ¬ (c = 150 ∨ c = 152 ∨ (c = 149 ∧ i = 4)) → m' c i = m c i) := by
  have l10 := v.1
  have n4 := v.2.1
  have e4 : s32 4 = 4 := s32_id (by decide) (by decide)
  have hp' := hp
  obtain ⟨p0, p1, -, -⟩ := hp'
  obtain ⟨m1, e1, a1, b1', f1⟩ := changes_eq hh h0
  have hA1 : m1 150 = A := by rw [← hA]; funext i; exact f1 150 i (by decide) (by omega)
  rw [hA] at b1'
  have S : Mo_supportAt x m = some (-1) := by
    rcases supportAt_eq v hA (r32_of (x := x) (by omega)) with ⟨j, j0, j1, j2, j3⟩ | ⟨j2, j3⟩
    · exact absurd j2 (hno j j0 j1)
    · exact j3
  have q0 : m 150 1 = A 1 := by rw [hA]
  have q1 : m1 150 1 = A 1 := by rw [hA1]
  obtain ⟨m6, e6, c1, c2, c3, c4⟩ := sup_loop v hn (by omega) hp (m0 := m1) (fun x5 m6 => ck (2 + x5) 36 (lt (mset m6 150 (s32 (2 + x5)) x) (fun m7 => ck (6 + x5) 36 (lt (mset m7 150 (s32 (6 + x5)) 0) (fun m8 => lt (mset m8 150 1 ((m8 150 1) + 1)) (fun m9 => some (x5, m9))))))) (A 1 - p).toNat 2000 (A 1) m1 (by omega) (by omega) (by omega) (fun j j0 j1 => by rw [hA1]; exact ⟨rfl, rfl⟩) (fun j j0 j1 => by omega) (fun q _ _ => by rw [hA1]) (fun _ _ _ => rfl)
  unfold Mo_support
  rw [Mo_isPlace_eq (r32_of (by omega)) (by rw [hA]; exact r32_of (by omega)), hA, ob_some, if_pos hx, s32_1, if_1, S, ob_some, s32_id (a := -1) (by decide) (by decide), if_pos (by decide), s32_id (a := A 1) (by omega) (by omega), e4, if_pos (show ¬ A 1 = 4 by omega), e1, ob_some, lt_id, q1, jn_id, e6, ck_id (by omega) (by omega) (by omega), s32_id (a := 2 + p) (by omega) (by omega), lt_id, ck_id (by omega) (by omega) (by omega), s32_id (a := 6 + p) (by omega) (by omega), lt_id, lt_id]
  have q2 : mset (mset m6 150 (2 + p) x) 150 (6 + p) 0 150 1 = A 1 := by rw [mset_c, if_neg (by omega), mset_c, if_neg (by omega)]; exact c3 1 (by omega) (by omega)
  rw [q2]
  refine ⟨_, rfl, ?_, ?_, fun k i k0 k1 i0 i1 => ?_, fun c i hc => ?_⟩
  · rw [← ins_of (A := A) (B := m6 150) (p := p) (x := x) (by omega) ⟨p0, p1⟩ c1 c2 c3]
    funext i
    simp only [mset_c]
  · rw [mset_if, if_neg (by omega), mset_if, if_neg (by omega), mset_if, if_neg (by omega), c4 _ _ (by decide)]; exact a1
  · have := b1' k i k0 k1 i0 i1
    unfold mH at this ⊢
    rw [mset_if, if_neg (by omega), mset_if, if_neg (by omega), mset_if, if_neg (by omega), c4 _ _ (by decide)]
    exact this
  · rw [mset_if, if_neg (by omega), mset_if, if_neg (by omega), mset_if, if_neg (by omega), c4 c i (by omega), f1 c i (by omega) (by omega)]
theorem ok_support (a : Int) (ha : r32 a) : OkM (BP_support a) (Mo_support a) s32 := by
  intro mem R
  have R0 := R
  obtain ⟨⟨v, rb⟩, -⟩ := R0
  have l10 := v.1
  have n4 := v.2.1
  have e4 : s32 4 = 4 := s32_id (by decide) (by decide)
  unfold BP_support
  rw [whyNotSupport_eq v rb ha, ob_some]
  by_cases h1 : 0 ≤ a ∧ a ≤ mem 150 0
  · rw [if_pos h1]
    rcases supportAt_eq v (m := mem) rfl ha with ⟨k, k0, k1, k2, k3⟩ | ⟨k2, k3⟩
    · rw [if_pos (atB_1 n4.2 k0 k1 k2), s32_id (a := -6) (by decide) (by decide), if_neg (by decide)]
      refine ⟨-6, mem, -6, mem, rfl, ?_, rfl, R⟩
      unfold Mo_support
      rw [Mo_isPlace_eq ha (r32_of (by omega)), ob_some, if_pos h1, s32_1, if_1, k3, ob_some, s32_id (a := k) (by omega) (by omega), if_neg (by omega)]
    · rw [if_neg (atB_0 k2)]
      by_cases h3 : mem 150 1 < 4
      · rw [if_pos h3, s32_0, if_0']
        obtain ⟨p, hp⟩ := spot_ex v a k2
        obtain ⟨m2, e2, C, b2, f2⟩ := keepR R
        obtain ⟨mc, ec, bc, fc⟩ := putSupport_eq v b2 h3 h1 hp
        have hA : mc 150 = mem 150 := by funext i; rw [fc 150 i (by omega), f2 150 i (by omega)]
        have h4 : mc 149 4 = mem 149 4 := by rw [fc _ _ (by omega), f2 _ _ (by omega)]
        obtain ⟨mm, em, a1, a2, a3, a4⟩ := moSupport_eq v hA h4 (Rel_hist R).1 h1 h3 hp k2
        refine ⟨p, mc, p, mm, ?_, em, rfl, ?_⟩
        · rw [e2, ob_some, ec, bdI_some]
        · exact Rel_both R C f2 (fun c i hc => fc c i (by omega)) (by rw [a1]; exact bc) (by rw [a1]; exact VA_ins v h3 h1 hp) a2 a3 a4
      · rw [if_neg h3, s32_id (a := -3) (by decide) (by decide), if_neg (by decide)]
        refine ⟨-3, mem, -3, mem, rfl, ?_, rfl, R⟩
        unfold Mo_support
        rw [Mo_isPlace_eq ha (r32_of (by omega)), ob_some, if_pos h1, s32_1, if_1, k3, ob_some, s32_id (a := -1) (by decide) (by decide), if_pos (by decide), s32_id (a := mem 150 1) (by omega) (by omega), e4, if_neg (show ¬ ¬ mem 150 1 = 4 by omega)]
  · rw [if_neg h1, s32_id (a := -1) (by decide) (by decide), if_neg (by decide)]
    refine ⟨-1, mem, -1, mem, rfl, ?_, rfl, R⟩
    unfold Mo_support
    rw [Mo_isPlace_eq ha (r32_of (by omega)), ob_some, if_neg h1, s32_0, if_0]
