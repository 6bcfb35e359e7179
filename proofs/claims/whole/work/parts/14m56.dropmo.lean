/-! drop: the other side -/
def dI (A : Int → Int) (k i q : Int) : Int := if q = 1 then A 1 - 1 else if (2 + k ≤ q ∧ q < 2 + i) ∨ (6 + k ≤ q ∧ q < 6 + i) then A (q + 1) else A q
theorem mdrop_loop {m0 : Mem} {A : Int → Int} (h4 : 1 ≤ A 1 ∧ A 1 ≤ 4) {k : Int} (k0 : 0 ≤ k) : ∀ (d n : Nat) (i : Int) (m : Mem), k ≤ i → i + (d : Int) = A 1 - 1 → d < n → (∀ q, m 150 q = dI A k i q) → (∀ c q, ¬ c = 150 → m c q = m0 c q) →
    ∃ m', Mo_drop_L39 n i m = some (A 1 - 1, m') ∧ m' 150 = drA A k ∧ (∀ c q, ¬ c = 150 → m' c q = m0 c q) := by
  intro d
  induction d with
  | zero =>
    intro n i m ki hi hd I F
    obtain ⟨n', rfl⟩ : ∃ n', n = n' + 1 := ⟨n - 1, by omega⟩
    have q1 : m 150 1 = A 1 - 1 := by rw [I 1]; exact if_pos rfl
    have hi' : i = A 1 - 1 := by omega
    refine ⟨m, ?_, ?_, F⟩
    · rw [Mo_drop_L39, q1, s32_id (a := A 1 - 1) (by omega) (by omega), s32_id (a := i) (by omega) (by omega), if_pos (by omega)]
    · funext q
      rw [I q, hi']
      rfl
  | succ d ih =>
    intro n i m ki hi hd I F
    obtain ⟨n', rfl⟩ : ∃ n', n = n' + 1 := ⟨n - 1, by omega⟩
    have q1 : m 150 1 = A 1 - 1 := by rw [I 1]; exact if_pos rfl
    have q2 : m 150 (2 + i + 1) = A (2 + i + 1) := by
      rw [I]
      unfold dI
      rw [if_neg (by omega), if_neg (by omega)]
    have q3 : m 150 (6 + i + 1) = A (6 + i + 1) := by
      rw [I]
      unfold dI
      rw [if_neg (by omega), if_neg (by omega)]
    rw [Mo_drop_L39, q1, s32_id (a := A 1 - 1) (by omega) (by omega), s32_id (a := i) (by omega) (by omega), if_neg (by omega), ck_id (by omega) (by omega) (by omega), ck_id (by omega) (by omega) (by omega), s32_id (a := 2 + i) (by omega) (by omega), s32_id (a := 2 + i + 1) (by omega) (by omega), lt_id, ck_id (by omega) (by omega) (by omega), ck_id (by omega) (by omega) (by omega), s32_id (a := 6 + i) (by omega) (by omega), s32_id (a := 6 + i + 1) (by omega) (by omega), lt_id, q2, mset_c, if_neg (by omega), q3]
    refine ih n' (i + 1) _ (by omega) (by omega) (by omega) (fun q => ?_) (fun c r hc => by rw [mset_if, if_neg (by omega), mset_if, if_neg (by omega)]; exact F c r hc)
    rw [mset_c, mset_c]
    by_cases c1 : q = 6 + i
    · rw [if_pos c1, c1]
      unfold dI
      rw [if_neg (by omega), if_pos (by omega)]
    · rw [if_neg c1]
      by_cases c2 : q = 2 + i
      · rw [if_pos c2, c2]
        unfold dI
        rw [if_neg (by omega), if_pos (by omega)]
      · rw [if_neg c2, I q]
        unfold dI
        by_cases c3 : q = 1
        · rw [if_pos c3, if_pos c3]
        · rw [if_neg c3, if_neg c3]
          by_cases c4 : (2 + k ≤ q ∧ q < 2 + i) ∨ (6 + k ≤ q ∧ q < 6 + i)
          · rw [if_pos c4, if_pos (by omega)]
          · rw [if_neg c4, if_neg (by omega)]
theorem moDrop_eq {m : Mem} {A : Int → Int} (v : VA A) (hA : m 150 = A) {h : Int} (hh : m 149 4 = h) (h0 : 0 ≤ h ∧ h ≤ 10) {x k : Int} (hx : r32 x) (k0 : 0 ≤ k) (k1 : k < A 1) (hk : aT A k = x) (hp : 0 ≤ x ∧ x ≤ A 0) (S : Mo_supportAt x m = some k) : ∃ m', Mo_drop x m = some (A 1 - 1, m') ∧ m' 150 = drA A k ∧ m' 149 4 = kh h ∧ (∀ k i, 0 ≤ k → k < kh h → 0 ≤ i → i < 36 → mH m' k i = kH A h (mH m) k i) ∧ (∀ c i, ¬ (c = 150 ∨ c = 152 ∨ (c = 149 ∧ i = 4)) → m' c i = m c i) := by
  have l10 := v.1
  have n4 := v.2.1
  obtain ⟨m1, e1, a1, b1', f1⟩ := changes_eq hh h0
  have hA1 : m1 150 = A := by rw [← hA]; funext i; exact f1 150 i (by decide) (by omega)
  rw [hA] at b1'
  have q1 : m1 150 1 = A 1 := by rw [hA1]
  obtain ⟨m', e', c1, c2⟩ := mdrop_loop (m0 := m1) (A := A) (k := k) (by omega) k0 (A 1 - 1 - k).toNat 2000 k (mset m1 150 1 (A 1 - 1)) (Int.le_refl k) (by omega) (by omega) (fun q => by
    rw [mset_c, hA1]
    unfold dI
    by_cases c : q = 1
    · rw [if_pos c, if_pos c]
    · rw [if_neg c, if_neg c, if_neg (by omega)]) (fun c q hc => by rw [mset_if, if_neg (by omega)])
  unfold Mo_drop
  rw [Mo_isPlace_eq hx (by rw [hA]; exact r32_of (by omega)), hA, ob_some, if_pos hp, s32_1, if_1, S, ob_some, s32_id (a := k) (by omega) (by omega), if_pos k0, e1, ob_some, q1, lt_id, e']
  refine ⟨m', rfl, c1, by rw [c2 _ _ (by decide)]; exact a1, fun j i j0 j1 i0 i1 => ?_, fun c i hc => by rw [c2 c i (by omega), f1 c i (by omega) (by omega)]⟩
  have := b1' j i j0 j1 i0 i1
  unfold mH at this ⊢
  rw [c2 _ _ (by decide)]
  exact this
theorem ok_drop (a : Int) (ha : r32 a) : OkM (BP_drop a) (Mo_drop a) s32 := by
  intro mem R
  have R0 := R
  obtain ⟨⟨v, rb⟩, -⟩ := R0
  have l10 := v.1
  have n4 := v.2.1
  unfold BP_drop
  rcases whyAt_eq v rb ha with ⟨k, k0, k1, k2, k3, k4⟩ | ⟨k2, k3, k4⟩
  · obtain ⟨m2, e2, C, b2, f2⟩ := keepR R
    obtain ⟨mc, ec, bc, fc⟩ := takeSupport_eq v b2 k0 k1
    have N : Beam_numberAt 1 a m2 = some k := by
      rcases numberAt_eq v b2 ha with ⟨j, j0, j1, j2, j3⟩ | ⟨j2, j3⟩
      · rw [at_unique v k0 k1 j0 j1 (by rw [k2, j2])]; exact j3
      · exact absurd k2 (j2 k k0 k1)
    have hA : mc 150 = mem 150 := by funext i; rw [fc 150 i (by omega), f2 150 i (by omega)]
    have h4 : mc 149 4 = mem 149 4 := by rw [fc _ _ (by omega), f2 _ _ (by omega)]
    have S : ∀ m : Mem, m 150 = mem 150 → Mo_supportAt a m = some k := by
      intro m hm
      rcases supportAt_eq v hm ha with ⟨j, j0, j1, j2, j3⟩ | ⟨j2, j3⟩
      · rw [at_unique v k0 k1 j0 j1 (by rw [k2, j2])]; exact j3
      · exact absurd k2 (j2 k k0 k1)
    have pl : 0 ≤ a ∧ a ≤ mem 150 0 := by
      have z := v.2.2.2.2.1 k k0 k1
      have k2' := k2
      unfold aT at k2'
      omega
    obtain ⟨mm, em, a1, a2, a3, a4⟩ := moDrop_eq (m := mc) v hA h4 (Rel_hist R).1 ha k0 k1 k2 pl (S mc hA)
    refine ⟨mem 150 1 - 1, mc, mem 150 1 - 1, mm, ?_, em, rfl, ?_⟩
    · rw [k4, ob_some, s32_0, if_0', e2, ob_some, N, ob_some, ec, bdI_some]
    · exact Rel_both R C f2 (fun c i hc => fc c i (by omega)) (by rw [a1]; exact bc) (by rw [a1]; exact VA_dr v k0 k1) a2 a3 a4
  · rw [k4, ob_some]
    have S : Mo_supportAt a mem = some (-1) := by
      rcases supportAt_eq v (m := mem) rfl ha with ⟨j, j0, j1, j2, j3⟩ | ⟨j2, j3⟩
      · exact absurd j2 (k2 j j0 j1)
      · exact j3
    by_cases h1 : 0 ≤ a ∧ a ≤ mem 150 0
    · rw [if_pos h1, s32_id (a := -6) (by decide) (by decide), if_neg (by decide)]
      refine ⟨-6, mem, -6, mem, rfl, ?_, rfl, R⟩
      unfold Mo_drop
      rw [Mo_isPlace_eq ha (r32_of (by omega)), ob_some, if_pos h1, s32_1, if_1, S, ob_some, s32_id (a := -1) (by decide) (by decide), if_neg (by decide)]
    · rw [if_neg h1, s32_id (a := -1) (by decide) (by decide), if_neg (by decide)]
      refine ⟨-1, mem, -1, mem, rfl, ?_, rfl, R⟩
      unfold Mo_drop
      rw [Mo_isPlace_eq ha (r32_of (by omega)), ob_some, if_neg h1, s32_0, if_0]
