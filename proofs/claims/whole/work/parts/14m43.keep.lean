/-! changes kept ahead -/
theorem become_eq {mem : Mem} {a b : Nat} {A : Int → Int} (h : RB mem b A) (hab : a + 8 < b ∨ b + 8 < a) (v1 : A 1 ≤ 4) (v10 : A 10 ≤ 6) (v29 : A 29 ≤ 3) : ∃ m, Beam_become a b mem = some m ∧ RB m a A ∧ (∀ c i, ¬ (a ≤ c ∧ c ≤ a + 8) → m c i = mem c i) := by
  obtain ⟨h1, h2, h3, h4, h5, h6, h7⟩ := h
  unfold Beam_become
  simp only [lt_id]
  refine ⟨_, rfl, ⟨?_, ?_, ?_, ?_, fun k k0 k1 => ⟨?_, ?_⟩, fun k k0 k1 => ⟨?_, ?_, ?_, ?_⟩, fun k k0 k1 => ⟨?_, ?_⟩⟩, fun c i hc => ?_⟩
  · simp only [mset, mcpy]; rw [← h1]; simp (disch := omega) [show ¬ b = a by omega]
  · simp only [mset, mcpy]; rw [← h2]; simp (disch := omega) [show ¬ b = a by omega]
  · simp only [mset, mcpy]; rw [← h3]; simp (disch := omega) [show ¬ b = a by omega]
  · simp only [mset, mcpy]; rw [← h4]; simp (disch := omega) [show ¬ b = a by omega]
  · rw [← (h5 k k0 k1).1]
    simp only [mset, mcpy]
    simp [show ¬ b + 1 = a by omega, k0, show k < 4 by omega]
  · rw [← (h5 k k0 k1).2]
    simp only [mset, mcpy]
    simp [show ¬ b + 2 = a by omega, show ¬ b + 2 = a + 1 by omega, k0, show k < 4 by omega]
  · rw [← (h6 k k0 k1).1]
    simp only [mset, mcpy]
    simp [show ¬ b + 3 = a by omega, show ¬ b + 3 = a + 1 by omega, show ¬ b + 3 = a + 2 by omega, k0, show k < 6 by omega]
  · rw [← (h6 k k0 k1).2.1]
    simp only [mset, mcpy]
    simp [show ¬ b + 4 = a by omega, show ¬ b + 4 = a + 1 by omega, show ¬ b + 4 = a + 2 by omega, show ¬ b + 4 = a + 3 by omega, k0, show k < 6 by omega]
  · rw [← (h6 k k0 k1).2.2.1]
    simp only [mset, mcpy]
    simp [show ¬ b + 5 = a by omega, show ¬ b + 5 = a + 1 by omega, show ¬ b + 5 = a + 2 by omega, show ¬ b + 5 = a + 3 by omega, show ¬ b + 5 = a + 4 by omega, k0, show k < 6 by omega]
  · rw [← (h6 k k0 k1).2.2.2]
    simp only [mset, mcpy]
    simp [show ¬ b + 6 = a by omega, show ¬ b + 6 = a + 1 by omega, show ¬ b + 6 = a + 2 by omega, show ¬ b + 6 = a + 3 by omega, show ¬ b + 6 = a + 4 by omega, show ¬ b + 6 = a + 5 by omega, k0, show k < 6 by omega]
  · rw [← (h7 k k0 k1).1]
    simp only [mset, mcpy]
    simp [show ¬ b + 7 = a by omega, show ¬ b + 7 = a + 1 by omega, show ¬ b + 7 = a + 2 by omega, show ¬ b + 7 = a + 3 by omega, show ¬ b + 7 = a + 4 by omega, show ¬ b + 7 = a + 5 by omega, show ¬ b + 7 = a + 6 by omega, k0, show k < 3 by omega]
  · rw [← (h7 k k0 k1).2]
    simp only [mset, mcpy]
    simp [show ¬ b + 8 = a by omega, show ¬ b + 8 = a + 1 by omega, show ¬ b + 8 = a + 2 by omega, show ¬ b + 8 = a + 3 by omega, show ¬ b + 8 = a + 4 by omega, show ¬ b + 8 = a + 5 by omega, show ¬ b + 8 = a + 6 by omega, show ¬ b + 8 = a + 7 by omega, k0, show k < 3 by omega]
  · simp only [mset, mcpy]
    rw [if_neg (by omega), if_neg (by omega), if_neg (by omega), if_neg (by omega), if_neg (by omega), if_neg (by omega), if_neg (by omega), if_neg (by omega), if_neg (by omega), if_neg (by omega), if_neg (by omega), if_neg (by omega)]
def CHist (mem : Mem) (h : Int) (H : Int → Int → Int) : Prop := mem 10 0 = h ∧ (0 ≤ mem 10 1 ∧ mem 10 1 ≤ 9) ∧ (∀ k, 0 ≤ k → k < h → RB mem (ring (mem 10 1) h k) (H k))
def kH (A : Int → Int) (h : Int) (H : Int → Int → Int) : Int → Int → Int := fun k => if h = 10 then (if k = 9 then A else H (k + 1)) else (if k = h then A else H k)
def kh (h : Int) : Int := if h = 10 then 10 else h + 1
theorem emod10 {x y q : Int} (h : x = y + 10 * q) : x % 10 = y % 10 := by rw [h]; omega
theorem keep_eq {mem : Mem} {A : Int → Int} {h : Int} {H : Int → Int → Int} (v : VA A) (hb : RB mem 1 A) (hh : 0 ≤ h ∧ h ≤ 10) (C : CHist mem h H) : ∃ m, Chg_keep mem = some m ∧ CHist m (kh h) (kH A h H) ∧ (∀ c i, ¬ (10 ≤ c ∧ c ≤ 101) → m c i = mem c i) := by
  obtain ⟨c1, ⟨c2, c2'⟩, c3⟩ := C
  have n4 := v.2.1
  have v3 := v.2.2.1
  have v4 := v.2.2.2.1
  have e9 : s32 9 = 9 := s32_id (by decide) (by decide)
  have e10 : s32 10 = 10 := s32_id (by decide) (by decide)
  obtain ⟨j, hj⟩ : ∃ j : Nat, j = (mem 10 1).toNat := ⟨_, rfl⟩
  unfold Chg_keep
  rw [ck_id c2 (by omega) (by omega), s32_id (a := mem 10 1) (by omega) (by omega), lt_id, ← hj]
  obtain ⟨m2, e2, b2, f2⟩ := become_eq (a := 12 + 9 * j) hb (Or.inr (by omega)) n4.2 v3.2 v4.2
  have k0 : m2 10 0 = h := by rw [f2 _ _ (by omega)]; exact c1
  have k1 : m2 10 1 = mem 10 1 := f2 _ _ (by omega)
  rw [e2, ob_some, jn_id, k1, s32_id (a := mem 10 1) (by omega) (by omega), e9, e10]
  have fin : ∀ x3 : Int, (0 ≤ x3 ∧ x3 ≤ 9 ∧ (x3 = mem 10 1 + 1 ∨ (mem 10 1 = 9 ∧ x3 = 0))) → ∃ m, lt (mset m2 10 1 x3) (fun m4 => lt (mset m4 10 0 (if 10 < s32 (m4 10 0 + 1) then 10 else m4 10 0 + 1)) (fun m5 => some m5)) = some m ∧ CHist m (kh h) (kH A h H) ∧ (∀ c i, ¬ (10 ≤ c ∧ c ≤ 101) → m c i = mem c i) := by
    intro x3 hx
    simp only [lt_id]
    have r0 : mset m2 10 1 x3 10 0 = h := by rw [mset_if, if_neg (by omega)]; exact k0
    rw [r0, s32_id (a := h + 1) (by omega) (by omega)]
    refine ⟨_, rfl, ⟨?_, ?_, fun k q0 q1 => ?_⟩, fun c i hc => by rw [mset_if, if_neg (by omega), mset_if, if_neg (by omega), f2 c i (by omega)]⟩
    · rw [mset_here]
      unfold kh
      by_cases c : h = 10
      · rw [if_pos c, if_pos (by omega)]
      · rw [if_neg c, if_neg (by omega)]
    · rw [mset_if, if_neg (by omega), mset_here]; omega
    · have rx : mset (mset m2 10 1 x3) 10 0 (if 10 < h + 1 then 10 else h + 1) 10 1 = x3 := by rw [mset_if, if_neg (by omega), mset_here]
      rw [rx]
      refine RB_frame (mem := m2) ?_ (fun c i x0 x1 => by
        have := ring_le (n := x3) (h := kh h) (k := k)
        rw [mset_if, if_neg (by omega), mset_if, if_neg (by omega)])
      have cases : (ring x3 (kh h) k = 12 + 9 * j ∧ kH A h H k = A) ∨ (∃ q, 0 ≤ q ∧ q < h ∧ ring x3 (kh h) k = ring (mem 10 1) h q ∧ kH A h H k = H q ∧ ((mem 10 1 - h + q) % 10).toNat ≠ j) := by
        unfold kh kH ring
        unfold kh at q1
        by_cases c : h = 10
        · rw [if_pos c] at q1
          rw [if_pos c, if_pos c]
          by_cases d : k = 9
          · refine Or.inl ⟨?_, if_pos d⟩
            have : (x3 - 10 + k) % 10 = mem 10 1 := by omega
            rw [this, ← hj]
          · refine Or.inr ⟨k + 1, by omega, by omega, ?_, if_neg d, ?_⟩
            · have : (x3 - 10 + k) % 10 = (mem 10 1 - h + (k + 1)) % 10 := by omega
              rw [this]
            · omega
        · rw [if_neg c] at q1
          rw [if_neg c, if_neg c]
          by_cases d : k = h
          · refine Or.inl ⟨?_, if_pos d⟩
            have : (x3 - (h + 1) + k) % 10 = mem 10 1 := by omega
            rw [this, ← hj]
          · refine Or.inr ⟨k, by omega, by omega, ?_, if_neg d, ?_⟩
            · have : (x3 - (h + 1) + k) % 10 = (mem 10 1 - h + k) % 10 := by omega
              rw [this]
            · omega
      rcases cases with ⟨z1, z2⟩ | ⟨q, q2, q3, z1, z2, z3⟩
      · rw [z1, z2]; exact b2
      · rw [z1, z2]
        refine RB_frame (c3 q q2 q3) (fun c i x0 x1 => f2 c i ?_)
        unfold ring at x0 x1
        omega
  by_cases c : mem 10 1 = 9
  · rw [if_neg (fun z => z c)]
    exact fin 0 (by omega)
  · rw [if_pos c]
    exact fin (mem 10 1 + 1) (by omega)
/-- the model's history -/
theorem chg_copy {K : Mem → Option Mem} {m : Mem} {h : Int} (hh : m 149 4 = h) (h0 : 0 ≤ h ∧ h ≤ 9) : ∃ m', Mo_changes_L51 K 2000 0 m = K m' ∧ (∀ i, 0 ≤ i → i < 36 → m' 152 (36 * h + i) = m 150 i) ∧ (∀ i, ¬ (36 * h ≤ i ∧ i < 36 * h + 36) → m' 152 i = m 152 i) ∧ (∀ c i, ¬ c = 152 → m' c i = m c i) := by
  obtain ⟨m', e, h1, h2, h3⟩ := loopM (fun n i m => Mo_changes_L51 K n i m) 36 (fun i m' => (∀ k, 0 ≤ k → k < i → m' 152 (36 * h + k) = m 150 k) ∧ (∀ k, ¬ (36 * h ≤ k ∧ k < 36 * h + 36) → m' 152 k = m 152 k) ∧ (∀ c k, ¬ c = 152 → m' c k = m c k)) K 0
    (fun n m' _ => by
      show Mo_changes_L51 K (n + 1) 36 m' = K m'
      rw [Mo_changes_L51, if_pos (Int.le_refl _)])
    (fun n i m' g0 g1 I => by
      show ∃ m'', Mo_changes_L51 K (n + 1) i m' = Mo_changes_L51 K n (i + 1) m'' ∧ _
      obtain ⟨I1, I2, I3⟩ := I
      have hh' : m' 149 4 = h := by rw [I3 _ _ (by decide)]; exact hh
      rw [Mo_changes_L51, s32_id (a := 36) (by decide) (by decide), s32_id (a := i) (by omega) (by omega), if_neg (by omega), ck_id g0 (by omega) (by omega), hh', ck_id (by omega) (by omega) (by omega), lt_id, s32_id (a := h * 36 + i) (by omega) (by omega), I3 150 i (by decide)]
      refine ⟨_, rfl, fun k q0 q1 => ?_, fun k hk => ?_, fun c k hc => ?_⟩
      · rw [mset_c]
        by_cases c : k = i
        · rw [if_pos (by omega), c]
        · rw [if_neg (by omega)]; exact I1 k q0 (by omega)
      · rw [mset_c, if_neg (by omega)]; exact I2 k hk
      · rw [mset_if, if_neg (fun z => hc z.1)]; exact I3 c k hc)
    36 2000 0 m (by omega) (by omega) (by omega) ⟨fun k q0 q1 => by omega, fun _ _ => rfl, fun _ _ _ => rfl⟩
  exact ⟨m', e, h1, h2, h3⟩
theorem chg_shift {K : Mem → Option Mem} {m : Mem} : ∃ m', Mo_changes_L11 K 2000 0 m = K m' ∧ (∀ i, 0 ≤ i → i < 324 → m' 152 i = m 152 (i + 36)) ∧ (∀ c i, ¬ c = 152 → m' c i = m c i) := by
  obtain ⟨m', e, h1, h2, h3⟩ := loopM (fun n i m => Mo_changes_L11 K n i m) 324 (fun i m' => (∀ k, 0 ≤ k → k < i → m' 152 k = m 152 (k + 36)) ∧ (∀ k, i ≤ k → m' 152 k = m 152 k) ∧ (∀ c k, ¬ c = 152 → m' c k = m c k)) K 0
    (fun n m' _ => by
      show Mo_changes_L11 K (n + 1) 324 m' = K m'
      rw [Mo_changes_L11, if_pos (Int.le_refl _)])
    (fun n i m' g0 g1 I => by
      show ∃ m'', Mo_changes_L11 K (n + 1) i m' = Mo_changes_L11 K n (i + 1) m'' ∧ _
      obtain ⟨I1, I2, I3⟩ := I
      rw [Mo_changes_L11, s32_id (a := 324) (by decide) (by decide), s32_id (a := i) (by omega) (by omega), if_neg (by omega), ck_id (by omega) (by omega) (by omega), ck_id g0 (by omega) (by omega), lt_id, s32_id (a := i + 36) (by omega) (by omega), I2 (i + 36) (by omega)]
      refine ⟨_, rfl, fun k q0 q1 => ?_, fun k hk => ?_, fun c k hc => ?_⟩
      · rw [mset_c]
        by_cases c : k = i
        · rw [if_pos c, c]
        · rw [if_neg c]; exact I1 k q0 (by omega)
      · rw [mset_c, if_neg (by omega)]; exact I2 k (by omega)
      · rw [mset_if, if_neg (fun z => hc z.1)]; exact I3 c k hc)
    324 2000 0 m (by omega) (by omega) (by omega) ⟨fun k q0 q1 => by omega, fun _ _ => rfl, fun _ _ _ => rfl⟩
  exact ⟨m', e, h1, h3⟩
def mH (m : Mem) : Int → Int → Int := fun k i => m 152 (36 * k + i)
theorem changes_eq {m : Mem} {h : Int} (hh : m 149 4 = h) (h0 : 0 ≤ h ∧ h ≤ 10) : ∃ m', Mo_changes m = some m' ∧ m' 149 4 = kh h ∧ (∀ k i, 0 ≤ k → k < kh h → 0 ≤ i → i < 36 → mH m' k i = kH (m 150) h (mH m) k i) ∧ (∀ c i, ¬ c = 152 → ¬ (c = 149 ∧ i = 4) → m' c i = m c i) := by
  have e10 : s32 10 = 10 := s32_id (by decide) (by decide)
  unfold Mo_changes
  rw [jn_id, hh, s32_id (a := h) (by omega) (by omega), e10]
  by_cases c : h = 10
  · rw [if_neg (fun z => z c), jn_id]
    obtain ⟨m7, e7, a7, f7⟩ := chg_shift (m := m) (K := fun m7 => lt (mset m7 149 4 ((m7 149 4) - 1)) (fun m8 => jn (fun (m2 : Mem) => lt (mset m2 149 4 ((m2 149 4) + 1)) (fun m3 => some m3)) (fun (k83 : Mem → Option Mem) => (Mo_changes_L51 k83 2000 0 m8))))
    rw [e7, lt_id, f7 149 4 (by decide), hh, jn_id]
    obtain ⟨m2, e2, a2, b2, f2⟩ := chg_copy (m := mset m7 149 4 (h - 1)) (K := fun m2 => lt (mset m2 149 4 ((m2 149 4) + 1)) (fun m3 => some m3)) (h := 9) (by rw [mset_here]; omega) (by omega)
    rw [e2, lt_id, f2 149 4 (by decide), mset_here]
    refine ⟨_, rfl, by rw [mset_here]; unfold kh; rw [if_pos c]; omega, fun k i q0 q1 i0 i1 => ?_, fun c' i x1 x2 => by rw [mset_if, if_neg x2, f2 c' i x1, mset_if, if_neg x2, f7 c' i x1]⟩
    unfold kh at q1
    rw [if_pos c] at q1
    unfold mH kH
    rw [mset_if, if_neg (by omega), if_pos c]
    by_cases d : k = 9
    · rw [if_pos d, d, a2 i i0 i1, mset_if, if_neg (by omega), f7 _ _ (by decide)]
    · rw [if_neg d, b2 _ (by omega), mset_if, if_neg (by omega), a7 _ (by omega) (by omega), show 36 * k + i + 36 = 36 * (k + 1) + i by omega]
  · rw [if_pos c]
    dsimp only
    rw [jn_id]
    obtain ⟨m2, e2, a2, b2, f2⟩ := chg_copy (m := m) (K := fun m2 => lt (mset m2 149 4 ((m2 149 4) + 1)) (fun m3 => some m3)) hh (by omega)
    rw [e2, lt_id, f2 149 4 (by decide), hh]
    refine ⟨_, rfl, by rw [mset_here]; unfold kh; rw [if_neg c], fun k i q0 q1 i0 i1 => ?_, fun c' i x1 x2 => by rw [mset_if, if_neg x2, f2 c' i x1]⟩
    unfold kh at q1
    rw [if_neg c] at q1
    unfold mH kH
    rw [mset_if, if_neg (by omega), if_neg c]
    by_cases d : k = h
    · rw [if_pos d, d, a2 i i0 i1]
    · rw [if_neg d, b2 _ (by omega)]
