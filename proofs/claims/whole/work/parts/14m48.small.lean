/-! beam, hinge, count, feed, list, set -/
def zA (A : Int → Int) (n : Int) : Int → Int := fun i => if i = 0 then n else if 0 ≤ i ∧ i < 36 then 0 else A i
theorem VA_z (A : Int → Int) {n : Int} (h : 2 ≤ n ∧ n ≤ 10) : VA (zA A n) := by
  have s : ∀ i, 1 ≤ i → i < 36 → zA A n i = 0 := fun i i0 i1 => by unfold zA; rw [if_neg (by omega), if_pos ⟨by omega, i1⟩]
  have s0 : zA A n 0 = n := if_pos rfl
  refine ⟨by rw [s0]; exact h, by rw [s 1 (by omega) (by omega)]; omega, by rw [s 10 (by omega) (by omega)]; omega, by rw [s 29 (by omega) (by omega)]; omega, fun k k0 k1 => ?_, fun k k0 k1 => ?_, fun k k0 k1 => ?_, fun k k0 k1 => ?_⟩
  · rw [s 1 (by omega) (by omega)] at k1; omega
  · rw [s 1 (by omega) (by omega)] at k1; omega
  · rw [s 10 (by omega) (by omega)] at k1; omega
  · rw [s 29 (by omega) (by omega)] at k1; omega
theorem clear_eq {m : Mem} {a : Nat} (A : Int → Int) (n : Int) : ∃ m', Beam_clear a n m = some m' ∧ RB m' a (zA A n) ∧ (∀ c i, ¬ c = a → m' c i = m c i) := by
  have s : ∀ i, 1 ≤ i → i < 36 → zA A n i = 0 := fun i i0 i1 => by unfold zA; rw [if_neg (by omega), if_pos ⟨by omega, i1⟩]
  have s0 : zA A n 0 = n := if_pos rfl
  unfold Beam_clear
  simp only [lt_id]
  refine ⟨_, rfl, ⟨?_, ?_, ?_, ?_, fun k k0 k1 => ?_, fun k k0 k1 => ?_, fun k k0 k1 => ?_⟩, fun c i hc => by rw [mset_if, if_neg (by omega), mset_if, if_neg (by omega), mset_if, if_neg (by omega), mset_if, if_neg (by omega)]⟩
  · rw [s0]; simp [mset]
  · rw [s 1 (by omega) (by omega)]; simp [mset]
  · rw [s 10 (by omega) (by omega)]; simp [mset]
  · rw [s 29 (by omega) (by omega)]; simp [mset]
  · rw [s 1 (by omega) (by omega)] at k1; omega
  · rw [s 10 (by omega) (by omega)] at k1; omega
  · rw [s 29 (by omega) (by omega)] at k1; omega
theorem moBeam_eq {m : Mem} {n : Int} (h : 2 ≤ n ∧ n ≤ 10) : ∃ m', Mo_beam n m = some (m 150 0, m') ∧ m' 150 = zA (m 150) n ∧ m' 149 4 = 0 ∧ (∀ c i, ¬ (c = 150 ∨ (c = 149 ∧ i = 4)) → m' c i = m c i) := by
  unfold Mo_beam
  rw [s32_id (a := n) (by omega) (by omega), Mo_in_eq (by omega) (by omega) (by omega), ob_some, if_pos h, s32_1, if_1, lt_id, jn_id]
  have key : ∀ K : Mem → Option (Int × Mem), ∃ m3, Mo_beam_L25 K 2000 0 m = K m3 ∧ (∀ k, 0 ≤ k → k < 36 → m3 150 k = 0) ∧ (∀ k, ¬ (0 ≤ k ∧ k < 36) → m3 150 k = m 150 k) ∧ (∀ c k, ¬ c = 150 → m3 c k = m c k) := by
    intro K
    exact loopM (fun k i m => Mo_beam_L25 K k i m) 36 (fun i m' => (∀ k, 0 ≤ k → k < i → m' 150 k = 0) ∧ (∀ k, ¬ (0 ≤ k ∧ k < i) → m' 150 k = m 150 k) ∧ (∀ c k, ¬ c = 150 → m' c k = m c k)) K 0
      (fun k m' _ => by
        show Mo_beam_L25 K (k + 1) 36 m' = K m'
        rw [Mo_beam_L25, if_pos (Int.le_refl _)])
      (fun k i m' g0 g1 I => by
        show ∃ m'', Mo_beam_L25 K (k + 1) i m' = Mo_beam_L25 K k (i + 1) m'' ∧ _
        obtain ⟨I1, I2, I3⟩ := I
        rw [Mo_beam_L25, s32_id (a := 36) (by decide) (by decide), s32_id (a := i) (by omega) (by omega), if_neg (by omega), ck_id g0 (by omega) (by omega), lt_id]
        refine ⟨_, rfl, fun q q0 q1 => ?_, fun q hq => ?_, fun c q hc => ?_⟩
        · rw [mset_c]
          by_cases c : q = i
          · rw [if_pos c]
          · rw [if_neg c]; exact I1 q q0 (by omega)
        · rw [mset_c, if_neg (by omega)]; exact I2 q (by omega)
        · rw [mset_if, if_neg (fun z => hc z.1)]; exact I3 c q hc)
      36 2000 0 m (by omega) (by omega) (by omega) ⟨fun q q0 q1 => by omega, fun _ _ => rfl, fun _ _ _ => rfl⟩
  obtain ⟨m3, e3', a1, a2, a3⟩ := key (fun m3 => lt (mset m3 150 0 n) (fun m4 => lt (mset m4 149 4 0) (fun m5 => some (m 150 0, m5))))
  rw [e3', lt_id, lt_id]
  refine ⟨_, rfl, ?_, mset_here _ _ _ _, fun c i hc => by rw [mset_if, if_neg (by omega), mset_if, if_neg (by omega)]; exact a3 c i (by omega)⟩
  funext i
  rw [mset_if, if_neg (by omega), mset_c]
  unfold zA
  by_cases c : i = 0
  · rw [if_pos c, if_pos c]
  · rw [if_neg c, if_neg c]
    by_cases d : 0 ≤ i ∧ i < 36
    · rw [if_pos d]; exact a1 i d.1 d.2
    · rw [if_neg d]; exact a2 i d
theorem whyNotLength_eq {a : Nat} {n : Int} (hn : r32 n) (m : Mem) : Beam_whyNotLength a n m = some (if 2 ≤ n ∧ n ≤ 10 then 0 else -1) := by
  obtain ⟨h1, h2⟩ := hn
  unfold Beam_whyNotLength
  rw [s32_id h1 h2, s32_id (a := 2) (by decide) (by decide), s32_id (a := 10) (by decide) (by decide)]
  by_cases c : n < 2
  · rw [if_pos c, if_neg (by omega)]
  · rw [if_neg c]
    by_cases d : n ≤ 10
    · rw [if_pos d, if_pos (by omega)]
    · rw [if_neg d, if_neg (by omega)]
theorem ok_beam (a : Int) (ha : r32 a) : OkM (BP_beam a) (Mo_beam a) s32 := by
  intro mem R
  have R0 := R
  obtain ⟨⟨v, rb⟩, hist, -⟩ := R0
  unfold BP_beam
  rw [whyNotLength_eq ha, ob_some]
  by_cases h : 2 ≤ a ∧ a ≤ 10
  · rw [if_pos h, s32_0, if_0', lt_id]
    obtain ⟨m3, e3, b3, f3⟩ := clear_eq (m := mem) (a := 1) (mem 150) a
    rw [e3, ob_some]
    unfold Chg_forget
    rw [lt_id, ob_some]
    have h150 : mset m3 10 0 0 150 = mem 150 := by funext i; rw [mset_if, if_neg (by omega), f3 150 i (by omega)]
    obtain ⟨m5, e5, c1, c2, c3⟩ := moBeam_eq (m := mset m3 10 0 0) h
    rw [h150] at e5 c1
    refine ⟨mem 1 0, mset m3 10 0 0, mem 150 0, m5, rfl, e5, by rw [rb.1], ?_⟩
    have rB : RB m5 1 (zA (mem 150) a) := RB_frame b3 (fun c i _ _ => by rw [c3 c i (by omega), mset_if, if_neg (by omega)])
    exact Rel_new R (by rw [c1]; exact VA_z _ h) (by rw [c1]; exact rB) (by rw [c2]; have := hist.1; omega) (by rw [c2, c3 10 0 (by omega), mset_here]) (by rw [c3 10 1 (by omega), mset_if, if_neg (by omega), f3 10 1 (by omega)]; exact hist.2.2.1) (Or.inr c2) (fun c i hc => by rw [c3 c i (by omega), mset_if, if_neg (by omega), f3 c i (by omega)])
  · rw [if_neg h, s32_id (a := -1) (by decide) (by decide), if_neg (by decide)]
    refine ⟨_, mem, _, mem, rfl, ?_, rfl, R⟩
    unfold Mo_beam
    obtain ⟨ha1, ha2⟩ := ha
    rw [s32_id (a := a) (by omega) (by omega), Mo_in_eq (by omega) (by omega) (by omega), ob_some, if_neg h, s32_0, if_0]
def tgF (x y : Int) : Int := if x = y then 1 else y - x
theorem ok_count (a : Int) (ha : r32 a) : OkP (BP_count a) (Mo_count a) s32 := by
  intro mem R
  obtain ⟨⟨v, rb⟩, hist, -, tp, pp, -⟩ := R
  have v3 := v.2.2.1
  obtain ⟨ha1, ha2⟩ := ha
  unfold BP_count Mo_count
  rw [s32_id (a := a) (by omega) (by omega)]
  by_cases c0 : a = 0
  · rw [if_pos c0, if_pos c0]; exact ⟨_, _, rfl, rfl, by rw [rb.1]⟩
  rw [if_neg c0, if_neg c0]
  by_cases c1 : a = 1
  · rw [if_pos c1, if_pos c1]; exact ⟨_, _, rfl, rfl, by rw [rb.2.1]⟩
  rw [if_neg c1, if_neg c1]
  by_cases c2 : a = 2
  · rw [if_pos c2, if_pos c2]; exact ⟨_, _, rfl, rfl, by rw [rb.2.2.1]⟩
  rw [if_neg c2, if_neg c2]
  by_cases c3 : a = 3
  · rw [if_pos c3, if_pos c3]; exact ⟨_, _, rfl, rfl, by rw [rb.2.2.2.1]⟩
  rw [if_neg c3, if_neg c3]
  by_cases c4 : a = 4
  · rw [if_pos c4, if_pos c4]; exact ⟨_, _, rfl, rfl, by rw [hist.2.1]⟩
  rw [if_neg c4, if_neg c4]
  by_cases c5 : a = 5
  · rw [if_pos c5, if_pos c5]; exact ⟨_, _, rfl, rfl, by rw [tp.2.1]⟩
  rw [if_neg c5, if_neg c5]
  by_cases c6 : a = 6
  · rw [if_pos c6, if_pos c6]; exact ⟨_, _, rfl, rfl, by rw [pp.2.1]⟩
  rw [if_neg c6, if_neg c6]
  by_cases c7 : a = 7
  · rw [if_pos c7, if_pos c7]
    have cl : Beam_together 1 mem = some (ZS (mem 150) tgF) := by
      unfold Beam_together
      rw [lsumLoop v (fun n s i => Beam_together_L4 1 mem n s i) tgF some
        (fun n s => by
          show Beam_together_L4 1 mem (n + 1) s (mem 150 10) = some s
          rw [Beam_together_L4, rb.2.2.1, if_pos (Int.le_refl _)])
        (fun n s i h0 h1 => by
          show Beam_together_L4 1 mem (n + 1) s i = Beam_together_L4 1 mem n (s + _) (i + 1)
          obtain ⟨b1, b2, b3, b4, b5, b6⟩ := load_b v h0 h1
          have w := rb.2.2.2.2.2.1 i h0 h1
          simp only [Nat.reduceAdd] at w
          rw [Beam_together_L4, rb.2.2.1, s32_id (a := mem 150 10) (by omega) (by omega), s32_id (a := i) (by omega) (by omega), if_neg (by omega), ck_id h0 (by omega) (by omega), jn_id]
          simp only [Nat.reduceAdd]
          rw [w.1, w.2.1, w.2.2.1, w.2.2.2, s32_1]
          unfold tgF
          by_cases c : mem 150 (11 + i) = mem 150 (17 + i)
          · rw [if_pos c, s32_1, if_neg (by decide), ck_id h0 (by omega) (by omega), lt_id, if_pos c, Int.mul_one]
          · rw [if_neg c, s32_0, if_pos (by decide), ck_id h0 (by omega) (by omega), ck_id h0 (by omega) (by omega), ck_id h0 (by omega) (by omega), lt_id, if_neg c])
        0, Int.zero_add]
    have mo : Mo_allLoads mem = some (ZS (mem 150) tgF) := by
      unfold Mo_allLoads
      rw [lsumLoop v (fun n s i => Mo_allLoads_L4 mem n s i) tgF some
        (fun n s => by
          show Mo_allLoads_L4 mem (n + 1) s (mem 150 10) = some s
          rw [Mo_allLoads_L4, if_pos (Int.le_refl _)])
        (fun n s i h0 h1 => by
          show Mo_allLoads_L4 mem (n + 1) s i = Mo_allLoads_L4 mem n (s + _) (i + 1)
          obtain ⟨b1, b2, b3, b4, b5, b6⟩ := load_b v h0 h1
          rw [Mo_allLoads_L4, s32_id (a := mem 150 10) (by omega) (by omega), s32_id (a := i) (by omega) (by omega), if_neg (by omega), ck_id (by omega) (by omega) (by omega), ck_id (by omega) (by omega) (by omega), s32_id (a := 17 + i) (by omega) (by omega), s32_id (a := 11 + i) (by omega) (by omega), lt_id, ck_id (by omega) (by omega) (by omega), s32_id (a := 23 + i) (by omega) (by omega), jn_id, s32_id (a := mem 150 (17 + i) - mem 150 (11 + i)) (by omega) (by omega)]
          unfold tgF
          by_cases c : mem 150 (11 + i) = mem 150 (17 + i)
          · rw [if_neg (by omega), if_pos c]; rfl
          · rw [if_pos (by omega), if_neg c]; rfl)
        0, Int.zero_add]
    rw [cl, mo]
    exact ⟨_, _, rfl, rfl, rfl⟩
  rw [if_neg c7, if_neg c7]
  exact ⟨_, _, rfl, rfl, rfl⟩
