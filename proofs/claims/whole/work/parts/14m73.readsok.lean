/-! reads -/
theorem save_loop {K : Mem → Option (Int × Mem)} (m : Mem) : ∃ m', Mo_reads_L7 K 2000 0 m = K m' ∧ (∀ i, 0 ≤ i → i < 360 → m' 166 i = m 152 i) ∧ (∀ c i, ¬ c = 166 → m' c i = m c i) := by
  exact loopM (fun n i m => Mo_reads_L7 K n i m) 360 (fun i m' => (∀ k, 0 ≤ k → k < i → m' 166 k = m 152 k) ∧ (∀ c k, ¬ c = 166 → m' c k = m c k)) K 0
    (fun n m' _ => by
      show Mo_reads_L7 K (n + 1) 360 m' = K m'
      rw [Mo_reads_L7, if_pos (Int.le_refl _)])
    (fun n i m' g0 g1 I => by
      show ∃ m'', Mo_reads_L7 K (n + 1) i m' = Mo_reads_L7 K n (i + 1) m'' ∧ _
      obtain ⟨I1, I3⟩ := I
      rw [Mo_reads_L7, s32_id (a := 360) (by decide) (by decide), s32_id (a := i) (by omega) (by omega), if_neg (by omega), ck_id g0 (by omega) (by omega), ck_id g0 (by omega) (by omega), lt_id, I3 152 i (by decide)]
      refine ⟨_, rfl, fun k q0 q1 => ?_, fun c k hc => ?_⟩
      · rw [mset_c]
        by_cases c : k = i
        · rw [if_pos c, c]
        · rw [if_neg c]; exact I1 k q0 (by omega)
      · rw [mset_if, if_neg (fun z => hc z.1)]; exact I3 c k hc)
    360 2000 0 m (by omega) (by omega) (by omega) ⟨fun k q0 q1 => by omega, fun _ _ _ => rfl⟩
theorem back_loop {K : Mem → Option (Int × Mem)} (m : Mem) : ∃ m', Mo_reads_L75 K 2000 0 m = K m' ∧ (∀ i, 0 ≤ i → i < 360 → m' 152 i = m 166 i) ∧ (∀ c i, ¬ c = 152 → m' c i = m c i) := by
  exact loopM (fun n i m => Mo_reads_L75 K n i m) 360 (fun i m' => (∀ k, 0 ≤ k → k < i → m' 152 k = m 166 k) ∧ (∀ c k, ¬ c = 152 → m' c k = m c k)) K 0
    (fun n m' _ => by
      show Mo_reads_L75 K (n + 1) 360 m' = K m'
      rw [Mo_reads_L75, if_pos (Int.le_refl _)])
    (fun n i m' g0 g1 I => by
      show ∃ m'', Mo_reads_L75 K (n + 1) i m' = Mo_reads_L75 K n (i + 1) m'' ∧ _
      obtain ⟨I1, I3⟩ := I
      rw [Mo_reads_L75, s32_id (a := 360) (by decide) (by decide), s32_id (a := i) (by omega) (by omega), if_neg (by omega), ck_id g0 (by omega) (by omega), ck_id g0 (by omega) (by omega), lt_id, I3 166 i (by decide)]
      refine ⟨_, rfl, fun k q0 q1 => ?_, fun c k hc => ?_⟩
      · rw [mset_c]
        by_cases c : k = i
        · rw [if_pos c, c]
        · rw [if_neg c]; exact I1 k q0 (by omega)
      · rw [mset_if, if_neg (fun z => hc z.1)]; exact I3 c k hc)
    360 2000 0 m (by omega) (by omega) (by omega) ⟨fun k q0 q1 => by omega, fun _ _ _ => rfl⟩
theorem Rel_reads {mem mm : Mem} (R : Rel mem) (N : RNow mm) (H : RHist mm) (T : RTape mm) (fm : ∀ c i, kept c i → ¬ (c = 150 ∨ c = 152 ∨ (1 ≤ c ∧ c ≤ 101) ∨ c = 141 ∨ c = 161 ∨ (c = 131 ∧ i = 0) ∨ (c = 149 ∧ (i = 4 ∨ i = 23))) → mm c i = mem c i) : Rel mm := by
  have h2 : Rel (fun c i => if c = 150 ∨ c = 152 ∨ (1 ≤ c ∧ c ≤ 101) ∨ c = 141 ∨ c = 161 ∨ (c = 131 ∧ i = 0) ∨ (c = 149 ∧ (i = 4 ∨ i = 23)) then mem c i else mm c i) := by
    refine Rel_frame R (fun c i hk => ?_)
    show (if c = 150 ∨ c = 152 ∨ (1 ≤ c ∧ c ≤ 101) ∨ c = 141 ∨ c = 161 ∨ (c = 131 ∧ i = 0) ∨ (c = 149 ∧ (i = 4 ∨ i = 23)) then mem c i else mm c i) = mem c i
    by_cases c' : c = 150 ∨ c = 152 ∨ (1 ≤ c ∧ c ≤ 101) ∨ c = 141 ∨ c = 161 ∨ (c = 131 ∧ i = 0) ∨ (c = 149 ∧ (i = 4 ∨ i = 23))
    · rw [if_pos c']
    · rw [if_neg c']; exact fm c i hk c'
  obtain ⟨a, b, c, d, e, f, g⟩ := h2
  exact ⟨N, H, c, T, e, f, g⟩
/-- nothing of a refused text is left -/
theorem Rel_undone {mem mm : Mem} (R : Rel mem) (h150 : ∀ i, 0 ≤ i → i < 36 → mm 150 i = mem 150 i) (h152 : ∀ i, 0 ≤ i → i < 360 → mm 152 i = mem 152 i) (t0 : mm 131 0 = 0) (t1 : mm 149 23 = 0) (fm : ∀ c i, kept c i → ¬ (c = 150 ∨ c = 152 ∨ (c = 131 ∧ i = 0) ∨ (c = 149 ∧ i = 23)) → mm c i = mem c i) : Rel mm := by
  have R0 := R
  obtain ⟨⟨v, rb⟩, ⟨q1, q2, q3, q4⟩, -⟩ := R0
  have fr : ∀ c i, c ≤ 110 → mm c i = mem c i := fun c i hc => fm c i (by unfold kept; omega) (by omega)
  have g4 : mm 149 4 = mem 149 4 := fm 149 4 (by unfold kept; omega) (by omega)
  refine Rel_reads R ?_ ?_ ?_ (fun c i hk hc => fm c i hk (by omega))
  · exact ⟨VA_eqv v h150, (RB_congr (RB_frame rb (fun c i _ _ => fr c i (by omega))) h150 v).1⟩
  · refine ⟨by rw [g4]; exact q1, by rw [g4, fr 10 0 (by omega)]; exact q2, by rw [fr 10 1 (by omega)]; exact q3, fun k k0 k1 => ?_⟩
    rw [g4] at k1
    rw [g4, fr 10 1 (by omega)]
    have rl := ring_le (n := mem 10 1) (h := mem 149 4) (k := k)
    have w := RB_congr (B := fun i => mm 152 (36 * k + i)) (RB_frame (q4 k k0 k1).2 (fun c i _ _ => fr c i (by omega))) (fun i i0 i1 => h152 (36 * k + i) (by omega) (by omega)) (q4 k k0 k1).1
    exact ⟨w.2, w.1⟩
  · exact ⟨by rw [t1]; decide, by rw [t0, t1], fun k k0 k1 => by rw [t1] at k1; omega⟩
theorem ok_reads : OkM BP_reads Mo_reads s32 := by
  intro mem R
  have R0 := R
  obtain ⟨⟨v, rb⟩, hist, -, ⟨t1, t2, t3⟩, -, -, cs⟩ := R0
  have L := VA_lens v
  obtain ⟨-, -, k3, k4, k5⟩ := cs
  obtain ⟨S, hS⟩ : ∃ S, S = mem 149 23 := ⟨_, rfl⟩
  obtain ⟨T, hT0⟩ : ∃ T : Int → Int, T = mem 161 := ⟨_, rfl⟩
  have hT : okT S T := ⟨by rw [hS]; exact t1, fun k k0 k1 => by rw [hT0]; exact (t3 k k0 (by omega)).2⟩
  have hSb := hT.1
  have TCm : TC S T mem := ⟨by rw [t2, hS], fun k k0 k1 => by rw [hT0]; exact (t3 k k0 (by omega)).1⟩
  have pb := pA_b T S 200 0 (by omega) hSb.1 (by omega)
  -- the class, its first go
  obtain ⟨m2, e2, f2⟩ := pass1 hT 200 2000 0 0 (mset mem 131 3 0) (Int.le_refl 0) hSb.1 (by omega) (by decide) (Int.le_refl 0) (Int.le_refl 0) (TC_fr TCm (fun c i hc => by rw [mset_if, if_neg (by omega)])) (mset_here _ _ _ _)
  have F2 : ∀ c i, ¬ (c = 131 ∧ (i = 3 ∨ i = 4)) → ¬ c = 142 → m2 c i = mem c i := fun c i h1 h2 => by rw [f2 c i h1 h2, mset_if, if_neg (by omega)]
  have P : Rd_placeOfNoText mem = some (pA T S 200 0, m2) := by
    unfold Rd_placeOfNoText
    rw [lt_id, e2]
  -- what the model does to a memory that stands so
  have MO : ∀ mc : Mem, (∀ c i, ¬ (1 ≤ c ∧ c ≤ 10) → ¬ (131 ≤ c ∧ c ≤ 142) → mc c i = mem c i) → ∃ r x B m', Mo_reads mc = some ((if pA T S 200 0 < 0 then (if 0 ≤ x then -2000 - x else r) else -1000 - pA T S 200 0), m') ∧ (-1 ≤ x ∧ x ≤ 120) ∧ (pA T S 200 0 < 0 → (0 ≤ r ∧ r ≤ 1000) ∧ Pass2 S T 200 0 0 (mem 150) r x B) ∧ VA B ∧ m' 149 23 = 0 ∧ (∀ c i, ¬ (c = 150 ∨ c = 152 ∨ c = 160 ∨ c = 165 ∨ c = 166 ∨ (c = 149 ∧ (i = 4 ∨ i = 23 ∨ i = 28 ∨ i = 29))) → m' c i = mc c i) ∧ (pA T S 200 0 < 0 ∧ x < 0 → m' 150 = B ∧ m' 149 4 = 0) ∧ (¬ (pA T S 200 0 < 0 ∧ x < 0) → (∀ i, 0 ≤ i → i < 36 → m' 150 i = mem 150 i) ∧ (∀ i, 0 ≤ i → i < 360 → m' 152 i = mem 152 i) ∧ m' 149 4 = mem 149 4) := by
    intro mc hm
    have g4 : mc 149 4 = mem 149 4 := hm 149 4 (by omega) (by omega)
    unfold Mo_reads
    rw [lt_id, jn_id]
    obtain ⟨m3, e3, a3, f3⟩ := save_loop (K := fun (m2 : Mem) => (Mo_thinks m2).bind (fun m3 => bdI (Mo_takesAll m3) (fun r4 m5 => lt (mset m5 149 23 0) (fun m6 => jn ((Mo_laysBack m6).bind (fun m7 => lt (mset m7 149 4 (mc 149 4)) (fun m8 => jn (fun (m9 : Mem) => if 0 ≤ s32 r4 then (some (((-2000) - (m9 149 29)), m9)) else (some (r4, m9))) (fun (k100 : Mem → Option (Int × Mem)) => (Mo_reads_L75 k100 2000 0 m8))))) (fun (k64 : Option (Int × Mem)) => if s32 r4 < 0 then (k64) else (if 0 ≤ s32 (m6 149 29) then (k64) else (lt (mset m6 149 4 0) (fun m13 => some (r4, m13))))))))) mc
    rw [e3]
    unfold Mo_thinks Mo_takesAll Mo_laysBack
    obtain ⟨m4, e4, b4, -, f4⟩ := copies_eq (b := 150) (c := 160) (by decide) (by decide) (by decide) m3
    rw [e4, ob_some, ob_some, lt_id, lt_id]
    have F4 : ∀ c i, ¬ c = 160 → ¬ c = 166 → m4 c i = mc c i := fun c i h1 h2 => by rw [f4 c i h1, f3 c i h2]
    have h150 : m4 150 = mem 150 := by funext i; rw [F4 150 i (by decide) (by decide), hm 150 i (by omega) (by omega)]
    have C5 : TM S T (mset (mset m4 149 28 0) 149 29 (-1)) := by
      have u : ∀ c i, (161 ≤ c ∧ c ≤ 164) ∨ (c = 149 ∧ i = 23) → mset (mset m4 149 28 0) 149 29 (-1) c i = mem c i := fun c i hc => by rw [mset_if, if_neg (by omega), mset_if, if_neg (by omega), F4 c i (by omega) (by omega), hm c i (by omega) (by omega)]
      exact ⟨by rw [u _ _ (Or.inr ⟨rfl, rfl⟩), hS], fun k _ _ => by rw [u _ _ (by omega), hT0], fun i => by rw [u _ _ (by omega)]; exact k3 i, fun i => by rw [u _ _ (by omega)]; exact k4 i, fun i => by rw [u _ _ (by omega)]; exact k5 i⟩
    have h150' : mset (mset m4 149 28 0) 149 29 (-1) 150 = mem 150 := by funext i; rw [mset_if, if_neg (by omega), mset_if, if_neg (by omega), h150]
    have I5 : MI (mset (mset m4 149 28 0) 149 29 (-1)) := ⟨by rw [h150']; exact v, by rw [mset_if, if_neg (by omega), mset_if, if_neg (by omega), F4 149 4 (by decide) (by decide), g4]; exact hist.1⟩
    obtain ⟨r, m6, e6, I6, f6, r6, -, u6, w6⟩ := all_eq hT 200 2000 0 0 (mset (mset m4 149 28 0) 149 29 (-1)) (Int.le_refl 0) hSb.1 (by omega) (by decide) (Int.le_refl 0) (Int.le_refl 0) C5 (by rw [mset_if, if_neg (by omega), mset_here]) I5 (by rw [mset_here]; decide)
    rw [e6, bdI_some, lt_id, jn_id]
    rw [h150'] at w6
    have F6 : ∀ c i, ¬ (c = 150 ∨ c = 152 ∨ c = 160 ∨ c = 165 ∨ c = 166 ∨ (c = 149 ∧ (i = 4 ∨ i = 28 ∨ i = 29))) → m6 c i = mc c i := fun c i hc => by rw [f6 c i (by omega), mset_if, if_neg (by omega), mset_if, if_neg (by omega), F4 c i (by omega) (by omega)]
    have q29 : mset m6 149 23 0 149 29 = m6 149 29 := by rw [mset_if, if_neg (by omega)]
    rw [q29, s32_id (a := m6 149 29) (by omega) (by omega)]
    -- laid back
    obtain ⟨m7, e7, b7, -, f7⟩ := copies_eq (b := 160) (c := 150) (by decide) (by decide) (by decide) (mset m6 149 23 0)
    rw [e7, ob_some, ob_some, lt_id, jn_id]
    obtain ⟨m8, e8, a8, f8⟩ := back_loop (K := fun (m9 : Mem) => if 0 ≤ s32 r then (some (((-2000) - (m9 149 29)), m9)) else (some (r, m9))) (mset m7 149 4 (mc 149 4))
    rw [e8]
    have F8 : ∀ c i, ¬ (c = 150 ∨ c = 152 ∨ (c = 149 ∧ (i = 4 ∨ i = 23))) → m8 c i = m6 c i := fun c i hc => by rw [f8 c i (by omega), mset_if, if_neg (by omega), f7 c i (by omega), mset_if, if_neg (by omega)]
    have q8 : m8 149 29 = m6 149 29 := F8 149 29 (by omega)
    have z150 : ∀ i, 0 ≤ i → i < 36 → m8 150 i = mem 150 i := fun i i0 i1 => by
      rw [f8 150 i (by decide), mset_if, if_neg (by omega), b7 i i0 i1, mset_if, if_neg (by omega), f6 160 i (by omega), mset_if, if_neg (by omega), mset_if, if_neg (by omega), b4 i i0 i1, f3 150 i (by decide), hm 150 i (by omega) (by omega)]
    have z152 : ∀ i, 0 ≤ i → i < 360 → m8 152 i = mem 152 i := fun i i0 i1 => by
      rw [a8 i i0 i1, mset_if, if_neg (by omega), f7 166 i (by decide), mset_if, if_neg (by omega), f6 166 i (by omega), mset_if, if_neg (by omega), mset_if, if_neg (by omega), f4 166 i (by decide), a3 i i0 i1, hm 152 i (by omega) (by omega)]
    have z4 : m8 149 4 = mem 149 4 := by rw [f8 149 4 (by decide), mset_here, g4]
    have z23 : m8 149 23 = 0 := by rw [f8 149 23 (by decide), mset_if, if_neg (by omega), f7 149 23 (by decide), mset_here]
    have zF : ∀ c i, ¬ (c = 150 ∨ c = 152 ∨ c = 160 ∨ c = 165 ∨ c = 166 ∨ (c = 149 ∧ (i = 4 ∨ i = 23 ∨ i = 28 ∨ i = 29))) → m8 c i = mc c i := fun c i hc => by rw [F8 c i (by omega), F6 c i (by omega)]
    rw [q8]
    by_cases p : pA T S 200 0 < 0
    · obtain ⟨wr, wp⟩ := w6 p
      rw [s32_id (a := r) (by omega) (by omega), if_neg (show ¬ r < 0 by omega), if_pos (show 0 ≤ r by omega)]
      by_cases x : 0 ≤ m6 149 29
      · refine ⟨r, m6 149 29, m6 150, m8, ?_, r6, fun _ => ⟨wr, wp (mset_here _ _ _ _)⟩, I6.1, z23, zF, fun y => by omega, fun _ => ⟨z150, z152, z4⟩⟩
        rw [if_pos x, if_pos p, if_pos x]
      · refine ⟨r, m6 149 29, m6 150, mset (mset m6 149 23 0) 149 4 0, ?_, r6, fun _ => ⟨wr, wp (mset_here _ _ _ _)⟩, I6.1, by rw [mset_if, if_neg (by omega), mset_here], fun c i hc => by rw [mset_if, if_neg (by omega), mset_if, if_neg (by omega), F6 c i (by omega)], fun _ => ⟨by funext i; rw [mset_if, if_neg (by omega), mset_if, if_neg (by omega)], mset_here _ _ _ _⟩, fun y => absurd ⟨p, by omega⟩ y⟩
        rw [if_neg x, if_pos p, if_neg x, lt_id]
    · have ur := u6 (by omega)
      refine ⟨r, m6 149 29, m6 150, m8, ?_, r6, fun y => absurd y p, I6.1, z23, zF, fun y => absurd y.1 p, fun _ => ⟨z150, z152, z4⟩⟩
      rw [if_neg p, ur, s32_id (a := -1000 - pA T S 200 0) (by omega) (by omega), if_pos (show -1000 - pA T S 200 0 < 0 by omega), if_neg (show ¬ 0 ≤ -1000 - pA T S 200 0 by omega)]
  have e9 : s32 (pA T S 200 0) = pA T S 200 0 := s32_id (by omega) (by omega)
  unfold BP_reads Rd_readOnto
  rw [P, bdI_some, e9]
  by_cases p : pA T S 200 0 < 0
  · rw [if_pos p]
    have rb2 : RB m2 1 (mem 150) := RB_frame rb (fun c i _ _ => F2 c i (by omega) (by omega))
    obtain ⟨m3, e3, b3, f3⟩ := become_eq (a := 132) rb2 (Or.inr (by omega)) L.1 L.2.1 L.2.2
    rw [e3, ob_some, lt_id]
    have TC4 : TC S T (mset m3 131 3 0) := TC_fr TCm (fun c i hc => by rw [mset_if, if_neg (by omega), f3 c i (by omega), F2 c i (by omega) (by omega)])
    have rb4 : RB (mset m3 131 3 0) 132 (mem 150) := RB_frame b3 (fun c i _ _ => by rw [mset_if, if_neg (by omega)])
    have F4 : ∀ c i, ¬ (131 ≤ c ∧ c ≤ 142) ∨ (c = 131 ∧ i = 0) → mset m3 131 3 0 c i = mem c i := fun c i hc => by rw [mset_if, if_neg (by omega), f3 c i (by omega), F2 c i (by omega) (by omega)]
    -- a first look at the model, for what the class's second go gives
    obtain ⟨r0, x0, B0, m0, -, hx0, w0, vB0, -⟩ := MO mem (fun _ _ _ _ => rfl)
    obtain ⟨-, P2⟩ := w0 p
    obtain ⟨m5, h5, f5⟩ := P2 (mset m3 131 3 0) 2000 0 (by decide) (Int.le_refl 0) (Int.le_refl 0) TC4 (mset_here _ _ _ _) rb4
    have F5 : ∀ c i, ¬ (131 ≤ c ∧ c ≤ 142) → m5 c i = mem c i := fun c i hc => by rw [f5 c i (by omega) (by omega) (by omega), F4 c i (Or.inl hc)]
    have G5 : ∀ c i, ¬ (c = 131 ∧ (i = 3 ∨ i = 4)) → ¬ c = 142 → ¬ (132 ≤ c ∧ c ≤ 140) → m5 c i = mem c i := fun c i h1 h2 h3 => by rw [f5 c i h1 h2 h3, mset_if, if_neg (by omega), f3 c i (by omega), F2 c i h1 h2]
    rcases h5 with ⟨hx, h5, -⟩ | ⟨hx, h5⟩
    · have wr := (w0 p).1
      have h5' := P2 (mset m3 131 3 0) 2000 0 (by decide) (Int.le_refl 0) (Int.le_refl 0) TC4 (mset_here _ _ _ _) rb4
      have bc : ∃ m6, Beam_become 1 132 m5 = some m6 ∧ (∀ c i, ¬ (1 ≤ c ∧ c ≤ 9) → m6 c i = m5 c i) := by
        obtain ⟨m5', y, -⟩ := h5'
        rcases y with ⟨-, y, z⟩ | ⟨y, -⟩
        · rw [h5] at y
          have e : m5 = m5' := congrArg Prod.snd (Option.some.inj y)
          rw [← e] at z
          have L' := VA_lens vB0
          obtain ⟨m6, e6, -, f6⟩ := become_eq (a := 1) z (Or.inl (by omega)) L'.1 L'.2.1 L'.2.2
          exact ⟨m6, e6, fun c i hc => f6 c i (by omega)⟩
        · omega
      obtain ⟨m6, e6, f6⟩ := bc
      obtain ⟨r, x, B, m', em, hx', w', vB, z23, zF, zS, -⟩ := MO (mset (mset m6 10 0 0) 131 0 0) (fun c i h1 h2 => by rw [mset_if, if_neg (by omega), mset_if, if_neg (by omega), f6 c i (by omega), F5 c i h2])
      obtain ⟨wr', wp'⟩ := w' p
      obtain ⟨mc', y, -⟩ := wp' (mset m3 131 3 0) 2000 0 (by decide) (Int.le_refl 0) (Int.le_refl 0) TC4 (mset_here _ _ _ _) rb4
      rw [h5] at y
      rcases y with ⟨y1, y2, y3⟩ | ⟨y1, y2⟩
      · have er : r0 = r := congrArg Prod.fst (Option.some.inj y2)
        have emm : m5 = mc' := congrArg Prod.snd (Option.some.inj y2)
        rw [← emm] at y3
        have L' := VA_lens vB
        obtain ⟨m6', e6', b6, -⟩ := become_eq (a := 1) y3 (Or.inl (by omega)) L'.1 L'.2.1 L'.2.2
        rw [e6] at e6'
        have em6 : m6 = m6' := Option.some.inj e6'
        rw [← em6] at b6
        rw [if_pos p, if_neg (show ¬ 0 ≤ x by omega), ← er] at em
        obtain ⟨s1, s2⟩ := zS ⟨p, by omega⟩
        refine ⟨r0, mset (mset m6 10 0 0) 131 0 0, r0, m', ?_, em, rfl, ?_⟩
        · rw [h5, bdI_some, jn_id, s32_id (a := r0) (by omega) (by omega), if_neg (show ¬ r0 < 0 by omega), e6, ob_some]
          unfold Chg_forget
          rw [lt_id, ob_some]
          dsimp only
          rw [lt_id]
        · refine Rel_reads R ⟨by rw [s1]; exact vB, ?_⟩ ⟨by rw [s2]; decide, ?_, ?_, fun k k0 k1 => ?_⟩ ⟨by rw [z23]; decide, ?_, fun k k0 k1 => ?_⟩ (fun c i hk hc => ?_)
          · rw [s1]
            exact RB_frame b6 (fun c i _ _ => by rw [zF c i (by omega), mset_if, if_neg (by omega), mset_if, if_neg (by omega)])
          · rw [s2, zF 10 0 (by omega), mset_if, if_neg (by omega), mset_here]
          · rw [zF 10 1 (by omega), mset_if, if_neg (by omega), mset_if, if_neg (by omega), f6 10 1 (by omega), F5 10 1 (by omega)]
            exact hist.2.2.1
          · rw [s2] at k1; omega
          · rw [z23, zF 131 0 (by omega), mset_here]
          · rw [z23] at k1; omega
          · unfold kept at hk
            rw [zF c i (by omega), mset_if, if_neg (by omega), mset_if, if_neg (by omega), f6 c i (by omega), F5 c i (by omega)]
      · have er : r0 = -2000 - x := congrArg Prod.fst (Option.some.inj y2)
        omega
    · rw [h5, bdI_some, jn_id, s32_id (a := -2000 - x0) (by omega) (by omega), if_pos (show -2000 - x0 < 0 by omega)]
      dsimp only
      rw [lt_id]
      obtain ⟨r, x, B, m', em, hx', w', vB, z23, zF, -, zU⟩ := MO (mset m5 131 0 0) (fun c i h1 h2 => by rw [mset_if, if_neg (by omega), F5 c i h2])
      obtain ⟨wr', wp'⟩ := w' p
      obtain ⟨mc', y, -⟩ := wp' (mset m3 131 3 0) 2000 0 (by decide) (Int.le_refl 0) (Int.le_refl 0) TC4 (mset_here _ _ _ _) rb4
      rw [h5] at y
      rcases y with ⟨y1, y2, y3⟩ | ⟨y1, y2⟩
      · have er : -2000 - x0 = r := congrArg Prod.fst (Option.some.inj y2)
        omega
      · have er : -2000 - x0 = -2000 - x := congrArg Prod.fst (Option.some.inj y2)
        rw [if_pos p, if_pos y1, ← er] at em
        obtain ⟨z150, z152, z4⟩ := zU (fun y => by omega)
        refine ⟨_, mset m5 131 0 0, _, m', rfl, em, rfl, ?_⟩
        refine Rel_undone R z150 z152 (by rw [zF 131 0 (by omega), mset_here]) z23 (fun c i hk hc => ?_)
        unfold kept at hk
        by_cases y : c = 149 ∧ i = 4
        · rw [y.1, y.2]; exact z4
        · rw [zF c i (by omega), mset_if, if_neg (by omega), G5 c i (by omega) (by omega) (by omega)]
  · rw [if_neg p, bdI_some, jn_id, s32_id (a := -1000 - pA T S 200 0) (by omega) (by omega), if_pos (show -1000 - pA T S 200 0 < 0 by omega)]
    dsimp only
    rw [lt_id]
    obtain ⟨r, x, B, m', em, hx, -, -, z23, zF, -, zU⟩ := MO (mset m2 131 0 0) (fun c i h1 h2 => by rw [mset_if, if_neg (by omega), F2 c i (by omega) (by omega)])
    rw [if_neg p] at em
    obtain ⟨z150, z152, z4⟩ := zU (fun y => p y.1)
    refine ⟨_, mset m2 131 0 0, _, m', rfl, em, rfl, ?_⟩
    refine Rel_undone R z150 z152 (by rw [zF 131 0 (by omega), mset_here]) z23 (fun c i hk hc => ?_)
    unfold kept at hk
    by_cases y : c = 149 ∧ i = 4
    · rw [y.1, y.2]; exact z4
    · rw [zF c i (by omega), mset_if, if_neg (by omega), F2 c i (by omega) (by omega)]
