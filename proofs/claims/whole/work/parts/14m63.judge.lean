/-! judge -/
/-- number by number, u against w, from i on, d of them; fin: all are so -/
def jres (u w : Int → Int) (fin : Int) : Nat → Int → Int
  | 0, _ => fin
  | d + 1, i => if s64 (u i) = s64 (w i) then jres u w fin d (i + 1) else i / 2
theorem loopJ (F : Nat → Int → Mem → Option (Int × Mem)) (N : Int) (u w : Int → Int) (fin : Int) (I : Mem → Prop) (h1 : ∀ n m, I m → F (n + 1) N m = some (fin, m)) (h2 : ∀ n i m, 0 ≤ i → i < N → I m → ∃ m', F (n + 1) i m = (if s64 (u i) = s64 (w i) then F n (i + 1) m' else some (i / 2, m')) ∧ I m') :
    ∀ (d n : Nat) (i : Int) (m : Mem), 0 ≤ i → i + (d : Int) = N → d < n → I m → ∃ m', F n i m = some (jres u w fin d i, m') ∧ I m' := by
  intro d
  induction d with
  | zero =>
    intro n i m h0 h3 h4 hI
    obtain ⟨n', rfl⟩ : ∃ n', n = n' + 1 := ⟨n - 1, by omega⟩
    have : i = N := by omega
    subst this
    exact ⟨m, h1 n' m hI, hI⟩
  | succ d ih =>
    intro n i m h0 h3 h4 hI
    obtain ⟨n', rfl⟩ : ∃ n', n = n' + 1 := ⟨n - 1, by omega⟩
    obtain ⟨m', e, hI'⟩ := h2 n' i m h0 (by omega) hI
    by_cases c : s64 (u i) = s64 (w i)
    · rw [if_pos c] at e
      obtain ⟨m'', e', hI''⟩ := ih n' (i + 1) m' (by omega) (by omega) (by omega) hI'
      refine ⟨m'', ?_, hI''⟩
      rw [e, e', jres, if_pos c]
    · rw [if_neg c] at e
      refine ⟨m', ?_, hI'⟩
      rw [e, jres, if_neg c]
def judgeFin (A : Int → Int) (T : Int) : Int := if T = 2 * (A 0 + 1) then -2 else 100 + T / 2
theorem Rows_at_eq {a p : Int} (ha : 0 ≤ a ∧ a < 3) {m : Mem} (hS : -1 ≤ m 147 a ∧ m 147 a ≤ 24) (hp : 0 ≤ p ∧ p < m 147 a) : Rows_at a p m = some (m 148 (24 * a + p)) := by
  unfold Rows_at
  rw [Rows_has_eq ha ⟨by omega, by omega⟩ hS, ob_some, if_pos hp, s32_1, if_1', ck_id (by omega) (by omega) (by omega), s32_id (a := a * 24 + p) (by omega) (by omega), Int.mul_comm a 24]
theorem judge_cls {A : Int → Int} (v : VA A) (hn : 2 ≤ A 1) {m : Mem} (V : SV m A) (hL : m 1 0 = A 0) {a p : Int} (ha : 0 ≤ a ∧ a < 3) (hp : 0 ≤ p ∧ p < 2147483648) (hS : -1 ≤ m 147 a ∧ m 147 a ≤ 24) (k : Int → Mem → Option (Int × Mem)) (hk : ∀ m', (∀ c i, ¬ c = 129 → m' c i = m c i) → k (intoT A (m 147 a) p) m' = some (judgeFin A (intoT A (m 147 a) p), m')) :
    ∃ m', BP_judge_L49 a k 2000 0 p m = some (jres (fun j => m 148 (24 * a + (p + j))) (NU A) (judgeFin A (intoT A (m 147 a) p)) (intoT A (m 147 a) p).toNat 0, m') ∧ (∀ c i, ¬ c = 129 → m' c i = m c i) := by
  have l10 := v.1
  obtain ⟨t1, t2, t3, t4, t5⟩ := intoT_b v (p := p) hS hp.1
  generalize intoT A (m 147 a) p = T at *
  have e2 : s32 2 = 2 := s32_id (by decide) (by decide)
  obtain ⟨m', e, J⟩ := loopJ (fun n i m => BP_judge_L49 a k n i (p + i) m) T (fun j => m 148 (24 * a + (p + j))) (NU A) (judgeFin A T) (fun m' => ∀ c i, ¬ c = 129 → m' c i = m c i)
    (fun n m' J => by
      show BP_judge_L49 a k (n + 1) T (p + T) m' = some (judgeFin A T, m')
      have h147 := J 147 a (by decide)
      have h10 := J 1 0 (by decide)
      by_cases c : T < 2 * (A 0 + 1)
      · have g := t5 c
        by_cases z : p + T < 2147483648
        · rw [BP_judge_L49, Rows_has_eq ha ⟨by omega, by omega⟩ (by rw [h147]; exact hS), ob_some, h147, if_neg (show ¬ (0 ≤ p + T ∧ p + T < m 147 a) by omega), s32_0, if_0']
          exact hk m' J
        · exfalso
          by_cases y : 0 < T
          · have := t4 y; omega
          · omega
      · have g := t4 (by omega)
        rw [BP_judge_L49, Rows_has_eq ha ⟨by omega, by omega⟩ (by rw [h147]; exact hS), ob_some, h147]
        by_cases d : p + T < m 147 a
        · unfold BP_numbersInAll
          rw [if_pos (show 0 ≤ p + T ∧ p + T < m 147 a by omega), s32_1, if_1', ob_some, h10, hL, s32_id (a := T) (by omega) (by omega), s32_id (a := 2 * (A 0 + 1)) (by omega) (by omega), if_pos (show 2 * (A 0 + 1) ≤ T by omega)]
          exact hk m' J
        · rw [if_neg (show ¬ (0 ≤ p + T ∧ p + T < m 147 a) by omega), s32_0, if_0']
          exact hk m' J)
    (fun n j m' j0 j1 J => by
      show ∃ m'', BP_judge_L49 a k (n + 1) j (p + j) m' = (if s64 (m 148 (24 * a + (p + j))) = s64 (NU A j) then BP_judge_L49 a k n (j + 1) (p + (j + 1)) m'' else some (j / 2, m'')) ∧ _
      have g := t4 (by omega)
      have h147 := J 147 a (by decide)
      have h10 := J 1 0 (by decide)
      have V' : SV m' A := SV_only V (fun c i x y => J c i (by omega))
      obtain ⟨m2, e3, f2⟩ := numberOfMoments_eq v hn V' (i := j) j0 (by omega)
      have td : j.tdiv 2 = j / 2 := Int.tdiv_eq_ediv_of_nonneg j0
      rw [BP_judge_L49, Rows_has_eq ha ⟨by omega, by omega⟩ (by rw [h147]; exact hS), ob_some, h147, if_pos (show 0 ≤ p + j ∧ p + j < m 147 a by omega), s32_1, if_1', Rows_at_eq ha (by rw [h147]; exact hS) (by rw [h147]; omega), e3]
      unfold BP_numbersInAll
      rw [ob_some, ob_some, bdI_some, h10, hL, s32_id (a := j) (by omega) (by omega), s32_id (a := 2 * (A 0 + 1)) (by omega) (by omega), if_neg (show ¬ 2 * (A 0 + 1) ≤ j by omega), J 148 _ (by decide), e2, td, show p + j + 1 = p + (j + 1) by omega]
      exact ⟨m2, rfl, fun c i hc => by rw [f2 c i hc, J c i hc]⟩)
    T.toNat 2000 0 m (by omega) (by omega) (by omega) (fun c i _ => rfl)
  have e' : BP_judge_L49 a k 2000 0 (p + 0) m = _ := e
  rw [Int.add_zero] at e'
  exact ⟨m', e', J⟩
theorem judge_mod {A : Int → Int} (v : VA A) (hn : 2 ≤ A 1) {m : Mem} (V : MV m A) {a p : Int} (ha : 0 ≤ a ∧ a < 3) (hp : 0 ≤ p ∧ p < 2147483648) (hS : 0 ≤ m 169 a ∧ m 169 a ≤ 24) (k : Int → Mem → Option (Int × Mem)) (hk : ∀ j m', k j m' = some (100 + ((s32 j).tdiv (s32 2)), m')) :
    ∃ m', Mo_judge_L41 a p k 2000 0 m = some (jres (fun j => m 168 (24 * a + (p + j))) (NU A) (judgeFin A (intoT A (m 169 a) p)) (intoT A (m 169 a) p).toNat 0, m') ∧ fr56 m' m := by
  have l10 := v.1
  obtain ⟨t1, t2, t3, t4, t5⟩ := intoT_b v (S := m 169 a) (p := p) (by omega) hp.1
  generalize intoT A (m 169 a) p = T at *
  have e2 : s32 2 = 2 := s32_id (by decide) (by decide)
  have h00 : m 150 0 = A 0 := by rw [V.1]
  exact loopJ (fun n i m => Mo_judge_L41 a p k n i m) T (fun j => m 168 (24 * a + (p + j))) (NU A) (judgeFin A T) (fun m' => fr56 m' m)
    (fun n m' J => by
      show Mo_judge_L41 a p k (n + 1) T m' = some (judgeFin A T, m')
      have h169 := J 169 a (by omega)
      have h10 := J 150 0 (by omega)
      have td : T.tdiv 2 = T / 2 := Int.tdiv_eq_ediv_of_nonneg t1
      rw [Mo_judge_L41, h10, h00, s32_id (a := a) (by omega) (by omega), h169, hk, e2, s32_id (a := T) (by omega) (by omega), s32_id (a := 2 * A 0 + 2) (by omega) (by omega), td]
      unfold judgeFin
      by_cases c : T < 2 * (A 0 + 1)
      · have g := t5 c
        rw [if_neg (show ¬ 2 * A 0 + 2 ≤ T by omega), if_neg (show ¬ T = 2 * (A 0 + 1) by omega), ck_id ha.1 (by omega) (by omega), s32_id (a := p) (by omega) (by omega), s32_id (a := m 169 a) (by omega) (by omega), s64_id (a := p + T) (by omega) (by omega), s64_id (a := m 169 a) (by omega) (by omega), if_neg (show ¬ p + T < m 169 a by omega)]
      · rw [if_pos (show 2 * A 0 + 2 ≤ T by omega), if_pos (show T = 2 * (A 0 + 1) by omega)])
    (fun n j m' j0 j1 J => by
      show ∃ m'', Mo_judge_L41 a p k (n + 1) j m' = (if s64 (m 168 (24 * a + (p + j))) = s64 (NU A j) then Mo_judge_L41 a p k n (j + 1) m'' else some (j / 2, m'')) ∧ _
      have g := t4 (by omega)
      have h169 := J 169 a (by omega)
      have h10 := J 150 0 (by omega)
      have V' : MV m' A := MV_fr V (fun c i hc => J c i (by omega))
      obtain ⟨w, m2, e3, e4, f2, g2⟩ := nu_mod v hn V' (i := j) j0 (by omega)
      have td : j.tdiv 2 = j / 2 := Int.tdiv_eq_ediv_of_nonneg j0
      have tm : j.tmod 2 = j % 2 := Int.tmod_eq_emod_of_nonneg j0
      have sm : s32 (j % 2) = j % 2 := s32_id (by omega) (by omega)
      rw [Mo_judge_L41, e3, ob_some, e4, ob_some, h10, h00, e2, s32_id (a := j) (by omega) (by omega), s32_id (a := 2 * A 0 + 2) (by omega) (by omega), if_neg (show ¬ 2 * A 0 + 2 ≤ j by omega), ck_id ha.1 (by omega) (by omega), s32_id (a := a) (by omega) (by omega), h169, s32_id (a := p) (by omega) (by omega), s32_id (a := m 169 a) (by omega) (by omega), s64_id (a := p + j) (by omega) (by omega), s64_id (a := m 169 a) (by omega) (by omega), if_pos (show p + j < m 169 a by omega), ck_id (by omega) (by omega) (by omega), s32_id (a := 24 * a + p + j) (by omega) (by omega), jn_id, f2 168 _ (by omega), J 168 _ (by omega), td, tm, sm, show 24 * a + p + j = 24 * a + (p + j) by omega]
      refine ⟨m2, ?_, fun c i hc => by rw [f2 c i hc, J c i hc]⟩
      rw [← g2]
      by_cases z : j % 2 = 0
      · rw [if_neg (show ¬ ¬ j % 2 = 0 by omega), if_pos z]
      · rw [if_pos (show ¬ j % 2 = 0 from z), if_neg z])
    T.toNat 2000 0 m (by omega) (by omega) (by omega) (fun c i _ => rfl)
theorem jres_congr {u u' w : Int → Int} {fin : Int} : ∀ (d : Nat) (i : Int), (∀ j, i ≤ j → j < i + (d : Int) → u j = u' j) → jres u w fin d i = jres u' w fin d i := by
  intro d
  induction d with
  | zero => intro i _; rfl
  | succ d ih =>
    intro i h
    rw [jres, jres, h i (by omega) (by omega), ih (i + 1) (fun j a b => h j (by omega) (by omega))]
theorem ok_judge (a : Int) (b : Int) (ha : r32 a) (hb : r32 b) : OkM (BP_judge a b) (Mo_judge a b) s32 := by
  intro mem R
  have R0 := R
  obtain ⟨⟨v, rb⟩, -, -, -, -, ls, -⟩ := R0
  have n4 := v.2.1
  have l10 := v.1
  have b2 := rb.2.1
  have b1 := rb.1
  obtain ⟨hb1, hb2⟩ := hb
  unfold BP_judge Mo_judge
  rw [BP_isList_eq ha, ob_some, Beam_stands_eq (by omega), ob_some, b2, s32_id (a := b) (by omega) (by omega)]
  by_cases h : 0 ≤ a ∧ a < 3
  · obtain ⟨s1, s2, s3⟩ := ls a h.1 h.2
    rw [if_pos h, s32_1, if_1']
    by_cases h3 : 0 ≤ b
    · rw [if_pos h3]
      by_cases h1 : 2 ≤ mem 150 1
      · rw [if_pos h1, s32_1, if_1, Rows_isThere_eq h (by rw [s1]; exact s2), ob_some, s1]
        by_cases h2 : 0 ≤ mem 169 a
        · rw [if_pos h2, s32_1, if_1]
          obtain ⟨m4, e4, V, f4⟩ := asItIs_eq v h1 rb
          have q147 : m4 147 a = mem 147 a := f4 147 a (by omega)
          have q10 : m4 1 0 = mem 150 0 := by rw [f4 1 0 (by omega)]; exact b1
          have tb := intoT_b v (S := mem 169 a) (p := b) s2 h3
          obtain ⟨m5, e5, J⟩ := judge_cls v h1 V q10 h ⟨h3, hb2⟩ (by rw [q147, s1]; exact s2) (fun (x5 : Int) (m6 : Mem) => (BP_numbersInAll m6).bind (fun r7 => if ¬ s32 x5 = s32 r7 then (some ((100 + ((s32 x5).tdiv (s32 2))), m6)) else (some ((-2), m6)))) (fun m' J => by
            have e2 : s32 2 = 2 := s32_id (by decide) (by decide)
            have td : (intoT (mem 150) (mem 169 a) b).tdiv 2 = intoT (mem 150) (mem 169 a) b / 2 := Int.tdiv_eq_ediv_of_nonneg tb.1
            rw [q147, s1]
            unfold BP_numbersInAll judgeFin
            rw [ob_some, J 1 0 (by decide), q10, e2]
            generalize intoT (mem 150) (mem 169 a) b = T at *
            rw [s32_id (a := T) (by omega) (by omega), s32_id (a := 2 * (mem 150 0 + 1)) (by omega) (by omega), td]
            by_cases c : T = 2 * (mem 150 0 + 1)
            · rw [if_neg (fun z => z c), if_pos c]
            · rw [if_pos c, if_neg c])
          rw [q147, s1] at e5
          have hA5 : m5 150 = mem 150 := by funext i; rw [J 150 i (by decide), f4 150 i (by omega)]
          obtain ⟨m6, e6, V6, f6⟩ := reactions_eq v h1 hA5
          have q169 : m6 169 a = mem 169 a := by rw [f6 169 a (by omega) (by omega), J 169 a (by decide), f4 169 a (by omega)]
          obtain ⟨m7, e7, K⟩ := judge_mod v h1 V6 (a := a) (p := b) h ⟨h3, hb2⟩ (by rw [q169]; omega) (fun (x4 : Int) (m5 : Mem) => some ((100 + ((s32 x4).tdiv (s32 2))), m5)) (fun _ _ => rfl)
          rw [q169] at e7
          have z169 : m5 169 a = mem 169 a := by rw [J 169 a (by decide), f4 169 a (by omega)]
          have same : jres (fun j => m4 148 (24 * a + (b + j))) (NU (mem 150)) (judgeFin (mem 150) (intoT (mem 150) (mem 169 a) b)) (intoT (mem 150) (mem 169 a) b).toNat 0 = jres (fun j => m6 168 (24 * a + (b + j))) (NU (mem 150)) (judgeFin (mem 150) (intoT (mem 150) (mem 169 a) b)) (intoT (mem 150) (mem 169 a) b).toNat 0 := by
            refine jres_congr _ _ (fun j j0 j1 => ?_)
            show m4 148 (24 * a + (b + j)) = m6 168 (24 * a + (b + j))
            rw [f4 148 _ (by omega), f6 168 _ (by omega) (by omega), J 168 _ (by decide), f4 168 _ (by omega)]
            exact s3 (b + j) (by omega) (by omega)
          generalize jres (fun j => m4 148 (24 * a + (b + j))) (NU (mem 150)) (judgeFin (mem 150) (intoT (mem 150) (mem 169 a) b)) (intoT (mem 150) (mem 169 a) b).toNat 0 = w at e5 same
          rw [← same] at e7
          refine ⟨w, m5, w, m7, ?_, ?_, rfl, ?_⟩
          · rw [e4, ob_some, jn_id, e5]
          · rw [Mo_isList_eq ha, ob_some, if_pos h, s32_1, if_1', if_pos h3, Mo_stands_eq (by rw [hA5]; omega), hA5, ob_some, if_pos h1, s32_1, if_1, ck_id h.1 (by omega) (by omega), s32_id (a := a) (by omega) (by omega), z169, s32_id (a := mem 169 a) (by omega) (by omega), if_pos h2, e6, ob_some, jn_id, e7]
          · refine Rel_frame R (fun c i hk => ?_)
            unfold kept at hk
            rw [K c i (by omega), f6 c i (by omega) (by omega), J c i (by omega), f4 c i (by omega)]
        · rw [if_neg h2, s32_0, if_0]
          refine ⟨_, mem, _, mem, rfl, ?_, rfl, R⟩
          rw [Mo_isList_eq ha, ob_some, if_pos h, s32_1, if_1', if_pos h3, Mo_stands_eq n4, ob_some, if_pos h1, s32_1, if_1, ck_id h.1 (by omega) (by omega), s32_id (a := a) (by omega) (by omega), s32_id (a := mem 169 a) (by omega) (by omega), if_neg h2]
      · rw [if_neg h1, s32_0, if_0]
        refine ⟨_, mem, _, mem, rfl, ?_, rfl, R⟩
        rw [Mo_isList_eq ha, ob_some, if_pos h, s32_1, if_1', if_pos h3, Mo_stands_eq n4, ob_some, if_neg h1, s32_0, if_0]
    · rw [if_neg h3]
      refine ⟨_, mem, _, mem, rfl, ?_, rfl, R⟩
      rw [Mo_isList_eq ha, ob_some, if_pos h, s32_1, if_1', if_neg h3]
  · rw [if_neg h, s32_0, if_0']
    refine ⟨_, mem, _, mem, rfl, ?_, rfl, R⟩
    rw [Mo_isList_eq ha, ob_some, if_neg h, s32_0, if_0']
