/-! into -/
/-- the i-th of the numbers of moments -/
def NU (A : Int → Int) (i : Int) : Int := if i % 2 = 0 then nm (MB A (i / 2) 1) (2 * DD A) else dn (MB A (i / 2) 1) (2 * DD A)
theorem half_b {i L : Int} (h0 : 0 ≤ i) (h1 : i < 2 * (L + 1)) : (0 ≤ i / 2 ∧ i / 2 ≤ L) ∧ (i % 2 = 0 ∨ i % 2 = 1) := by omega
theorem numberOfMoments_eq {A : Int → Int} (v : VA A) (hn : 2 ≤ A 1) {m : Mem} (V : SV m A) {i : Int} (h0 : 0 ≤ i) (h1 : i < 2 * (A 0 + 1)) : ∃ m', BP_numberOfMoments i m = some (NU A i, m') ∧ (∀ c j, ¬ c = 129 → m' c j = m c j) := by
  have l10 := v.1
  have B1 := (bnd v hn).1
  obtain ⟨⟨k0, k1⟩, r⟩ := half_b h0 h1
  have e2 : s32 2 = 2 := s32_id (by decide) (by decide)
  have td : i.tdiv 2 = i / 2 := Int.tdiv_eq_ediv_of_nonneg h0
  have tm : i.tmod 2 = i % 2 := Int.tmod_eq_emod_of_nonneg h0
  have mb := MB_ab' v hn k0 k1
  have hb := (V.2.2.2.2 (i / 2) k0 k1).2
  have xb : b62 (m 118 (i / 2)) := by unfold ab at mb; exact ⟨by omega, by omega⟩
  unfold BP_numberOfMoments NU
  rw [s32_id (a := i) (by omega) (by omega), e2, td, tm, ck_id k0 (by omega) (by omega), s32_id (a := i / 2) (by omega) (by omega), V.2.1, inLowest_eq xb ⟨by omega, by omega⟩ B1.1 r, bdI_some]
  rcases MB_even V k0 k1 with ⟨q1, q2⟩ | q
  · rw [q1, q2]
    exact ⟨_, rfl, fun c j hc => by rw [mset_if, if_neg (fun z => hc z.1), mset_if, if_neg (fun z => hc z.1)]⟩
  · exfalso; omega
theorem Rows_has_eq {a p : Int} (ha : 0 ≤ a ∧ a < 3) (hp : r32 p) {m : Mem} (hS : -1 ≤ m 147 a ∧ m 147 a ≤ 24) : Rows_has a p m = some (if 0 ≤ p ∧ p < m 147 a then 1 else 0) := by
  obtain ⟨p1, p2⟩ := hp
  unfold Rows_has
  rw [BP_isList_eq ⟨by omega, by omega⟩, ob_some, if_pos ha, s32_1, if_1', s32_id (a := p) (by omega) (by omega), ck_id ha.1 (by omega) (by omega), s32_id (a := a) (by omega) (by omega), s32_id (a := m 147 a) (by omega) (by omega)]
  by_cases c : p < 0
  · rw [if_pos c, if_neg (by omega)]
  · rw [if_neg c]
    by_cases d : m 147 a ≤ p
    · rw [if_pos d, if_neg (by omega)]
    · rw [if_neg d, if_pos (by omega)]
theorem Rows_put_eq {a p w : Int} (ha : 0 ≤ a ∧ a < 3) {m : Mem} (hS : -1 ≤ m 147 a ∧ m 147 a ≤ 24) (hp : 0 ≤ p ∧ p < m 147 a) : Rows_put a p w m = some (mset m 148 (24 * a + p) w) := by
  unfold Rows_put
  rw [Rows_has_eq ha ⟨by omega, by omega⟩ hS, ob_some, if_pos hp, s32_1, if_1', ck_id (by omega) (by omega) (by omega), s32_id (a := a * 24 + p) (by omega) (by omega), lt_id, Int.mul_comm a 24]
/-- how many numbers come into a list of S from p on -/
def intoT (A : Int → Int) (S p : Int) : Int := if S ≤ p then 0 else if S - p ≤ 2 * (A 0 + 1) then S - p else 2 * (A 0 + 1)
theorem intoT_b {A : Int → Int} (v : VA A) {S p : Int} (hS : -1 ≤ S ∧ S ≤ 24) (hp : 0 ≤ p) : 0 ≤ intoT A S p ∧ intoT A S p ≤ 24 ∧ intoT A S p ≤ 2 * (A 0 + 1) ∧ (0 < intoT A S p → p + intoT A S p ≤ S) ∧ (intoT A S p < 2 * (A 0 + 1) → S ≤ p + intoT A S p) := by
  have l10 := v.1
  unfold intoT
  by_cases c : S ≤ p
  · rw [if_pos c]; omega
  · rw [if_neg c]
    by_cases d : S - p ≤ 2 * (A 0 + 1)
    · rw [if_pos d]; omega
    · rw [if_neg d]; omega
theorem into_cls {A : Int → Int} (v : VA A) (hn : 2 ≤ A 1) {m : Mem} (V : SV m A) (hL : m 1 0 = A 0) {a p : Int} (ha : 0 ≤ a ∧ a < 3) (hp : 0 ≤ p ∧ p < 2147483648) (hS : -1 ≤ m 147 a ∧ m 147 a ≤ 24) :
    ∃ m', BP_into_L52 a 2000 0 p m = some (intoT A (m 147 a) p, m') ∧ (∀ k, 0 ≤ k → k < intoT A (m 147 a) p → m' 148 (24 * a + (p + k)) = NU A k) ∧ (∀ i, ¬ (24 * a + p ≤ i ∧ i < 24 * a + (p + intoT A (m 147 a) p)) → m' 148 i = m 148 i) ∧ (∀ c i, ¬ c = 129 → ¬ c = 148 → m' c i = m c i) := by
  have l10 := v.1
  obtain ⟨t1, t2, t3, t4, t5⟩ := intoT_b v (p := p) hS hp.1
  generalize intoT A (m 147 a) p = T at *
  obtain ⟨m', e, J1, J2, J3⟩ := loopM (fun n i m => BP_into_L52 a n i (p + i) m) T (fun j m' => (∀ k, 0 ≤ k → k < j → m' 148 (24 * a + (p + k)) = NU A k) ∧ (∀ i, ¬ (24 * a + p ≤ i ∧ i < 24 * a + (p + j)) → m' 148 i = m 148 i) ∧ (∀ c i, ¬ c = 129 → ¬ c = 148 → m' c i = m c i)) (fun m' => some (T, m')) 0
    (fun n m' J => by
      show BP_into_L52 a (n + 1) T (p + T) m' = some (T, m')
      obtain ⟨J1, J2, J3⟩ := J
      have h147 := J3 147 a (by decide) (by decide)
      have h10 := J3 1 0 (by decide) (by decide)
      by_cases c : T < 2 * (A 0 + 1)
      · have g := t5 c
        by_cases z : p + T < 2147483648
        · rw [BP_into_L52, Rows_has_eq ha ⟨by omega, by omega⟩ (by rw [h147]; exact hS), ob_some, h147, if_neg (show ¬ (0 ≤ p + T ∧ p + T < m 147 a) by omega), s32_0, if_0']
        · exfalso
          by_cases y : 0 < T
          · have := t4 y; omega
          · omega
      · have g := t4 (by omega)
        rw [BP_into_L52, Rows_has_eq ha ⟨by omega, by omega⟩ (by rw [h147]; exact hS), ob_some, h147]
        by_cases d : p + T < m 147 a
        · unfold BP_numbersInAll
          rw [if_pos (show 0 ≤ p + T ∧ p + T < m 147 a by omega), s32_1, if_1', ob_some, h10, hL, s32_id (a := T) (by omega) (by omega), s32_id (a := 2 * (A 0 + 1)) (by omega) (by omega), if_pos (show 2 * (A 0 + 1) ≤ T by omega)]
        · rw [if_neg (show ¬ (0 ≤ p + T ∧ p + T < m 147 a) by omega), s32_0, if_0'])
    (fun n j m' j0 j1 J => by
      show ∃ m'', BP_into_L52 a (n + 1) j (p + j) m' = BP_into_L52 a n (j + 1) (p + (j + 1)) m'' ∧ _
      obtain ⟨J1, J2, J3⟩ := J
      have g := t4 (by omega)
      have h147 := J3 147 a (by decide) (by decide)
      have h10 := J3 1 0 (by decide) (by decide)
      have V' : SV m' A := SV_only V (fun c i x y => J3 c i (by omega) (by omega))
      obtain ⟨m2, e2, f2⟩ := numberOfMoments_eq v hn V' (i := j) j0 (by omega)
      have k147 : m2 147 a = m 147 a := by rw [f2 147 a (by decide), h147]
      rw [BP_into_L52, Rows_has_eq ha ⟨by omega, by omega⟩ (by rw [h147]; exact hS), ob_some, h147, if_pos (show 0 ≤ p + j ∧ p + j < m 147 a by omega), s32_1, if_1']
      unfold BP_numbersInAll
      rw [ob_some, h10, hL, s32_id (a := j) (by omega) (by omega), s32_id (a := 2 * (A 0 + 1)) (by omega) (by omega), if_neg (show ¬ 2 * (A 0 + 1) ≤ j by omega), e2, bdI_some, Rows_put_eq ha (by rw [k147]; exact hS) (by rw [k147]; omega), ob_some]
      refine ⟨_, by rw [show p + j + 1 = p + (j + 1) by omega], fun k k0 k1 => ?_, fun i hi => ?_, fun c i c1 c2 => ?_⟩
      · rw [mset_c]
        by_cases c : k = j
        · rw [c, if_pos rfl]
        · rw [if_neg (by omega), f2 148 _ (by decide)]; exact J1 k k0 (by omega)
      · rw [mset_c, if_neg (by omega), f2 148 _ (by decide)]; exact J2 i (by omega)
      · rw [mset_if, if_neg (fun z => c2 z.1), f2 c i c1]; exact J3 c i c1 c2)
    T.toNat 2000 0 m (by omega) (by omega) (by omega) ⟨fun k k0 k1 => by omega, fun i _ => rfl, fun c i _ _ => rfl⟩
  have e' : BP_into_L52 a 2000 0 (p + 0) m = some (T, m') := e
  rw [Int.add_zero] at e'
  exact ⟨m', e', J1, J2, J3⟩
theorem nu_mod {A : Int → Int} (v : VA A) (hn : 2 ≤ A 1) {m : Mem} (V : MV m A) {i : Int} (h0 : 0 ≤ i) (h1 : i < 2 * (A 0 + 1)) : ∃ w m', Mo_momentAt (s32 ((s32 i).tdiv (s32 2))) 1 m = some w ∧ Mo_is w (2 * (m 149 13)) m = some m' ∧ fr56 m' m ∧ (if i % 2 = 0 then m' 149 5 else m' 149 6) = NU A i := by
  have l10 := v.1
  have B1 := (bnd v hn).1
  obtain ⟨⟨k0, k1⟩, r⟩ := half_b h0 h1
  have e2 : s32 2 = 2 := s32_id (by decide) (by decide)
  have td : i.tdiv 2 = i / 2 := Int.tdiv_eq_ediv_of_nonneg h0
  have mb := MB_ab' v hn k0 k1
  have o := MV_one v hn V
  obtain ⟨w, ew, hw⟩ := momentAt_eq v hn V (a := i / 2) (b := 1) (by omega) (by decide)
  have wb := ab_div o hw mb
  obtain ⟨m8, e8, g8, f8⟩ := is_frac (mem := m) (p := w) (q := 2 * m 149 13) (X := MB A (i / 2) 1) (D := 2 * DD A) (b62_le wb (by decide)) ⟨by omega, by omega⟩ (by omega) (by omega) (by
    have z : w * (2 * DD A) = 2 * (w * DD A) := by clear hw ew; grind
    rw [z, hw]
    clear hw ew z
    grind)
  refine ⟨w, m8, ?_, e8, f8, ?_⟩
  · rw [s32_id (a := i) (by omega) (by omega), e2, td, s32_id (a := i / 2) (by omega) (by omega)]; exact ew
  · unfold NU
    rw [g8.1, g8.2]
theorem MV_fr {m m' : Mem} {A : Int → Int} (V : MV m A) (h : ∀ c i, c = 150 ∨ (c = 149 ∧ i = 13) ∨ c = 157 → m' c i = m c i) : MV m' A := by
  obtain ⟨a, b, c⟩ := V
  have h13 := h 149 13 (by omega)
  refine ⟨by rw [← a]; funext i; exact h 150 i (by omega), by rw [h13]; exact b, fun k k0 k1 => ?_⟩
  rw [h13, h 157 k (by omega)]; exact c k k0 k1
theorem into_mod {A : Int → Int} (v : VA A) (hn : 2 ≤ A 1) {m : Mem} (V : MV m A) {a p : Int} (ha : 0 ≤ a ∧ a < 3) (hp : 0 ≤ p ∧ p < 2147483648) (hS : -1 ≤ m 169 a ∧ m 169 a ≤ 24) :
    ∃ m', Mo_into_L48 a 2000 0 p m = some (intoT A (m 169 a) p, m') ∧ (∀ k, 0 ≤ k → k < intoT A (m 169 a) p → m' 168 (24 * a + (p + k)) = NU A k) ∧ (∀ i, ¬ (24 * a + p ≤ i ∧ i < 24 * a + (p + intoT A (m 169 a) p)) → m' 168 i = m 168 i) ∧ (∀ c i, ¬ (c = 149 ∧ (i = 5 ∨ i = 6)) → ¬ c = 168 → m' c i = m c i) := by
  have l10 := v.1
  obtain ⟨t1, t2, t3, t4, t5⟩ := intoT_b v (p := p) hS hp.1
  generalize intoT A (m 169 a) p = T at *
  have h00 : m 150 0 = A 0 := by rw [V.1]
  obtain ⟨m', e, J1, J2, J3⟩ := loopM (fun n i m => Mo_into_L48 a n i (p + i) m) T (fun j m' => (∀ k, 0 ≤ k → k < j → m' 168 (24 * a + (p + k)) = NU A k) ∧ (∀ i, ¬ (24 * a + p ≤ i ∧ i < 24 * a + (p + j)) → m' 168 i = m 168 i) ∧ (∀ c i, ¬ (c = 149 ∧ (i = 5 ∨ i = 6)) → ¬ c = 168 → m' c i = m c i)) (fun m' => some (T, m')) 0
    (fun n m' J => by
      show Mo_into_L48 a (n + 1) T (p + T) m' = some (T, m')
      obtain ⟨J1, J2, J3⟩ := J
      have h169 := J3 169 a (by omega) (by decide)
      have h10 := J3 150 0 (by omega) (by decide)
      rw [Mo_into_L48, ck_id ha.1 (by omega) (by omega), s32_id (a := a) (by omega) (by omega), h169, h10, h00, s32_id (a := m 169 a) (by omega) (by omega), s64_id (a := m 169 a) (by omega) (by omega), s64_id (a := p + T) (by omega) (by omega)]
      by_cases c : m 169 a ≤ p + T
      · rw [if_pos c]
      · rw [if_neg c, s32_id (a := T) (by omega) (by omega), s32_id (a := 2 * A 0 + 2) (by omega) (by omega), if_pos (show 2 * A 0 + 2 ≤ T by omega)])
    (fun n j m' j0 j1 J => by
      show ∃ m'', Mo_into_L48 a (n + 1) j (p + j) m' = Mo_into_L48 a n (j + 1) (p + (j + 1)) m'' ∧ _
      obtain ⟨J1, J2, J3⟩ := J
      have g := t4 (by omega)
      have h169 := J3 169 a (by omega) (by decide)
      have h10 := J3 150 0 (by omega) (by decide)
      have V' : MV m' A := MV_fr V (fun c i hc => J3 c i (by omega) (by omega))
      obtain ⟨w, m2, e2, e3, f2, g2⟩ := nu_mod v hn V' (i := j) j0 (by omega)
      have e22 : s32 2 = 2 := s32_id (by decide) (by decide)
      rw [Mo_into_L48, ck_id ha.1 (by omega) (by omega), e2, ob_some, e3, ob_some, s32_id (a := a) (by omega) (by omega), h169, h10, h00, s32_id (a := m 169 a) (by omega) (by omega), s64_id (a := m 169 a) (by omega) (by omega), s64_id (a := p + j) (by omega) (by omega), if_neg (show ¬ m 169 a ≤ p + j by omega), s32_id (a := j) (by omega) (by omega), s32_id (a := 2 * A 0 + 2) (by omega) (by omega), if_neg (show ¬ 2 * A 0 + 2 ≤ j by omega), jn_id, e22]
      have tm : j.tmod 2 = j % 2 := Int.tmod_eq_emod_of_nonneg j0
      have sm : s32 (j % 2) = j % 2 := s32_id (by omega) (by omega)
      have kk : ∀ x : Int, (ck (24 * a + (p + j)) 72 (lt (mset m2 168 (s32 (24 * a + (p + j))) x) (fun m11 => lt (p + j + 1) (fun x12 => Mo_into_L48 a n (j + 1) x12 m11)))) = Mo_into_L48 a n (j + 1) (p + (j + 1)) (mset m2 168 (24 * a + (p + j)) x) := by
        intro x
        rw [ck_id (by omega) (by omega) (by omega), lt_id, lt_id, s32_id (a := 24 * a + (p + j)) (by omega) (by omega), show p + j + 1 = p + (j + 1) by omega]
      refine ⟨mset m2 168 (24 * a + (p + j)) (NU A j), ?_, fun k k0 k1 => ?_, fun i hi => ?_, fun c i c1 c2 => ?_⟩
      · rw [tm, sm, ← g2]
        by_cases z : j % 2 = 0
        · rw [if_neg (show ¬ ¬ j % 2 = 0 by omega), if_pos z]; exact kk _
        · rw [if_pos (show ¬ j % 2 = 0 from z), if_neg z]; exact kk _
      · rw [mset_c]
        by_cases c : k = j
        · rw [c, if_pos rfl]
        · rw [if_neg (by omega), f2 168 _ (by omega)]; exact J1 k k0 (by omega)
      · rw [mset_c, if_neg (by omega), f2 168 _ (by omega)]; exact J2 i (by omega)
      · rw [mset_if, if_neg (fun z => c2 z.1), f2 c i c1]; exact J3 c i c1 c2)
    T.toNat 2000 0 m (by omega) (by omega) (by omega) ⟨fun k k0 k1 => by omega, fun i _ => rfl, fun c i _ _ => rfl⟩
  have e' : Mo_into_L48 a 2000 0 (p + 0) m = some (T, m') := e
  rw [Int.add_zero] at e'
  exact ⟨m', e', J1, J2, J3⟩
theorem Rel_listsK {mem mm : Mem} (R : Rel mem) (T : RLists mm) (fm : ∀ c i, kept c i → ¬ (c = 147 ∨ c = 148 ∨ c = 168 ∨ c = 169) → mm c i = mem c i) : Rel mm := by
  have h2 : Rel (fun c i => if c = 147 ∨ c = 148 ∨ c = 168 ∨ c = 169 then mem c i else mm c i) := by
    refine Rel_frame R (fun c i hk => ?_)
    show (if c = 147 ∨ c = 148 ∨ c = 168 ∨ c = 169 then mem c i else mm c i) = mem c i
    by_cases c' : c = 147 ∨ c = 148 ∨ c = 168 ∨ c = 169
    · rw [if_pos c']
    · rw [if_neg c']; exact fm c i hk c'
  obtain ⟨a, b, c, d, e, f, g⟩ := h2
  have q : ∀ c i, ¬ (c = 147 ∨ c = 148 ∨ c = 168 ∨ c = 169) → (if c = 147 ∨ c = 148 ∨ c = 168 ∨ c = 169 then mem c i else mm c i) = mm c i := fun c i h => if_neg h
  exact ⟨a, RHist_fr b (fun c i hc => (q c i (by omega)).symm), c, d, e, T, g⟩
theorem Rows_isThere_eq {a : Int} (ha : 0 ≤ a ∧ a < 3) {m : Mem} (hS : -1 ≤ m 147 a ∧ m 147 a ≤ 24) : Rows_isThere a m = some (if 0 ≤ m 147 a then 1 else 0) := by
  unfold Rows_isThere
  rw [BP_isList_eq ⟨by omega, by omega⟩, ob_some, if_pos ha, s32_1, if_1', ck_id ha.1 (by omega) (by omega), s32_id (a := a) (by omega) (by omega), s32_id (a := m 147 a) (by omega) (by omega)]
  by_cases c : 0 ≤ m 147 a
  · rw [if_neg (by omega), if_pos c]
  · rw [if_pos (by omega), if_neg c]
theorem ok_into (a : Int) (b : Int) (ha : r32 a) (hb : r32 b) : OkM (BP_into a b) (Mo_into a b) s32 := by
  intro mem R
  have R0 := R
  obtain ⟨⟨v, rb⟩, -, -, -, -, ls, -⟩ := R0
  have n4 := v.2.1
  have l10 := v.1
  have b2 := rb.2.1
  have b1 := rb.1
  obtain ⟨hb1, hb2⟩ := hb
  unfold BP_into Mo_into
  rw [BP_isList_eq ha, ob_some, Beam_stands_eq (by omega), ob_some, b2, s32_id (a := b) (by omega) (by omega)]
  by_cases h : 0 ≤ a ∧ a < 3
  · obtain ⟨s1, s2, s3⟩ := ls a h.1 h.2
    rw [if_pos h, s32_1, if_1]
    by_cases h1 : 2 ≤ mem 150 1
    · rw [if_pos h1, s32_1, if_1, Rows_isThere_eq h (by rw [s1]; exact s2), ob_some, s1]
      by_cases h2 : 0 ≤ mem 169 a
      · rw [if_pos h2, s32_1, if_1]
        by_cases h3 : 0 ≤ b
        · rw [if_pos h3]
          obtain ⟨m4, e4, V, f4⟩ := asItIs_eq v h1 rb
          have q147 : m4 147 a = mem 147 a := f4 147 a (by omega)
          obtain ⟨m5, e5, J1, J2, J3⟩ := into_cls v h1 V (by rw [f4 1 0 (by omega)]; exact b1) h ⟨h3, hb2⟩ (by rw [q147, s1]; exact s2)
          rw [q147, s1] at e5 J1 J2
          have hA5 : m5 150 = mem 150 := by funext i; rw [J3 150 i (by decide) (by decide), f4 150 i (by omega)]
          obtain ⟨m6, e6, V6, f6⟩ := reactions_eq v h1 hA5
          have q169 : m6 169 a = mem 169 a := by rw [f6 169 a (by omega) (by omega), J3 169 a (by decide) (by decide), f4 169 a (by omega)]
          obtain ⟨m7, e7, K1, K2, K3⟩ := into_mod v h1 V6 (a := a) (p := b) h ⟨h3, hb2⟩ (by rw [q169]; exact s2)
          rw [q169] at e7 K1 K2
          have z169 : m5 169 a = mem 169 a := by rw [J3 169 a (by decide) (by decide), f4 169 a (by omega)]
          refine ⟨intoT (mem 150) (mem 169 a) b, m5, intoT (mem 150) (mem 169 a) b, m7, ?_, ?_, rfl, ?_⟩
          · rw [e4, ob_some, e5]
          · rw [Mo_isList_eq ha, ob_some, if_pos h, s32_1, if_1, Mo_stands_eq (by rw [hA5]; omega), hA5, ob_some, if_pos h1, s32_1, if_1, ck_id h.1 (by omega) (by omega), s32_id (a := a) (by omega) (by omega), z169, s32_id (a := mem 169 a) (by omega) (by omega), if_pos h2, if_pos h3, e6, ob_some, lt_id, e7]
          · have all : ∀ c i, kept c i → ¬ (c = 148 ∨ c = 168) → m7 c i = mem c i := fun c i hk hc => by
              unfold kept at hk
              rw [K3 c i (by omega) (by omega), f6 c i (by omega) (by omega), J3 c i (by omega) (by omega), f4 c i (by omega)]
            refine Rel_listsK R (fun r r0 r1 => ?_) (fun c i hk hc => all c i hk (by omega))
            obtain ⟨k1, k2, k3⟩ := ls r r0 r1
            rw [all 147 r (by unfold kept; omega) (by omega), all 169 r (by unfold kept; omega) (by omega)]
            refine ⟨k1, k2, fun k x y => ?_⟩
            have tb := intoT_b v (S := mem 169 a) (p := b) s2 h3
            have e148 : m7 148 (24 * r + k) = m5 148 (24 * r + k) := by rw [K3 148 _ (by omega) (by decide), f6 148 _ (by omega) (by omega)]
            have e168 : m6 168 (24 * r + k) = mem 168 (24 * r + k) := by rw [f6 168 _ (by omega) (by omega), J3 168 _ (by decide) (by decide), f4 168 _ (by omega)]
            rw [e148]
            by_cases c : 24 * a + b ≤ 24 * r + k ∧ 24 * r + k < 24 * a + (b + intoT (mem 150) (mem 169 a) b)
            · have u1 := J1 (24 * r + k - 24 * a - b) (by omega) (by omega)
              have u2 := K1 (24 * r + k - 24 * a - b) (by omega) (by omega)
              rw [show 24 * a + (b + (24 * r + k - 24 * a - b)) = 24 * r + k by omega] at u1 u2
              rw [u1, u2]
            · rw [J2 _ c, K2 _ c, e168, f4 148 _ (by omega)]
              exact k3 k x y
        · rw [if_neg h3]
          refine ⟨_, mem, _, mem, rfl, ?_, rfl, R⟩
          rw [Mo_isList_eq ha, ob_some, if_pos h, s32_1, if_1, Mo_stands_eq n4, ob_some, if_pos h1, s32_1, if_1, ck_id h.1 (by omega) (by omega), s32_id (a := a) (by omega) (by omega), s32_id (a := mem 169 a) (by omega) (by omega), if_pos h2, if_neg h3]
      · rw [if_neg h2, s32_0, if_0]
        refine ⟨_, mem, _, mem, rfl, ?_, rfl, R⟩
        rw [Mo_isList_eq ha, ob_some, if_pos h, s32_1, if_1, Mo_stands_eq n4, ob_some, if_pos h1, s32_1, if_1, ck_id h.1 (by omega) (by omega), s32_id (a := a) (by omega) (by omega), s32_id (a := mem 169 a) (by omega) (by omega), if_neg h2]
    · rw [if_neg h1, s32_0, if_0]
      refine ⟨_, mem, _, mem, rfl, ?_, rfl, R⟩
      rw [Mo_isList_eq ha, ob_some, if_pos h, s32_1, if_1, Mo_stands_eq n4, ob_some, if_neg h1, s32_0, if_0]
  · rw [if_neg h, s32_0, if_0]
    refine ⟨_, mem, _, mem, rfl, ?_, rfl, R⟩
    rw [Mo_isList_eq ha, ob_some, if_neg h, s32_0, if_0]
