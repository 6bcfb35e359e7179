/-! how much it sags: the class -/
def ri (A : Int → Int) (k : Int) : Int := 6 * MB A k 1 + 4 * CT A k - DD A * ZS A (deF k)
def bn (A : Int → Int) (k : Int) : Int := 12 * MB A k 1 + 12 * CT A k - 4 * (DD A * ZS A (deF k))
def slN (A : Int → Int) : Nat → Int
  | 0 => 0
  | n + 1 => slN A n - bn A (n : Int)
def wlN (A : Int → Int) : Nat → Int
  | 0 => 0
  | n + 1 => wlN A n + slN A n - ri A (n : Int)
def Sg (A : Int → Int) (x : Int) : Int := slN A x.toNat
def Wg (A : Int → Int) (x : Int) : Int := wlN A x.toNat
theorem Sg_next (A : Int → Int) {x : Int} (h : 0 ≤ x) : Sg A (x + 1) = Sg A x - bn A x := by
  unfold Sg
  rw [show (x + 1).toNat = x.toNat + 1 by omega]
  simp only [slN]
  rw [show ((x.toNat : Nat) : Int) = x by omega]
theorem Wg_next (A : Int → Int) {x : Int} (h : 0 ≤ x) : Wg A (x + 1) = Wg A x + Sg A x - ri A x := by
  unfold Wg Sg
  rw [show (x + 1).toNat = x.toNat + 1 by omega]
  simp only [wlN]
  rw [show ((x.toNat : Nat) : Int) = x by omega]
def rawA (A : Int → Int) (a k : Int) : Int := Wg A k - Wg A a - (k - a) * Sg A a
def GG (A : Int → Int) (j x : Int) : Int := (Wg A x - Wg A (aT A j)) * spA A j - (Wg A (aT A (j + 1)) - Wg A (aT A j)) * (x - aT A j)
def lf (A : Int → Int) (j : Int) : Int := -(rawA A (aT A j) (aT A (j + 1))) * QQ A j
theorem raw_next (A : Int → Int) {a k : Int} (h : 0 ≤ k) : rawA A a (k + 1) = rawA A a k + (Sg A k - Sg A a) - ri A k := by
  unfold rawA
  rw [Wg_next A h]
  grind
theorem raw_GG {A : Int → Int} (v : VA A) (hn : 2 ≤ A 1) {j : Int} (h0 : 0 ≤ j) (h1 : j + 1 < A 1) (x : Int) : rawA A (aT A j) x * PP A + (x - aT A j) * lf A j = QQ A j * GG A j x := by
  unfold lf rawA GG
  rw [← QQ_mul v hn h0 h1]
  unfold spA
  grind
theorem SV_sag {m m' : Mem} {A : Int → Int} (V : SV m A) (h : ∀ c i, ¬ c = 119 → ¬ (c = 111 ∧ i = 10) → m' c i = m c i) : SV m' A := by
  obtain ⟨a, b, c, d, e⟩ := V
  refine ⟨SF_fr a (h _ _ (by decide) (by decide)) (h _ _ (by decide) (by decide)) (fun c i hc => h c i (by omega) (by omega)), by rw [h _ _ (by decide) (by decide)]; exact b, by rw [h _ _ (by decide) (by decide)]; exact c, fun k k0 k1 => by rw [h _ _ (by omega) (by omega)]; exact d k k0 k1, fun x x0 x1 => ⟨by rw [h _ _ (by omega) (by omega)]; exact (e x x0 x1).1, by rw [h _ _ (by omega) (by omega)]; exact (e x x0 x1).2⟩⟩
theorem rise_eq {m : Mem} {A : Int → Int} (v : VA A) (V : SV m A) {k : Int} (h0 : 0 ≤ k) (h1 : k ≤ A 0) : Sta_rise k m = some (ri A k) := by
  have l10 := v.1
  obtain ⟨a, b, c, d, e⟩ := V
  unfold Sta_rise ri
  simp (disch := omega) only [ck_id, s32_id]
  rw [← (e k h0 h1).2, (e k h0 h1).1, b, (a.2 k h0 (by omega)).2]
  congr 1
  clear a b c d e
  grind
theorem bending_eq {m : Mem} {A : Int → Int} (v : VA A) (V : SV m A) {k : Int} (h0 : 0 ≤ k) (h1 : k ≤ A 0) : Sta_bending k m = some (bn A k) := by
  have l10 := v.1
  obtain ⟨a, b, c, d, e⟩ := V
  unfold Sta_bending bn
  simp (disch := omega) only [ck_id, s32_id]
  rw [← (e k h0 h1).2, (e k h0 h1).1, b, (a.2 k h0 (by omega)).2]
  congr 1
  clear a b c d e
  grind
theorem sagSpan_eq {m : Mem} {A : Int → Int} (v : VA A) (hn : 2 ≤ A 1) (V : SV m A) {j : Int} (h0 : 0 ≤ j) (h1 : j + 1 < A 1) : ∃ m', Sta_sagOfSpan j m = some (lf A j, m') ∧ (∀ k, aT A j ≤ k → k ≤ aT A (j + 1) → m' 119 k = QQ A j * GG A j k) ∧ (∀ c i, ¬ (c = 119 ∧ aT A j ≤ i ∧ i ≤ aT A (j + 1)) → m' c i = m c i) := by
  have l10 := v.1
  have n4 := v.2.1
  have ta := VA_at v h0 (by omega)
  have tb := VA_at v (k := j + 1) (by omega) h1
  have tl := VA_lt v h0 h1
  have pp := PP_pos v hn
  have hpa : m 112 j = aT A j := (V.1.1.2.2 j h0 (by omega)).1
  unfold Sta_sagOfSpan
  rw [ck_id h0 (by omega) (by omega), s32_id (a := j) (by omega) (by omega), hpa, ck_id ta.1 (by omega) (by omega), s32_id (a := aT A j) (by omega) (by omega), lt_id, ck_id h0 (by omega) (by omega), lt_id, mset_if, if_neg (by omega), hpa, jn_id]
  have V1 : SV (mset m 119 (aT A j) 0) A := SV_sag V (fun c i hc _ => by rw [mset_if, if_neg (fun z => hc z.1)])
  have loop1 : ∀ K : Mem → Option (Int × Mem), ∃ m3, Sta_sagOfSpan_L22 j K 2000 0 (aT A j) (mset m 119 (aT A j) 0) = K m3 ∧ (∀ k, aT A j ≤ k → k ≤ aT A (j + 1) → m3 119 k = rawA A (aT A j) k) ∧ (∀ c i, ¬ (c = 119 ∧ aT A j ≤ i ∧ i ≤ aT A (j + 1)) → m3 c i = m c i) := by
    intro K
    obtain ⟨m3, e, e1, e2⟩ := loopM (fun n i m => Sta_sagOfSpan_L22 j K n (Sg A i - Sg A (aT A j)) i m) (aT A (j + 1)) (fun i m' => (∀ k, aT A j ≤ k → k ≤ i → m' 119 k = rawA A (aT A j) k) ∧ (∀ c i, ¬ (c = 119 ∧ aT A j ≤ i ∧ i ≤ aT A (j + 1)) → m' c i = m c i)) K (aT A j)
      (fun n m' I => by
        show Sta_sagOfSpan_L22 j K (n + 1) _ (aT A (j + 1)) m' = K m'
        have V' : SV m' A := SV_sag V (fun c i hc _ => I.2 c i (fun z => hc z.1))
        rw [Sta_sagOfSpan_L22, ck_id (by omega) (by omega) (by omega), s32_id (a := j + 1) (by omega) (by omega), (V'.1.1.2.2 (j + 1) (by omega) h1).1, if_pos (Int.le_refl _)])
      (fun n i m' g0 g1 I => by
        show ∃ m'', Sta_sagOfSpan_L22 j K (n + 1) (Sg A i - Sg A (aT A j)) i m' = Sta_sagOfSpan_L22 j K n (Sg A (i + 1) - Sg A (aT A j)) (i + 1) m'' ∧ _
        have V' : SV m' A := SV_sag V (fun c i hc _ => I.2 c i (fun z => hc z.1))
        rw [Sta_sagOfSpan_L22, ck_id (by omega) (by omega) (by omega), s32_id (a := j + 1) (by omega) (by omega), (V'.1.1.2.2 (j + 1) (by omega) h1).1, s32_id (a := aT A (j + 1)) (by omega) (by omega), s32_id (a := i) (by omega) (by omega), if_neg (by omega), ck_id (by omega) (by omega) (by omega), rise_eq v V' (by omega) (by omega), ob_some, ck_id (by omega) (by omega) (by omega), lt_id, s32_id (a := i + 1) (by omega) (by omega)]
        have V2 : SV (mset m' 119 (i + 1) (m' 119 i + (Sg A i - Sg A (aT A j)) - ri A i)) A := SV_sag V' (fun c i hc _ => by rw [mset_if, if_neg (fun z => hc z.1)])
        rw [bending_eq v V2 (by omega) (by omega), ob_some, lt_id]
        refine ⟨mset m' 119 (i + 1) (m' 119 i + (Sg A i - Sg A (aT A j)) - ri A i), ?_, fun k k0 k1 => ?_, fun c q hc => ?_⟩
        · congr 1
          rw [Sg_next A (by omega)]; omega
        · rw [mset_c]
          by_cases c : k = i + 1
          · rw [if_pos c, c, raw_next A (by omega), I.1 i (by omega) (by omega)]
          · rw [if_neg c]; exact I.1 k k0 (by omega)
        · rw [mset_if, if_neg (fun z => hc ⟨z.1, by omega, by omega⟩)]; exact I.2 c q hc)
      (aT A (j + 1) - aT A j).toNat 2000 (aT A j) (mset m 119 (aT A j) 0) (by omega) (by omega) (by omega) ⟨fun k k0 k1 => by
        rw [show k = aT A j by omega, mset_here]; unfold rawA; grind, fun c i hc => by rw [mset_if, if_neg (fun z => hc ⟨z.1, by omega, by omega⟩)]⟩
    rw [show Sg A (aT A j) - Sg A (aT A j) = 0 by omega] at e
    exact ⟨m3, e, e1, e2⟩
  obtain ⟨m3, f1, f2, f3⟩ := loop1 (fun m3 => ck (j + 1) 4 (ck (m3 112 (s32 (j + 1))) 11 ((Sta_span j m3).bind (fun r4 => (BP_divide (m3 111 14) r4 m3).bind (fun r5 => lt (-(m3 119 (s32 (m3 112 (s32 (j + 1))))) * r5) (fun x6 => ck j 4 (lt (m3 112 j) (fun x7 => Sta_sagOfSpan_L112 j x6 2000 x7 m3))))))))
  rw [f1]
  have V3 : SV m3 A := SV_sag V (fun c i hc _ => f3 c i (fun z => hc z.1))
  rw [ck_id (by omega) (by omega) (by omega), s32_id (a := j + 1) (by omega) (by omega), (V3.1.1.2.2 (j + 1) (by omega) h1).1, ck_id tb.1 (by omega) (by omega), span_eq v V3.1.1 h0 h1, ob_some, V3.2.2.1, divide_QQ v hn h0 h1, ob_some, lt_id, ck_id h0 (by omega) (by omega), lt_id, (V3.1.1.2.2 j h0 (by omega)).1, s32_id (a := aT A (j + 1)) (by omega) (by omega), f2 _ (by omega) (by omega)]
  show ∃ m', Sta_sagOfSpan_L112 j (lf A j) 2000 (aT A j) m3 = some (lf A j, m') ∧ _
  obtain ⟨m', e, e1, e2, e3⟩ := loopM (fun n i m => Sta_sagOfSpan_L112 j (lf A j) n i m) (aT A (j + 1) + 1) (fun i m' => (∀ k, aT A j ≤ k → k < i → m' 119 k = QQ A j * GG A j k) ∧ (∀ k, i ≤ k → m' 119 k = m3 119 k) ∧ (∀ c i, ¬ (c = 119 ∧ aT A j ≤ i ∧ i ≤ aT A (j + 1)) → m' c i = m c i)) (fun m => some (lf A j, m)) (aT A j)
    (fun n m' I => by
      show Sta_sagOfSpan_L112 j (lf A j) (n + 1) (aT A (j + 1) + 1) m' = some (lf A j, m')
      have V' : SV m' A := SV_sag V (fun c i hc _ => I.2.2 c i (fun z => hc z.1))
      rw [Sta_sagOfSpan_L112, ck_id (by omega) (by omega) (by omega), s32_id (a := j + 1) (by omega) (by omega), (V'.1.1.2.2 (j + 1) (by omega) h1).1, s32_id (a := aT A (j + 1)) (by omega) (by omega), s32_id (a := aT A (j + 1) + 1) (by omega) (by omega), if_pos (by omega)])
    (fun n i m' g0 g1 I => by
      show ∃ m'', Sta_sagOfSpan_L112 j (lf A j) (n + 1) i m' = Sta_sagOfSpan_L112 j (lf A j) n (i + 1) m'' ∧ _
      have V' : SV m' A := SV_sag V (fun c i hc _ => I.2.2 c i (fun z => hc z.1))
      rw [Sta_sagOfSpan_L112, ck_id (by omega) (by omega) (by omega), s32_id (a := j + 1) (by omega) (by omega), (V'.1.1.2.2 (j + 1) (by omega) h1).1, s32_id (a := aT A (j + 1)) (by omega) (by omega), s32_id (a := i) (by omega) (by omega), if_neg (by omega), ck_id (by omega) (by omega) (by omega), ck_id h0 (by omega) (by omega), ck_id (by omega) (by omega) (by omega), lt_id, s32_id (a := j) (by omega) (by omega), (V'.1.1.2.2 j h0 (by omega)).1, s32_id (a := i - aT A j) (by omega) (by omega), V'.2.2.1, I.2.1 i (by omega), f2 i (by omega) (by omega), raw_GG v hn h0 h1]
      refine ⟨_, rfl, fun k k0 k1 => ?_, fun k k0 => ?_, fun c q hc => ?_⟩
      · rw [mset_c]
        by_cases c : k = i
        · rw [if_pos c, c]
        · rw [if_neg c]; exact I.1 k k0 (by omega)
      · rw [mset_c, if_neg (by omega)]; exact I.2.1 k (by omega)
      · rw [mset_if, if_neg (fun z => hc ⟨z.1, by omega, by omega⟩)]; exact I.2.2 c q hc)
    (aT A (j + 1) + 1 - aT A j).toNat 2000 (aT A j) m3 (by omega) (by omega) (by omega) ⟨fun k k0 k1 => by omega, fun _ _ => rfl, f3⟩
  exact ⟨m', e, fun k k0 k1 => e1 k k0 (by omega), e3⟩
def sgm (A : Int → Int) (j k : Int) : Int := lf A j + PP A * (Sg A k - Sg A (aT A j))
theorem GG_next {A : Int → Int} (v : VA A) (hn : 2 ≤ A 1) {j k : Int} (h0 : 0 ≤ j) (h1 : j + 1 < A 1) (hk : 0 ≤ k) : QQ A j * GG A j (k + 1) = QQ A j * GG A j k + sgm A j k - ri A k * PP A := by
  rw [← raw_GG v hn h0 h1, ← raw_GG v hn h0 h1, raw_next A hk]
  unfold sgm
  grind
theorem sagAhead_eq {m : Mem} {A : Int → Int} (v : VA A) (hn : 2 ≤ A 1) (V : SV m A) (h : m 119 (aT A 0) = QQ A 0 * GG A 0 (aT A 0)) : ∃ m', Sta_sagAheadOfFirst (lf A 0) m = some m' ∧ (∀ k, 0 ≤ k → k ≤ aT A 0 → m' 119 k = QQ A 0 * GG A 0 k) ∧ (∀ c i, ¬ (c = 119 ∧ 0 ≤ i ∧ i < aT A 0) → m' c i = m c i) := by
  have l10 := v.1
  have n4 := v.2.1
  have ta := VA_at v (k := 0) (by omega) (by omega)
  unfold Sta_sagAheadOfFirst
  rw [lt_id, (V.1.1.2.2 0 (by omega) (by omega)).1]
  obtain ⟨m', e, e1, e2⟩ := loopM (fun n t m => Sta_sagAheadOfFirst_L12 n (sgm A 0 (aT A 0 - t)) (aT A 0 - 1 - t) m) (aT A 0) (fun t m' => (∀ k, aT A 0 - t ≤ k → k ≤ aT A 0 → m' 119 k = QQ A 0 * GG A 0 k) ∧ (∀ c i, ¬ (c = 119 ∧ 0 ≤ i ∧ i < aT A 0) → m' c i = m c i)) some 0
    (fun n m' I => by
      show Sta_sagAheadOfFirst_L12 (n + 1) _ (aT A 0 - 1 - aT A 0) m' = some m'
      rw [Sta_sagAheadOfFirst_L12, s32_id (a := aT A 0 - 1 - aT A 0) (by omega) (by omega), if_pos (by omega)])
    (fun n t m' g0 g1 I => by
      show ∃ m'', Sta_sagAheadOfFirst_L12 (n + 1) (sgm A 0 (aT A 0 - t)) (aT A 0 - 1 - t) m' = Sta_sagAheadOfFirst_L12 n (sgm A 0 (aT A 0 - (t + 1))) (aT A 0 - 1 - (t + 1)) m'' ∧ _
      have V' : SV m' A := SV_sag V (fun c i hc _ => I.2 c i (fun z => hc z.1))
      have hk : sgm A 0 (aT A 0 - (t + 1)) = sgm A 0 (aT A 0 - t) + bn A (aT A 0 - 1 - t) * PP A := by
        have := Sg_next A (x := aT A 0 - 1 - t) (by omega)
        rw [show aT A 0 - 1 - t + 1 = aT A 0 - t by omega] at this
        unfold sgm
        rw [this, show aT A 0 - (t + 1) = aT A 0 - 1 - t by omega]
        grind
      rw [hk, Sta_sagAheadOfFirst_L12]
      generalize hkk : aT A 0 - 1 - t = k at *
      rw [s32_id (a := k) (by omega) (by omega), if_neg (by omega), bending_eq v V' (by omega) (by omega), ob_some, V'.2.2.1, lt_id, ck_id (by omega) (by omega) (by omega), rise_eq v V' (by omega) (by omega), ob_some, ck_id (by omega) (by omega) (by omega), lt_id, s32_id (a := k + 1) (by omega) (by omega), show aT A 0 - 1 - (t + 1) = k + -1 by omega]
      refine ⟨_, rfl, fun q q0 q1 => ?_, fun c q hc => ?_⟩
      · rw [mset_c]
        by_cases c : q = k
        · rw [if_pos c, c, I.1 (k + 1) (by omega) (by omega), GG_next v hn (by omega) (by omega) (by omega)]
          have : sgm A 0 (aT A 0 - t) + bn A k * PP A = sgm A 0 k := by rw [← hk]; congr 1; omega
          rw [this]; omega
        · rw [if_neg c]; exact I.1 q (by omega) q1
      · rw [mset_if, if_neg (fun z => hc ⟨z.1, by omega, by omega⟩)]; exact I.2 c q hc)
    (aT A 0).toNat 2000 0 m (by omega) (by omega) (by omega) ⟨fun k k0 k1 => by rw [show k = aT A 0 by omega]; exact h, fun _ _ _ => rfl⟩
  rw [show sgm A 0 (aT A 0 - 0) = lf A 0 by unfold sgm; rw [Int.sub_zero]; grind, Int.sub_zero] at e
  exact ⟨m', e, fun k k0 k1 => e1 k (by omega) k1, e2⟩
theorem sagBehind_eq {m : Mem} {A : Int → Int} (v : VA A) (hn : 2 ≤ A 1) (V : SV m A) (h : m 119 (aT A (A 1 - 2 + 1)) = QQ A (A 1 - 2) * GG A (A 1 - 2) (aT A (A 1 - 2 + 1))) : ∃ m', Sta_sagBehindLast (lf A (A 1 - 2)) m = some m' ∧ (∀ k, aT A (A 1 - 2 + 1) ≤ k → k ≤ A 0 → m' 119 k = QQ A (A 1 - 2) * GG A (A 1 - 2) k) ∧ (∀ c i, ¬ (c = 119 ∧ aT A (A 1 - 2 + 1) < i ∧ i ≤ A 0) → m' c i = m c i) := by
  have l10 := v.1
  have n4 := v.2.1
  have ta := VA_at v (k := A 1 - 2) (by omega) (by omega)
  have tb := VA_at v (k := A 1 - 2 + 1) (by omega) (by omega)
  have tl := VA_lt v (k := A 1 - 2) (by omega) (by omega)
  unfold Sta_sagBehindLast
  rw [V.1.1.2.1, ck_id (by omega) (by omega) (by omega), s32_id (a := A 1 - 2) (by omega) (by omega), lt_id, (V.1.1.2.2 (A 1 - 2) (by omega) (by omega)).1]
  obtain ⟨m', e, e1, e2⟩ := loopM (fun n i m => Sta_sagBehindLast_L15 n (sgm A (A 1 - 2) i) i m) (A 0) (fun i m' => (∀ k, aT A (A 1 - 2 + 1) ≤ k → k ≤ i ∨ k = aT A (A 1 - 2 + 1) → m' 119 k = QQ A (A 1 - 2) * GG A (A 1 - 2) k) ∧ (∀ c i, ¬ (c = 119 ∧ aT A (A 1 - 2 + 1) < i ∧ i ≤ A 0) → m' c i = m c i)) some (aT A (A 1 - 2))
    (fun n m' I => by
      show Sta_sagBehindLast_L15 (n + 1) _ (A 0) m' = some m'
      rw [Sta_sagBehindLast_L15, I.2 _ _ (by omega), V.1.1.1, if_pos (Int.le_refl _)])
    (fun n i m' g0 g1 I => by
      show ∃ m'', Sta_sagBehindLast_L15 (n + 1) (sgm A (A 1 - 2) i) i m' = Sta_sagBehindLast_L15 n (sgm A (A 1 - 2) (i + 1)) (i + 1) m'' ∧ _
      have V' : SV m' A := SV_sag V (fun c i hc _ => I.2 c i (fun z => hc z.1))
      have hk : sgm A (A 1 - 2) (i + 1) = sgm A (A 1 - 2) i - bn A i * PP A := by
        unfold sgm
        rw [Sg_next A (by omega)]
        grind
      rw [hk, Sta_sagBehindLast_L15, V'.1.1.1, V'.1.1.2.1, s32_id (a := A 0) (by omega) (by omega), s32_id (a := i) (by omega) (by omega), if_neg (by omega), ck_id (by omega) (by omega) (by omega), jn_id, s32_id (a := A 1 - 1) (by omega) (by omega), (V'.1.1.2.2 (A 1 - 1) (by omega) (by omega)).1, s32_id (a := aT A (A 1 - 1)) (by rw [show A 1 - 1 = A 1 - 2 + 1 by omega]; omega) (by rw [show A 1 - 1 = A 1 - 2 + 1 by omega]; omega), show A 1 - 1 = A 1 - 2 + 1 by omega]
      by_cases c : i < aT A (A 1 - 2 + 1)
      · rw [if_pos c]
        dsimp only
        rw [bending_eq v V' (by omega) (by omega), ob_some, V'.2.2.1, lt_id]
        exact ⟨m', rfl, fun k k0 k1 => I.1 k k0 (by omega), I.2⟩
      · rw [if_neg c, ck_id (by omega) (by omega) (by omega), rise_eq v V' (by omega) (by omega), ob_some, ck_id (by omega) (by omega) (by omega), lt_id, V'.2.2.1, s32_id (a := i + 1) (by omega) (by omega)]
        have V2 : SV (mset m' 119 (i + 1) (m' 119 i + sgm A (A 1 - 2) i - ri A i * PP A)) A := SV_sag V' (fun c i hc _ => by rw [mset_if, if_neg (fun z => hc z.1)])
        dsimp only
        rw [bending_eq v V2 (by omega) (by omega), ob_some, V2.2.2.1, lt_id]
        refine ⟨_, rfl, fun q q0 q1 => ?_, fun c q hc => ?_⟩
        · rw [mset_c]
          by_cases f : q = i + 1
          · rw [if_pos f, f, I.1 i (by omega) (by omega), GG_next v hn (by omega) (by omega) (by omega)]
          · rw [if_neg f]; exact I.1 q q0 (by omega)
        · rw [mset_if, if_neg (fun z => hc ⟨z.1, by omega, by omega⟩)]; exact I.2 c q hc)
    (A 0 - aT A (A 1 - 2)).toNat 2000 (aT A (A 1 - 2)) m (by omega) (by omega) (by omega) ⟨fun k k0 k1 => by rw [show k = aT A (A 1 - 2 + 1) by omega]; exact h, fun _ _ _ => rfl⟩
  rw [show sgm A (A 1 - 2) (aT A (A 1 - 2)) = lf A (A 1 - 2) by unfold sgm; grind] at e
  exact ⟨m', e, fun k k0 k1 => e1 k (by omega) (by omega), e2⟩
