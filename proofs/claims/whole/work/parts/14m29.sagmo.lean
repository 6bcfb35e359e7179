/-! how much it sags: the model -/
def IsK (A : Int → Int) (x j : Int) : Prop := 0 ≤ j ∧ j + 1 < A 1 ∧ (∀ i, 0 ≤ i → i < j → aT A (i + 1) < x) ∧ (j = A 1 - 2 ∨ x ≤ aT A (j + 1))
theorem IsK_J {A : Int → Int} {x j : Int} (h : IsK A x j) : IsJ A x j := by
  obtain ⟨h0, h1, h2, h3⟩ := h
  refine ⟨h0, h1, ?_, h3⟩
  by_cases c : j = 0
  · exact Or.inl c
  · have := h2 (j - 1) (by omega) (by omega)
    rw [show j - 1 + 1 = j by omega] at this
    exact Or.inr (by omega)
theorem IsK_ex {A : Int → Int} (hn : 2 ≤ A 1) (x : Int) : ∃ j, IsK A x j := by
  have key : ∀ d : Nat, ∀ i : Int, 0 ≤ i → i + (d : Int) = A 1 - 2 → (∀ q, 0 ≤ q → q < i → aT A (q + 1) < x) → ∃ j, IsK A x j := by
    intro d
    induction d with
    | zero => intro i i0 i1 hq; exact ⟨i, i0, by omega, hq, Or.inl (by omega)⟩
    | succ d ih =>
      intro i i0 i1 hq
      by_cases c : x ≤ aT A (i + 1)
      · exact ⟨i, i0, by omega, hq, Or.inr c⟩
      · refine ih (i + 1) (by omega) (by omega) (fun q q0 q1 => ?_)
        by_cases e : q = i
        · rw [e]; omega
        · exact hq q q0 (by omega)
  exact key (A 1 - 2).toNat 0 (by omega) (by omega) (fun q q0 q1 => by omega)
theorem sagIdx {A : Int → Int} (v : VA A) {m : Mem} (hA : m 150 = A) {x j : Int} (hx : 0 ≤ x ∧ x ≤ 10) (h : IsK A x j) (K : Int → Option (Int × Mem)) : ∀ (d n : Nat) (i : Int), 0 ≤ i → i + (d : Int) = j → d < n → Mo_sagAt_L2 x m K n i = K j := by
  have n4 := v.2.1
  have l10 := v.1
  obtain ⟨h0, h1, h2, h3⟩ := h
  intro d
  induction d with
  | zero =>
    intro n i i0 i1 hd
    obtain ⟨n', rfl⟩ : ∃ n', n = n' + 1 := ⟨n - 1, by omega⟩
    have e : i = j := by omega
    subst e
    have tb := VA_at v (k := i + 1) (by omega) h1
    rw [Mo_sagAt_L2, hA, s32_id (a := A 1 - 2) (by omega) (by omega), s32_id (a := i) (by omega) (by omega)]
    by_cases c : A 1 - 2 ≤ i
    · rw [if_pos c]
    · rw [if_neg c, ck_id (by omega) (by omega) (by omega), s32_id (a := 2 + i + 1) (by omega) (by omega), show A (2 + i + 1) = aT A (i + 1) by unfold aT; congr 1; omega, s32_id (a := x) (by omega) (by omega), s32_id (a := aT A (i + 1)) (by omega) (by omega), if_pos (by omega)]
  | succ d ih =>
    intro n i i0 i1 hd
    obtain ⟨n', rfl⟩ : ∃ n', n = n' + 1 := ⟨n - 1, by omega⟩
    have tb := VA_at v (k := i + 1) (by omega) (by omega)
    have := h2 i i0 (by omega)
    rw [Mo_sagAt_L2, hA, s32_id (a := A 1 - 2) (by omega) (by omega), s32_id (a := i) (by omega) (by omega), if_neg (by omega), ck_id (by omega) (by omega) (by omega), s32_id (a := 2 + i + 1) (by omega) (by omega), show A (2 + i + 1) = aT A (i + 1) by unfold aT; congr 1; omega, s32_id (a := x) (by omega) (by omega), s32_id (a := aT A (i + 1)) (by omega) (by omega), if_neg (by omega)]
    exact ih n' (i + 1) (by omega) (by omega) (by omega)
theorem wideIdx {A : Int → Int} (v : VA A) {m : Mem} (hA : m 150 = A) {x j : Int} (hx : 0 ≤ x ∧ x ≤ 10) (h : IsK A x j) (K : Int → Option Int) : ∀ (d n : Nat) (i : Int), 0 ≤ i → i + (d : Int) = j → d < n → Mo_wideAt_L2 x m K n i = K j := by
  have n4 := v.2.1
  have l10 := v.1
  obtain ⟨h0, h1, h2, h3⟩ := h
  intro d
  induction d with
  | zero =>
    intro n i i0 i1 hd
    obtain ⟨n', rfl⟩ : ∃ n', n = n' + 1 := ⟨n - 1, by omega⟩
    have e : i = j := by omega
    subst e
    have tb := VA_at v (k := i + 1) (by omega) h1
    rw [Mo_wideAt_L2, hA, s32_id (a := A 1 - 2) (by omega) (by omega), s32_id (a := i) (by omega) (by omega)]
    by_cases c : A 1 - 2 ≤ i
    · rw [if_pos c]
    · rw [if_neg c, ck_id (by omega) (by omega) (by omega), s32_id (a := 2 + i + 1) (by omega) (by omega), show A (2 + i + 1) = aT A (i + 1) by unfold aT; congr 1; omega, s32_id (a := x) (by omega) (by omega), s32_id (a := aT A (i + 1)) (by omega) (by omega), if_pos (by omega)]
  | succ d ih =>
    intro n i i0 i1 hd
    obtain ⟨n', rfl⟩ : ∃ n', n = n' + 1 := ⟨n - 1, by omega⟩
    have tb := VA_at v (k := i + 1) (by omega) (by omega)
    have := h2 i i0 (by omega)
    rw [Mo_wideAt_L2, hA, s32_id (a := A 1 - 2) (by omega) (by omega), s32_id (a := i) (by omega) (by omega), if_neg (by omega), ck_id (by omega) (by omega) (by omega), s32_id (a := 2 + i + 1) (by omega) (by omega), show A (2 + i + 1) = aT A (i + 1) by unfold aT; congr 1; omega, s32_id (a := x) (by omega) (by omega), s32_id (a := aT A (i + 1)) (by omega) (by omega), if_neg (by omega)]
    exact ih n' (i + 1) (by omega) (by omega) (by omega)
theorem wideAt_eq {A : Int → Int} (v : VA A) {m : Mem} (hA : m 150 = A) {x j : Int} (hx : 0 ≤ x ∧ x ≤ 10) (h : IsK A x j) : Mo_wideAt x m = some (spA A j) := by
  unfold Mo_wideAt
  rw [jn_id, wideIdx v hA hx h _ j.toNat 2000 0 (by omega) (by have := h.1; omega) (by have := h.2.1; have := v.2.1; omega)]
  rw [spanOf_eq v hA h.1 h.2.1, ob_some]
def f159 (m' m : Mem) : Prop := ∀ c i, ¬ c = 159 → m' c i = m c i
theorem MV_159 {m m' : Mem} {A : Int → Int} (V : MV m A) (h : f159 m' m) : MV m' A := by
  obtain ⟨a, b, c⟩ := V
  exact ⟨by rw [← a]; funext i; exact h 150 i (by decide), by rw [h _ _ (by decide)]; exact b, fun k k0 k1 => by rw [h _ _ (by decide), h _ _ (by decide)]; exact c k k0 k1⟩
theorem parts_eq {A : Int → Int} (v : VA A) (hn : 2 ≤ A 1) {m : Mem} (V : MV m A) {i : Int} (h0 : 0 ≤ i) (h1 : i ≤ A 0) : ∃ r s q, Mo_momentAt i 1 m = some r ∧ Mo_shearBehind i m = some s ∧ Mo_spreadOn i m = some q ∧ s32 q = q ∧ r * DD A = MB A i 1 * m 149 13 ∧ s * DD A = CT A i * m 149 13 ∧ (12 * r + 12 * s - 4 * (q * m 149 13)) * DD A = bn A i * m 149 13 ∧ (6 * r + 4 * s - q * m 149 13) * DD A = ri A i * m 149 13 ∧ q = ZS A (deF i) := by
  have l10 := v.1
  obtain ⟨r, r1, r2⟩ := momentAt_eq v hn V (a := i) (b := 1) (by omega) (by omega)
  obtain ⟨s, s1, s2⟩ := shearBehind_eq v hn V (x := i) (by omega)
  have z := (ZS_pl v (p := i) (by omega)).2.2.2
  unfold ab at z
  refine ⟨r, s, ZS A (deF i), r1, s1, spreadOn_eq v V.1 (by omega), s32_id (by omega) (by omega), r2, s2, ?_, ?_, rfl⟩
  · unfold bn
    have e : (12 * r + 12 * s - 4 * (ZS A (deF i) * m 149 13)) * DD A = 12 * (r * DD A) + 12 * (s * DD A) - 4 * (ZS A (deF i) * m 149 13 * DD A) := by clear r1 s1 V; grind
    rw [e, r2, s2]
    clear r1 s1 V e r2 s2
    grind
  · unfold ri
    have e : (6 * r + 4 * s - ZS A (deF i) * m 149 13) * DD A = 6 * (r * DD A) + 4 * (s * DD A) - (ZS A (deF i) * m 149 13 * DD A) := by clear r1 s1 V; grind
    rw [e, r2, s2]
    clear r1 s1 V e r2 s2
    grind
theorem fwd_eq {A : Int → Int} (v : VA A) (hn : 2 ≤ A 1) {m0 : Mem} (V : MV m0 A) {a : Int} (ha : 0 ≤ a) (K : Mem → Option (Int × Mem)) : ∀ (d n : Nat) (i s : Int) (m : Mem), a ≤ i → i + (d : Int) = A 0 → d < n → f159 m m0 → s * DD A = (Sg A a - Sg A i) * m0 149 13 → (∀ k, a ≤ k → k ≤ i → m 159 k * DD A = -(rawA A a k) * m0 149 13) → ∃ m', Mo_sagAt_L68 K n s i m = K m' ∧ f159 m' m0 ∧ (∀ k, a ≤ k → k ≤ A 0 → m' 159 k * DD A = -(rawA A a k) * m0 149 13) := by
  have l10 := v.1
  intro d
  induction d with
  | zero =>
    intro n i s m i0 i1 hd hf hs hm
    obtain ⟨n', rfl⟩ : ∃ n', n = n' + 1 := ⟨n - 1, by omega⟩
    have e : i = A 0 := by omega
    subst e
    refine ⟨m, ?_, hf, hm⟩
    rw [Mo_sagAt_L68, (MV_159 V hf).1, if_pos (Int.le_refl _)]
  | succ d ih =>
    intro n i s m i0 i1 hd hf hs hm
    obtain ⟨n', rfl⟩ : ∃ n', n = n' + 1 := ⟨n - 1, by omega⟩
    have V' := MV_159 V hf
    obtain ⟨r, t, q, p1, p2, p3, p4, p5, p6, p7, p8, p9⟩ := parts_eq v hn V' (i := i) (by omega) (by omega)
    have o : m 149 13 = m0 149 13 := hf _ _ (by decide)
    rw [o] at p7 p8
    rw [Mo_sagAt_L68, V'.1, s32_id (a := A 0) (by omega) (by omega), s32_id (a := i) (by omega) (by omega), if_neg (by omega), p1, ob_some, p2, ob_some, p3, ob_some, lt_id, ck_id (by omega) (by omega) (by omega), ck_id (by omega) (by omega) (by omega), lt_id, lt_id, p4, o, s32_id (a := i + 1) (by omega) (by omega)]
    refine ih n' (i + 1) _ _ (by omega) (by omega) (by omega) (fun c k hc => by rw [mset_if, if_neg (fun z => hc z.1)]; exact hf c k hc) ?_ (fun k k0 k1 => ?_)
    · rw [Sg_next A (by omega), Int.add_mul, hs]
      have e : (12 * r + 12 * t - 4 * (q * m0 149 13)) * DD A = bn A i * m0 149 13 := p7
      rw [e]
      clear ih hm hf V V' p1 p2 p3 p4 p5 p6 p7 p8 e hs
      grind
    · rw [mset_c]
      by_cases c : k = i + 1
      · rw [if_pos c, c, raw_next A (by omega)]
        have h2 := hm i i0 (Int.le_refl i)
        have e : (m 159 i + s + 6 * r + 4 * t - q * m0 149 13) * DD A = m 159 i * DD A + s * DD A + (6 * r + 4 * t - q * m0 149 13) * DD A := by clear ih hm hf V V' p1 p2 p3 p4 p5 p6 p7 p8 hs; grind
        rw [e, h2, hs, p8]
        clear ih hm hf V V' p1 p2 p3 p4 p5 p6 p7 p8 hs e h2
        grind
      · rw [if_neg c]; exact hm k k0 (by omega)
theorem bwd_eq {A : Int → Int} (v : VA A) (hn : 2 ≤ A 1) {m0 : Mem} (V : MV m0 A) {a : Int} (ha : 0 ≤ a ∧ a ≤ A 0) (K : Mem → Option (Int × Mem)) : ∀ (d n : Nat) (i s : Int) (m : Mem), i + 1 = (d : Int) → i < a → d < n → f159 m m0 → s * DD A = (Sg A a - Sg A (i + 1)) * m0 149 13 → (∀ k, i + 1 ≤ k → k ≤ A 0 → m 159 k * DD A = -(rawA A a k) * m0 149 13) → ∃ m', Mo_sagAt_L186 K n s i m = K m' ∧ f159 m' m0 ∧ (∀ k, 0 ≤ k → k ≤ A 0 → m' 159 k * DD A = -(rawA A a k) * m0 149 13) := by
  have l10 := v.1
  intro d
  induction d with
  | zero =>
    intro n i s m i0 i1 hd hf hs hm
    obtain ⟨n', rfl⟩ : ∃ n', n = n' + 1 := ⟨n - 1, by omega⟩
    refine ⟨m, ?_, hf, fun k k0 k1 => hm k (by omega) k1⟩
    rw [Mo_sagAt_L186, s32_id (a := i) (by omega) (by omega), if_pos (by omega)]
  | succ d ih =>
    intro n i s m i0 i1 hd hf hs hm
    obtain ⟨n', rfl⟩ : ∃ n', n = n' + 1 := ⟨n - 1, by omega⟩
    have V' := MV_159 V hf
    obtain ⟨r, t, q, p1, p2, p3, p4, p5, p6, p7, p8, p9⟩ := parts_eq v hn V' (i := i) (by omega) (by omega)
    have o : m 149 13 = m0 149 13 := hf _ _ (by decide)
    rw [o] at p7 p8
    rw [Mo_sagAt_L186, s32_id (a := i) (by omega) (by omega), if_neg (by omega), p1, ob_some, p2, ob_some, p3, ob_some, lt_id, lt_id, ck_id (by omega) (by omega) (by omega), ck_id (by omega) (by omega) (by omega), lt_id, p4, o, s32_id (a := i + 1) (by omega) (by omega)]
    have sg := Sg_next A (x := i) (by omega)
    have hs' : (s - (12 * r + 12 * t - 4 * (q * m0 149 13))) * DD A = (Sg A a - Sg A i) * m0 149 13 := by
      have e : (12 * r + 12 * t - 4 * (q * m0 149 13)) * DD A = bn A i * m0 149 13 := p7
      rw [Int.sub_mul, hs, e, sg]
      clear ih hm hf V V' p1 p2 p3 p4 p5 p6 p7 p8 e hs
      grind
    refine ih n' (i + -1) _ _ (by omega) (by omega) (by omega) (fun c k hc => by rw [mset_if, if_neg (fun z => hc z.1)]; exact hf c k hc) ?_ (fun k k0 k1 => ?_)
    · rw [show i + -1 + 1 = i by omega]; exact hs'
    · rw [mset_c]
      by_cases c : k = i
      · rw [if_pos c, c]
        have h2 := hm (i + 1) (Int.le_refl _) (by omega)
        rw [raw_next A (by omega)] at h2
        have e : (m 159 (i + 1) - (s - (12 * r + 12 * t - 4 * (q * m0 149 13))) - 6 * r - 4 * t + q * m0 149 13) * DD A = m 159 (i + 1) * DD A - (s - (12 * r + 12 * t - 4 * (q * m0 149 13))) * DD A - (6 * r + 4 * t - q * m0 149 13) * DD A := by clear ih hm hf V V' p1 p2 p3 p4 p5 p6 p7 p8 hs hs' h2 sg; grind
        rw [e, h2, hs', p8]
        clear ih hm hf V V' p1 p2 p3 p4 p5 p6 p7 p8 hs e h2 hs' sg
        grind
      · rw [if_neg c]; exact hm k (by omega) k1
theorem sagAt_eq {A : Int → Int} (v : VA A) (hn : 2 ≤ A 1) {m : Mem} (V : MV m A) {x j : Int} (hx : 0 ≤ x ∧ x ≤ A 0) (h : IsK A x j) : ∃ r m', Mo_sagAt x m = some (r, m') ∧ r * DD A = GG A j x * m 149 13 ∧ f159 m' m := by
  have n4 := v.2.1
  have l10 := v.1
  have hA := V.1
  have hj := h
  obtain ⟨h0, h1, h2, h3⟩ := h
  have ta := VA_at v h0 (show j < A 1 by omega)
  have tb := VA_at v (k := j + 1) (by omega) h1
  unfold Mo_sagAt
  rw [jn_id, sagIdx v hA (by omega) hj _ j.toNat 2000 0 (by omega) (by omega) (by omega)]
  rw [ck_id (by omega) (by omega) (by omega), s32_id (a := 2 + j) (by omega) (by omega), hA, show A (2 + j) = aT A j from rfl, lt_id, ck_id (by omega) (by omega) (by omega), s32_id (a := 2 + j + 1) (by omega) (by omega), show A (2 + j + 1) = aT A (j + 1) by unfold aT; congr 1; omega, lt_id, ck_id (by omega) (by omega) (by omega), s32_id (a := aT A j) (by omega) (by omega), lt_id, jn_id]
  obtain ⟨m5, e5, f5, g5⟩ := fwd_eq v hn V ta.1 (fun m5 => lt (aT A j - 1) (fun x6 => jn (fun (m7 : Mem) => ck (aT A (j + 1)) 11 (ck x 11 (some ((((m7 159 (s32 (aT A (j + 1)))) * (s32 (x - aT A j))) - ((m7 159 (s32 x)) * (s32 (aT A (j + 1) - aT A j)))), m7)))) (fun (k290 : Mem → Option (Int × Mem)) => (Mo_sagAt_L186 k290 2000 0 x6 m5)))) (A 0 - aT A j).toNat 2000 (aT A j) 0 (mset m 159 (aT A j) 0) (by omega) (by omega) (by omega) (fun c i hc => by rw [mset_if, if_neg (fun z => hc z.1)]) (by rw [Int.sub_self]; omega) (fun k k0 k1 => by
    rw [show k = aT A j by omega, mset_here]; unfold rawA; grind)
  rw [e5, lt_id, jn_id]
  obtain ⟨m7, e7, f7, g7⟩ := bwd_eq v hn V ta (fun m7 => ck (aT A (j + 1)) 11 (ck x 11 (some ((((m7 159 (s32 (aT A (j + 1)))) * (s32 (x - aT A j))) - ((m7 159 (s32 x)) * (s32 (aT A (j + 1) - aT A j)))), m7)))) (aT A j).toNat 2000 (aT A j - 1) 0 m5 (by omega) (by omega) (by omega) f5 (by rw [show aT A j - 1 + 1 = aT A j by omega, Int.sub_self]; omega) (fun k k0 k1 => g5 k (by omega) k1)
  rw [e7, ck_id tb.1 (by omega) (by omega), ck_id hx.1 (by omega) (by omega), s32_id (a := aT A (j + 1)) (by omega) (by omega), s32_id (a := x) (by omega) (by omega), s32_id (a := x - aT A j) (by omega) (by omega), s32_id (a := aT A (j + 1) - aT A j) (by omega) (by omega)]
  refine ⟨_, m7, rfl, ?_, f7⟩
  have y1 := g7 (aT A (j + 1)) tb.1 tb.2
  have y2 := g7 x hx.1 hx.2
  have e : (m7 159 (aT A (j + 1)) * (x - aT A j) - m7 159 x * (aT A (j + 1) - aT A j)) * DD A = (m7 159 (aT A (j + 1)) * DD A) * (x - aT A j) - (m7 159 x * DD A) * (aT A (j + 1) - aT A j) := by clear y1 y2 e7 f7 g7 e5 f5 g5 V; grind
  rw [e, y1, y2]
  unfold GG rawA spA
  clear y1 y2 e7 f7 g7 e5 f5 g5 V e h2 h3 hj
  grind
