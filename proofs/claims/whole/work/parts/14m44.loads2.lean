/-! calls that change the beam: loads -/
theorem Rel_edit {mem mc mm : Mem} (R : Rel mem) (hC : CHist mc (kh (mem 149 4)) (kH (mem 150) (mem 149 4) (mH mem))) (hB : RB mc 1 (mm 150)) (vB : VA (mm 150)) (fc : ∀ c i, (c = 0 ∨ 102 ≤ c) → mc c i = mem c i) (h4 : mm 149 4 = kh (mem 149 4)) (hH : ∀ k i, 0 ≤ k → k < kh (mem 149 4) → 0 ≤ i → i < 36 → mH mm k i = kH (mem 150) (mem 149 4) (mH mem) k i) (fm : ∀ c i, ¬ (c = 150 ∨ c = 152 ∨ (c = 149 ∧ i = 4)) → mm c i = mc c i) : Rel mm := by
  obtain ⟨⟨n1, n2⟩, ⟨q1, q2, q3, q4⟩, im, ⟨t1, t2, t3⟩, ⟨p1, p2, p3⟩, ls, ⟨c1, c2, c3, c4, c5⟩⟩ := R
  have g : ∀ c i, (c = 0 ∨ 102 ≤ c) → ¬ (c = 150 ∨ c = 152 ∨ (c = 149 ∧ i = 4)) → mm c i = mem c i := fun c i x y => by rw [fm c i y, fc c i x]
  have hk : 0 ≤ kh (mem 149 4) ∧ kh (mem 149 4) ≤ 10 := by unfold kh; split <;> omega
  obtain ⟨d1, d2, d3⟩ := hC
  refine ⟨⟨vB, RB_frame hB (fun c i _ _ => fm c i (by omega))⟩, ⟨by rw [h4]; exact hk, by rw [h4, fm _ _ (by omega)]; exact d1, by rw [fm _ _ (by omega)]; exact d2, fun k k0 k1 => ?_⟩, ?_, ⟨by rw [g _ _ (by omega) (by omega)]; exact t1, by rw [g _ _ (by omega) (by omega), g _ _ (by omega) (by omega)]; exact t2, fun k a b => ?_⟩, ⟨by rw [g _ _ (by omega) (by omega)]; exact p1, by rw [g _ _ (by omega) (by omega), g _ _ (by omega) (by omega)]; exact p2, fun k a b => ?_⟩, fun r a b => ?_, ⟨?_, ?_, fun i => ?_, fun i => ?_, fun i => ?_⟩⟩
  · rw [h4] at k1
    have vk : VA (kH (mem 150) (mem 149 4) (mH mem) k) := by
      unfold kH
      unfold kh at k1
      by_cases c : mem 149 4 = 10
      · rw [if_pos c] at k1
        rw [if_pos c]
        by_cases d : k = 9
        · rw [if_pos d]; exact n1
        · rw [if_neg d]; exact (q4 (k + 1) (by omega) (by omega)).1
      · rw [if_neg c] at k1
        rw [if_neg c]
        by_cases d : k = mem 149 4
        · rw [if_pos d]; exact n1
        · rw [if_neg d]; exact (q4 k k0 (by omega)).1
    have rk : RB mm (ring (mm 10 1) (mm 149 4) k) (kH (mem 150) (mem 149 4) (mH mem) k) := by
      rw [fm 10 1 (by omega), h4]
      refine RB_frame (d3 k k0 k1) (fun c i x0 x1 => fm c i ?_)
      have := ring_le (n := mc 10 1) (h := kh (mem 149 4)) (k := k)
      omega
    have := RB_congr rk (B := fun i => mm 152 (36 * k + i)) (fun i i0 i1 => hH k i k0 k1 i0 i1) vk
    exact ⟨this.2, this.1⟩
  · unfold RImage
    rw [g 0 3 (by omega) (by omega), g 149 2 (by omega) (by omega)]
    have e151 : mm 151 = mem 151 := by funext i; exact g 151 i (by omega) (by omega)
    rw [e151]
    rcases im with x | ⟨x1, x2, x3, x4⟩
    · exact Or.inl x
    · exact Or.inr ⟨x1, x2, x3, RB_frame x4 (fun c i y0 y1 => g c i (by omega) (by omega))⟩
  · rw [g 149 23 (by omega) (by omega)] at b
    rw [g 141 k (by omega) (by omega), g 161 k (by omega) (by omega)]; exact t3 k a b
  · rw [g 149 32 (by omega) (by omega)] at b
    rw [g 144 k (by omega) (by omega), g 167 k (by omega) (by omega)]; exact p3 k a b
  · obtain ⟨l1, l2, l3⟩ := ls r a b
    rw [g 147 r (by omega) (by omega), g 169 r (by omega) (by omega)]
    refine ⟨l1, l2, fun k x y => ?_⟩
    rw [g 148 _ (by omega) (by omega), g 168 _ (by omega) (by omega)]
    exact l3 k x y
  · rw [g 120 3 (by omega) (by omega)]; exact c1
  · rw [g 123 3 (by omega) (by omega)]; exact c2
  · rw [g 162 i (by omega) (by omega)]; exact c3 i
  · rw [g 163 i (by omega) (by omega)]; exact c4 i
  · rw [g 164 i (by omega) (by omega)]; exact c5 i
def ldA (A : Int → Int) (x y w : Int) : Int → Int := fun i => if i = 10 then A 10 + 1 else if i = 23 + A 10 then w else if i = 17 + A 10 then y else if i = 11 + A 10 then x else A i
theorem ld_same {A : Int → Int} {x y w i : Int} (h : ¬ (i = 10 ∨ i = 23 + A 10 ∨ i = 17 + A 10 ∨ i = 11 + A 10)) : ldA A x y w i = A i := by
  unfold ldA
  rw [if_neg (by omega), if_neg (by omega), if_neg (by omega), if_neg (by omega)]
theorem ld_new {A : Int → Int} {x y w : Int} (h : 0 ≤ A 10 ∧ A 10 < 6) : ldA A x y w 10 = A 10 + 1 ∧ ldA A x y w (11 + A 10) = x ∧ ldA A x y w (17 + A 10) = y ∧ ldA A x y w (23 + A 10) = w := by
  unfold ldA
  refine ⟨if_pos rfl, ?_, ?_, ?_⟩
  · rw [if_neg (by omega), if_neg (by omega), if_neg (by omega), if_pos rfl]
  · rw [if_neg (by omega), if_neg (by omega), if_pos rfl]
  · rw [if_neg (by omega), if_pos rfl]
theorem VA_ld {B : Int → Int} (v : VA B) {x y w : Int} (h : B 10 < 6) (hx : 0 ≤ x ∧ x ≤ y ∧ y ≤ B 0) (hw : -9 ≤ w ∧ w ≤ 9) : VA (ldA B x y w) := by
  obtain ⟨v1, v2, v3, v4, v5, v6, v7, v8⟩ := v
  have n := ld_new (A := B) (x := x) (y := y) (w := w) ⟨v3.1, h⟩
  have s0 : ldA B x y w 0 = B 0 := ld_same (by omega)
  have s1 : ldA B x y w 1 = B 1 := ld_same (by omega)
  have s29 : ldA B x y w 29 = B 29 := ld_same (by omega)
  refine ⟨by rw [s0]; exact v1, by rw [s1]; exact v2, by rw [n.1]; omega, by rw [s29]; exact v4, fun k k0 k1 => ?_, fun k k0 k1 => ?_, fun k k0 k1 => ?_, fun k k0 k1 => ?_⟩
  · rw [s1] at k1
    rw [ld_same (i := 2 + k) (by omega), ld_same (i := 6 + k) (by omega), s0]
    exact v5 k k0 k1
  · rw [s1] at k1
    rw [ld_same (i := 2 + k) (by omega), ld_same (i := 2 + (k + 1)) (by omega)]
    exact v6 k k0 k1
  · rw [n.1] at k1
    rw [s0]
    by_cases c : k = B 10
    · rw [c, n.2.1, n.2.2.1, n.2.2.2]; omega
    · rw [ld_same (i := 11 + k) (by omega), ld_same (i := 17 + k) (by omega), ld_same (i := 23 + k) (by omega)]
      exact v7 k k0 (by omega)
  · rw [s29] at k1
    rw [ld_same (i := 30 + k) (by omega), ld_same (i := 33 + k) (by omega)]
    exact v8 k k0 k1
theorem putLoad_eq {m : Mem} {a : Nat} {A : Int → Int} (v : VA A) (h : RB m a A) (hl : A 10 < 6) {x y w p : Int} (hp : p = (if x = y then 1 else 0)) : ∃ m', Beam_putLoad a x y w p m = some (A 10, m') ∧ RB m' a (ldA A x y w) ∧ (∀ c i, ¬ (a ≤ c ∧ c ≤ a + 8) → m' c i = m c i) := by
  have v1 := v.2.1
  have v3 := v.2.2.1
  have v4 := v.2.2.2.1
  obtain ⟨h1, h2, h3, h4, h5, h6, h7⟩ := h
  have n := ld_new (A := A) (x := x) (y := y) (w := w) ⟨v3.1, hl⟩
  have e6 : s32 6 = 6 := s32_id (by decide) (by decide)
  unfold Beam_putLoad
  rw [h3, s32_id (a := A 10) (by omega) (by omega), e6, if_pos hl, ck_id (by omega) (by omega) (by omega)]
  simp only [lt_id]
  have g1 : ∀ (u : Int), mset m (a + 3) (A 10) u a 4 = A 10 := fun u => by rw [mset_if, if_neg (by omega)]; exact h3
  have g2 : ∀ (u t : Int), mset (mset m (a + 3) (A 10) u) (a + 4) (A 10) t a 4 = A 10 := fun u t => by rw [mset_if, if_neg (by omega)]; exact g1 u
  have g3 : ∀ (u t z : Int), mset (mset (mset m (a + 3) (A 10) u) (a + 4) (A 10) t) (a + 5) (A 10) z a 4 = A 10 := fun u t z => by rw [mset_if, if_neg (by omega)]; exact g2 u t
  have g4 : ∀ (u t z q : Int), mset (mset (mset (mset m (a + 3) (A 10) u) (a + 4) (A 10) t) (a + 5) (A 10) z) (a + 6) (A 10) q a 4 = A 10 := fun u t z q => by rw [mset_if, if_neg (by omega)]; exact g3 u t z
  rw [g1, s32_id (a := A 10) (by omega) (by omega), ck_id (by omega) (by omega) (by omega), g2, s32_id (a := A 10) (by omega) (by omega), ck_id (by omega) (by omega) (by omega), g3, s32_id (a := A 10) (by omega) (by omega), ck_id (by omega) (by omega) (by omega), g4, mset_here]
  refine ⟨_, by rw [show A 10 + 1 - 1 = A 10 by omega], ⟨?_, ?_, ?_, ?_, fun k k0 k1 => ?_, fun k k0 k1 => ?_, fun k k0 k1 => ?_⟩, fun c i hc => ?_⟩
  · rw [ld_same (i := 0) (by omega)]; simp only [mset]; rw [if_neg (by omega), if_neg (by omega), if_neg (by omega), if_neg (by omega), if_neg (by omega)]; exact h1
  · rw [ld_same (i := 1) (by omega)]; simp only [mset]; rw [if_neg (by omega), if_neg (by omega), if_neg (by omega), if_neg (by omega), if_neg (by omega)]; exact h2
  · rw [n.1, mset_here]
  · rw [ld_same (i := 29) (by omega)]; simp only [mset]; rw [if_neg (by omega), if_neg (by omega), if_neg (by omega), if_neg (by omega), if_neg (by omega)]; exact h4
  · rw [ld_same (i := 1) (by omega)] at k1
    rw [ld_same (i := 2 + k) (by omega), ld_same (i := 6 + k) (by omega)]
    simp only [mset]
    rw [if_neg (by omega), if_neg (by omega), if_neg (by omega), if_neg (by omega), if_neg (by omega), if_neg (by omega), if_neg (by omega), if_neg (by omega), if_neg (by omega), if_neg (by omega)]
    exact h5 k k0 k1
  · rw [n.1] at k1
    by_cases c : k = A 10
    · rw [c, n.2.1, n.2.2.1, n.2.2.2, hp]
      refine ⟨?_, ?_, ?_, ?_⟩ <;> simp [mset]
    · rw [ld_same (i := 11 + k) (by omega), ld_same (i := 17 + k) (by omega), ld_same (i := 23 + k) (by omega)]
      have w := h6 k k0 (by omega)
      simp only [mset]
      refine ⟨?_, ?_, ?_, ?_⟩
      · rw [if_neg (by omega), if_neg (by omega), if_neg (by omega), if_neg (by omega), if_neg (by omega)]; exact w.1
      · rw [if_neg (by omega), if_neg (by omega), if_neg (by omega), if_neg (by omega), if_neg (by omega)]; exact w.2.1
      · rw [if_neg (by omega), if_neg (by omega), if_neg (by omega), if_neg (by omega), if_neg (by omega)]; exact w.2.2.1
      · rw [if_neg (by omega), if_neg (by omega), if_neg (by omega), if_neg (by omega), if_neg (by omega)]; exact w.2.2.2
  · rw [ld_same (i := 29) (by omega)] at k1
    rw [ld_same (i := 30 + k) (by omega), ld_same (i := 33 + k) (by omega)]
    simp only [mset]
    rw [if_neg (by omega), if_neg (by omega), if_neg (by omega), if_neg (by omega), if_neg (by omega), if_neg (by omega), if_neg (by omega), if_neg (by omega), if_neg (by omega), if_neg (by omega)]
    exact h7 k k0 k1
  · simp only [mset]
    rw [if_neg (by omega), if_neg (by omega), if_neg (by omega), if_neg (by omega), if_neg (by omega)]
theorem comes_eq {m : Mem} {A : Int → Int} (v : VA A) (hA : m 150 = A) {h : Int} (hh : m 149 4 = h) (h0 : 0 ≤ h ∧ h ≤ 10) {x y w : Int} (hl : A 10 < 6) : ∃ m', Mo_comes x y w m = some (A 10, m') ∧ m' 150 = ldA A x y w ∧ m' 149 4 = kh h ∧ (∀ k i, 0 ≤ k → k < kh h → 0 ≤ i → i < 36 → mH m' k i = kH A h (mH m) k i) ∧ (∀ c i, ¬ (c = 150 ∨ c = 152 ∨ (c = 149 ∧ i = 4)) → m' c i = m c i) := by
  have v3 := v.2.2.1
  have e6 : s32 6 = 6 := s32_id (by decide) (by decide)
  obtain ⟨m1, e1, a1, b1, f1⟩ := changes_eq hh h0
  have hA1 : m1 150 = A := by rw [← hA]; funext i; exact f1 150 i (by decide) (by omega)
  rw [hA] at b1
  unfold Mo_comes
  have q0 : m 150 10 = A 10 := by rw [hA]
  have q1 : m1 150 10 = A 10 := by rw [hA1]
  rw [q0, s32_id (a := A 10) (by omega) (by omega), e6, if_pos (show ¬ A 10 = 6 by omega), e1, ob_some, lt_id, q1, ck_id (by omega) (by omega) (by omega), s32_id (a := 11 + A 10) (by omega) (by omega), lt_id, ck_id (by omega) (by omega) (by omega), s32_id (a := 17 + A 10) (by omega) (by omega), lt_id, ck_id (by omega) (by omega) (by omega), s32_id (a := 23 + A 10) (by omega) (by omega), lt_id, lt_id]
  have q2 : mset (mset (mset m1 150 (11 + A 10) x) 150 (17 + A 10) y) 150 (23 + A 10) w 150 10 = A 10 := by rw [mset_if, if_neg (by omega), mset_if, if_neg (by omega), mset_if, if_neg (by omega)]; exact q1
  rw [q2]
  refine ⟨_, rfl, ?_, ?_, fun k i k0 k1 i0 i1 => ?_, fun c i hc => ?_⟩
  · funext i
    unfold ldA
    simp only [mset_c]
    rw [← hA1]
  · rw [mset_if, if_neg (by omega), mset_if, if_neg (by omega), mset_if, if_neg (by omega), mset_if, if_neg (by omega)]; exact a1
  · have := b1 k i k0 k1 i0 i1
    unfold mH at this ⊢
    rw [mset_if, if_neg (by omega), mset_if, if_neg (by omega), mset_if, if_neg (by omega), mset_if, if_neg (by omega)]
    exact this
  · rw [mset_if, if_neg (by omega), mset_if, if_neg (by omega), mset_if, if_neg (by omega), mset_if, if_neg (by omega), f1 c i (by omega) (by omega)]
theorem isV_eq {p : Int} (hp : r32 p) (mem : Mem) : BP_isV p mem = some (if -9 ≤ p ∧ p ≤ 9 then 1 else 0) := by
  obtain ⟨h1, h2⟩ := hp
  unfold BP_isV
  rw [s32_id h1 h2, s32_id (a := -9) (by decide) (by decide), s32_id (a := 9) (by decide) (by decide)]
  by_cases c : p < -9
  · rw [if_pos c, if_neg (by omega)]
  · rw [if_neg c]
    by_cases d : 9 < p
    · rw [if_pos d, if_neg (by omega)]
    · rw [if_neg d, if_pos (by omega)]
