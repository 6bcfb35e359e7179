/-! greatest and least moments: the class -/
def updS (s : Int × Int × Int × Int) (n d wn wd : Int) : Int × Int × Int × Int := if s.2.1 = 0 ∨ s.1 * d < n * s.2.1 then (n, d, wn, wd) else s
def sqA (A : Int → Int) (g k : Int) : Int := g * ZS A (deF k)
def tcB (A : Int → Int) (g k : Int) : Prop := 0 < sqA A g k ∧ 0 < g * CT A k ∧ g * CT A k < sqA A g k * DD A
def tN (A : Int → Int) (g k : Int) : Int := (g * MB A k 1) * sqA A g k * DD A + CT A k * CT A k
def tD (A : Int → Int) (g k : Int) : Int := 2 * sqA A g k * DD A * DD A
def nodeS (A : Int → Int) (g k : Int) (s : Int × Int × Int × Int) : Int × Int × Int × Int := updS s (g * MB A k 1) (2 * DD A) k 1
def turnS (A : Int → Int) (g k : Int) (s : Int × Int × Int × Int) : Int × Int × Int × Int := if 0 < sqA A g k ∧ 0 < g * CT A k ∧ g * CT A k < sqA A g k * DD A then updS s (tN A g k) (tD A g k) (nm (k * sqA A g k * DD A + g * CT A k) (sqA A g k * DD A)) (dn (k * sqA A g k * DD A + g * CT A k) (sqA A g k * DD A)) else s
def pkN (A : Int → Int) (g : Int) : Nat → Int × Int × Int × Int
  | 0 => (0, 0, 0, 0)
  | n + 1 => turnS A g (n : Int) (nodeS A g (n : Int) (pkN A g n))
def pk (A : Int → Int) (g : Int) : Int × Int × Int × Int := nodeS A g (A 0) (pkN A g (A 0).toNat)
theorem updS_yes {s : Int × Int × Int × Int} {n d wn wd : Int} (h : s.2.1 = 0 ∨ s.1 * d < n * s.2.1) : updS s n d wn wd = (n, d, wn, wd) := if_pos h
theorem updS_no {s : Int × Int × Int × Int} {n d wn wd : Int} (h : ¬ (s.2.1 = 0 ∨ s.1 * d < n * s.2.1)) : updS s n d wn wd = s := if_neg h
/-- what a kept peak may be -/
def okS (s : Int × Int × Int × Int) : Prop := (s.2.1 = 0) ∨ ((0 < s.2.1 ∧ s.2.1 ≤ 200000000000000) ∧ ab s.1 3000000000000000000)
theorem okS_updS {s : Int × Int × Int × Int} {n d wn wd : Int} (h : okS s) (hd : 0 < d ∧ d ≤ 200000000000000) (hn : ab n 3000000000000000000) : okS (updS s n d wn wd) := by
  unfold updS
  split
  · exact Or.inr ⟨hd, hn⟩
  · exact h
theorem cmp_nd {x d y e : Int} (hd : 0 < d) (he : 0 < e) : (nm y e * dn x d < nm x d * dn y e ↔ y * d < x * e) ∧ (nm x d * dn y e = nm y e * dn x d ↔ x * e = y * d) := by
  have c1 := cross_nd x d
  have c2 := cross_nd y e
  have p1 := dn_pos (p := x) hd
  have p2 := dn_pos (p := y) he
  generalize nm x d = a at *
  generalize dn x d = b at *
  generalize nm y e = c at *
  generalize dn y e = f at *
  have h1 : (c * b) * (d * e) = (y * d) * (b * f) := by
    have : (c * b) * (d * e) = (c * e) * (b * d) := by grind
    rw [this, c2]; grind
  have h2 : (a * f) * (d * e) = (x * e) * (b * f) := by
    have : (a * f) * (d * e) = (a * d) * (f * e) := by grind
    rw [this, c1]; grind
  have de := pos2 hd he
  have bf := pos2 p1 p2
  constructor
  · rw [← lt_mul_iff (a := c * b) de, h1, h2, lt_mul_iff bf]
  · constructor
    · intro z
      have : (x * e) * (b * f) = (y * d) * (b * f) := by rw [← h1, ← h2, z]
      exact Int.eq_of_mul_eq_mul_right (by omega) this
    · intro z
      have : (a * f) * (d * e) = (c * b) * (d * e) := by rw [h1, h2, z]
      exact Int.eq_of_mul_eq_mul_right (by omega) this
/-- the Peak at a holds s -/
def RP (m : Mem) (a : Nat) (g : Int) (s : Int × Int × Int × Int) : Prop := m a 3 = g ∧ ((s.2.1 = 0 ∧ m a 2 = 0) ∨ (0 < s.2.1 ∧ m a 2 = 1 ∧ m (a + 1) 0 = nm (g * s.1) s.2.1 ∧ m (a + 1) 1 = dn (g * s.1) s.2.1 ∧ m (a + 2) 0 = s.2.2.1 ∧ m (a + 2) 1 = s.2.2.2))
theorem RP_fr {m m' : Mem} {a : Nat} {g : Int} {s : Int × Int × Int × Int} (h : RP m a g s) (hm : ∀ c i, a ≤ c → c ≤ a + 2 → m' c i = m c i) : RP m' a g s := by
  obtain ⟨h1, h2⟩ := h
  refine ⟨by rw [hm a 3 (by omega) (by omega)]; exact h1, ?_⟩
  rcases h2 with ⟨x, y⟩ | ⟨x, y, z, w, u, t⟩
  · exact Or.inl ⟨x, by rw [hm a 2 (by omega) (by omega)]; exact y⟩
  · exact Or.inr ⟨x, by rw [hm a 2 (by omega) (by omega)]; exact y, by rw [hm _ _ (by omega) (by omega)]; exact z, by rw [hm _ _ (by omega) (by omega)]; exact w, by rw [hm _ _ (by omega) (by omega)]; exact u, by rw [hm _ _ (by omega) (by omega)]; exact t⟩
theorem ab_g {g x B : Int} (hg : g = 1 ∨ g = -1) (h : ab x B) : ab (g * x) B := by
  rcases hg with rfl | rfl
  · rw [Int.one_mul]; exact h
  · rw [Int.neg_mul, Int.one_mul]; exact ab_neg h
theorem gg_mul {g : Int} (hg : g = 1 ∨ g = -1) (x : Int) : g * (g * x) = x := by
  rcases hg with rfl | rfl
  · omega
  · rw [Int.neg_mul, Int.one_mul, Int.neg_mul, Int.one_mul, Int.neg_neg]
theorem offer_eq {m : Mem} {a : Nat} {g : Int} {s : Int × Int × Int × Int} {x d wn wd : Int} (ha : a = 120 ∨ a = 123) (hg : g = 1 ∨ g = -1) (h : RP m a g s) (hs : okS s) (hd : 0 < d ∧ d ≤ 200000000000000) (hx : ab x 3000000000000000000) (h0 : m 127 0 = nm x d) (h1 : m 127 1 = dn x d) (h2 : m 128 0 = wn) (h3 : m 128 1 = wd) : ∃ m', Peak_offer a m = some m' ∧ RP m' a g (updS s (g * x) d wn wd) ∧ (∀ c i, ¬ ((c = a ∧ i = 2) ∨ c = a + 1 ∨ c = a + 2) → m' c i = m c i) := by
  obtain ⟨g1, g2⟩ := h
  have put : ∃ m', (Frac_copy (a + 1) 127 m).bind (fun m1 => (Frac_copy (a + 2) 128 m1).bind (fun m2 => lt (mset m2 a 2 1) (fun m3 => some m3))) = some m' ∧ (m' a 3 = g ∧ m' a 2 = 1 ∧ m' (a + 1) 0 = nm (g * (g * x)) d ∧ m' (a + 1) 1 = dn (g * (g * x)) d ∧ m' (a + 2) 0 = wn ∧ m' (a + 2) 1 = wd) ∧ (∀ c i, ¬ ((c = a ∧ i = 2) ∨ c = a + 1 ∨ c = a + 2) → m' c i = m c i) := by
    unfold Frac_copy
    simp only [lt_id, ob_some]
    rw [gg_mul hg]
    refine ⟨_, rfl, ⟨?_, ?_, ?_, ?_, ?_, ?_⟩, fun c i hc => ?_⟩
    · rcases ha with rfl | rfl <;> simp [mset, g1]
    · simp [mset]
    · rcases ha with rfl | rfl <;> simp [mset, h0]
    · rcases ha with rfl | rfl <;> simp [mset, h1]
    · rcases ha with rfl | rfl <;> simp [mset, h2]
    · rcases ha with rfl | rfl <;> simp [mset, h3]
    · simp only [mset]
      rw [if_neg (by omega), if_neg (by omega), if_neg (by omega), if_neg (by omega), if_neg (by omega)]
  obtain ⟨m', e, ⟨p3, p2, p4, p5, p6, p7⟩, fr⟩ := put
  unfold Peak_offer
  rw [jn_id, e]
  rcases g2 with ⟨z1, z2⟩ | ⟨z1, z2, z3, z4, z5, z6⟩
  · rw [z2, s32_0, if_0', updS_yes (Or.inl z1)]
    exact ⟨m', rfl, ⟨p3, Or.inr ⟨hd.1, p2, p4, p5, p6, p7⟩⟩, fr⟩
  · have hs' : (0 < s.2.1 ∧ s.2.1 ≤ 200000000000000) ∧ ab s.1 3000000000000000000 := by
      rcases hs with y | y
      · omega
      · exact y
    have d1 := dn_b (p := x) hd.1
    have d2 := dn_b (p := g * s.1) z1
    have n1 := nm_ab (q := d) hx
    have n2 := nm_ab (q := s.2.1) (ab_g hg hs'.2)
    have C := cmp_nd (x := x) (d := d) (y := g * s.1) (e := s.2.1) hd.1 z1
    rw [z2, s32_1, if_1', against_eq (by rw [h0]; exact b62_le n1 (by decide)) (by rw [z3]; exact b62_le n2 (by decide)) (by rw [h1]; omega) (by rw [z4]; omega), ob_some, h0, h1, z3, z4, g1]
    have key : 0 < s32 (g * sgn (nm x d * dn (g * s.1) s.2.1 - nm (g * s.1) s.2.1 * dn x d)) ↔ s.1 * d < g * x * s.2.1 := by
      have C2 := cmp_nd (x := g * s.1) (d := s.2.1) (y := x) (e := d) z1 hd.1
      have k1 := C.1
      have k2 := C2.1
      have sg : ∀ t : Int, (t < 0 → sgn t = -1) ∧ (t = 0 → sgn t = 0) ∧ (0 < t → sgn t = 1) := by
        intro t
        unfold sgn
        refine ⟨fun h => if_pos h, fun h => by rw [if_neg (by omega), if_pos h], fun h => by rw [if_neg (by omega), if_neg (by omega)]⟩
      have sgt := sg (nm x d * dn (g * s.1) s.2.1 - nm (g * s.1) s.2.1 * dn x d)
      have t3 : nm x d * dn (g * s.1) s.2.1 - nm (g * s.1) s.2.1 * dn x d < 0 ∨ nm x d * dn (g * s.1) s.2.1 - nm (g * s.1) s.2.1 * dn x d = 0 ∨ 0 < nm x d * dn (g * s.1) s.2.1 - nm (g * s.1) s.2.1 * dn x d := by omega
      generalize nm x d * dn (g * s.1) s.2.1 = P at *
      generalize nm (g * s.1) s.2.1 * dn x d = Q at *
      rcases hg with rfl | rfl
      · rw [Int.one_mul, Int.one_mul] at *
        rcases t3 with t | t | t
        · rw [sgt.1 t, s32_id (a := -1) (by decide) (by decide)]
          have := k2.mp (by omega)
          constructor
          · intro h; omega
          · intro h; omega
        · rw [sgt.2.1 t, s32_0]
          constructor
          · intro h; omega
          · intro h; have := k1.mpr h; omega
        · rw [sgt.2.2 t, s32_1]
          have := k1.mp (by omega)
          constructor
          · intro _; exact this
          · intro _; omega
      · have e1 : (-1 : Int) * s.1 * d = -(s.1 * d) := by grind
        have e2 : (-1 : Int) * x * s.2.1 = -(x * s.2.1) := by grind
        rw [e1] at k1 k2
        rw [e2, Int.neg_mul, Int.one_mul]
        rcases t3 with t | t | t
        · rw [sgt.1 t, show -(-1 : Int) = 1 by decide, s32_1]
          have := k2.mp (by omega)
          constructor
          · intro _; omega
          · intro _; omega
        · rw [sgt.2.1 t, show -(0 : Int) = 0 by decide, s32_0]
          constructor
          · intro h; omega
          · intro h; have := k2.mpr (by omega); omega
        · rw [sgt.2.2 t, s32_id (a := -1) (by decide) (by decide)]
          have := k1.mp (by omega)
          constructor
          · intro h; omega
          · intro h; omega
    by_cases c : s.1 * d < g * x * s.2.1
    · rw [if_pos (key.mpr c), updS_yes (Or.inr c)]
      exact ⟨m', rfl, ⟨p3, Or.inr ⟨hd.1, p2, p4, p5, p6, p7⟩⟩, fr⟩
    · rw [if_neg (fun y => c (key.mp y)), updS_no (by intro y; rcases y with y | y; omega; exact c y)]
      exact ⟨m, rfl, ⟨g1, Or.inr ⟨z1, z2, z3, z4, z5, z6⟩⟩, fun _ _ _ => rfl⟩
