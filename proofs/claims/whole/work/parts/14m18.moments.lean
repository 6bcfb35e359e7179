/-! the model's moments over supports, all -/
theorem L61_step {m : Mem} (K : Mem → Option Mem) {x1 i : Int} (n : Nat) (h : ¬ x1 - 1 ≤ i) (hx : 0 ≤ x1 ∧ x1 ≤ 4) (hi : 0 ≤ i ∧ i ≤ 4) : Mo_moments_L61 x1 K (n + 1) i m = (Mo_gives i m).bind (fun m31 => Mo_moments_L61 x1 K n (i + 1) m31) := by
  rw [Mo_moments_L61, s32_id (by omega) (by omega), s32_id (by omega) (by omega), if_neg h]
theorem L61_end {m : Mem} (K : Mem → Option Mem) {x1 i : Int} (n : Nat) (h : x1 - 1 ≤ i) (hx : 0 ≤ x1 ∧ x1 ≤ 4) (hi : 0 ≤ i ∧ i ≤ 4) : Mo_moments_L61 x1 K (n + 1) i m = K m := by
  rw [Mo_moments_L61, s32_id (by omega) (by omega), s32_id (by omega) (by omega), if_pos h]
theorem L107_step {m : Mem} {x1 i : Int} (n : Nat) (h : ¬ x1 - 1 ≤ i) (hx : 0 ≤ x1 ∧ x1 ≤ 4) (hi : 0 ≤ i ∧ i ≤ 4) : Mo_moments_L107 x1 (n + 1) i m = (Mo_alone i m).bind (fun m11 => Mo_moments_L107 x1 n (i + 1) m11) := by
  rw [Mo_moments_L107, s32_id (by omega) (by omega), s32_id (by omega) (by omega), if_neg h]
theorem L107_end {m : Mem} {x1 i : Int} (n : Nat) (h : x1 - 1 ≤ i) (hx : 0 ≤ x1 ∧ x1 ≤ 4) (hi : 0 ≤ i ∧ i ≤ 4) : Mo_moments_L107 x1 (n + 1) i m = some m := by
  rw [Mo_moments_L107, s32_id (by omega) (by omega), s32_id (by omega) (by omega), if_pos h]
/-- what moments() leaves alone -/
def mfr (m' m : Mem) : Prop := ∀ c i, ¬ (c = 149 ∧ (i = 5 ∨ i = 6)) → ¬ (c = 153 ∨ c = 154 ∨ c = 155 ∨ c = 156) → m' c i = m c i
theorem mfr_150 {m' m : Mem} {A : Int → Int} (h : mfr m' m) (hA : m 150 = A) : m' 150 = A := by
  rw [← hA]; funext i; exact h 150 i (by omega) (by omega)
theorem by_ab {A : Int → Int} (v : VA A) (hn : 2 ≤ A 1) : ab (ZS A (byF (aT A 0) 1)) 6480 ∧ ab (ZS A (byF (aT A (A 1 - 1)) 0)) 6480 := by
  have a1 := VA_at v (k := 0) (by omega) (by omega)
  have a2 := VA_at v (k := A 1 - 1) (by omega) (by omega)
  have := v.1
  have mono : ∀ p : Int, 0 ≤ p → p ≤ 10 → p * (p + 2) ≤ 10 * (10 + 2) := by
    intro p p0 p1
    exact Int.mul_le_mul p1 (by omega) (by omega) (by omega)
  refine ⟨?_, ?_⟩
  · refine ab_mono (ZS_ab v (aT A 0 * (aT A 0 + 2)) (fun x y hx hy xy _ => ?_)) (by have := mono _ a1.1 (by omega); omega)
    obtain ⟨p', hp⟩ := nat_of a1.1
    rw [hp]
    have := (d_bound2 p' (by omega) x hx y hy xy).1
    omega
  · refine ab_mono (ZS_ab v ((A 0 - aT A (A 1 - 1)) * (A 0 - aT A (A 1 - 1) + 2)) (fun x y hx hy xy yl => ?_)) (by have := mono (A 0 - aT A (A 1 - 1)) (by omega) (by omega); omega)
    obtain ⟨p', hp⟩ := nat_of a2.1
    obtain ⟨L', hL⟩ := nat_of (show 0 ≤ A 0 by omega)
    rw [hp, hL]
    have := d_bound3 p' (by omega) L' (by omega) (by omega) x hx y hy xy (by omega)
    omega
theorem end0_eq {A : Int → Int} (v : VA A) (hn : 2 ≤ A 1) (m : Mem) : ∃ m3, Mo_is (ZS A (byF (aT A 0) 1)) 2 m = some m3 ∧ frac m3 (ov A 0) (DD A) ∧ (∀ c i, ¬ (c = 149 ∧ (i = 5 ∨ i = 6)) → m3 c i = m c i) := by
  have oo0 : ooA A 0 = oF A * crA A := by unfold ooA; rw [if_neg (by omega), if_pos rfl]
  refine is_frac (b62_le (by_ab v hn).1 (by decide)) ⟨by decide, by decide⟩ (by decide) (bnd v hn).1.1 ?_
  unfold ov DD
  rw [oo0]
  unfold oF
  grind
theorem endl_eq {A : Int → Int} (v : VA A) (hn : 2 ≤ A 1) (m : Mem) : ∃ m3, Mo_is (ZS A (byF (aT A (A 1 - 1)) 0)) 2 m = some m3 ∧ frac m3 (ov A (A 1 - 1)) (DD A) ∧ (∀ c i, ¬ (c = 149 ∧ (i = 5 ∨ i = 6)) → m3 c i = m c i) := by
  have ool : ooA A (A 1 - 1) = oL A * crA A := by unfold ooA; rw [if_pos rfl]
  refine is_frac (b62_le (by_ab v hn).2 (by decide)) ⟨by decide, by decide⟩ (by decide) (bnd v hn).1.1 ?_
  unfold ov DD
  rw [ool]
  unfold oL
  grind
/-! both rows of four supports -/
theorem is_frac' {p q X D : Int} {mem : Mem} (hp : b62 p) (hq : b62 q) (h0 : 0 < q) (hD : 0 < D) (h : p * D = X * q) : ∃ m, Mo_is p q mem = some m ∧ frac m X D ∧ m 149 5 = nm p q ∧ (∀ c i, ¬ (c = 149 ∧ (i = 5 ∨ i = 6)) → m c i = mem c i) := by
  obtain ⟨m, a, b, c⟩ := is_frac (mem := mem) hp hq h0 hD h
  exact ⟨m, a, b, by rw [b.1, (nd_eq h0 hD h).1], c⟩
theorem two_eq {A : Int → Int} (v : VA A) (hn : 2 ≤ A 1) {m : Mem} {a b s i j : Int} (hi : ∀ k, k = i ∨ k = j → m 155 k = nm (tG A (k + 1)) (4 * PP A) ∧ m 156 k = dn (tG A (k + 1)) (4 * PP A)) (hij : 0 ≤ i ∧ i ≤ 1 ∧ 0 ≤ j ∧ j ≤ 1) (h4 : A 1 = 4) (hb : 0 ≤ b ∧ b ≤ 40) (hs : 0 ≤ s ∧ s ≤ 10) (hc : crA A ≤ 1600) (e : b * tG A (i + 1) - s * tG A (j + 1) = ooA A a) : ∃ m21 m22, Mo_is (b * m 155 i) (m 156 i * crA A) m = some m21 ∧ Mo_plus (-s * m 155 j) (m 156 j * crA A) m21 = some m22 ∧ frac m22 (ov A a) (DD A) ∧ (∀ c i, ¬ (c = 149 ∧ (i = 5 ∨ i = 6)) → m22 c i = m c i) ∧ (∀ c i, ¬ (c = 149 ∧ (i = 5 ∨ i = 6)) → m21 c i = m c i) := by
  obtain ⟨B1, B2, B3, -⟩ := bnd v hn
  have pp := PP_pos v hn
  have pl := PP_le v hn
  have ti := nm_ab (q := 4 * PP A) (tG_ab v hn (k := i + 1) (by omega) (by omega))
  have tj := nm_ab (q := 4 * PP A) (tG_ab v hn (k := j + 1) (by omega) (by omega))
  have di := dn_b (p := tG A (i + 1)) (q := 4 * PP A) (by omega)
  have dj := dn_b (p := tG A (j + 1)) (q := 4 * PP A) (by omega)
  have xi := cross_nd (tG A (i + 1)) (4 * PP A)
  have xj := cross_nd (tG A (j + 1)) (4 * PP A)
  rw [(hi i (Or.inl rfl)).1, (hi i (Or.inl rfl)).2, (hi j (Or.inr rfl)).1, (hi j (Or.inr rfl)).2]
  generalize nm (tG A (i + 1)) (4 * PP A) = ui at *
  generalize dn (tG A (i + 1)) (4 * PP A) = wi at *
  generalize nm (tG A (j + 1)) (4 * PP A) = uj at *
  generalize dn (tG A (j + 1)) (4 * PP A) = wj at *
  have yi := ab_mul2 ti hb.1 hb.2
  have yj := ab_neg (ab_mul2 tj hs.1 hs.2)
  have qi := mul_b (a := wi) (b := crA A) (A := 4000) (B := 1600) ⟨by omega, by omega⟩ ⟨by omega, hc⟩
  have qj := mul_b (a := wj) (b := crA A) (A := 4000) (B := 1600) ⟨by omega, by omega⟩ ⟨by omega, hc⟩
  have ci := pos2 di.1 B2
  have cj := pos2 dj.1 B2
  obtain ⟨m21, f1, f2, f2', f3⟩ := is_frac' (mem := m) (p := b * ui) (q := wi * crA A) (X := b * tG A (i + 1) * PP A) (D := DD A) (b62_le yi (by decide)) ⟨by omega, by omega⟩ ci B1.1 (by
    unfold DD
    have : b * ui * (4 * PP A * PP A * crA A) = b * (ui * (4 * PP A)) * (PP A * crA A) := by grind
    rw [this, xi]
    grind)
  have z := nm_ab (q := wi * crA A) yi
  have d21 := dn_b (p := b * tG A (i + 1) * PP A) B1.1
  unfold ab at z yj
  obtain ⟨m22, g1, g2, g3⟩ := plus_frac (p := -s * uj) (q := wj * crA A) (Z := -s * tG A (j + 1) * PP A) 56000000000 14000000000 1100000 6400000 f2 B1.1 ⟨cj, by omega⟩ (by rw [Int.neg_mul]; omega) (by rw [f2']; omega) (by rw [f2.2]; omega) (by decide) (by decide) (by
    unfold DD
    have : -s * uj * (4 * PP A * PP A * crA A) = -s * (uj * (4 * PP A)) * (PP A * crA A) := by grind
    rw [this, xj]
    grind)
  refine ⟨m21, m22, f1, g1, ?_, fun c i hc => by rw [g3 c i hc, f3 c i hc], f3⟩
  have : b * tG A (i + 1) * PP A + -s * tG A (j + 1) * PP A = ov A a := by unfold ov; rw [← e]; grind
  rw [← this]; exact g2
theorem isLoose4 {A : Int → Int} (v : VA A) {m : Mem} (hA : m 150 = A) (h : A 1 = 4) {k : Int} (hk : k = 1 ∨ k = 2) : Mo_isLoose k m = some (1 - hrI A k) := isLoose_eq v hA (by omega) (by omega)
theorem loose4_eq {A : Int → Int} (v : VA A) (hn : 2 ≤ A 1) (g : A 1 = 4) {m9 : Mem} (hA9 : m9 150 = A) (R1 : RG m9 A 1) (R2 : RG m9 A 2) (c90 : MK m9 A 0) (c9l : MK m9 A (A 1 - 1)) (hb : hrI A 1 = 0 ∨ hrI A 2 = 0) : ∃ m', Mo_moments_L107 (A 1) 2000 1 m9 = some m' ∧ (∀ k, 0 ≤ k → k < A 1 → MK m' A k) ∧ mfr m' m9 := by
  have n4 := v.2.1
  obtain ⟨m10, q1, q2, q3⟩ := alone_eq v hn hA9 (k := 1) (by omega) (by omega) R1 hb
  have hA10 : m10 150 = A := by rw [← hA9]; funext i; exact q3 150 i (by omega) (by omega)
  have R2' : RG m10 A 2 := ⟨by rw [q3 _ _ (by omega) (by omega)]; exact R2.1, by rw [q3 _ _ (by omega) (by omega)]; exact R2.2⟩
  obtain ⟨m11, u1, u2, u3⟩ := alone_eq v hn hA10 (k := 2) (by omega) (by omega) R2' hb
  rw [show (2000 : Nat) = 1999 + 1 from rfl, L107_step _ (by omega) n4 (by omega), q1, ob_some, show (1999 : Nat) = 1998 + 1 from rfl, show (1 : Int) + 1 = 2 from rfl, L107_step _ (by omega) n4 (by omega), u1, ob_some, L107_end _ (by omega) n4 (by omega)]
  refine ⟨m11, rfl, fun k k0 k1 => ?_, fun c i c1 c2 => by rw [u3 c i c1 (by omega), q3 c i c1 (by omega)]⟩
  rcases (show k = 0 ∨ k = 1 ∨ k = 2 ∨ k = A 1 - 1 by omega) with h | h | h | h
  · rw [h]; exact ⟨by rw [u3 _ _ (by omega) (by omega), q3 _ _ (by omega) (by omega)]; exact c90.1, by rw [u3 _ _ (by omega) (by omega), q3 _ _ (by omega) (by omega)]; exact c90.2⟩
  · rw [h]; exact ⟨by rw [u3 _ _ (by omega) (by omega)]; exact q2.1, by rw [u3 _ _ (by omega) (by omega)]; exact q2.2⟩
  · rw [h]; exact u2
  · rw [h]; exact ⟨by rw [u3 _ _ (by omega) (by omega), q3 _ _ (by omega) (by omega)]; exact c9l.1, by rw [u3 _ _ (by omega) (by omega), q3 _ _ (by omega) (by omega)]; exact c9l.2⟩
set_option maxHeartbeats 4000000 in
theorem moments_eq {A : Int → Int} (v : VA A) (hn : 2 ≤ A 1) {m : Mem} (hA : m 150 = A) : ∃ m', Mo_moments m = some m' ∧ (∀ k, 0 ≤ k → k < A 1 → MK m' A k) ∧ mfr m' m := by
  have n4 := v.2.1
  have a1 := VA_at v (k := 0) (by omega) (by omega)
  have a2 := VA_at v (k := A 1 - 1) (by omega) (by omega)
  have l10 := v.1
  have ea : A 2 = aT A 0 := rfl
  have el : A (2 + A 1 - 1) = aT A (A 1 - 1) := by unfold aT; congr 1; omega
  have e3 : s32 3 = 3 := s32_id (by decide) (by decide)
  have e4 : s32 4 = 4 := s32_id (by decide) (by decide)
  obtain ⟨m3, f1, f2, f3⟩ := end0_eq v hn m
  unfold Mo_moments
  rw [lt_id, hA, ea, beyond_eq v hA (by omega) (Or.inr rfl), ob_some, f1, ob_some, keeps_eq (by omega) (by omega), ob_some]
  have c4 : MK (mset (mset m3 153 0 (m3 149 5)) 154 0 (m3 149 6)) A 0 := keeps_MK f2
  have r4 : ∀ c i, ¬ (c = 149 ∧ (i = 5 ∨ i = 6)) → ¬ ((c = 153 ∨ c = 154) ∧ i = 0) → mset (mset m3 153 0 (m3 149 5)) 154 0 (m3 149 6) c i = m c i := fun c i c1 c2 => by rw [keeps_fr c2, f3 c i c1]
  generalize mset (mset m3 153 0 (m3 149 5)) 154 0 (m3 149 6) = m4 at *
  have hA4 : m4 150 = A := by rw [← hA]; funext i; exact r4 150 i (by omega) (by omega)
  obtain ⟨m6, g1, g2, g3⟩ := endl_eq v hn m4
  rw [ck_id (by omega) (by omega) (by omega), s32_id (a := 2 + A 1 - 1) (by omega) (by omega), hA4, el, beyond_eq v hA4 (by omega) (Or.inl rfl), ob_some, g1, ob_some, keeps_eq (by omega) (by omega), ob_some]
  have c7 : MK (mset (mset m6 153 (A 1 - 1) (m6 149 5)) 154 (A 1 - 1) (m6 149 6)) A (A 1 - 1) := keeps_MK g2
  have r7 : ∀ c i, ¬ (c = 149 ∧ (i = 5 ∨ i = 6)) → ¬ ((c = 153 ∨ c = 154) ∧ i = A 1 - 1) → mset (mset m6 153 (A 1 - 1) (m6 149 5)) 154 (A 1 - 1) (m6 149 6) c i = m4 c i := fun c i c1 c2 => by rw [keeps_fr c2, g3 c i c1]
  generalize mset (mset m6 153 (A 1 - 1) (m6 149 5)) 154 (A 1 - 1) (m6 149 6) = m7 at *
  have c70 : MK m7 A 0 := ⟨by rw [r7 _ _ (by omega) (by omega)]; exact c4.1, by rw [r7 _ _ (by omega) (by omega)]; exact c4.2⟩
  have hA7 : m7 150 = A := by rw [← hA4]; funext i; exact r7 150 i (by omega) (by omega)
  have fr7 : mfr m7 m := fun c i c1 c2 => by rw [r7 c i c1 (by omega), r4 c i c1 (by omega)]
  rw [jn_id]
  rcases VA_n v hn with g | g | g
  · rw [show (2000 : Nat) = 1999 + 1 from rfl, L61_end _ _ (by omega) n4 (by omega), jn_id, jn_id, s32_id (a := A 1) (by omega) (by omega), e3, e4, if_neg (by omega), if_pos (by omega), if_pos (by omega)]
    refine ⟨m7, rfl, fun k k0 k1 => ?_, fr7⟩
    rcases (show k = 0 ∨ k = A 1 - 1 by omega) with h | h
    · rw [h]; exact c70
    · rw [h]; exact c7
  · obtain ⟨m8, p1, p2, p3⟩ := gives_eq v hn hA7 (k := 1) (by omega) (by omega) c70 c7
    have hA8 : m8 150 = A := by rw [← hA7]; funext i; exact p3 150 i (by omega) (by omega)
    have h2 : hrI A 2 = 0 := by unfold hrI; rw [if_neg (by omega)]
    obtain ⟨m9, q1, q2, q3⟩ := alone_eq v hn hA8 (k := 1) (by omega) (by omega) p2 (Or.inr h2)
    rw [show (2000 : Nat) = 1999 + 1 from rfl, L61_step _ _ (by omega) n4 (by omega), p1, ob_some, show (1999 : Nat) = 1998 + 1 from rfl, L61_end _ _ (by omega) n4 (by omega), jn_id, s32_id (a := A 1) (by omega) (by omega), e3, if_pos (by omega)]
    rw [L107_step _ (by omega) n4 (by omega), q1, ob_some, L107_end _ (by omega) n4 (by omega)]
    refine ⟨m9, rfl, fun k k0 k1 => ?_, fun c i c1 c2 => by rw [q3 c i c1 (by omega), p3 c i c1 (by omega), fr7 c i c1 c2]⟩
    rcases (show k = 0 ∨ k = 1 ∨ k = A 1 - 1 by omega) with h | h | h
    · rw [h]; exact ⟨by rw [q3 _ _ (by omega) (by omega), p3 _ _ (by omega) (by omega)]; exact c70.1, by rw [q3 _ _ (by omega) (by omega), p3 _ _ (by omega) (by omega)]; exact c70.2⟩
    · rw [h]; exact q2
    · rw [h]; exact ⟨by rw [q3 _ _ (by omega) (by omega), p3 _ _ (by omega) (by omega)]; exact c7.1, by rw [q3 _ _ (by omega) (by omega), p3 _ _ (by omega) (by omega)]; exact c7.2⟩
  · obtain ⟨m8, p1, p2, p3⟩ := gives_eq v hn hA7 (k := 1) (by omega) (by omega) c70 c7
    have hA8 : m8 150 = A := by rw [← hA7]; funext i; exact p3 150 i (by omega) (by omega)
    have c80 : MK m8 A 0 := ⟨by rw [p3 _ _ (by omega) (by omega)]; exact c70.1, by rw [p3 _ _ (by omega) (by omega)]; exact c70.2⟩
    have c8l : MK m8 A (A 1 - 1) := ⟨by rw [p3 _ _ (by omega) (by omega)]; exact c7.1, by rw [p3 _ _ (by omega) (by omega)]; exact c7.2⟩
    obtain ⟨m9, q1, q2, q3⟩ := gives_eq v hn hA8 (k := 2) (by omega) (by omega) c80 c8l
    have hA9 : m9 150 = A := by rw [← hA8]; funext i; exact q3 150 i (by omega) (by omega)
    have c90 : MK m9 A 0 := ⟨by rw [q3 _ _ (by omega) (by omega)]; exact c80.1, by rw [q3 _ _ (by omega) (by omega)]; exact c80.2⟩
    have c9l : MK m9 A (A 1 - 1) := ⟨by rw [q3 _ _ (by omega) (by omega)]; exact c8l.1, by rw [q3 _ _ (by omega) (by omega)]; exact c8l.2⟩
    have R1 : RG m9 A 1 := ⟨by rw [q3 _ _ (by omega) (by omega)]; exact p2.1, by rw [q3 _ _ (by omega) (by omega)]; exact p2.2⟩
    have fr9 : mfr m9 m := fun c i c1 c2 => by rw [q3 c i c1 (by omega), p3 c i c1 (by omega), fr7 c i c1 c2]
    rw [show (2000 : Nat) = 1999 + 1 from rfl, L61_step _ _ (by omega) n4 (by omega), p1, ob_some, show (1999 : Nat) = 1998 + 1 from rfl, L61_step _ _ (by omega) n4 (by omega), show (1 : Int) + 1 = 2 from rfl, q1, ob_some, show (1998 : Nat) = 1997 + 1 from rfl, L61_end _ _ (by omega) n4 (by omega), jn_id, jn_id, s32_id (a := A 1) (by omega) (by omega), e3, e4, if_neg (by omega), if_neg (by omega), isLoose4 v hA9 g (Or.inl rfl), ob_some, isLoose4 v hA9 g (Or.inr rfl), ob_some]
    rcases hrI_01 A 1 with h1 | h1
    · rw [h1, show (1 : Int) - 0 = 1 from rfl, s32_1, if_1]
      obtain ⟨m', z1, z2, z3⟩ := loose4_eq v hn g hA9 R1 q2 c90 c9l (Or.inl h1)
      exact ⟨m', z1, z2, fun c i c1 c2 => by rw [z3 c i c1 c2, fr9 c i c1 c2]⟩
    rcases hrI_01 A 2 with h2 | h2
    · rw [h1, h2, show (1 : Int) - 1 = 0 from rfl, show (1 : Int) - 0 = 1 from rfl, s32_0, s32_1, if_0, if_1']
      obtain ⟨m', z1, z2, z3⟩ := loose4_eq v hn g hA9 R1 q2 c90 c9l (Or.inr h2)
      exact ⟨m', z1, z2, fun c i c1 c2 => by rw [z3 c i c1 c2, fr9 c i c1 c2]⟩
    · rw [h1, h2, show (1 : Int) - 1 = 0 from rfl, s32_0, if_0, if_0', if_neg (show ¬ ¬ (A 1 = 4) by omega)]
      have s0 := sp_pos v (k := 0) (by omega) (by omega)
      have s1 := sp_pos v (k := 1) (by omega) (by omega)
      have s2 := sp_pos v (k := 2) (by omega) (by omega)
      have k1 : wA1 A = 2 * (spA A 0 + spA A 1) := by unfold wA1; rw [if_neg (by omega)]
      have k2 : wA2 A = 2 * (spA A 1 + spA A 2) := by unfold wA2; rw [if_neg (by omega)]
      have k3 : btA A = spA A 1 := by unfold btA; rw [if_neg (by omega), if_neg (by omega)]
      have k4 : tA1 A = tG A 1 := by unfold tA1 tG; rw [if_neg (by omega), if_neg (by omega), if_pos rfl, if_neg (by omega)]; rfl
      have k5 : tA2 A = tG A 2 := by unfold tA2 tG; rw [if_neg (by omega), if_neg (by omega), if_pos (by omega)]; omega
      have kc : 2 * (spA A 0 + spA A 1) * (2 * (spA A 1 + spA A 2)) - spA A 1 * spA A 1 = crA A := by unfold crA; rw [k1, k2, k3]
      have cm := mul_b (a := 2 * (spA A 0 + spA A 1)) (b := 2 * (spA A 1 + spA A 2)) (A := 40) (B := 40) ⟨by omega, by omega⟩ ⟨by omega, by omega⟩
      have ss := pos2 s1.1 s1.1
      have o1 : ooA A 1 = wA2 A * tA1 A - btA A * tA2 A := by unfold ooA; rw [if_neg (by omega), if_neg (by omega), if_pos rfl]
      have o2 : ooA A 2 = wA1 A * tA2 A - btA A * tA1 A := by unfold ooA; rw [if_neg (by omega), if_neg (by omega), if_neg (by omega)]
      have S0 := spanOf_eq v hA9 (k := 0) (by omega) (by omega)
      have S1 := spanOf_eq v hA9 (k := 1) (by omega) (by omega)
      have S2 := spanOf_eq v hA9 (k := 2) (by omega) (by omega)
      simp only [S0, S1, S2, ob_some, lt_id]
      rw [s32_id (a := spA A 0 + spA A 1) (by omega) (by omega), s32_id (a := spA A 1 + spA A 2) (by omega) (by omega), s32_id (a := spA A 1) (by omega) (by omega), kc]
      have hR : ∀ k, k = 0 ∨ k = 1 → m9 155 k = nm (tG A (k + 1)) (4 * PP A) ∧ m9 156 k = dn (tG A (k + 1)) (4 * PP A) := by
        intro k hk
        rcases hk with rfl | rfl
        · exact R1
        · exact q2
      obtain ⟨m21, m22, x1, x2, x3, x4, x5⟩ := two_eq v hn (m := m9) (a := 1) (b := 2 * (spA A 1 + spA A 2)) (s := spA A 1) (i := 0) (j := 1) (fun k hk => hR k hk) (by omega) g (by omega) (by omega) (by omega) (by
        rw [o1, k2, k3, k4, k5]; rfl)
      have y1 := x5 155 1 (by omega)
      have y2 := x5 156 1 (by omega)
      rw [x1, ob_some, y1, y2, x2, ob_some, keeps_eq (by omega) (by omega), ob_some]
      have c23 : MK (mset (mset m22 153 1 (m22 149 5)) 154 1 (m22 149 6)) A 1 := keeps_MK x3
      have r23 : ∀ c i, ¬ (c = 149 ∧ (i = 5 ∨ i = 6)) → ¬ ((c = 153 ∨ c = 154) ∧ i = 1) → mset (mset m22 153 1 (m22 149 5)) 154 1 (m22 149 6) c i = m9 c i := fun c i c1 c2 => by rw [keeps_fr c2, x4 c i c1]
      generalize mset (mset m22 153 1 (m22 149 5)) 154 1 (m22 149 6) = m23 at *
      obtain ⟨m24, m25, w1, w2, w3, w4, w5⟩ := two_eq v hn (m := m23) (a := 2) (b := 2 * (spA A 0 + spA A 1)) (s := spA A 1) (i := 1) (j := 0) (fun k hk => by rw [r23 155 k (by omega) (by omega), r23 156 k (by omega) (by omega)]; exact hR k (by omega)) (by omega) g (by omega) (by omega) (by omega) (by
        rw [o2, k1, k3, k4, k5]; rfl)
      have y3 := w5 155 0 (by omega)
      have y4 := w5 156 0 (by omega)
      rw [w1, ob_some, y3, y4, w2, ob_some, keeps_eq (by omega) (by omega), ob_some]
      have c26 : MK (mset (mset m25 153 2 (m25 149 5)) 154 2 (m25 149 6)) A 2 := keeps_MK w3
      have r26 : ∀ c i, ¬ (c = 149 ∧ (i = 5 ∨ i = 6)) → ¬ ((c = 153 ∨ c = 154) ∧ i = 2) → mset (mset m25 153 2 (m25 149 5)) 154 2 (m25 149 6) c i = m23 c i := fun c i c1 c2 => by rw [keeps_fr c2, w4 c i c1]
      refine ⟨_, rfl, fun k k0 k1 => ?_, fun c i c1 c2 => by rw [r26 c i c1 (by omega), r23 c i c1 (by omega), fr9 c i c1 c2]⟩
      rcases (show k = 0 ∨ k = 1 ∨ k = 2 ∨ k = A 1 - 1 by omega) with h | h | h | h
      · rw [h]; exact ⟨by rw [r26 _ _ (by omega) (by omega), r23 _ _ (by omega) (by omega)]; exact c90.1, by rw [r26 _ _ (by omega) (by omega), r23 _ _ (by omega) (by omega)]; exact c90.2⟩
      · rw [h]; exact ⟨by rw [r26 _ _ (by omega) (by omega)]; exact c23.1, by rw [r26 _ _ (by omega) (by omega)]; exact c23.2⟩
      · rw [h]; exact c26
      · rw [h]; exact ⟨by rw [r26 _ _ (by omega) (by omega), r23 _ _ (by omega) (by omega)]; exact c9l.1, by rw [r26 _ _ (by omega) (by omega), r23 _ _ (by omega) (by omega)]; exact c9l.2⟩
