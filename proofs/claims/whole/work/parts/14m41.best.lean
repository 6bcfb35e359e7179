/-! hinged, best -/
def setA (A : Int → Int) (j w : Int) : Int → Int := fun i => if i = j then w else A i
theorem setA_at (A : Int → Int) (j w : Int) : setA A j w j = w := if_pos rfl
theorem setA_ne {A : Int → Int} {j w i : Int} (h : ¬ i = j) : setA A j w i = A i := if_neg h
theorem setA_set (A : Int → Int) (j w u : Int) : setA (setA A j w) j u = setA A j u := by
  funext i
  unfold setA
  by_cases c : i = j
  · rw [if_pos c, if_pos c]
  · rw [if_neg c, if_neg c, if_neg c]
theorem setA_back (A : Int → Int) (j w : Int) : setA (setA A j w) j (A j) = A := by
  funext i
  unfold setA
  by_cases c : i = j
  · rw [if_pos c, c]
  · rw [if_neg c, if_neg c]
theorem VA_hinge {A : Int → Int} (v : VA A) {k : Int} (h0 : 0 ≤ k) (h1 : k < A 1) : VA (setA A (6 + k) 1) := by
  obtain ⟨v1, v2, v3, v4, v5, v6, v7, v8⟩ := v
  have s : ∀ i, i < 6 ∨ 10 ≤ i → setA A (6 + k) 1 i = A i := fun i hi => setA_ne (by omega)
  refine ⟨by rw [s 0 (by omega)]; exact v1, by rw [s 1 (by omega)]; exact v2, by rw [s 10 (by omega)]; exact v3, by rw [s 29 (by omega)]; exact v4, fun j j0 j1 => ?_, fun j j0 j1 => ?_, fun j j0 j1 => ?_, fun j j0 j1 => ?_⟩
  · rw [s 1 (by omega)] at j1
    rw [s (2 + j) (by omega), s 0 (by omega)]
    have := v5 j j0 j1
    refine ⟨this.1, this.2.1, ?_⟩
    by_cases c : j = k
    · rw [c, setA_at]; exact Or.inr rfl
    · rw [setA_ne (by omega)]; exact this.2.2
  · rw [s 1 (by omega)] at j1
    rw [s (2 + j) (by omega), s (2 + (j + 1)) (by omega)]
    exact v6 j j0 j1
  · rw [s 10 (by omega)] at j1
    rw [s (11 + j) (by omega), s (17 + j) (by omega), s (23 + j) (by omega), s 0 (by omega)]
    exact v7 j j0 j1
  · rw [s 29 (by omega)] at j1
    rw [s (30 + j) (by omega), s (33 + j) (by omega)]
    exact v8 j j0 j1
theorem VA_place {A : Int → Int} (v : VA A) {k x : Int} (h0 : 0 ≤ k) (h1 : k < A 1) (hx : 0 ≤ x ∧ x ≤ A 0) (hl : k = 0 ∨ aT A (k - 1) < x) (hr : k = A 1 - 1 ∨ x < aT A (k + 1)) : VA (setA A (2 + k) x) := by
  obtain ⟨v1, v2, v3, v4, v5, v6, v7, v8⟩ := v
  have s : ∀ i, i < 2 ∨ 6 ≤ i → setA A (2 + k) x i = A i := fun i hi => setA_ne (by omega)
  refine ⟨by rw [s 0 (by omega)]; exact v1, by rw [s 1 (by omega)]; exact v2, by rw [s 10 (by omega)]; exact v3, by rw [s 29 (by omega)]; exact v4, fun j j0 j1 => ?_, fun j j0 j1 => ?_, fun j j0 j1 => ?_, fun j j0 j1 => ?_⟩
  · rw [s 1 (by omega)] at j1
    rw [s (6 + j) (by omega), s 0 (by omega)]
    have := v5 j j0 j1
    by_cases c : j = k
    · rw [c, setA_at]; rw [c] at this; exact ⟨hx.1, hx.2, this.2.2⟩
    · rw [setA_ne (by omega)]; exact this
  · rw [s 1 (by omega)] at j1
    by_cases c : j = k
    · rw [c, setA_at, setA_ne (by omega)]
      rcases hr with z | z
      · omega
      · exact z
    · rw [setA_ne (i := 2 + j) (by omega)]
      by_cases d : j + 1 = k
      · rw [d, setA_at]
        rcases hl with z | z
        · omega
        · have e : aT A (k - 1) = A (2 + j) := by unfold aT; congr 1; omega
          rw [← e]; exact z
      · rw [setA_ne (by omega)]; exact v6 j j0 j1
  · rw [s 10 (by omega)] at j1
    rw [s (11 + j) (by omega), s (17 + j) (by omega), s (23 + j) (by omega), s 0 (by omega)]
    exact v7 j j0 j1
  · rw [s 29 (by omega)] at j1
    rw [s (30 + j) (by omega), s (33 + j) (by omega)]
    exact v8 j j0 j1
theorem RBL_set {m : Mem} {A : Int → Int} (h : RBL m A) {j w : Int} (hj : j < 10) : RBL m (setA A j w) := by
  obtain ⟨a, b⟩ := h
  refine ⟨by rw [setA_ne (by omega)]; exact a, fun k k0 k1 => ?_⟩
  rw [setA_ne (by omega)] at k1
  rw [setA_ne (i := 11 + k) (by omega), setA_ne (i := 17 + k) (by omega), setA_ne (i := 23 + k) (by omega)]
  exact b k k0 k1
/-- the class: a support moved (112) or a hinge put in (113), SPAN told -/
theorem inThought_eq {mem : Mem} {A : Int → Int} (v : VA A) (hn : 2 ≤ A 1) (h : RB mem 1 A) (k1 : mem 120 3 = 1) (k2 : mem 123 3 = -1) {c : Nat} {j k w : Int} (hc : (c = 112 ∧ j = 2 + k) ∨ (c = 113 ∧ j = 6 + k)) (h0 : 0 ≤ k) (h1 : k < A 1) (v' : VA (setA A j w)) : ∃ m1 m2 m3 m4, Sta_frame mem = some m1 ∧ Sta_bearLoads (mset m1 c k w) = some m2 ∧ Sta_solve m2 = some m3 ∧ Sta_tellSpan m3 = some m4 ∧ m4 129 0 = nm (spN (setA A j w)) (spD (setA A j w)) ∧ m4 129 1 = dn (spN (setA A j w)) (spD (setA A j w)) ∧ (∀ c i, (c < 111 ∨ 129 < c) → m4 c i = mem c i) ∧ m4 120 3 = 1 ∧ m4 123 3 = -1 := by
  have n4 := v.2.1
  obtain ⟨m1, a1, ⟨p0, p1, p2⟩, a3, a4⟩ := frame_eq v h
  have l : RBL (mset m1 c k w) (setA A j w) := by
    refine RBL_set ?_ (by omega)
    exact RB_RBL (RB_frame h (fun c' i _ _ => by rw [mset_if, if_neg (by omega)]; exact a4 c' i (by omega)))
  have s1 : setA A j w 1 = A 1 := setA_ne (by omega)
  have f : FR (mset m1 c k w) (setA A j w) := by
    refine ⟨by rw [mset_if, if_neg (by omega), setA_ne (by omega)]; exact p0, by rw [mset_if, if_neg (by omega), s1]; exact p1, fun q q0 q1 => ?_⟩
    rw [s1] at q1
    have w1 := p2 q q0 q1
    rcases hc with ⟨rfl, rfl⟩ | ⟨rfl, rfl⟩
    · refine ⟨?_, ?_⟩
      · rw [mset_c]
        by_cases e : q = k
        · rw [if_pos e, e]; exact (setA_at A (2 + k) w).symm
        · rw [if_neg e]
          show _ = setA A (2 + k) w (2 + q)
          rw [setA_ne (by omega)]; exact w1.1
      · rw [mset_if, if_neg (by omega), setA_ne (by omega)]; exact w1.2
    · refine ⟨?_, ?_⟩
      · rw [mset_if, if_neg (by omega)]
        show _ = setA A (6 + k) w (2 + q)
        rw [setA_ne (by omega)]; exact w1.1
      · rw [mset_c]
        by_cases e : q = k
        · rw [if_pos e, e]; exact (setA_at A (6 + k) w).symm
        · rw [if_neg e, setA_ne (by omega)]; exact w1.2
  obtain ⟨m2, b1, b2, b3⟩ := bearLoads_eq v' l f (fun q q0 q1 => ⟨by rw [mset_if, if_neg (by omega)]; exact (a3 q q0 q1).1, by rw [mset_if, if_neg (by omega)]; exact (a3 q q0 q1).2⟩)
  obtain ⟨m3, c1, c2, c3⟩ := solve_eq v' (by rw [s1]; exact hn) b2
  have fr3 : ∀ c' i, (c' < 111 ∨ 126 < c' ∨ (119 ≤ c' ∧ c' ≤ 125)) → m3 c' i = mem c' i := fun c' i hc' => by rw [c3 c' i (by omega) (by omega) (by omega) (by omega) (by omega), b3 c' i (by omega) (by omega), mset_if, if_neg (by omega), a4 c' i (by omega)]
  obtain ⟨m4, d1, d2, d3, d4, d5, d6⟩ := tellSpan_eq v' (by rw [s1]; exact hn) c2 (by rw [fr3 _ _ (by omega)]; exact k1) (by rw [fr3 _ _ (by omega)]; exact k2)
  exact ⟨m1, m2, m3, m4, a1, b1, c1, d1, d2, d3, fun c' i hc' => by rw [d4 c' i (by omega) (by omega), fr3 c' i (by omega)], d5, d6⟩
theorem Rel_th {mem m : Mem} (R : Rel mem) (f : ∀ c i, (c < 111 ∨ 130 < c) → m c i = mem c i) (c1 : m 120 3 = 1) (c2 : m 123 3 = -1) : Rel m := by
  have R0 := R
  obtain ⟨-, -, -, -, -, -, ⟨k1, k2, -⟩⟩ := R0
  refine Rel_cls R (fun c i hc => ?_)
  by_cases x : (c = 120 ∨ c = 123) ∧ i = 3
  · rcases x.1 with y | y
    · rw [y, x.2, c1, k1]
    · rw [y, x.2, c2, k2]
  · exact f c i (by omega)
theorem ok_hinged (a : Int) (b : Int) (ha : r32 a) (hb : r32 b) : OkM (BP_hinged a b) (Mo_hinged a b) s64 := by
  intro mem R
  have R0 := R
  obtain ⟨⟨v, rb⟩, -, -, -, -, -, ⟨k1, k2, -⟩⟩ := R0
  have n4 := v.2.1
  have l10 := v.1
  have b2 := rb.2.1
  have b5 := rb.2.2.2.2.1
  have v5 := v.2.2.2.2.1
  obtain ⟨ha1, ha2⟩ := ha
  obtain ⟨hb1, hb2⟩ := hb
  by_cases h2 : 1 ≤ a ∧ a ≤ mem 150 1 - 2
  · have jt := b5 a (by omega) (by omega)
    simp only [Nat.reduceAdd] at jt
    have j01 := (v5 a (by omega) (by omega)).2.2
    have cls : BP_hinged a b mem = if mem 150 (6 + a) = 0 ∧ (b = 0 ∨ b = 1) then (Sta_frame mem).bind (fun m3 => ck a 4 (lt (mset m3 113 a 1) (fun m4 => (Sta_bearLoads m4).bind (fun m5 => (Sta_solve m5).bind (fun m6 => (Sta_tellSpan m6).bind (fun m7 => (Frac_told 129 b m7).bind (fun r8 => some (r8, m7)))))))) else some (-9223372036854775808, mem) := by
      unfold BP_hinged
      rw [Beam_stands_eq (by omega), ob_some, b2, if_pos (show 2 ≤ mem 150 1 by omega), s32_1, if_1', isPart_eq ⟨hb1, hb2⟩, ob_some, s32_id (a := a) (by omega) (by omega), s32_id (a := mem 150 1 - 1) (by omega) (by omega), if_neg (show ¬ a ≤ 0 by omega), if_neg (show ¬ mem 150 1 - 1 ≤ a by omega), ck_id (by omega) (by omega) (by omega), jt.2, s32_id (a := mem 150 (6 + a)) (by omega) (by omega)]
      by_cases h3 : b = 0 ∨ b = 1
      · rw [if_pos h3, s32_1, if_1']
        by_cases h4 : mem 150 (6 + a) = 0
        · rw [if_pos h4, if_pos ⟨h4, h3⟩]
        · rw [if_neg h4, if_neg (fun z => h4 z.1)]
      · rw [if_neg h3, s32_0, if_0', if_neg (fun z => h3 z.2)]
    by_cases h4 : mem 150 (6 + a) = 0 ∧ (b = 0 ∨ b = 1)
    · have v' := VA_hinge v (k := a) (by omega) (by omega)
      obtain ⟨m1, m2, m3, m4, e1, e2, e3, e4, t0, t1, f4, c1, c2⟩ := inThought_eq (w := 1) v (by omega) rb k1 k2 (c := 113) (j := 6 + a) (k := a) (Or.inr ⟨rfl, rfl⟩) (by omega) (by omega) v'
      have R4 : Rel m4 := Rel_th R (fun c i hc => f4 c i (by omega)) c1 c2
      have hA4 : m4 150 = mem 150 := by funext i; exact f4 150 i (by omega)
      have hA5 : mset m4 150 (6 + a) 1 150 = setA (mem 150) (6 + a) 1 := by
        funext i
        rw [mset_c, hA4]
        rfl
      have s1 : setA (mem 150) (6 + a) 1 1 = mem 150 1 := setA_ne (by omega)
      obtain ⟨m6, e6, s0, s2, f6⟩ := span2_eq v' (by rw [s1]; omega) hA5
      have cl2 : BP_hinged a b mem = some ((if b = 0 then nm (spN (setA (mem 150) (6 + a) 1)) (spD (setA (mem 150) (6 + a) 1)) else dn (spN (setA (mem 150) (6 + a) 1)) (spD (setA (mem 150) (6 + a) 1))), m4) := by
        rw [cls, if_pos h4, e1, ob_some, ck_id (by omega) (by omega) (by omega), lt_id, e2, ob_some, e3, ob_some, e4, ob_some, told_rd h4.2, ob_some, t0, t1]
      have R7 : Rel (mset m6 150 (6 + a) 0) := Rel_mod R4 (fun c i x1 x2 x3 => by
        by_cases c5 : c = 150
        · subst c5
          rw [mset_c]
          by_cases c6 : i = 6 + a
          · rw [if_pos c6, c6, hA4]; exact h4.1.symm
          · rw [if_neg c6, f6 150 i (by omega) (by omega), mset_c, if_neg c6]
        · rw [mset_if, if_neg (by omega), f6 c i (by omega) (by omega), mset_if, if_neg (by omega)])
      refine ⟨_, m4, (if b = 0 then nm (spN (setA (mem 150) (6 + a) 1)) (spD (setA (mem 150) (6 + a) 1)) else dn (spN (setA (mem 150) (6 + a) 1)) (spD (setA (mem 150) (6 + a) 1))), mset m6 150 (6 + a) 0, cl2, ?_, rfl, R7⟩
      have q19 : mset m6 150 (6 + a) 0 149 19 = nm (spN (setA (mem 150) (6 + a) 1)) (spD (setA (mem 150) (6 + a) 1)) := by rw [mset_if, if_neg (by omega)]; exact s0
      have q20 : mset m6 150 (6 + a) 0 149 20 = dn (spN (setA (mem 150) (6 + a) 1)) (spD (setA (mem 150) (6 + a) 1)) := by rw [mset_if, if_neg (by omega)]; exact s2
      unfold Mo_hinged
      rw [hA4, s32_id (a := a) (by omega) (by omega), s32_id (a := mem 150 1 - 2) (by omega) (by omega), Mo_in_eq (by omega) (by omega) (by omega), ob_some, if_pos h2, s32_1, if_1', ck_id (i := 6 + a) (by omega) (by omega) (by omega), s32_id (a := 6 + a) (by omega) (by omega), h4.1, s32_0, if_neg (by decide), s32_id (a := b) (by omega) (by omega), in_part ⟨hb1, hb2⟩, ob_some, if_pos h4.2, s32_1, if_1, ck_id (i := 6 + a) (by omega) (by omega) (by omega), lt_id, e6, ob_some, ck_id (i := 6 + a) (by omega) (by omega) (by omega), lt_id, q19, q20]
      by_cases d : b = 0
      · rw [if_neg (fun z => z d), if_pos d]
      · rw [if_pos d, if_neg d]
    · refine ⟨-9223372036854775808, mem, -9223372036854775808, mem, by rw [cls, if_neg h4], ?_, rfl, R⟩
      unfold Mo_hinged
      rw [s32_id (a := a) (by omega) (by omega), s32_id (a := mem 150 1 - 2) (by omega) (by omega), Mo_in_eq (by omega) (by omega) (by omega), ob_some, if_pos h2, s32_1, if_1', ck_id (i := 6 + a) (by omega) (by omega) (by omega), s32_id (a := 6 + a) (by omega) (by omega), s32_id (a := mem 150 (6 + a)) (by omega) (by omega), s32_id (a := b) (by omega) (by omega), in_part ⟨hb1, hb2⟩, ob_some]
      by_cases h5 : mem 150 (6 + a) = 1
      · rw [if_pos h5]
      · rw [if_neg h5, if_neg (show ¬ (b = 0 ∨ b = 1) from fun z => h4 ⟨by omega, z⟩), s32_0, if_0]
  · refine ⟨-9223372036854775808, mem, -9223372036854775808, mem, ?_, ?_, rfl, R⟩
    · unfold BP_hinged
      rw [Beam_stands_eq (by omega), ob_some, b2, isPart_eq ⟨hb1, hb2⟩, ob_some, s32_id (a := a) (by omega) (by omega), s32_id (a := mem 150 1 - 1) (by omega) (by omega)]
      have z : ∀ o : Option (Int × Mem), (if a ≤ 0 then some ((-9223372036854775808 : Int), mem) else if mem 150 1 - 1 ≤ a then some (-9223372036854775808, mem) else o) = some (-9223372036854775808, mem) := by
        intro o
        by_cases z : a ≤ 0
        · rw [if_pos z]
        · rw [if_neg z, if_pos (by omega)]
      rw [z]
      by_cases h1 : 2 ≤ mem 150 1
      · rw [if_pos h1, s32_1, if_1']
        by_cases h3 : b = 0 ∨ b = 1
        · rw [if_pos h3, s32_1, if_1']
        · rw [if_neg h3, s32_0, if_0']
      · rw [if_neg h1, s32_0, if_0']
    · unfold Mo_hinged
      rw [s32_id (a := a) (by omega) (by omega), s32_id (a := mem 150 1 - 2) (by omega) (by omega), Mo_in_eq (by omega) (by omega) (by omega), ob_some, if_neg h2, s32_0, if_0']
