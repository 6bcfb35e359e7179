/-! SPAN, times -/
def spN (A : Int → Int) : Int := if (pk A (-1)).1 * (pk A 1).2.1 < (pk A 1).1 * (pk A (-1)).2.1 then (pk A 1).1 else (pk A (-1)).1
def spD (A : Int → Int) : Int := if (pk A (-1)).1 * (pk A 1).2.1 < (pk A 1).1 * (pk A (-1)).2.1 then (pk A 1).2.1 else (pk A (-1)).2.1
theorem spN_b {A : Int → Int} (v : VA A) (hn : 2 ≤ A 1) : (0 < spD A ∧ spD A ≤ 200000000000000) ∧ ab (spN A) 3000000000000000000 := by
  have p1 := pk_pos v hn (g := 1) (Or.inl rfl)
  have p2 := pk_pos v hn (g := -1) (Or.inr rfl)
  unfold spN spD
  split
  · exact p1
  · exact p2
theorem nm_neg {n d : Int} (hd : 0 < d) : -(nm (-1 * n) d) = nm n d ∧ dn (-1 * n) d = dn n d := by
  have g : Int.gcd (-1 * n) d = Int.gcd n d := by rw [Int.neg_mul, Int.one_mul, Int.neg_gcd]
  unfold nm dn
  rw [g]
  refine ⟨?_, rfl⟩
  have dv : ((Int.gcd n d : Nat) : Int) ∣ n := Int.gcd_dvd_left n d
  rw [Int.neg_mul, Int.one_mul, Int.neg_ediv_of_dvd dv, Int.neg_neg]
theorem nm_nm {n d : Int} (hd : 0 < d) : nm (nm n d) (dn n d) = nm n d ∧ dn (nm n d) (dn n d) = dn n d := nd_eq (dn_pos hd) hd (cross_nd n d)
theorem tellSpan_eq {m : Mem} {A : Int → Int} (v : VA A) (hn : 2 ≤ A 1) (V : SV m A) (h1 : m 120 3 = 1) (h2 : m 123 3 = -1) : ∃ m', Sta_tellSpan m = some m' ∧ m' 129 0 = nm (spN A) (spD A) ∧ m' 129 1 = dn (spN A) (spD A) ∧ (∀ c i, ¬ (120 ≤ c ∧ c ≤ 125) → ¬ (c = 127 ∨ c = 128 ∨ c = 129) → m' c i = m c i) ∧ m' 120 3 = 1 ∧ m' 123 3 = -1 := by
  obtain ⟨m5, e5, P1, P2, V5, f5, c1, c2⟩ := findPeaks_eq v hn V h1 h2
  have p1 := pk_pos v hn (g := 1) (Or.inl rfl)
  have p2 := pk_pos v hn (g := -1) (Or.inr rfl)
  have r1 := RP_pos P1 p1.1.1
  have r2 := RP_pos P2 p2.1.1
  simp only [Nat.reduceAdd] at r1 r2
  have ng := nm_neg (n := (pk A (-1)).1) p2.1.1
  have nn := nm_nm (n := (pk A (-1)).1) p2.1.1
  have d1 := dn_b (p := (pk A 1).1) p1.1.1
  have d2 := dn_b (p := (pk A (-1)).1) p2.1.1
  have b1 := nm_ab (q := (pk A 1).2.1) p1.2
  have b2 := nm_ab (q := (pk A (-1)).2.1) p2.2
  unfold Sta_tellSpan
  rw [e5, ob_some, r2.1, r2.2.1, ng.1, ng.2, become_pos (b62_le b2 (by decide)) ⟨by omega, by omega⟩ d2.1, ob_some, nn.1, nn.2]
  have R := r1
  rw [Int.one_mul] at R
  generalize hm : mset (mset m5 129 0 (nm (pk A (-1)).1 (pk A (-1)).2.1)) 129 1 (dn (pk A (-1)).1 (pk A (-1)).2.1) = m6 at *
  have a1 : m6 121 0 = nm (pk A 1).1 (pk A 1).2.1 := by rw [← hm]; simp [mset, R.1]
  have a2 : m6 121 1 = dn (pk A 1).1 (pk A 1).2.1 := by rw [← hm]; simp [mset, R.2.1]
  have a3 : m6 129 0 = nm (pk A (-1)).1 (pk A (-1)).2.1 := by rw [← hm]; simp [mset]
  have a4 : m6 129 1 = dn (pk A (-1)).1 (pk A (-1)).2.1 := by rw [← hm]; simp [mset]
  have fr : ∀ c i, ¬ c = 129 → m6 c i = m5 c i := fun c i hc => by rw [← hm, mset_if, if_neg (by omega), mset_if, if_neg (by omega)]
  rw [against_eq (by rw [a1]; exact b62_le b1 (by decide)) (by rw [a3]; exact b62_le b2 (by decide)) (by rw [a2]; omega) (by rw [a4]; omega), ob_some, a1, a2, a3, a4]
  have C := (cmp_nd (x := (pk A 1).1) (d := (pk A 1).2.1) (y := (pk A (-1)).1) (e := (pk A (-1)).2.1) p1.1.1 p2.1.1).1
  have key : s32 (sgn (nm (pk A 1).1 (pk A 1).2.1 * dn (pk A (-1)).1 (pk A (-1)).2.1 - nm (pk A (-1)).1 (pk A (-1)).2.1 * dn (pk A 1).1 (pk A 1).2.1)) ≤ 0 ↔ ¬ ((pk A (-1)).1 * (pk A 1).2.1 < (pk A 1).1 * (pk A (-1)).2.1) := by
    rw [← C]
    unfold sgn
    split
    · rw [s32_id (a := -1) (by decide) (by decide)]
      constructor
      · intro _; omega
      · intro _; omega
    · split
      · rw [s32_0]
        constructor
        · intro _; omega
        · intro _; omega
      · rw [s32_1]
        constructor
        · intro _; omega
        · intro _; omega
  unfold spN spD
  by_cases c : (pk A (-1)).1 * (pk A 1).2.1 < (pk A 1).1 * (pk A (-1)).2.1
  · rw [if_neg (fun z => key.mp z c), if_pos c, if_pos c]
    unfold Frac_copy
    simp only [lt_id, ob_some]
    refine ⟨_, rfl, ?_, ?_, fun c i x1 x2 => ?_, ?_, ?_⟩
    · simp [mset, a1]
    · simp [mset, a2]
    · rw [mset_if, if_neg (by omega), mset_if, if_neg (by omega), fr c i (by omega), f5 c i x1 (by omega)]
    · rw [mset_if, if_neg (by omega), mset_if, if_neg (by omega), fr _ _ (by omega)]; exact c1
    · rw [mset_if, if_neg (by omega), mset_if, if_neg (by omega), fr _ _ (by omega)]; exact c2
  · rw [if_pos (key.mpr c), if_neg c, if_neg c]
    exact ⟨m6, rfl, a3, a4, fun c i x1 x2 => by rw [fr c i (by omega), f5 c i x1 (by omega)], by rw [fr _ _ (by omega)]; exact c1, by rw [fr _ _ (by omega)]; exact c2⟩
/-- what span() leaves alone -/
def spf (m' m : Mem) : Prop := ∀ c i, ¬ (c = 149 ∧ (i = 5 ∨ i = 6 ∨ i = 13 ∨ (15 ≤ i ∧ i ≤ 20))) → ¬ (153 ≤ c ∧ c ≤ 158) → m' c i = m c i
theorem span2_eq {m : Mem} {A : Int → Int} (v : VA A) (hn : 2 ≤ A 1) (hA : m 150 = A) : ∃ m', Mo_span m = some m' ∧ m' 149 19 = nm (spN A) (spD A) ∧ m' 149 20 = dn (spN A) (spD A) ∧ spf m' m := by
  obtain ⟨m1, e1, V1, f1⟩ := reactions_eq v hn hA
  have p1 := pk_pos v hn (g := 1) (Or.inl rfl)
  have p2 := pk_pos v hn (g := -1) (Or.inr rfl)
  obtain ⟨m2, e2, Q2⟩ := looks_eq v hn V1 (g := 1) (Or.inl rfl)
  have V2 := QI_MV V1 Q2
  obtain ⟨m5, e5, Q5⟩ := looks_eq v hn V2 (g := -1) (Or.inr rfl)
  have q2 := QM_pos Q2.1 p1.1.1
  have q5 := QM_pos Q5.1 p2.1.1
  unfold Mo_span
  rw [e1, ob_some, e2, ob_some, lt_id, lt_id, e5, ob_some, isLess_eq (b62_le q5.2.1 (by decide)) (b62_le q2.2.1 (by decide)) ⟨q5.1.1, by omega⟩ ⟨q2.1.1, by omega⟩, ob_some]
  have key : m5 149 15 * m2 149 16 < m2 149 15 * m5 149 16 ↔ (pk A (-1)).1 * (pk A 1).2.1 < (pk A 1).1 * (pk A (-1)).2.1 := by
    have h1 := q5.2.2.1
    have h2 := q2.2.2.1
    have pq := pos2 q5.1.1 q2.1.1
    have pd := pos2 p1.1.1 p2.1.1
    generalize m5 149 15 = a at *
    generalize m5 149 16 = b at *
    generalize m2 149 15 = c at *
    generalize m2 149 16 = d at *
    generalize (pk A (-1)).1 = n2 at *
    generalize (pk A (-1)).2.1 = d2 at *
    generalize (pk A 1).1 = n1 at *
    generalize (pk A 1).2.1 = d1 at *
    have x1 : (a * d) * (d1 * d2) = (n2 * d1) * (b * d) := by
      have : (a * d) * (d1 * d2) = (a * d2) * (d * d1) := by clear h1 h2; grind
      rw [this, h1]
      clear h1 h2 this
      grind
    have x2 : (c * b) * (d1 * d2) = (n1 * d2) * (b * d) := by
      have : (c * b) * (d1 * d2) = (c * d1) * (b * d2) := by clear h1 h2 x1; grind
      rw [this, h2]
      clear h1 h2 this x1
      grind
    rw [← lt_mul_iff (a := a * d) pd, x1, x2, lt_mul_iff pq]
  have fin : ∀ {p q n d : Int}, (0 < q ∧ q ≤ 200000000000000) → ab p 3000000000000000000 → 0 < d → p * d = n * q → ∃ m', (Mo_is p q m5).bind (fun m9 => lt (mset m9 149 19 (m9 149 5)) (fun m10 => lt (mset m10 149 20 (m10 149 6)) (fun m11 => some m11))) = some m' ∧ m' 149 19 = nm n d ∧ m' 149 20 = dn n d ∧ spf m' m := by
    intro p q n d hq hp hd e
    obtain ⟨m9, e9, g9, f9⟩ := is_frac (mem := m5) (p := p) (q := q) (X := n) (D := d) (b62_le hp (by decide)) ⟨by omega, by omega⟩ hq.1 hd e
    rw [e9, ob_some]
    simp only [lt_id]
    refine ⟨_, rfl, ?_, ?_, fun c i x1 x2 => ?_⟩
    · simp [mset, g9.1]
    · simp [mset, g9.2]
    · rw [mset_if, if_neg (by omega), mset_if, if_neg (by omega), f9 c i (by omega), Q5.2 c i (by omega), Q2.2 c i (by omega), f1 c i (by omega) x2]
  rw [jn_id]
  by_cases c : (pk A (-1)).1 * (pk A 1).2.1 < (pk A 1).1 * (pk A (-1)).2.1
  · rw [if_pos (key.mpr c), s32_1, if_1']
    dsimp only
    rw [jn_id, if_1']
    dsimp only
    unfold spN spD
    rw [if_pos c, if_pos c]
    exact fin q2.1 q2.2.1 p1.1.1 q2.2.2.1
  · rw [if_neg (fun z => c (key.mp z)), s32_0, if_0']
    dsimp only
    rw [jn_id, if_0']
    dsimp only
    unfold spN spD
    rw [if_neg c, if_neg c]
    exact fin q5.1 q5.2.1 p2.1.1 q5.2.2.1
theorem updS_nn {s : Int × Int × Int × Int} {n d wn wd : Int} (h : 0 < s.2.1 ∧ 0 ≤ s.1) (hd : 0 < d) : 0 < (updS s n d wn wd).2.1 ∧ 0 ≤ (updS s n d wn wd).1 := by
  by_cases c : s.2.1 = 0 ∨ s.1 * d < n * s.2.1
  · rw [updS_yes c]
    refine ⟨hd, ?_⟩
    rcases c with c | c
    · omega
    · have : 0 ≤ s.1 * d := Int.mul_nonneg h.2 (by omega)
      show 0 ≤ n
      by_cases x : 0 ≤ n
      · exact x
      · have := Int.mul_le_mul_of_nonneg_right (show n ≤ 0 by omega) (show 0 ≤ s.2.1 by omega)
        rw [Int.zero_mul] at this
        omega
  · rw [updS_no c]; exact h
theorem pk1_nn {A : Int → Int} (v : VA A) (hn : 2 ≤ A 1) : 0 ≤ (pk A 1).1 := by
  have l10 := v.1
  have B1 := (bnd v hn).1
  have turn : ∀ (k : Int) (s : Int × Int × Int × Int), 0 ≤ k → k ≤ A 0 → 0 < s.2.1 ∧ 0 ≤ s.1 → 0 < (turnS A 1 k s).2.1 ∧ 0 ≤ (turnS A 1 k s).1 := by
    intro k s k0 k1 h
    unfold turnS
    split
    · rename_i c
      exact updS_nn h (bounds_turn v hn (Or.inl rfl) k0 k1 c.1).1.1
    · exact h
  have all : ∀ n : Nat, (n : Int) + 1 ≤ A 0 → 0 < (pkN A 1 (n + 1)).2.1 ∧ 0 ≤ (pkN A 1 (n + 1)).1 := by
    intro n
    induction n with
    | zero =>
      intro _
      simp only [pkN]
      refine turn _ _ (by omega) (by omega) ?_
      unfold nodeS
      rw [updS_yes (Or.inl rfl), show ((0 : Nat) : Int) = 0 from rfl, MB_zero v]
      exact ⟨by show 0 < 2 * DD A; omega, Int.le_refl 0⟩
    | succ n ih =>
      intro h
      have i := ih (by omega)
      generalize hs : pkN A 1 (n + 1) = s at *
      show 0 < (turnS A 1 ((n + 1 : Nat) : Int) (nodeS A 1 ((n + 1 : Nat) : Int) (pkN A 1 (n + 1)))).2.1 ∧ 0 ≤ (turnS A 1 ((n + 1 : Nat) : Int) (nodeS A 1 ((n + 1 : Nat) : Int) (pkN A 1 (n + 1)))).1
      rw [hs]
      exact turn _ _ (by omega) (by omega) (updS_nn i (by omega))
  have a := all ((A 0).toNat - 1) (by omega)
  rw [show (A 0).toNat - 1 + 1 = (A 0).toNat by omega] at a
  unfold pk nodeS
  exact (updS_nn a (by omega)).2
theorem spN_nn {A : Int → Int} (v : VA A) (hn : 2 ≤ A 1) : 0 ≤ spN A := by
  have p1 := pk_pos v hn (g := 1) (Or.inl rfl)
  have p2 := pk_pos v hn (g := -1) (Or.inr rfl)
  have n1 := pk1_nn v hn
  unfold spN
  split
  · exact n1
  · rename_i c
    have := Int.mul_nonneg n1 (show 0 ≤ (pk A (-1)).2.1 by omega)
    by_cases x : 0 ≤ (pk A (-1)).1
    · exact x
    · have y := Int.mul_le_mul_of_nonneg_right (show (pk A (-1)).1 ≤ -1 by omega) (show 0 ≤ (pk A 1).2.1 by omega)
      rw [Int.neg_mul, Int.one_mul] at y
      omega
