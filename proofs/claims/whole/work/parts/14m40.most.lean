/-! loads that roll along it: the model, and both -/
theorem roll_mod {A : Int → Int} (v : VA A) {p : Nat} (hp : p ≤ 19) (K : Mem → Option (Int × Mem)) {m0 : Mem} : ∀ (d n : Nat) (i : Nat) (m : Mem), (i : Int) + (d : Int) = A 29 → d < n → m 150 = rlA A (gA A p) (p : Int) i → (∀ c q, ¬ c = 150 → m c q = m0 c q) → ∃ m', Mo_most_L30 (p : Int) K n (i : Int) m = K m' ∧ m' 150 = rlF A p ∧ (∀ c q, ¬ c = 150 → m' c q = m0 c q) := by
  have v4 := v.2.2.2.1
  have l10 := v.1
  intro d
  induction d with
  | zero =>
    intro n i m hi hd S F
    obtain ⟨n', rfl⟩ : ∃ n', n = n' + 1 := ⟨n - 1, by omega⟩
    obtain ⟨ra, rb, rc⟩ := rl_ok v (gA_ok v p).1 (gA_ok v p).2 (p : Int) i (by omega)
    refine ⟨m, ?_, by rw [S]; show _ = rlA A (gA A p) (p : Int) (A 29).toNat; rw [show (A 29).toNat = i by omega], F⟩
    rw [Mo_most_L30, S, rc 29 (by omega), show A 29 = (i : Int) by omega, if_pos (Int.le_refl _)]
  | succ d ih =>
    intro n i m hi hd S F
    obtain ⟨n', rfl⟩ : ∃ n', n = n' + 1 := ⟨n - 1, by omega⟩
    obtain ⟨ra, rb, rc⟩ := rl_ok v (gA_ok v p).1 (gA_ok v p).2 (p : Int) i (by omega)
    have ax := v.2.2.2.2.2.2.2 (i : Int) (by omega) (by omega)
    have s0 : m 150 0 = A 0 := by rw [S]; exact rc 0 (by omega)
    rw [Mo_most_L30, S, rc 29 (by omega), s32_id (a := A 29) (by omega) (by omega), s32_id (a := (i : Int)) (by omega) (by omega), if_neg (by omega), ck_id (by omega) (by omega) (by omega), s32_id (a := 30 + (i : Int)) (by omega) (by omega), rc (30 + (i : Int)) (by omega), Mo_isPlace_eq (r32_of (by omega)) (by rw [s0]; exact r32_of (by omega)), s0, ob_some, ck_id (by omega) (by omega) (by omega), ck_id (by omega) (by omega) (by omega), s32_id (a := 33 + (i : Int)) (by omega) (by omega), rc (33 + (i : Int)) (by omega)]
    have nx : rlA A (gA A p) (p : Int) (i + 1) = if 0 ≤ (p : Int) - A (30 + (i : Int)) ∧ (p : Int) - A (30 + (i : Int)) ≤ A 0 then putA (rlA A (gA A p) p i) ((p : Int) - A (30 + (i : Int))) (A (33 + (i : Int))) else rlA A (gA A p) p i := rfl
    by_cases x : 0 ≤ (p : Int) - A (30 + (i : Int)) ∧ (p : Int) - A (30 + (i : Int)) ≤ A 0
    · rw [if_pos x] at nx
      obtain ⟨m14, e14, h14, f14⟩ := alone_put S (by omega) ((p : Int) - A (30 + (i : Int))) (A (33 + (i : Int)))
      rw [if_pos x, s32_1, if_1', e14, ob_some, show (i : Int) + 1 = ((i + 1 : Nat) : Int) by omega]
      exact ih n' (i + 1) m14 (by omega) (by omega) (by rw [nx]; exact h14) (fun c q hc => by rw [f14 c q hc]; exact F c q hc)
    · rw [if_neg x] at nx
      rw [if_neg x, s32_0, if_0', show (i : Int) + 1 = ((i + 1 : Nat) : Int) by omega]
      exact ih n' (i + 1) m (by omega) (by omega) (by rw [nx]; exact S) F
def QR (m : Mem) (s : Int × Int × Int × Int) : Prop := (s.2.1 = 0 ∧ m 149 16 = 0) ∨ (0 < s.2.1 ∧ m 149 15 = nm s.1 s.2.1 ∧ m 149 16 = dn s.1 s.2.1 ∧ m 149 17 = s.2.2.1 ∧ m 149 18 = s.2.2.2)
theorem triesR_eq {m : Mem} {s : Int × Int × Int × Int} {n d wn wd : Int} (h : QR m s) (hs : okS s) (hd : 0 < d ∧ d ≤ 200000000000000) (hn : ab n 3000000000000000000) : ∃ m', Mo_tries (nm n d) (dn n d) wn wd m = some m' ∧ QR m' (updS s n d wn wd) ∧ ftr m' m := by
  have put : ∃ m', lt (mset m 149 15 (nm n d)) (fun m1 => lt (mset m1 149 16 (dn n d)) (fun m2 => lt (mset m2 149 17 wn) (fun m3 => lt (mset m3 149 18 wd) (fun m4 => some m4)))) = some m' ∧ QR m' (n, d, wn, wd) ∧ ftr m' m := by
    simp only [lt_id]
    refine ⟨_, rfl, Or.inr ⟨hd.1, ?_⟩, fun c i hc => ?_⟩
    · simp [mset]
    · simp only [mset]
      rw [if_neg (by omega), if_neg (by omega), if_neg (by omega), if_neg (by omega)]
  obtain ⟨m', e', Q, fr⟩ := put
  have dd := dn_b (p := n) hd.1
  have nn := nm_ab (q := d) hn
  unfold Mo_tries
  rw [jn_id, e']
  rcases h with ⟨z1, z2⟩ | ⟨z1, z2, z3, z4, z5⟩
  · rw [z2, if_pos rfl, updS_yes (Or.inl z1)]
    exact ⟨m', rfl, Q, fr⟩
  · have os : (0 < s.2.1 ∧ s.2.1 ≤ 200000000000000) ∧ ab s.1 3000000000000000000 := by
      rcases hs with y | y
      · omega
      · exact y
    have d2 := dn_b (p := s.1) os.1.1
    have n2 := nm_ab (q := s.2.1) os.2
    have C := (cmp_nd (x := n) (d := d) (y := s.1) (e := s.2.1) hd.1 os.1.1).1
    rw [z2, z3, b62_s (x := dn s.1 s.2.1) ⟨by omega, by omega⟩, s64_0, if_neg (by omega), isLess_eq (b62_le n2 (by decide)) (b62_le nn (by decide)) ⟨d2.1, by omega⟩ ⟨dd.1, by omega⟩, ob_some]
    by_cases c : s.1 * d < n * s.2.1
    · rw [if_pos (C.mpr c), s32_1, if_1', updS_yes (Or.inr c)]
      exact ⟨m', rfl, Q, fr⟩
    · rw [if_neg (fun y => c (C.mp y)), s32_0, if_0', updS_no (by intro y; rcases y with y | y; omega; exact c y)]
      exact ⟨m, rfl, Or.inr ⟨z1, z2, z3, z4, z5⟩, fun _ _ _ => rfl⟩
def mof (m' m : Mem) : Prop := ∀ c i, ¬ c = 150 → ¬ (c = 149 ∧ (i = 5 ∨ i = 6 ∨ i = 13 ∨ (15 ≤ i ∧ i ≤ 18))) → ¬ (153 ≤ c ∧ c ≤ 158) → m' c i = m c i
theorem most_loop {A : Int → Int} (v : VA A) (hn : 2 ≤ A 1) {x k : Int} (hx : 0 ≤ x ∧ x ≤ A 0) (hk : -1 ≤ k ∧ k < A 1) {m0 : Mem} (K : Mem → Option (Int × Mem)) : ∀ (d n : Nat) (p : Nat) (m : Mem), (p : Int) + (d : Int) = 20 → d < n → m 150 = gA A p → QR m (rsN A x k p) → mof m m0 → ∃ m', Mo_most_L12 x k K n (p : Int) m = K m' ∧ QR m' (rsN A x k 20) ∧ mof m' m0 ∧ m' 150 = gA A 20 := by
  intro d
  induction d with
  | zero =>
    intro n p m hp hd S Q F
    obtain ⟨n', rfl⟩ : ∃ n', n = n' + 1 := ⟨n - 1, by omega⟩
    have e : p = 20 := by omega
    subst e
    refine ⟨m, ?_, Q, F, S⟩
    rw [Mo_most_L12, if_pos (show s32 20 ≤ s32 ((20 : Nat) : Int) from Int.le_refl _)]
  | succ d ih =>
    intro n p m hp hd S Q F
    obtain ⟨n', rfl⟩ : ∃ n', n = n' + 1 := ⟨n - 1, by omega⟩
    have v4 := v.2.2.2.1
    have R := rlF_ok v p
    have s1 : rlF A p 1 = A 1 := R.2 1 (by omega)
    have s0 : rlF A p 0 = A 0 := R.2 0 (by omega)
    have hB : mset m 150 10 0 150 = rlA A (gA A p) (p : Int) 0 := by
      funext i
      rw [mset_c, S]
      rfl
    obtain ⟨m8, e8, h8, f8⟩ := roll_mod v (p := p) (by omega) (fun m8 => (Mo_asked x k m8).bind (fun m9 => (Mo_tries (m9 149 5) (m9 149 6) (p : Int) 1 m9).bind (fun m10 => Mo_most_L12 x k K n' ((p : Int) + 1) m10))) (m0 := mset m 150 10 0) (A 29).toNat 2000 0 (mset m 150 10 0) (by omega) (by omega) hB (fun _ _ _ => rfl)
    obtain ⟨m9, e9, g9, f9⟩ := asked_eq R.1 (by rw [s1]; exact hn) h8 (x := x) (k := k) (by rw [s0]; exact hx) (by rw [s1]; exact hk)
    have b := aN_b R.1 (by rw [s1]; exact hn) (x := x) (k := k) (by rw [s0]; exact hx) (by rw [s1]; exact hk.2)
    have Q9 : QR m9 (rsN A x k p) := by
      have g : ∀ i, 15 ≤ i → i ≤ 18 → m9 149 i = m 149 i := fun i i0 i1 => by rw [f9 149 i (by omega) (by omega), f8 149 i (by decide), mset_if, if_neg (by omega)]
      rcases Q with ⟨z1, z2⟩ | ⟨z1, z2, z3, z4, z5⟩
      · exact Or.inl ⟨z1, by rw [g 16 (by omega) (by omega)]; exact z2⟩
      · exact Or.inr ⟨z1, by rw [g 15 (by omega) (by omega)]; exact z2, by rw [g 16 (by omega) (by omega)]; exact z3, by rw [g 17 (by omega) (by omega)]; exact z4, by rw [g 18 (by omega) (by omega)]; exact z5⟩
    obtain ⟨m10, e10, Q10, f10⟩ := triesR_eq (wn := (p : Int)) (wd := 1) Q9 (rs_pos v hn hx hk p).1 (n := aN (rlF A p) x k) (d := aD (rlF A p) k) ⟨b.2.1, by omega⟩ (ab_mono b.1 (by decide))
    rw [Mo_most_L12, s32_id (a := 20) (by decide) (by decide), s32_id (a := (p : Int)) (by omega) (by omega), if_neg (by omega), lt_id, jn_id]
    have e8' : Mo_most_L30 (p : Int) (fun m8 => (Mo_asked x k m8).bind (fun m9 => (Mo_tries (m9 149 5) (m9 149 6) (p : Int) 1 m9).bind (fun m10 => Mo_most_L12 x k K n' ((p : Int) + 1) m10))) 2000 0 (mset m 150 10 0) = _ := e8
    rw [e8', e9, ob_some, g9.1, g9.2, e10, ob_some, show (p : Int) + 1 = ((p + 1 : Nat) : Int) by omega]
    refine ih n' (p + 1) m10 (by omega) (by omega) ?_ Q10 (fun c i c1 c2 c3 => ?_)
    · have : m10 150 = m8 150 := by funext i; rw [f10 150 i (by omega), f9 150 i (by omega) (by omega)]
      rw [this, h8]
      rfl
    · rw [f10 c i (by omega), f9 c i (by omega) c3, f8 c i c1, mset_if, if_neg (by omega)]
      exact F c i c1 c2 c3
theorem most_eq {A : Int → Int} (v : VA A) (hn : 2 ≤ A 1) {x k r : Int} (hx : 0 ≤ x ∧ x ≤ A 0) (hk : -1 ≤ k ∧ k < A 1) (hr : 0 ≤ r ∧ r ≤ 2) {m : Mem} (hA : m 150 = A) (R : Rel m) : ∃ m', Mo_most x k r m = some ((if r = 0 then nm (rsN A x k 20).1 (rsN A x k 20).2.1 else if r = 1 then dn (rsN A x k 20).1 (rsN A x k 20).2.1 else (rsN A x k 20).2.2.1), m') ∧ Rel m' := by
  obtain ⟨m1, e1, t1, t2⟩ := thinks_eq m
  have h2 : mset m1 149 16 0 150 = gA A 0 := by
    funext i
    rw [mset_if, if_neg (by omega), t2 150 i (by decide), hA]
    rfl
  obtain ⟨m3, e3, Q3, f3, h3⟩ := most_loop v hn hx hk (m0 := mset m1 149 16 0) (fun m3 => (Mo_laysBack m3).bind (fun m4 => if ¬ s32 r = 0 then (if ¬ s32 r = s32 1 then (some ((m4 149 17), m4)) else (some ((m4 149 16), m4))) else (some ((m4 149 15), m4)))) 20 2000 0 (mset m1 149 16 0) (by omega) (by omega) h2 (Or.inl ⟨rfl, mset_here _ _ _ _⟩) (fun _ _ _ _ _ => rfl)
  obtain ⟨m4, e4, l1, l2, l3⟩ := laysBack_eq m3
  have h150 : m4 150 = m 150 := by
    funext i
    by_cases c : 0 ≤ i ∧ i < 36
    · rw [l1 i c.1 c.2, f3 160 i (by omega) (by omega) (by omega), mset_if, if_neg (by omega), t1 i c.1 c.2]
    · rw [l2 i c, h3, hA]
      exact (gA_ok v 20).2 i (by omega)
  have R4 : Rel m4 := Rel_mod R (fun c i x1 x2 x3 => by
    by_cases c5 : c = 150
    · rw [c5, h150]
    · rw [l3 c i c5, f3 c i c5 (by omega) (by omega), mset_if, if_neg (by omega), t2 c i (by omega)])
  have ps := (rs_pos v hn hx hk 20).2 (by omega)
  have q : m4 149 15 = nm (rsN A x k 20).1 (rsN A x k 20).2.1 ∧ m4 149 16 = dn (rsN A x k 20).1 (rsN A x k 20).2.1 ∧ m4 149 17 = (rsN A x k 20).2.2.1 := by
    rw [l3 149 15 (by decide), l3 149 16 (by decide), l3 149 17 (by decide)]
    rcases Q3 with ⟨z, -⟩ | ⟨-, z2, z3, z4, -⟩
    · omega
    · exact ⟨z2, z3, z4⟩
  unfold Mo_most
  rw [e1, ob_some, lt_id, jn_id]
  have e3' : Mo_most_L12 x k (fun m3 => (Mo_laysBack m3).bind (fun m4 => if ¬ s32 r = 0 then (if ¬ s32 r = s32 1 then (some ((m4 149 17), m4)) else (some ((m4 149 16), m4))) else (some ((m4 149 15), m4)))) 2000 0 (mset m1 149 16 0) = _ := e3
  rw [e3', e4, ob_some, s32_id (a := r) (by omega) (by omega), s32_1, q.1, q.2.1, q.2.2]
  refine ⟨m4, ?_, R4⟩
  by_cases c : r = 0
  · rw [if_neg (fun z => z c), if_pos c]
  · rw [if_pos c, if_neg c]
    by_cases d : r = 1
    · rw [if_neg (fun z => z d), if_pos d]
    · rw [if_pos d, if_neg d]
theorem canRoll_eq {mem : Mem} {r : Int} (hr : r32 r) (h1 : 0 ≤ mem 1 1 ∧ mem 1 1 ≤ 4) (h9 : 0 ≤ mem 1 9 ∧ mem 1 9 ≤ 3) : BP_canRoll r mem = some (if 2 ≤ mem 1 1 ∧ 0 < mem 1 9 ∧ 0 ≤ r ∧ r ≤ 2 then 1 else 0) := by
  obtain ⟨r1, r2⟩ := hr
  have e2 : s32 2 = 2 := s32_id (by decide) (by decide)
  unfold BP_canRoll
  rw [Beam_stands_eq h1, ob_some, s32_id (a := mem 1 9) (by omega) (by omega), s32_id (a := r) (by omega) (by omega), e2]
  by_cases c1 : 2 ≤ mem 1 1
  · rw [if_pos c1, s32_1, if_1']
    by_cases c2 : mem 1 9 ≤ 0
    · rw [if_pos c2, if_neg (by omega)]
    · rw [if_neg c2]
      by_cases c3 : r < 0
      · rw [if_pos c3, if_neg (by omega)]
      · rw [if_neg c3]
        by_cases c4 : 2 < r
        · rw [if_pos c4, if_neg (by omega)]
        · rw [if_neg c4, if_pos (by omega)]
  · rw [if_neg c1, s32_0, if_0', if_neg (by omega)]
theorem byRolling_eq {mem : Mem} {A : Int → Int} (v : VA A) (hn : 2 ≤ A 1) (h : RB mem 1 A) {b : Nat} {i x k r : Int} (hx : 0 ≤ x ∧ x ≤ A 0) (hk : -1 ≤ k ∧ k < A 1) (hi : 0 ≤ i ∧ i < (ln b : Int) ∧ i < 100) (hbc : b = 116 ∨ b = 118) (hr : 0 ≤ r ∧ r ≤ 2)
    (hb : ∀ m B, VA B → 2 ≤ B 1 → B 0 = A 0 → B 1 = A 1 → SV m B → b62 (m b i) ∧ nm (m b i) (DD B) = nm (aN B x k) (aD B k) ∧ dn (m b i) (DD B) = dn (aN B x k) (aD B k)) : ∃ m', BP_mostByRolling b i r mem = some ((if r = 0 then nm (rsN A x k 20).1 (rsN A x k 20).2.1 else if r = 1 then dn (rsN A x k 20).1 (rsN A x k 20).2.1 else (rsN A x k 20).2.2.1), m') ∧ (∀ c q, (c < 111 ∨ 130 < c ∨ (119 ≤ c ∧ c ≤ 125)) → m' c q = mem c q) := by
  obtain ⟨m', e, f, t0, t1⟩ := roll_loop v hn h hx hk hi hbc hb (fun x1 m2 => if ¬ s32 r = s32 2 then ((Frac_told 129 r m2).bind (fun r3 => some (r3, m2))) else (some ((s32 x1), m2))) 20 2000 0 0 mem (by omega) (by omega) (fun _ _ _ => rfl) (fun h => by omega)
  have ps := (rs_pos v hn hx hk 20).2 (by omega)
  unfold BP_mostByRolling
  rw [jn_id]
  have e' : BP_mostByRolling_L6 b i (fun x1 m2 => if ¬ s32 r = s32 2 then ((Frac_told 129 r m2).bind (fun r3 => some (r3, m2))) else (some ((s32 x1), m2))) 2000 0 0 mem = _ := e
  rw [e', s32_id (a := r) (by omega) (by omega), s32_id (a := 2) (by decide) (by decide), s32_id (a := (rsN A x k 20).2.2.1) (by omega) (by omega)]
  refine ⟨m', ?_, f⟩
  by_cases c : r = 2
  · rw [if_neg (fun z => z c), if_neg (by omega), if_neg (by omega)]
  · rw [if_pos c, told_rd (by omega), ob_some, t0, t1]
    by_cases d : r = 0
    · rw [if_pos d, if_pos d]
    · rw [if_neg d, if_neg d, if_pos (by omega)]
theorem ok_rolls (a : Int) (b : Int) (ha : r32 a) (hb : r32 b) : OkM (BP_rolls a b) (Mo_rolls a b) s64 := by
  intro mem R
  have R0 := R
  obtain ⟨⟨v, rb⟩, -⟩ := R0
  have n4 := v.2.1
  have l10 := v.1
  have v4 := v.2.2.2.1
  have b2 := rb.2.1
  have b1 := rb.1
  have b9 := rb.2.2.2.1
  obtain ⟨ha1, ha2⟩ := ha
  obtain ⟨hb1, hb2⟩ := hb
  unfold BP_rolls Mo_rolls
  rw [canRoll_eq ⟨hb1, hb2⟩ (by omega) (by omega), ob_some, Beam_isPlace_eq ⟨ha1, ha2⟩ (r32_of (by omega)), ob_some, b1, b2, b9]
  by_cases h2 : 0 ≤ a ∧ a ≤ mem 150 0
  · by_cases h3 : 0 ≤ b ∧ b ≤ 2
    · by_cases h1 : 2 ≤ mem 150 1
      · by_cases h4 : 0 < mem 150 29
        · rw [if_pos (show 2 ≤ mem 150 1 ∧ 0 < mem 150 29 ∧ 0 ≤ b ∧ b ≤ 2 from ⟨h1, h4, h3⟩), s32_1, if_1', if_pos h2, s32_1, if_1]
          obtain ⟨m6, e6, f6⟩ := byRolling_eq (b := 118) (i := a) (x := a) (k := -1) (r := b) v h1 rb h2 (by omega) ⟨h2.1, by rw [show ln 118 = 11 from by decide]; omega, by omega⟩ (Or.inr rfl) h3 (fun m B vB nB s0 s1 V => by
            have mb := MB_ab' vB nB (x := a) h2.1 (by rw [s0]; exact h2.2)
            have e := (V.2.2.2.2 a h2.1 (by rw [s0]; exact h2.2)).2
            have B1 := (bnd vB nB).1
            refine ⟨by unfold ab at mb; exact ⟨by omega, by omega⟩, ?_⟩
            unfold aN aD
            rw [if_pos (by decide), if_pos (by decide)]
            rcases MB_even V h2.1 (by rw [s0]; exact h2.2) with z | z
            · exact z
            · omega)
          have R6 : Rel m6 := Rel_cls R (fun c i hc => f6 c i (by omega))
          have hA6 : m6 150 = mem 150 := by funext i; exact f6 150 i (by omega)
          obtain ⟨m7, e7, R7⟩ := most_eq v h1 (x := a) (k := -1) (r := b) h2 (by omega) h3 hA6 R6
          rw [e6, bdI_some]
          refine ⟨_, m6, _, m7, rfl, ?_, rfl, R7⟩
          rw [Mo_isPlace_eq ⟨ha1, ha2⟩ (by rw [hA6]; exact r32_of (by omega)), hA6, ob_some, if_pos h2, s32_1, if_1', s32_id (a := b) (by omega) (by omega), Mo_in_eq (by omega) (by omega) (by omega), ob_some, if_pos h3, s32_1, if_1', Mo_stands_eq (by rw [hA6]; omega), hA6, ob_some, if_pos h1, s32_1, if_1', s32_id (a := mem 150 29) (by omega) (by omega), if_pos (show ¬ mem 150 29 = 0 by omega), e7, bdI_some]
        · refine ⟨-9223372036854775808, mem, -9223372036854775808, mem, ?_, ?_, rfl, R⟩
          · rw [if_neg (show ¬ (2 ≤ mem 150 1 ∧ 0 < mem 150 29 ∧ 0 ≤ b ∧ b ≤ 2) by omega), s32_0, if_0']
          · rw [Mo_isPlace_eq ⟨ha1, ha2⟩ (r32_of (by omega)), ob_some, if_pos h2, s32_1, if_1', s32_id (a := b) (by omega) (by omega), Mo_in_eq (by omega) (by omega) (by omega), ob_some, if_pos h3, s32_1, if_1', Mo_stands_eq n4, ob_some, if_pos h1, s32_1, if_1', s32_id (a := mem 150 29) (by omega) (by omega), if_neg (show ¬ ¬ mem 150 29 = 0 by omega)]
      · refine ⟨-9223372036854775808, mem, -9223372036854775808, mem, ?_, ?_, rfl, R⟩
        · rw [if_neg (show ¬ (2 ≤ mem 150 1 ∧ 0 < mem 150 29 ∧ 0 ≤ b ∧ b ≤ 2) by omega), s32_0, if_0']
        · rw [Mo_isPlace_eq ⟨ha1, ha2⟩ (r32_of (by omega)), ob_some, if_pos h2, s32_1, if_1', s32_id (a := b) (by omega) (by omega), Mo_in_eq (by omega) (by omega) (by omega), ob_some, if_pos h3, s32_1, if_1', Mo_stands_eq n4, ob_some, if_neg h1, s32_0, if_0']
    · refine ⟨-9223372036854775808, mem, -9223372036854775808, mem, ?_, ?_, rfl, R⟩
      · rw [if_neg (show ¬ (2 ≤ mem 150 1 ∧ 0 < mem 150 29 ∧ 0 ≤ b ∧ b ≤ 2) by omega), s32_0, if_0']
      · rw [Mo_isPlace_eq ⟨ha1, ha2⟩ (r32_of (by omega)), ob_some, if_pos h2, s32_1, if_1', s32_id (a := b) (by omega) (by omega), Mo_in_eq (by omega) (by omega) (by omega), ob_some, if_neg h3, s32_0, if_0']
  · refine ⟨-9223372036854775808, mem, -9223372036854775808, mem, ?_, ?_, rfl, R⟩
    · rw [if_neg h2, s32_0, if_0]
      by_cases c : 2 ≤ mem 150 1 ∧ 0 < mem 150 29 ∧ 0 ≤ b ∧ b ≤ 2
      · rw [if_pos c, s32_1, if_1']
      · rw [if_neg c, s32_0, if_0']
    · rw [Mo_isPlace_eq ⟨ha1, ha2⟩ (r32_of (by omega)), ob_some, if_neg h2, s32_0, if_0']
theorem ok_presses (a : Int) (b : Int) (ha : r32 a) (hb : r32 b) : OkM (BP_presses a b) (Mo_presses a b) s64 := by
  intro mem R
  have R0 := R
  obtain ⟨⟨v, rb⟩, -⟩ := R0
  have n4 := v.2.1
  have l10 := v.1
  have v4 := v.2.2.2.1
  have b2 := rb.2.1
  have b1 := rb.1
  have b9 := rb.2.2.2.1
  obtain ⟨ha1, ha2⟩ := ha
  obtain ⟨hb1, hb2⟩ := hb
  unfold BP_presses Mo_presses
  rw [canRoll_eq ⟨hb1, hb2⟩ (by omega) (by omega), ob_some, Beam_isSupport_eq ⟨ha1, ha2⟩ (by omega), ob_some, b2, b9]
  by_cases h2 : 0 ≤ a ∧ a < mem 150 1
  · by_cases h3 : 0 ≤ b ∧ b ≤ 2
    · by_cases h1 : 2 ≤ mem 150 1
      · by_cases h4 : 0 < mem 150 29
        · rw [if_pos (show 2 ≤ mem 150 1 ∧ 0 < mem 150 29 ∧ 0 ≤ b ∧ b ≤ 2 from ⟨h1, h4, h3⟩), s32_1, if_1', if_pos h2, s32_1, if_1]
          obtain ⟨m6, e6, f6⟩ := byRolling_eq (b := 116) (i := a) (x := 0) (k := a) (r := b) v h1 rb (by omega) (by omega) ⟨h2.1, by rw [show ln 116 = 4 from by decide]; omega, by omega⟩ (Or.inl rfl) h3 (fun m B vB nB s0 s1 V => by
            have ub := UU_ab vB nB (k := a) h2.1 (by rw [s1]; exact h2.2)
            rw [V.2.2.2.1 a h2.1 (by rw [s1]; exact h2.2)]
            refine ⟨b62_le ub (by decide), ?_⟩
            unfold aN aD
            rw [if_neg (by omega), if_neg (by omega)]
            exact ⟨rfl, rfl⟩)
          have R6 : Rel m6 := Rel_cls R (fun c i hc => f6 c i (by omega))
          have hA6 : m6 150 = mem 150 := by funext i; exact f6 150 i (by omega)
          obtain ⟨m7, e7, R7⟩ := most_eq v h1 (x := 0) (k := a) (r := b) (by omega) (by omega) h3 hA6 R6
          rw [e6, bdI_some]
          refine ⟨_, m6, _, m7, rfl, ?_, rfl, R7⟩
          rw [Mo_isSupport_eq ⟨ha1, ha2⟩ (by rw [hA6]; omega), hA6, ob_some, if_pos h2, s32_1, if_1', s32_id (a := b) (by omega) (by omega), Mo_in_eq (by omega) (by omega) (by omega), ob_some, if_pos h3, s32_1, if_1', Mo_stands_eq (by rw [hA6]; omega), hA6, ob_some, if_pos h1, s32_1, if_1', s32_id (a := mem 150 29) (by omega) (by omega), if_pos (show ¬ mem 150 29 = 0 by omega), e7, bdI_some]
        · refine ⟨-9223372036854775808, mem, -9223372036854775808, mem, ?_, ?_, rfl, R⟩
          · rw [if_neg (show ¬ (2 ≤ mem 150 1 ∧ 0 < mem 150 29 ∧ 0 ≤ b ∧ b ≤ 2) by omega), s32_0, if_0']
          · rw [Mo_isSupport_eq ⟨ha1, ha2⟩ n4, ob_some, if_pos h2, s32_1, if_1', s32_id (a := b) (by omega) (by omega), Mo_in_eq (by omega) (by omega) (by omega), ob_some, if_pos h3, s32_1, if_1', Mo_stands_eq n4, ob_some, if_pos h1, s32_1, if_1', s32_id (a := mem 150 29) (by omega) (by omega), if_neg (show ¬ ¬ mem 150 29 = 0 by omega)]
      · refine ⟨-9223372036854775808, mem, -9223372036854775808, mem, ?_, ?_, rfl, R⟩
        · rw [if_neg (show ¬ (2 ≤ mem 150 1 ∧ 0 < mem 150 29 ∧ 0 ≤ b ∧ b ≤ 2) by omega), s32_0, if_0']
        · rw [Mo_isSupport_eq ⟨ha1, ha2⟩ n4, ob_some, if_pos h2, s32_1, if_1', s32_id (a := b) (by omega) (by omega), Mo_in_eq (by omega) (by omega) (by omega), ob_some, if_pos h3, s32_1, if_1', Mo_stands_eq n4, ob_some, if_neg h1, s32_0, if_0']
    · refine ⟨-9223372036854775808, mem, -9223372036854775808, mem, ?_, ?_, rfl, R⟩
      · rw [if_neg (show ¬ (2 ≤ mem 150 1 ∧ 0 < mem 150 29 ∧ 0 ≤ b ∧ b ≤ 2) by omega), s32_0, if_0']
      · rw [Mo_isSupport_eq ⟨ha1, ha2⟩ n4, ob_some, if_pos h2, s32_1, if_1', s32_id (a := b) (by omega) (by omega), Mo_in_eq (by omega) (by omega) (by omega), ob_some, if_neg h3, s32_0, if_0']
  · refine ⟨-9223372036854775808, mem, -9223372036854775808, mem, ?_, ?_, rfl, R⟩
    · rw [if_neg h2, s32_0, if_0]
      by_cases c : 2 ≤ mem 150 1 ∧ 0 < mem 150 29 ∧ 0 ≤ b ∧ b ≤ 2
      · rw [if_pos c, s32_1, if_1']
      · rw [if_neg c, s32_0, if_0']
    · rw [Mo_isSupport_eq ⟨ha1, ha2⟩ n4, ob_some, if_neg h2, s32_0, if_0']
