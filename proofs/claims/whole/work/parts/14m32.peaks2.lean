/-! greatest and least moments: findPeaks -/
theorem MB_even {m : Mem} {A : Int → Int} (V : SV m A) {k : Int} (h0 : 0 ≤ k) (h1 : k ≤ A 0) : nm (m 118 k) (DD A) = nm (MB A k 1) (2 * DD A) ∧ dn (m 118 k) (DD A) = dn (MB A k 1) (2 * DD A) ∨ DD A ≤ 0 := by
  by_cases c : 0 < DD A
  · refine Or.inl (nd_eq c (by omega) ?_)
    rw [← (V.2.2.2.2 k h0 h1).2]
    grind
  · exact Or.inr (by omega)
theorem okS_zero : okS (0, 0, 0, 0) := Or.inl rfl
theorem bounds_node {A : Int → Int} (v : VA A) (hn : 2 ≤ A 1) {g k : Int} (hg : g = 1 ∨ g = -1) (h0 : 0 ≤ k) (h1 : k ≤ A 0) : (0 < 2 * DD A ∧ 2 * DD A ≤ 200000000000000) ∧ ab (g * MB A k 1) 3000000000000000000 := by
  have B1 := (bnd v hn).1
  exact ⟨⟨by omega, by omega⟩, ab_mono (ab_g hg (MB_ab' v hn h0 h1)) (by decide)⟩
theorem bounds_turn {A : Int → Int} (v : VA A) (hn : 2 ≤ A 1) {g k : Int} (hg : g = 1 ∨ g = -1) (h0 : 0 ≤ k) (h1 : k ≤ A 0) (hq : 0 < sqA A g k) : (0 < tD A g k ∧ tD A g k ≤ 200000000000000) ∧ ab (tN A g k) 3000000000000000000 ∧ (0 < sqA A g k * DD A ∧ sqA A g k * DD A ≤ 59400000) ∧ ab (k * sqA A g k * DD A + g * CT A k) 2000000000 ∧ sqA A g k ≤ 54 := by
  have l10 := v.1
  have B1 := (bnd v hn).1
  have z := ab_g hg (ZS_pl v (p := k) (by omega)).2.2.2
  have m := ab_g hg (MB_ab' v hn h0 h1)
  have c := CT_ab v hn (x := k) (by omega)
  have c' := ab_g hg c
  have q54 : sqA A g k ≤ 54 := by unfold sqA; unfold ab at z; omega
  unfold tD tN
  generalize sqA A g k = q at *
  have qd := mul_b (a := q) (b := DD A) (A := 54) (B := 1100000) ⟨by omega, q54⟩ ⟨by omega, B1.2⟩
  have pqd := pos2 hq B1.1
  have d1 : 2 * q * DD A * DD A = (2 * (q * DD A)) * DD A := by grind
  have dd := mul_b (a := 2 * (q * DD A)) (b := DD A) (A := 118800000) (B := 1100000) ⟨by omega, by omega⟩ ⟨by omega, B1.2⟩
  have pd := pos2 (show 0 < 2 * (q * DD A) by omega) B1.1
  have kq : k * q * DD A = k * (q * DD A) := by grind
  have kb := mul_b (a := k) (b := q * DD A) (A := 10) (B := 59400000) ⟨by omega, by omega⟩ ⟨by omega, by omega⟩
  have cc : ab (CT A k * CT A k) 1000000000000000000 := by
    unfold ab at c
    by_cases x : 0 ≤ CT A k
    · have := mul_b (a := CT A k) (b := CT A k) (A := 1000000000) (B := 1000000000) c ⟨x, c.2⟩
      exact ⟨by omega, by omega⟩
    · have := mul_b (a := -CT A k) (b := -CT A k) (A := 1000000000) (B := 1000000000) ⟨by omega, by omega⟩ ⟨by omega, by omega⟩
      rw [Int.neg_mul_neg] at this
      exact ⟨by omega, by omega⟩
  have mq : ab (g * MB A k 1 * q * DD A) 1223640000000000000 := by
    have : g * MB A k 1 * q * DD A = (q * DD A) * (g * MB A k 1) := by grind
    rw [this]
    exact ab_mono (ab_mul2 m (by omega) (show q * DD A ≤ 59400000 by omega)) (by decide)
  refine ⟨⟨by omega, by omega⟩, ab_mono (ab_add mq cc) (by decide), ⟨pqd, by omega⟩, ?_, q54⟩
  rw [kq]
  unfold ab at *
  omega
theorem okS_node {A : Int → Int} (v : VA A) (hn : 2 ≤ A 1) {g k : Int} (hg : g = 1 ∨ g = -1) (h0 : 0 ≤ k) (h1 : k ≤ A 0) {s : Int × Int × Int × Int} (hs : okS s) : okS (nodeS A g k s) := by
  have b := bounds_node v hn hg h0 h1
  exact okS_updS hs b.1 b.2
theorem okS_turn {A : Int → Int} (v : VA A) (hn : 2 ≤ A 1) {g k : Int} (hg : g = 1 ∨ g = -1) (h0 : 0 ≤ k) (h1 : k ≤ A 0) {s : Int × Int × Int × Int} (hs : okS s) : okS (turnS A g k s) := by
  unfold turnS
  split
  · rename_i h
    have b := bounds_turn v hn hg h0 h1 h.1
    exact okS_updS hs b.1 b.2.1
  · exact hs
theorem okS_pkN {A : Int → Int} (v : VA A) (hn : 2 ≤ A 1) {g : Int} (hg : g = 1 ∨ g = -1) : ∀ n : Nat, (n : Int) ≤ A 0 → okS (pkN A g n) := by
  intro n
  induction n with
  | zero => intro _; exact okS_zero
  | succ n ih =>
    intro h
    simp only [pkN]
    exact okS_turn v hn hg (by omega) (by omega) (okS_node v hn hg (by omega) (by omega) (ih (by omega)))
/-- behind a place, what is kept is no less than what is there -/
theorem node_ge {A : Int → Int} (v : VA A) (hn : 2 ≤ A 1) {g k : Int} {s : Int × Int × Int × Int} (hs : okS s) : 0 < (nodeS A g k s).2.1 ∧ (g * MB A k 1) * (nodeS A g k s).2.1 ≤ (nodeS A g k s).1 * (2 * DD A) := by
  have B1 := (bnd v hn).1
  unfold nodeS
  by_cases c : s.2.1 = 0 ∨ s.1 * (2 * DD A) < g * MB A k 1 * s.2.1
  · rw [updS_yes c]
    exact ⟨by show 0 < 2 * DD A; omega, Int.le_refl _⟩
  · rw [updS_no c]
    refine ⟨?_, by omega⟩
    rcases hs with z | z
    · exact absurd (Or.inl z) c
    · exact z.1.1
/-- a turn of the other way is less -/
theorem turn_less {A : Int → Int} (v : VA A) (hn : 2 ≤ A 1) {g k : Int} (hg : g = 1 ∨ g = -1) {s : Int × Int × Int × Int} (hq : 0 < sqA A (-g) k) (h0 : 0 < s.2.1) (h1 : (g * MB A k 1) * s.2.1 ≤ s.1 * (2 * DD A)) : ¬ (s.2.1 = 0 ∨ s.1 * tD A (-g) k < (g * (-g * tN A (-g) k)) * s.2.1) := by
  have B1 := (bnd v hn).1
  intro z
  rcases z with z | z
  · omega
  · have e : g * (-g * tN A (-g) k) = (g * MB A k 1) * sqA A (-g) k * DD A - CT A k * CT A k := by
      unfold tN
      rcases hg with rfl | rfl
      · grind
      · grind
    rw [e] at z
    unfold tD at z
    have cc : 0 ≤ CT A k * CT A k := by
      by_cases x : 0 ≤ CT A k
      · exact Int.mul_nonneg x x
      · have := Int.mul_nonneg (show 0 ≤ -CT A k by omega) (show 0 ≤ -CT A k by omega)
        rw [Int.neg_mul_neg] at this
        exact this
    have cs : 0 ≤ CT A k * CT A k * s.2.1 := Int.mul_nonneg cc (by omega)
    generalize sqA A (-g) k = q at *
    have qd := pos2 hq B1.1
    have h2 := Int.mul_le_mul_of_nonneg_right h1 (show 0 ≤ q * DD A by omega)
    have e1 : s.1 * (2 * q * DD A * DD A) = s.1 * (2 * DD A) * (q * DD A) := by grind
    have e2 : (g * MB A k 1 * q * DD A - CT A k * CT A k) * s.2.1 = g * MB A k 1 * s.2.1 * (q * DD A) - CT A k * CT A k * s.2.1 := by grind
    rw [e1, e2] at z
    omega
/-- the class's state at the k-th place -/
def PI (m0 : Mem) (A : Int → Int) (s t : Int × Int × Int × Int) (m : Mem) : Prop := RP m 120 1 s ∧ RP m 123 (-1) t ∧ (∀ c i, ¬ (120 ≤ c ∧ c ≤ 125) → ¬ (c = 127 ∨ c = 128) → m c i = m0 c i) ∧ m 120 3 = 1 ∧ m 123 3 = -1
theorem offers_eq {m0 m : Mem} {A : Int → Int} {s t : Int × Int × Int × Int} {x d wn wd : Int} (I : PI m0 A s t m) (hs : okS s) (ht : okS t) (hd : 0 < d ∧ d ≤ 200000000000000) (hx : ab x 3000000000000000000) (h0 : m 127 0 = nm x d) (h1 : m 127 1 = dn x d) (h2 : m 128 0 = wn) (h3 : m 128 1 = wd) : ∃ m', Sta_offerPeak m = some m' ∧ PI m0 A (updS s (1 * x) d wn wd) (updS t (-1 * x) d wn wd) m' := by
  obtain ⟨i1, i2, i3, i4, i5⟩ := I
  obtain ⟨m1, a1, a2, a3⟩ := offer_eq (Or.inl rfl) (Or.inl rfl) i1 hs hd hx h0 h1 h2 h3
  have j2 : RP m1 123 (-1) t := RP_fr i2 (fun c i _ _ => a3 c i (by omega))
  obtain ⟨m2, b1, b2, b3⟩ := offer_eq (wn := wn) (wd := wd) (Or.inr rfl) (Or.inr rfl) j2 ht hd hx (by rw [a3 _ _ (by omega)]; exact h0) (by rw [a3 _ _ (by omega)]; exact h1) (by rw [a3 _ _ (by omega)]; exact h2) (by rw [a3 _ _ (by omega)]; exact h3)
  unfold Sta_offerPeak
  rw [a1, ob_some, b1, ob_some]
  exact ⟨m2, rfl, RP_fr a2 (fun c i _ _ => b3 c i (by omega)), b2, fun c i c1 c2 => by rw [b3 c i (by omega), a3 c i (by omega)]; exact i3 c i c1 c2, by rw [b3 _ _ (by omega), a3 _ _ (by omega)]; exact i4, by rw [b3 _ _ (by omega), a3 _ _ (by omega)]; exact i5⟩
theorem SV_only {m m' : Mem} {A : Int → Int} (V : SV m A) (h : ∀ c i, 111 ≤ c → c ≤ 118 → m' c i = m c i) : SV m' A := by
  obtain ⟨a, b, c, d, e⟩ := V
  refine ⟨SF_fr a (h _ _ (by decide) (by decide)) (h _ _ (by decide) (by decide)) (fun c i hc => h c i (by omega) (by omega)), by rw [h _ _ (by decide) (by decide)]; exact b, by rw [h _ _ (by decide) (by decide)]; exact c, fun k k0 k1 => by rw [h _ _ (by decide) (by decide)]; exact d k k0 k1, fun x x0 x1 => ⟨by rw [h _ _ (by decide) (by decide)]; exact (e x x0 x1).1, by rw [h _ _ (by decide) (by decide)]; exact (e x x0 x1).2⟩⟩
theorem nm_1 (k : Int) : nm k 1 = k ∧ dn k 1 = 1 := by
  unfold nm dn
  rw [Int.gcd_one_right]
  simp
theorem PI_put {m0 m : Mem} {A : Int → Int} {s t : Int × Int × Int × Int} (I : PI m0 A s t m) {c : Nat} {i x : Int} (hc : c = 127 ∨ c = 128) : PI m0 A s t (mset m c i x) := by
  obtain ⟨i1, i2, i3, i4, i5⟩ := I
  exact ⟨RP_fr i1 (fun c' i' _ _ => by rw [mset_if, if_neg (by omega)]), RP_fr i2 (fun c' i' _ _ => by rw [mset_if, if_neg (by omega)]), fun c' i' c1 c2 => by rw [mset_if, if_neg (by omega)]; exact i3 c' i' c1 c2, by rw [mset_if, if_neg (by omega)]; exact i4, by rw [mset_if, if_neg (by omega)]; exact i5⟩
theorem PI_SV {m0 m : Mem} {A : Int → Int} {s t : Int × Int × Int × Int} (V : SV m0 A) (I : PI m0 A s t m) : SV m A := SV_only V (fun c i _ _ => I.2.2.1 c i (by omega) (by omega))
/-- offers with much and where put there -/
theorem put_offers {m0 m : Mem} {A : Int → Int} {s t : Int × Int × Int × Int} {x d wn wd : Int} (I : PI m0 A s t m) (hs : okS s) (ht : okS t) (hd : 0 < d ∧ d ≤ 200000000000000) (hx : ab x 3000000000000000000) : ∃ m', Sta_offerPeak (mset (mset (mset (mset m 127 0 (nm x d)) 127 1 (dn x d)) 128 0 wn) 128 1 wd) = some m' ∧ PI m0 A (updS s (1 * x) d wn wd) (updS t (-1 * x) d wn wd) m' := by
  refine offers_eq (PI_put (PI_put (PI_put (PI_put I (Or.inl rfl)) (Or.inl rfl)) (Or.inr rfl)) (Or.inr rfl)) hs ht hd hx ?_ ?_ ?_ ?_ <;> simp [mset]
theorem turnsWithin_eq {m : Mem} {A : Int → Int} (v : VA A) (hn : 2 ≤ A 1) (V : SV m A) {k : Int} (h0 : 0 ≤ k) (h1 : k ≤ A 0) : Sta_turnsWithin k m = some (if 0 < sqA A 1 k ∧ 0 < 1 * CT A k ∧ 1 * CT A k < sqA A 1 k * DD A then 1 else if 0 < sqA A (-1) k ∧ 0 < -1 * CT A k ∧ -1 * CT A k < sqA A (-1) k * DD A then 1 else 0) := by
  have l10 := v.1
  have B1 := (bnd v hn).1
  have c := CT_ab v hn (x := k) (by omega)
  have z := (ZS_pl v (p := k) (by omega)).2.2.2
  unfold Sta_turnsWithin
  simp (disch := omega) only [ck_id, lt_id, s32_id]
  rw [(V.1.2 k h0 (by omega)).2, V.2.1, (V.2.2.2.2 k h0 h1).1]
  have q1 : sqA A 1 k = ZS A (deF k) := by unfold sqA; omega
  have q2 : sqA A (-1) k = -ZS A (deF k) := by unfold sqA; omega
  rw [q1, q2, Int.one_mul, Int.neg_mul, Int.neg_mul, Int.one_mul]
  have qd := ab_mul2 z (b := DD A) (c := 1100000) (by omega) B1.2
  rw [Int.mul_comm] at qd
  have sg1 : 0 < ZS A (deF k) * DD A ↔ 0 < ZS A (deF k) := by
    have := lt_mul_iff (a := 0) (b := ZS A (deF k)) B1.1
    rw [Int.zero_mul] at this
    exact this
  have sg2 : ZS A (deF k) * DD A < 0 ↔ ZS A (deF k) < 0 := by
    have := lt_mul_iff (a := ZS A (deF k)) (b := 0) B1.1
    rw [Int.zero_mul] at this
    exact this
  generalize ZS A (deF k) * DD A = x at *
  generalize ZS A (deF k) = q at *
  generalize CT A k = ct at *
  unfold ab at qd c
  rw [s64_id (a := x) (by omega) (by omega), s64_id (a := ct) (by omega) (by omega), s64_0]
  by_cases a1 : x ≤ 0
  · rw [if_pos a1, if_neg (show ¬ (0 < q ∧ 0 < ct ∧ ct < x) by omega)]
    by_cases a2 : 0 ≤ ct
    · rw [if_pos a2, if_neg (by omega)]
    · rw [if_neg a2]
      by_cases a3 : ct ≤ x
      · rw [if_pos a3, if_neg (by omega)]
      · rw [if_neg a3, if_pos]
        exact ⟨by have := sg2.mp (by omega); omega, by omega, by omega⟩
  · rw [if_neg a1]
    by_cases a2 : ct ≤ 0
    · rw [if_pos a2, if_neg (by omega), if_neg (by omega)]
    · rw [if_neg a2]
      by_cases a3 : x ≤ ct
      · rw [if_pos a3, if_neg (by omega), if_neg (by omega)]
      · rw [if_neg a3, if_pos ⟨sg1.mp (by omega), by omega, by omega⟩]
theorem turn_step {m0 m7 : Mem} {A : Int → Int} (v : VA A) (hn : 2 ≤ A 1) (V : SV m0 A) {k : Int} (h0 : 0 ≤ k) (h1 : k < A 0) {s t : Int × Int × Int × Int} (hs : okS s) (ht : okS t) (I : PI m0 A (nodeS A 1 k s) (nodeS A (-1) k t) m7) (K : Mem → Option Mem) : ∃ m', (Sta_turnsWithin k m7).bind (fun r8 => if s32 r8 = 0 then K m7 else (ck k 11 (lt ((m7 115 (s32 k))) (fun x9 => ck k 11 (ck k 11 (ck k 11 ((Frac_become 127 ((((2 * x9) * (m7 111 6)) * (m7 118 (s32 k))) + ((m7 117 (s32 k)) * (m7 117 (s32 k)))) (((2 * x9) * (m7 111 6)) * (m7 111 6)) m7).bind (fun m10 => ck k 11 ((Frac_become 128 ((((s32 k) * x9) * (m10 111 6)) + (m10 117 (s32 k))) (x9 * (m10 111 6)) m10).bind (fun m11 => (Sta_offerPeak m11).bind (fun m12 => K m12))))))))))) = K m' ∧ PI m0 A (turnS A 1 k (nodeS A 1 k s)) (turnS A (-1) k (nodeS A (-1) k t)) m' := by
  have l10 := v.1
  have B1 := (bnd v hn).1
  have V7 := PI_SV V I
  have os := okS_node v hn (Or.inl rfl) h0 (show k ≤ A 0 by omega) hs
  have ot := okS_node v hn (Or.inr rfl) h0 (show k ≤ A 0 by omega) ht
  have gs := node_ge v hn (g := 1) (k := k) hs
  have gt := node_ge v hn (g := -1) (k := k) ht
  have q1 : sqA A 1 k = ZS A (deF k) := by unfold sqA; omega
  have q2 : sqA A (-1) k = -ZS A (deF k) := by unfold sqA; omega
  rw [turnsWithin_eq v hn V7 h0 (by omega), ob_some, ck_id h0 (by omega) (by omega), s32_id (a := k) (by omega) (by omega), lt_id, ck_id h0 (by omega) (by omega), ck_id h0 (by omega) (by omega), ck_id h0 (by omega) (by omega), (V7.1.2 k h0 (by omega)).2, V7.2.1, (V7.2.2.2.2 k h0 (by omega)).1]
  by_cases c1 : 0 < sqA A 1 k ∧ 0 < 1 * CT A k ∧ 1 * CT A k < sqA A 1 k * DD A
  · rw [if_pos c1, s32_1, if_1']
    have bt := bounds_turn v hn (Or.inl rfl) h0 (show k ≤ A 0 by omega) c1.1
    have eN : ((2 * ZS A (deF k)) * DD A) * m7 118 k + CT A k * CT A k = tN A 1 k := by
      unfold tN
      rw [q1, ← (V7.2.2.2.2 k h0 (by omega)).2]
      clear V7 V I gs gt os ot bt
      grind
    have eD : (2 * ZS A (deF k)) * DD A * DD A = tD A 1 k := by unfold tD; rw [q1]
    rw [eN, eD, become_pos (b62_le bt.2.1 (by decide)) ⟨by omega, by omega⟩ bt.1.1, ob_some, ck_id h0 (by omega) (by omega)]
    have r1 : mset (mset m7 127 0 (nm (tN A 1 k) (tD A 1 k))) 127 1 (dn (tN A 1 k) (tD A 1 k)) 111 6 = DD A := by rw [mset_if, if_neg (by omega), mset_if, if_neg (by omega)]; exact V7.2.1
    have r2 : mset (mset m7 127 0 (nm (tN A 1 k) (tD A 1 k))) 127 1 (dn (tN A 1 k) (tD A 1 k)) 117 k = CT A k := by rw [mset_if, if_neg (by omega), mset_if, if_neg (by omega)]; exact (V7.2.2.2.2 k h0 (by omega)).1
    have eW : k * ZS A (deF k) * DD A + CT A k = k * sqA A 1 k * DD A + 1 * CT A k := by rw [q1, Int.one_mul]
    rw [r1, r2, eW, ← q1, become_pos (b62_le bt.2.2.2.1 (by decide)) ⟨by omega, by omega⟩ bt.2.2.1.1, ob_some]
    obtain ⟨m', e, J⟩ := put_offers (wn := nm (k * sqA A 1 k * DD A + 1 * CT A k) (sqA A 1 k * DD A)) (wd := dn (k * sqA A 1 k * DD A + 1 * CT A k) (sqA A 1 k * DD A)) I os ot bt.1 bt.2.1
    rw [e, ob_some]
    refine ⟨m', rfl, ?_⟩
    have e1 : turnS A 1 k (nodeS A 1 k s) = updS (nodeS A 1 k s) (1 * tN A 1 k) (tD A 1 k) (nm (k * sqA A 1 k * DD A + 1 * CT A k) (sqA A 1 k * DD A)) (dn (k * sqA A 1 k * DD A + 1 * CT A k) (sqA A 1 k * DD A)) := by unfold turnS; rw [if_pos c1, Int.one_mul (tN A 1 k)]
    have e2 : turnS A (-1) k (nodeS A (-1) k t) = updS (nodeS A (-1) k t) (-1 * tN A 1 k) (tD A 1 k) (nm (k * sqA A 1 k * DD A + 1 * CT A k) (sqA A 1 k * DD A)) (dn (k * sqA A 1 k * DD A + 1 * CT A k) (sqA A 1 k * DD A)) := by
      have tl := turn_less v hn (g := -1) (k := k) (Or.inr rfl) (s := nodeS A (-1) k t) (by rw [show (- -1 : Int) = 1 from rfl]; exact c1.1) gt.1 gt.2
      rw [show (- -1 : Int) = 1 from rfl, Int.one_mul (tN A 1 k)] at tl
      rw [updS_no tl]
      unfold turnS
      rw [if_neg (by rw [q2]; rw [q1] at c1; omega)]
    rw [e1, e2]
    exact J
  · rw [if_neg c1]
    by_cases c2 : 0 < sqA A (-1) k ∧ 0 < -1 * CT A k ∧ -1 * CT A k < sqA A (-1) k * DD A
    · rw [if_pos c2, s32_1, if_1']
      have bt := bounds_turn v hn (Or.inr rfl) h0 (show k ≤ A 0 by omega) c2.1
      have eN : -(((2 * ZS A (deF k)) * DD A) * m7 118 k + CT A k * CT A k) = -1 * tN A (-1) k := by
        unfold tN
        rw [q2, ← (V7.2.2.2.2 k h0 (by omega)).2]
        clear V7 V I gs gt os ot bt
        grind
      have eD : -((2 * ZS A (deF k)) * DD A * DD A) = tD A (-1) k := by unfold tD; rw [q2]; clear V7 V I gs gt os ot bt; grind
      have pN : b62 (((2 * ZS A (deF k)) * DD A) * m7 118 k + CT A k * CT A k) := by
        have := bt.2.1
        unfold ab at this
        exact ⟨by omega, by omega⟩
      rw [become_neg pN ⟨by omega, by omega⟩ (by omega), ob_some, eN, eD, ck_id h0 (by omega) (by omega)]
      have r1 : mset (mset m7 127 0 (nm (-1 * tN A (-1) k) (tD A (-1) k))) 127 1 (dn (-1 * tN A (-1) k) (tD A (-1) k)) 111 6 = DD A := by rw [mset_if, if_neg (by omega), mset_if, if_neg (by omega)]; exact V7.2.1
      have r2 : mset (mset m7 127 0 (nm (-1 * tN A (-1) k) (tD A (-1) k))) 127 1 (dn (-1 * tN A (-1) k) (tD A (-1) k)) 117 k = CT A k := by rw [mset_if, if_neg (by omega), mset_if, if_neg (by omega)]; exact (V7.2.2.2.2 k h0 (by omega)).1
      have eW : -(k * ZS A (deF k) * DD A + CT A k) = k * sqA A (-1) k * DD A + -1 * CT A k := by rw [q2]; clear V7 V I gs gt os ot bt pN eN eD r1 r2; grind
      have eQ : -(ZS A (deF k) * DD A) = sqA A (-1) k * DD A := by rw [q2, Int.neg_mul]
      have pW : b62 (k * ZS A (deF k) * DD A + CT A k) := by
        have := bt.2.2.2.1
        unfold ab at this
        exact ⟨by omega, by omega⟩
      rw [r1, r2, become_neg pW ⟨by omega, by omega⟩ (by omega), ob_some, eW, eQ]
      obtain ⟨m', e, J⟩ := put_offers (x := -1 * tN A (-1) k) (wn := nm (k * sqA A (-1) k * DD A + -1 * CT A k) (sqA A (-1) k * DD A)) (wd := dn (k * sqA A (-1) k * DD A + -1 * CT A k) (sqA A (-1) k * DD A)) I os ot bt.1 (ab_g (Or.inr rfl) bt.2.1)
      rw [e, ob_some]
      refine ⟨m', rfl, ?_⟩
      have e1 : turnS A (-1) k (nodeS A (-1) k t) = updS (nodeS A (-1) k t) (-1 * (-1 * tN A (-1) k)) (tD A (-1) k) (nm (k * sqA A (-1) k * DD A + -1 * CT A k) (sqA A (-1) k * DD A)) (dn (k * sqA A (-1) k * DD A + -1 * CT A k) (sqA A (-1) k * DD A)) := by unfold turnS; rw [if_pos c2, gg_mul (Or.inr rfl)]
      have e2 : turnS A 1 k (nodeS A 1 k s) = updS (nodeS A 1 k s) (1 * (-1 * tN A (-1) k)) (tD A (-1) k) (nm (k * sqA A (-1) k * DD A + -1 * CT A k) (sqA A (-1) k * DD A)) (dn (k * sqA A (-1) k * DD A + -1 * CT A k) (sqA A (-1) k * DD A)) := by
        have tl := turn_less v hn (g := 1) (k := k) (Or.inl rfl) (s := nodeS A 1 k s) c2.1 gs.1 gs.2
        rw [updS_no tl]
        unfold turnS
        rw [if_neg c1]
      rw [e1, e2]
      exact J
    · rw [if_neg c2, s32_0, if_0']
      refine ⟨m7, rfl, ?_⟩
      have e1 : turnS A 1 k (nodeS A 1 k s) = nodeS A 1 k s := by unfold turnS; rw [if_neg c1]
      have e2 : turnS A (-1) k (nodeS A (-1) k t) = nodeS A (-1) k t := by unfold turnS; rw [if_neg c2]
      rw [e1, e2]
      exact I
