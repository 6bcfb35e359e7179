/-! the model's reactions -/
def hQ (A : Int → Int) (j : Int) : Int := 2 * PP A * QQ A j * crA A
theorem hQ_mul {A : Int → Int} (v : VA A) (hn : 2 ≤ A 1) {j : Int} (h0 : 0 ≤ j) (h1 : j + 1 < A 1) : DD A = (2 * spA A j) * hQ A j := by
  unfold DD hQ
  have q := QQ_mul v hn h0 h1
  rw [← q]
  grind
theorem hQ_pos {A : Int → Int} (v : VA A) (hn : 2 ≤ A 1) {j : Int} (h0 : 0 ≤ j) (h1 : j + 1 < A 1) : 0 < hQ A j ∧ hQ A j ≤ 550000 := by
  have s := sp_pos v h0 h1
  have B := (bnd v hn).1
  have e := hQ_mul v hn h0 h1
  have p : 0 < hQ A j := by
    unfold hQ
    exact pos2 (pos2 (by have := PP_pos v hn; omega) (QQ_pos v hn h0 h1)) (bnd v hn).2.1
  have : 2 * hQ A j ≤ (2 * spA A j) * hQ A j := Int.mul_le_mul_of_nonneg_right (by omega) (by omega)
  omega
def fr56 (m' m : Mem) : Prop := ∀ c i, ¬ (c = 149 ∧ (i = 5 ∨ i = 6)) → m' c i = m c i
theorem fr56_150 {m' m : Mem} {A : Int → Int} (h : fr56 m' m) (hA : m 150 = A) : m' 150 = A := by
  rw [← hA]; funext i; exact h 150 i (by omega)
theorem brF_b {a b r x y : Int} (ha : 0 ≤ a) (hab : a < b) (hb : b ≤ 10) (hr : r = 0 ∨ r = 1) (hx : 0 ≤ x) (hxy : x ≤ y) (hy : y ≤ 10) : -100 ≤ brF a b r x y ∧ brF a b r x y ≤ 100 := by
  have m := mul_b (a := b - a) (b := b - a) (A := 10) (B := 10) ⟨by omega, by omega⟩ ⟨by omega, by omega⟩
  obtain ⟨a', rfl⟩ := nat_of ha
  obtain ⟨b', rfl⟩ := nat_of (show 0 ≤ b by omega)
  obtain ⟨x', rfl⟩ := nat_of hx
  obtain ⟨y', rfl⟩ := nat_of (show 0 ≤ y by omega)
  have d := d_bound a' (by omega) b' (by omega) (by omega) x' (by omega) y' (by omega) (by omega)
  rcases hr with rfl | rfl <;> omega
theorem bears_eq {A : Int → Int} (v : VA A) {m : Mem} (hA : m 150 = A) {a b r X D h : Int} (ha : 0 ≤ a) (hab : a < b) (hb : b ≤ 10) (hr : r = 0 ∨ r = 1) (hD : D = (2 * (b - a)) * h) (hh : 0 < h ∧ h ≤ 550000) (hDb : D ≤ 1100000) (hX : ab X 10000000000) (hf : frac m X D) : ∃ m', Mo_bears a b r m = some m' ∧ frac m' (X + h * ZS A (brF a b r)) D ∧ fr56 m' m := by
  have v3 := v.2.2.1
  have hDp : 0 < D := by rw [hD]; exact pos2 (by omega) hh.1
  unfold Mo_bears
  rw [lt_id]
  obtain ⟨m', e, h1, h2, h3⟩ := loopM (fun n i m => Mo_bears_L8 a b r (b - a) n i m) (A 10) (fun i m' => frac m' (X + h * lsum A (brF a b r) i.toNat) D ∧ fr56 m' m ∧ m' 150 = A) some 0
    (fun n m' I => by
      show Mo_bears_L8 a b r (b - a) (n + 1) (A 10) m' = some m'
      rw [Mo_bears_L8, I.2.2, if_pos (by omega)])
    (fun n i m' h0 h1 I => by
      show ∃ m'', Mo_bears_L8 a b r (b - a) (n + 1) i m' = Mo_bears_L8 a b r (b - a) n (i + 1) m'' ∧ _
      obtain ⟨I1, I2, I3⟩ := I
      obtain ⟨b1, b2, b3, b4, b5, b6⟩ := load_b v h0 h1
      have s1 : (i + 1).toNat = i.toNat + 1 := by omega
      have s2 : ((i.toNat : Nat) : Int) = i := by omega
      have pb : ab (X + h * lsum A (brF a b r) i.toNat) 20000000000 := by
        have lb := lsum_bound A (brF a b r) 100 (by decide) i.toNat (fun k hk => by
          obtain ⟨c1, c2, c3, c4, c5, c6⟩ := load_b v (i := (k : Int)) (by omega) (by omega)
          have := brF_b (r := r) ha hab hb hr c1 c2 c3
          exact ⟨c4, c5, this.1, this.2⟩)
        have l2 : ab (lsum A (brF a b r) i.toNat) 5400 := by unfold ab; omega
        exact ab_mono (ab_add hX (ab_mul2 l2 (by omega) hh.2)) (by decide)
      have go : ∀ {p q : Int}, p * D = (h * (A (23 + i) * brF a b r (A (11 + i)) (A (17 + i)))) * q → 0 < q ∧ q ≤ 20 → ab p 10000 → ∃ m'', Mo_plus p q m' = some m'' ∧ frac m'' (X + h * lsum A (brF a b r) (i + 1).toNat) D ∧ fr56 m'' m ∧ m'' 150 = A := by
        intro p q hp hq hpb
        obtain ⟨m'', f1, f2, f3⟩ := plus_std I1 ⟨hDp, hDb⟩ ⟨hq.1, by omega⟩ (ab_mono hpb (by decide)) pb hp
        refine ⟨m'', f1, ?_, fun c j hc => by rw [f3 c j hc, I2 c j hc], fr56_150 f3 I3⟩
        rw [s1]
        simp only [lsum]
        rw [s2, Int.mul_add, ← Int.add_assoc]
        exact f2
      have no : brF a b r (A (11 + i)) (A (17 + i)) = 0 → frac m' (X + h * lsum A (brF a b r) (i + 1).toNat) D ∧ fr56 m' m ∧ m' 150 = A := by
        intro z
        refine ⟨?_, I2, I3⟩
        rw [s1]
        simp only [lsum]
        rw [s2, z, Int.mul_zero, Int.add_zero]
        exact I1
      rw [Mo_bears_L8, I3, s32_id (a := A 10) (by omega) (by omega), s32_id (a := i) (by omega) (by omega), if_neg (show ¬ A 10 ≤ i by omega)]
      rw [s32_id (a := 11 + i) (by omega) (by omega), s32_id (a := 17 + i) (by omega) (by omega), s32_id (a := 23 + i) (by omega) (by omega), ck_id (i := 11 + i) (by omega) (by omega) (by omega), Mo_more_eq (r32_of (by omega)) (r32_of (by omega)), ob_some, ck_id (i := 17 + i) (by omega) (by omega) (by omega), Mo_less_eq (r32_of (by omega)) (r32_of (by omega)), ob_some, ck_id (i := 23 + i) (by omega) (by omega) (by omega), lt_id, Mo_isSpread_eq v I3 h0 h1, ob_some, jn_id, s32_id (a := A (23 + i)) (by omega) (by omega)]
      have hck : ∀ (k : Int) (o : Option Mem), k = 11 ∨ k = 17 → ck (k + i) 36 o = o := fun k o hk => ck_id (by omega) (by omega) (by omega)
      simp only [ob_some, hck 11 _ (Or.inl rfl)]
      generalize A (11 + i) = x at *
      generalize A (17 + i) = y at *
      generalize A (23 + i) = w at *
      have mb := moreI_b (a := x) (b := a) (B := 10) (by omega) (by omega)
      have lb := lessI_b (a := y) (b := b) (B := 10) (by omega) (by omega)
      have bb := brF_b (r := r) ha hab hb hr b1 b2 b3
      have mb2 : a ≤ moreI x a := by unfold moreI; split <;> omega
      have lb2 : lessI y b ≤ b := by unfold lessI; split <;> omega
      unfold brF at go no bb
      generalize moreI x a = mo at *
      generalize lessI y b = lo at *
      have q1 : s32 x = x := s32_id (by omega) (by omega)
      have q2 : s32 a = a := s32_id (by omega) (by omega)
      have q3 : s32 b = b := s32_id (by omega) (by omega)
      have q4 : s32 mo = mo := s32_id (by omega) (by omega)
      have q5 : s32 lo = lo := s32_id (by omega) (by omega)
      have q6 : s32 (b - mo) = b - mo := s32_id (by omega) (by omega)
      have q7 : s32 (b - lo) = b - lo := s32_id (by omega) (by omega)
      have q8 : s32 (lo - a) = lo - a := s32_id (by omega) (by omega)
      have q9 : s32 (mo - a) = mo - a := s32_id (by omega) (by omega)
      have q10 : s32 (b - x) = b - x := s32_id (by omega) (by omega)
      have q11 : s32 (x - a) = x - a := s32_id (by omega) (by omega)
      have q12 : s32 (b - a) = b - a := s32_id (by omega) (by omega)
      have wab : ab w 9 := ⟨b4, b5⟩
      rcases hr with rfl | rfl
      · simp only [q1, q2, q3, q4, q5, q6, q7, q8, q9, q10, q11, q12, jn_id, s32_0, s32_1, if_0, if_0', if_1, if_1', ↓reduceIte, not_true_eq_false, not_false_eq_true] at go no bb ⊢
        by_cases c : x < y
        · simp only [if_pos c, s32_1, if_0, if_0', if_1, if_1', ↓reduceIte, not_true_eq_false, not_false_eq_true] at go no bb ⊢
          by_cases d : lo ≤ mo
          · rw [if_pos d]; rw [if_neg (show ¬ mo < lo by omega)] at no; exact ⟨m', rfl, no rfl⟩
          · rw [if_neg d]
            rw [if_pos (show mo < lo by omega)] at go bb
            have wb := mul_b (a := w) (b := (b - mo) * (b - mo) - (b - lo) * (b - lo)) (A := 9) (B := 100) wab ⟨by
              have e1 := Int.mul_le_mul (show b - lo ≤ b - mo by omega) (show b - lo ≤ b - mo by omega)
              by_cases z : 0 ≤ b - lo
              · have := e1 z (by omega); omega
              · omega, bb.2⟩
            obtain ⟨m'', f1, f2⟩ := go (p := w * ((b - mo) * (b - mo) - (b - lo) * (b - lo))) (q := 2 * (b - a)) (by rw [hD]; grind) (by omega) (by unfold ab; omega)
            rw [f1, ob_some]
            exact ⟨m'', rfl, f2⟩
        · simp only [if_neg c, s32_0, if_0, if_0', if_1, if_1', ↓reduceIte, not_true_eq_false, not_false_eq_true] at go no bb ⊢
          by_cases d : x ≤ a
          · rw [if_pos d]; rw [if_pos d] at no; exact ⟨m', rfl, no rfl⟩
          · rw [if_neg d]; rw [if_neg d] at no go bb
            by_cases e : b ≤ x
            · rw [if_pos e]; rw [if_pos e] at no; exact ⟨m', rfl, no rfl⟩
            · rw [if_neg e]; rw [if_neg e] at go
              have wb := mul_b (a := w) (b := b - x) (A := 9) (B := 10) wab ⟨by omega, by omega⟩
              obtain ⟨m'', f1, f2⟩ := go (p := w * (b - x)) (q := b - a) (by rw [hD]; grind) (by omega) (by unfold ab; omega)
              rw [f1, ob_some]
              exact ⟨m'', rfl, f2⟩
      · simp only [q1, q2, q3, q4, q5, q6, q7, q8, q9, q10, q11, q12, jn_id, s32_0, s32_1, if_0, if_0', if_1, if_1', ↓reduceIte, not_true_eq_false, not_false_eq_true] at go no bb ⊢
        by_cases c : x < y
        · simp only [if_pos c, s32_1, if_0, if_0', if_1, if_1', ↓reduceIte, not_true_eq_false, not_false_eq_true] at go no bb ⊢
          by_cases d : lo ≤ mo
          · rw [if_pos d]; rw [if_neg (show ¬ mo < lo by omega)] at no; exact ⟨m', rfl, no rfl⟩
          · rw [if_neg d]
            rw [if_pos (show mo < lo by omega)] at go bb
            have wb := mul_b (a := w) (b := (lo - a) * (lo - a) - (mo - a) * (mo - a)) (A := 9) (B := 100) wab ⟨by
              have e1 := Int.mul_le_mul (show mo - a ≤ lo - a by omega) (show mo - a ≤ lo - a by omega)
              by_cases z : 0 ≤ mo - a
              · have := e1 z (by omega); omega
              · omega, bb.2⟩
            obtain ⟨m'', f1, f2⟩ := go (p := w * ((lo - a) * (lo - a) - (mo - a) * (mo - a))) (q := 2 * (b - a)) (by rw [hD]; grind) (by omega) (by unfold ab; omega)
            rw [f1, ob_some]
            exact ⟨m'', rfl, f2⟩
        · simp only [if_neg c, s32_0, if_0, if_0', if_1, if_1', ↓reduceIte, not_true_eq_false, not_false_eq_true] at go no bb ⊢
          by_cases d : x ≤ a
          · rw [if_pos d]; rw [if_pos d] at no; exact ⟨m', rfl, no rfl⟩
          · rw [if_neg d]; rw [if_neg d] at no go bb
            by_cases e : b ≤ x
            · rw [if_pos e]; rw [if_pos e] at no; exact ⟨m', rfl, no rfl⟩
            · rw [if_neg e]; rw [if_neg e] at go
              have wb := mul_b (a := w) (b := x - a) (A := 9) (B := 10) wab ⟨by omega, by omega⟩
              obtain ⟨m'', f1, f2⟩ := go (p := w * (x - a)) (q := b - a) (by rw [hD]; grind) (by omega) (by unfold ab; omega)
              rw [f1, ob_some]
              exact ⟨m'', rfl, f2⟩)
    (A 10).toNat 2000 0 m (by omega) (by omega) (by omega) ⟨by rw [show (0 : Int).toNat = 0 from rfl]; simp only [lsum]; rw [Int.mul_zero, Int.add_zero]; exact hf, fun _ _ _ => rfl, hA⟩
  exact ⟨m', e, h1, h2⟩
theorem side_eq {A : Int → Int} (v : VA A) (hn : 2 ≤ A 1) {m : Mem} (hA : m 150 = A) (hM : ∀ k, 0 ≤ k → k < A 1 → MK m A k) {j r e1 e2 X : Int} (h0 : 0 ≤ j) (h1 : j + 1 < A 1) (hr : r = 0 ∨ r = 1) (g1 : 0 ≤ e1 ∧ e1 < A 1) (g2 : 0 ≤ e2 ∧ e2 < A 1) (hX : ab X 10000000000) (hf : frac m X (DD A)) :
    ∃ m26 m27 m28, Mo_bears (aT A j) (aT A (j + 1)) r m = some m26 ∧ Mo_plus (m26 153 e1) (m26 154 e1 * spA A j) m26 = some m27 ∧ Mo_plus (-(m27 153 e2)) (m27 154 e2 * spA A j) m27 = some m28 ∧ frac m28 (X + hQ A j * ZS A (brF (aT A j) (aT A (j + 1)) r) + (ooA A e1 * QQ A j) + -(ooA A e2 * QQ A j)) (DD A) ∧ fr56 m26 m ∧ fr56 m27 m ∧ fr56 m28 m := by
  have a1 := VA_at v h0 (by omega)
  have a2 := VA_at v (k := j + 1) (by omega) h1
  have a3 := VA_lt v h0 h1
  have l10 := v.1
  have s := sp_pos v h0 h1
  have q := QQ_mul v hn h0 h1
  obtain ⟨B1, B2, B3, -⟩ := bnd v hn
  have hp := hQ_pos v hn h0 h1
  have hz : ab (hQ A j * ZS A (brF (aT A j) (aT A (j + 1)) r)) 2970000000 := by
    have z : ab (ZS A (brF (aT A j) (aT A (j + 1)) r)) 5400 := ab_mono (ZS_ab v 100 (fun x y hx hy xy _ => brF_b a1.1 a3 (by omega) hr (by omega) (by omega) (by omega))) (by decide)
    exact ab_mono (ab_mul2 z (by omega) hp.2) (by decide)
  have oq : ∀ e, 0 ≤ e ∧ e < A 1 → ab (ooA A e * QQ A j) 400000000 := by
    intro e he
    have b := B3 e he.1 he.2
    rw [← q] at b
    have e2 : ooA A e * (QQ A j * spA A j) = (ooA A e * QQ A j) * spA A j := by grind
    rw [e2] at b
    generalize ooA A e * QQ A j = t at *
    unfold ab at *
    have : 1 * 1 ≤ spA A j := by omega
    by_cases c : 0 ≤ t
    · have := Int.mul_le_mul_of_nonneg_left (show 1 ≤ spA A j by omega) c
      omega
    · have := Int.mul_le_mul_of_nonneg_left (show 1 ≤ spA A j by omega) (show 0 ≤ -t by omega)
      rw [Int.neg_mul, Int.neg_mul] at this
      omega
  have xz : ∀ e, (nm (ov A e) (DD A)) * DD A = (ooA A e * QQ A j) * (dn (ov A e) (DD A) * spA A j) := by
    intro e
    rw [cross_nd]
    unfold ov
    rw [← q]
    grind
  obtain ⟨m26, f1, f2, f3⟩ := bears_eq v hA a1.1 a3 (by omega) hr (hQ_mul v hn h0 h1) hp B1.2 hX hf
  have y1 := nm_ab (q := DD A) (B3 e1 g1.1 g1.2)
  have y2 := nm_ab (q := DD A) (B3 e2 g2.1 g2.2)
  have d1 := dn_b (p := ov A e1) B1.1
  have d2 := dn_b (p := ov A e2) B1.1
  have dq1 := mul_b (a := dn (ov A e1) (DD A)) (b := spA A j) (A := 1100000) (B := 10) ⟨by omega, by omega⟩ ⟨by omega, s.2⟩
  have dq2 := mul_b (a := dn (ov A e2) (DD A)) (b := spA A j) (A := 1100000) (B := 10) ⟨by omega, by omega⟩ ⟨by omega, s.2⟩
  obtain ⟨m27, i1, i2, i3⟩ := plus_std (p := m26 153 e1) (q := m26 154 e1 * spA A j) (Z := ooA A e1 * QQ A j) f2 B1 (by rw [f3 _ _ (by omega), (hM e1 g1.1 g1.2).2]; exact ⟨pos2 d1.1 s.1, by omega⟩) (by rw [f3 _ _ (by omega), (hM e1 g1.1 g1.2).1]; exact ab_mono y1 (by decide)) (ab_mono (ab_add hX hz) (by decide)) (by rw [f3 _ _ (by omega), f3 _ _ (by omega), (hM e1 g1.1 g1.2).1, (hM e1 g1.1 g1.2).2]; exact xz e1)
  have f27 : fr56 m27 m := fun c i hc => by rw [i3 c i hc, f3 c i hc]
  obtain ⟨m28, j1, j2, j3⟩ := plus_std (p := -(m27 153 e2)) (q := m27 154 e2 * spA A j) (Z := -(ooA A e2 * QQ A j)) i2 B1 (by rw [f27 _ _ (by omega), (hM e2 g2.1 g2.2).2]; exact ⟨pos2 d2.1 s.1, by omega⟩) (by rw [f27 _ _ (by omega), (hM e2 g2.1 g2.2).1]; exact ab_neg (ab_mono y2 (by decide))) (ab_mono (ab_add (ab_add hX hz) (oq e1 g1)) (by decide)) (by rw [f27 _ _ (by omega), f27 _ _ (by omega), (hM e2 g2.1 g2.2).1, (hM e2 g2.1 g2.2).2, Int.neg_mul, Int.neg_mul, xz e2])
  exact ⟨m26, m27, m28, f1, i1, j1, j2, f3, f27, fun c i hc => by rw [j3 c i hc, f27 c i hc]⟩
