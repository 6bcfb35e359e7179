/-! in thought: loads put on a beam without any; unit, bears -/
def noA (A : Int → Int) : Int → Int := fun i => if i = 10 then 0 else A i
def putA (B : Int → Int) (x w : Int) : Int → Int := fun i => if i = 10 then B 10 + 1 else if i = 23 + B 10 then w else if i = 17 + B 10 then x else if i = 11 + B 10 then x else B i
theorem copies_eq {b c : Nat} (hb : ln b = 36) (hc : ln c = 36) (hbc : ¬ b = c) (m : Mem) : ∃ m', Mo_copies b c m = some m' ∧ (∀ i, 0 ≤ i → i < 36 → m' c i = m b i) ∧ (∀ i, ¬ (0 ≤ i ∧ i < 36) → m' c i = m c i) ∧ (∀ c' i, ¬ c' = c → m' c' i = m c' i) := by
  unfold Mo_copies
  obtain ⟨m', e, h1, h2, h3⟩ := loopM (fun n i m => Mo_copies_L2 b c n i m) 36 (fun i m' => (∀ k, 0 ≤ k → k < i → m' c k = m b k) ∧ (∀ k, ¬ (0 ≤ k ∧ k < i) → m' c k = m c k) ∧ (∀ c' k, ¬ c' = c → m' c' k = m c' k)) some 0
    (fun n m' _ => by
      show Mo_copies_L2 b c (n + 1) 36 m' = some m'
      rw [Mo_copies_L2, if_pos (Int.le_refl _)])
    (fun n i m' g0 g1 I => by
      show ∃ m'', Mo_copies_L2 b c (n + 1) i m' = Mo_copies_L2 b c n (i + 1) m'' ∧ _
      obtain ⟨I1, I2, I3⟩ := I
      rw [Mo_copies_L2, s32_id (a := 36) (by decide) (by decide), s32_id (a := i) (by omega) (by omega), if_neg (by omega), ck_id g0 (by rw [hb]; omega) (by omega), ck_id g0 (by rw [hc]; omega) (by omega), lt_id]
      refine ⟨_, rfl, fun k k0 k1 => ?_, fun k hk => ?_, fun c' k hc' => ?_⟩
      · rw [mset_c]
        by_cases e : k = i
        · rw [if_pos e, e]; exact I3 b i hbc
        · rw [if_neg e]; exact I1 k k0 (by omega)
      · rw [mset_c, if_neg (by omega)]; exact I2 k (by omega)
      · rw [mset_if, if_neg (fun z => hc' z.1)]; exact I3 c' k hc')
    36 2000 0 m (by omega) (by omega) (by omega) ⟨fun k k0 k1 => by omega, fun _ _ => rfl, fun _ _ _ => rfl⟩
  exact ⟨m', e, h1, fun i hi => h2 i hi, h3⟩
theorem thinks_eq (m : Mem) : ∃ m', Mo_thinks m = some m' ∧ (∀ i, 0 ≤ i → i < 36 → m' 160 i = m 150 i) ∧ (∀ c i, ¬ c = 160 → m' c i = m c i) := by
  obtain ⟨m', e, a, b, c⟩ := copies_eq (b := 150) (c := 160) (by decide) (by decide) (by decide) m
  unfold Mo_thinks
  rw [e, ob_some]
  exact ⟨m', rfl, a, c⟩
theorem laysBack_eq (m : Mem) : ∃ m', Mo_laysBack m = some m' ∧ (∀ i, 0 ≤ i → i < 36 → m' 150 i = m 160 i) ∧ (∀ i, ¬ (0 ≤ i ∧ i < 36) → m' 150 i = m 150 i) ∧ (∀ c i, ¬ c = 150 → m' c i = m c i) := by
  obtain ⟨m', e, a, b, c⟩ := copies_eq (b := 160) (c := 150) (by decide) (by decide) (by decide) m
  unfold Mo_laysBack
  rw [e, ob_some]
  exact ⟨m', rfl, a, b, c⟩
theorem VA_no {A : Int → Int} (v : VA A) : VA (noA A) := by
  obtain ⟨v1, v2, v3, v4, v5, v6, v7, v8⟩ := v
  refine ⟨v1, v2, by show 0 ≤ (0 : Int) ∧ (0 : Int) ≤ 6; decide, v4, fun k k0 k1 => ?_, fun k k0 k1 => ?_, fun k k0 k1 => ?_, fun k k0 k1 => ?_⟩
  · have h : noA A 1 = A 1 := rfl
    rw [h] at k1
    have e1 : noA A (2 + k) = A (2 + k) := by unfold noA; rw [if_neg (by omega)]
    have e2 : noA A (6 + k) = A (6 + k) := by unfold noA; rw [if_neg (by omega)]
    rw [e1, e2]
    exact v5 k k0 k1
  · have h : noA A 1 = A 1 := rfl
    rw [h] at k1
    have e1 : noA A (2 + k) = A (2 + k) := by unfold noA; rw [if_neg (by omega)]
    have e2 : noA A (2 + (k + 1)) = A (2 + (k + 1)) := by unfold noA; rw [if_neg (by omega)]
    rw [e1, e2]
    exact v6 k k0 k1
  · have h : noA A 10 = 0 := rfl
    rw [h] at k1
    omega
  · have h : noA A 29 = A 29 := rfl
    rw [h] at k1
    have e1 : noA A (30 + k) = A (30 + k) := by unfold noA; rw [if_neg (by omega)]
    have e2 : noA A (33 + k) = A (33 + k) := by unfold noA; rw [if_neg (by omega)]
    rw [e1, e2]
    exact v8 k k0 k1
theorem put_same {B : Int → Int} {x w i : Int} (h : ¬ (i = 10 ∨ i = 23 + B 10 ∨ i = 17 + B 10 ∨ i = 11 + B 10)) : putA B x w i = B i := by
  unfold putA
  rw [if_neg (by omega), if_neg (by omega), if_neg (by omega), if_neg (by omega)]
theorem put_new {B : Int → Int} {x w : Int} (h : 0 ≤ B 10 ∧ B 10 < 6) : putA B x w 10 = B 10 + 1 ∧ putA B x w (11 + B 10) = x ∧ putA B x w (17 + B 10) = x ∧ putA B x w (23 + B 10) = w := by
  unfold putA
  refine ⟨if_pos rfl, ?_, ?_, ?_⟩
  · rw [if_neg (by omega), if_neg (by omega), if_neg (by omega), if_pos rfl]
  · rw [if_neg (by omega), if_neg (by omega), if_pos rfl]
  · rw [if_neg (by omega), if_pos rfl]
theorem VA_put {B : Int → Int} (v : VA B) {x w : Int} (h : B 10 < 6) (hx : 0 ≤ x ∧ x ≤ B 0) (hw : -9 ≤ w ∧ w ≤ 9) : VA (putA B x w) := by
  obtain ⟨v1, v2, v3, v4, v5, v6, v7, v8⟩ := v
  have n := put_new (B := B) (x := x) (w := w) ⟨v3.1, h⟩
  have s0 : putA B x w 0 = B 0 := put_same (by omega)
  have s1 : putA B x w 1 = B 1 := put_same (by omega)
  have s29 : putA B x w 29 = B 29 := put_same (by omega)
  refine ⟨by rw [s0]; exact v1, by rw [s1]; exact v2, by rw [n.1]; omega, by rw [s29]; exact v4, fun k k0 k1 => ?_, fun k k0 k1 => ?_, fun k k0 k1 => ?_, fun k k0 k1 => ?_⟩
  · rw [s1] at k1
    rw [put_same (i := 2 + k) (by omega), put_same (i := 6 + k) (by omega), s0]
    exact v5 k k0 k1
  · rw [s1] at k1
    rw [put_same (i := 2 + k) (by omega), put_same (i := 2 + (k + 1)) (by omega)]
    exact v6 k k0 k1
  · rw [n.1] at k1
    rw [s0]
    by_cases c : k = B 10
    · rw [c, n.2.1, n.2.2.1, n.2.2.2]; omega
    · rw [put_same (i := 11 + k) (by omega), put_same (i := 17 + k) (by omega), put_same (i := 23 + k) (by omega)]
      exact v7 k k0 (by omega)
  · rw [s29] at k1
    rw [put_same (i := 30 + k) (by omega), put_same (i := 33 + k) (by omega)]
    exact v8 k k0 k1
theorem lsum_eqA {A B : Int → Int} (f : Int → Int → Int) : ∀ n : Nat, (∀ k : Nat, k < n → A (11 + (k : Int)) = B (11 + (k : Int)) ∧ A (17 + (k : Int)) = B (17 + (k : Int)) ∧ A (23 + (k : Int)) = B (23 + (k : Int))) → lsum A f n = lsum B f n := by
  intro n
  induction n with
  | zero => intro _; rfl
  | succ n ih =>
    intro h
    simp only [lsum]
    obtain ⟨a, b, c⟩ := h n (by omega)
    rw [ih (fun k hk => h k (by omega)), a, b, c]
theorem ZS_put {B : Int → Int} (v : VA B) {x w : Int} (h : B 10 < 6) (f : Int → Int → Int) : ZS (putA B x w) f = ZS B f + w * f x x := by
  have v3 := v.2.2.1
  have n := put_new (B := B) (x := x) (w := w) ⟨v3.1, h⟩
  unfold ZS
  rw [n.1, show (B 10 + 1).toNat = (B 10).toNat + 1 by omega]
  simp only [lsum]
  rw [show (((B 10).toNat : Nat) : Int) = B 10 by omega, n.2.1, n.2.2.1, n.2.2.2]
  rw [lsum_eqA (A := putA B x w) (B := B) f (B 10).toNat (fun k hk => ⟨put_same (by omega), put_same (by omega), put_same (by omega)⟩)]
theorem ZS_no (A : Int → Int) (f : Int → Int → Int) : ZS (noA A) f = 0 := rfl
/-- the class's beam in thought while loads come -/
theorem bear_put {m : Mem} {B : Int → Int} (v : VA B) (h : SF m B) {x w : Int} (hB : B 10 < 6) (hx : 0 ≤ x ∧ x ≤ B 0) (hw : -9 ≤ w ∧ w ≤ 9) : Sta_bearPoint x w m = some (mset m 114 x (m 114 x + w)) ∧ SF (mset m 114 x (m 114 x + w)) (putA B x w) := by
  have l10 := v.1
  have s0 : putA B x w 0 = B 0 := put_same (by have := v.2.2.1; omega)
  have s1 : putA B x w 1 = B 1 := put_same (by have := v.2.2.1; omega)
  have n4 := v.2.1
  have v3 := v.2.2.1
  refine ⟨bearPoint_in (by rw [h.1.1]; exact hx) (by rw [h.1.1]; omega) hw, ⟨⟨?_, ?_, fun k k0 k1 => ?_⟩, fun k k0 k1 => ⟨?_, ?_⟩⟩⟩
  · rw [mset_if, if_neg (by omega), s0]; exact h.1.1
  · rw [mset_if, if_neg (by omega), s1]; exact h.1.2.1
  · rw [s1] at k1
    rw [mset_if, if_neg (by omega), mset_if, if_neg (by omega)]
    have e1 : aT (putA B x w) k = aT B k := put_same (by omega)
    have e2 : putA B x w (6 + k) = B (6 + k) := put_same (by omega)
    rw [e1, e2]
    exact h.1.2.2 k k0 k1
  · rw [ZS_put v hB, mset_c]
    have p : plF k x x = if x = k then 1 else 0 := by unfold plF; rw [if_pos rfl]
    rw [p]
    by_cases c : k = x
    · rw [if_pos c, if_pos c.symm, ← c, (h.2 k k0 k1).1, Int.mul_one]
    · rw [if_neg c, if_neg (fun z => c z.symm), (h.2 k k0 k1).1, Int.mul_zero, Int.add_zero]
  · rw [ZS_put v hB, mset_if, if_neg (by omega), (h.2 k k0 k1).2]
    have p : deF k x x = 0 := by
      unfold deF
      by_cases c : x ≤ k
      · rw [if_pos c, if_neg (by omega)]
      · rw [if_neg c]
    rw [p, Int.mul_zero, Int.add_zero]
theorem frame_no {mem : Mem} {A : Int → Int} (v : VA A) (h : RB mem 1 A) : ∃ m, Sta_frame mem = some m ∧ SF m (noA A) ∧ ∀ c i, (c < 111 ∨ 115 < c) → m c i = mem c i := by
  obtain ⟨m, e, ⟨a1, a2, a3⟩, b, c⟩ := frame_eq v h
  have n4 := v.2.1
  refine ⟨m, e, ⟨⟨a1, a2, fun k k0 k1 => ?_⟩, fun k k0 k1 => by rw [ZS_no, ZS_no]; exact b k k0 k1⟩, c⟩
  have k1' : k < A 1 := k1
  have e1 : aT (noA A) k = aT A k := by unfold aT noA; rw [if_neg (by omega)]
  have e2 : noA A (6 + k) = A (6 + k) := by unfold noA; rw [if_neg (by omega)]
  rw [e1, e2]
  exact a3 k k0 k1'
theorem solveUnit_eq {mem : Mem} {A : Int → Int} (v : VA A) (hn : 2 ≤ A 1) (h : RB mem 1 A) {x : Int} (hx : 0 ≤ x ∧ x ≤ A 0) : ∃ m', BP_solveUnit x mem = some m' ∧ SV m' (putA (noA A) x 1) ∧ VA (putA (noA A) x 1) ∧ 2 ≤ putA (noA A) x 1 1 ∧ sfr m' mem := by
  obtain ⟨m1, a1, a2, a3⟩ := frame_no v h
  have v0 := VA_no v
  have b := bear_put (x := x) (w := 1) v0 a2 (by show (0 : Int) < 6; decide) hx (by decide)
  have v1 := VA_put (x := x) (w := 1) v0 (by show (0 : Int) < 6; decide) hx (by decide)
  have s1 : putA (noA A) x 1 1 = A 1 := rfl
  obtain ⟨m3, c1, c2, c3⟩ := solve_eq v1 (by rw [s1]; exact hn) b.2
  unfold BP_solveUnit
  rw [a1, ob_some, b.1, ob_some, c1, ob_some]
  exact ⟨m3, rfl, c2, v1, by rw [s1]; exact hn, fun c i hc => by rw [c3 c i (by omega) (by omega) (by omega) (by omega) (by omega), mset_if, if_neg (by omega), a3 c i (by omega)]⟩
/-! the model in thought -/
theorem alone_put {m : Mem} {B : Int → Int} (hB : m 150 = B) (h : 0 ≤ B 10 ∧ B 10 < 6) (x w : Int) : ∃ m', Mo_alone_ x w m = some m' ∧ m' 150 = putA B x w ∧ (∀ c i, ¬ c = 150 → m' c i = m c i) := by
  unfold Mo_alone_
  simp only [lt_id]
  have e1 : m 150 10 = B 10 := by rw [hB]
  rw [e1, ck_id (by omega) (by omega) (by omega), s32_id (a := 11 + B 10) (by omega) (by omega)]
  have r1 : mset m 150 (11 + B 10) x 150 10 = B 10 := by rw [mset_if, if_neg (by omega)]; exact e1
  rw [r1, ck_id (by omega) (by omega) (by omega), s32_id (a := 17 + B 10) (by omega) (by omega)]
  have r2 : mset (mset m 150 (11 + B 10) x) 150 (17 + B 10) x 150 10 = B 10 := by rw [mset_if, if_neg (by omega)]; exact r1
  rw [r2, ck_id (by omega) (by omega) (by omega), s32_id (a := 23 + B 10) (by omega) (by omega)]
  have r3 : mset (mset (mset m 150 (11 + B 10) x) 150 (17 + B 10) x) 150 (23 + B 10) w 150 10 = B 10 := by rw [mset_if, if_neg (by omega)]; exact r2
  rw [r3]
  refine ⟨_, rfl, ?_, fun c i hc => ?_⟩
  · funext i
    unfold putA
    simp only [mset_c]
    rw [← hB]
  · rw [mset_if, if_neg (by omega), mset_if, if_neg (by omega), mset_if, if_neg (by omega), mset_if, if_neg (by omega)]
/-- what asked() finds: the moment at a place (k below 0), or what a support bears -/
def aN (B : Int → Int) (x k : Int) : Int := if k < 0 then MB B x 1 else UU B k
def aD (B : Int → Int) (k : Int) : Int := if k < 0 then 2 * DD B else DD B
theorem aN_b {B : Int → Int} (v : VA B) (hn : 2 ≤ B 1) {x k : Int} (hx : 0 ≤ x ∧ x ≤ B 0) (hk : k < B 1) : ab (aN B x k) 20600000000 ∧ (0 < aD B k ∧ aD B k ≤ 2200000) := by
  have B1 := (bnd v hn).1
  unfold aN aD
  by_cases c : k < 0
  · rw [if_pos c, if_pos c]; exact ⟨MB_ab' v hn hx.1 hx.2, by omega, by omega⟩
  · rw [if_neg c, if_neg c]; exact ⟨ab_mono (UU_ab v hn (by omega) hk) (by decide), B1.1, by omega⟩
theorem asked_eq {m : Mem} {B : Int → Int} (v : VA B) (hn : 2 ≤ B 1) (hB : m 150 = B) {x k : Int} (hx : 0 ≤ x ∧ x ≤ B 0) (hk : -1 ≤ k ∧ k < B 1) : ∃ m', Mo_asked x k m = some m' ∧ frac m' (aN B x k) (aD B k) ∧ rfr m' m := by
  have l10 := v.1
  have n4 := v.2.1
  have B1 := (bnd v hn).1
  obtain ⟨m1, e1, V1, f1⟩ := reactions_eq v hn hB
  have o := MV_one v hn V1
  unfold Mo_asked aN aD
  rw [e1, ob_some, s32_id (a := k) (by omega) (by omega), s32_id (a := x) (by omega) (by omega)]
  by_cases c : k < 0
  · rw [if_neg (by omega), if_pos c, if_pos c]
    obtain ⟨w, w1, w2⟩ := momentAt_eq v hn V1 (a := x) (b := 1) (by omega) (by omega)
    have wb := ab_div o w2 (MB_ab' v hn hx.1 hx.2)
    obtain ⟨m4, e4, g4, f4⟩ := is_frac (mem := m1) (p := w) (q := 2 * m1 149 13) (X := MB B x 1) (D := 2 * DD B) (b62_le wb (by decide)) ⟨by omega, by omega⟩ (by omega) (by omega) (by
      have : w * (2 * DD B) = 2 * (w * DD B) := by clear w2; grind
      rw [this, w2]
      clear w2 this
      grind)
    rw [w1, ob_some, e4, ob_some]
    exact ⟨m4, rfl, g4, fun c i x1 x2 => by rw [f4 c i (by omega), f1 c i (by omega) x2]⟩
  · rw [if_pos (by omega), if_neg c, if_neg c, ck_id (by omega) (by omega) (by omega)]
    obtain ⟨m4, e4, g4, f4⟩ := mo_answer v hn V1 (V1.2.2 k (by omega) hk.2) (UU_ab v hn (by omega) hk.2) (by decide)
    rw [e4, ob_some]
    exact ⟨m4, rfl, g4, fun c i x1 x2 => by rw [f4 c i (by omega), f1 c i (by omega) x2]⟩
theorem byUnit_eq {m : Mem} {A : Int → Int} (v : VA A) (hn : 2 ≤ A 1) (hA : m 150 = A) {y x k r : Int} (hy : 0 ≤ y ∧ y ≤ A 0) (hx : 0 ≤ x ∧ x ≤ A 0) (hk : -1 ≤ k ∧ k < A 1) (hr : r = 0 ∨ r = 1) (R : Rel m) : ∃ m', Mo_byUnit y x k r m = some ((if r = 0 then nm (aN (putA (noA A) y 1) x k) (aD (putA (noA A) y 1) k) else dn (aN (putA (noA A) y 1) x k) (aD (putA (noA A) y 1) k)), m') ∧ Rel m' := by
  obtain ⟨m1, e1, t1, t2⟩ := thinks_eq m
  have hB2 : mset m1 150 10 0 150 = noA A := by
    funext i
    rw [mset_c]
    unfold noA
    rw [t2 150 i (by decide), hA]
  obtain ⟨m3, e3, h3, f3⟩ := alone_put (m := mset m1 150 10 0) hB2 (by show 0 ≤ (0 : Int) ∧ (0 : Int) < 6; decide) y 1
  have v1 := VA_put (x := y) (w := 1) (VA_no v) (by show (0 : Int) < 6; decide) hy (by decide)
  have s1 : putA (noA A) y 1 1 = A 1 := rfl
  have s0 : putA (noA A) y 1 0 = A 0 := rfl
  obtain ⟨m4, e4, g4, f4⟩ := asked_eq v1 (by rw [s1]; exact hn) h3 (x := x) (k := k) (by rw [s0]; exact hx) (by rw [s1]; exact hk)
  obtain ⟨m5, e5, l1, l2, l3⟩ := laysBack_eq m4
  have h150 : m5 150 = m 150 := by
    funext i
    by_cases c : 0 ≤ i ∧ i < 36
    · rw [l1 i c.1 c.2, f4 160 i (by omega) (by omega), f3 160 i (by decide), mset_if, if_neg (by omega), t1 i c.1 c.2]
    · rw [l2 i c, f4 150 i (by omega) (by omega), h3, hA]
      unfold putA noA
      show (if i = 10 then (0 : Int) + 1 else if i = 23 + 0 then 1 else if i = 17 + 0 then y else if i = 11 + 0 then y else if i = 10 then 0 else A i) = A i
      rw [if_neg (by omega), if_neg (by omega), if_neg (by omega), if_neg (by omega), if_neg (by omega)]
  unfold Mo_byUnit
  rw [e1, ob_some, lt_id, e3, ob_some, e4, ob_some, e5, ob_some]
  have R5 : Rel m5 := Rel_mod R (fun c i x1 x2 x3 => by
    by_cases c5 : c = 150
    · rw [c5, h150]
    · rw [l3 c i c5, f4 c i (by omega) (by omega), f3 c i c5, mset_if, if_neg (by omega), t2 c i (by omega)])
  have g5 : m5 149 5 = m4 149 5 := l3 _ _ (by decide)
  have g6 : m5 149 6 = m4 149 6 := l3 _ _ (by decide)
  rcases hr with rfl | rfl
  · rw [s32_0, if_0, g5, g4.1]; exact ⟨m5, rfl, R5⟩
  · rw [s32_1, if_1, g6, g4.2]; exact ⟨m5, rfl, R5⟩
