/-! the class's moments over supports -/
def PP (A : Int → Int) : Int := if A 1 = 2 then spA A 0 else if A 1 = 3 then spA A 0 * spA A 1 else spA A 0 * spA A 1 * spA A 2
def QQ (A : Int → Int) (k : Int) : Int := PP A / spA A k
def hrI (A : Int → Int) (k : Int) : Int := if 0 < k ∧ k < A 1 - 1 ∧ A (6 + k) = 0 then 1 else 0
def oF (A : Int → Int) : Int := (2 * PP A) * ZS A (byF (aT A 0) 1)
def oL (A : Int → Int) : Int := (2 * PP A) * ZS A (byF (aT A (A 1 - 1)) 0)
def leA (A : Int → Int) (k : Int) : Int := ZS A (sF (aT A (k - 1)) (aT A (k - 1 + 1)) 0) * QQ A (k - 1) + ZS A (sF (aT A k) (aT A (k + 1)) 1) * QQ A k
def wA1 (A : Int → Int) : Int := if hrI A 1 = 0 then 1 else 2 * (spA A 0 + spA A 1)
def tA1 (A : Int → Int) : Int := if hrI A 1 = 0 then 0 else -leA A 1 - spA A 0 * oF A - (if A 1 = 3 then spA A 1 * oL A else 0)
def wA2 (A : Int → Int) : Int := if hrI A 2 = 0 then 1 else 2 * (spA A 1 + spA A 2)
def tA2 (A : Int → Int) : Int := if hrI A 2 = 0 then 0 else -leA A 2 - spA A 2 * oL A
def btA (A : Int → Int) : Int := if hrI A 1 = 0 then 0 else if hrI A 2 = 0 then 0 else spA A 1
def crA (A : Int → Int) : Int := wA1 A * wA2 A - btA A * btA A
def ooA (A : Int → Int) (k : Int) : Int := if k = A 1 - 1 then oL A * crA A else if k = 0 then oF A * crA A else if k = 1 then wA2 A * tA1 A - btA A * tA2 A else wA1 A * tA2 A - btA A * tA1 A
def DD (A : Int → Int) : Int := ((4 * PP A) * PP A) * crA A
theorem VA_at {A : Int → Int} (v : VA A) {k : Int} (h0 : 0 ≤ k) (h1 : k < A 1) : 0 ≤ aT A k ∧ aT A k ≤ A 0 := by
  obtain ⟨v1, v2, v3, v4, v5, v6, v7, v8⟩ := v
  exact ⟨(v5 k h0 h1).1, (v5 k h0 h1).2.1⟩
theorem VA_lt {A : Int → Int} (v : VA A) {k : Int} (h0 : 0 ≤ k) (h1 : k + 1 < A 1) : aT A k < aT A (k + 1) := by
  obtain ⟨v1, v2, v3, v4, v5, v6, v7, v8⟩ := v
  exact v6 k h0 h1
theorem sp_pos {A : Int → Int} (v : VA A) {k : Int} (h0 : 0 ≤ k) (h1 : k + 1 < A 1) : 0 < spA A k ∧ spA A k ≤ 10 := by
  have a1 := VA_lt v h0 h1
  have a2 := VA_at v h0 (by omega)
  have a3 := VA_at v (k := k + 1) (by omega) h1
  have := v.1
  unfold spA
  omega
theorem VA_n {A : Int → Int} (v : VA A) (hn : 2 ≤ A 1) : A 1 = 2 ∨ A 1 = 3 ∨ A 1 = 4 := by
  have := v.2.1
  omega
theorem pos2 {a b : Int} (ha : 0 < a) (hb : 0 < b) : 0 < a * b := Int.mul_pos ha hb
theorem PP_pos {A : Int → Int} (v : VA A) (hn : 2 ≤ A 1) : 0 < PP A := by
  unfold PP
  rcases VA_n v hn with h | h | h
  · rw [if_pos h]; exact (sp_pos v (by omega) (by omega)).1
  · rw [if_neg (by omega), if_pos h]; exact pos2 (sp_pos v (by omega) (by omega)).1 (sp_pos v (by omega) (by omega)).1
  · rw [if_neg (by omega), if_neg (by omega)]; exact pos2 (pos2 (sp_pos v (by omega) (by omega)).1 (sp_pos v (by omega) (by omega)).1) (sp_pos v (by omega) (by omega)).1
theorem QQ_mul {A : Int → Int} (v : VA A) (hn : 2 ≤ A 1) {k : Int} (h0 : 0 ≤ k) (h1 : k + 1 < A 1) : QQ A k * spA A k = PP A := by
  have p := (sp_pos v h0 h1).1
  have d : spA A k ∣ PP A := by
    unfold PP
    rcases VA_n v hn with h | h | h
    · rw [if_pos h, show k = 0 by omega]; exact Int.dvd_refl _
    · rw [if_neg (by omega), if_pos h]
      rcases (show k = 0 ∨ k = 1 by omega) with rfl | rfl
      · exact Int.dvd_mul_right _ _
      · exact Int.dvd_mul_left _ _
    · rw [if_neg (by omega), if_neg (by omega)]
      rcases (show k = 0 ∨ k = 1 ∨ k = 2 by omega) with rfl | rfl | rfl
      · rw [Int.mul_assoc]; exact Int.dvd_mul_right _ _
      · rw [Int.mul_comm (spA A 0) (spA A 1), Int.mul_assoc]; exact Int.dvd_mul_right _ _
      · exact Int.dvd_mul_left _ _
  exact Int.ediv_mul_cancel d
theorem QQ_pos {A : Int → Int} (v : VA A) (hn : 2 ≤ A 1) {k : Int} (h0 : 0 ≤ k) (h1 : k + 1 < A 1) : 0 < QQ A k := by
  have p := (sp_pos v h0 h1).1
  have q := PP_pos v hn
  rw [← QQ_mul v hn h0 h1] at q
  exact Int.pos_of_mul_pos_left q p
theorem PP_le {A : Int → Int} (v : VA A) (hn : 2 ≤ A 1) : PP A ≤ 1000 := by
  unfold PP
  rcases VA_n v hn with h | h | h
  · rw [if_pos h]; have := (sp_pos v (k := 0) (by omega) (by omega)).2; omega
  · rw [if_neg (by omega), if_pos h]
    have a0 := sp_pos v (k := 0) (by omega) (by omega)
    have a1 := sp_pos v (k := 1) (by omega) (by omega)
    have := mul_b (a := spA A 0) (b := spA A 1) (A := 10) (B := 10) ⟨by omega, a0.2⟩ ⟨by omega, a1.2⟩
    omega
  · rw [if_neg (by omega), if_neg (by omega)]
    have a0 := sp_pos v (k := 0) (by omega) (by omega)
    have a1 := sp_pos v (k := 1) (by omega) (by omega)
    have a2 := sp_pos v (k := 2) (by omega) (by omega)
    have b := mul_b (a := spA A 0) (b := spA A 1) (A := 10) (B := 10) ⟨by omega, a0.2⟩ ⟨by omega, a1.2⟩
    have := mul_b (a := spA A 0 * spA A 1) (b := spA A 2) (A := 100) (B := 10) ⟨by omega, b.2⟩ ⟨by omega, a2.2⟩
    omega
theorem b62_le {x : Int} {B : Int} (h : -B ≤ x ∧ x ≤ B) (hB : B < 4611686018427387904) : b62 x := ⟨by omega, by omega⟩
theorem span_eq {m : Mem} {A : Int → Int} (v : VA A) (h : FR m A) {k : Int} (h0 : 0 ≤ k) (h1 : k + 1 < A 1) : Sta_span k m = some (spA A k) := by
  have a1 := VA_at v h0 (by omega)
  have a2 := VA_at v (k := k + 1) (by omega) h1
  have := v.1
  have := v.2.1
  unfold Sta_span
  simp (disch := omega) only [s32_id, ck_id]
  rw [(h.2.2 (k + 1) (by omega) (by omega)).1, (h.2.2 k (by omega) (by omega)).1, s32_id (by omega) (by omega)]
  rfl
theorem first_eq {m : Mem} {A : Int → Int} (v : VA A) (hn : 2 ≤ A 1) (h : SF m A) : Sta_twiceOverFirst m = some (ZS A (byF (aT A 0) 1)) := by
  have a0 := VA_at v (k := 0) (by omega) (by omega)
  have := v.1
  have hp : m 112 0 = aT A 0 := (h.1.2.2 0 (by omega) (by omega)).1
  unfold Sta_twiceOverFirst
  rw [loopA (fun n a i => Sta_twiceOverFirst_L4 m n a i) (aT A 0) (fun k => (-(2 * (aT A 0 - k))) * ZS A (plF k) + (-(2 * (aT A 0 - k) - 1)) * ZS A (deF k)) some
    (fun n a => by
      show Sta_twiceOverFirst_L4 m (n + 1) a (aT A 0) = some a
      rw [Sta_twiceOverFirst_L4, hp, if_pos (by omega)]) 0
    (fun n a i h0 h1 => by
      show Sta_twiceOverFirst_L4 m (n + 1) a i = Sta_twiceOverFirst_L4 m n (a + _) (i + 1)
      rw [Sta_twiceOverFirst_L4, hp]
      simp (disch := omega) only [s32_id, ck_id, lt_id]
      rw [if_neg (by omega), (h.2 i (by omega) (by omega)).1, (h.2 i (by omega) (by omega)).2]
      congr 1
      grind)
    (aT A 0).toNat 2000 0 0 (by omega) (by omega) (by omega)]
  congr 1
  rw [Int.zero_add, ZS_two]
  refine ZS_congr v (fun x y x0 xy y1 => ?_)
  obtain ⟨p', hp'⟩ := nat_of a0.1
  obtain ⟨x', rfl⟩ := nat_of x0
  obtain ⟨y', rfl⟩ := nat_of (show 0 ≤ y by omega)
  rw [hp']
  exact d_first p' (by omega) x' (by omega) y' (by omega) (by omega)
theorem last_eq {m : Mem} {A : Int → Int} (v : VA A) (hn : 2 ≤ A 1) (h : SF m A) : Sta_twiceOverLast m = some (ZS A (byF (aT A (A 1 - 1)) 0)) := by
  have a0 := VA_at v (k := A 1 - 1) (by omega) (by omega)
  have := v.1
  have := v.2.1
  have hp : m 112 (A 1 - 1) = aT A (A 1 - 1) := (h.1.2.2 _ (by omega) (by omega)).1
  unfold Sta_twiceOverLast
  rw [h.1.2.1]
  simp (disch := omega) only [s32_id, ck_id, lt_id]
  rw [hp]
  generalize aT A (A 1 - 1) = p at *
  rw [loopA (fun n a i => Sta_twiceOverLast_L17 m p n a i) (A 0) (fun k => (-(2 * (k + 1 - p))) * ZS A (plF (k + 1)) + (-(2 * (k + 1 - p) - 1)) * ZS A (deF k)) some
    (fun n a => by
      show Sta_twiceOverLast_L17 m p (n + 1) a (A 0) = some a
      rw [Sta_twiceOverLast_L17, h.1.1, if_pos (by omega)]) p
    (fun n a i h0 h1 => by
      show Sta_twiceOverLast_L17 m p (n + 1) a i = Sta_twiceOverLast_L17 m p n (a + _) (i + 1)
      rw [Sta_twiceOverLast_L17, h.1.1]
      simp (disch := omega) only [s32_id, ck_id, lt_id]
      rw [if_neg (by omega), (h.2 (i + 1) (by omega) (by omega)).1, (h.2 i (by omega) (by omega)).2]
      congr 1
      grind)
    (A 0 - p).toNat 2000 0 p (by omega) (by omega) (by omega)]
  congr 1
  rw [Int.zero_add, ZS_two (A := A) (fun k => -(2 * (k + 1 - p))) (fun k => -(2 * (k + 1 - p) - 1)) (fun k => plF (k + 1)) deF]
  refine ZS_congr v (fun x y x0 xy y1 => ?_)
  obtain ⟨p', rfl⟩ := nat_of a0.1
  obtain ⟨x', rfl⟩ := nat_of x0
  obtain ⟨y', rfl⟩ := nat_of (show 0 ≤ y by omega)
  obtain ⟨L', hL'⟩ := nat_of (show 0 ≤ A 0 by omega)
  rw [hL', show ((L' : Int) - (p' : Int)).toNat = L' - p' by omega]
  exact d_last p' (by omega) L' (by omega) (by omega) x' (by omega) y' (by omega) (by omega) (by omega)
theorem toRight_eq {m : Mem} {A : Int → Int} (v : VA A) (h : SF m A) {k : Int} (h0 : 0 ≤ k) (h1 : k + 1 < A 1) : Sta_leanToRight k m = some (ZS A (sF (aT A k) (aT A (k + 1)) 0)) := by
  have a1 := VA_at v h0 (by omega)
  have a2 := VA_at v (k := k + 1) (by omega) h1
  have a3 := VA_lt v h0 h1
  have := v.1
  have := v.2.1
  have hp : m 112 k = aT A k := (h.1.2.2 k (by omega) (by omega)).1
  unfold Sta_leanToRight
  rw [span_eq v h.1 h0 h1, ob_some]
  unfold spA
  generalize aT A (k + 1) = b at *
  generalize aT A k = a at *
  rw [loopA (fun n s i => Sta_leanToRight_L12 k m (b - a) n s i) (b - a) (fun s => (lS (b - a) (s + 1) - lS (b - a) s) * ZS A (deF (a + s)) + (if s = 0 then 0 else lP (b - a) s) * ZS A (plF (a + s))) some
    (fun n s => by
      show Sta_leanToRight_L12 k m (b - a) (n + 1) s (b - a) = some s
      rw [Sta_leanToRight_L12, s32_id (by omega) (by omega), if_pos (by omega)]) 0
    (fun n s i g0 g1 => by
      show Sta_leanToRight_L12 k m (b - a) (n + 1) s i = Sta_leanToRight_L12 k m (b - a) n (s + _) (i + 1)
      rw [Sta_leanToRight_L12]
      simp (disch := omega) only [s32_id, s64_id, ck_id, lt_id, jn_id]
      rw [if_neg (by omega), hp]
      unfold Sta_leanOfSpread Sta_leanOfPoint
      simp only [ob_some]
      rw [(h.2 (a + i) (by omega) (by omega)).1, (h.2 (a + i) (by omega) (by omega)).2]
      by_cases c : i = 0
      · rw [if_neg (fun z => z c), if_pos c]; congr 1; unfold lS; grind
      · rw [if_pos c, if_neg c]; congr 1; unfold lS lP; grind)
    (b - a).toNat 2000 0 0 (by omega) (by omega) (by omega)]
  congr 1
  rw [Int.zero_add, ZS_two (A := A) (fun s => (lS (b - a) (s + 1) - lS (b - a) s)) (fun s => if s = 0 then 0 else lP (b - a) s) (fun s => deF (a + s)) (fun s => plF (a + s))]
  refine ZS_congr v (fun x y x0 xy y1 => ?_)
  obtain ⟨a', rfl⟩ := nat_of a1.1
  obtain ⟨b', rfl⟩ := nat_of a2.1
  obtain ⟨x', rfl⟩ := nat_of x0
  obtain ⟨y', rfl⟩ := nat_of (show 0 ≤ y by omega)
  rw [show ((b' : Int) - (a' : Int)).toNat = b' - a' by omega]
  exact d_right a' (by omega) b' (by omega) (by omega) x' (by omega) y' (by omega) (by omega)
theorem toLeft_eq {m : Mem} {A : Int → Int} (v : VA A) (h : SF m A) {k : Int} (h0 : 0 ≤ k) (h1 : k + 1 < A 1) : Sta_leanToLeft k m = some (ZS A (sF (aT A k) (aT A (k + 1)) 1)) := by
  have a1 := VA_at v h0 (by omega)
  have a2 := VA_at v (k := k + 1) (by omega) h1
  have a3 := VA_lt v h0 h1
  have := v.1
  have := v.2.1
  have hp : m 112 k = aT A k := (h.1.2.2 k (by omega) (by omega)).1
  unfold Sta_leanToLeft
  rw [span_eq v h.1 h0 h1, ob_some]
  unfold spA
  generalize aT A (k + 1) = b at *
  generalize aT A k = a at *
  rw [loopA (fun n s i => Sta_leanToLeft_L12 k m (b - a) n s i) (b - a) (fun s => (lS (b - a) (b - a - s) - lS (b - a) (b - a - s - 1)) * ZS A (deF (a + s)) + (if s = 0 then 0 else lP (b - a) (b - a - s)) * ZS A (plF (a + s))) some
    (fun n s => by
      show Sta_leanToLeft_L12 k m (b - a) (n + 1) s (b - a) = some s
      rw [Sta_leanToLeft_L12, s32_id (by omega) (by omega), if_pos (by omega)]) 0
    (fun n s i g0 g1 => by
      show Sta_leanToLeft_L12 k m (b - a) (n + 1) s i = Sta_leanToLeft_L12 k m (b - a) n (s + _) (i + 1)
      rw [Sta_leanToLeft_L12]
      simp (disch := omega) only [s32_id, s64_id, ck_id, lt_id, jn_id]
      rw [if_neg (by omega), hp]
      unfold Sta_leanOfSpread Sta_leanOfPoint
      simp only [ob_some]
      rw [(h.2 (a + i) (by omega) (by omega)).1, (h.2 (a + i) (by omega) (by omega)).2]
      by_cases c : i = 0
      · rw [if_neg (fun z => z c), if_pos c]; congr 1; unfold lS; grind
      · rw [if_pos c, if_neg c]; congr 1; unfold lS lP; grind)
    (b - a).toNat 2000 0 0 (by omega) (by omega) (by omega)]
  congr 1
  rw [Int.zero_add, ZS_two (A := A) (fun s => (lS (b - a) (b - a - s) - lS (b - a) (b - a - s - 1))) (fun s => if s = 0 then 0 else lP (b - a) (b - a - s)) (fun s => deF (a + s)) (fun s => plF (a + s))]
  refine ZS_congr v (fun x y x0 xy y1 => ?_)
  obtain ⟨a', rfl⟩ := nat_of a1.1
  obtain ⟨b', rfl⟩ := nat_of a2.1
  obtain ⟨x', rfl⟩ := nat_of x0
  obtain ⟨y', rfl⟩ := nat_of (show 0 ≤ y by omega)
  rw [show ((b' : Int) - (a' : Int)).toNat = b' - a' by omega]
  exact d_left a' (by omega) b' (by omega) (by omega) x' (by omega) y' (by omega) (by omega)
theorem divide_QQ {A : Int → Int} (v : VA A) (hn : 2 ≤ A 1) {k : Int} (h0 : 0 ≤ k) (h1 : k + 1 < A 1) (m : Mem) : BP_divide (PP A) (spA A k) m = some (QQ A k) := by
  have p := sp_pos v h0 h1
  have q := PP_pos v hn
  have r := PP_le v hn
  rw [divide_eq ⟨by omega, by omega⟩ ⟨by omega, by omega⟩ (by omega), Int.tdiv_eq_ediv_of_nonneg (by omega)]
  rfl
theorem leans_eq {m : Mem} {A : Int → Int} (v : VA A) (hn : 2 ≤ A 1) (h : SF m A) (hP : m 111 14 = PP A) {k : Int} (h0 : 0 < k) (h1 : k + 1 < A 1) : Sta_leans k m = some (leA A k) := by
  unfold Sta_leans
  rw [toRight_eq v h (by omega) (by omega), ob_some, span_eq v h.1 (by omega) (by omega), ob_some, hP, divide_QQ v hn (by omega) (by omega), ob_some, toLeft_eq v h (by omega) h1, ob_some, span_eq v h.1 (by omega) h1, ob_some, divide_QQ v hn (by omega) h1, ob_some]
  rfl
theorem hasRow_eq {m : Mem} {A : Int → Int} (v : VA A) (hn : 2 ≤ A 1) (h : SF m A) {k : Int} (h0 : 0 < k) (h1 : k < 4) : Sta_hasRow k m = some (hrI A k) := by
  have := v.2.1
  unfold Sta_hasRow Sta_isInner hrI
  rw [h.1.2.1]
  simp (disch := omega) only [s32_id, ck_id]
  rw [if_neg (by omega)]
  by_cases c : A 1 - 1 ≤ k
  · rw [if_pos c, ob_some, s32_0, if_0', if_neg (by omega)]
  · rw [if_neg c, ob_some, s32_1, if_1']
    obtain ⟨v1, v2, v3, v4, v5, v6, v7, v8⟩ := v
    have hj := (v5 k (by omega) (by omega)).2.2
    rw [(h.1.2.2 k (by omega) (by omega)).2]
    rcases hj with g | g
    · rw [g, s32_0, if_0, if_pos ⟨h0, by omega, rfl⟩]
    · rw [g, s32_1, if_1, if_neg (by omega)]
