/-! the class's shear and bending along the beam -/
theorem isum_last (g : Int → Int) : ∀ (d : Nat) (i : Int), isum g i (d + 1) = isum g i d + g (i + (d : Int)) := by
  intro d
  induction d with
  | zero => intro i; simp [isum]
  | succ d ih =>
    intro i
    have e := ih (i + 1)
    show g i + isum g (i + 1) (d + 1) = (g i + isum g (i + 1) d) + g (i + ((d + 1 : Nat) : Int))
    rw [e, show i + ((d + 1 : Nat) : Int) = i + 1 + (d : Int) by omega]
    omega
theorem isum_split (g : Int → Int) (a : Nat) : ∀ (b : Nat) (i : Int), isum g i (a + b) = isum g i a + isum g (i + (a : Int)) b := by
  intro b
  induction b with
  | zero => intro i; simp [isum]
  | succ b ih =>
    intro i
    rw [show a + (b + 1) = (a + b) + 1 by omega, isum_last, isum_last, ih, show i + ((a + b : Nat) : Int) = i + (a : Int) + (b : Int) by omega]
    omega
theorem isum_zero : ∀ (d : Nat) (i : Int), isum (fun _ => 0) i d = 0 := by
  intro d
  induction d with
  | zero => intro i; rfl
  | succ d ih => intro i; simp only [isum]; rw [ih]; rfl
theorem isum_cmul (c : Int) (g : Int → Int) : ∀ (d : Nat) (i : Int), isum (fun k => c * g k) i d = c * isum g i d := by
  intro d
  induction d with
  | zero => intro i; simp [isum]
  | succ d ih => intro i; simp only [isum]; rw [ih, Int.mul_add]
theorem behind_eq {m : Mem} {A : Int → Int} (v : VA A) (h : SF m A) {p : Int} (h0 : 0 ≤ p) (h1 : p ≤ A 0) : Sta_loadsBehind p m = some (ZS A (bsF p 0) * m 111 6) := by
  have := v.1
  unfold Sta_loadsBehind
  rw [loopA (fun n a i => Sta_loadsBehind_L5 m n a i) (A 0) (fun k => 1 * ZS A (deF k) + 1 * ZS A (plF (k + 1))) (fun s => some (s * m 111 6))
    (fun n a => by
      show Sta_loadsBehind_L5 m (n + 1) a (A 0) = some (a * m 111 6)
      rw [Sta_loadsBehind_L5, h.1.1, if_pos (by omega)]) p
    (fun n a i g0 g1 => by
      show Sta_loadsBehind_L5 m (n + 1) a i = Sta_loadsBehind_L5 m n (a + _) (i + 1)
      rw [Sta_loadsBehind_L5, h.1.1]
      simp (disch := omega) only [s32_id, ck_id, lt_id]
      rw [if_neg (by omega), (h.2 (i + 1) (by omega) (by omega)).1, (h.2 i (by omega) (by omega)).2, Int.one_mul, Int.one_mul])
    (A 0 - p).toNat 2000 0 p (by omega) (by omega) (by omega)]
  congr 2
  rw [Int.zero_add, ZS_two (A := A) (fun _ => 1) (fun _ => 1) deF (fun k => plF (k + 1))]
  refine ZS_congr v (fun x y x0 xy y1 => ?_)
  obtain ⟨p', rfl⟩ := nat_of h0
  obtain ⟨x', rfl⟩ := nat_of x0
  obtain ⟨y', rfl⟩ := nat_of (show 0 ≤ y by omega)
  obtain ⟨L', hL'⟩ := nat_of (show 0 ≤ A 0 by omega)
  rw [hL', show ((L' : Int) - (p' : Int)).toNat = L' - p' by omega]
  exact d_behind p' (by omega) L' (by omega) (by omega) x' (by omega) y' (by omega) (by omega) (by omega)
theorem spanShear_eq {m : Mem} {A : Int → Int} (v : VA A) (hn : 2 ≤ A 1) (h : SF m A) (o : OV m A) {k : Int} (h0 : 0 ≤ k) (h1 : k + 1 < A 1) : Sta_shearOfSpan k m = some (shB A k) := by
  have a1 := VA_at v h0 (by omega)
  have a2 := VA_at v (k := k + 1) (by omega) h1
  have a3 := VA_lt v h0 h1
  have s := sp_pos v h0 h1
  have q := QQ_mul v hn h0 h1
  obtain ⟨B1, B2, B3, B4⟩ := bnd v hn
  have := v.1
  have := v.2.1
  have hp : m 112 k = aT A k := (h.1.2.2 k (by omega) (by omega)).1
  have hs : spA A k = aT A (k + 1) - aT A k := rfl
  unfold Sta_shearOfSpan
  rw [span_eq v h.1 h0 h1, ob_some, jn_id]
  rw [loopA (fun n a i => Sta_shearOfSpan_L12 k m (spA A k) _ n a i) (spA A k) (fun s => (2 * (spA A k - s) - 1) * ZS A (deF (aT A k + s)) + (if s = 0 then 0 else 2 * (spA A k - s)) * ZS A (plF (aT A k + s))) _
    (fun n a => by
      show Sta_shearOfSpan_L12 k m (spA A k) _ (n + 1) a (spA A k) = _
      rw [Sta_shearOfSpan_L12, s32_id (by omega) (by omega), if_pos (by omega)]) 0
    (fun n a i g0 g1 => by
      show Sta_shearOfSpan_L12 k m (spA A k) _ (n + 1) a i = Sta_shearOfSpan_L12 k m (spA A k) _ n (a + _) (i + 1)
      rw [Sta_shearOfSpan_L12]
      simp (disch := omega) only [s32_id, s64_id, ck_id, lt_id, jn_id]
      rw [if_neg (by omega), hp, (h.2 (aT A k + i) (by omega) (by omega)).1, (h.2 (aT A k + i) (by omega) (by omega)).2]
      by_cases c : i = 0
      · rw [if_neg (fun z => z c), if_pos c]; congr 1; grind
      · rw [if_pos c, if_neg c]; congr 1; grind)
    (spA A k).toNat 2000 0 0 (by omega) (by omega) (by omega)]
  have e : 0 + isum (fun s => (2 * (spA A k - s) - 1) * ZS A (deF (aT A k + s)) + (if s = 0 then 0 else 2 * (spA A k - s)) * ZS A (plF (aT A k + s))) 0 (spA A k).toNat = ZS A (brF (aT A k) (aT A (k + 1)) 0) := by
    rw [Int.zero_add, ZS_two (A := A) (fun s => 2 * (spA A k - s) - 1) (fun s => if s = 0 then 0 else 2 * (spA A k - s)) (fun s => deF (aT A k + s)) (fun s => plF (aT A k + s))]
    refine ZS_congr v (fun x y x0 xy y1 => ?_)
    rw [hs]
    generalize aT A (k + 1) = b at *
    generalize aT A k = a at *
    obtain ⟨a', rfl⟩ := nat_of a1.1
    obtain ⟨b', rfl⟩ := nat_of a2.1
    obtain ⟨x', rfl⟩ := nat_of x0
    obtain ⟨y', rfl⟩ := nat_of (show 0 ≤ y by omega)
    rw [show ((b' : Int) - (a' : Int)).toNat = b' - a' by omega]
    exact d_span a' (by omega) b' (by omega) (by omega) x' (by omega) y' (by omega) (by omega)
  rw [e]
  simp (disch := omega) only [ck_id, s32_id]
  have z1 := B3 (k + 1) (by omega) h1
  have z2 := B3 k h0 (by omega)
  unfold ab at z1 z2
  rw [o.2.2 (k + 1) (by omega) h1, o.2.2 k h0 (by omega), o.2.1, divide_eq ⟨by omega, by omega⟩ ⟨by omega, by omega⟩ (by omega), ob_some, divide_eq ⟨by omega, by omega⟩ ⟨by omega, by omega⟩ (by omega), ob_some]
  congr 1
  have u1 : (ooA A (k + 1) * PP A - ooA A k * PP A).tdiv (spA A k) = (ooA A (k + 1) - ooA A k) * QQ A k := by
    rw [show ooA A (k + 1) * PP A - ooA A k * PP A = ((ooA A (k + 1) - ooA A k) * QQ A k) * spA A k by rw [← q]; grind]
    exact Int.mul_tdiv_cancel _ (by omega)
  have u2 : (DD A).tdiv (2 * spA A k) = 2 * PP A * QQ A k * crA A := by
    have hD : DD A = (2 * PP A * QQ A k * crA A) * (2 * spA A k) := by
      unfold DD
      rw [← q]
      grind
    rw [hD]
    exact Int.mul_tdiv_cancel _ (by omega)
  rw [u1, u2]
  rfl
def SS (A : Int → Int) (k : Int) : Int := if k = A 1 - 1 then ZS A (bsF (aT A k) 0) * DD A else shB A k
def TT (A : Int → Int) (k : Int) : Int := SS A k + DD A * (ZS A (bsF (aT A k) 1) + ZS A (plF (aT A k)))
def T0 (A : Int → Int) (k : Int) : Int := if k = 0 then 0 else TT A (k - 1)
def UU (A : Int → Int) (k : Int) : Int := TT A k - T0 A k
def CT (A : Int → Int) (x : Int) : Int := isum (fun k => if x < aT A k then 0 else UU A k) 0 (A 1).toNat - DD A * (ZS A (plF x) + ZS A (bsF x 1))
def MB (A : Int → Int) (a b : Int) : Int := isum (fun k => if a - b * aT A k ≤ 0 then 0 else ((2 * b) * (a - b * aT A k)) * UU A k) 0 (A 1).toNat - DD A * ZS A (mF a b)
theorem tele (A : Int → Int) : ∀ d : Nat, isum (UU A) 0 d = T0 A d := by
  intro d
  induction d with
  | zero => rfl
  | succ d ih =>
    rw [isum_last, ih, Int.zero_add]
    unfold UU
    rw [show T0 A ((d + 1 : Nat) : Int) = TT A d by unfold T0; rw [if_neg (by omega)]; congr 1; omega]
    omega
theorem CT_eq {A : Int → Int} {x k : Int} (h0 : 0 ≤ k) (h1 : k ≤ A 1) (hk : ∀ j, 0 ≤ j → j < k → aT A j ≤ x) (hk2 : ∀ j, k ≤ j → j < A 1 → x < aT A j) : CT A x = T0 A k - DD A * (ZS A (plF x) + ZS A (bsF x 1)) := by
  unfold CT
  congr 1
  rw [show (A 1).toNat = k.toNat + (A 1 - k).toNat by omega, isum_split, isum_congr (h := UU A) k.toNat 0 (fun j j0 j1 => if_neg (by have := hk j j0 (by omega); omega)), tele, isum_congr (h := fun _ => 0) (A 1 - k).toNat _ (fun j j0 j1 => if_pos (hk2 j (by omega) (by omega))), isum_zero, show ((k.toNat : Nat) : Int) = k by omega]
  omega
theorem bs_next {A : Int → Int} (v : VA A) {x : Int} (h0 : 0 ≤ x) (h1 : x ≤ A 0) : ZS A (bsF (x + 1) 1) = ZS A (bsF x 1) + ZS A (plF x) + ZS A (deF x) := by
  have := v.1
  rw [← ZS_add, ← ZS_add]
  refine ZS_congr v (fun y z y0 yz z1 => ?_)
  obtain ⟨x', rfl⟩ := nat_of h0
  obtain ⟨y', rfl⟩ := nat_of y0
  obtain ⟨z', rfl⟩ := nat_of (show 0 ≤ z by omega)
  exact (d_ahead x' (by omega) y' (by omega) z' (by omega) (by omega)).1
theorem bs_zero {A : Int → Int} (v : VA A) : ZS A (bsF 0 1) = 0 := by
  have := v.1
  refine (ZS_congr v (g := fun _ _ => 0) (fun y z y0 yz z1 => ?_)).trans (ZS_zero A)
  obtain ⟨y', rfl⟩ := nat_of y0
  obtain ⟨z', rfl⟩ := nat_of (show 0 ≤ z by omega)
  exact (d_ahead 0 (by omega) y' (by omega) z' (by omega) (by omega)).2.1
theorem mf_next {A : Int → Int} (v : VA A) {x : Int} (h0 : 0 ≤ x) (h1 : x ≤ A 0) : ZS A (mF (x + 1) 1) = ZS A (mF x 1) + 2 * (ZS A (plF x) + ZS A (bsF x 1)) + ZS A (deF x) := by
  have := v.1
  rw [← ZS_add, ← ZS_mul, ← ZS_add, ← ZS_add]
  refine ZS_congr v (fun y z y0 yz z1 => ?_)
  obtain ⟨x', rfl⟩ := nat_of h0
  obtain ⟨y', rfl⟩ := nat_of y0
  obtain ⟨z', rfl⟩ := nat_of (show 0 ≤ z by omega)
  exact (d_ahead x' (by omega) y' (by omega) z' (by omega) (by omega)).2.2.1
theorem mf_zero {A : Int → Int} (v : VA A) : ZS A (mF 0 1) = 0 := by
  have := v.1
  refine (ZS_congr v (g := fun _ _ => 0) (fun y z y0 yz z1 => ?_)).trans (ZS_zero A)
  obtain ⟨y', rfl⟩ := nat_of y0
  obtain ⟨z', rfl⟩ := nat_of (show 0 ≤ z by omega)
  exact (d_ahead 0 (by omega) y' (by omega) z' (by omega) (by omega)).2.2.2
theorem MB_next {A : Int → Int} (v : VA A) {x : Int} (h0 : 0 ≤ x) (h1 : x ≤ A 0) : MB A (x + 1) 1 = MB A x 1 + 2 * CT A x - DD A * ZS A (deF x) := by
  unfold MB CT
  rw [mf_next v h0 h1]
  have e : isum (fun k => if x + 1 - 1 * aT A k ≤ 0 then 0 else ((2 * 1) * (x + 1 - 1 * aT A k)) * UU A k) 0 (A 1).toNat = isum (fun k => if x - 1 * aT A k ≤ 0 then 0 else ((2 * 1) * (x - 1 * aT A k)) * UU A k) 0 (A 1).toNat + 2 * isum (fun k => if x < aT A k then 0 else UU A k) 0 (A 1).toNat := by
    rw [← isum_cmul, ← isum_add]
    refine isum_congr _ _ (fun j j0 j1 => ?_)
    by_cases c : x < aT A j
    · rw [if_pos c, if_pos (by omega), if_pos (by omega)]; rfl
    · rw [if_neg c]
      by_cases d : x - 1 * aT A j ≤ 0
      · rw [if_pos d, if_neg (by omega), show x + 1 - 1 * aT A j = 1 by omega]; omega
      · rw [if_neg d, if_neg (by omega)]; grind
  rw [e]
  grind
theorem MB_zero {A : Int → Int} (v : VA A) : MB A 0 1 = 0 := by
  unfold MB
  rw [mf_zero v, isum_congr (h := fun _ => 0) _ _ (fun j j0 j1 => if_pos (by have := VA_at v (k := j) j0 (by omega); omega)), isum_zero]
  omega
