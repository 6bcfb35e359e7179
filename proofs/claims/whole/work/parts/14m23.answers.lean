/-! bounds for forces, shear and bending; reaction, shear -/
theorem SS_ab {A : Int → Int} (v : VA A) (hn : 2 ≤ A 1) {k : Int} (h0 : 0 ≤ k) (h1 : k < A 1) : ab (SS A k) 600000000 := by
  obtain ⟨B1, B2, B3, B4⟩ := bnd v hn
  have t := VA_at v h0 h1
  have l10 := v.1
  unfold SS
  by_cases c : k = A 1 - 1
  · rw [if_pos c, Int.mul_comm]
    exact ab_mono (ab_mul2 (ZS_pl v (p := aT A k) (by omega)).2.2.1 (by omega) B1.2) (by decide)
  · rw [if_neg c]
    exact ab_mono (B4 k h0 (by omega)) (by decide)
theorem TT_ab {A : Int → Int} (v : VA A) (hn : 2 ≤ A 1) {k : Int} (h0 : 0 ≤ k) (h1 : k < A 1) : ab (TT A k) 1260000000 := by
  have B1 := (bnd v hn).1
  have t := VA_at v h0 h1
  have l10 := v.1
  have z := ZS_pl v (p := aT A k) (by omega)
  unfold TT
  exact ab_mono (ab_add (SS_ab v hn h0 h1) (ab_mul2 (ab_add z.2.1 z.1) (by omega) B1.2)) (by decide)
theorem UU_ab {A : Int → Int} (v : VA A) (hn : 2 ≤ A 1) {k : Int} (h0 : 0 ≤ k) (h1 : k < A 1) : ab (UU A k) 2520000000 := by
  unfold UU T0
  by_cases c : k = 0
  · rw [if_pos c]; exact ab_mono (ab_sub (TT_ab v hn h0 h1) (ab_0 (show (0 : Int) ≤ 0 by decide))) (by decide)
  · rw [if_neg c]; exact ab_mono (ab_sub (TT_ab v hn h0 h1) (TT_ab v hn (k := k - 1) (by omega) (by omega))) (by decide)
set_option maxRecDepth 100000 in
set_option maxHeartbeats 4000000 in
theorem d_bound4_c : (al 11 fun p => al 11 fun q => al 11 fun x => al 11 fun y => decide ((p ≤ q) → (x ≤ y) → (-10 ≤ bsF p 1 x y + plF p x y - bsF q 1 x y - plF q x y ∧ bsF p 1 x y + plF p x y - bsF q 1 x y - plF q x y ≤ 10 ∧ -10 ≤ bsF p 0 x y + bsF p 1 x y + plF p x y - bsF q 1 x y - plF q x y ∧ bsF p 0 x y + bsF p 1 x y + plF p x y - bsF q 1 x y - plF q x y ≤ 10))) = true := by decide +kernel
theorem d_bound4 {p q x y : Nat} (hp : p < 11) (hq : q < 11) (hx : x < 11) (hy : y < 11) (k1 : p ≤ q) (k2 : x ≤ y) : -10 ≤ bsF p 1 x y + plF p x y - bsF q 1 x y - plF q x y ∧ bsF p 1 x y + plF p x y - bsF q 1 x y - plF q x y ≤ 10 ∧ -10 ≤ bsF p 0 x y + bsF p 1 x y + plF p x y - bsF q 1 x y - plF q x y ∧ bsF p 0 x y + bsF p 1 x y + plF p x y - bsF q 1 x y - plF q x y ≤ 10 := of_decide_eq_true (al_spec (al_spec (al_spec (al_spec d_bound4_c _ hp) _ hq) _ hx) _ hy) k1 k2
theorem diff_ab {A : Int → Int} (v : VA A) {p q : Int} (hp : 0 ≤ p) (hpq : p ≤ q) (hq : q ≤ 10) : ab (ZS A (bsF p 1) + ZS A (plF p) - ZS A (bsF q 1) - ZS A (plF q)) 540 ∧ ab (ZS A (bsF p 0) + ZS A (bsF p 1) + ZS A (plF p) - ZS A (bsF q 1) - ZS A (plF q)) 540 := by
  obtain ⟨p', rfl⟩ := nat_of hp
  obtain ⟨q', rfl⟩ := nat_of (show 0 ≤ q by omega)
  have e1 : ZS A (bsF p' 1) + ZS A (plF p') - ZS A (bsF q' 1) - ZS A (plF q') = ZS A (fun x y => bsF p' 1 x y + plF p' x y + -1 * bsF q' 1 x y + -1 * plF q' x y) := by
    rw [ZS_add, ZS_add, ZS_add, ZS_mul, ZS_mul]; omega
  have e2 : ZS A (bsF p' 0) + ZS A (bsF p' 1) + ZS A (plF p') - ZS A (bsF q' 1) - ZS A (plF q') = ZS A (fun x y => bsF p' 0 x y + bsF p' 1 x y + plF p' x y + -1 * bsF q' 1 x y + -1 * plF q' x y) := by
    rw [ZS_add, ZS_add, ZS_add, ZS_add, ZS_mul, ZS_mul]; omega
  rw [e1, e2]
  refine ⟨ab_mono (ZS_ab v 10 (fun x y hx hy xy _ => ?_)) (by decide), ab_mono (ZS_ab v 10 (fun x y hx hy xy _ => ?_)) (by decide)⟩
  · have := d_bound4 (p := p') (q := q') (x := x) (y := y) (by omega) (by omega) hx hy (by omega) xy; omega
  · have := d_bound4 (p := p') (q := q') (x := x) (y := y) (by omega) (by omega) hx hy (by omega) xy; omega
theorem last_before {A : Int → Int} (v : VA A) (x : Int) : ∀ d : Nat, (d : Int) ≤ A 1 → ∃ k : Int, 0 ≤ k ∧ k ≤ (d : Int) ∧ (∀ j, 0 ≤ j → j < k → aT A j ≤ x) ∧ (∀ j, k ≤ j → j < (d : Int) → x < aT A j) := by
  intro d
  induction d with
  | zero => intro _; exact ⟨0, by omega, by omega, fun j j0 j1 => by omega, fun j j0 j1 => by omega⟩
  | succ d ih =>
    intro hd
    obtain ⟨k, k0, k1, k2, k3⟩ := ih (by omega)
    by_cases c : x < aT A (d : Int)
    · exact ⟨k, k0, by omega, k2, fun j j0 j1 => by
        by_cases e : j = (d : Int)
        · rw [e]; exact c
        · exact k3 j j0 (by omega)⟩
    · refine ⟨((d + 1 : Nat) : Int), by omega, by omega, fun j j0 j1 => ?_, fun j j0 j1 => by omega⟩
      by_cases e : j = (d : Int)
      · rw [e]; omega
      · have := VA_lt2 v (i := j) (j := (d : Int)) j0 (by omega) (by omega)
        omega
theorem CT_ab {A : Int → Int} (v : VA A) (hn : 2 ≤ A 1) {x : Int} (hx : 0 ≤ x ∧ x ≤ 10) : ab (CT A x) 1000000000 := by
  obtain ⟨B1, B2, B3, B4⟩ := bnd v hn
  have l10 := v.1
  obtain ⟨k, k0, k1, k2, k3⟩ := last_before v x (A 1).toNat (by have := v.2.1; omega)
  have zx := ZS_pl v hx
  rw [CT_eq (k := k) k0 (by have := v.2.1; omega) k2 (fun j j0 j1 => k3 j j0 (by omega))]
  unfold T0
  by_cases c : k = 0
  · rw [if_pos c]
    exact ab_mono (ab_sub (ab_0 (show (0 : Int) ≤ 0 by decide)) (ab_mul2 (ab_add zx.1 zx.2.1) (by omega) B1.2)) (by decide)
  · rw [if_neg c]
    have hk : k ≤ A 1 := by have := v.2.1; omega
    have t := VA_at v (k := k - 1) (by omega) (by omega)
    have tx := k2 (k - 1) (by omega) (by omega)
    have D := diff_ab v (p := aT A (k - 1)) (q := x) t.1 tx hx.2
    unfold TT SS
    by_cases e : k - 1 = A 1 - 1
    · rw [if_pos e]
      have h := ab_mul2 D.2 (b := DD A) (c := 1100000) (by omega) B1.2
      have q : ZS A (bsF (aT A (k - 1)) 0) * DD A + DD A * (ZS A (bsF (aT A (k - 1)) 1) + ZS A (plF (aT A (k - 1)))) - DD A * (ZS A (plF x) + ZS A (bsF x 1)) = DD A * (ZS A (bsF (aT A (k - 1)) 0) + ZS A (bsF (aT A (k - 1)) 1) + ZS A (plF (aT A (k - 1))) - ZS A (bsF x 1) - ZS A (plF x)) := by
        clear h D k2 k3 B3 B4 zx
        grind
      rw [q]
      exact ab_mono h (by decide)
    · rw [if_neg e]
      have h := ab_mul2 D.1 (b := DD A) (c := 1100000) (by omega) B1.2
      have q : shB A (k - 1) + DD A * (ZS A (bsF (aT A (k - 1)) 1) + ZS A (plF (aT A (k - 1)))) - DD A * (ZS A (plF x) + ZS A (bsF x 1)) = shB A (k - 1) + DD A * (ZS A (bsF (aT A (k - 1)) 1) + ZS A (plF (aT A (k - 1))) - ZS A (bsF x 1) - ZS A (plF x)) := by
        clear h D k2 k3 B3 B4 zx
        grind
      rw [q]
      exact ab_mono (ab_add (B4 (k - 1) (by omega) (by omega)) h) (by decide)
theorem MB_ab {A : Int → Int} (v : VA A) (hn : 2 ≤ A 1) : ∀ d : Nat, (d : Int) ≤ A 0 → ab (MB A (d : Int) 1) (2060000000 * d) := by
  have l10 := v.1
  have B1 := (bnd v hn).1
  intro d
  induction d with
  | zero => intro _; rw [show ((0 : Nat) : Int) = 0 from rfl, MB_zero v]; exact ab_0 (by decide)
  | succ d ih =>
    intro hd
    have i := ih (by omega)
    have c := CT_ab v hn (x := (d : Int)) (by omega)
    have z := (ZS_pl v (p := (d : Int)) (by omega)).2.2.2
    have h := ab_mul2 z (b := DD A) (c := 1100000) (by omega) B1.2
    rw [show ((d + 1 : Nat) : Int) = (d : Int) + 1 by omega, MB_next v (by omega) (by omega)]
    unfold ab at *
    omega
theorem MB_ab' {A : Int → Int} (v : VA A) (hn : 2 ≤ A 1) {x : Int} (h0 : 0 ≤ x) (h1 : x ≤ A 0) : ab (MB A x 1) 20600000000 := by
  have l10 := v.1
  have := MB_ab v hn x.toNat (by omega)
  rw [show ((x.toNat : Nat) : Int) = x by omega] at this
  exact ab_mono this (by omega)
theorem ab_div {w X o D B : Int} (ho : 0 < o ∧ o ≤ D) (h : w * D = X * o) (hX : ab X B) : ab w B := by
  have hB := ab_nn hX
  unfold ab at *
  have b1 : B * o ≤ B * D := Int.mul_le_mul_of_nonneg_left ho.2 hB
  have x1 : X * o ≤ B * o := Int.mul_le_mul_of_nonneg_right hX.2 (by omega)
  have x2 : -B * o ≤ X * o := Int.mul_le_mul_of_nonneg_right hX.1 (by omega)
  have nb : -B * o = -(B * o) := Int.neg_mul _ _
  constructor
  · by_cases c : -B ≤ w
    · exact c
    · have y := Int.mul_le_mul_of_nonneg_right (show w ≤ -B - 1 by omega) (show 0 ≤ D by omega)
      have e : (-B - 1) * D = -(B * D) - D := by rw [Int.sub_mul, Int.neg_mul, Int.one_mul]
      omega
  · by_cases c : w ≤ B
    · exact c
    · have y := Int.mul_le_mul_of_nonneg_right (show B + 1 ≤ w by omega) (show 0 ≤ D by omega)
      have e : (B + 1) * D = B * D + D := by rw [Int.add_mul, Int.one_mul]
      omega
theorem MV_one {A : Int → Int} (v : VA A) (hn : 2 ≤ A 1) {m : Mem} (V : MV m A) : 0 < m 149 13 ∧ m 149 13 ≤ DD A := ⟨V.2.1.1, Int.le_of_dvd (bnd v hn).1.1 V.2.1.2⟩
theorem mo_answer {A : Int → Int} (v : VA A) (hn : 2 ≤ A 1) {m : Mem} (V : MV m A) {w X B : Int} (hw : w * DD A = X * m 149 13) (hX : ab X B) (hB : B < 4611686018427387904) : ∃ m', Mo_is w (m 149 13) m = some m' ∧ frac m' X (DD A) ∧ fr56 m' m := by
  have o := MV_one v hn V
  have B1 := (bnd v hn).1
  exact is_frac (b62_le (ab_div o hw hX) hB) ⟨by omega, by omega⟩ o.1 B1.1 hw
theorem inLowest_eq {p q r : Int} {m : Mem} (hp : b62 p) (hq : b62 q) (h0 : 0 < q) (hr : r = 0 ∨ r = 1) : BP_inLowest p q r m = some (if r = 0 then nm p q else dn p q, mset (mset m 129 0 (nm p q)) 129 1 (dn p q)) := by
  unfold BP_inLowest Frac_told
  rw [become_pos hp hq h0, ob_some]
  rcases hr with rfl | rfl
  · rw [s32_0, if_0, ob_some]; simp [mset]
  · rw [s32_1, if_1, ob_some]; simp [mset]
theorem Rel_cls {mem m : Mem} (h : Rel mem) (hm : ∀ c i, (c < 111 ∨ 130 < c) ∨ ((c = 120 ∨ c = 123) ∧ i = 3) → m c i = mem c i) : Rel m := Rel_frame h (fun c i hk => hm c i (by unfold kept at hk; omega))
theorem Rel_mod {mem m : Mem} (h : Rel mem) (hm : ∀ c i, ¬ (c = 149 ∧ ¬ (i = 2 ∨ i = 4 ∨ i = 23 ∨ i = 32)) → ¬ (153 ≤ c ∧ c ≤ 160) → ¬ (165 ≤ c ∧ c ≤ 166) → m c i = mem c i) : Rel m := Rel_frame h (fun c i hk => hm c i (by unfold kept at hk; omega) (by unfold kept at hk; omega) (by unfold kept at hk; omega))
theorem Beam_stands_eq {a : Nat} {mem : Mem} (h : 0 ≤ mem a 1 ∧ mem a 1 ≤ 4) : Beam_stands a mem = some (if 2 ≤ mem a 1 then 1 else 0) := by
  unfold Beam_stands
  rw [s32_id (a := mem a 1) (by omega) (by omega), s32_id (a := 2) (by decide) (by decide)]
  by_cases c : 2 ≤ mem a 1
  · rw [if_pos c, if_neg (by omega)]
  · rw [if_neg c, if_pos (by omega)]
theorem Mo_stands_eq {mem : Mem} (h : 0 ≤ mem 150 1 ∧ mem 150 1 ≤ 4) : Mo_stands mem = some (if 2 ≤ mem 150 1 then 1 else 0) := by
  unfold Mo_stands
  rw [s32_id (a := mem 150 1) (by omega) (by omega), s32_1]
  by_cases c : 2 ≤ mem 150 1
  · rw [if_pos c, if_neg (by omega)]
  · rw [if_neg c, if_pos (by omega)]
theorem isPart_eq {p : Int} (hp : r32 p) (mem : Mem) : BP_isPart p mem = some (if p = 0 ∨ p = 1 then 1 else 0) := by
  unfold BP_isPart
  rw [s32_id hp.1 hp.2, s32_1]
  by_cases c : p = 0
  · rw [if_pos c, if_pos (Or.inl c)]
  · rw [if_neg c]
    by_cases d : p = 1
    · rw [if_neg (fun z => z d), if_pos (Or.inr d)]
    · rw [if_pos d, if_neg (by omega)]
theorem in_part {p : Int} (hp : r32 p) (mem : Mem) : Mo_in p 0 1 mem = some (if p = 0 ∨ p = 1 then 1 else 0) := by
  obtain ⟨h1, h2⟩ := hp
  rw [Mo_in_eq (by omega) (by omega) (by omega)]
  by_cases c : p = 0 ∨ p = 1
  · rw [if_pos c, if_pos (by omega)]
  · rw [if_neg c, if_neg (by omega)]
theorem RB_RBL {m : Mem} {A : Int → Int} (h : RB m 1 A) : RBL m A := ⟨h.2.2.1, h.2.2.2.2.2.1⟩
/-- cells that solving writes -/
def sfr (m' m : Mem) : Prop := ∀ c i, (c < 111 ∨ 126 < c ∨ (119 ≤ c ∧ c ≤ 125)) → m' c i = m c i
theorem asItIs_eq {mem : Mem} {A : Int → Int} (v : VA A) (hn : 2 ≤ A 1) (h : RB mem 1 A) : ∃ m', BP_solveAsItIs mem = some m' ∧ SV m' A ∧ sfr m' mem := by
  obtain ⟨m1, a1, a2, a3, a4⟩ := frame_eq v h
  have l : RBL m1 A := RB_RBL (RB_frame h (fun c i _ _ => a4 c i (by omega)))
  obtain ⟨m2, b1, b2, b3⟩ := bearLoads_eq v l a2 a3
  obtain ⟨m3, c1, c2, c3⟩ := solve_eq v hn b2
  unfold BP_solveAsItIs
  rw [a1, ob_some, b1, ob_some, c1, ob_some]
  exact ⟨m3, rfl, c2, fun c i hc => by rw [c3 c i (by omega) (by omega) (by omega) (by omega) (by omega), b3 c i (by omega) (by omega), a4 c i (by omega)]⟩
theorem NO_eq : s64 (-9223372036854775808) = s64 (-9223372036854775808) := rfl
