/-! the bounds, by the number of supports -/
def Bnd (A : Int → Int) : Prop := (0 < DD A ∧ DD A ≤ 1100000) ∧ (0 < crA A) ∧ (∀ k, 0 ≤ k → k < A 1 → ab (ooA A k * PP A) 400000000) ∧ (∀ k, 0 ≤ k → k + 1 < A 1 → ab (shB A k) 400000000)
theorem cancel_r {a b c : Int} (hc : 0 < c) (h : a * c = b * c) : a = b := Int.eq_of_mul_eq_mul_right (by omega) h
theorem DD_bnd {A : Int → Int} {W B : Int} (hp : 0 < PP A) (gc : 0 < crA A ∧ crA A ≤ W) (h : 4 * PP A * PP A * W ≤ B) : 0 < DD A ∧ DD A ≤ B := by
  have p : 0 < 4 * PP A * PP A := pos2 (by omega) hp
  unfold DD
  refine ⟨pos2 p gc.1, ?_⟩
  have := Int.mul_le_mul_of_nonneg_left gc.2 (show 0 ≤ 4 * PP A * PP A by omega)
  omega
theorem bnd4 {A : Int → Int} (v : VA A) (h : A 1 = 4) : Bnd A := by
  have hn : 2 ≤ A 1 := by omega
  have s0 := sp_pos v (k := 0) (by omega) (by omega)
  have s1 := sp_pos v (k := 1) (by omega) (by omega)
  have s2 := sp_pos v (k := 2) (by omega) (by omega)
  have z0 : spA A 0 = aT A 1 - aT A 0 := rfl
  have z1 : spA A 1 = aT A 2 - aT A 1 := rfl
  have z2 : spA A 2 = aT A 3 - aT A 2 := rfl
  have y0 := VA_at v (k := 0) (by omega) (by omega)
  have y3 := VA_at v (k := 3) (by omega) (by omega)
  have hl := v.1
  have hP : PP A = spA A 0 * spA A 1 * spA A 2 := by unfold PP; rw [if_neg (by omega), if_neg (by omega)]
  have q0 : QQ A 0 = spA A 1 * spA A 2 := cancel_r s0.1 (by rw [QQ_mul v hn (by omega) (by omega), hP]; grind)
  have q1 : QQ A 1 = spA A 0 * spA A 2 := cancel_r s1.1 (by rw [QQ_mul v hn (by omega) (by omega), hP]; grind)
  have q2 : QQ A 2 = spA A 0 * spA A 1 := cancel_r s2.1 (by rw [QQ_mul v hn (by omega) (by omega), hP])
  obtain ⟨e, he⟩ := nat_of (x := A 0 - spA A 0 - spA A 1 - spA A 2) (by omega)
  have E := ends_ab v hn (e := (e : Int)) (by omega) (by rw [h, show (4 : Int) - 1 = 3 from rfl]; omega)
  have L1 := leA_ab v hn (k := 1) (by omega) (by omega)
  have L2 := leA_ab v hn (k := 2) (by omega) (by omega)
  have pp := PP_pos v hn
  rw [show (1 : Int) - 1 = 0 from rfl, q0, q1] at L1
  rw [show (2 : Int) - 1 = 1 from rfl, q1, q2] at L2
  rw [hP] at E
  obtain ⟨a, ha⟩ := nat_of (show 0 ≤ spA A 0 by omega)
  obtain ⟨b, hb⟩ := nat_of (show 0 ≤ spA A 1 by omega)
  obtain ⟨c, hc⟩ := nat_of (show 0 ≤ spA A 2 by omega)
  rw [ha, hb, hc] at E hP
  rw [ha, hb, hc] at L1
  rw [ha, hb, hc] at L2
  rw [hb, hc] at q0
  rw [ha, hc] at q1
  rw [ha, hb] at q2
  have D := d_four a (by omega) b (by omega) c (by omega) e (by omega) (by omega) (by omega) (by omega) (by omega)
  obtain ⟨D1, ⟨D2, D3, D4⟩, D5, D6, D7⟩ := D
  have g1 : 0 < wA1 A ∧ wA1 A ≤ 2 * ((a : Int) + b) := by unfold wA1; rw [ha, hb]; split <;> omega
  have g2 : 0 < wA2 A ∧ wA2 A ≤ 2 * ((b : Int) + c) := by unfold wA2; rw [hb, hc]; split <;> omega
  have gb : 0 ≤ btA A ∧ btA A ≤ (b : Int) := by unfold btA; rw [hb]; (repeat' split) <;> omega
  have F1 : ab (tA1 A) (xT1 a b c e) := by
    have n1 : ab (-leA A 1 - spA A 0 * oF A - 0) (xT1 a b c e + 0) := by
      refine ab_sub (ab_sub (ab_neg L1) ?_) (ab_0 (by omega))
      rw [ha]; exact ab_mul' E.1 (by omega)
    rw [Int.add_zero] at n1
    unfold tA1
    by_cases c1 : hrI A 1 = 0
    · rw [if_pos c1]; exact ab_0 (ab_nn n1)
    · rw [if_neg c1, if_neg (by omega)]; exact n1
  have F2 : ab (tA2 A) (xT2 a b c e) := by
    have n1 : ab (-leA A 2 - spA A 2 * oL A) (xT2 a b c e) := by
      refine ab_sub (ab_neg L2) ?_
      rw [hc]; exact ab_mul' E.2 (by omega)
    unfold tA2
    by_cases c1 : hrI A 2 = 0
    · rw [if_pos c1]; exact ab_0 (ab_nn n1)
    · rw [if_neg c1]; exact n1
  have gc : 0 < crA A ∧ crA A ≤ (2 * ((a : Int) + b)) * (2 * (b + c)) := by
    have m1 := Int.mul_le_mul g1.2 g2.2 (by omega) (by omega)
    have m2 := pos2 g1.1 g2.1
    unfold crA
    have bb : 0 ≤ btA A * btA A := Int.mul_nonneg gb.1 gb.1
    refine ⟨?_, by omega⟩
    by_cases c1 : hrI A 1 = 0
    · have : btA A = 0 := by unfold btA; rw [if_pos c1]
      rw [this]; omega
    · by_cases c2 : hrI A 2 = 0
      · have : btA A = 0 := by unfold btA; rw [if_neg c1, if_pos c2]
        rw [this]; omega
      · have k1 : btA A = (b : Int) := by unfold btA; rw [if_neg c1, if_neg c2, hb]
        have k2 : wA1 A = 2 * ((a : Int) + b) := by unfold wA1; rw [if_neg c1, ha, hb]
        have k3 : wA2 A = 2 * ((b : Int) + c) := by unfold wA2; rw [if_neg c2, hb, hc]
        rw [k1, k2, k3]
        have p1 : 0 ≤ (a : Int) * b := Int.mul_nonneg (by omega) (by omega)
        have p2 : 0 ≤ (a : Int) * c := Int.mul_nonneg (by omega) (by omega)
        have p3 : 0 < (b : Int) * b := Int.mul_pos (by omega) (by omega)
        have p4 : 0 ≤ (b : Int) * c := Int.mul_nonneg (by omega) (by omega)
        have : (2 * ((a : Int) + b)) * (2 * (b + c)) - (b : Int) * b = 4 * ((a : Int) * b) + 4 * ((a : Int) * c) + 3 * ((b : Int) * b) + 4 * ((b : Int) * c) := by grind
        omega
  have R := fun (k : Int) (h0 : 0 ≤ k) (h1 : k < A 1) => rows_ab g1 g2 gc gb F1 F2 E.1 E.2 h0 h1 (by omega)
  have o0 : ab (ooA A 0) (xO a b c e 0) := by have := R 0 (by omega) (by omega); rw [if_pos (by omega)] at this; exact this
  have o1 : ab (ooA A 1) (xO a b c e 1) := by have := R 1 (by omega) (by omega); rw [if_neg (by omega), if_pos rfl] at this; exact this
  have o2 : ab (ooA A 2) (xO a b c e 2) := by have := R 2 (by omega) (by omega); rw [if_neg (by omega), if_neg (by omega)] at this; exact this
  have o3 : ab (ooA A 3) (xO a b c e 0) := by have := R 3 (by omega) (by omega); rw [if_pos (by omega)] at this; exact this
  refine ⟨DD_bnd pp gc (by rw [hP]; exact D1), gc.1, fun k k0 k1 => ?_, fun k k0 k1 => ?_⟩
  · rcases (show k = 0 ∨ k = 1 ∨ k = 2 ∨ k = 3 by omega) with rfl | rfl | rfl | rfl
    · exact ab_mono (ab_mul o0 (by omega)) (by rw [hP]; exact D2)
    · exact ab_mono (ab_mul o1 (by omega)) (by rw [hP]; exact D3)
    · exact ab_mono (ab_mul o2 (by omega)) (by rw [hP]; exact D4)
    · exact ab_mono (ab_mul o3 (by omega)) (by rw [hP]; exact D2)
  · rcases (show k = 0 ∨ k = 1 ∨ k = 2 by omega) with rfl | rfl | rfl
    · exact ab_mono (shB_ab v hn k0 k1 gc o0 o1) (by rw [hP, q0, ha]; exact D5)
    · exact ab_mono (shB_ab v hn k0 k1 gc o1 o2) (by rw [hP, q1, hb]; exact D6)
    · exact ab_mono (shB_ab v hn k0 k1 gc o2 o3) (by rw [hP, q2, hc]; exact D7)
theorem bnd3 {A : Int → Int} (v : VA A) (h : A 1 = 3) : Bnd A := by
  have hn : 2 ≤ A 1 := by omega
  have s0 := sp_pos v (k := 0) (by omega) (by omega)
  have s1 := sp_pos v (k := 1) (by omega) (by omega)
  have z0 : spA A 0 = aT A 1 - aT A 0 := rfl
  have z1 : spA A 1 = aT A 2 - aT A 1 := rfl
  have y0 := VA_at v (k := 0) (by omega) (by omega)
  have y3 := VA_at v (k := 2) (by omega) (by omega)
  have hl := v.1
  have hP : PP A = spA A 0 * spA A 1 := by unfold PP; rw [if_neg (by omega), if_pos h]
  have q0 : QQ A 0 = spA A 1 := cancel_r s0.1 (by rw [QQ_mul v hn (by omega) (by omega), hP]; grind)
  have q1 : QQ A 1 = spA A 0 := cancel_r s1.1 (by rw [QQ_mul v hn (by omega) (by omega), hP])
  obtain ⟨e, he⟩ := nat_of (x := A 0 - spA A 0 - spA A 1) (by omega)
  have E := ends_ab v hn (e := (e : Int)) (by omega) (by rw [h, show (3 : Int) - 1 = 2 from rfl]; omega)
  have L1 := leA_ab v hn (k := 1) (by omega) (by omega)
  have pp := PP_pos v hn
  rw [show (1 : Int) - 1 = 0 from rfl, q0, q1] at L1
  rw [hP] at E
  obtain ⟨a, ha⟩ := nat_of (show 0 ≤ spA A 0 by omega)
  obtain ⟨b, hb⟩ := nat_of (show 0 ≤ spA A 1 by omega)
  rw [ha, hb] at E hP
  rw [ha, hb] at L1
  rw [hb] at q0
  rw [ha] at q1
  have D := d_three a (by omega) b (by omega) e (by omega) (by omega) (by omega) (by omega)
  obtain ⟨D1, ⟨D2, D3⟩, D5, D6⟩ := D
  have h2 : hrI A 2 = 0 := by unfold hrI; rw [if_neg (by omega)]
  have k1 : wA2 A = 1 := by unfold wA2; rw [if_pos h2]
  have k2 : tA2 A = 0 := by unfold tA2; rw [if_pos h2]
  have k3 : btA A = 0 := by unfold btA; rw [h2]; split <;> rfl
  have g1 : 0 < wA1 A ∧ wA1 A ≤ 2 * ((a : Int) + b) := by unfold wA1; rw [ha, hb]; split <;> omega
  have F1 : ab (tA1 A) (yT a b e) := by
    have n1 : ab (-leA A 1 - spA A 0 * oF A - spA A 1 * oL A) (yT a b e) := by
      refine ab_sub (ab_sub (ab_neg L1) ?_) ?_
      · rw [ha]; exact ab_mul' E.1 (by omega)
      · rw [hb]; exact ab_mul' E.2 (by omega)
    unfold tA1
    by_cases c1 : hrI A 1 = 0
    · rw [if_pos c1]; exact ab_0 (ab_nn n1)
    · rw [if_neg c1, if_pos h]; exact n1
  have hcr : crA A = wA1 A := by unfold crA; rw [k1, k3]; omega
  have gc : 0 < crA A ∧ crA A ≤ 2 * ((a : Int) + b) := by rw [hcr]; exact g1
  have O0 : ab (oF A * crA A) (2 * ((a : Int) + b) * xF (a * b) e) := by rw [Int.mul_comm (oF A)]; exact ab_mul2 E.1 (by omega) gc.2
  have O2 : ab (oL A * crA A) (2 * ((a : Int) + b) * xF (a * b) e) := by rw [Int.mul_comm (oL A)]; exact ab_mul2 E.2 (by omega) gc.2
  have o0 : ab (ooA A 0) (2 * ((a : Int) + b) * xF (a * b) e) := by unfold ooA; rw [if_neg (by omega), if_pos rfl]; exact O0
  have o2 : ab (ooA A 2) (2 * ((a : Int) + b) * xF (a * b) e) := by unfold ooA; rw [if_pos (by omega)]; exact O2
  have o1 : ab (ooA A 1) (yT a b e) := by
    unfold ooA; rw [if_neg (by omega), if_neg (by omega), if_pos rfl, k1, k3, Int.one_mul, Int.zero_mul, Int.sub_zero]; exact F1
  refine ⟨DD_bnd pp gc (by rw [hP]; exact D1), gc.1, fun k k0 k1 => ?_, fun k k0 k1 => ?_⟩
  · rcases (show k = 0 ∨ k = 1 ∨ k = 2 by omega) with rfl | rfl | rfl
    · exact ab_mono (ab_mul o0 (by omega)) (by rw [hP]; exact D2)
    · exact ab_mono (ab_mul o1 (by omega)) (by rw [hP]; exact D3)
    · exact ab_mono (ab_mul o2 (by omega)) (by rw [hP]; exact D2)
  · rcases (show k = 0 ∨ k = 1 by omega) with rfl | rfl
    · exact ab_mono (shB_ab v hn k0 k1 gc o0 o1) (by rw [hP, q0, ha]; exact D5)
    · exact ab_mono (shB_ab v hn k0 k1 gc o1 o2) (by rw [hP, q1, hb]; exact D6)
theorem bnd2 {A : Int → Int} (v : VA A) (h : A 1 = 2) : Bnd A := by
  have hn : 2 ≤ A 1 := by omega
  have s0 := sp_pos v (k := 0) (by omega) (by omega)
  have z0 : spA A 0 = aT A 1 - aT A 0 := rfl
  have y0 := VA_at v (k := 0) (by omega) (by omega)
  have y3 := VA_at v (k := 1) (by omega) (by omega)
  have hl := v.1
  have hP : PP A = spA A 0 := by unfold PP; rw [if_pos h]
  have q0 : QQ A 0 = 1 := cancel_r s0.1 (by rw [QQ_mul v hn (by omega) (by omega), hP, Int.one_mul])
  obtain ⟨e, he⟩ := nat_of (x := A 0 - spA A 0) (by omega)
  have E := ends_ab v hn (e := (e : Int)) (by omega) (by rw [h, show (2 : Int) - 1 = 1 from rfl]; omega)
  have pp := PP_pos v hn
  rw [hP] at E
  obtain ⟨a, ha⟩ := nat_of (show 0 ≤ spA A 0 by omega)
  rw [ha] at E hP
  have D := d_two a (by omega) e (by omega) (by omega) (by omega)
  obtain ⟨D1, D2, D5⟩ := D
  have h1 : hrI A 1 = 0 := by unfold hrI; rw [if_neg (by omega)]
  have h2 : hrI A 2 = 0 := by unfold hrI; rw [if_neg (by omega)]
  have k1 : wA2 A = 1 := by unfold wA2; rw [if_pos h2]
  have k2 : wA1 A = 1 := by unfold wA1; rw [if_pos h1]
  have k3 : btA A = 0 := by unfold btA; rw [if_pos h1]
  have hcr : crA A = 1 := by unfold crA; rw [k1, k2, k3]; rfl
  have o0 : ab (ooA A 0) (xF a e) := by unfold ooA; rw [if_neg (by omega), if_pos rfl, hcr, Int.mul_one]; exact E.1
  have o1 : ab (ooA A 1) (xF a e) := by unfold ooA; rw [if_pos (by omega), hcr, Int.mul_one]; exact E.2
  have gc : 0 < crA A ∧ crA A ≤ 1 := by omega
  refine ⟨DD_bnd pp gc (by rw [hP]; exact D1), gc.1, fun k k0 k1 => ?_, fun k k0 k1 => ?_⟩
  · rcases (show k = 0 ∨ k = 1 by omega) with rfl | rfl
    · exact ab_mono (ab_mul o0 (by omega)) (by rw [hP]; exact D2)
    · exact ab_mono (ab_mul o1 (by omega)) (by rw [hP]; exact D2)
  · rcases (show k = 0 by omega) with rfl
    exact ab_mono (shB_ab v hn k0 k1 gc o0 o1) (by rw [hP, q0, ha]; exact D5)
theorem bnd {A : Int → Int} (v : VA A) (hn : 2 ≤ A 1) : Bnd A := by
  rcases VA_n v hn with h | h | h
  · exact bnd2 v h
  · exact bnd3 v h
  · exact bnd4 v h
