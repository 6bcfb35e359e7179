/-! moment at a by b -/
theorem mF_split {k r b x y : Int} (hr : 0 ≤ r ∧ r < b) (hxy : x ≤ y) : mF (k * b + r) b x y = (b * b) * mF k 1 x y + (2 * b * r) * (plF k x y + bsF k 1 x y) + (r * r) * deF k x y := by
  have e1 : k * b + r - b * x = b * (k - x) + r := by grind
  have e2 : k * b + r - b * y = b * (k - y) + r := by grind
  unfold mF plF bsF deF moreI lessI
  rw [e1, e2, Int.one_mul, Int.one_mul]
  by_cases c : k < x
  · have n : b * (k - x) ≤ b * (-1) := Int.mul_le_mul_of_nonneg_left (by omega) (by omega)
    rw [if_pos (show b * (k - x) + r ≤ 0 by omega), if_pos (show k - x ≤ 0 by omega), if_neg (show ¬ x ≤ k by omega)]
    by_cases d : x < y
    · rw [if_neg (show ¬ x = y by omega), if_pos d, if_neg (by decide), if_pos (show k ≤ y by omega), if_neg (show ¬ 0 ≤ k - x by omega), if_neg (show ¬ x ≤ k by omega)]
      omega
    · rw [if_pos (show x = y by omega), if_neg (show ¬ x = k by omega), if_neg d, if_neg (by decide), if_pos (show k ≤ x by omega), if_neg (show ¬ x ≤ k by omega)]
      omega
  · rw [if_pos (show x ≤ k by omega)]
    by_cases d : x < y
    · rw [if_neg (show ¬ x = y by omega), if_pos d, if_pos d, if_pos d, if_neg (show ¬ (1 : Int) = 0 by decide)]
      by_cases e : k < y
      · have n : b * (k - y) ≤ b * (-1) := Int.mul_le_mul_of_nonneg_left (by omega) (by omega)
        rw [if_pos e, if_pos (show b * (k - y) + r ≤ 0 by omega), if_pos (show k - y ≤ 0 by omega), if_pos (show k ≤ y by omega), if_pos (show 0 ≤ k - x by omega)]
        by_cases f : k = x
        · rw [f, Int.sub_self, Int.mul_zero, if_pos (Int.le_refl 0)]
          by_cases g : 0 + r ≤ 0
          · have : r = 0 := by omega
            rw [if_pos g, this]; omega
          · rw [if_neg g]; grind
        · have n2 : b * 1 ≤ b * (k - x) := Int.mul_le_mul_of_nonneg_left (by omega) (by omega)
          rw [if_neg (show ¬ b * (k - x) + r ≤ 0 by omega), if_neg (show ¬ k - x ≤ 0 by omega)]
          clear e1 e2 n n2
          grind
      · have n2 : b * 1 ≤ b * (k - x) := Int.mul_le_mul_of_nonneg_left (by omega) (by omega)
        have n3 : 0 ≤ b * (k - y) := Int.mul_nonneg (by omega) (by omega)
        rw [if_neg e, if_neg (show ¬ b * (k - x) + r ≤ 0 by omega), if_neg (show ¬ k - x ≤ 0 by omega)]
        by_cases g : k = y
        · rw [g, Int.sub_self, Int.mul_zero, if_pos (Int.le_refl 0), if_pos (Int.le_refl y), if_pos (show 0 ≤ y - x by omega)]
          by_cases f : 0 + r ≤ 0
          · have : r = 0 := by omega
            rw [if_pos f, this]; grind
          · rw [if_neg f]; grind
        · rw [if_neg (show ¬ k ≤ y by omega), if_pos (show 0 ≤ y - x by omega), if_neg (show ¬ k - y ≤ 0 by omega)]
          have n4 : b * 1 ≤ b * (k - y) := Int.mul_le_mul_of_nonneg_left (by omega) (by omega)
          rw [if_neg (show ¬ b * (k - y) + r ≤ 0 by omega)]
          clear e1 e2 n2 n3 n4
          grind
    · rw [if_pos (show x = y by omega), if_neg d, if_neg d, if_neg d, if_neg (show ¬ (1 : Int) = 0 by decide), if_neg (show ¬ k < y by omega)]
      by_cases f : k = x
      · rw [f, Int.sub_self, Int.mul_zero, if_pos (Int.le_refl 0), if_pos rfl, if_pos (Int.le_refl x)]
        by_cases g : 0 + r ≤ 0
        · have : r = 0 := by omega
          rw [if_pos g, this]; omega
        · rw [if_neg g]; grind
      · have n2 : b * 1 ≤ b * (k - x) := Int.mul_le_mul_of_nonneg_left (by omega) (by omega)
        rw [if_neg (show ¬ b * (k - x) + r ≤ 0 by omega), if_neg (show ¬ k - x ≤ 0 by omega), if_neg (show ¬ x = k by omega), if_neg (show ¬ k ≤ x by omega)]
        clear e1 e2 n2
        grind
theorem MB_split {A : Int → Int} (v : VA A) {k r b : Int} (hr : 0 ≤ r ∧ r < b) : MB A (k * b + r) b = (b * b) * MB A k 1 + (2 * b * r) * CT A k - (r * r) * ZS A (deF k) * DD A := by
  have e1 : isum (fun j => if k * b + r - b * aT A j ≤ 0 then 0 else ((2 * b) * (k * b + r - b * aT A j)) * UU A j) 0 (A 1).toNat = (b * b) * isum (fun j => if k - 1 * aT A j ≤ 0 then 0 else ((2 * 1) * (k - 1 * aT A j)) * UU A j) 0 (A 1).toNat + (2 * b * r) * isum (fun j => if k < aT A j then 0 else UU A j) 0 (A 1).toNat := by
    rw [← isum_cmul, ← isum_cmul, ← isum_add]
    refine isum_congr _ _ (fun j _ _ => ?_)
    generalize aT A j = t
    generalize UU A j = u
    have e : k * b + r - b * t = b * (k - t) + r := by grind
    rw [e, Int.one_mul]
    by_cases c : k < t
    · have n : b * (k - t) ≤ b * (-1) := Int.mul_le_mul_of_nonneg_left (by omega) (by omega)
      rw [if_pos (by omega), if_pos (by omega), if_pos c, Int.mul_zero, Int.mul_zero]; rfl
    · rw [if_neg c]
      by_cases d : k = t
      · rw [d, Int.sub_self, Int.mul_zero, if_pos (Int.le_refl 0)]
        by_cases g : 0 + r ≤ 0
        · have : r = 0 := by omega
          rw [if_pos g, this]; grind
        · rw [if_neg g]; grind
      · have n2 : b * 1 ≤ b * (k - t) := Int.mul_le_mul_of_nonneg_left (by omega) (by omega)
        rw [if_neg (by omega), if_neg (by omega)]
        clear e n2
        grind
  have e2 : ZS A (mF (k * b + r) b) = (b * b) * ZS A (mF k 1) + (2 * b * r) * (ZS A (plF k) + ZS A (bsF k 1)) + (r * r) * ZS A (deF k) := by
    rw [← ZS_add, ← ZS_mul, ← ZS_mul, ← ZS_mul, ← ZS_add, ← ZS_add]
    exact ZS_congr v (fun x y _ xy _ => mF_split hr xy)
  unfold MB CT
  rw [e1, e2]
  clear e1 e2
  grind
theorem MBab_b {A : Int → Int} (v : VA A) (hn : 2 ≤ A 1) {k r b : Int} (hk : 0 ≤ k ∧ k ≤ A 0) (hr : 0 ≤ r ∧ r < b) (hb : b ≤ 100) : ab (MB A (k * b + r) b) 1000000000000000 := by
  have l10 := v.1
  have B1 := (bnd v hn).1
  rw [MB_split v hr]
  have m := MB_ab' v hn hk.1 hk.2
  have c := CT_ab v hn (x := k) (by omega)
  have z := (ZS_pl v (p := k) (by omega)).2.2.2
  have b1 := mul_b (a := b) (b := b) (A := 100) (B := 100) ⟨by omega, hb⟩ ⟨by omega, hb⟩
  have b2 := mul_b (a := 2 * b) (b := r) (A := 200) (B := 100) ⟨by omega, by omega⟩ ⟨by omega, by omega⟩
  have b3 := mul_b (a := r) (b := r) (A := 100) (B := 100) ⟨by omega, by omega⟩ ⟨by omega, by omega⟩
  have p1 : 0 ≤ b * b := Int.mul_nonneg (by omega) (by omega)
  have p2 : 0 ≤ 2 * b * r := Int.mul_nonneg (by omega) (by omega)
  have p3 : 0 ≤ r * r := Int.mul_nonneg (by omega) (by omega)
  have y1 := ab_mul2 m p1 b1.2
  have y2 := ab_mul2 c p2 b2.2
  have y3 := ab_mul2 z p3 b3.2
  have y4 := ab_mul2 y3 (show 0 ≤ DD A by omega) B1.2
  rw [Int.mul_comm (DD A)] at y4
  exact ab_mono (ab_sub (ab_add y1 y2) y4) (by decide)
theorem bendBetween_eq {A : Int → Int} (v : VA A) (hn : 2 ≤ A 1) {m : Mem} (V : SV m A) {a b : Int} (hb : 1 ≤ b ∧ b ≤ 100) (ha : 0 ≤ a ∧ a ≤ b * A 0) : Sta_bendBetween a b m = some (mset (mset m 129 0 (nm (MB A a b) (((2 * b) * b) * DD A))) 129 1 (dn (MB A a b) (((2 * b) * b) * DD A))) ∧ ab (MB A a b) 1000000000000000 := by
  have l10 := v.1
  have B1 := (bnd v hn).1
  obtain ⟨S, hD, hP, hU, hC⟩ := V
  have bl := mul_b (a := b) (b := A 0) (A := 100) (B := 10) ⟨by omega, hb.2⟩ ⟨by omega, by omega⟩
  have q := Int.emod_add_mul_ediv a b
  have r0 := Int.emod_nonneg a (b := b) (by omega)
  have r1 := Int.emod_lt_of_pos a (b := b) (by omega)
  have k0 : 0 ≤ a / b := Int.ediv_nonneg ha.1 (by omega)
  have k1 : a / b ≤ A 0 := by
    by_cases c : a / b ≤ A 0
    · exact c
    · have := Int.mul_le_mul_of_nonneg_left (show A 0 + 1 ≤ a / b by omega) (show 0 ≤ b by omega)
      rw [Int.mul_add, Int.mul_one] at this
      omega
  have td : a.tdiv b = a / b := Int.tdiv_eq_ediv_of_nonneg ha.1
  unfold Sta_bendBetween
  rw [divide_eq ⟨by omega, by omega⟩ ⟨by omega, by omega⟩ (by omega), ob_some, td, S.1.1]
  have ea : a = (a / b) * b + a % b := by rw [Int.mul_comm]; omega
  have mb : ab (MB A ((a / b) * b + a % b) b) 1000000000000000 := MBab_b v hn ⟨k0, k1⟩ ⟨r0, r1⟩ hb.2
  have sp := MB_split v (A := A) (k := a / b) (r := a % b) (b := b) ⟨r0, r1⟩
  rw [← ea] at mb sp
  refine ⟨?_, mb⟩
  generalize a / b = k at *
  generalize a % b = r at *
  rw [s32_id (a := A 0) (by omega) (by omega), s64_id (a := A 0) (by omega) (by omega), s64_id (a := k) (by omega) (by omega), if_neg (by omega)]
  simp (disch := omega) only [lt_id, ck_id, s32_id]
  have er : a - k * b = r := by omega
  rw [er, (hC k k0 k1).1, hD, (S.2 k k0 (by omega)).2]
  have ex : ((2 * b) * b) * m 118 k + ((2 * b) * r) * CT A k - ((r * r) * ZS A (deF k)) * DD A = MB A a b := by
    have h2 := (hC k k0 k1).2
    rw [sp, ← h2]
    clear sp mb hU hC q ea bl
    grind
  rw [ex]
  have bb := mul_b (a := 2 * b) (b := b) (A := 200) (B := 100) ⟨by omega, by omega⟩ ⟨by omega, hb.2⟩
  have pb : 0 < 2 * b * b := pos2 (by omega) (by omega)
  have bd := mul_b (a := 2 * b * b) (b := DD A) (A := 20000) (B := 1100000) ⟨by omega, by omega⟩ ⟨by omega, B1.2⟩
  have pd := pos2 pb B1.1
  rw [become_pos (b62_le mb (by decide)) ⟨by omega, by omega⟩ pd, ob_some]
