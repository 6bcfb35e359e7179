/-! the model's reactions, all -/
theorem ZS_pl {A : Int → Int} (v : VA A) {p : Int} (hp : 0 ≤ p ∧ p ≤ 10) : ab (ZS A (plF p)) 54 ∧ ab (ZS A (bsF p 1)) 540 ∧ ab (ZS A (bsF p 0)) 540 ∧ ab (ZS A (deF p)) 54 := by
  obtain ⟨p', rfl⟩ := nat_of hp.1
  refine ⟨ab_mono (ZS_ab v 1 (fun x y hx hy xy _ => ?_)) (by decide), ab_mono (ZS_ab v 10 (fun x y hx hy xy _ => ?_)) (by decide), ab_mono (ZS_ab v 10 (fun x y hx hy xy _ => ?_)) (by decide), ab_mono (ZS_ab v 1 (fun x y hx hy xy _ => ?_)) (by decide)⟩
  · have := d_bound2 p' (by omega) x hx y hy xy; omega
  · have := d_bound2 p' (by omega) x hx y hy xy; omega
  · have := d_bound2 p' (by omega) x hx y hy xy; omega
  · have := d_bound2 p' (by omega) x hx y hy xy; omega
theorem is_one {A : Int → Int} (v : VA A) (hn : 2 ≤ A 1) {c : Int} (hc : ab c 2000) (m : Mem) : ∃ m14, Mo_is c 1 m = some m14 ∧ frac m14 (DD A * c) (DD A) ∧ fr56 m14 m ∧ ab (DD A * c) 2200000000 := by
  have B := (bnd v hn).1
  obtain ⟨m14, a, b, d⟩ := is_frac (mem := m) (p := c) (q := 1) (X := DD A * c) (D := DD A) (b62_le hc (by decide)) ⟨by decide, by decide⟩ (by decide) B.1 (by grind)
  exact ⟨m14, a, b, d, ab_mono (ab_mul2 hc (by omega) B.2) (by decide)⟩
theorem side_ab {A : Int → Int} (v : VA A) (hn : 2 ≤ A 1) {j : Int} (h0 : 0 ≤ j) (h1 : j + 1 < A 1) : ab (hQ A j * ZS A (brF (aT A j) (aT A (j + 1)) 1)) 2970000000 ∧ (∀ e, 0 ≤ e ∧ e < A 1 → ab (ooA A e * QQ A j) 400000000) := by
  have a1 := VA_at v h0 (by omega)
  have a2 := VA_at v (k := j + 1) (by omega) h1
  have a3 := VA_lt v h0 h1
  have l10 := v.1
  have s := sp_pos v h0 h1
  have q := QQ_mul v hn h0 h1
  obtain ⟨B1, B2, B3, -⟩ := bnd v hn
  have hp := hQ_pos v hn h0 h1
  refine ⟨?_, ?_⟩
  · have z : ab (ZS A (brF (aT A j) (aT A (j + 1)) 1)) 5400 := ab_mono (ZS_ab v 100 (fun x y hx hy xy _ => brF_b a1.1 a3 (by omega) (Or.inr rfl) (by omega) (by omega) (by omega))) (by decide)
    exact ab_mono (ab_mul2 z (by omega) hp.2) (by decide)
  · intro e he
    have b := B3 e he.1 he.2
    rw [← q] at b
    have e2 : ooA A e * (QQ A j * spA A j) = (ooA A e * QQ A j) * spA A j := by grind
    rw [e2] at b
    generalize ooA A e * QQ A j = t at *
    unfold ab at *
    by_cases c : 0 ≤ t
    · have := Int.mul_le_mul_of_nonneg_left (show 1 ≤ spA A j by omega) c
      omega
    · have := Int.mul_le_mul_of_nonneg_left (show 1 ≤ spA A j by omega) (show 0 ≤ -t by omega)
      rw [Int.neg_mul, Int.neg_mul] at this
      omega
theorem UU_last {A : Int → Int} (v : VA A) (hn : 2 ≤ A 1) {k : Int} (h0 : 0 < k) (h1 : k = A 1 - 1) : UU A k = DD A * (ZS A (plF (aT A k)) + 0 + ZS A (bsF (aT A k) 0)) + hQ A (k - 1) * ZS A (brF (aT A (k - 1)) (aT A (k - 1 + 1)) 1) + (ooA A (k - 1) * QQ A (k - 1)) + -(ooA A k * QQ A (k - 1)) := by
  rw [UU_left v hn h0 (by omega)]
  unfold SS
  rw [if_pos h1]
  clear h1 v hn h0
  grind
theorem UU_mid {A : Int → Int} (v : VA A) (hn : 2 ≤ A 1) {k : Int} (h0 : 0 < k) (h1 : k + 1 < A 1) : UU A k = DD A * (ZS A (plF (aT A k)) + 0 + 0) + hQ A (k - 1) * ZS A (brF (aT A (k - 1)) (aT A (k - 1 + 1)) 1) + (ooA A (k - 1) * QQ A (k - 1)) + -(ooA A k * QQ A (k - 1)) + hQ A k * ZS A (brF (aT A k) (aT A (k + 1)) 0) + (ooA A (k + 1) * QQ A k) + -(ooA A k * QQ A k) := by
  rw [UU_left v hn h0 (by omega)]
  unfold SS
  rw [if_neg (by omega)]
  clear h1 v hn h0
  unfold shB hQ
  grind
theorem UU_first' {A : Int → Int} (hn : 2 ≤ A 1) {k : Int} (hk : k = 0) : UU A k = DD A * (ZS A (plF (aT A k)) + ZS A (bsF (aT A k) 1) + 0) + hQ A k * ZS A (brF (aT A k) (aT A (k + 1)) 0) + (ooA A (k + 1) * QQ A k) + -(ooA A k * QQ A k) := by
  subst hk
  exact UU_first hn
set_option maxHeartbeats 4000000 in
theorem react_step {A : Int → Int} (v : VA A) (hn : 2 ≤ A 1) {m m0 : Mem} {k : Int} (h0 : 0 ≤ k) (h1 : k < A 1) (I : FI A m0 k m) (K : Mem → Option Mem) (n : Nat) : ∃ m20, Mo_reactions_L18 (A 1) K (n + 1) k m = Mo_reactions_L18 (A 1) K n (k + 1) m20 ∧ FI A m0 (k + 1) m20 := by
  have n4 := v.2.1
  have l10 := v.1
  have at0 := VA_at v h0 h1
  have I' := I
  obtain ⟨I1, I2, I3, I4, I5⟩ := I'
  have zp := ZS_pl v (p := aT A k) (by omega)
  rw [Mo_reactions_L18, s32_id (a := A 1) (by omega) (by omega), s32_id (a := k) (by omega) (by omega), if_neg (by omega), ck_id (i := 2 + k) (by omega) (by omega) (by omega), s32_id (a := 2 + k) (by omega) (by omega), I1, show A (2 + k) = aT A k from rfl, lt_id, pointsAt_eq v I1 (by omega), ob_some, s32_id (a := A 1 - 1) (by omega) (by omega), s32_id (a := k + 1) (by omega) (by omega), s32_id (a := k - 1) (by omega) (by omega), beside_eq v I1 (by omega) (Or.inr rfl), beside_eq v I1 (by omega) (Or.inl rfl)]
  by_cases c0 : k = 0
  · have ek : aT A k + spA A k = aT A (k + 1) := by unfold spA; omega
    rw [jn_id, if_neg (fun z => z c0), ob_some]
    dsimp only
    rw [jn_id, if_pos (show ¬ k = A 1 - 1 by omega)]
    dsimp only
    obtain ⟨m14, f1, f2, f3, f4⟩ := is_one v hn (c := ZS A (plF (aT A k)) + ZS A (bsF (aT A k) 1) + 0) (by unfold ab at *; omega) m
    rw [f1, ob_some, jn_id, if_pos (show k ≤ 0 by omega)]
    dsimp only
    have hA14 := fr56_150 f3 I1
    have M14 : ∀ j, 0 ≤ j → j < A 1 → MK m14 A j := fun j j0 j1 => ⟨by rw [f3 _ _ (by omega)]; exact (I2 j j0 j1).1, by rw [f3 _ _ (by omega)]; exact (I2 j j0 j1).2⟩
    obtain ⟨m26, m27, m28, g1, g2, g3, g4, g5, g6, g7⟩ := side_eq v hn hA14 M14 (j := k) (r := 0) (e1 := k + 1) (e2 := k) h0 (by omega) (Or.inl rfl) (by omega) (by omega) (ab_mono f4 (by decide)) f2
    have s := sp_pos v h0 (show k + 1 < A 1 by omega)
    rw [jn_id, if_neg (show ¬ A 1 - 1 ≤ k by omega), spanOf_eq v hA14 h0 (by omega), ob_some, ek, g1, ob_some, ck_id (i := k + 1) (by omega) (by omega) (by omega), ck_id (i := k + 1) (by omega) (by omega) (by omega), s32_id (a := spA A k) (by omega) (by omega), g2, ob_some, ck_id (i := k) (by omega) (by omega) (by omega), ck_id (i := k) (by omega) (by omega) (by omega), g3, ob_some]
    dsimp only
    refine put_force v hn h0 h1 I ?_ (fun c i hc => by rw [g7 c i hc, f3 c i hc]) (fun m => Mo_reactions_L18 (A 1) K n (k + 1) m)
    rw [UU_first' hn c0]
    exact g4
  · have ek : aT A k - spA A (k - 1) = aT A (k - 1) := by unfold spA; rw [show k - 1 + 1 = k by omega]; omega
    have ek2 : aT A (k - 1 + 1) = aT A k := by rw [show k - 1 + 1 = k by omega]
    have s := sp_pos v (k := k - 1) (by omega) (by omega)
    rw [jn_id, if_pos c0]
    dsimp only
    by_cases c1 : k = A 1 - 1
    · rw [jn_id, if_neg (fun z => z c1), ob_some]
      dsimp only
      obtain ⟨m14, f1, f2, f3, f4⟩ := is_one v hn (c := ZS A (plF (aT A k)) + 0 + ZS A (bsF (aT A k) 0)) (by unfold ab at *; omega) m
      have hA14 := fr56_150 f3 I1
      have M14 : ∀ j, 0 ≤ j → j < A 1 → MK m14 A j := fun j j0 j1 => ⟨by rw [f3 _ _ (by omega)]; exact (I2 j j0 j1).1, by rw [f3 _ _ (by omega)]; exact (I2 j j0 j1).2⟩
      obtain ⟨m26, m27, m28, g1, g2, g3, g4, g5, g6, g7⟩ := side_eq v hn hA14 M14 (j := k - 1) (r := 1) (e1 := k - 1) (e2 := k) (by omega) (by omega) (Or.inr rfl) (by omega) (by omega) (ab_mono f4 (by decide)) f2
      rw [ek2] at g1
      rw [f1, ob_some, jn_id, if_neg (show ¬ k ≤ 0 by omega), spanOf_eq v hA14 (by omega) (by omega), ob_some, ek, g1, ob_some, ck_id (i := k - 1) (by omega) (by omega) (by omega), ck_id (i := k - 1) (by omega) (by omega) (by omega), s32_id (a := spA A (k - 1)) (by omega) (by omega), g2, ob_some, ck_id (i := k) (by omega) (by omega) (by omega), ck_id (i := k) (by omega) (by omega) (by omega), g3, ob_some]
      dsimp only
      rw [jn_id, if_pos (show A 1 - 1 ≤ k by omega)]
      dsimp only
      refine put_force v hn h0 h1 I ?_ (fun c i hc => by rw [g7 c i hc, f3 c i hc]) (fun m => Mo_reactions_L18 (A 1) K n (k + 1) m)
      rw [UU_last v hn (by omega) c1]
      exact g4
    · rw [jn_id, if_pos c1]
      dsimp only
      obtain ⟨m14, f1, f2, f3, f4⟩ := is_one v hn (c := ZS A (plF (aT A k)) + 0 + 0) (by unfold ab at *; omega) m
      have hA14 := fr56_150 f3 I1
      have M14 : ∀ j, 0 ≤ j → j < A 1 → MK m14 A j := fun j j0 j1 => ⟨by rw [f3 _ _ (by omega)]; exact (I2 j j0 j1).1, by rw [f3 _ _ (by omega)]; exact (I2 j j0 j1).2⟩
      obtain ⟨m26, m27, m28, g1, g2, g3, g4, g5, g6, g7⟩ := side_eq v hn hA14 M14 (j := k - 1) (r := 1) (e1 := k - 1) (e2 := k) (by omega) (by omega) (Or.inr rfl) (by omega) (by omega) (ab_mono f4 (by decide)) f2
      have ek3 : aT A k + spA A k = aT A (k + 1) := by unfold spA; omega
      have s2 := sp_pos v h0 (show k + 1 < A 1 by omega)
      have hA28 := fr56_150 g7 hA14
      have M28 : ∀ j, 0 ≤ j → j < A 1 → MK m28 A j := fun j j0 j1 => ⟨by rw [g7 _ _ (by omega)]; exact (M14 j j0 j1).1, by rw [g7 _ _ (by omega)]; exact (M14 j j0 j1).2⟩
      have xb : ab (DD A * (ZS A (plF (aT A k)) + 0 + 0) + hQ A (k - 1) * ZS A (brF (aT A (k - 1)) (aT A (k - 1 + 1)) 1) + (ooA A (k - 1) * QQ A (k - 1)) + -(ooA A k * QQ A (k - 1))) 10000000000 := by
        have t1 := side_ab v hn (j := k - 1) (by omega) (by omega)
        have z1 := t1.1
        have z2 := t1.2 (k - 1) (by omega)
        have z3 := t1.2 k (by omega)
        exact ab_mono (ab_add (ab_add (ab_add f4 z1) z2) (ab_neg z3)) (by decide)
      obtain ⟨n26, n27, n28, i1, i2, i3, i4, i5, i6, i7⟩ := side_eq v hn hA28 M28 (j := k) (r := 0) (e1 := k + 1) (e2 := k) h0 (by omega) (Or.inl rfl) (by omega) (by omega) xb g4
      rw [ek2] at g1
      rw [f1, ob_some, jn_id, if_neg (show ¬ k ≤ 0 by omega), spanOf_eq v hA14 (by omega) (by omega), ob_some, ek, g1, ob_some, ck_id (i := k - 1) (by omega) (by omega) (by omega), ck_id (i := k - 1) (by omega) (by omega) (by omega), s32_id (a := spA A (k - 1)) (by omega) (by omega), g2, ob_some, ck_id (i := k) (by omega) (by omega) (by omega), ck_id (i := k) (by omega) (by omega) (by omega), g3, ob_some]
      dsimp only
      rw [jn_id, if_neg (show ¬ A 1 - 1 ≤ k by omega), spanOf_eq v hA28 h0 (by omega), ob_some, ek3, i1, ob_some, ck_id (i := k + 1) (by omega) (by omega) (by omega), ck_id (i := k + 1) (by omega) (by omega) (by omega), s32_id (a := spA A k) (by omega) (by omega), i2, ob_some, ck_id (i := k) (by omega) (by omega) (by omega), ck_id (i := k) (by omega) (by omega) (by omega), i3, ob_some]
      dsimp only
      refine put_force v hn h0 h1 I ?_ (fun c i hc => by rw [i7 c i hc, g7 c i hc, f3 c i hc]) (fun m => Mo_reactions_L18 (A 1) K n (k + 1) m)
      rw [UU_mid v hn (by omega) (by omega)]
      exact i4
