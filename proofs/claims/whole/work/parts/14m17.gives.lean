/-! the model's moments over supports -/
def ov (A : Int → Int) (k : Int) : Int := ooA A k * PP A
def MK (m : Mem) (A : Int → Int) (k : Int) : Prop := m 153 k = nm (ov A k) (DD A) ∧ m 154 k = dn (ov A k) (DD A)
def tG (A : Int → Int) (k : Int) : Int := -leA A k - (if k = 1 then spA A (k - 1) * oF A else 0) - (if k + 1 = A 1 - 1 then spA A k * oL A else 0)
def RG (m : Mem) (A : Int → Int) (k : Int) : Prop := m 155 (k - 1) = nm (tG A k) (4 * PP A) ∧ m 156 (k - 1) = dn (tG A k) (4 * PP A)
theorem nm_ab {p q B : Int} (h : ab p B) : ab (nm p q) B := by
  unfold ab at *
  have := nm_b (p := p) (q := q) (B := B + 1) ⟨by omega, by omega⟩
  omega
theorem dn_b {p q : Int} (h : 0 < q) : 0 < dn p q ∧ dn p q ≤ q := ⟨dn_pos h, dn_le h⟩
theorem plus_std {p q X Z D : Int} {mem : Mem} (hf : frac mem X D) (hD : 0 < D ∧ D ≤ 1100000) (hq : 0 < q ∧ q ≤ 11000000) (hp : ab p 5000000000) (hX : ab X 20000000000) (h : p * D = Z * q) :
    ∃ m, Mo_plus p q mem = some m ∧ frac m (X + Z) D ∧ (∀ c i, ¬ (c = 149 ∧ (i = 5 ∨ i = 6)) → m c i = mem c i) := by
  have d := dn_b (p := X) hD.1
  have e := nm_ab (q := D) hX
  unfold ab at *
  refine plus_frac 20000000000 5000000000 1100000 11000000 hf hD.1 hq hp ?_ ?_ (by decide) (by decide) h
  · rw [hf.1]; omega
  · rw [hf.2]; omega
theorem end_Z {A : Int → Int} (hp : 0 < PP A) (hc : 0 < crA A) (hD : 0 < DD A) {e O c : Int} (he : ooA A e = O * crA A) : (c * nm (ov A e) (DD A)) * (4 * PP A) = (c * O) * dn (ov A e) (DD A) := by
  have x := cross_nd (ov A e) (DD A)
  generalize nm (ov A e) (DD A) = u at *
  generalize dn (ov A e) (DD A) = d at *
  unfold ov DD at x
  rw [he] at x
  refine cancel_r (pos2 hp hc) ?_
  grind
theorem QQ_le {A : Int → Int} (v : VA A) (hn : 2 ≤ A 1) {k : Int} (h0 : 0 ≤ k) (h1 : k + 1 < A 1) : QQ A k ≤ 1000 := by
  have s := sp_pos v h0 h1
  have q := QQ_pos v hn h0 h1
  have m := QQ_mul v hn h0 h1
  have p := PP_le v hn
  have : QQ A k * 1 ≤ QQ A k * spA A k := Int.mul_le_mul_of_nonneg_left (by omega) (by omega)
  omega
theorem pow4_le {x : Int} (h : 0 < x ∧ x ≤ 10) : x * x * x * x ≤ 10000 := by
  have a := mul_b (a := x) (b := x) (A := 10) (B := 10) ⟨by omega, h.2⟩ ⟨by omega, h.2⟩
  have b := mul_b (a := x * x) (b := x) (A := 100) (B := 10) ⟨by omega, by omega⟩ ⟨by omega, h.2⟩
  have c := mul_b (a := x * x * x) (b := x) (A := 1000) (B := 10) ⟨by omega, by omega⟩ ⟨by omega, h.2⟩
  omega
theorem ends_ab2 {A : Int → Int} (v : VA A) (hn : 2 ≤ A 1) : ab (oF A) 13000000 ∧ ab (oL A) 13000000 := by
  have a1 := VA_at v (k := 0) (by omega) (by omega)
  have a2 := VA_at v (k := A 1 - 1) (by omega) (by omega)
  have := v.1
  have p := PP_pos v hn
  have q := PP_le v hn
  have E := ends_ab v hn (e := 10) (by omega) (by omega)
  exact ⟨ab_mono E.1 (by omega), ab_mono E.2 (by omega)⟩
theorem tG_ab {A : Int → Int} (v : VA A) (hn : 2 ≤ A 1) {k : Int} (h0 : 0 < k) (h1 : k + 1 < A 1) : ab (tG A k) 1400000000 := by
  have s0 := sp_pos v (k := k - 1) (by omega) (by omega)
  have s1 := sp_pos v (k := k) (by omega) (by omega)
  have E := ends_ab2 v hn
  have S0 := (S_ab v (k := k - 1) (by omega) (by omega)).1
  have S1 := (S_ab v (k := k) (by omega) (by omega)).2.1
  have p0 := pow4_le s0
  have p1 := pow4_le s1
  have q0 := QQ_le v hn (k := k - 1) (by omega) (by omega)
  have q1 := QQ_le v hn (k := k) (by omega) (by omega)
  have r0 := QQ_pos v hn (k := k - 1) (by omega) (by omega)
  have r1 := QQ_pos v hn (k := k) (by omega) (by omega)
  have L : ab (leA A k) 1080000000 := by
    unfold leA
    rw [Int.mul_comm _ (QQ A (k - 1)), Int.mul_comm _ (QQ A k)]
    exact ab_mono (ab_add (ab_mul2 (ab_mono S0 (C := 540000) (by omega)) (by omega) q0) (ab_mul2 (ab_mono S1 (C := 540000) (by omega)) (by omega) q1)) (by omega)
  have F := ab_mul2 E.1 (b := spA A (k - 1)) (c := 10) (by omega) (by omega)
  have G := ab_mul2 E.2 (b := spA A k) (c := 10) (by omega) (by omega)
  unfold tG
  unfold ab at *
  split <;> split <;> omega
set_option maxHeartbeats 2000000 in
theorem gives_eq {A : Int → Int} (v : VA A) (hn : 2 ≤ A 1) {m : Mem} (hA : m 150 = A) {k : Int} (h0 : 0 < k) (h1 : k + 1 < A 1) (m0 : MK m A 0) (m1 : MK m A (A 1 - 1)) : ∃ m', Mo_gives k m = some m' ∧ RG m' A k ∧ (∀ c i, ¬ (c = 149 ∧ (i = 5 ∨ i = 6)) → ¬ ((c = 155 ∨ c = 156) ∧ i = k - 1) → m' c i = m c i) := by
  have n4 := v.2.1
  have l10 := v.1
  obtain ⟨B1, B2, B3, -⟩ := bnd v hn
  have s0 := sp_pos v (k := k - 1) (by omega) (by omega)
  have s1 := sp_pos v (k := k) (by omega) (by omega)
  have S0 := (S_ab v (k := k - 1) (by omega) (by omega)).1
  have S1 := (S_ab v (k := k) (by omega) (by omega)).2.1
  have p0 := pow4_le s0
  have p1 := pow4_le s1
  have q0 := QQ_le v hn (k := k - 1) (by omega) (by omega)
  have q1 := QQ_le v hn (k := k) (by omega) (by omega)
  have r0 := QQ_pos v hn (k := k - 1) (by omega) (by omega)
  have r1 := QQ_pos v hn (k := k) (by omega) (by omega)
  have u0 := QQ_mul v hn (k := k - 1) (by omega) (by omega)
  have u1 := QQ_mul v hn (k := k) (by omega) (by omega)
  have pp := PP_pos v hn
  have pl := PP_le v hn
  have E := ends_ab2 v hn
  have at0 := VA_at v (k := k - 1) (by omega) (by omega)
  have at1 := VA_at v (k := k - 1 + 1) (by omega) (by omega)
  have at2 := VA_at v (k := k) (by omega) (by omega)
  have at3 := VA_at v (k := k + 1) (by omega) (by omega)
  have ea : A (2 + k - 1) = aT A (k - 1) := by unfold aT; congr 1; omega
  have eb : A (2 + k) = aT A (k - 1 + 1) := by unfold aT; congr 1; omega
  have ec : A (2 + k + 1) = aT A (k + 1) := by unfold aT; congr 1; omega
  have oo0 : ooA A 0 = oF A * crA A := by unfold ooA; rw [if_neg (by omega), if_pos rfl]
  have ool : ooA A (A 1 - 1) = oL A * crA A := by unfold ooA; rw [if_pos rfl]
  unfold Mo_gives
  rw [spanOf_eq v hA (by omega) (by omega), ob_some, spanOf_eq v hA (by omega) (by omega), ob_some]
  simp (disch := omega) only [s32_id, ck_id]
  rw [hA, ea, eb, sums_eq v hA (by omega) (by omega) (Or.inl rfl), ob_some]
  have X1b : ab (-(ZS A (sF (aT A (k - 1)) (aT A (k - 1 + 1)) 0)) * QQ A (k - 1)) 540000000 := by
    rw [Int.mul_comm]
    exact ab_mono (ab_mul2 (ab_neg (ab_mono S0 (C := 540000) (by omega))) (by omega) q0) (by omega)
  have S0' := ab_mono S0 (C := 540000) (by omega)
  have S1' := ab_mono S1 (C := 540000) (by omega)
  have X2b : ab (-(ZS A (sF (aT A k) (aT A (k + 1)) 1)) * QQ A k) 540000000 := by
    rw [Int.mul_comm]
    exact ab_mono (ab_mul2 (ab_neg S1') (by omega) q1) (by omega)
  obtain ⟨m4, f1, f2, f3⟩ := is_frac (mem := m) (p := -(ZS A (sF (aT A (k - 1)) (aT A (k - 1 + 1)) 0))) (q := 4 * spA A (k - 1)) (X := -(ZS A (sF (aT A (k - 1)) (aT A (k - 1 + 1)) 0)) * QQ A (k - 1)) (D := 4 * PP A) (b62_le (ab_neg S0') (by decide)) ⟨by omega, by omega⟩ (by omega) (by omega) (by rw [← u0]; grind)
  rw [f1, ob_some]
  have hA4 : m4 150 = A := by rw [← hA]; funext i; exact f3 150 i (by omega)
  rw [hA4, show A (2 + k) = aT A k from rfl, ec, sums_eq v hA4 (by omega) (by omega) (Or.inr rfl), ob_some]
  obtain ⟨m6, g1, g2, g3⟩ := plus_std (p := -(ZS A (sF (aT A k) (aT A (k + 1)) 1))) (q := 4 * spA A k) (Z := -(ZS A (sF (aT A k) (aT A (k + 1)) 1)) * QQ A k) f2 ⟨by omega, by omega⟩ ⟨by omega, by omega⟩ (ab_neg (ab_mono S1' (by omega))) (ab_mono X1b (by omega)) (by rw [← u1]; grind)
  rw [g1, ob_some, jn_id]
  have Xb : ab (-(ZS A (sF (aT A (k - 1)) (aT A (k - 1 + 1)) 0)) * QQ A (k - 1) + -(ZS A (sF (aT A k) (aT A (k + 1)) 1)) * QQ A k) 1080000000 := ab_mono (ab_add X1b X2b) (by omega)
  have hle : -(ZS A (sF (aT A (k - 1)) (aT A (k - 1 + 1)) 0)) * QQ A (k - 1) + -(ZS A (sF (aT A k) (aT A (k + 1)) 1)) * QQ A k = -leA A k := by unfold leA; grind
  rw [hle] at g2 Xb
  have e1 : s32 1 = 1 := s32_1
  have fr6 : ∀ c i, ¬ (c = 149 ∧ (i = 5 ∨ i = 6)) → m6 c i = m c i := fun c i hc => by rw [g3 c i hc, f3 c i hc]
  have st1 : ∃ m7, (∀ K : Mem → Option Mem, (if ¬ k = 1 then K m6 else (Mo_plus (-spA A (k - 1) * m6 153 0) (m6 154 0) m6).bind K) = K m7) ∧ frac m7 (-leA A k - (if k = 1 then spA A (k - 1) * oF A else 0)) (4 * PP A) ∧ (∀ c i, ¬ (c = 149 ∧ (i = 5 ∨ i = 6)) → m7 c i = m6 c i) := by
    by_cases c : k = 1
    · have z := B3 0 (by omega) (by omega)
      have y := nm_ab (q := DD A) z
      have d := dn_b (p := ov A 0) B1.1
      have y2 := ab_neg (ab_mul2 y (b := spA A (k - 1)) (c := 10) (by omega) (by omega))
      rw [← Int.neg_mul] at y2
      obtain ⟨m7, i1, i2, i3⟩ := plus_std (p := -spA A (k - 1) * m6 153 0) (q := m6 154 0) (Z := -spA A (k - 1) * oF A) g2 ⟨by omega, by omega⟩ (by rw [fr6 _ _ (by omega), m0.2]; omega) (by rw [fr6 _ _ (by omega), m0.1]; exact ab_mono y2 (by omega)) (ab_mono Xb (by omega)) (by rw [fr6 _ _ (by omega), fr6 _ _ (by omega), m0.1, m0.2]; exact end_Z pp B2 B1.1 oo0)
      refine ⟨m7, fun K => by rw [if_neg (fun z => z c), i1, ob_some], ?_, i3⟩
      rw [if_pos c, show -leA A k - spA A (k - 1) * oF A = -leA A k + -spA A (k - 1) * oF A by grind]; exact i2
    · exact ⟨m6, fun K => by rw [if_pos c], by rw [if_neg c, Int.sub_zero]; exact g2, fun _ _ _ => rfl⟩
  obtain ⟨m7, w1, w2, w3⟩ := st1
  have Xb2 : ab (-leA A k - (if k = 1 then spA A (k - 1) * oF A else 0)) 1210000000 := by
    have F := ab_mul2 E.1 (b := spA A (k - 1)) (c := 10) (by omega) (by omega)
    unfold ab at *
    split <;> omega
  have fr7 : ∀ c i, ¬ (c = 149 ∧ (i = 5 ∨ i = 6)) → m7 c i = m c i := fun c i hc => by rw [w3 c i hc, fr6 c i hc]
  have st2 : ∃ m8, (∀ K : Mem → Option Mem, (if ¬ k + 1 = A 1 - 1 then K m7 else (Mo_plus (-spA A k * m7 153 (k + 1)) (m7 154 (k + 1)) m7).bind K) = K m8) ∧ frac m8 (tG A k) (4 * PP A) ∧ (∀ c i, ¬ (c = 149 ∧ (i = 5 ∨ i = 6)) → m8 c i = m7 c i) := by
    by_cases c : k + 1 = A 1 - 1
    · have z := B3 (A 1 - 1) (by omega) (by omega)
      have y := nm_ab (q := DD A) z
      have d := dn_b (p := ov A (A 1 - 1)) B1.1
      have y2 := ab_neg (ab_mul2 y (b := spA A k) (c := 10) (by omega) (by omega))
      rw [← Int.neg_mul] at y2
      obtain ⟨m8, i1, i2, i3⟩ := plus_std (p := -spA A k * m7 153 (k + 1)) (q := m7 154 (k + 1)) (Z := -spA A k * oL A) w2 ⟨by omega, by omega⟩ (by rw [fr7 _ _ (by omega), c, m1.2]; omega) (by rw [fr7 _ _ (by omega), c, m1.1]; exact ab_mono y2 (by omega)) (ab_mono Xb2 (by omega)) (by rw [fr7 _ _ (by omega), fr7 _ _ (by omega), c, m1.1, m1.2]; exact end_Z pp B2 B1.1 ool)
      refine ⟨m8, fun K => by rw [if_neg (fun z => z c), i1, ob_some], ?_, i3⟩
      unfold tG
      rw [if_pos c]
      have : ∀ t : Int, t - spA A k * oL A = t + -spA A k * oL A := by intro t; grind
      rw [this]; exact i2
    · exact ⟨m7, fun K => by rw [if_pos c], by unfold tG; rw [if_neg c, Int.sub_zero]; exact w2, fun _ _ _ => rfl⟩
  obtain ⟨m8, x1, x2, x3⟩ := st2
  have hm71 : m7 150 1 = A 1 := by rw [fr7 _ _ (by omega), hA]
  dsimp only
  rw [w1 (fun m7 => jn (fun m8 => lt (mset m8 155 (k - 1) (m8 149 5)) fun m9 => lt (mset m9 156 (k - 1) (m9 149 6)) fun m10 => some m10) fun (k145 : Mem → Option Mem) => if ¬ k + 1 = s32 (m7 150 1 - 1) then k145 m7 else (Mo_plus (-spA A k * m7 153 (k + 1)) (m7 154 (k + 1)) m7).bind fun m11 => k145 m11)]
  rw [jn_id, hm71, s32_id (a := A 1 - 1) (by omega) (by omega)]
  dsimp only
  rw [x1 (fun m8 => lt (mset m8 155 (k - 1) (m8 149 5)) fun m9 => lt (mset m9 156 (k - 1) (m9 149 6)) fun m10 => some m10)]
  simp only [lt_id]
  refine ⟨_, rfl, ⟨?_, ?_⟩, fun c i c1 c2 => ?_⟩
  · rw [mset_if, if_neg (by omega), mset_here, x2.1]
  · rw [mset_here, mset_if, if_neg (by omega), x2.2]
  · rw [mset_if, if_neg (by omega), mset_if, if_neg (by omega), x3 c i c1, fr7 c i c1]
theorem keeps_eq {m : Mem} {k : Int} (h0 : 0 ≤ k) (h1 : k < 4) : Mo_keeps k m = some (mset (mset m 153 k (m 149 5)) 154 k (m 149 6)) := by
  unfold Mo_keeps
  simp (disch := omega) only [s32_id, ck_id, lt_id]
  rw [mset_if, if_neg (by omega)]
theorem keeps_MK {m : Mem} {A : Int → Int} {k : Int} (h : frac m (ov A k) (DD A)) : MK (mset (mset m 153 k (m 149 5)) 154 k (m 149 6)) A k := by
  refine ⟨?_, ?_⟩
  · rw [mset_if, if_neg (by omega), mset_here, h.1]
  · rw [mset_here, h.2]
theorem keeps_fr {m : Mem} {k a b : Int} {c : Nat} {i : Int} (h : ¬ ((c = 153 ∨ c = 154) ∧ i = k)) : mset (mset m 153 k a) 154 k b c i = m c i := by
  rw [mset_if, if_neg (by omega), mset_if, if_neg (by omega)]
theorem oo_loose {A : Int → Int} {k : Int} (h4 : A 1 ≤ 4) (h0 : 0 < k) (h1 : k + 1 < A 1) (h : hrI A k = 0) : ooA A k = 0 := by
  unfold ooA
  rw [if_neg (by omega), if_neg (by omega)]
  rcases (show k = 1 ∨ k = 2 by omega) with rfl | rfl
  · rw [if_pos rfl, show tA1 A = 0 by unfold tA1; rw [if_pos h], show btA A = 0 by unfold btA; rw [if_pos h]]; omega
  · rw [if_neg (by omega), show tA2 A = 0 by unfold tA2; rw [if_pos h], show btA A = 0 by unfold btA; rw [h]; split <;> rfl]; omega
theorem oo_fixed {A : Int → Int} {k : Int} (h4 : A 1 ≤ 4) (h0 : 0 < k) (h1 : k + 1 < A 1) (h : hrI A k = 1) (hb : hrI A 1 = 0 ∨ hrI A 2 = 0) : ooA A k * (2 * (spA A (k - 1) + spA A k)) = tG A k * crA A := by
  unfold ooA tG
  rw [if_neg (by omega), if_neg (by omega)]
  rcases (show k = 1 ∨ k = 2 by omega) with rfl | rfl
  · have h2 : hrI A 2 = 0 := by omega
    have k1 : wA2 A = 1 := by unfold wA2; rw [if_pos h2]
    have k3 : btA A = 0 := by unfold btA; rw [if_neg (by omega), if_pos h2]
    have k4 : wA1 A = 2 * (spA A 0 + spA A 1) := by unfold wA1; rw [if_neg (by omega)]
    have k5 : tA1 A = -leA A 1 - spA A 0 * oF A - (if A 1 = 3 then spA A 1 * oL A else 0) := by unfold tA1; rw [if_neg (by omega)]
    unfold crA
    rw [if_pos rfl, k1, k3, k4, k5, if_pos rfl, show (1 : Int) - 1 = 0 from rfl]
    by_cases g : A 1 = 3
    · rw [if_pos g, if_pos (by omega)]; grind
    · rw [if_neg g, if_neg (by omega)]; grind
  · have h2 : hrI A 1 = 0 := by omega
    have g2 := hrI_1 (A := A) (k := 2) (by omega)
    have k1 : wA1 A = 1 := by unfold wA1; rw [if_pos h2]
    have k3 : btA A = 0 := by unfold btA; rw [if_pos h2]
    have k4 : wA2 A = 2 * (spA A 1 + spA A 2) := by unfold wA2; rw [if_neg (by omega)]
    have k5 : tA2 A = -leA A 2 - spA A 2 * oL A := by unfold tA2; rw [if_neg (by omega)]
    unfold crA
    rw [if_neg (by omega), k1, k3, k4, k5, if_neg (by omega), if_pos (by omega), show (2 : Int) - 1 = 1 from rfl]
    grind
theorem alone_eq {A : Int → Int} (v : VA A) (hn : 2 ≤ A 1) {m : Mem} (hA : m 150 = A) {k : Int} (h0 : 0 < k) (h1 : k + 1 < A 1) (hR : RG m A k) (hb : hrI A 1 = 0 ∨ hrI A 2 = 0) : ∃ m', Mo_alone k m = some m' ∧ MK m' A k ∧ (∀ c i, ¬ (c = 149 ∧ (i = 5 ∨ i = 6)) → ¬ ((c = 153 ∨ c = 154) ∧ i = k) → m' c i = m c i) := by
  have n4 := v.2.1
  obtain ⟨B1, B2, B3, -⟩ := bnd v hn
  have s0 := sp_pos v (k := k - 1) (by omega) (by omega)
  have s1 := sp_pos v (k := k) (by omega) (by omega)
  have pp := PP_pos v hn
  have pl := PP_le v hn
  have t := tG_ab v hn h0 h1
  unfold Mo_alone
  rw [spanOf_eq v hA (by omega) (by omega), ob_some, spanOf_eq v hA (by omega) (by omega), ob_some, lt_id, isLoose_eq v hA h0 (by omega)]
  simp only [ob_some, jn_id]
  rcases hrI_01 A k with h | h
  · rw [h, show (1 : Int) - 0 = 1 from rfl, s32_1, if_1', if_1']
    obtain ⟨m8, f1, f2, f3⟩ := is_frac (mem := m) (p := 0) (q := 1) (X := ov A k) (D := DD A) ⟨by decide, by decide⟩ ⟨by decide, by decide⟩ (by decide) B1.1 (by unfold ov; rw [oo_loose n4.2 h0 h1 h]; omega)
    rw [f1, ob_some, keeps_eq (by omega) (by omega), ob_some]
    exact ⟨_, rfl, keeps_MK f2, fun c i c1 c2 => by rw [keeps_fr c2, f3 c i c1]⟩
  · rw [h, show (1 : Int) - 1 = 0 from rfl, s32_0, if_0', if_0']
    simp (disch := omega) only [s32_id, ck_id]
    rw [hR.1, hR.2]
    have y := nm_ab (q := 4 * PP A) t
    have d := dn_b (p := tG A k) (q := 4 * PP A) (by omega)
    have x := cross_nd (tG A k) (4 * PP A)
    have o := oo_fixed n4.2 h0 h1 h hb
    generalize nm (tG A k) (4 * PP A) = u at *
    generalize dn (tG A k) (4 * PP A) = w at *
    have hW : 0 < 2 * (spA A (k - 1) + spA A k) ∧ 2 * (spA A (k - 1) + spA A k) ≤ 40 := by omega
    generalize 2 * (spA A (k - 1) + spA A k) = W at *
    have ww := mul_b (a := w) (b := W) (A := 4000) (B := 40) ⟨by omega, by omega⟩ ⟨by omega, by omega⟩
    obtain ⟨m8, f1, f2, f3⟩ := is_frac (mem := m) (p := u) (q := w * W) (X := ov A k) (D := DD A) (b62_le y (by decide)) ⟨by omega, by omega⟩ (pos2 d.1 hW.1) B1.1 (by
      unfold ov DD
      have : u * (4 * PP A * PP A * crA A) = (u * (4 * PP A)) * (PP A * crA A) := by grind
      rw [this, x]
      have : tG A k * w * (PP A * crA A) = (tG A k * crA A) * (w * PP A) := by grind
      rw [this, ← o]
      grind)
    rw [f1, ob_some, keeps_eq (by omega) (by omega), ob_some]
    exact ⟨_, rfl, keeps_MK f2, fun c i c1 c2 => by rw [keeps_fr c2, f3 c i c1]⟩
