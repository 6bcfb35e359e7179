/-! sag, lowest -/
theorem ri_ab {A : Int → Int} (v : VA A) (hn : 2 ≤ A 1) {x : Int} (h0 : 0 ≤ x) (h1 : x ≤ A 0) : ab (ri A x) 130000000000 ∧ ab (bn A x) 260000000000 := by
  have l10 := v.1
  have B1 := (bnd v hn).1
  have m := MB_ab' v hn h0 h1
  have c := CT_ab v hn (x := x) (by omega)
  have z := ab_mul2 (ZS_pl v (p := x) (by omega)).2.2.2 (b := DD A) (c := 1100000) (by omega) B1.2
  unfold ri bn
  unfold ab at *
  omega
theorem SW_ab {A : Int → Int} (v : VA A) (hn : 2 ≤ A 1) : ∀ d : Nat, (d : Int) ≤ A 0 → ab (slN A d) (260000000000 * d) ∧ ab (wlN A d) (2730000000000 * d) := by
  have l10 := v.1
  intro d
  induction d with
  | zero => intro _; simp only [slN, wlN]; exact ⟨ab_0 (by decide), ab_0 (by decide)⟩
  | succ d ih =>
    intro hd
    have i := ih (by omega)
    have r := ri_ab v hn (x := (d : Int)) (by omega) (by omega)
    simp only [slN, wlN]
    unfold ab at *
    omega
theorem Wg_ab {A : Int → Int} (v : VA A) (hn : 2 ≤ A 1) {x : Int} (h0 : 0 ≤ x) (h1 : x ≤ A 0) : ab (Wg A x) 27300000000000 := by
  have l10 := v.1
  have := (SW_ab v hn x.toNat (by omega)).2
  exact ab_mono this (by omega)
theorem GG_ab {A : Int → Int} (v : VA A) (hn : 2 ≤ A 1) {x j : Int} (h0 : 0 ≤ x) (h1 : x ≤ A 0) (j0 : 0 ≤ j) (j1 : j + 1 < A 1) : ab (GG A j x) 1100000000000000 ∧ ab (QQ A j * GG A j x) 1100000000000000000 := by
  have l10 := v.1
  have ta := VA_at v j0 (show j < A 1 by omega)
  have tb := VA_at v (k := j + 1) (by omega) j1
  have s := sp_pos v j0 j1
  have q := QQ_le v hn j0 j1
  have q0 := QQ_pos v hn j0 j1
  have wx := Wg_ab v hn h0 h1
  have wa := Wg_ab v hn ta.1 ta.2
  have wb := Wg_ab v hn tb.1 tb.2
  have y1 := ab_mul2 (ab_sub wx wa) (b := spA A j) (c := 10) (by omega) s.2
  have y2 : ab ((Wg A (aT A (j + 1)) - Wg A (aT A j)) * (x - aT A j)) 546000000000000 := by
    by_cases c : 0 ≤ x - aT A j
    · have := ab_mul2 (ab_sub wb wa) (b := x - aT A j) (c := 10) c (by omega)
      rw [Int.mul_comm] at this
      exact ab_mono this (by decide)
    · have := ab_neg (ab_mul2 (ab_sub wb wa) (b := -(x - aT A j)) (c := 10) (by omega) (by omega))
      rw [Int.neg_mul, Int.neg_neg, Int.mul_comm] at this
      exact ab_mono this (by decide)
  have g : ab (GG A j x) 1100000000000000 := by
    unfold GG
    rw [Int.mul_comm (Wg A x - Wg A (aT A j))]
    exact ab_mono (ab_sub y1 y2) (by decide)
  exact ⟨g, ab_mono (ab_mul2 g (by omega) q) (by decide)⟩
theorem dip_bnd {A : Int → Int} (v : VA A) (hn : 2 ≤ A 1) : 0 < 24 * DD A * PP A ∧ 24 * DD A * PP A ≤ 26400000000 := by
  have B1 := (bnd v hn).1
  have p := PP_pos v hn
  have q := PP_le v hn
  have := mul_b (a := 24 * DD A) (b := PP A) (A := 26400000) (B := 1000) ⟨by omega, by omega⟩ ⟨by omega, q⟩
  exact ⟨pos2 (by omega) p, by omega⟩
theorem ok_sag (a : Int) (b : Int) (ha : r32 a) (hb : r32 b) : OkM (BP_sag a b) (Mo_sag a b) s64 := by
  intro mem R
  have R0 := R
  obtain ⟨⟨v, rb⟩, -⟩ := R0
  have n4 := v.2.1
  have l10 := v.1
  have b2 := rb.2.1
  have b1 := rb.1
  obtain ⟨ha1, ha2⟩ := ha
  obtain ⟨hb1, hb2⟩ := hb
  unfold BP_sag Mo_sag
  rw [Beam_stands_eq (by omega), ob_some, Beam_isPlace_eq ⟨ha1, ha2⟩ (r32_of (by omega)), ob_some, isPart_eq ⟨hb1, hb2⟩, ob_some, b2, b1]
  by_cases h1 : 2 ≤ mem 150 1
  · rw [if_pos h1, s32_1, if_1']
    by_cases h2 : 0 ≤ a ∧ a ≤ mem 150 0
    · rw [if_pos h2, s32_1, if_1']
      by_cases h3 : b = 0 ∨ b = 1
      · rw [if_pos h3, s32_1, if_1]
        obtain ⟨m4, e4, V, f4⟩ := asItIs_eq v h1 rb
        obtain ⟨m5, e5, d5, V5, g5, f5⟩ := findSags_eq v h1 V
        have R5 : Rel m5 := Rel_cls R (fun c i hc => by rw [f5 c i (by omega) (by omega), f4 c i (by omega)])
        have hA5 : m5 150 = mem 150 := by funext i; rw [f5 150 i (by omega) (by omega), f4 150 i (by omega)]
        obtain ⟨j, hj⟩ := IsK_ex h1 a
        have gb := GG_ab v h1 h2.1 h2.2 hj.1 hj.2.1
        have db := dip_bnd v h1
        have B1 := (bnd v h1).1
        rw [e4, ob_some, e5, ob_some, ck_id h2.1 (by omega) (by omega), s32_id (a := a) (by omega) (by omega), d5, g5 a j h2.1 h2.2 (IsK_J hj), inLowest_eq (b62_le gb.2 (by decide)) ⟨by omega, by omega⟩ db.1 h3, bdI_some]
        have R6 := Rel_said R5 (nm (QQ (mem 150) j * GG (mem 150) j a) (24 * DD (mem 150) * PP (mem 150))) (dn (QQ (mem 150) j * GG (mem 150) j a) (24 * DD (mem 150) * PP (mem 150)))
        have hA6 : (mset (mset m5 129 0 (nm (QQ (mem 150) j * GG (mem 150) j a) (24 * DD (mem 150) * PP (mem 150)))) 129 1 (dn (QQ (mem 150) j * GG (mem 150) j a) (24 * DD (mem 150) * PP (mem 150)))) 150 = mem 150 := by rw [← hA5]; funext i; rw [mset_if, if_neg (by omega), mset_if, if_neg (by omega)]
        generalize mset (mset m5 129 0 (nm (QQ (mem 150) j * GG (mem 150) j a) (24 * DD (mem 150) * PP (mem 150)))) 129 1 (dn (QQ (mem 150) j * GG (mem 150) j a) (24 * DD (mem 150) * PP (mem 150))) = m6 at *
        obtain ⟨m7, e7, V7, f7⟩ := reactions_eq v h1 hA6
        obtain ⟨r, m8, e8, hr, f8⟩ := sagAt_eq v h1 V7 h2 hj
        have o := MV_one v h1 V7
        have V8 := MV_159 V7 f8
        have wb := ab_div o hr gb.1
        have sj := sp_pos v hj.1 hj.2.1
        have qj := QQ_mul v h1 hj.1 hj.2.1
        have bo := mul_b (a := 24 * m7 149 13) (b := spA (mem 150) j) (A := 26400000) (B := 10) ⟨by omega, by omega⟩ ⟨by omega, sj.2⟩
        have po := pos2 (show 0 < 24 * m7 149 13 by omega) sj.1
        obtain ⟨m9, e9, g9, f9⟩ := is_frac (mem := m8) (p := r) (q := 24 * m7 149 13 * spA (mem 150) j) (X := QQ (mem 150) j * GG (mem 150) j a) (D := 24 * DD (mem 150) * PP (mem 150)) (b62_le wb (by decide)) ⟨by omega, by omega⟩ po db.1 (by
          have z : r * (24 * DD (mem 150) * PP (mem 150)) = 24 * PP (mem 150) * (r * DD (mem 150)) := by clear hr e8; grind
          rw [z, hr, ← qj]
          clear hr e8 z
          grind)
        refine ⟨_, m6, (if b = 0 then nm (QQ (mem 150) j * GG (mem 150) j a) (24 * DD (mem 150) * PP (mem 150)) else dn (QQ (mem 150) j * GG (mem 150) j a) (24 * DD (mem 150) * PP (mem 150))), m9, rfl, ?_, rfl, Rel_mod R6 (fun c i c1 c2 c3 => by rw [f9 c i (by omega), f8 c i (by omega), f7 c i (by omega) (by omega)])⟩
        rw [Mo_isPlace_eq ⟨ha1, ha2⟩ (by rw [hA6]; exact r32_of (by omega)), hA6, ob_some, if_pos h2, s32_1, if_1', s32_id (a := b) (by omega) (by omega), in_part ⟨hb1, hb2⟩, ob_some, if_pos h3, s32_1, if_1', Mo_stands_eq (by rw [hA6]; omega), hA6, ob_some, if_pos h1, s32_1, if_1, e7, ob_some, e8, bdI_some, wideAt_eq v V8.1 (by omega) hj, ob_some, f8 149 13 (by decide), s32_id (a := spA (mem 150) j) (by omega) (by omega), e9, ob_some]
        rcases h3 with rfl | rfl
        · rw [if_0, if_pos rfl, g9.1]
        · rw [if_1, if_neg (by decide), g9.2]
      · rw [if_neg h3, s32_0, if_0]
        refine ⟨_, _, _, mem, rfl, ?_, rfl, R⟩
        rw [Mo_isPlace_eq ⟨ha1, ha2⟩ (r32_of (by omega)), ob_some, if_pos h2, s32_1, if_1', s32_id (a := b) (by omega) (by omega), in_part ⟨hb1, hb2⟩, ob_some, if_neg h3, s32_0, if_0']
    · rw [if_neg h2, s32_0, if_0']
      refine ⟨_, _, _, mem, rfl, ?_, rfl, R⟩
      rw [Mo_isPlace_eq ⟨ha1, ha2⟩ (r32_of (by omega)), ob_some, if_neg h2, s32_0, if_0']
  · rw [if_neg h1, s32_0, if_0']
    refine ⟨-9223372036854775808, mem, -9223372036854775808, mem, rfl, ?_, rfl, R⟩
    rw [Mo_isPlace_eq ⟨ha1, ha2⟩ (r32_of (by omega)), ob_some, s32_id (a := b) (by omega) (by omega), in_part ⟨hb1, hb2⟩, ob_some, Mo_stands_eq n4, ob_some, if_neg h1, s32_0, if_0]
    by_cases h2 : 0 ≤ a ∧ a ≤ mem 150 0
    · rw [if_pos h2, s32_1, if_1']
      by_cases h3 : b = 0 ∨ b = 1
      · rw [if_pos h3, s32_1, if_1']
      · rw [if_neg h3, s32_0, if_0']
    · rw [if_neg h2, s32_0, if_0']
/-! the place of the greatest sag -/
noncomputable def jF (A : Int → Int) (x : Int) : Int := Classical.epsilon (IsK A x)
theorem jF_K {A : Int → Int} (hn : 2 ≤ A 1) (x : Int) : IsK A x (jF A x) := Classical.epsilon_spec (IsK_ex hn x)
noncomputable def vS (A : Int → Int) (x : Int) : Int := QQ A (jF A x) * GG A (jF A x) x
noncomputable def bsN (A : Int → Int) : Nat → Int
  | 0 => 0
  | n + 1 => if vS A ((n + 1 : Nat) : Int) ≤ vS A (bsN A n) then bsN A n else ((n + 1 : Nat) : Int)
theorem bsN_b (A : Int → Int) : ∀ n : Nat, 0 ≤ bsN A n ∧ bsN A n ≤ (n : Int) := by
  intro n
  induction n with
  | zero => exact ⟨Int.le_refl 0, Int.le_refl 0⟩
  | succ n ih =>
    simp only [bsN]
    split <;> omega
theorem lt_mul_iff {a b s : Int} (h : 0 < s) : a * s < b * s ↔ a < b := ⟨fun h' => Int.lt_of_mul_lt_mul_right h' (Int.le_of_lt h), fun h' => Int.mul_lt_mul_of_pos_right h' h⟩
theorem most_cls {m : Mem} {A : Int → Int} (v : VA A) (hn : 2 ≤ A 1) (h : m 111 0 = A 0) (g : ∀ x j, 0 ≤ x → x ≤ A 0 → IsJ A x j → m 119 x = QQ A j * GG A j x) : ∀ (d n : Nat) (i : Nat), (i : Int) + (d : Int) = A 0 → d < n → Sta_placeOfMostSag_L4 m n (bsN A i) ((i : Int) + 1) = some (bsN A (A 0).toNat) := by
  have l10 := v.1
  have gv : ∀ x, 0 ≤ x → x ≤ A 0 → m 119 x = vS A x := fun x x0 x1 => g x _ x0 x1 (IsK_J (jF_K hn x))
  have gb : ∀ x, 0 ≤ x → x ≤ A 0 → b62 (vS A x) := fun x x0 x1 => b62_le (GG_ab v hn x0 x1 (jF_K hn x).1 (jF_K hn x).2.1).2 (by decide)
  intro d
  induction d with
  | zero =>
    intro n i hi hd
    obtain ⟨n', rfl⟩ : ∃ n', n = n' + 1 := ⟨n - 1, by omega⟩
    rw [Sta_placeOfMostSag_L4, h, s32_id (a := A 0) (by omega) (by omega), s32_id (a := (i : Int) + 1) (by omega) (by omega), if_pos (by omega), show (A 0).toNat = i by omega]
  | succ d ih =>
    intro n i hi hd
    obtain ⟨n', rfl⟩ : ∃ n', n = n' + 1 := ⟨n - 1, by omega⟩
    have b := bsN_b A i
    rw [Sta_placeOfMostSag_L4, h, s32_id (a := A 0) (by omega) (by omega), s32_id (a := (i : Int) + 1) (by omega) (by omega), if_neg (by omega), ck_id (by omega) (by omega) (by omega), ck_id (by omega) (by omega) (by omega), s32_id (a := bsN A i) (by omega) (by omega), gv _ (by omega) (by omega), gv _ (by omega) (by omega), b62_s (gb _ (by omega) (by omega)), b62_s (gb _ (by omega) (by omega))]
    have e : (i : Int) + 1 = ((i + 1 : Nat) : Int) := by omega
    have nx := ih n' (i + 1) (by omega) (by omega)
    simp only [bsN] at nx
    rw [e]
    by_cases c : vS A ((i + 1 : Nat) : Int) ≤ vS A (bsN A i)
    · rw [if_pos c]; rw [if_pos c] at nx; exact nx
    · rw [if_neg c]; rw [if_neg c] at nx; exact nx
theorem vS_lt {A : Int → Int} (v : VA A) (hn : 2 ≤ A 1) {x y r s o : Int} (ho : 0 < o) (hr : r * DD A = GG A (jF A x) x * o) (hs : s * DD A = GG A (jF A y) y * o) : r * spA A (jF A y) < s * spA A (jF A x) ↔ vS A x < vS A y := by
  have B1 := (bnd v hn).1
  have kx := jF_K hn x
  have ky := jF_K hn y
  have sx := sp_pos v kx.1 kx.2.1
  have sy := sp_pos v ky.1 ky.2.1
  have qx := QQ_mul v hn kx.1 kx.2.1
  have qy := QQ_mul v hn ky.1 ky.2.1
  have pp := PP_pos v hn
  unfold vS
  generalize GG A (jF A x) x = gx at *
  generalize GG A (jF A y) y = gy at *
  generalize QQ A (jF A x) = ax at *
  generalize QQ A (jF A y) = ay at *
  generalize spA A (jF A x) = lx at *
  generalize spA A (jF A y) = ly at *
  clear kx ky
  have h1 : (r * ly) * DD A = (gx * ly) * o := by
    have : (r * ly) * DD A = (r * DD A) * ly := by grind
    rw [this, hr]; grind
  have h2 : (s * lx) * DD A = (gy * lx) * o := by
    have : (s * lx) * DD A = (s * DD A) * lx := by grind
    rw [this, hs]; grind
  have h3 : (ax * gx) * (lx * ly) = (gx * ly) * PP A := by rw [← qx]; grind
  have h4 : (ay * gy) * (lx * ly) = (gy * lx) * PP A := by rw [← qy]; grind
  rw [← lt_mul_iff (a := r * ly) B1.1, h1, h2, lt_mul_iff ho, ← lt_mul_iff (a := ax * gx) (pos2 sx.1 sy.1), h3, h4, lt_mul_iff pp]
theorem most_mod {A : Int → Int} (v : VA A) (hn : 2 ≤ A 1) {m0 : Mem} (V : MV m0 A) : ∀ (d n : Nat) (i : Nat) (m : Mem), (i : Int) + (d : Int) = A 0 → d < n → f159 m m0 → ∃ m', Mo_lowest_L18 n (bsN A i) ((i : Int) + 1) m = some (bsN A (A 0).toNat, m') ∧ f159 m' m0 := by
  have l10 := v.1
  have o := MV_one v hn V
  intro d
  induction d with
  | zero =>
    intro n i m hi hd hf
    obtain ⟨n', rfl⟩ : ∃ n', n = n' + 1 := ⟨n - 1, by omega⟩
    refine ⟨m, ?_, hf⟩
    rw [Mo_lowest_L18, (MV_159 V hf).1, s32_id (a := A 0) (by omega) (by omega), s32_id (a := (i : Int) + 1) (by omega) (by omega), if_pos (by omega), show (A 0).toNat = i by omega]
  | succ d ih =>
    intro n i m hi hd hf
    obtain ⟨n', rfl⟩ : ∃ n', n = n' + 1 := ⟨n - 1, by omega⟩
    have b := bsN_b A i
    have V1 := MV_159 V hf
    obtain ⟨r, m7, e7, hr, f7⟩ := sagAt_eq v hn V1 (x := bsN A i) ⟨b.1, by omega⟩ (jF_K hn _)
    have F7 : f159 m7 m0 := fun c k hc => by rw [f7 c k hc, hf c k hc]
    have V7 := MV_159 V F7
    obtain ⟨s, m10, e10, hs, f10⟩ := sagAt_eq v hn V7 (x := (i : Int) + 1) ⟨by omega, by omega⟩ (jF_K hn _)
    have F10 : f159 m10 m0 := fun c k hc => by rw [f10 c k hc, F7 c k hc]
    have V10 := MV_159 V F10
    rw [hf 149 13 (by decide)] at hr
    rw [F7 149 13 (by decide)] at hs
    have k1 := jF_K hn (bsN A i)
    have k2 := jF_K hn ((i : Int) + 1)
    have sx := sp_pos v k1.1 k1.2.1
    have sy := sp_pos v k2.1 k2.2.1
    have g1 := GG_ab v hn (x := bsN A i) b.1 (by omega) k1.1 k1.2.1
    have g2 := GG_ab v hn (x := (i : Int) + 1) (by omega) (by omega) k2.1 k2.2.1
    have L := vS_lt v hn o.1 hr hs
    rw [Mo_lowest_L18, V1.1, s32_id (a := A 0) (by omega) (by omega), s32_id (a := (i : Int) + 1) (by omega) (by omega), if_neg (by omega), e7, bdI_some, wideAt_eq v V7.1 (by omega) k1, ob_some, e10, bdI_some, wideAt_eq v V10.1 (by omega) k2, ob_some, s32_id (a := spA A (jF A (bsN A i))) (by omega) (by omega), s32_id (a := spA A (jF A ((i : Int) + 1))) (by omega) (by omega), isLess_eq (b62_le (ab_div o hr g1.1) (by decide)) (b62_le (ab_div o hs g2.1) (by decide)) ⟨sx.1, by omega⟩ ⟨sy.1, by omega⟩, ob_some, jn_id]
    have e : (i : Int) + 1 = ((i + 1 : Nat) : Int) := by omega
    have nx := ih n' (i + 1) m10 (by omega) (by omega) F10
    simp only [bsN] at nx
    rw [e] at L ⊢
    by_cases c : vS A ((i + 1 : Nat) : Int) ≤ vS A (bsN A i)
    · rw [if_neg ((not_congr L).mpr (by omega)), s32_0, if_0']; rw [if_pos c] at nx; exact nx
    · rw [if_pos (L.mpr (by omega)), s32_1, if_1']; rw [if_neg c] at nx; exact nx
theorem ok_lowest : OkM BP_lowest Mo_lowest s32 := by
  intro mem R
  have R0 := R
  obtain ⟨⟨v, rb⟩, -⟩ := R0
  have n4 := v.2.1
  have l10 := v.1
  have b2 := rb.2.1
  unfold BP_lowest Mo_lowest
  rw [Beam_stands_eq (by omega), ob_some, b2]
  by_cases h1 : 2 ≤ mem 150 1
  · rw [if_pos h1, s32_1, if_1]
    obtain ⟨m4, e4, V, f4⟩ := asItIs_eq v h1 rb
    obtain ⟨m5, e5, d5, V5, g5, f5⟩ := findSags_eq v h1 V
    have R5 : Rel m5 := Rel_cls R (fun c i hc => by rw [f5 c i (by omega) (by omega), f4 c i (by omega)])
    have hA5 : m5 150 = mem 150 := by funext i; rw [f5 150 i (by omega) (by omega), f4 150 i (by omega)]
    have p := most_cls v h1 V5.1.1.1 g5 (mem 150 0).toNat 2000 0 (by omega) (by omega)
    obtain ⟨m7, e7, V7, f7⟩ := reactions_eq v h1 hA5
    obtain ⟨m8, e8, f8⟩ := most_mod v h1 V7 (mem 150 0).toNat 2000 0 m7 (by omega) (by omega) (fun _ _ _ => rfl)
    rw [e4, ob_some, e5, ob_some]
    unfold Sta_placeOfMostSag
    have p' : Sta_placeOfMostSag_L4 m5 2000 0 1 = some (bsN (mem 150) (mem 150 0).toNat) := p
    have q' : Mo_lowest_L18 2000 0 1 m7 = some (bsN (mem 150) (mem 150 0).toNat, m8) := e8
    rw [p', ob_some]
    refine ⟨_, m5, _, m8, rfl, ?_, rfl, Rel_mod R5 (fun c i c1 c2 c3 => by rw [f8 c i (by omega), f7 c i (by omega) (by omega)])⟩
    rw [Mo_stands_eq (by rw [hA5]; omega), hA5, ob_some, if_pos h1, s32_1, if_1, e7, ob_some, q']
  · rw [if_neg h1, s32_0, if_0]
    refine ⟨_, mem, _, mem, rfl, ?_, rfl, R⟩
    rw [Mo_stands_eq n4, ob_some, if_neg h1, s32_0, if_0]
