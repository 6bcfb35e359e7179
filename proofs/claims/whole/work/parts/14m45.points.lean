/-! point, spread, heavier, axle, unhitch, hinge -/
theorem Rel_hist {mem : Mem} (R : Rel mem) : (0 ≤ mem 149 4 ∧ mem 149 4 ≤ 10) ∧ CHist mem (mem 149 4) (mH mem) := by
  obtain ⟨-, ⟨q1, q2, q3, q4⟩, -⟩ := R
  exact ⟨q1, q2, q3, fun k k0 k1 => (q4 k k0 k1).2⟩
theorem CH_fr {m m' : Mem} {h : Int} {H : Int → Int → Int} (C : CHist m h H) (hm : ∀ c i, (10 ≤ c ∧ c ≤ 101) → m' c i = m c i) : CHist m' h H := by
  obtain ⟨a, b, c⟩ := C
  refine ⟨by rw [hm _ _ (by omega)]; exact a, by rw [hm _ _ (by omega)]; exact b, fun k k0 k1 => ?_⟩
  rw [hm 10 1 (by omega)]
  have := ring_le (n := m 10 1) (h := h) (k := k)
  exact RB_frame (c k k0 k1) (fun c i x0 x1 => hm c i (by omega))
/-- keep, then something at the beam -/
theorem keepR {mem : Mem} (R : Rel mem) : ∃ m2, Chg_keep mem = some m2 ∧ CHist m2 (kh (mem 149 4)) (kH (mem 150) (mem 149 4) (mH mem)) ∧ RB m2 1 (mem 150) ∧ (∀ c i, ¬ (10 ≤ c ∧ c ≤ 101) → m2 c i = mem c i) := by
  have h := Rel_hist R
  obtain ⟨m2, e, C, f⟩ := keep_eq R.1.1 R.1.2 h.1 h.2
  exact ⟨m2, e, C, RB_frame R.1.2 (fun c i _ _ => f c i (by omega)), f⟩
/-- both after keep: the class has put B there, the model too -/
theorem Rel_both {mem m2 mc mm : Mem} (R : Rel mem) (C : CHist m2 (kh (mem 149 4)) (kH (mem 150) (mem 149 4) (mH mem))) (f2 : ∀ c i, ¬ (10 ≤ c ∧ c ≤ 101) → m2 c i = mem c i) (fc : ∀ c i, ¬ (1 ≤ c ∧ c ≤ 9) → mc c i = m2 c i) (hB : RB mc 1 (mm 150)) (vB : VA (mm 150)) (h4 : mm 149 4 = kh (mem 149 4)) (hH : ∀ k i, 0 ≤ k → k < kh (mem 149 4) → 0 ≤ i → i < 36 → mH mm k i = kH (mem 150) (mem 149 4) (mH mc) k i) (fm : ∀ c i, ¬ (c = 150 ∨ c = 152 ∨ (c = 149 ∧ i = 4)) → mm c i = mc c i) : Rel mm := by
  have e152 : mH mc = mH mem := by
    funext k i
    unfold mH
    rw [fc _ _ (by omega), f2 _ _ (by omega)]
  rw [e152] at hH
  exact Rel_edit R (CH_fr C (fun c i hc => fc c i (by omega))) hB vB (fun c i hc => by rw [fc c i (by omega), f2 c i (by omega)]) h4 hH fm
theorem load_both {mem : Mem} (R : Rel mem) {x y w p : Int} (hl : mem 150 10 < 6) (hx : 0 ≤ x ∧ x ≤ y ∧ y ≤ mem 150 0) (hw : -9 ≤ w ∧ w ≤ 9) (hp : p = (if x = y then 1 else 0)) : ∃ m2 mc mm, Chg_keep mem = some m2 ∧ Beam_putLoad 1 x y w p m2 = some (mem 150 10, mc) ∧ Mo_comes x y w mc = some (mem 150 10, mm) ∧ Rel mm ∧ mc 150 = mem 150 := by
  have v := R.1.1
  obtain ⟨m2, e2, C, b2, f2⟩ := keepR R
  obtain ⟨mc, ec, bc, fc⟩ := putLoad_eq v b2 hl hp
  have hA : mc 150 = mem 150 := by funext i; rw [fc 150 i (by omega), f2 150 i (by omega)]
  have h4 : mc 149 4 = mem 149 4 := by rw [fc _ _ (by omega), f2 _ _ (by omega)]
  obtain ⟨mm, em, a1, a2, a3, a4⟩ := comes_eq (x := x) (y := y) (w := w) v hA h4 (Rel_hist R).1 hl
  refine ⟨m2, mc, mm, e2, ec, em, ?_, hA⟩
  exact Rel_both R C f2 (fun c i hc => fc c i (by omega)) (by rw [a1]; exact bc) (by rw [a1]; exact VA_ld v hl hx hw) a2 a3 a4
theorem ok_point (a : Int) (b : Int) (ha : r32 a) (hb : r32 b) : OkM (BP_point a b) (Mo_point a b) s32 := by
  intro mem R
  have R0 := R
  obtain ⟨⟨v, rb⟩, -⟩ := R0
  have v3 := v.2.2.1
  have l10 := v.1
  have b0 := rb.1
  have b3 := rb.2.2.1
  obtain ⟨ha1, ha2⟩ := ha
  obtain ⟨hb1, hb2⟩ := hb
  have e6 : s32 6 = 6 := s32_id (by decide) (by decide)
  by_cases h1 : 0 ≤ a ∧ a ≤ mem 150 0
  · by_cases h2 : -9 ≤ b ∧ b ≤ 9
    · by_cases h3 : mem 150 10 < 6
      · obtain ⟨m2, mc, mm, e2, ec, em, Rm, hA⟩ := load_both R (x := a) (y := a) (w := b) (p := 1) h3 ⟨h1.1, Int.le_refl a, h1.2⟩ h2 (by rw [if_pos rfl])
        refine ⟨mem 150 10, mc, mem 150 10, mm, ?_, ?_, rfl, Rm⟩
        · unfold BP_point Beam_whyNotPoint
          rw [Beam_isPlace_eq ⟨ha1, ha2⟩ (r32_of (by omega)), b0, ob_some, if_pos h1, s32_1, if_1', isV_eq ⟨hb1, hb2⟩, ob_some, if_pos h2, s32_1, if_1, b3, s32_id (a := mem 150 10) (by omega) (by omega), e6, if_pos h3, ob_some, s32_0, if_0', e2, ob_some, ec, bdI_some]
        · unfold Mo_point
          rw [Mo_isPlace_eq ⟨ha1, ha2⟩ (by rw [hA]; exact r32_of (by omega)), hA, ob_some, if_pos h1, s32_1, if_1', s32_id (a := b) (by omega) (by omega), Mo_in_eq (by omega) (by omega) (by omega), ob_some, if_pos h2, s32_1, if_1', em, bdI_some]
      · refine ⟨-3, mem, -3, mem, ?_, ?_, rfl, R⟩
        · unfold BP_point Beam_whyNotPoint
          rw [Beam_isPlace_eq ⟨ha1, ha2⟩ (r32_of (by omega)), b0, ob_some, if_pos h1, s32_1, if_1', isV_eq ⟨hb1, hb2⟩, ob_some, if_pos h2, s32_1, if_1, b3, s32_id (a := mem 150 10) (by omega) (by omega), e6, if_neg h3, ob_some, s32_id (a := -3) (by decide) (by decide), if_neg (by decide)]
        · unfold Mo_point Mo_comes
          rw [Mo_isPlace_eq ⟨ha1, ha2⟩ (r32_of (by omega)), ob_some, if_pos h1, s32_1, if_1', s32_id (a := b) (by omega) (by omega), Mo_in_eq (by omega) (by omega) (by omega), ob_some, if_pos h2, s32_1, if_1', s32_id (a := mem 150 10) (by omega) (by omega), e6, if_neg (show ¬ ¬ mem 150 10 = 6 by omega), bdI_some]
    · refine ⟨-1, mem, -1, mem, ?_, ?_, rfl, R⟩
      · unfold BP_point Beam_whyNotPoint
        rw [Beam_isPlace_eq ⟨ha1, ha2⟩ (r32_of (by omega)), b0, ob_some, if_pos h1, s32_1, if_1', isV_eq ⟨hb1, hb2⟩, ob_some, if_neg h2, s32_0, if_0, ob_some, s32_id (a := -1) (by decide) (by decide), if_neg (by decide)]
      · unfold Mo_point
        rw [Mo_isPlace_eq ⟨ha1, ha2⟩ (r32_of (by omega)), ob_some, if_pos h1, s32_1, if_1', s32_id (a := b) (by omega) (by omega), Mo_in_eq (by omega) (by omega) (by omega), ob_some, if_neg h2, s32_0, if_0']
  · refine ⟨-1, mem, -1, mem, ?_, ?_, rfl, R⟩
    · unfold BP_point Beam_whyNotPoint
      rw [Beam_isPlace_eq ⟨ha1, ha2⟩ (r32_of (by omega)), b0, ob_some, if_neg h1, s32_0, if_0', ob_some, s32_id (a := -1) (by decide) (by decide), if_neg (by decide)]
    · unfold Mo_point
      rw [Mo_isPlace_eq ⟨ha1, ha2⟩ (r32_of (by omega)), ob_some, if_neg h1, s32_0, if_0']
theorem ok_spread (a : Int) (b : Int) (c : Int) (ha : r32 a) (hb : r32 b) (hc : r32 c) : OkM (BP_spread a b c) (Mo_spread a b c) s32 := by
  intro mem R
  have R0 := R
  obtain ⟨⟨v, rb⟩, -⟩ := R0
  have v3 := v.2.2.1
  have l10 := v.1
  have b0 := rb.1
  have b3 := rb.2.2.1
  obtain ⟨ha1, ha2⟩ := ha
  obtain ⟨hb1, hb2⟩ := hb
  obtain ⟨hc1, hc2⟩ := hc
  have e6 : s32 6 = 6 := s32_id (by decide) (by decide)
  have en : s32 (-1) = -1 := s32_id (by decide) (by decide)
  have W : Beam_whyNotSpread 1 a b c mem = some (if (0 ≤ a ∧ a ≤ mem 150 0) ∧ (0 ≤ b ∧ b ≤ mem 150 0) ∧ a < b ∧ (-9 ≤ c ∧ c ≤ 9) then (if mem 150 10 < 6 then 0 else -3) else -1) := by
    unfold Beam_whyNotSpread
    rw [Beam_isPlace_eq ⟨ha1, ha2⟩ (r32_of (by omega)), ob_some, Beam_isPlace_eq ⟨hb1, hb2⟩ (r32_of (by omega)), ob_some, isV_eq ⟨hc1, hc2⟩, ob_some, b0, b3, s32_id (a := a) (by omega) (by omega), s32_id (a := b) (by omega) (by omega), s32_id (a := mem 150 10) (by omega) (by omega), e6]
    by_cases h1 : 0 ≤ a ∧ a ≤ mem 150 0
    · rw [if_pos h1, s32_1, if_1']
      by_cases h2 : 0 ≤ b ∧ b ≤ mem 150 0
      · rw [if_pos h2, s32_1, if_1']
        by_cases h3 : b ≤ a
        · rw [if_pos h3, if_neg (by omega)]
        · rw [if_neg h3]
          by_cases h4 : -9 ≤ c ∧ c ≤ 9
          · rw [if_pos h4, s32_1, if_1, if_pos (show (0 ≤ a ∧ a ≤ mem 150 0) ∧ (0 ≤ b ∧ b ≤ mem 150 0) ∧ a < b ∧ (-9 ≤ c ∧ c ≤ 9) by omega)]
            by_cases h5 : mem 150 10 < 6
            · rw [if_pos h5, if_pos h5]
            · rw [if_neg h5, if_neg h5]
          · rw [if_neg h4, s32_0, if_0, if_neg (by omega)]
      · rw [if_neg h2, s32_0, if_0', if_neg (by omega)]
    · rw [if_neg h1, s32_0, if_0', if_neg (by omega)]
  have M : ∀ m : Mem, m 150 = mem 150 → Mo_spread a b c m = if (0 ≤ a ∧ a ≤ mem 150 0) ∧ (0 ≤ b ∧ b ≤ mem 150 0) ∧ a < b ∧ (-9 ≤ c ∧ c ≤ 9) then bdI (Mo_comes a b c m) (fun r4 m5 => some (r4, m5)) else some (-1, m) := by
    intro m hA
    unfold Mo_spread
    rw [Mo_isPlace_eq ⟨ha1, ha2⟩ (by rw [hA]; exact r32_of (by omega)), ob_some, Mo_isPlace_eq ⟨hb1, hb2⟩ (by rw [hA]; exact r32_of (by omega)), ob_some, hA, s32_id (a := a) (by omega) (by omega), s32_id (a := b) (by omega) (by omega), s32_id (a := c) (by omega) (by omega), Mo_in_eq (by omega) (by omega) (by omega), ob_some]
    by_cases h1 : 0 ≤ a ∧ a ≤ mem 150 0
    · rw [if_pos h1, s32_1, if_1']
      by_cases h2 : 0 ≤ b ∧ b ≤ mem 150 0
      · rw [if_pos h2, s32_1, if_1']
        by_cases h3 : b ≤ a
        · rw [if_pos h3, if_neg (by omega)]
        · rw [if_neg h3]
          by_cases h4 : -9 ≤ c ∧ c ≤ 9
          · rw [if_pos h4, s32_1, if_1', if_pos (show (0 ≤ a ∧ a ≤ mem 150 0) ∧ (0 ≤ b ∧ b ≤ mem 150 0) ∧ a < b ∧ (-9 ≤ c ∧ c ≤ 9) by omega)]
          · rw [if_neg h4, s32_0, if_0', if_neg (by omega)]
      · rw [if_neg h2, s32_0, if_0', if_neg (by omega)]
    · rw [if_neg h1, s32_0, if_0', if_neg (by omega)]
  by_cases h : (0 ≤ a ∧ a ≤ mem 150 0) ∧ (0 ≤ b ∧ b ≤ mem 150 0) ∧ a < b ∧ (-9 ≤ c ∧ c ≤ 9)
  · by_cases h3 : mem 150 10 < 6
    · obtain ⟨m2, mc, mm, e2, ec, em, Rm, hA⟩ := load_both R (x := a) (y := b) (w := c) (p := 0) h3 ⟨h.1.1, by omega, h.2.1.2⟩ h.2.2.2 (by rw [if_neg (by omega)])
      refine ⟨mem 150 10, mc, mem 150 10, mm, ?_, ?_, rfl, Rm⟩
      · unfold BP_spread
        rw [W, ob_some, if_pos h, if_pos h3, s32_0, if_0', e2, ob_some, ec, bdI_some]
      · rw [M mc hA, if_pos h, em, bdI_some]
    · refine ⟨-3, mem, -3, mem, ?_, ?_, rfl, R⟩
      · unfold BP_spread
        rw [W, ob_some, if_pos h, if_neg h3, s32_id (a := -3) (by decide) (by decide), if_neg (by decide)]
      · rw [M mem rfl, if_pos h]
        unfold Mo_comes
        rw [s32_id (a := mem 150 10) (by omega) (by omega), e6, if_neg (show ¬ ¬ mem 150 10 = 6 by omega), bdI_some]
  · refine ⟨-1, mem, -1, mem, ?_, ?_, rfl, R⟩
    · unfold BP_spread
      rw [W, ob_some, if_neg h, en, if_neg (by decide)]
    · rw [M mem rfl, if_neg h]
