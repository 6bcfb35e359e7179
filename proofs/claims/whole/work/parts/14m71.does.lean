/-! what a statement does: the model at its beam, the class at its trial -/
def MI (m : Mem) : Prop := VA (m 150) ∧ (0 ≤ m 149 4 ∧ m 149 4 ≤ 10)
def ClsDoes (A : Int → Int) (w : Int) (V : Int → Int) (r6 : Int) (B : Int → Int) : Prop := ∀ mc : Mem, RB mc 132 A → mc 131 4 = w → (∀ k, 0 ≤ k → k < numsF w → mc 142 k = V k) → (0 ≤ r6 ∧ ∃ mc', Rd_whyNotStatement mc = some 0 ∧ Rd_takeStatement mc = some mc' ∧ RB mc' 132 B ∧ (∀ c i, ¬ (132 ≤ c ∧ c ≤ 140) → mc' c i = mc c i)) ∨ (r6 < 0 ∧ ∃ z, Rd_whyNotStatement mc = some z ∧ r32 z ∧ ¬ z = 0)
def Does (A : Int → Int) (w : Int) (V : Int → Int) (m : Mem) : Prop := ∃ r6 m7, Mo_does w m = some (r6, m7) ∧ r32 r6 ∧ MI m7 ∧ (∀ c i, ¬ (c = 150 ∨ c = 152 ∨ (c = 149 ∧ i = 4)) → m7 c i = m c i) ∧ ClsDoes A w V r6 (m7 150)
theorem kh_b {h : Int} (h0 : 0 ≤ h ∧ h ≤ 10) : 0 ≤ kh h ∧ kh h ≤ 10 := by unfold kh; split <;> omega
theorem nn : numsF 0 = 1 ∧ numsF 1 = 1 ∧ numsF 2 = 1 ∧ numsF 3 = 2 ∧ numsF 4 = 3 ∧ numsF 5 = 2 := by decide +kernel
/-- refused by both -/
theorem Does_no {A : Int → Int} {w : Int} {V : Int → Int} {m : Mem} {r : Int} (v : VA A) (hA : m 150 = A) (hh : 0 ≤ m 149 4 ∧ m 149 4 ≤ 10) (e : Mo_does w m = some (r, m)) (hr : -100 ≤ r ∧ r < 0) (h : ∀ mc : Mem, RB mc 132 A → mc 131 4 = w → (∀ k, 0 ≤ k → k < numsF w → mc 142 k = V k) → Rd_whyNotStatement mc = some r) : Does A w V m :=
  ⟨r, m, e, r32_of (by omega), ⟨by rw [hA]; exact v, hh⟩, fun _ _ _ => rfl, fun mc rb h4 hv => Or.inr ⟨hr.2, r, h mc rb h4 hv, r32_of (by omega), by omega⟩⟩
theorem does_beam {A : Int → Int} {V : Int → Int} {m : Mem} (v : VA A) (hA : m 150 = A) (hh : 0 ≤ m 149 4 ∧ m 149 4 ≤ 10) (hx : m 165 0 = V 0) (hb : ∀ k, -99 ≤ V k ∧ V k ≤ 99) : Does A 0 V m := by
  have l10 := v.1
  have b0 := hb 0
  by_cases c : 2 ≤ V 0 ∧ V 0 ≤ 10
  · obtain ⟨m7, e7, a7, h7, f7⟩ := moBeam_eq (m := m) c
    have q : m 150 0 = A 0 := by rw [hA]
    refine ⟨m 150 0, m7, ?_, r32_of (by omega), ⟨by rw [a7]; exact VA_z _ c, by rw [h7]; decide⟩, fun c i hc => f7 c i (by omega), fun mc rb h4 hv => Or.inl ⟨by omega, ?_⟩⟩
    · unfold Mo_does
      rw [lt_id, lt_id, hx, s32_0, if_0', e7, bdI_some]
    · have n0 : mc 142 0 = V 0 := hv 0 (Int.le_refl 0) (by rw [nn.1]; decide)
      obtain ⟨mc', e', b', f'⟩ := clear_eq (m := mc) (a := 132) A (V 0)
      refine ⟨mc', ?_, ?_, by rw [a7, hA]; exact b', fun c i hc => f' c i (by omega)⟩
      · unfold Rd_whyNotStatement
        rw [h4, s32_0, if_0', n0, whyNotLength_eq (r32_of (by omega)), if_pos c, ob_some]
      · unfold Rd_takeStatement
        rw [h4, s32_0, if_0', n0, e', ob_some]
  · refine Does_no (r := -1) v hA hh ?_ (by decide) (fun mc rb h4 hv => ?_)
    · unfold Mo_does Mo_beam
      rw [lt_id, lt_id, hx, s32_0, if_0', s32_id (a := V 0) (by omega) (by omega), Mo_in_eq (by omega) (by omega) (by omega), ob_some, if_neg c, s32_0, if_0, bdI_some]
    · have n0 : mc 142 0 = V 0 := hv 0 (Int.le_refl 0) (by rw [nn.1]; decide)
      unfold Rd_whyNotStatement
      rw [h4, s32_0, if_0', n0, whyNotLength_eq (r32_of (by omega)), if_neg c, ob_some]
theorem does_support {A : Int → Int} {V : Int → Int} {m : Mem} (v : VA A) (hA : m 150 = A) (hh : 0 ≤ m 149 4 ∧ m 149 4 ≤ 10) (hx : m 165 0 = V 0) (hb : ∀ k, -99 ≤ V k ∧ V k ≤ 99) : Does A 1 V m := by
  have l10 := v.1
  have n4 := v.2.1
  have b0 := hb 0
  have e4 : s32 4 = 4 := s32_id (by decide) (by decide)
  have rx : r32 (V 0) := r32_of (by omega)
  have n0 : ∀ mc : Mem, (∀ k, 0 ≤ k → k < numsF 1 → mc 142 k = V k) → mc 142 0 = V 0 := fun mc hv => hv 0 (Int.le_refl 0) (by rw [nn.2.1]; decide)
  have D : Mo_does 1 m = bdI (Mo_support (V 0) m) (fun r7 m8 => some (r7, m8)) := by
    unfold Mo_does
    rw [lt_id, lt_id, hx, s32_1, if_1', if_pos rfl]
  have W : ∀ mc : Mem, mc 131 4 = 1 → (∀ k, 0 ≤ k → k < numsF 1 → mc 142 k = V k) → Rd_whyNotStatement mc = (Beam_whyNotSupport 132 (V 0) mc).bind (fun r4 => some r4) := by
    intro mc h4 hv
    unfold Rd_whyNotStatement
    rw [h4, s32_1, if_1', if_pos rfl, n0 mc hv]
  by_cases h1 : 0 ≤ V 0 ∧ V 0 ≤ A 0
  · rcases supportAt_eq v hA rx with ⟨k, k0, k1, k2, k3⟩ | ⟨k2, k3⟩
    · refine Does_no (r := -6) v hA hh ?_ (by decide) (fun mc rb h4 hv => ?_)
      · rw [D]
        unfold Mo_support
        rw [Mo_isPlace_eq rx (by rw [hA]; exact r32_of (by omega)), hA, ob_some, if_pos h1, s32_1, if_1, k3, ob_some, s32_id (a := k) (by omega) (by omega), if_neg (by omega), bdI_some]
      · rw [W mc h4 hv, whyNotSupport_eq v rb rx, if_pos h1, if_pos (atB_1 n4.2 k0 k1 k2), ob_some]
    · by_cases h3 : A 1 < 4
      · obtain ⟨p, hp⟩ := spot_ex v (V 0) k2
        have hp' := hp
        obtain ⟨p0, p1, -⟩ := hp'
        obtain ⟨m7, e7, a7, h7, -, f7⟩ := moSupport_eq v hA rfl hh h1 h3 hp k2
        refine ⟨p, m7, by rw [D, e7, bdI_some], r32_of (by omega), ⟨by rw [a7]; exact VA_ins v h3 h1 hp, by rw [h7]; exact kh_b hh⟩, f7, fun mc rb h4 hv => Or.inl ⟨p0, ?_⟩⟩
        obtain ⟨mc', e', b', f'⟩ := putSupport_eq v rb h3 h1 hp
        refine ⟨mc', ?_, ?_, by rw [a7]; exact b', fun c i hc => f' c i (by omega)⟩
        · rw [W mc h4 hv, whyNotSupport_eq v rb rx, if_pos h1, if_neg (atB_0 k2), if_pos h3, ob_some]
        · unfold Rd_takeStatement
          rw [h4, s32_1, if_1', if_pos rfl, n0 mc hv, e', bdI_some]
      · refine Does_no (r := -3) v hA hh ?_ (by decide) (fun mc rb h4 hv => ?_)
        · rw [D]
          unfold Mo_support
          rw [Mo_isPlace_eq rx (by rw [hA]; exact r32_of (by omega)), hA, ob_some, if_pos h1, s32_1, if_1, k3, ob_some, s32_id (a := -1) (by decide) (by decide), if_pos (by decide), s32_id (a := A 1) (by omega) (by omega), e4, if_neg (show ¬ ¬ A 1 = 4 by omega), bdI_some]
        · rw [W mc h4 hv, whyNotSupport_eq v rb rx, if_pos h1, if_neg (atB_0 k2), if_neg h3, ob_some]
  · refine Does_no (r := -1) v hA hh ?_ (by decide) (fun mc rb h4 hv => ?_)
    · rw [D]
      unfold Mo_support
      rw [Mo_isPlace_eq rx (by rw [hA]; exact r32_of (by omega)), hA, ob_some, if_neg h1, s32_0, if_0, bdI_some]
    · rw [W mc h4 hv, whyNotSupport_eq v rb rx, if_neg h1, ob_some]
theorem does_hinge {A : Int → Int} {V : Int → Int} {m : Mem} (v : VA A) (hA : m 150 = A) (hh : 0 ≤ m 149 4 ∧ m 149 4 ≤ 10) (hx : m 165 0 = V 0) (hb : ∀ k, -99 ≤ V k ∧ V k ≤ 99) : Does A 2 V m := by
  have l10 := v.1
  have n4 := v.2.1
  have b0 := hb 0
  have e2 : s32 2 = 2 := s32_id (by decide) (by decide)
  have rx : r32 (V 0) := r32_of (by omega)
  have n0 : ∀ mc : Mem, (∀ k, 0 ≤ k → k < numsF 2 → mc 142 k = V k) → mc 142 0 = V 0 := fun mc hv => hv 0 (Int.le_refl 0) (by rw [nn.2.2.1]; decide)
  have D : Mo_does 2 m = bdI (Mo_hinge (V 0) 1 m) (fun r10 m11 => some (r10, m11)) := by
    unfold Mo_does
    rw [lt_id, lt_id, hx, e2, if_neg (by decide), if_neg (by decide), if_pos rfl]
  have W : ∀ mc : Mem, mc 131 4 = 2 → (∀ k, 0 ≤ k → k < numsF 2 → mc 142 k = V k) → Rd_whyNotStatement mc = (Beam_whyNotAtSupport 132 (V 0) mc).bind (fun r6 => some r6) := by
    intro mc h4 hv
    unfold Rd_whyNotStatement
    rw [h4, e2, if_neg (by decide), if_neg (by decide), if_pos rfl, n0 mc hv]
  have P : r32 1 := ⟨by decide, by decide⟩
  rcases supportAt_eq v hA rx with ⟨k, k0, k1, k2, k3⟩ | ⟨k2, k3⟩
  · have t := VA_at v k0 k1
    have h1 : 0 ≤ V 0 ∧ V 0 ≤ A 0 := by omega
    have jj := (v.2.2.2.2.1 k k0 k1).2.2
    obtain ⟨m1, e1, a1, -, f1⟩ := changes_eq (m := m) rfl hh
    have hA1 : m1 150 = A := by rw [← hA]; funext i; exact f1 150 i (by decide) (by omega)
    have hN : mset m1 150 (6 + k) 1 150 = setA A (6 + k) 1 := by funext i; rw [mset_c, hA1]; rfl
    refine ⟨A (6 + k), mset m1 150 (6 + k) 1, ?_, r32_of (by omega), ⟨by rw [hN]; exact VA_joint v k0 k1 (Or.inr rfl), by rw [mset_if, if_neg (by omega), a1]; exact kh_b hh⟩, fun c i hc => by rw [mset_if, if_neg (by omega), f1 c i (by omega) (by omega)], fun mc rb h4 hv => Or.inl ⟨by omega, ?_⟩⟩
    · rw [D]
      unfold Mo_hinge
      rw [Mo_isPlace_eq rx (by rw [hA]; exact r32_of (by omega)), hA, ob_some, if_pos h1, s32_1, if_1', in_part P, ob_some, if_pos (Or.inr rfl), s32_1, if_1, k3, ob_some, s32_id (a := k) (by omega) (by omega), if_pos k0, ck_id (by omega) (by omega) (by omega), s32_id (a := 6 + k) (by omega) (by omega), lt_id, e1, ob_some, ck_id (by omega) (by omega) (by omega), lt_id, bdI_some]
    · have Q := putHinge_eq v rb (w := 1) k0 k1
      rcases whyAt_eq v rb rx with ⟨j, j0, j1, j2, j3, j4⟩ | ⟨j2, -, -⟩
      · have ejk := at_unique v j0 j1 k0 k1 (by rw [j2, k2])
        rw [ejk] at j3
        refine ⟨mset mc (132 + 2) k 1, by rw [W mc h4 hv, j4, ob_some], ?_, by rw [hN]; exact Q.2, fun c i hc => by rw [mset_if, if_neg (by omega)]⟩
        unfold Rd_takeStatement
        rw [h4, e2, if_neg (by decide), if_neg (by decide), if_pos rfl, n0 mc hv, j3, ob_some, Q.1, bdI_some]
      · exact absurd k2 (j2 k k0 k1)
  · have ww : ∀ mc : Mem, RB mc 132 A → Beam_whyNotAtSupport 132 (V 0) mc = some (if 0 ≤ V 0 ∧ V 0 ≤ A 0 then -6 else -1) := by
      intro mc rb
      rcases whyAt_eq v rb rx with ⟨j, j0, j1, j2, j3, j4⟩ | ⟨j2, j3, j4⟩
      · exact absurd j2 (k2 j j0 j1)
      · exact j4
    refine Does_no (r := if 0 ≤ V 0 ∧ V 0 ≤ A 0 then -6 else -1) v hA hh ?_ (by split <;> decide) (fun mc rb h4 hv => by rw [W mc h4 hv, ww mc rb, ob_some])
    rw [D]
    unfold Mo_hinge
    rw [Mo_isPlace_eq rx (by rw [hA]; exact r32_of (by omega)), hA, ob_some, s32_1, in_part P, ob_some, k3, ob_some, if_pos (show (1 : Int) = 0 ∨ (1 : Int) = 1 from Or.inr rfl)]
    by_cases c : 0 ≤ V 0 ∧ V 0 ≤ A 0
    · rw [if_pos c, if_pos c, s32_1, if_1', if_1, s32_id (a := -1) (by decide) (by decide), if_neg (by decide), bdI_some]
    · rw [if_neg c, if_neg c, s32_0, if_0', bdI_some]
theorem whyNotPoint_eq {m : Mem} {a : Nat} {A : Int → Int} (v : VA A) (h : RB m a A) {x w : Int} (hx : r32 x) (hw : r32 w) : Beam_whyNotPoint a x w m = some (if (0 ≤ x ∧ x ≤ A 0) ∧ (-9 ≤ w ∧ w ≤ 9) then (if A 10 < 6 then 0 else -3) else -1) := by
  have v3 := v.2.2.1
  have l10 := v.1
  unfold Beam_whyNotPoint
  rw [Beam_isPlace_eq hx (by rw [h.1]; exact r32_of (by omega)), h.1, ob_some, isV_eq hw, ob_some, h.2.2.1, s32_id (a := A 10) (by omega) (by omega), s32_id (a := 6) (by decide) (by decide)]
  by_cases c : 0 ≤ x ∧ x ≤ A 0
  · rw [if_pos c, s32_1, if_1']
    by_cases d : -9 ≤ w ∧ w ≤ 9
    · rw [if_pos d, s32_1, if_1, if_pos (show (0 ≤ x ∧ x ≤ A 0) ∧ (-9 ≤ w ∧ w ≤ 9) from ⟨c, d⟩)]
      by_cases e : A 10 < 6
      · rw [if_pos e, if_pos e]
      · rw [if_neg e, if_neg e]
    · rw [if_neg d, s32_0, if_0, if_neg (fun z => d z.2)]
  · rw [if_neg c, s32_0, if_0', if_neg (fun z => c z.1)]
theorem moPoint_eq {m : Mem} {A : Int → Int} (v : VA A) (hA : m 150 = A) {x w : Int} (hx : r32 x) (hw : r32 w) : Mo_point x w m = (if (0 ≤ x ∧ x ≤ A 0) ∧ (-9 ≤ w ∧ w ≤ 9) then bdI (Mo_comes x x w m) (fun r3 m4 => some (r3, m4)) else some (-1, m)) := by
  have l10 := v.1
  obtain ⟨w1, w2⟩ := hw
  unfold Mo_point
  rw [Mo_isPlace_eq hx (by rw [hA]; exact r32_of (by omega)), hA, ob_some, s32_id (a := w) (by omega) (by omega), Mo_in_eq (by omega) (by omega) (by omega), ob_some]
  by_cases c : 0 ≤ x ∧ x ≤ A 0
  · rw [if_pos c, s32_1, if_1']
    by_cases d : -9 ≤ w ∧ w ≤ 9
    · rw [if_pos d, s32_1, if_1', if_pos (show (0 ≤ x ∧ x ≤ A 0) ∧ (-9 ≤ w ∧ w ≤ 9) from ⟨c, d⟩)]
    · rw [if_neg d, s32_0, if_0', if_neg (fun z => d z.2)]
  · rw [if_neg c, s32_0, if_0', if_neg (fun z => c z.1)]
theorem comes_full {m : Mem} {A : Int → Int} (v : VA A) (hA : m 150 = A) (hl : ¬ A 10 < 6) (x y w : Int) : Mo_comes x y w m = some (-3, m) := by
  have v3 := v.2.2.1
  unfold Mo_comes
  rw [hA, s32_id (a := A 10) (by omega) (by omega), s32_id (a := 6) (by decide) (by decide), if_neg (show ¬ ¬ A 10 = 6 by omega)]
theorem does_point {A : Int → Int} {V : Int → Int} {m : Mem} (v : VA A) (hA : m 150 = A) (hh : 0 ≤ m 149 4 ∧ m 149 4 ≤ 10) (hx : m 165 0 = V 0) (hy : m 165 1 = V 1) (hb : ∀ k, -99 ≤ V k ∧ V k ≤ 99) : Does A 3 V m := by
  have l10 := v.1
  have v3 := v.2.2.1
  have b0 := hb 0
  have b1 := hb 1
  have e3 : s32 3 = 3 := s32_id (by decide) (by decide)
  have e2 : s32 2 = 2 := s32_id (by decide) (by decide)
  have rx : r32 (V 0) := r32_of (by omega)
  have ry : r32 (V 1) := r32_of (by omega)
  have n0 : ∀ mc : Mem, (∀ k, 0 ≤ k → k < numsF 3 → mc 142 k = V k) → mc 142 0 = V 0 ∧ mc 142 1 = V 1 := fun mc hv => ⟨hv 0 (Int.le_refl 0) (by rw [nn.2.2.2.1]; decide), hv 1 (by decide) (by rw [nn.2.2.2.1]; decide)⟩
  have D : Mo_does 3 m = bdI (Mo_point (V 0) (V 1) m) (fun r13 m14 => some (r13, m14)) := by
    unfold Mo_does
    rw [lt_id, lt_id, hx, hy, e3, if_neg (by decide), if_neg (by decide), if_neg (by decide), if_pos rfl]
  have W : ∀ mc : Mem, mc 131 4 = 3 → (∀ k, 0 ≤ k → k < numsF 3 → mc 142 k = V k) → Rd_whyNotStatement mc = (Beam_whyNotPoint 132 (V 0) (V 1) mc).bind (fun r8 => some r8) := by
    intro mc h4 hv
    unfold Rd_whyNotStatement
    rw [h4, e3, if_neg (by decide), if_neg (by decide), if_neg (by decide), if_pos rfl, (n0 mc hv).1, (n0 mc hv).2]
  by_cases h : (0 ≤ V 0 ∧ V 0 ≤ A 0) ∧ (-9 ≤ V 1 ∧ V 1 ≤ 9)
  · by_cases hl : A 10 < 6
    · obtain ⟨m7, e7, a7, h7, -, f7⟩ := comes_eq v hA rfl hh (x := V 0) (y := V 0) (w := V 1) hl
      refine ⟨A 10, m7, by rw [D, moPoint_eq v hA rx ry, if_pos h, e7, bdI_some, bdI_some], r32_of (by omega), ⟨by rw [a7]; exact VA_ld v hl ⟨h.1.1, Int.le_refl _, h.1.2⟩ h.2, by rw [h7]; exact kh_b hh⟩, f7, fun mc rb h4 hv => Or.inl ⟨by omega, ?_⟩⟩
      obtain ⟨mc', e', b', f'⟩ := putLoad_eq v rb hl (x := V 0) (y := V 0) (w := V 1) (p := 1) (by rw [if_pos rfl])
      refine ⟨mc', by rw [W mc h4 hv, whyNotPoint_eq v rb rx ry, if_pos h, if_pos hl, ob_some], ?_, by rw [a7]; exact b', fun c i hc => f' c i (by omega)⟩
      unfold Rd_takeStatement
      rw [h4, e3, if_neg (by decide), if_neg (by decide), if_neg (by decide), if_pos rfl, (n0 mc hv).1, (n0 mc hv).2, e', bdI_some]
    · exact Does_no (r := -3) v hA hh (by rw [D, moPoint_eq v hA rx ry, if_pos h, comes_full v hA hl, bdI_some, bdI_some]) (by decide) (fun mc rb h4 hv => by rw [W mc h4 hv, whyNotPoint_eq v rb rx ry, if_pos h, if_neg hl, ob_some])
  · exact Does_no (r := -1) v hA hh (by rw [D, moPoint_eq v hA rx ry, if_neg h, bdI_some]) (by decide) (fun mc rb h4 hv => by rw [W mc h4 hv, whyNotPoint_eq v rb rx ry, if_neg h, ob_some])
theorem whyNotSpread_eq {m : Mem} {k : Nat} {A : Int → Int} (v : VA A) (h : RB m k A) {a b c : Int} (ha : r32 a) (hb : r32 b) (hc : r32 c) : Beam_whyNotSpread k a b c m = some (if (0 ≤ a ∧ a ≤ A 0) ∧ (0 ≤ b ∧ b ≤ A 0) ∧ a < b ∧ (-9 ≤ c ∧ c ≤ 9) then (if A 10 < 6 then 0 else -3) else -1) := by
  have v3 := v.2.2.1
  have l10 := v.1
  have ha' := ha
  have hb' := hb
  obtain ⟨ha1, ha2⟩ := ha'
  obtain ⟨hb1, hb2⟩ := hb'
  unfold Beam_whyNotSpread
  rw [Beam_isPlace_eq ha (by rw [h.1]; exact r32_of (by omega)), h.1, ob_some, Beam_isPlace_eq hb (by rw [h.1]; exact r32_of (by omega)), h.1, ob_some, isV_eq hc, ob_some, h.2.2.1, s32_id (a := a) (by omega) (by omega), s32_id (a := b) (by omega) (by omega), s32_id (a := A 10) (by omega) (by omega), s32_id (a := 6) (by decide) (by decide)]
  by_cases h1 : 0 ≤ a ∧ a ≤ A 0
  · rw [if_pos h1, s32_1, if_1']
    by_cases h2 : 0 ≤ b ∧ b ≤ A 0
    · rw [if_pos h2, s32_1, if_1']
      by_cases h3 : b ≤ a
      · rw [if_pos h3, if_neg (by omega)]
      · rw [if_neg h3]
        by_cases h4 : -9 ≤ c ∧ c ≤ 9
        · rw [if_pos h4, s32_1, if_1, if_pos (show (0 ≤ a ∧ a ≤ A 0) ∧ (0 ≤ b ∧ b ≤ A 0) ∧ a < b ∧ (-9 ≤ c ∧ c ≤ 9) by omega)]
          by_cases h5 : A 10 < 6
          · rw [if_pos h5, if_pos h5]
          · rw [if_neg h5, if_neg h5]
        · rw [if_neg h4, s32_0, if_0, if_neg (by omega)]
    · rw [if_neg h2, s32_0, if_0', if_neg (by omega)]
  · rw [if_neg h1, s32_0, if_0', if_neg (by omega)]
theorem moSpread_eq {m : Mem} {A : Int → Int} (v : VA A) (hA : m 150 = A) {a b c : Int} (ha : r32 a) (hb : r32 b) (hc : r32 c) : Mo_spread a b c m = (if (0 ≤ a ∧ a ≤ A 0) ∧ (0 ≤ b ∧ b ≤ A 0) ∧ a < b ∧ (-9 ≤ c ∧ c ≤ 9) then bdI (Mo_comes a b c m) (fun r4 m5 => some (r4, m5)) else some (-1, m)) := by
  have l10 := v.1
  have ha' := ha
  have hb' := hb
  obtain ⟨ha1, ha2⟩ := ha'
  obtain ⟨hb1, hb2⟩ := hb'
  obtain ⟨hc1, hc2⟩ := hc
  unfold Mo_spread
  rw [Mo_isPlace_eq ha (by rw [hA]; exact r32_of (by omega)), ob_some, Mo_isPlace_eq hb (by rw [hA]; exact r32_of (by omega)), ob_some, hA, s32_id (a := a) (by omega) (by omega), s32_id (a := b) (by omega) (by omega), s32_id (a := c) (by omega) (by omega), Mo_in_eq (by omega) (by omega) (by omega), ob_some]
  by_cases h1 : 0 ≤ a ∧ a ≤ A 0
  · rw [if_pos h1, s32_1, if_1']
    by_cases h2 : 0 ≤ b ∧ b ≤ A 0
    · rw [if_pos h2, s32_1, if_1']
      by_cases h3 : b ≤ a
      · rw [if_pos h3, if_neg (by omega)]
      · rw [if_neg h3]
        by_cases h4 : -9 ≤ c ∧ c ≤ 9
        · rw [if_pos h4, s32_1, if_1', if_pos (show (0 ≤ a ∧ a ≤ A 0) ∧ (0 ≤ b ∧ b ≤ A 0) ∧ a < b ∧ (-9 ≤ c ∧ c ≤ 9) by omega)]
        · rw [if_neg h4, s32_0, if_0', if_neg (by omega)]
    · rw [if_neg h2, s32_0, if_0', if_neg (by omega)]
  · rw [if_neg h1, s32_0, if_0', if_neg (by omega)]
theorem does_spread {A : Int → Int} {V : Int → Int} {m : Mem} (v : VA A) (hA : m 150 = A) (hh : 0 ≤ m 149 4 ∧ m 149 4 ≤ 10) (hx : m 165 0 = V 0) (hy : m 165 1 = V 1) (hz : m 165 2 = V 2) (hb : ∀ k, -99 ≤ V k ∧ V k ≤ 99) : Does A 4 V m := by
  have l10 := v.1
  have v3 := v.2.2.1
  have b0 := hb 0
  have b1 := hb 1
  have b2 := hb 2
  have e4 : s32 4 = 4 := s32_id (by decide) (by decide)
  have e3 : s32 3 = 3 := s32_id (by decide) (by decide)
  have e2 : s32 2 = 2 := s32_id (by decide) (by decide)
  have rx : r32 (V 0) := r32_of (by omega)
  have ry : r32 (V 1) := r32_of (by omega)
  have rz : r32 (V 2) := r32_of (by omega)
  have n0 : ∀ mc : Mem, (∀ k, 0 ≤ k → k < numsF 4 → mc 142 k = V k) → mc 142 0 = V 0 ∧ mc 142 1 = V 1 ∧ mc 142 2 = V 2 := fun mc hv => ⟨hv 0 (Int.le_refl 0) (by rw [nn.2.2.2.2.1]; decide), hv 1 (by decide) (by rw [nn.2.2.2.2.1]; decide), hv 2 (by decide) (by rw [nn.2.2.2.2.1]; decide)⟩
  have D : Mo_does 4 m = bdI (Mo_spread (V 0) (V 1) (V 2) m) (fun r16 m17 => some (r16, m17)) := by
    unfold Mo_does
    rw [lt_id, lt_id, hx, hy, hz, e4, if_neg (by decide), if_neg (by decide), if_neg (by decide), if_neg (by decide), if_pos rfl]
  have W : ∀ mc : Mem, mc 131 4 = 4 → (∀ k, 0 ≤ k → k < numsF 4 → mc 142 k = V k) → Rd_whyNotStatement mc = (Beam_whyNotSpread 132 (V 0) (V 1) (V 2) mc).bind (fun r10 => some r10) := by
    intro mc h4 hv
    unfold Rd_whyNotStatement
    rw [h4, e4, if_neg (by decide), if_neg (by decide), if_neg (by decide), if_neg (by decide), if_pos rfl, (n0 mc hv).1, (n0 mc hv).2.1, (n0 mc hv).2.2]
  by_cases h : (0 ≤ V 0 ∧ V 0 ≤ A 0) ∧ (0 ≤ V 1 ∧ V 1 ≤ A 0) ∧ V 0 < V 1 ∧ (-9 ≤ V 2 ∧ V 2 ≤ 9)
  · by_cases hl : A 10 < 6
    · obtain ⟨m7, e7, a7, h7, -, f7⟩ := comes_eq v hA rfl hh (x := V 0) (y := V 1) (w := V 2) hl
      refine ⟨A 10, m7, by rw [D, moSpread_eq v hA rx ry rz, if_pos h, e7, bdI_some, bdI_some], r32_of (by omega), ⟨by rw [a7]; exact VA_ld v hl ⟨h.1.1, by omega, h.2.1.2⟩ h.2.2.2, by rw [h7]; exact kh_b hh⟩, f7, fun mc rb h4 hv => Or.inl ⟨by omega, ?_⟩⟩
      obtain ⟨mc', e', b', f'⟩ := putLoad_eq v rb hl (x := V 0) (y := V 1) (w := V 2) (p := 0) (by rw [if_neg (by omega)])
      refine ⟨mc', by rw [W mc h4 hv, whyNotSpread_eq v rb rx ry rz, if_pos h, if_pos hl, ob_some], ?_, by rw [a7]; exact b', fun c i hc => f' c i (by omega)⟩
      unfold Rd_takeStatement
      rw [h4, e4, if_neg (by decide), if_neg (by decide), if_neg (by decide), if_neg (by decide), if_pos rfl, (n0 mc hv).1, (n0 mc hv).2.1, (n0 mc hv).2.2, e', bdI_some]
    · exact Does_no (r := -3) v hA hh (by rw [D, moSpread_eq v hA rx ry rz, if_pos h, comes_full v hA hl, bdI_some, bdI_some]) (by decide) (fun mc rb h4 hv => by rw [W mc h4 hv, whyNotSpread_eq v rb rx ry rz, if_pos h, if_neg hl, ob_some])
  · exact Does_no (r := -1) v hA hh (by rw [D, moSpread_eq v hA rx ry rz, if_neg h, bdI_some]) (by decide) (fun mc rb h4 hv => by rw [W mc h4 hv, whyNotSpread_eq v rb rx ry rz, if_neg h, ob_some])
theorem does_axle {A : Int → Int} {V : Int → Int} {m : Mem} (v : VA A) (hA : m 150 = A) (hh : 0 ≤ m 149 4 ∧ m 149 4 ≤ 10) (hx : m 165 0 = V 0) (hy : m 165 1 = V 1) (hb : ∀ k, -99 ≤ V k ∧ V k ≤ 99) : Does A 5 V m := by
  have v4 := v.2.2.2.1
  have b0 := hb 0
  have b1 := hb 1
  have e5 : s32 5 = 5 := s32_id (by decide) (by decide)
  have e4 : s32 4 = 4 := s32_id (by decide) (by decide)
  have e3 : s32 3 = 3 := s32_id (by decide) (by decide)
  have e2 : s32 2 = 2 := s32_id (by decide) (by decide)
  have rx : r32 (V 0) := r32_of (by omega)
  have ry : r32 (V 1) := r32_of (by omega)
  have n0 : ∀ mc : Mem, (∀ k, 0 ≤ k → k < numsF 5 → mc 142 k = V k) → mc 142 0 = V 0 ∧ mc 142 1 = V 1 := fun mc hv => ⟨hv 0 (Int.le_refl 0) (by rw [nn.2.2.2.2.2]; decide), hv 1 (by decide) (by rw [nn.2.2.2.2.2]; decide)⟩
  have D : Mo_does 5 m = bdI (Mo_axle (V 0) (V 1) m) (fun r18 m19 => some (r18, m19)) := by
    unfold Mo_does
    rw [lt_id, lt_id, hx, hy, e5, if_neg (by decide), if_neg (by decide), if_neg (by decide), if_neg (by decide), if_neg (by decide)]
  have W : ∀ mc : Mem, mc 131 4 = 5 → (∀ k, 0 ≤ k → k < numsF 5 → mc 142 k = V k) → Rd_whyNotStatement mc = (Beam_whyNotAxle 132 (V 0) (V 1) mc).bind (fun r11 => some r11) := by
    intro mc h4 hv
    unfold Rd_whyNotStatement
    rw [h4, e5, if_neg (by decide), if_neg (by decide), if_neg (by decide), if_neg (by decide), if_neg (by decide), (n0 mc hv).1, (n0 mc hv).2]
  have M := moAxle_eq v hA rfl hh rx ry
  by_cases h : (0 ≤ V 0 ∧ V 0 ≤ 9) ∧ (1 ≤ V 1 ∧ V 1 ≤ 9)
  · by_cases hl : A 29 < 3
    · obtain ⟨m7, e7, a7, h7, -, f7⟩ := M.1 ⟨h.1, h.2, hl⟩
      refine ⟨A 29 + 1, m7, by rw [D, e7, bdI_some], r32_of (by omega), ⟨by rw [a7]; exact VA_ax v hl h.1 h.2, by rw [h7]; exact kh_b hh⟩, f7, fun mc rb h4 hv => Or.inl ⟨by omega, ?_⟩⟩
      obtain ⟨mc', e', b', f'⟩ := putAxle_eq v rb hl (V 0) (V 1)
      refine ⟨mc', by rw [W mc h4 hv, whyNotAxle_eq v rb rx ry, if_pos h, if_pos hl, ob_some], ?_, by rw [a7]; exact b', fun c i hc => f' c i (by omega)⟩
      unfold Rd_takeStatement
      rw [h4, e5, if_neg (by decide), if_neg (by decide), if_neg (by decide), if_neg (by decide), if_neg (by decide), (n0 mc hv).1, (n0 mc hv).2, e', bdI_some]
    · have q := M.2 (fun z => hl z.2.2)
      rw [if_pos h] at q
      exact Does_no (r := -3) v hA hh (by rw [D, q, bdI_some]) (by decide) (fun mc rb h4 hv => by rw [W mc h4 hv, whyNotAxle_eq v rb rx ry, if_pos h, if_neg hl, ob_some])
  · have q := M.2 (fun z => h ⟨z.1, z.2.1⟩)
    rw [if_neg h] at q
    exact Does_no (r := -1) v hA hh (by rw [D, q, bdI_some]) (by decide) (fun mc rb h4 hv => by rw [W mc h4 hv, whyNotAxle_eq v rb rx ry, if_neg h, ob_some])
theorem does_all {A : Int → Int} {V : Int → Int} {m : Mem} {w : Int} (v : VA A) (hA : m 150 = A) (hh : 0 ≤ m 149 4 ∧ m 149 4 ≤ 10) (hw : 0 ≤ w ∧ w ≤ 5) (hx : ∀ k, 0 ≤ k → k < numsF w → m 165 k = V k) (hb : ∀ k, -99 ≤ V k ∧ V k ≤ 99) : Does A w V m := by
  obtain ⟨q0, q1, q2, q3, q4, q5⟩ := nn
  rcases (show w = 0 ∨ w = 1 ∨ w = 2 ∨ w = 3 ∨ w = 4 ∨ w = 5 by omega) with rfl | rfl | rfl | rfl | rfl | rfl
  · exact does_beam v hA hh (hx 0 (by decide) (by omega)) hb
  · exact does_support v hA hh (hx 0 (by decide) (by omega)) hb
  · exact does_hinge v hA hh (hx 0 (by decide) (by omega)) hb
  · exact does_point v hA hh (hx 0 (by decide) (by omega)) (hx 1 (by decide) (by omega)) hb
  · exact does_spread v hA hh (hx 0 (by decide) (by omega)) (hx 1 (by decide) (by omega)) (hx 2 (by decide) (by omega)) hb
  · exact does_axle v hA hh (hx 0 (by decide) (by omega)) (hx 1 (by decide) (by omega)) hb
