/-! looks() whole; greatest; SPAN -/
theorem QI_MV {m0 m : Mem} {A : Int → Int} {s : Int × Int × Int × Int} (V : MV m0 A) (I : QI m0 s m) : MV m A := MV_ftr V I.2
theorem looks_loop {m0 : Mem} {A : Int → Int} (v : VA A) (hn : 2 ≤ A 1) (V : MV m0 A) {g : Int} (hg : g = 1 ∨ g = -1) (K : Mem → Option Mem) : ∀ (d n : Nat) (i : Nat) (m : Mem), (i : Int) + (d : Int) = A 0 → d < n → QI m0 (pkN A g i) m → ∃ m', Mo_looks_L7 g K n (i : Int) m = K m' ∧ QI m0 (pkN A g (A 0).toNat) m' := by
  have l10 := v.1
  intro d
  induction d with
  | zero =>
    intro n i m hi hd I
    obtain ⟨n', rfl⟩ : ∃ n', n = n' + 1 := ⟨n - 1, by omega⟩
    refine ⟨m, ?_, by rw [show (A 0).toNat = i by omega]; exact I⟩
    rw [Mo_looks_L7, (QI_MV V I).1, show A 0 = (i : Int) by omega, if_pos (Int.le_refl _)]
  | succ d ih =>
    intro n i m hi hd I
    obtain ⟨n', rfl⟩ : ∃ n', n = n' + 1 := ⟨n - 1, by omega⟩
    have Vm := QI_MV V I
    obtain ⟨r, w, q, p1, p2, p3, p4, p5, p6, -, -, p9⟩ := parts_eq v hn Vm (i := (i : Int)) (by omega) (by omega)
    have o : m 149 13 = m0 149 13 := I.2 _ _ (by omega)
    rw [o] at p5 p6
    have sg : s32 g = g := by rcases hg with rfl | rfl <;> decide
    have qb := ab_g hg (ZS_pl v (p := (i : Int)) (by omega)).2.2.2
    have sqq : s32 (g * q) = sqA A g (i : Int) := by rw [p9]; unfold sqA; unfold ab at qb; exact s32_id (by omega) (by omega)
    obtain ⟨m13, e13, J⟩ := looks_node v hn V hg (k := (i : Int)) (by omega) (by omega) I p5
    obtain ⟨m', e', J'⟩ := looks_turn v hn V hg (k := (i : Int)) (by omega) (by omega) J p5 p6 (fun m => Mo_looks_L7 g K n' ((i : Int) + 1) m)
    obtain ⟨m2, e2, J2⟩ := ih n' (i + 1) m' (by omega) (by omega) J'
    refine ⟨m2, ?_, J2⟩
    rw [Mo_looks_L7, Vm.1, s32_id (a := A 0) (by omega) (by omega), s32_id (a := (i : Int)) (by omega) (by omega), if_neg (by omega), p1, ob_some, lt_id, p2, ob_some, lt_id, p3, ob_some, lt_id, sg, sqq, o, e13, ob_some]
    rw [e']
    rw [show (i : Int) + 1 = ((i + 1 : Nat) : Int) by omega]
    exact e2
theorem looks_eq {m : Mem} {A : Int → Int} (v : VA A) (hn : 2 ≤ A 1) (V : MV m A) {g : Int} (hg : g = 1 ∨ g = -1) : ∃ m', Mo_looks g m = some m' ∧ QI m (pk A g) m' := by
  have l10 := v.1
  have sg : s32 g = g := by rcases hg with rfl | rfl <;> decide
  unfold Mo_looks
  rw [lt_id, jn_id]
  have V1 : MV (mset m 149 16 0) A := MV_ftr V (fun c i hc => by rw [mset_if, if_neg (by omega)])
  obtain ⟨m2, e2, I2⟩ := looks_loop v hn V1 hg (fun m2 => (Mo_momentAt (s32 (m2 150 0)) 1 m2).bind (fun r3 => (Mo_tries ((s32 g) * r3) (2 * (m2 149 13)) (s32 (m2 150 0)) 1 m2).bind (fun m4 => some m4))) (A 0).toNat 2000 0 (mset m 149 16 0) (by omega) (by omega) ⟨Or.inl ⟨rfl, mset_here _ _ _ _⟩, fun _ _ _ => rfl⟩
  have e2' : Mo_looks_L7 g (fun m2 => (Mo_momentAt (s32 (m2 150 0)) 1 m2).bind (fun r3 => (Mo_tries ((s32 g) * r3) (2 * (m2 149 13)) (s32 (m2 150 0)) 1 m2).bind (fun m4 => some m4))) 2000 0 (mset m 149 16 0) = _ := e2
  rw [e2']
  have Vm := QI_MV V1 I2
  obtain ⟨r, r1, r2⟩ := momentAt_eq v hn Vm (a := A 0) (b := 1) (by omega) (by omega)
  have o : m2 149 13 = mset m 149 16 0 149 13 := I2.2 _ _ (by omega)
  rw [o] at r2
  obtain ⟨m4, e4, J⟩ := looks_node v hn V1 hg (k := A 0) (by omega) (by omega) I2 r2
  rw [Vm.1, s32_id (a := A 0) (by omega) (by omega), r1, ob_some, sg, o, e4, ob_some]
  exact ⟨m4, rfl, J.1, fun c i hc => by rw [J.2 c i hc, mset_if, if_neg (by omega)]⟩
theorem QM_pos {m : Mem} {s : Int × Int × Int × Int} (h : QM m s) (hs : 0 < s.2.1) : (0 < m 149 16 ∧ m 149 16 ≤ 200000000000000) ∧ ab (m 149 15) 3000000000000000000 ∧ m 149 15 * s.2.1 = s.1 * m 149 16 ∧ m 149 17 = s.2.2.1 ∧ m 149 18 = s.2.2.2 := by
  rcases h with ⟨z, -⟩ | ⟨-, z⟩
  · omega
  · exact z
theorem RP_pos {m : Mem} {a : Nat} {g : Int} {s : Int × Int × Int × Int} (h : RP m a g s) (hs : 0 < s.2.1) : m (a + 1) 0 = nm (g * s.1) s.2.1 ∧ m (a + 1) 1 = dn (g * s.1) s.2.1 ∧ m (a + 2) 0 = s.2.2.1 ∧ m (a + 2) 1 = s.2.2.2 := by
  rcases h.2 with ⟨z, -⟩ | ⟨-, -, z⟩
  · omega
  · exact z
theorem told_rd {r : Int} (hr : r = 0 ∨ r = 1) (c : Nat) (m : Mem) : Frac_told c r m = some (if r = 0 then m c 0 else m c 1) := by
  unfold Frac_told
  rcases hr with rfl | rfl
  · rw [s32_0, if_0]; rfl
  · rw [s32_1, if_1]; rfl
/-- what the class's greatest looks up -/
def gtR (A : Int → Int) (g w : Int) : Int := if w = 0 then nm (g * (pk A g).1) (pk A g).2.1 else if w = 1 then dn (g * (pk A g).1) (pk A g).2.1 else if w = 2 then (pk A g).2.2.1 else (pk A g).2.2.2
theorem ok_greatest (a : Int) (b : Int) (ha : r32 a) (hb : r32 b) : OkM (BP_greatest a b) (Mo_greatest a b) s64 := by
  intro mem R
  have R0 := R
  obtain ⟨⟨v, rb⟩, -, -, -, -, -, ⟨k1, k2, -⟩⟩ := R0
  have n4 := v.2.1
  have l10 := v.1
  have b2 := rb.2.1
  obtain ⟨ha1, ha2⟩ := ha
  obtain ⟨hb1, hb2⟩ := hb
  have e3 : s32 3 = 3 := s32_id (by decide) (by decide)
  have e2 : s32 2 = 2 := s32_id (by decide) (by decide)
  by_cases h1 : 2 ≤ mem 150 1
  · by_cases h2 : a = 0 ∨ a = 1
    · by_cases h3 : 0 ≤ b ∧ b ≤ 3
      · obtain ⟨g, hg, eg⟩ : ∃ g : Int, (g = 1 ∨ g = -1) ∧ g = (if a = 0 then 1 else -1) := by
          rcases h2 with rfl | rfl
          · exact ⟨1, Or.inl rfl, rfl⟩
          · exact ⟨-1, Or.inr rfl, rfl⟩
        obtain ⟨m4, e4, V, f4⟩ := asItIs_eq v h1 rb
        obtain ⟨m5, e5, P1, P2, V5, f5, c1, c2⟩ := findPeaks_eq v h1 V (by rw [f4 _ _ (by omega)]; exact k1) (by rw [f4 _ _ (by omega)]; exact k2)
        have R5 : Rel m5 := Rel_cls R (fun c i hc => by
          by_cases x : (c = 120 ∨ c = 123) ∧ i = 3
          · rcases x.1 with y | y
            · rw [y, x.2, c1, k1]
            · rw [y, x.2, c2, k2]
          · rw [f5 c i (by omega) (by omega), f4 c i (by omega)])
        have hA5 : m5 150 = mem 150 := by funext i; rw [f5 150 i (by omega) (by omega), f4 150 i (by omega)]
        have pp1 := pk_pos v h1 (g := 1) (Or.inl rfl)
        have pp2 := pk_pos v h1 (g := -1) (Or.inr rfl)
        have ppg := pk_pos v h1 (g := g) hg
        have r1 := RP_pos P1 pp1.1.1
        have r2 := RP_pos P2 pp2.1.1
        simp only [Nat.reduceAdd] at r1 r2
        have cl : BP_greatest a b mem = some (gtR (mem 150) g b, m5) := by
          unfold BP_greatest
          rw [Beam_stands_eq (by omega), ob_some, b2, if_pos h1, s32_1, if_1', s32_id (a := a) (by omega) (by omega), s32_id (a := b) (by omega) (by omega), e3, e2, jn_id, if_neg (show ¬ b < 0 by omega), if_pos h3.2, e4, ob_some, e5, ob_some]
          have rd : (if ¬ a = 0 then (if 2 ≤ b then ((Frac_told 125 (b - 2) m5).bind (fun r4 => some (r4, m5))) else ((Frac_told 124 b m5).bind (fun r5 => some (r5, m5)))) else (if 2 ≤ b then ((Frac_told 122 (b - 2) m5).bind (fun r6 => some (r6, m5))) else ((Frac_told 121 b m5).bind (fun r7 => some (r7, m5))))) = some (gtR (mem 150) g b, m5) := by
            unfold gtR
            rcases h2 with rfl | rfl
            · rw [if_0]
              rw [if_pos rfl] at eg
              subst eg
              by_cases c : 2 ≤ b
              · rw [if_pos c, told_rd (by omega), ob_some]
                by_cases d : b = 2
                · rw [if_pos (show b - 2 = 0 by omega), if_neg (show ¬ b = 0 by omega), if_neg (show ¬ b = 1 by omega), if_pos d, r1.2.2.1]
                · rw [if_neg (show ¬ b - 2 = 0 by omega), if_neg (show ¬ b = 0 by omega), if_neg (show ¬ b = 1 by omega), if_neg d, r1.2.2.2]
              · rw [if_neg c, told_rd (by omega), ob_some, r1.1, r1.2.1]
                by_cases d : b = 0
                · rw [if_pos d, if_pos d]
                · rw [if_neg d, if_neg d, if_pos (by omega)]
            · rw [if_1]
              rw [if_neg (by decide)] at eg
              subst eg
              by_cases c : 2 ≤ b
              · rw [if_pos c, told_rd (by omega), ob_some]
                by_cases d : b = 2
                · rw [if_pos (show b - 2 = 0 by omega), if_neg (show ¬ b = 0 by omega), if_neg (show ¬ b = 1 by omega), if_pos d, r2.2.2.1]
                · rw [if_neg (show ¬ b - 2 = 0 by omega), if_neg (show ¬ b = 0 by omega), if_neg (show ¬ b = 1 by omega), if_neg d, r2.2.2.2]
              · rw [if_neg c, told_rd (by omega), ob_some, r2.1, r2.2.1]
                by_cases d : b = 0
                · rw [if_pos d, if_pos d]
                · rw [if_neg d, if_neg d, if_pos (by omega)]
          rw [rd]
          by_cases c : a = 0
          · rw [if_pos c]
          · rw [if_neg c, if_neg (show ¬ ¬ a = 1 by omega)]
        obtain ⟨m7, e7, V7, f7⟩ := reactions_eq v h1 hA5
        obtain ⟨m8, e8, Q8⟩ := looks_eq v h1 V7 hg
        have q := QM_pos Q8.1 ppg.1.1
        have gb := ab_g hg q.2.1
        obtain ⟨m9, e9, g9, f9⟩ := is_frac (mem := m8) (p := g * m8 149 15) (q := m8 149 16) (X := g * (pk (mem 150) g).1) (D := (pk (mem 150) g).2.1) (b62_le gb (by decide)) ⟨by omega, by omega⟩ q.1.1 ppg.1.1 (by rw [Int.mul_assoc, q.2.2.1, Int.mul_assoc])
        have R8 : Rel m8 := Rel_mod R5 (fun c i x1 x2 x3 => by rw [Q8.2 c i (by omega), f7 c i (by omega) (by omega)])
        have R9 : Rel m9 := Rel_mod R8 (fun c i x1 x2 x3 => f9 c i (by omega))
        have sg : s32 g = g := by rcases hg with rfl | rfl <;> decide
        have mo : ∃ m', Mo_greatest a b m5 = some (gtR (mem 150) g b, m') ∧ Rel m' := by
          unfold Mo_greatest
          rw [s32_id (a := a) (by omega) (by omega), s32_id (a := b) (by omega) (by omega), in_part ⟨ha1, ha2⟩, ob_some, if_pos h2, s32_1, if_1', Mo_in_eq (by omega) (by omega) (by omega), ob_some, if_pos h3, s32_1, if_1', Mo_stands_eq (by rw [hA5]; omega), hA5, ob_some, if_pos h1, s32_1, if_1, e7, ob_some, jn_id]
          have hgo : ∀ K : Int → Option (Int × Mem), (if ¬ a = 0 then K (-1) else K 1) = K g := by
            intro K
            rw [eg]
            by_cases c : a = 0
            · rw [if_pos c, if_neg (fun z => z c)]
            · rw [if_neg c, if_pos c]
          rw [hgo (fun x5 => (Mo_looks x5 m7).bind (fun m6 => if b ≤ 1 then ((Mo_is ((s32 x5) * (m6 149 15)) (m6 149 16) m6).bind (fun m7 => if ¬ b = 0 then (some ((m7 149 6), m7)) else (some ((m7 149 5), m7)))) else (if ¬ b = s32 2 then (some ((m6 149 18), m6)) else (some ((m6 149 17), m6)))))]
          rw [e8, ob_some, sg, e9, ob_some, e2]
          unfold gtR
          by_cases c : b ≤ 1
          · rw [if_pos c]
            by_cases d : b = 0
            · rw [if_neg (fun z => z d), if_pos d, g9.1]; exact ⟨m9, rfl, R9⟩
            · rw [if_pos d, if_neg d, if_pos (by omega), g9.2]; exact ⟨m9, rfl, R9⟩
          · rw [if_neg c, if_neg (show ¬ b = 0 by omega), if_neg (show ¬ b = 1 by omega)]
            by_cases d : b = 2
            · rw [if_neg (fun z => z d), if_pos d, q.2.2.2.1]; exact ⟨m8, rfl, R8⟩
            · rw [if_pos d, if_neg d, q.2.2.2.2]; exact ⟨m8, rfl, R8⟩
        obtain ⟨m', mo1, mo2⟩ := mo
        exact ⟨_, m5, _, m', cl, mo1, rfl, mo2⟩
      · refine ⟨-9223372036854775808, mem, -9223372036854775808, mem, ?_, ?_, rfl, R⟩
        · unfold BP_greatest
          rw [Beam_stands_eq (by omega), ob_some, b2, if_pos h1, s32_1, if_1', s32_id (a := a) (by omega) (by omega), s32_id (a := b) (by omega) (by omega), e3, jn_id]
          have z : ∀ o : Option (Int × Mem), (if b < 0 then some ((-9223372036854775808 : Int), mem) else if b ≤ 3 then o else some (-9223372036854775808, mem)) = some (-9223372036854775808, mem) := by
            intro o
            by_cases z : b < 0
            · rw [if_pos z]
            · rw [if_neg z, if_neg (by omega)]
          rw [z]
          by_cases c : a = 0
          · rw [if_pos c]
          · rw [if_neg c]
            by_cases d : a = 1
            · rw [if_neg (fun z => z d)]
            · rw [if_pos d]
        · unfold Mo_greatest
          rw [s32_id (a := a) (by omega) (by omega), s32_id (a := b) (by omega) (by omega), in_part ⟨ha1, ha2⟩, ob_some, if_pos h2, s32_1, if_1', Mo_in_eq (by omega) (by omega) (by omega), ob_some, if_neg h3, s32_0, if_0']
    · refine ⟨-9223372036854775808, mem, -9223372036854775808, mem, ?_, ?_, rfl, R⟩
      · unfold BP_greatest
        rw [Beam_stands_eq (by omega), ob_some, b2, if_pos h1, s32_1, if_1', s32_id (a := a) (by omega) (by omega), jn_id, if_neg (show ¬ a = 0 by omega), if_pos (show ¬ a = 1 by omega)]
      · unfold Mo_greatest
        rw [s32_id (a := a) (by omega) (by omega), in_part ⟨ha1, ha2⟩, ob_some, if_neg h2, s32_0, if_0']
  · refine ⟨-9223372036854775808, mem, -9223372036854775808, mem, ?_, ?_, rfl, R⟩
    · unfold BP_greatest
      rw [Beam_stands_eq (by omega), ob_some, b2, if_neg h1, s32_0, if_0']
    · unfold Mo_greatest
      rw [s32_id (a := a) (by omega) (by omega), s32_id (a := b) (by omega) (by omega), in_part ⟨ha1, ha2⟩, ob_some, Mo_in_eq (by omega) (by omega) (by omega), ob_some, Mo_stands_eq n4, ob_some, if_neg h1, s32_0, if_0]
      by_cases h2 : a = 0 ∨ a = 1
      · rw [if_pos h2, s32_1, if_1']
        by_cases h3 : 0 ≤ b ∧ b ≤ 3
        · rw [if_pos h3, s32_1, if_1']
        · rw [if_neg h3, s32_0, if_0']
      · rw [if_neg h2, s32_0, if_0']
