/-! the law from its calls -/
theorem law_L (L : Nat) (xs : Nat → Int32) (hL : L ≤ 2560) : ∀ (n : Nat) (i : Int) (m : Mem), Rel m → 0 ≤ i → i ≤ (L : Int) → (L : Int) - i < 5 * (n : Int) - 5 → Law_L18 L xs n i m = some 1 := by
  intro n
  induction n with
  | zero => intro i m _ _ h1 h2; omega
  | succ n ih =>
    intro i m hm h0 h1 h2
    have sL : s32 ((L : Int) - 5) = (L : Int) - 5 := s32_id (by omega) (by omega)
    have si : s32 i = i := s32_id (by omega) (by omega)
    rw [Law_L18, sL, si]
    by_cases he : (L : Int) - 5 < i
    · rw [if_pos he]
    rw [if_neg he]
    have c0 : ∀ k : Option Int, ck i L k = k := fun k => ck_id h0 (by omega) (by omega)
    have c1 : ∀ k : Option Int, ck (i + 1) L k = k := fun k => ck_id (by omega) (by omega) (by omega)
    have c2 : ∀ k : Option Int, ck (i + 2) L k = k := fun k => ck_id (by omega) (by omega) (by omega)
    have c3 : ∀ k : Option Int, ck (i + 3) L k = k := fun k => ck_id (by omega) (by omega) (by omega)
    have c4 : ∀ k : Option Int, ck (i + 4) L k = k := fun k => ck_id (by omega) (by omega) (by omega)
    rw [c0, lt_id]
    generalize Int32.toInt _ = x
    have go : ∀ m', Rel m' → Law_L18 L xs n (i + 5) m' = some 1 := fun m' q => ih (i + 5) m' q (by omega) (by omega) (by omega)
    by_cases h : s32 x = 0
    · rw [if_pos h]
      obtain ⟨r, m1, r', m2, e1, e2, e3, e4⟩ := ok_beam _ (scI_r32 xs _) m hm
      rw [c1, e1, bdI_some, c1, e2, bdI_some, if_pos e3]
      exact go m2 e4
    rw [if_neg h]
    clear h
    by_cases h : s32 x = 1
    · rw [if_pos h]
      obtain ⟨r, m1, r', m2, e1, e2, e3, e4⟩ := ok_support _ (scI_r32 xs _) m hm
      rw [c1, e1, bdI_some, c1, e2, bdI_some, if_pos e3]
      exact go m2 e4
    rw [if_neg h]
    clear h
    by_cases h : s32 x = 2
    · rw [if_pos h]
      obtain ⟨r, m1, r', m2, e1, e2, e3, e4⟩ := ok_drop _ (scI_r32 xs _) m hm
      rw [c1, e1, bdI_some, c1, e2, bdI_some, if_pos e3]
      exact go m2 e4
    rw [if_neg h]
    clear h
    by_cases h : s32 x = 3
    · rw [if_pos h]
      obtain ⟨r, m1, r', m2, e1, e2, e3, e4⟩ := ok_hinge _ _ (scI_r32 xs _) (scI_r32 xs _) m hm
      rw [c1, c2, e1, bdI_some, c1, c2, e2, bdI_some, if_pos e3]
      exact go m2 e4
    rw [if_neg h]
    clear h
    by_cases h : s32 x = 4
    · rw [if_pos h]
      obtain ⟨r, m1, r', m2, e1, e2, e3, e4⟩ := ok_point _ _ (scI_r32 xs _) (scI_r32 xs _) m hm
      rw [c1, c2, e1, bdI_some, c1, c2, e2, bdI_some, if_pos e3]
      exact go m2 e4
    rw [if_neg h]
    clear h
    by_cases h : s32 x = 5
    · rw [if_pos h]
      obtain ⟨r, m1, r', m2, e1, e2, e3, e4⟩ := ok_spread _ _ _ (scI_r32 xs _) (scI_r32 xs _) (scI_r32 xs _) m hm
      rw [c1, c2, c3, e1, bdI_some, c1, c2, c3, e2, bdI_some, if_pos e3]
      exact go m2 e4
    rw [if_neg h]
    clear h
    by_cases h : s32 x = 6
    · rw [if_pos h]
      obtain ⟨r, m1, r', m2, e1, e2, e3, e4⟩ := ok_heavier _ _ (scI_r32 xs _) (scI_r32 xs _) m hm
      rw [c1, c2, e1, bdI_some, c1, c2, e2, bdI_some, if_pos e3]
      exact go m2 e4
    rw [if_neg h]
    clear h
    by_cases h : s32 x = 7
    · rw [if_pos h]
      obtain ⟨r, m1, r', m2, e1, e2, e3, e4⟩ := ok_lift _ (scI_r32 xs _) m hm
      rw [c1, e1, bdI_some, c1, e2, bdI_some, if_pos e3]
      exact go m2 e4
    rw [if_neg h]
    clear h
    by_cases h : s32 x = 8
    · rw [if_pos h]
      obtain ⟨r, m1, r', m2, e1, e2, e3, e4⟩ := ok_axle _ _ (scI_r32 xs _) (scI_r32 xs _) m hm
      rw [c1, c2, e1, bdI_some, c1, c2, e2, bdI_some, if_pos e3]
      exact go m2 e4
    rw [if_neg h]
    clear h
    by_cases h : s32 x = 9
    · rw [if_pos h]
      obtain ⟨r, m1, r', m2, e1, e2, e3, e4⟩ := ok_unhitch  m hm
      rw [e1, bdI_some, e2, bdI_some, if_pos e3]
      exact go m2 e4
    rw [if_neg h]
    clear h
    by_cases h : s32 x = 10
    · rw [if_pos h]
      obtain ⟨r, r', e1, e2, e3⟩ := ok_loadOf _ _ (scI_r32 xs _) (scI_r32 xs _) m hm
      rw [c1, c2, e1, ob_some, c1, c2, e2, ob_some, if_pos e3]
      exact go m hm
    rw [if_neg h]
    clear h
    by_cases h : s32 x = 11
    · rw [if_pos h]
      obtain ⟨r, r', e1, e2, e3⟩ := ok_supportOf _ _ (scI_r32 xs _) (scI_r32 xs _) m hm
      rw [c1, c2, e1, ob_some, c1, c2, e2, ob_some, if_pos e3]
      exact go m hm
    rw [if_neg h]
    clear h
    by_cases h : s32 x = 12
    · rw [if_pos h]
      obtain ⟨r, r', e1, e2, e3⟩ := ok_count _ (scI_r32 xs _) m hm
      rw [c1, e1, ob_some, c1, e2, ob_some, if_pos e3]
      exact go m hm
    rw [if_neg h]
    clear h
    by_cases h : s32 x = 13
    · rw [if_pos h]
      obtain ⟨r, m1, r', m2, e1, e2, e3, e4⟩ := ok_reaction _ _ (scI_r32 xs _) (scI_r32 xs _) m hm
      rw [c1, c2, e1, bdI_some, c1, c2, e2, bdI_some, if_pos e3]
      exact go m2 e4
    rw [if_neg h]
    clear h
    by_cases h : s32 x = 14
    · rw [if_pos h]
      obtain ⟨r, m1, r', m2, e1, e2, e3, e4⟩ := ok_shear _ _ (scI_r32 xs _) (scI_r32 xs _) m hm
      rw [c1, c2, e1, bdI_some, c1, c2, e2, bdI_some, if_pos e3]
      exact go m2 e4
    rw [if_neg h]
    clear h
    by_cases h : s32 x = 15
    · rw [if_pos h]
      obtain ⟨r, m1, r', m2, e1, e2, e3, e4⟩ := ok_moment _ _ _ (scI_r32 xs _) (scI_r32 xs _) (scI_r32 xs _) m hm
      rw [c1, c2, c3, e1, bdI_some, c1, c2, c3, e2, bdI_some, if_pos e3]
      exact go m2 e4
    rw [if_neg h]
    clear h
    by_cases h : s32 x = 16
    · rw [if_pos h]
      obtain ⟨r, m1, r', m2, e1, e2, e3, e4⟩ := ok_sag _ _ (scI_r32 xs _) (scI_r32 xs _) m hm
      rw [c1, c2, e1, bdI_some, c1, c2, e2, bdI_some, if_pos e3]
      exact go m2 e4
    rw [if_neg h]
    clear h
    by_cases h : s32 x = 17
    · rw [if_pos h]
      obtain ⟨r, m1, r', m2, e1, e2, e3, e4⟩ := ok_greatest _ _ (scI_r32 xs _) (scI_r32 xs _) m hm
      rw [c1, c2, e1, bdI_some, c1, c2, e2, bdI_some, if_pos e3]
      exact go m2 e4
    rw [if_neg h]
    clear h
    by_cases h : s32 x = 18
    · rw [if_pos h]
      obtain ⟨r, m1, r', m2, e1, e2, e3, e4⟩ := ok_lowest  m hm
      rw [e1, bdI_some, e2, bdI_some, if_pos e3]
      exact go m2 e4
    rw [if_neg h]
    clear h
    by_cases h : s32 x = 19
    · rw [if_pos h]
      obtain ⟨r, m1, r', m2, e1, e2, e3, e4⟩ := ok_times _ (scI_r32 xs _) m hm
      rw [c1, e1, bdI_some, c1, e2, bdI_some, if_pos e3]
      exact go m2 e4
    rw [if_neg h]
    clear h
    by_cases h : s32 x = 20
    · rw [if_pos h]
      obtain ⟨r, m1, r', m2, e1, e2, e3, e4⟩ := ok_rolls _ _ (scI_r32 xs _) (scI_r32 xs _) m hm
      rw [c1, c2, e1, bdI_some, c1, c2, e2, bdI_some, if_pos e3]
      exact go m2 e4
    rw [if_neg h]
    clear h
    by_cases h : s32 x = 21
    · rw [if_pos h]
      obtain ⟨r, m1, r', m2, e1, e2, e3, e4⟩ := ok_presses _ _ (scI_r32 xs _) (scI_r32 xs _) m hm
      rw [c1, c2, e1, bdI_some, c1, c2, e2, bdI_some, if_pos e3]
      exact go m2 e4
    rw [if_neg h]
    clear h
    by_cases h : s32 x = 22
    · rw [if_pos h]
      obtain ⟨r, m1, r', m2, e1, e2, e3, e4⟩ := ok_unit _ _ _ (scI_r32 xs _) (scI_r32 xs _) (scI_r32 xs _) m hm
      rw [c1, c2, c3, e1, bdI_some, c1, c2, c3, e2, bdI_some, if_pos e3]
      exact go m2 e4
    rw [if_neg h]
    clear h
    by_cases h : s32 x = 23
    · rw [if_pos h]
      obtain ⟨r, m1, r', m2, e1, e2, e3, e4⟩ := ok_bears _ _ _ (scI_r32 xs _) (scI_r32 xs _) (scI_r32 xs _) m hm
      rw [c1, c2, c3, e1, bdI_some, c1, c2, c3, e2, bdI_some, if_pos e3]
      exact go m2 e4
    rw [if_neg h]
    clear h
    by_cases h : s32 x = 24
    · rw [if_pos h]
      obtain ⟨r, m1, r', m2, e1, e2, e3, e4⟩ := ok_best _ (scI_r32 xs _) m hm
      rw [c1, e1, bdI_some, c1, e2, bdI_some, if_pos e3]
      exact go m2 e4
    rw [if_neg h]
    clear h
    by_cases h : s32 x = 25
    · rw [if_pos h]
      obtain ⟨r, m1, r', m2, e1, e2, e3, e4⟩ := ok_hinged _ _ (scI_r32 xs _) (scI_r32 xs _) m hm
      rw [c1, c2, e1, bdI_some, c1, c2, e2, bdI_some, if_pos e3]
      exact go m2 e4
    rw [if_neg h]
    clear h
    by_cases h : s32 x = 26
    · rw [if_pos h]
      obtain ⟨r, m1, r', m2, e1, e2, e3, e4⟩ := ok_feed _ (scI_r32 xs _) m hm
      rw [c1, e1, bdI_some, c1, e2, bdI_some, if_pos e3]
      exact go m2 e4
    rw [if_neg h]
    clear h
    by_cases h : s32 x = 27
    · rw [if_pos h]
      obtain ⟨r, m1, r', m2, e1, e2, e3, e4⟩ := ok_reads  m hm
      rw [e1, bdI_some, e2, bdI_some, if_pos e3]
      exact go m2 e4
    rw [if_neg h]
    clear h
    by_cases h : s32 x = 28
    · rw [if_pos h]
      obtain ⟨r, m1, r', m2, e1, e2, e3, e4⟩ := ok_prints  m hm
      rw [e1, bdI_some, e2, bdI_some, if_pos e3]
      exact go m2 e4
    rw [if_neg h]
    clear h
    by_cases h : s32 x = 29
    · rw [if_pos h]
      obtain ⟨r, r', e1, e2, e3⟩ := ok_paper _ (scI_r32 xs _) m hm
      rw [c1, e1, ob_some, c1, e2, ob_some, if_pos e3]
      exact go m hm
    rw [if_neg h]
    clear h
    by_cases h : s32 x = 30
    · rw [if_pos h]
      obtain ⟨r, m1, r', m2, e1, e2, e3, e4⟩ := ok_list _ _ (scI_r32 xs _) (scI_r32 xs _) m hm
      rw [c1, c2, e1, bdI_some, c1, c2, e2, bdI_some, if_pos e3]
      exact go m2 e4
    rw [if_neg h]
    clear h
    by_cases h : s32 x = 31
    · rw [if_pos h]
      obtain ⟨r, m1, r', m2, e1, e2, e3, e4⟩ := ok_set _ _ _ (scI_r32 xs _) (scI_r32 xs _) m hm
      rw [c1, c2, c3, c4, e1, bdI_some, c1, c2, c3, c4, e2, bdI_some, if_pos e3]
      exact go m2 e4
    rw [if_neg h]
    clear h
    by_cases h : s32 x = 32
    · rw [if_pos h]
      obtain ⟨r, r', e1, e2, e3⟩ := ok_get _ _ (scI_r32 xs _) (scI_r32 xs _) m hm
      rw [c1, c2, e1, ob_some, c1, c2, e2, ob_some, if_pos e3]
      exact go m hm
    rw [if_neg h]
    clear h
    by_cases h : s32 x = 33
    · rw [if_pos h]
      obtain ⟨r, m1, r', m2, e1, e2, e3, e4⟩ := ok_into _ _ (scI_r32 xs _) (scI_r32 xs _) m hm
      rw [c1, c2, e1, bdI_some, c1, c2, e2, bdI_some, if_pos e3]
      exact go m2 e4
    rw [if_neg h]
    clear h
    by_cases h : s32 x = 34
    · rw [if_pos h]
      obtain ⟨r, m1, r', m2, e1, e2, e3, e4⟩ := ok_judge _ _ (scI_r32 xs _) (scI_r32 xs _) m hm
      rw [c1, c2, e1, bdI_some, c1, c2, e2, bdI_some, if_pos e3]
      exact go m2 e4
    rw [if_neg h]
    clear h
    by_cases h : s32 x = 35
    · rw [if_pos h]
      obtain ⟨r, m1, r', m2, e1, e2, e3, e4⟩ := ok_undo  m hm
      rw [e1, bdI_some, e2, bdI_some, if_pos e3]
      exact go m2 e4
    rw [if_neg h]
    clear h
    by_cases h : s32 x = 36
    · rw [if_pos h]
      obtain ⟨r, m1, r', m2, e1, e2, e3, e4⟩ := ok_image  m hm
      rw [e1, bdI_some, e2, bdI_some, if_pos e3]
      exact go m2 e4
    rw [if_neg h]
    clear h
    by_cases h : s32 x = 37
    · rw [if_pos h]
      obtain ⟨r, m1, r', m2, e1, e2, e3, e4⟩ := ok_back  m hm
      rw [e1, bdI_some, e2, bdI_some, if_pos e3]
      exact go m2 e4
    rw [if_neg h]
    clear h
    exact go m hm
theorem Rel0 : Rel mem0 := by
  have a0 : mem0 150 0 = 8 := by decide +kernel
  have a1 : mem0 150 1 = 0 := by decide +kernel
  have a10 : mem0 150 10 = 0 := by decide +kernel
  have a29 : mem0 150 29 = 0 := by decide +kernel
  have b0 : mem0 1 0 = 8 := by decide +kernel
  have b1 : mem0 1 1 = 0 := by decide +kernel
  have b4 : mem0 1 4 = 0 := by decide +kernel
  have b9 : mem0 1 9 = 0 := by decide +kernel
  have h4 : mem0 149 4 = 0 := by decide +kernel
  have t : mem0 149 23 = 0 := by decide +kernel
  have p : mem0 149 32 = 0 := by decide +kernel
  refine ⟨⟨⟨by omega, by omega, by omega, by omega, fun k _ _ => by omega, fun k _ _ => by omega, fun k _ _ => by omega, fun k _ _ => by omega⟩, ⟨by omega, by omega, by omega, by omega, fun k _ _ => by omega, fun k _ _ => by omega, fun k _ _ => by omega⟩⟩, ⟨by omega, by decide +kernel, by decide +kernel, fun k _ _ => by omega⟩, Or.inl (by decide +kernel), ⟨by omega, by decide +kernel, fun k _ _ => by omega⟩, ⟨by omega, by decide +kernel, fun k _ _ => by omega⟩, fun r r1 r2 => ?_, ⟨by decide +kernel, by decide +kernel, fun _ => rfl, fun _ => rfl, fun _ => rfl⟩⟩
  have l : ∀ r : Int, r = 0 ∨ r = 1 ∨ r = 2 → mem0 147 r = -1 ∧ mem0 169 r = -1 := by
    intro r hr
    rcases hr with rfl | rfl | rfl <;> decide +kernel
  obtain ⟨l1, l2⟩ := l r (by omega)
  exact ⟨by omega, by omega, fun k _ _ => by omega⟩
theorem law_all (L : Nat) (xs : Nat → Int32) (hL : L ≤ 2560) : Law L xs mem0 = some 1 := by
  unfold Law
  exact law_L L xs hL 2000 0 mem0 Rel0 (by omega) (by omega) (by omega)
