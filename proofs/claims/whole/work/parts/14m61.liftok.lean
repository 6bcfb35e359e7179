theorem mo_isLoad {m : Mem} {x : Int} (hx : r32 x) (h : 0 ≤ m 150 10 ∧ m 150 10 ≤ 6) : Mo_isLoad x m = some (if 0 ≤ x ∧ x ≤ m 150 10 - 1 then 1 else 0) := by
  obtain ⟨x0, x1⟩ := hx
  unfold Mo_isLoad
  rw [s32_id (a := x) (by omega) (by omega), s32_id (a := m 150 10 - 1) (by omega) (by omega), Mo_in_eq (by omega) (by omega) (by omega), ob_some]
  by_cases c : 0 ≤ x ∧ x ≤ m 150 10 - 1
  · rw [if_pos c, bz_1]
  · rw [if_neg c, bz_0]
theorem ok_lift (a : Int) (ha : r32 a) : OkM (BP_lift a) (Mo_lift a) s32 := by
  intro mem R
  have R0 := R
  obtain ⟨⟨v, rb⟩, -⟩ := R0
  have n6 := v.2.2.1
  have b4 := rb.2.2.1
  have haa := ha
  obtain ⟨ha1, ha2⟩ := ha
  unfold BP_lift Beam_isLoad
  rw [b4, s32_id (a := a) (by omega) (by omega), s32_id (a := mem 150 10) (by omega) (by omega)]
  by_cases c : 0 ≤ a ∧ a ≤ mem 150 10 - 1
  · rw [if_neg (show ¬ a < 0 by omega), if_neg (show ¬ mem 150 10 ≤ a by omega), ob_some, s32_1, if_1]
    obtain ⟨m2, e2, C, b2, f2⟩ := keepR R
    obtain ⟨mc, ec, bc, fc⟩ := takeLoad_eq v b2 c.1 (by omega)
    have hA : mc 150 = mem 150 := by funext i; rw [fc 150 i (by omega), f2 150 i (by omega)]
    have h4 : mc 149 4 = mem 149 4 := by rw [fc _ _ (by omega), f2 _ _ (by omega)]
    obtain ⟨m1, e1, a1, b1', f1⟩ := changes_eq h4 (Rel_hist R).1
    have hA1 : m1 150 = mem 150 := by rw [← hA]; funext i; exact f1 150 i (by decide) (by omega)
    rw [hA] at b1'
    obtain ⟨mm, em, c1, c2⟩ := mlift_loop (m0 := m1) (A := mem 150) (k := a) (by omega) c.1 (mem 150 10 - 1 - a).toNat 2000 a (mset m1 150 10 (mem 150 10 - 1)) (Int.le_refl a) (by omega) (by omega) (fun q => by
      rw [mset_c, hA1]
      unfold liI
      by_cases c : q = 10
      · rw [if_pos c, if_pos c]
      · rw [if_neg c, if_neg c, if_neg (by omega)]) (fun c q hc => by rw [mset_if, if_neg (by omega)])
    refine ⟨mem 150 10 - 1, mc, mem 150 10 - 1, mm, ?_, ?_, rfl, ?_⟩
    · rw [e2, ob_some, ec, bdI_some]
    · unfold Mo_lift
      rw [mo_isLoad haa (by rw [hA]; exact n6), hA, ob_some, if_pos c, s32_1, if_1, e1, ob_some, hA1, lt_id, em]
    · refine Rel_both R C f2 (fun c i hc => fc c i (by omega)) (by rw [c1]; exact bc) (by rw [c1]; exact VA_li v c.1 (by omega)) (by rw [c2 _ _ (by decide)]; exact a1) (fun j i j0 j1 i0 i1 => ?_) (fun c i hc => by rw [c2 c i (by omega), f1 c i (by omega) (by omega)])
      have := b1' j i j0 j1 i0 i1
      unfold mH at this ⊢
      rw [c2 _ _ (by decide)]
      exact this
  · refine ⟨-1, mem, -1, mem, ?_, ?_, rfl, R⟩
    · by_cases d : a < 0
      · rw [if_pos d, ob_some, s32_0, if_0]
      · rw [if_neg d, if_pos (by omega), ob_some, s32_0, if_0]
    · unfold Mo_lift
      rw [mo_isLoad haa n6, ob_some, if_neg c, s32_0, if_0]
