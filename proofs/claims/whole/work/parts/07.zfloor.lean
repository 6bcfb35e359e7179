/-! Math.floorDiv of longs: its class has overrides, so its body is walked by hand -/
theorem xor_neg (a b : Int64) : (a ^^^ b) < 0 ↔ ¬ (a.toInt < 0 ↔ b.toInt < 0) := by
  have g : ∀ z : Int64, z.toInt < 0 ↔ z.toBitVec.msb = true := by
    intro z
    rw [BitVec.msb_eq_toInt, decide_eq_true_iff]
    exact Iff.rfl
  have h : ∀ z : Int64, z < 0 ↔ z.toBitVec.msb = true := by
    intro z
    rw [← g z, Int64.lt_iff_toInt_lt]
    exact Iff.rfl
  rw [h, g, g]
  rw [show (a ^^^ b).toBitVec = a.toBitVec ^^^ b.toBitVec from rfl, BitVec.msb_xor]
  cases a.toBitVec.msb <;> cases b.toBitVec.msb <;> decide
def fdV (a b : Int64) : Int64 := Int64.ofInt (a.toInt.fdiv b.toInt)
theorem div_of (a b : Int64) : a / b = Int64.ofInt (a.toInt.tdiv b.toInt) := by
  rw [← Int64.toInt_inj, Int64.toInt_div, Int64.toInt_ofInt]
theorem fd_1 {a b : Int64} (h0 : ¬ b = 0) (h : ¬ (a ^^^ b) < 0) : a / b = fdV a b := by
  rw [xor_neg] at h
  have hb : ¬ b.toInt = 0 := fun q => h0 (by rw [← Int64.toInt_inj]; simpa using q)
  rw [div_of, fdV, Int.fdiv_eq_tdiv]
  congr 1
  by_cases h1 : b.toInt ∣ a.toInt
  · simp [h1]
  · have hh : a.toInt < 0 ↔ b.toInt < 0 := Classical.not_not.mp h
    by_cases h2 : 0 ≤ a.toInt
    · have : 0 ≤ b.toInt := by omega
      simp [h1, h2, this]
    · have : ¬ 0 ≤ b.toInt := by omega
      have sg : b.toInt.sign = -1 := Int.sign_eq_neg_one_of_neg (by omega)
      simp [h1, h2, sg, this]
theorem mul_dvd {a b : Int64} (h0 : ¬ b = 0) (h : (a ^^^ b) < 0) : (a / b) * b = a ↔ b.toInt ∣ a.toInt := by
  rw [xor_neg] at h
  have hb : ¬ b.toInt = 0 := fun q => h0 (by rw [← Int64.toInt_inj]; simpa using q)
  have l1 := a.le_toInt
  have l2 := a.toInt_lt
  have key : a.toInt.tdiv b.toInt * b.toInt = a.toInt - a.toInt.tmod b.toInt := by
    have := Int.tmod_add_tdiv_mul a.toInt b.toInt
    omega
  have hm : (a / b) * b = Int64.ofInt (a.toInt - a.toInt.tmod b.toInt) := by
    rw [div_of, ← i64_of b, ← Int64.ofInt_mul, i64_of b, key]
  rw [hm, ← i64_of a, i64_eq, i64_of a]
  have r1 : ∀ z : Int, -9223372036854775808 ≤ z → z < 9223372036854775808 → s64 z = z := by
    intro z h1 h2
    unfold s64
    rw [Int.bmod_eq_of_le] <;> omega
  have t1 : (a.toInt.tmod b.toInt) ≤ 0 ∨ 0 ≤ a.toInt := by
    by_cases q : a.toInt < 0
    · left
      have := Int.tmod_nonneg b.toInt (a := -a.toInt) (by omega)
      rw [Int.neg_tmod] at this
      omega
    · right; omega
  have t2 : 0 ≤ (a.toInt.tmod b.toInt) ∨ a.toInt < 0 := by
    by_cases q : a.toInt < 0
    · right; exact q
    · left; exact Int.tmod_nonneg b.toInt (by omega)
  have t3 : (a.toInt.tmod b.toInt).natAbs ≤ a.toInt.natAbs := by
    rw [Int.natAbs_tmod]
    exact Nat.mod_le _ _
  rw [r1 a.toInt (by simpa using l1) (by simpa using l2), r1 _ (by have : (-9223372036854775808 : Int) ≤ a.toInt := by simpa using l1
                                                                   omega) (by have : a.toInt < 9223372036854775808 := by simpa using l2
                                                                              omega)]
  constructor
  · intro q
    exact Int.dvd_of_tmod_eq_zero (by omega)
  · intro q
    have := Int.tmod_eq_zero_of_dvd q
    omega
theorem fd_2 {a b : Int64} (h0 : ¬ b = 0) (h : (a ^^^ b) < 0) (h2 : (a / b) * b = a) : a / b = fdV a b := by
  have hd := (mul_dvd h0 h).mp h2
  rw [div_of, fdV, Int.fdiv_eq_tdiv]
  congr 1
  simp [hd]
theorem fd_3 {a b : Int64} (h0 : ¬ b = 0) (h : (a ^^^ b) < 0) (h2 : ¬ (a / b) * b = a) : a / b - 1 = fdV a b := by
  have hd : ¬ b.toInt ∣ a.toInt := fun q => h2 ((mul_dvd h0 h).mpr q)
  rw [xor_neg] at h
  rw [div_of, fdV, Int.fdiv_eq_tdiv, show (1 : Int64) = Int64.ofInt 1 by decide +kernel, ← Int64.ofInt_sub]
  congr 2
  by_cases h2 : 0 ≤ a.toInt
  · have : ¬ 0 ≤ b.toInt := by omega
    simp [hd, h2, this]
  · have hb : ¬ b.toInt = 0 := fun q => h0 (by rw [← Int64.toInt_inj]; simpa using q)
    have sg : b.toInt.sign = 1 := Int.sign_eq_one_of_pos (by omega)
    simp [hd, h2, sg]
    omega
theorem fd_noRow0 : (NativeRow.find? natives yJ9_floorDiv_f86c9.cls yJ9_floorDiv_f86c9.name yJ9_floorDiv_f86c9.desc).isNone = true := by decide +kernel
theorem fd_noRow (p : Program) : NativeRow.find? p.tables.natives yJ9_floorDiv_f86c9.cls yJ9_floorDiv_f86c9.name yJ9_floorDiv_f86c9.desc = none := by
  cases p <;> exact Option.isNone_iff_eq_none.mp fd_noRow0
def fdS (a b : Int64) : Spec where
  pre := .and (.code yJ9_floorDiv_f86c9 cJ9_floorDiv_f86c9 6 (some .long)) (.and (.count 2) (.and (.isLong (.arg 0)) (.and (.isLong (.arg 1)) (.and (.eq (.arg 0) (.long a)) (.eq (.arg 1) (.long b))))))
  post := .and .returned (.eq .result (.long (fdV a b)))
  changes := some []
theorem fd_meets (l : Launch) (a b : Int64) (h0 : ¬ b = 0) : MeetsLoose l yJ9_floorDiv_f86c9 (fdS a b) := by
  refine MeetsLoose.of_body_ov (code := cJ9_floorDiv_f86c9) (maxLocals := 6) (ret := some .long) fd_noRow ?_ ?_
  · intro args s h
    simp only [fdS, Cond.before_and, Bool.and_eq_true] at h
    exact h.1
  · intro p e s m args below meth c s₁ B
    have hpre := B.pre
    simp only [fdS, Cond.before_and, Bool.and_eq_true] at hpre
    obtain ⟨a', b', rfl⟩ := Lib.MathLoose.two_longs hpre.2.1 hpre.2.2.1 hpre.2.2.2.1
    obtain rfl : a' = a := by have := hpre.2.2.2.2.1; simpa [Cond.before, Cond.holds, Cond.value, Term.eval] using this
    obtain rfl : b' = b := by have := hpre.2.2.2.2.2; simpa [Cond.before, Cond.holds, Cond.value, Term.eval] using this
    have hloc : argsToLocals #[.long a', .long b'] 6 = #[.val (.long a'), .second, .val (.long b'), .second, .unset, .unset] := rfl
    have fin : ∀ r : Int64, r = fdV a' b' → (∀ fs, Steps p.tables e below (s₁.setTop (entryFrame m #[.long a', .long b'] 6)) (s₁.setFrames fs) ∨ handOver s₁ (some (.long r)) below ≠ some fs) →
        ∃ s₂ o, Steps p.tables e below (s₁.setTop (entryFrame m #[.long a', .long b'] 6)) s₂ ∧ s₂.status = .running ∧ Ended s₂ below o ∧
          (fdS a' b').ensures #[.long a', .long b'] s o s₂ := by
      intro r hr hwalk
      obtain ⟨fs, hfs⟩ := handOver_isSome (s := s₁) (some (.long r)) B.hears₁
      refine ⟨s₁.setFrames fs, .returned (some (.long r)), (hwalk fs).resolve_right (fun h => h hfs), B.here.running, B.ended hfs (by intro h; cases h), ?_, State.sameBut_nil.mpr ?_⟩
      · simp [fdS, Cond.after, Cond.holds, Cond.value, Term.eval, hr]
      · rw [State.frames_setFrames _ B.cur₁, B.back]
    by_cases h1 : (a' ^^^ b') < 0
    · have hgt : ¬ 0 < (a' ^^^ b') := fun q => by rw [Int64.lt_iff_toInt_lt] at h1 q; omega
      have hne : ¬ (a' ^^^ b') = 0 := fun q => by rw [q] at h1; exact absurd h1 (by decide)
      by_cases h2 : (a' / b') * b' = a'
      · have h3 : ¬ a' < a' := fun q => by rw [Int64.lt_iff_toInt_lt] at q; omega
        refine fin (a' / b') (fd_2 h0 h1 h2) (fun fs => ?_)
        by_cases hfs : handOver s₁ (some (.long (a' / b'))) below = some fs
        · left
          unfold entryFrame; rw [hloc]
          refine Steps.instrAtOv (c := _) (by simpa using B.here) ?_
          simp [jvm, wpRun, exec, B.here.top, B.exec, B.bytes, dJ9_floorDiv_f86c9_0]
          refine Steps.instrAtOv (c := _) (by simpa using B.here) ?_
          simp [jvm, wpRun, exec, B.here.top, B.exec, B.bytes, dJ9_floorDiv_f86c9_1]
          refine Steps.instrAtOv (c := _) (by simpa using B.here) ?_
          simp [jvm, wpRun, exec, B.here.top, B.exec, B.bytes, dJ9_floorDiv_f86c9_2, h0]
          refine Steps.instrAtOv (c := _) (by simpa using B.here) ?_
          simp [jvm, wpRun, exec, B.here.top, B.exec, B.bytes, dJ9_floorDiv_f86c9_3, storeLocals, storeSelf, setAt, Value.category]
          refine Steps.instrAtOv (c := _) (by simpa using B.here) ?_
          simp [jvm, wpRun, exec, B.here.top, B.exec, B.bytes, dJ9_floorDiv_f86c9_5]
          refine Steps.instrAtOv (c := _) (by simpa using B.here) ?_
          simp [jvm, wpRun, exec, B.here.top, B.exec, B.bytes, dJ9_floorDiv_f86c9_6]
          refine Steps.instrAtOv (c := _) (by simpa using B.here) ?_
          simp [jvm, wpRun, exec, B.here.top, B.exec, B.bytes, dJ9_floorDiv_f86c9_7]
          refine Steps.instrAtOv (c := _) (by simpa using B.here) ?_
          simp [jvm, wpRun, exec, B.here.top, B.exec, B.bytes, dJ9_floorDiv_f86c9_8]
          refine Steps.instrAtOv (c := _) (by simpa using B.here) ?_
          simp [jvm, wpRun, exec, B.here.top, B.exec, B.bytes, dJ9_floorDiv_f86c9_9, hgt, hne]
          refine Steps.instrAtOv (c := _) (by simpa using B.here) ?_
          simp [jvm, wpRun, exec, B.here.top, B.exec, B.bytes, dJ9_floorDiv_f86c9_10, ifCond.holds]
          refine Steps.instrAtOv (c := _) (by simpa using B.here) ?_
          simp [jvm, wpRun, exec, B.here.top, B.exec, B.bytes, dJ9_floorDiv_f86c9_13]
          refine Steps.instrAtOv (c := _) (by simpa using B.here) ?_
          simp [jvm, wpRun, exec, B.here.top, B.exec, B.bytes, dJ9_floorDiv_f86c9_15]
          refine Steps.instrAtOv (c := _) (by simpa using B.here) ?_
          simp [jvm, wpRun, exec, B.here.top, B.exec, B.bytes, dJ9_floorDiv_f86c9_16]
          refine Steps.instrAtOv (c := _) (by simpa using B.here) ?_
          simp [jvm, wpRun, exec, B.here.top, B.exec, B.bytes, dJ9_floorDiv_f86c9_17]
          refine Steps.instrAtOv (c := _) (by simpa using B.here) ?_
          simp [jvm, wpRun, exec, B.here.top, B.exec, B.bytes, dJ9_floorDiv_f86c9_18, h2, h3]
          refine Steps.instrAtOv (c := _) (by simpa using B.here) ?_
          simp [jvm, wpRun, exec, B.here.top, B.exec, B.bytes, dJ9_floorDiv_f86c9_19, ifCond.holds]
          refine Steps.instrAtOv (c := _) (by simpa using B.here) ?_
          simp [jvm, wpRun, exec, B.here.top, B.exec, B.bytes, dJ9_floorDiv_f86c9_27]
          refine Steps.instrAtOv (c := _) (by simpa using B.here) ?_
          simp [jvm, wpRun, exec, B.here.top, B.exec, B.bytes, dJ9_floorDiv_f86c9_29, B.method₁, B.returns]
          intro acts
          rw [ret_to B.frames₁ B.method₁ B.notSynchronized rfl rfl hfs]
          exact Steps.refl _
        · exact Or.inr hfs
      · by_cases h3 : a' < (a' / b') * b'
        · skip
          refine fin (a' / b' - 1) (fd_3 h0 h1 h2) (fun fs => ?_)
          by_cases hfs : handOver s₁ (some (.long (a' / b' - 1))) below = some fs
          · left
            unfold entryFrame; rw [hloc]
            refine Steps.instrAtOv (c := _) (by simpa using B.here) ?_
            simp [jvm, wpRun, exec, B.here.top, B.exec, B.bytes, dJ9_floorDiv_f86c9_0]
            refine Steps.instrAtOv (c := _) (by simpa using B.here) ?_
            simp [jvm, wpRun, exec, B.here.top, B.exec, B.bytes, dJ9_floorDiv_f86c9_1]
            refine Steps.instrAtOv (c := _) (by simpa using B.here) ?_
            simp [jvm, wpRun, exec, B.here.top, B.exec, B.bytes, dJ9_floorDiv_f86c9_2, h0]
            refine Steps.instrAtOv (c := _) (by simpa using B.here) ?_
            simp [jvm, wpRun, exec, B.here.top, B.exec, B.bytes, dJ9_floorDiv_f86c9_3, storeLocals, storeSelf, setAt, Value.category]
            refine Steps.instrAtOv (c := _) (by simpa using B.here) ?_
            simp [jvm, wpRun, exec, B.here.top, B.exec, B.bytes, dJ9_floorDiv_f86c9_5]
            refine Steps.instrAtOv (c := _) (by simpa using B.here) ?_
            simp [jvm, wpRun, exec, B.here.top, B.exec, B.bytes, dJ9_floorDiv_f86c9_6]
            refine Steps.instrAtOv (c := _) (by simpa using B.here) ?_
            simp [jvm, wpRun, exec, B.here.top, B.exec, B.bytes, dJ9_floorDiv_f86c9_7]
            refine Steps.instrAtOv (c := _) (by simpa using B.here) ?_
            simp [jvm, wpRun, exec, B.here.top, B.exec, B.bytes, dJ9_floorDiv_f86c9_8]
            refine Steps.instrAtOv (c := _) (by simpa using B.here) ?_
            simp [jvm, wpRun, exec, B.here.top, B.exec, B.bytes, dJ9_floorDiv_f86c9_9, hgt, hne]
            refine Steps.instrAtOv (c := _) (by simpa using B.here) ?_
            simp [jvm, wpRun, exec, B.here.top, B.exec, B.bytes, dJ9_floorDiv_f86c9_10, ifCond.holds]
            refine Steps.instrAtOv (c := _) (by simpa using B.here) ?_
            simp [jvm, wpRun, exec, B.here.top, B.exec, B.bytes, dJ9_floorDiv_f86c9_13]
            refine Steps.instrAtOv (c := _) (by simpa using B.here) ?_
            simp [jvm, wpRun, exec, B.here.top, B.exec, B.bytes, dJ9_floorDiv_f86c9_15]
            refine Steps.instrAtOv (c := _) (by simpa using B.here) ?_
            simp [jvm, wpRun, exec, B.here.top, B.exec, B.bytes, dJ9_floorDiv_f86c9_16]
            refine Steps.instrAtOv (c := _) (by simpa using B.here) ?_
            simp [jvm, wpRun, exec, B.here.top, B.exec, B.bytes, dJ9_floorDiv_f86c9_17]
            refine Steps.instrAtOv (c := _) (by simpa using B.here) ?_
            simp [jvm, wpRun, exec, B.here.top, B.exec, B.bytes, dJ9_floorDiv_f86c9_18, h2, h3]
            refine Steps.instrAtOv (c := _) (by simpa using B.here) ?_
            simp [jvm, wpRun, exec, B.here.top, B.exec, B.bytes, dJ9_floorDiv_f86c9_19, ifCond.holds]
            refine Steps.instrAtOv (c := _) (by simpa using B.here) ?_
            simp [jvm, wpRun, exec, B.here.top, B.exec, B.bytes, dJ9_floorDiv_f86c9_22]
            refine Steps.instrAtOv (c := _) (by simpa using B.here) ?_
            simp [jvm, wpRun, exec, B.here.top, B.exec, B.bytes, dJ9_floorDiv_f86c9_24]
            refine Steps.instrAtOv (c := _) (by simpa using B.here) ?_
            simp [jvm, wpRun, exec, B.here.top, B.exec, B.bytes, dJ9_floorDiv_f86c9_25]
            refine Steps.instrAtOv (c := _) (by simpa using B.here) ?_
            simp [jvm, wpRun, exec, B.here.top, B.exec, B.bytes, dJ9_floorDiv_f86c9_26, B.method₁, B.returns]
            intro acts
            rw [ret_to B.frames₁ B.method₁ B.notSynchronized rfl rfl hfs]
            exact Steps.refl _
          · exact Or.inr hfs
        · skip
          refine fin (a' / b' - 1) (fd_3 h0 h1 h2) (fun fs => ?_)
          by_cases hfs : handOver s₁ (some (.long (a' / b' - 1))) below = some fs
          · left
            unfold entryFrame; rw [hloc]
            refine Steps.instrAtOv (c := _) (by simpa using B.here) ?_
            simp [jvm, wpRun, exec, B.here.top, B.exec, B.bytes, dJ9_floorDiv_f86c9_0]
            refine Steps.instrAtOv (c := _) (by simpa using B.here) ?_
            simp [jvm, wpRun, exec, B.here.top, B.exec, B.bytes, dJ9_floorDiv_f86c9_1]
            refine Steps.instrAtOv (c := _) (by simpa using B.here) ?_
            simp [jvm, wpRun, exec, B.here.top, B.exec, B.bytes, dJ9_floorDiv_f86c9_2, h0]
            refine Steps.instrAtOv (c := _) (by simpa using B.here) ?_
            simp [jvm, wpRun, exec, B.here.top, B.exec, B.bytes, dJ9_floorDiv_f86c9_3, storeLocals, storeSelf, setAt, Value.category]
            refine Steps.instrAtOv (c := _) (by simpa using B.here) ?_
            simp [jvm, wpRun, exec, B.here.top, B.exec, B.bytes, dJ9_floorDiv_f86c9_5]
            refine Steps.instrAtOv (c := _) (by simpa using B.here) ?_
            simp [jvm, wpRun, exec, B.here.top, B.exec, B.bytes, dJ9_floorDiv_f86c9_6]
            refine Steps.instrAtOv (c := _) (by simpa using B.here) ?_
            simp [jvm, wpRun, exec, B.here.top, B.exec, B.bytes, dJ9_floorDiv_f86c9_7]
            refine Steps.instrAtOv (c := _) (by simpa using B.here) ?_
            simp [jvm, wpRun, exec, B.here.top, B.exec, B.bytes, dJ9_floorDiv_f86c9_8]
            refine Steps.instrAtOv (c := _) (by simpa using B.here) ?_
            simp [jvm, wpRun, exec, B.here.top, B.exec, B.bytes, dJ9_floorDiv_f86c9_9, hgt, hne]
            refine Steps.instrAtOv (c := _) (by simpa using B.here) ?_
            simp [jvm, wpRun, exec, B.here.top, B.exec, B.bytes, dJ9_floorDiv_f86c9_10, ifCond.holds]
            refine Steps.instrAtOv (c := _) (by simpa using B.here) ?_
            simp [jvm, wpRun, exec, B.here.top, B.exec, B.bytes, dJ9_floorDiv_f86c9_13]
            refine Steps.instrAtOv (c := _) (by simpa using B.here) ?_
            simp [jvm, wpRun, exec, B.here.top, B.exec, B.bytes, dJ9_floorDiv_f86c9_15]
            refine Steps.instrAtOv (c := _) (by simpa using B.here) ?_
            simp [jvm, wpRun, exec, B.here.top, B.exec, B.bytes, dJ9_floorDiv_f86c9_16]
            refine Steps.instrAtOv (c := _) (by simpa using B.here) ?_
            simp [jvm, wpRun, exec, B.here.top, B.exec, B.bytes, dJ9_floorDiv_f86c9_17]
            refine Steps.instrAtOv (c := _) (by simpa using B.here) ?_
            simp [jvm, wpRun, exec, B.here.top, B.exec, B.bytes, dJ9_floorDiv_f86c9_18, h2, h3]
            refine Steps.instrAtOv (c := _) (by simpa using B.here) ?_
            simp [jvm, wpRun, exec, B.here.top, B.exec, B.bytes, dJ9_floorDiv_f86c9_19, ifCond.holds]
            refine Steps.instrAtOv (c := _) (by simpa using B.here) ?_
            simp [jvm, wpRun, exec, B.here.top, B.exec, B.bytes, dJ9_floorDiv_f86c9_22]
            refine Steps.instrAtOv (c := _) (by simpa using B.here) ?_
            simp [jvm, wpRun, exec, B.here.top, B.exec, B.bytes, dJ9_floorDiv_f86c9_24]
            refine Steps.instrAtOv (c := _) (by simpa using B.here) ?_
            simp [jvm, wpRun, exec, B.here.top, B.exec, B.bytes, dJ9_floorDiv_f86c9_25]
            refine Steps.instrAtOv (c := _) (by simpa using B.here) ?_
            simp [jvm, wpRun, exec, B.here.top, B.exec, B.bytes, dJ9_floorDiv_f86c9_26, B.method₁, B.returns]
            intro acts
            rw [ret_to B.frames₁ B.method₁ B.notSynchronized rfl rfl hfs]
            exact Steps.refl _
          · exact Or.inr hfs
    · by_cases hgt : 0 < (a' ^^^ b')
      · skip
        refine fin (a' / b') (fd_1 h0 h1) (fun fs => ?_)
        by_cases hfs : handOver s₁ (some (.long (a' / b'))) below = some fs
        · left
          unfold entryFrame; rw [hloc]
          refine Steps.instrAtOv (c := _) (by simpa using B.here) ?_
          simp [jvm, wpRun, exec, B.here.top, B.exec, B.bytes, dJ9_floorDiv_f86c9_0]
          refine Steps.instrAtOv (c := _) (by simpa using B.here) ?_
          simp [jvm, wpRun, exec, B.here.top, B.exec, B.bytes, dJ9_floorDiv_f86c9_1]
          refine Steps.instrAtOv (c := _) (by simpa using B.here) ?_
          simp [jvm, wpRun, exec, B.here.top, B.exec, B.bytes, dJ9_floorDiv_f86c9_2, h0]
          refine Steps.instrAtOv (c := _) (by simpa using B.here) ?_
          simp [jvm, wpRun, exec, B.here.top, B.exec, B.bytes, dJ9_floorDiv_f86c9_3, storeLocals, storeSelf, setAt, Value.category]
          refine Steps.instrAtOv (c := _) (by simpa using B.here) ?_
          simp [jvm, wpRun, exec, B.here.top, B.exec, B.bytes, dJ9_floorDiv_f86c9_5]
          refine Steps.instrAtOv (c := _) (by simpa using B.here) ?_
          simp [jvm, wpRun, exec, B.here.top, B.exec, B.bytes, dJ9_floorDiv_f86c9_6]
          refine Steps.instrAtOv (c := _) (by simpa using B.here) ?_
          simp [jvm, wpRun, exec, B.here.top, B.exec, B.bytes, dJ9_floorDiv_f86c9_7]
          refine Steps.instrAtOv (c := _) (by simpa using B.here) ?_
          simp [jvm, wpRun, exec, B.here.top, B.exec, B.bytes, dJ9_floorDiv_f86c9_8]
          refine Steps.instrAtOv (c := _) (by simpa using B.here) ?_
          simp [jvm, wpRun, exec, B.here.top, B.exec, B.bytes, dJ9_floorDiv_f86c9_9, hgt]
          refine Steps.instrAtOv (c := _) (by simpa using B.here) ?_
          simp [jvm, wpRun, exec, B.here.top, B.exec, B.bytes, dJ9_floorDiv_f86c9_10, ifCond.holds]
          refine Steps.instrAtOv (c := _) (by simpa using B.here) ?_
          simp [jvm, wpRun, exec, B.here.top, B.exec, B.bytes, dJ9_floorDiv_f86c9_27]
          refine Steps.instrAtOv (c := _) (by simpa using B.here) ?_
          simp [jvm, wpRun, exec, B.here.top, B.exec, B.bytes, dJ9_floorDiv_f86c9_29, B.method₁, B.returns]
          intro acts
          rw [ret_to B.frames₁ B.method₁ B.notSynchronized rfl rfl hfs]
          exact Steps.refl _
        · exact Or.inr hfs
      · have hne : (a' ^^^ b') = 0 := by rw [← Int64.toInt_inj]; rw [Int64.lt_iff_toInt_lt] at h1 hgt; have z : (0 : Int64).toInt = 0 := rfl; omega
        refine fin (a' / b') (fd_1 h0 h1) (fun fs => ?_)
        by_cases hfs : handOver s₁ (some (.long (a' / b'))) below = some fs
        · left
          unfold entryFrame; rw [hloc]
          refine Steps.instrAtOv (c := _) (by simpa using B.here) ?_
          simp [jvm, wpRun, exec, B.here.top, B.exec, B.bytes, dJ9_floorDiv_f86c9_0]
          refine Steps.instrAtOv (c := _) (by simpa using B.here) ?_
          simp [jvm, wpRun, exec, B.here.top, B.exec, B.bytes, dJ9_floorDiv_f86c9_1]
          refine Steps.instrAtOv (c := _) (by simpa using B.here) ?_
          simp [jvm, wpRun, exec, B.here.top, B.exec, B.bytes, dJ9_floorDiv_f86c9_2, h0]
          refine Steps.instrAtOv (c := _) (by simpa using B.here) ?_
          simp [jvm, wpRun, exec, B.here.top, B.exec, B.bytes, dJ9_floorDiv_f86c9_3, storeLocals, storeSelf, setAt, Value.category]
          refine Steps.instrAtOv (c := _) (by simpa using B.here) ?_
          simp [jvm, wpRun, exec, B.here.top, B.exec, B.bytes, dJ9_floorDiv_f86c9_5]
          refine Steps.instrAtOv (c := _) (by simpa using B.here) ?_
          simp [jvm, wpRun, exec, B.here.top, B.exec, B.bytes, dJ9_floorDiv_f86c9_6]
          refine Steps.instrAtOv (c := _) (by simpa using B.here) ?_
          simp [jvm, wpRun, exec, B.here.top, B.exec, B.bytes, dJ9_floorDiv_f86c9_7]
          refine Steps.instrAtOv (c := _) (by simpa using B.here) ?_
          simp [jvm, wpRun, exec, B.here.top, B.exec, B.bytes, dJ9_floorDiv_f86c9_8]
          refine Steps.instrAtOv (c := _) (by simpa using B.here) ?_
          simp [jvm, wpRun, exec, B.here.top, B.exec, B.bytes, dJ9_floorDiv_f86c9_9, hgt, hne]
          refine Steps.instrAtOv (c := _) (by simpa using B.here) ?_
          simp [jvm, wpRun, exec, B.here.top, B.exec, B.bytes, dJ9_floorDiv_f86c9_10, ifCond.holds]
          refine Steps.instrAtOv (c := _) (by simpa using B.here) ?_
          simp [jvm, wpRun, exec, B.here.top, B.exec, B.bytes, dJ9_floorDiv_f86c9_27]
          refine Steps.instrAtOv (c := _) (by simpa using B.here) ?_
          simp [jvm, wpRun, exec, B.here.top, B.exec, B.bytes, dJ9_floorDiv_f86c9_29, B.method₁, B.returns]
          intro acts
          rw [ret_to B.frames₁ B.method₁ B.notSynchronized rfl rfl hfs]
          exact Steps.refl _
        · exact Or.inr hfs
section JFD
variable {α : Type} {u : jU} {x : jX} {cc : ByteArray} {own : String} {nL : Nat} {ret : Option FieldType} {rm : Room} {Qf : α → State → Prop} {pc : Nat} {lv : List (Nat × Value)} {st : List Value} {mem : Mem} {o o' : Option α} {a b : Int}
theorem J_floorDiv {idx : Nat} (G : jG u x cc own nL ret rm) (hw : Cond.methodLink own idx yJ9_floorDiv_f86c9 ∈ jTW) (hR : 1 ≤ rm.frames ∧ (st.map fun v => v.category).sum + 17 ≤ rm.locals) (hd : decode cc pc = .ok (.invokestatic idx, 3)) (kk : J u x nL Qf (pc + 3) lv (vL ((s64 a).fdiv (s64 b)) :: st) mem o) : J u x nL Qf pc lv (vL b :: vL a :: st) mem (dv (s64 b) o) := by
  obtain ⟨p, e, R, s, m, args, below, meth, cd, cells, slots⟩ := x
  intro r hr H locs ls hP hS hh
  unfold dv at hr
  split at hr
  · cases hr
  rename_i hz
  have hk := kk r hr H locs ls hP hS hh
  obtain ⟨hx, hb, hml, hown, hts, hK, hE, hlk, hrt, hc1, hc2, hRe⟩ := G
  subst hRe
  have hb0 : ¬ Int64.ofInt b = 0 := fun q => hz ((i64_eq0 b).mp q)
  have hcode := hts _ sg_J9_floorDiv_f86c9.1
  intro T hT X
  obtain ⟨v, T', X', ⟨first, t, hpost⟩, hstep⟩ := X.staticByContractV hx hown (hts _ hw) (hts _ ss_J9_floorDiv_f86c9) (hts _ sg_J9_floorDiv_f86c9.2.1) hcode (by decide)
    (fd_meets u.1 (Int64.ofInt a) (Int64.ofInt b) hb0)
    rfl rfl rfl rfl
    (fun args' first o s₂ h => by
      cases o with
      | returned r => exact ⟨r, rfl⟩
      | threw y =>
        have hz : (fdS (Int64.ofInt a) (Int64.ofInt b)).post.value args' first (some (.threw y)) s₂ [] = some true := by simpa [Cond.after, Cond.holds] using h
        exact absurd hz va_nvRet)
    (g := F0 m pc ls (vL b :: vL a :: st)) rfl (by show ls.size = _; rw [hml]; exact hh.1) (argsL := [.long (Int64.ofInt a), .long (Int64.ofInt b)]) (rest := st)
    (fun sig hs => by
      have h : parseMethodDescriptor "(JJ)J" = some { parameters := [.long, .long], returnType := some .long } := by decide +kernel
      rw [show yJ9_floorDiv_f86c9.desc = "(JJ)J" from rfl, h] at hs
      rw [← Option.some.inj hs]; rfl)
    rfl (by rw [hb]; exact hd)
    (fun vm' hW => by
      simp only [fdS, Cond.before_and, Bool.and_eq_true]
      refine ⟨?_, rfl, rfl, rfl, by simp [Cond.before, Cond.holds, Cond.value, Term.eval], by simp [Cond.before, Cond.holds, Cond.value, Term.eval]⟩
      have q := hcode
      rw [← Cond.code_setVm hW.alike] at q
      simp only [Cond.before, Cond.holds, Cond.value, State.methodNamed?, State.vm_setVm] at q ⊢
      exact q)
    (by show 0 + 1 ≤ R.frames; omega) (by show 2 * 0 + (st.map fun v => v.category).sum + (6 + 11) + 0 ≤ R.locals; omega) (by show cells + 0 ≤ R.cells; omega) (by show slots + 0 ≤ R.slots; omega)
  obtain rfl : v = some (.long (fdV (Int64.ofInt a) (Int64.ofInt b))) := by
    rcases v with _ | w
    · simp [fdS, Cond.after, Cond.holds, Cond.value, Term.eval] at hpost
    · cases w <;> simp [fdS, Cond.after, Cond.holds, Cond.value, Term.eval] at hpost
      rw [hpost]
  have e0 : fdV (Int64.ofInt a) (Int64.ofInt b) = Int64.ofInt ((s64 a).fdiv (s64 b)) := by unfold fdV; rw [s64_toInt, s64_toInt]
  rw [vL, ← e0] at hk
  obtain ⟨t2, a1, b1⟩ := hk (T.setVm T') hT X'
  exact ⟨t2, hstep t2 a1, b1⟩
end JFD
