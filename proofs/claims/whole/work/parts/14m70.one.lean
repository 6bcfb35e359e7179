/-! the model takes one statement -/
theorem mo_nums {S : Int} {T : Int → Int} (hT : okT S T) {w : Int} (hw : 0 ≤ w ∧ w < 6) (K : Mem → Option (Int × Mem)) : ∀ (d n : Nat) (i a : Int) (V : Int → Int) (m : Mem), 0 ≤ i → i + (d : Int) = numsF w → d < n → TM S T m → m 149 28 = a → 0 ≤ a → a ≤ S → (∀ k, 0 ≤ k → k < i → m 165 k = V k) →
    ∃ m', Mo_takesOne_L18 w K n i m = (if (pNs T S w d i a V).1 = 1 then K m' else some (0, m')) ∧ m' 149 28 = (pNs T S w d i a V).2.1 ∧ ((pNs T S w d i a V).1 = 1 → ∀ k, 0 ≤ k → k < numsF w → m' 165 k = (pNs T S w d i a V).2.2 k) ∧ (∀ c i, ¬ (c = 149 ∧ i = 28) → ¬ c = 165 → m' c i = m c i) := by
  have nb := nums_b' hw
  have hS := hT.1
  have wn : ∀ m, TM S T m → m 164 w = numsF w := by
    intro m C
    rw [C.2.2.2.2]
    obtain ⟨w', rfl⟩ := nat_of hw.1
    exact (bg_all w' (by omega)).2.2.2.1
  intro d
  induction d with
  | zero =>
    intro n i a V m i0 hi hn C ha a0 a1 hV
    obtain ⟨n', rfl⟩ : ∃ n', n = n' + 1 := ⟨n - 1, by omega⟩
    have e : pNs T S w 0 i a V = (1, a, V) := rfl
    rw [e]
    refine ⟨m, ?_, ha, fun _ k k0 k1 => hV k k0 (by omega), fun _ _ _ _ => rfl⟩
    rw [Mo_takesOne_L18, ck_id hw.1 (by omega) (by omega), s32_id (a := w) (by omega) (by omega), wn m C, s32_id (a := numsF w) (by omega) (by omega), s32_id (a := i) (by omega) (by omega), if_pos (by omega)]
    exact (if_pos rfl).symm
  | succ d ih =>
    intro n i a V m i0 hi hn C ha a0 a1 hV
    obtain ⟨n', rfl⟩ : ∃ n', n = n' + 1 := ⟨n - 1, by omega⟩
    have pb := pN_b T (S := S) (g := fl w i) a1
    obtain ⟨m1, e1, p1, q1, f1⟩ := takes_eq hT C (p := i) (g := fl w i) ha ⟨a0, a1⟩ ⟨i0, by omega⟩ (fl_01 w i)
    have step : Mo_takesOne_L18 w K (n' + 1) i m = bdI (Mo_takes i (fl w i) m) (fun r9 m10 => if ¬ s32 r9 = 0 then ((Mo_takesOne_L18 w K n' (i + 1) m10)) else (some (0, m10))) := by
      have e2 : s32 2 = 2 := s32_id (by decide) (by decide)
      have e3 : s32 3 = 3 := s32_id (by decide) (by decide)
      have e4 : s32 4 = 4 := s32_id (by decide) (by decide)
      rw [Mo_takesOne_L18, ck_id hw.1 (by omega) (by omega), s32_id (a := w) (by omega) (by omega), wn m C, s32_id (a := numsF w) (by omega) (by omega), s32_id (a := i) (by omega) (by omega), if_neg (by omega), e3, e4, e2, s32_1]
      simp only [jn_id]
      unfold fl
      by_cases c3 : w = 3
      · rw [if_neg (show ¬ ¬ w = 3 by omega)]
        by_cases ci : i = 1
        · rw [if_pos ci, if_pos (show (w = 3 ∧ i = 1) ∨ (w = 4 ∧ i = 2) by omega)]
        · rw [if_neg ci, if_pos (show ¬ w = 4 by omega), if_neg (show ¬ ((w = 3 ∧ i = 1) ∨ (w = 4 ∧ i = 2)) by omega)]
      · rw [if_pos (show ¬ w = 3 from c3)]
        by_cases c4 : w = 4
        · rw [if_neg (show ¬ ¬ w = 4 by omega)]
          by_cases ci : i = 2
          · rw [if_neg (show ¬ ¬ i = 2 by omega), if_pos (show (w = 3 ∧ i = 1) ∨ (w = 4 ∧ i = 2) by omega)]
          · rw [if_pos (show ¬ i = 2 from ci), if_neg (show ¬ ((w = 3 ∧ i = 1) ∨ (w = 4 ∧ i = 2)) by omega)]
        · rw [if_pos (show ¬ w = 4 from c4), if_neg (show ¬ ((w = 3 ∧ i = 1) ∨ (w = 4 ∧ i = 2)) by omega)]
    rw [step, e1, bdI_some, pNs]
    by_cases c : (pN T S (fl w i) a).1 = 1
    · rw [c, s32_1, if_1, if_pos rfl]
      obtain ⟨m2, e2, p2, q2, f2⟩ := ih n' (i + 1) (pN T S (fl w i) a).2.1 (fun k => if k = i then (pN T S (fl w i) a).2.2 else V k) m1 (by omega) (by omega) (by omega) (TM_fr C (fun c j hc => f1 c j (by omega) (by omega))) p1 (by omega) pb.2.1.2 (fun k k0 k1 => by
        show m1 165 k = if k = i then (pN T S (fl w i) a).2.2 else V k
        by_cases z : k = i
        · rw [if_pos z, z]; exact q1 c
        · rw [if_neg z, f1 165 k (by omega) (by omega)]; exact hV k k0 (by omega))
      exact ⟨m2, e2, p2, q2, fun c j h1 h2 => by rw [f2 c j h1 h2, f1 c j h1 (fun z => h2 z.1)]⟩
    · have z0 : (pN T S (fl w i) a).1 = 0 := by omega
      rw [z0, s32_0, if_0, if_neg (show ¬ (0 : Int) = 1 by decide)]
      exact ⟨m1, rfl, p1, fun z => absurd (show (0 : Int) = 1 from z) (by decide), fun c j h1 h2 => f1 c j h1 (fun z => h2 z.1)⟩
/-- behind a statement: what is next, and the call -/
def M69 (x1 r2 : Int) (m4 : Mem) : Option (Int × Mem) := (Mo_here m4).bind (fun r5 => jn (if 0 ≤ s32 (m4 149 29) then (some (1, m4)) else (bdI (Mo_does r2 m4) (fun r6 m7 => if 0 ≤ s32 r6 then (some (1, m7)) else (lt (mset m7 149 29 x1) (fun m8 => some (1, m8)))))) (fun (k91 : Option (Int × Mem)) => if s32 r5 = s32 59 then (k91) else (if s32 (m4 149 23) ≤ s32 (m4 149 28) then (k91) else (some (0, m4)))))
theorem takesOne_M69 (mem : Mem) : Mo_takesOne mem = lt ((mem 149 28)) (fun x1 => bdI (Mo_word mem) (fun r2 m3 => if 0 ≤ s32 r2 then (jn (fun (m4 : Mem) => M69 x1 r2 m4) (fun (k69 : Mem → Option (Int × Mem)) => (Mo_takesOne_L18 r2 k69 2000 0 m3))) else (some (0, m3)))) := by
  unfold Mo_takesOne M69
  rfl
theorem takesOne_eq {S : Int} {T : Int → Int} (hT : okT S T) {m : Mem} (C : TM S T m) {a : Int} (ha : m 149 28 = a) (a0 : 0 ≤ a) (a1 : a ≤ S) : ∃ m', Mo_takesOne m = (if pOk T S a = 1 then M69 a (pWd T S a) m' else some (0, m')) ∧ m' 149 28 = pAt T S a ∧ (pOk T S a = 1 → ∀ k, 0 ≤ k → k < numsF (pWd T S a) → m' 165 k = (pR T S a).2.2 k) ∧ (∀ c i, ¬ (c = 149 ∧ i = 28) → ¬ c = 165 → m' c i = m c i) := by
  have hS := hT.1
  obtain ⟨b1, b2, b3, b4, b5, b6⟩ := pS_b T a0 a1
  obtain ⟨m3, e3, p3, f3⟩ := moWord_eq hT C ha a0 a1
  have C3 : TM S T m3 := TM_fr C (fun c i hc => f3 c i (by omega))
  rw [takesOne_M69, lt_id, e3, bdI_some, ha, s32_id (a := pWd T S a) (by omega) (by omega)]
  unfold pOk pAt
  by_cases c : 0 ≤ pWd T S a
  · rw [if_pos c] at p3
    rw [if_pos c, if_pos c, if_pos c, jn_id]
    have nb := nums_b' (w := pWd T S a) ⟨c, by omega⟩
    obtain ⟨m2, e2, p2, q2, f2⟩ := mo_nums hT (w := pWd T S a) ⟨c, by omega⟩ (fun (m4 : Mem) => M69 a (pWd T S a) m4) (numsF (pWd T S a)).toNat 2000 0 (pE T S a) (fun _ => 0) m3 (by omega) (by omega) (by omega) C3 p3 (by omega) b6.2 (fun k k0 k1 => by omega)
    exact ⟨m2, e2, p2, q2, fun c j h1 h2 => by rw [f2 c j h1 h2, f3 c j h1]⟩
  · rw [if_neg c] at p3
    rw [if_neg c, if_neg c, if_neg c]
    exact ⟨m3, rfl, p3, fun z => absurd (show (0 : Int) = 1 from z) (by decide), fun c j h1 h2 => f3 c j h1⟩
