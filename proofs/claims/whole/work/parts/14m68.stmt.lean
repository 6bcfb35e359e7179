/-! the class reads a statement -/
theorem nums_b : ∀ w : Nat, w < 6 → 1 ≤ numsF (w : Int) ∧ numsF (w : Int) ≤ 3 := by decide +kernel
theorem nums_b' {w : Int} (h : 0 ≤ w ∧ w < 6) : 1 ≤ numsF w ∧ numsF w ≤ 3 := by
  obtain ⟨w', rfl⟩ := nat_of h.1
  exact nums_b w' (by omega)
theorem nums_34 : numsF 3 = 2 ∧ numsF 4 = 3 := by decide +kernel
theorem fl_01 (w i : Int) : fl w i = 0 ∨ fl w i = 1 := by
  unfold fl
  by_cases c : (w = 3 ∧ i = 1) ∨ (w = 4 ∧ i = 2)
  · rw [if_pos c]; exact Or.inr rfl
  · rw [if_neg c]; exact Or.inl rfl
def frS (m' m : Mem) : Prop := ∀ c i, ¬ (c = 131 ∧ (i = 3 ∨ i = 4)) → ¬ c = 142 → m' c i = m c i
theorem cls_nums {S : Int} {T : Int → Int} (hT : okT S T) {w : Int} (hw : 0 ≤ w ∧ w < 6) : ∀ (d n : Nat) (i a : Int) (V : Int → Int) (m : Mem), 0 ≤ i → i + (d : Int) = numsF w → d < n → TC S T m → m 131 4 = w → m 131 3 = a → 0 ≤ a → a ≤ S → (∀ k, 0 ≤ k → k < i → m 142 k = V k) →
    ∃ m', Rd_readStatement_L60 n i m = some ((pNs T S w d i a V).1, m') ∧ m' 131 3 = (pNs T S w d i a V).2.1 ∧ m' 131 4 = w ∧ ((pNs T S w d i a V).1 = 1 → ∀ k, 0 ≤ k → k < numsF w → m' 142 k = (pNs T S w d i a V).2.2 k) ∧ (∀ c i, ¬ (c = 131 ∧ i = 3) → ¬ c = 142 → m' c i = m c i) := by
  have nb := nums_b' hw
  have hS := hT.1
  intro d
  induction d with
  | zero =>
    intro n i a V m i0 hi hn C h4 ha a0 a1 hV
    obtain ⟨n', rfl⟩ : ∃ n', n = n' + 1 := ⟨n - 1, by omega⟩
    have e : pNs T S w 0 i a V = (1, a, V) := rfl
    rw [e]
    refine ⟨m, ?_, ha, h4, fun _ k k0 k1 => hV k k0 (by omega), fun _ _ _ _ => rfl⟩
    rw [Rd_readStatement_L60, h4, ck_id hw.1 (by omega) (by omega), s32_id (a := w) (by omega) (by omega), s32_id (a := numsF w) (by omega) (by omega), s32_id (a := i) (by omega) (by omega), if_pos (by omega)]
  | succ d ih =>
    intro n i a V m i0 hi hn C h4 ha a0 a1 hV
    obtain ⟨n', rfl⟩ : ∃ n', n = n' + 1 := ⟨n - 1, by omega⟩
    have pb := pN_b T (S := S) (g := fl w i) a1
    obtain ⟨m1, e1, p1, q1, f1⟩ := readNumber_eq hT C (p := i) (g := fl w i) ha ⟨a0, a1⟩ ⟨i0, by omega⟩ (fl_01 w i)
    have step : Rd_readStatement_L60 (n' + 1) i m = bdI (Rd_readNumber i (fl w i) m) (fun r9 m10 => if ¬ s32 r9 = 0 then ((Rd_readStatement_L60 n' (i + 1) m10)) else (some (0, m10))) := by
      have e3 : s32 3 = 3 := s32_id (by decide) (by decide)
      have e4 : s32 4 = 4 := s32_id (by decide) (by decide)
      rw [Rd_readStatement_L60, h4, ck_id hw.1 (by omega) (by omega), ck_id hw.1 (by omega) (by omega), s32_id (a := w) (by omega) (by omega), s32_id (a := numsF w) (by omega) (by omega), s32_id (a := i) (by omega) (by omega), if_neg (by omega), s32_id (a := numsF w - 1) (by omega) (by omega), e3, e4]
      simp only [jn_id]
      have n34 := nums_34
      unfold fl
      by_cases c3 : w = 3
      · subst c3
        rw [n34.1]
        by_cases ci : i = 1
        · rw [if_neg (show ¬ ¬ i = 2 - 1 by omega), if_pos rfl, if_pos (show ((3 : Int) = 3 ∧ i = 1) ∨ ((3 : Int) = 4 ∧ i = 2) from Or.inl ⟨rfl, ci⟩)]
        · rw [if_pos (show ¬ i = 2 - 1 by omega), if_neg (show ¬ (((3 : Int) = 3 ∧ i = 1) ∨ ((3 : Int) = 4 ∧ i = 2)) by omega)]
      · by_cases c4 : w = 4
        · subst c4
          rw [n34.2]
          by_cases ci : i = 2
          · rw [if_neg (show ¬ ¬ i = 3 - 1 by omega), if_neg c3, if_neg (show ¬ ¬ (4 : Int) = 4 by omega), if_pos (show ((4 : Int) = 3 ∧ i = 1) ∨ ((4 : Int) = 4 ∧ i = 2) from Or.inr ⟨rfl, ci⟩)]
          · rw [if_pos (show ¬ i = 3 - 1 by omega), if_neg (show ¬ (((4 : Int) = 3 ∧ i = 1) ∨ ((4 : Int) = 4 ∧ i = 2)) by omega)]
        · rw [if_neg c3, if_pos (show ¬ w = 4 from c4), if_neg (show ¬ ((w = 3 ∧ i = 1) ∨ (w = 4 ∧ i = 2)) by omega)]
          by_cases ci : i = numsF w - 1
          · rw [if_neg (fun z => z ci)]
          · rw [if_pos ci]
    rw [step, e1, bdI_some, pNs]
    by_cases c : (pN T S (fl w i) a).1 = 1
    · rw [c, s32_1, if_1, if_pos rfl]
      obtain ⟨m2, e2, p2, h42, q2, f2⟩ := ih n' (i + 1) (pN T S (fl w i) a).2.1 (fun k => if k = i then (pN T S (fl w i) a).2.2 else V k) m1 (by omega) (by omega) (by omega) (TC_fr C (fun c j hc => f1 c j (by omega) (by omega))) (by rw [f1 131 4 (by omega) (by omega)]; exact h4) p1 (by omega) pb.2.1.2 (fun k k0 k1 => by
        show m1 142 k = if k = i then (pN T S (fl w i) a).2.2 else V k
        by_cases z : k = i
        · rw [if_pos z, z]; exact q1 c
        · rw [if_neg z, f1 142 k (by omega) (by omega)]; exact hV k k0 (by omega))
      exact ⟨m2, e2, p2, h42, q2, fun c j h1 h2 => by rw [f2 c j h1 h2, f1 c j h1 (fun z => h2 z.1)]⟩
    · have z0 : (pN T S (fl w i) a).1 = 0 := by omega
      rw [z0, s32_0, if_0, if_neg (show ¬ (0 : Int) = 1 by decide)]
      exact ⟨m1, rfl, p1, by rw [f1 131 4 (by omega) (by omega)]; exact h4, fun z => absurd (show (0 : Int) = 1 from z) (by decide), fun c j h1 h2 => f1 c j h1 (fun z => h2 z.1)⟩
theorem readStatement_eq {S : Int} {T : Int → Int} (hT : okT S T) {m : Mem} (C : TC S T m) {a : Int} (ha : m 131 3 = a) (a0 : 0 ≤ a) (a1 : a ≤ S) : ∃ m', Rd_readStatement m = some (pOk T S a, m') ∧ m' 131 3 = pAt T S a ∧ (pOk T S a = 1 → m' 131 4 = pWd T S a ∧ ∀ k, 0 ≤ k → k < numsF (pWd T S a) → m' 142 k = (pR T S a).2.2 k) ∧ frS m' m := by
  have hS := hT.1
  obtain ⟨b1, b2, b3, b4, b5, b6⟩ := pS_b T a0 a1
  have L := cls_L5 hT C (fun (x2 : Int) => (Rd_wordWithin (m 131 3) x2 m).bind (fun r3 => lt (mset m 131 4 r3) (fun m4 => if 0 ≤ s32 (m4 131 4) then (lt (mset m4 131 3 x2) (fun m5 => (Rd_readStatement_L60 2000 0 m5))) else (some (0, m4))))) (S - a).toNat 2000 a a0 (by omega) (by omega)
  have W : Rd_wordWithin a (pE T S a) m = some (pWd T S a) := wordWithin_eq hT C a0 b6.1 b6.2 6 2000 0 rfl (by omega)
  unfold Rd_readStatement
  rw [lt_id, jn_id, ha]
  rw [ha] at L
  rw [L, show pEnd T (S - a).toNat a = pE T S a from rfl, W, ob_some, lt_id, mset_here, s32_id (a := pWd T S a) (by omega) (by omega)]
  unfold pOk pAt
  by_cases c : 0 ≤ pWd T S a
  · rw [if_pos c, if_pos c, if_pos c, lt_id]
    have nb := nums_b' (w := pWd T S a) ⟨c, by omega⟩
    obtain ⟨m2, e2, p2, h4, q2, f2⟩ := cls_nums hT (w := pWd T S a) ⟨c, by omega⟩ (numsF (pWd T S a)).toNat 2000 0 (pE T S a) (fun _ => 0) (mset (mset m 131 4 (pWd T S a)) 131 3 (pE T S a)) (by omega) (by omega) (by omega) (TC_fr C (fun c j hc => by rw [mset_if, if_neg (by omega), mset_if, if_neg (by omega)])) (by rw [mset_if, if_neg (by omega), mset_here]) (mset_here _ _ _ _) (by omega) b6.2 (fun k k0 k1 => by omega)
    exact ⟨m2, e2, p2, fun z => ⟨h4, q2 z⟩, fun c j h1 h2 => by rw [f2 c j (by omega) h2, mset_if, if_neg (by omega), mset_if, if_neg (by omega)]⟩
  · rw [if_neg c, if_neg c, if_neg c]
    exact ⟨_, rfl, by rw [mset_if, if_neg (by omega)]; exact ha, fun z => absurd (show (0 : Int) = 1 from z) (by decide), fun c j h1 h2 => by rw [mset_if, if_neg (by omega)]⟩
