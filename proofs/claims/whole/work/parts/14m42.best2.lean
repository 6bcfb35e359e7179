/-! best: the place of a support that makes SPAN least -/
def plA (A : Int → Int) (k x : Int) : Int → Int := setA A (2 + k) x
def bfN (A : Int → Int) (k f : Int) : Nat → Int × Int × Int
  | 0 => (f, 0, 0)
  | j + 1 => if j = 0 ∨ spN (plA A k (f + (j : Int))) * (bfN A k f j).2.2 < (bfN A k f j).2.1 * spD (plA A k (f + (j : Int))) then (f + (j : Int), spN (plA A k (f + (j : Int))), spD (plA A k (f + (j : Int)))) else bfN A k f j
theorem bf_ok {A : Int → Int} (hn : 2 ≤ A 1) {k f t : Int} (hv : ∀ x, f ≤ x → x ≤ t → VA (plA A k x)) (hs : ∀ x, plA A k x 1 = A 1) : ∀ j : Nat, f + (j : Int) ≤ t + 1 → 0 < j → (f ≤ (bfN A k f j).1 ∧ (bfN A k f j).1 ≤ t) ∧ (0 < (bfN A k f j).2.2 ∧ (bfN A k f j).2.2 ≤ 200000000000000) ∧ ab (bfN A k f j).2.1 3000000000000000000 := by
  intro j
  induction j with
  | zero => intro _ h; omega
  | succ j ih =>
    intro h _
    have sb := spN_b (hv (f + (j : Int)) (by omega) (by omega)) (by rw [hs]; exact hn)
    simp only [bfN]
    split
    · exact ⟨⟨by show f ≤ f + (j : Int); omega, by show f + (j : Int) ≤ t; omega⟩, sb.1, sb.2⟩
    · rename_i c
      exact ih (by omega) (by omega)
theorem best_cls {mem : Mem} {A : Int → Int} (v : VA A) (hn : 2 ≤ A 1) (h : RB mem 1 A) {k f t : Int} (h0 : 0 ≤ k) (h1 : k < A 1) (hf : 0 ≤ f) (ht : t ≤ A 0) (hv : ∀ x, f ≤ x → x ≤ t → VA (plA A k x)) : ∀ (d n : Nat) (j : Nat) (m : Mem), f + (j : Int) + (d : Int) = t + 1 → d < n → (∀ c i, (c < 111 ∨ 130 < c) → m c i = mem c i) → m 120 3 = 1 → m 123 3 = -1 → (0 < j → m 130 0 = nm (bfN A k f j).2.1 (bfN A k f j).2.2 ∧ m 130 1 = dn (bfN A k f j).2.1 (bfN A k f j).2.2) →
    ∃ m', BP_best_L91 k f t n (bfN A k f j).1 (f + (j : Int)) m = some ((bfN A k f (t + 1 - f).toNat).1, m') ∧ (∀ c i, (c < 111 ∨ 130 < c) → m' c i = mem c i) ∧ m' 120 3 = 1 ∧ m' 123 3 = -1 := by
  have l10 := v.1
  have n4 := v.2.1
  have hs : ∀ x, plA A k x 1 = A 1 := fun x => setA_ne (by omega)
  intro d
  induction d with
  | zero =>
    intro n j m hj hd F c1 c2 I
    obtain ⟨n', rfl⟩ : ∃ n', n = n' + 1 := ⟨n - 1, by omega⟩
    refine ⟨m, ?_, F, c1, c2⟩
    rw [BP_best_L91, s32_id (a := t) (by omega) (by omega), s32_id (a := f + (j : Int)) (by omega) (by omega), if_pos (by omega), show (t + 1 - f).toNat = j by omega]
  | succ d ih =>
    intro n j m hj hd F c1 c2 I
    obtain ⟨n', rfl⟩ : ∃ n', n = n' + 1 := ⟨n - 1, by omega⟩
    have v' := hv (f + (j : Int)) (by omega) (by omega)
    have rbm : RB m 1 A := RB_frame h (fun c i _ _ => F c i (by omega))
    obtain ⟨m8, m10, m11, m12, e8, e10, e11, e12, t0, t1, f12, d1, d2⟩ := inThought_eq v hn rbm c1 c2 (c := 112) (j := 2 + k) (k := k) (w := f + (j : Int)) (Or.inl ⟨rfl, rfl⟩) h0 h1 v'
    have F12 : ∀ c i, (c < 111 ∨ 130 < c) → m12 c i = mem c i := fun c i hc => by rw [f12 c i (by omega)]; exact F c i hc
    have sb := spN_b v' (by rw [hs]; exact hn)
    have take : ∃ m13, Frac_copy 130 129 m12 = some m13 ∧ (∀ c i, (c < 111 ∨ 130 < c) → m13 c i = mem c i) ∧ m13 120 3 = 1 ∧ m13 123 3 = -1 ∧ m13 130 0 = nm (spN (plA A k (f + (j : Int)))) (spD (plA A k (f + (j : Int)))) ∧ m13 130 1 = dn (spN (plA A k (f + (j : Int)))) (spD (plA A k (f + (j : Int)))) := by
      unfold Frac_copy
      simp only [lt_id]
      refine ⟨_, rfl, fun c i hc => by rw [mset_if, if_neg (by omega), mset_if, if_neg (by omega)]; exact F12 c i hc, by rw [mset_if, if_neg (by omega), mset_if, if_neg (by omega)]; exact d1, by rw [mset_if, if_neg (by omega), mset_if, if_neg (by omega)]; exact d2, ?_, ?_⟩
      · simp [mset]; exact t0
      · simp [mset]; exact t1
    obtain ⟨m13, e13, F13, g1, g2, u0, u1⟩ := take
    rw [BP_best_L91, s32_id (a := t) (by omega) (by omega), s32_id (a := f + (j : Int)) (by omega) (by omega), if_neg (by omega), e8, ob_some, ck_id h0 (by omega) (by omega), lt_id, s32_id (a := k) (by omega) (by omega), e10, ob_some, e11, ob_some, e12, ob_some, jn_id, s32_id (a := f) (by omega) (by omega)]
    have nx : bfN A k f (j + 1) = if j = 0 ∨ spN (plA A k (f + (j : Int))) * (bfN A k f j).2.2 < (bfN A k f j).2.1 * spD (plA A k (f + (j : Int))) then (f + (j : Int), spN (plA A k (f + (j : Int))), spD (plA A k (f + (j : Int)))) else bfN A k f j := rfl
    have yes : (j = 0 ∨ spN (plA A k (f + (j : Int))) * (bfN A k f j).2.2 < (bfN A k f j).2.1 * spD (plA A k (f + (j : Int)))) → ∃ m', (Frac_copy 130 129 m12).bind (fun m13 => BP_best_L91 k f t n' (f + (j : Int)) (f + (j : Int) + 1) m13) = some ((bfN A k f (t + 1 - f).toNat).1, m') ∧ (∀ c i, (c < 111 ∨ 130 < c) → m' c i = mem c i) ∧ m' 120 3 = 1 ∧ m' 123 3 = -1 := by
      intro c
      rw [if_pos c] at nx
      have r := ih n' (j + 1) m13 (by omega) (by omega) F13 g1 g2 (fun _ => by rw [nx]; exact ⟨u0, u1⟩)
      rw [nx] at r
      rw [e13, ob_some, show f + (j : Int) + 1 = f + ((j + 1 : Nat) : Int) by omega]
      exact r
    by_cases z : f + (j : Int) = f
    · rw [if_pos z]
      exact yes (Or.inl (by omega))
    · rw [if_neg z]
      obtain ⟨i1, i2⟩ := I (by omega)
      have ok := bf_ok hn hv hs j (by omega) (by omega)
      have a1 := nm_ab (q := spD (plA A k (f + (j : Int)))) sb.2
      have b1 := dn_b (p := spN (plA A k (f + (j : Int)))) sb.1.1
      have a2 := nm_ab (q := (bfN A k f j).2.2) ok.2.2
      have b2 := dn_b (p := (bfN A k f j).2.1) ok.2.1.1
      have w0 : m12 130 0 = nm (bfN A k f j).2.1 (bfN A k f j).2.2 := by rw [f12 _ _ (by omega)]; exact i1
      have w1 : m12 130 1 = dn (bfN A k f j).2.1 (bfN A k f j).2.2 := by rw [f12 _ _ (by omega)]; exact i2
      have t0' : m12 129 0 = nm (spN (plA A k (f + (j : Int)))) (spD (plA A k (f + (j : Int)))) := t0
      have t1' : m12 129 1 = dn (spN (plA A k (f + (j : Int)))) (spD (plA A k (f + (j : Int)))) := t1
      rw [against_eq (by rw [t0']; exact b62_le a1 (by decide)) (by rw [w0]; exact b62_le a2 (by decide)) (by rw [t1']; omega) (by rw [w1]; omega), ob_some, t0', t1', w0, w1]
      have C := (cmp_nd (x := (bfN A k f j).2.1) (d := (bfN A k f j).2.2) (y := spN (plA A k (f + (j : Int)))) (e := spD (plA A k (f + (j : Int)))) ok.2.1.1 sb.1.1).1
      have key : 0 ≤ s32 (sgn (nm (spN (plA A k (f + (j : Int)))) (spD (plA A k (f + (j : Int)))) * dn (bfN A k f j).2.1 (bfN A k f j).2.2 - nm (bfN A k f j).2.1 (bfN A k f j).2.2 * dn (spN (plA A k (f + (j : Int)))) (spD (plA A k (f + (j : Int)))))) ↔ ¬ (spN (plA A k (f + (j : Int))) * (bfN A k f j).2.2 < (bfN A k f j).2.1 * spD (plA A k (f + (j : Int)))) := by
        rw [← C]
        unfold sgn
        split
        · rw [s32_id (a := -1) (by decide) (by decide)]
          constructor <;> intro _ <;> omega
        · split
          · rw [s32_0]
            constructor <;> intro _ <;> omega
          · rw [s32_1]
            constructor <;> intro _ <;> omega
      by_cases c : spN (plA A k (f + (j : Int))) * (bfN A k f j).2.2 < (bfN A k f j).2.1 * spD (plA A k (f + (j : Int)))
      · rw [if_neg (fun y => key.mp y c)]
        exact yes (Or.inr c)
      · have cc : ¬ (j = 0 ∨ spN (plA A k (f + (j : Int))) * (bfN A k f j).2.2 < (bfN A k f j).2.1 * spD (plA A k (f + (j : Int)))) := by
          intro y
          rcases y with y | y
          · omega
          · exact c y
        rw [if_neg cc] at nx
        have r := ih n' (j + 1) m12 (by omega) (by omega) F12 d1 d2 (fun _ => by rw [nx]; exact ⟨w0, w1⟩)
        rw [nx] at r
        rw [if_pos (key.mpr c), show f + (j : Int) + 1 = f + ((j + 1 : Nat) : Int) by omega]
        exact r
def bmf (m' m : Mem) : Prop := ∀ c i, ¬ c = 150 → ¬ (c = 149 ∧ (i = 5 ∨ i = 6 ∨ i = 13 ∨ (15 ≤ i ∧ i ≤ 20))) → ¬ (153 ≤ c ∧ c ≤ 158) → m' c i = m c i
theorem best_mod {A : Int → Int} (v : VA A) (hn : 2 ≤ A 1) {k f t : Int} (h0 : 0 ≤ k) (h1 : k < A 1) (hf : 0 ≤ f) (ht : t ≤ A 0) (hv : ∀ x, f ≤ x → x ≤ t → VA (plA A k x)) {m0 : Mem} (K : Int → Mem → Option (Int × Mem)) : ∀ (d n : Nat) (j : Nat) (u w : Int) (m : Mem), f + (j : Int) + (d : Int) = t + 1 → d < n → (∃ y, m 150 = plA A k y) → bmf m m0 → (0 < j → u = nm (bfN A k f j).2.1 (bfN A k f j).2.2 ∧ w = dn (bfN A k f j).2.1 (bfN A k f j).2.2) →
    ∃ m', Mo_best_L91 k f t K n (bfN A k f j).1 u w (f + (j : Int)) m = K (bfN A k f (t + 1 - f).toNat).1 m' ∧ bmf m' m0 ∧ (∃ y, m' 150 = plA A k y) := by
  have l10 := v.1
  have n4 := v.2.1
  have hs : ∀ x, plA A k x 1 = A 1 := fun x => setA_ne (by omega)
  intro d
  induction d with
  | zero =>
    intro n j u w m hj hd S F I
    obtain ⟨n', rfl⟩ : ∃ n', n = n' + 1 := ⟨n - 1, by omega⟩
    refine ⟨m, ?_, F, S⟩
    rw [Mo_best_L91, s32_id (a := t) (by omega) (by omega), s32_id (a := f + (j : Int)) (by omega) (by omega), if_pos (by omega), show (t + 1 - f).toNat = j by omega]
  | succ d ih =>
    intro n j u w m hj hd S F I
    obtain ⟨n', rfl⟩ : ∃ n', n = n' + 1 := ⟨n - 1, by omega⟩
    have v' := hv (f + (j : Int)) (by omega) (by omega)
    obtain ⟨y, hy⟩ := S
    have hB : mset m 150 (2 + k) (f + (j : Int)) 150 = plA A k (f + (j : Int)) := by
      funext i
      rw [mset_c, hy]
      unfold plA
      rw [← setA_set A (2 + k) y (f + (j : Int))]
      rfl
    obtain ⟨m15, e15, s0, s1, f15⟩ := span2_eq v' (by rw [hs]; exact hn) hB
    have sb := spN_b v' (by rw [hs]; exact hn)
    have S15 : ∃ y, m15 150 = plA A k y := ⟨f + (j : Int), by rw [← hB]; funext i; exact f15 150 i (by omega) (by omega)⟩
    have F15 : bmf m15 m0 := fun c i x1 x2 x3 => by rw [f15 c i (by omega) x3, mset_if, if_neg (by omega)]; exact F c i x1 x2 x3
    rw [Mo_best_L91, s32_id (a := t) (by omega) (by omega), s32_id (a := f + (j : Int)) (by omega) (by omega), if_neg (by omega), ck_id (by omega) (by omega) (by omega), lt_id, s32_id (a := 2 + k) (by omega) (by omega), e15, ob_some, jn_id, lt_id, lt_id, s32_id (a := f) (by omega) (by omega), s0, s1]
    have nx : bfN A k f (j + 1) = if j = 0 ∨ spN (plA A k (f + (j : Int))) * (bfN A k f j).2.2 < (bfN A k f j).2.1 * spD (plA A k (f + (j : Int))) then (f + (j : Int), spN (plA A k (f + (j : Int))), spD (plA A k (f + (j : Int)))) else bfN A k f j := rfl
    have yes : (j = 0 ∨ spN (plA A k (f + (j : Int))) * (bfN A k f j).2.2 < (bfN A k f j).2.1 * spD (plA A k (f + (j : Int)))) → ∃ m', Mo_best_L91 k f t K n' (f + (j : Int)) (nm (spN (plA A k (f + (j : Int)))) (spD (plA A k (f + (j : Int))))) (dn (spN (plA A k (f + (j : Int)))) (spD (plA A k (f + (j : Int))))) (f + (j : Int) + 1) m15 = K (bfN A k f (t + 1 - f).toNat).1 m' ∧ bmf m' m0 ∧ (∃ y, m' 150 = plA A k y) := by
      intro c
      rw [if_pos c] at nx
      have r := ih n' (j + 1) _ _ m15 (by omega) (by omega) S15 F15 (fun _ => by rw [nx]; exact ⟨rfl, rfl⟩)
      rw [nx] at r
      rw [show f + (j : Int) + 1 = f + ((j + 1 : Nat) : Int) by omega]
      exact r
    by_cases z : f + (j : Int) = f
    · rw [if_pos z]
      exact yes (Or.inl (by omega))
    · rw [if_neg z]
      obtain ⟨i1, i2⟩ := I (by omega)
      have ok := bf_ok hn hv hs j (by omega) (by omega)
      have a1 := nm_ab (q := spD (plA A k (f + (j : Int)))) sb.2
      have b1 := dn_b (p := spN (plA A k (f + (j : Int)))) sb.1.1
      have a2 := nm_ab (q := (bfN A k f j).2.2) ok.2.2
      have b2 := dn_b (p := (bfN A k f j).2.1) ok.2.1.1
      have C := (cmp_nd (x := (bfN A k f j).2.1) (d := (bfN A k f j).2.2) (y := spN (plA A k (f + (j : Int)))) (e := spD (plA A k (f + (j : Int)))) ok.2.1.1 sb.1.1).1
      rw [isLess_eq (b62_le a1 (by decide)) (by rw [i1]; exact b62_le a2 (by decide)) ⟨b1.1, by omega⟩ (by rw [i2]; omega), ob_some, i1, i2]
      by_cases c : spN (plA A k (f + (j : Int))) * (bfN A k f j).2.2 < (bfN A k f j).2.1 * spD (plA A k (f + (j : Int)))
      · rw [if_pos (C.mpr c), s32_1, if_1']
        exact yes (Or.inr c)
      · have cc : ¬ (j = 0 ∨ spN (plA A k (f + (j : Int))) * (bfN A k f j).2.2 < (bfN A k f j).2.1 * spD (plA A k (f + (j : Int)))) := by
          intro y
          rcases y with y | y
          · omega
          · exact c y
        rw [if_neg cc] at nx
        have r := ih n' (j + 1) (nm (bfN A k f j).2.1 (bfN A k f j).2.2) (dn (bfN A k f j).2.1 (bfN A k f j).2.2) m15 (by omega) (by omega) S15 F15 (fun _ => by rw [nx]; exact ⟨rfl, rfl⟩)
        rw [nx] at r
        rw [if_neg (fun y => c (C.mp y)), s32_0, if_0', show f + (j : Int) + 1 = f + ((j + 1 : Nat) : Int) by omega]
        exact r
theorem ok_best (a : Int) (ha : r32 a) : OkM (BP_best a) (Mo_best a) s32 := by
  intro mem R
  have R0 := R
  obtain ⟨⟨v, rb⟩, -, -, -, -, -, ⟨k1, k2, -⟩⟩ := R0
  have n4 := v.2.1
  have l10 := v.1
  have b2 := rb.2.1
  have b1 := rb.1
  have b5 := rb.2.2.2.2.1
  obtain ⟨ha1, ha2⟩ := ha
  unfold BP_best Mo_best
  rw [Beam_isSupport_eq ⟨ha1, ha2⟩ (by omega), ob_some, Beam_stands_eq (by omega), ob_some, b2]
  by_cases h2 : 0 ≤ a ∧ a < mem 150 1
  · rw [if_pos h2, s32_1, if_1]
    by_cases h1 : 2 ≤ mem 150 1
    · rw [if_pos h1, s32_1, if_1]
      obtain ⟨f, hfd⟩ : ∃ f, f = (if ¬ a = 0 then aT (mem 150) (a - 1) + 1 else 0) := ⟨_, rfl⟩
      obtain ⟨t, htd⟩ : ∃ t, t = (if ¬ a = mem 150 1 - 1 then aT (mem 150) (a + 1) - 1 else mem 150 0) := ⟨_, rfl⟩
      have ta := VA_at v h2.1 h2.2
      have f0 : 0 ≤ f ∧ f ≤ aT (mem 150) a ∧ (a = 0 ∨ aT (mem 150) (a - 1) + 1 = f) := by
        by_cases c : a = 0
        · rw [if_neg (fun z => z c)] at hfd; omega
        · rw [if_pos c] at hfd
          have q := VA_at v (k := a - 1) (by omega) (by omega)
          have w := VA_lt2 v (i := a - 1) (j := a) (by omega) (by omega) h2.2
          omega
      have t0 : t ≤ mem 150 0 ∧ aT (mem 150) a ≤ t ∧ (a = mem 150 1 - 1 ∨ aT (mem 150) (a + 1) - 1 = t) := by
        by_cases c : a = mem 150 1 - 1
        · rw [if_neg (fun z => z c)] at htd; omega
        · rw [if_pos c] at htd
          have q := VA_at v (k := a + 1) (by omega) (by omega)
          have w := VA_lt2 v (i := a) (j := a + 1) (by omega) (by omega) (by omega)
          omega
      have hv : ∀ x, f ≤ x → x ≤ t → VA (plA (mem 150) a x) := fun x x0 x1 => VA_place v h2.1 h2.2 ⟨by omega, by omega⟩ (by omega) (by omega)
      obtain ⟨m6, e6, f6, c1, c2⟩ := best_cls v h1 rb h2.1 h2.2 f0.1 t0.1 hv (t + 1 - f).toNat 2000 0 mem (by omega) (by omega) (fun _ _ _ => rfl) k1 k2 (fun h => by omega)
      have e6' : BP_best_L91 a f t 2000 f f mem = some ((bfN (mem 150) a f (t + 1 - f).toNat).1, m6) := by
        have : f + ((0 : Nat) : Int) = f := by omega
        rw [this] at e6
        exact e6
      have R6 : Rel m6 := Rel_th R f6 c1 c2
      have hA6 : m6 150 = mem 150 := by funext i; exact f6 150 i (by omega)
      obtain ⟨m3, e3, g1, g2⟩ := thinks_eq m6
      have hA3 : m3 150 = mem 150 := by rw [← hA6]; funext i; exact g2 150 i (by decide)
      obtain ⟨m7, e7, f7, ⟨y, hy⟩⟩ := best_mod v h1 h2.1 h2.2 f0.1 t0.1 hv (m0 := m3) (fun x6 m7 => (Mo_laysBack m7).bind (fun m8 => some (x6, m8))) (t + 1 - f).toNat 2000 0 0 0 m3 (by omega) (by omega) ⟨mem 150 (2 + a), by rw [hA3]; funext i; unfold plA setA; by_cases c : i = 2 + a; rw [if_pos c, c]; rw [if_neg c]⟩ (fun _ _ _ _ _ => rfl) (fun h => by omega)
      have e7' : Mo_best_L91 a f t (fun x6 m7 => (Mo_laysBack m7).bind (fun m8 => some (x6, m8))) 2000 f 0 0 f m3 = (Mo_laysBack m7).bind (fun m8 => some ((bfN (mem 150) a f (t + 1 - f).toNat).1, m8)) := by
        have : f + ((0 : Nat) : Int) = f := by omega
        rw [this] at e7
        exact e7
      obtain ⟨m8, e8, l1, l2, l3⟩ := laysBack_eq m7
      have h150 : m8 150 = m6 150 := by
        funext i
        by_cases c : 0 ≤ i ∧ i < 36
        · rw [l1 i c.1 c.2, f7 160 i (by omega) (by omega) (by omega), g1 i c.1 c.2]
        · rw [l2 i c, hy, hA6]
          exact setA_ne (by omega)
      have R8 : Rel m8 := Rel_mod R6 (fun c i x1 x2 x3 => by
        by_cases c5 : c = 150
        · rw [c5, h150]
        · rw [l3 c i c5, f7 c i c5 (by omega) (by omega), g2 c i (by omega)])
      refine ⟨(bfN (mem 150) a f (t + 1 - f).toNat).1, m6, (bfN (mem 150) a f (t + 1 - f).toNat).1, m8, ?_, ?_, rfl, R8⟩
      · rw [jn_id, s32_id (a := a) (by omega) (by omega), s32_id (a := mem 150 1 - 1) (by omega) (by omega)]
        have p1 : ∀ K : Int → Option (Int × Mem), (if ¬ a = 0 then ck (a - 1) 4 (K (mem 2 (s32 (a - 1)) + 1)) else K 0) = K f := by
          intro K
          rw [hfd]
          by_cases c : a = 0
          · rw [if_neg (fun z => z c), if_neg (fun z => z c)]
          · have w := (b5 (a - 1) (by omega) (by omega)).1
            simp only [Nat.reduceAdd] at w
            rw [if_pos c, if_pos c, ck_id (by omega) (by omega) (by omega), s32_id (a := a - 1) (by omega) (by omega), w]
            rfl
        have p2 : ∀ K : Int → Option (Int × Mem), (if ¬ a = mem 150 1 - 1 then ck (a + 1) 4 (K (mem 2 (s32 (a + 1)) - 1)) else K (mem 1 0)) = K t := by
          intro K
          rw [htd]
          by_cases c : a = mem 150 1 - 1
          · rw [if_neg (fun z => z c), if_neg (fun z => z c), b1]
          · have w := (b5 (a + 1) (by omega) (by omega)).1
            simp only [Nat.reduceAdd] at w
            rw [if_pos c, if_pos c, ck_id (by omega) (by omega) (by omega), s32_id (a := a + 1) (by omega) (by omega), w]
            rfl
        dsimp only
        rw [p1 (fun x3 => jn (fun (x4 : Int) => (BP_best_L91 a x3 x4 2000 x3 x3 mem)) (fun (k84 : Int → Option (Int × Mem)) => if ¬ a = mem 150 1 - 1 then (ck (a + 1) 4 ((k84 ((mem 2 (s32 (a + 1))) - 1)))) else ((k84 (mem 1 0)))))]
        rw [jn_id]
        dsimp only
        rw [p2 (fun x4 => BP_best_L91 a f x4 2000 f f mem)]
        exact e6'
      · rw [Mo_isSupport_eq ⟨ha1, ha2⟩ (by rw [hA6]; omega), hA6, ob_some, if_pos h2, s32_1, if_1, Mo_stands_eq (by rw [hA6]; omega), hA6, ob_some, if_pos h1, s32_1, if_1, e3, ob_some, jn_id, hA3, s32_id (a := a) (by omega) (by omega), s32_id (a := mem 150 1 - 1) (by omega) (by omega)]
        have p1 : ∀ K : Int → Option (Int × Mem), (if ¬ a = 0 then ck (2 + a - 1) 36 (K (mem 150 (s32 (2 + a - 1)) + 1)) else K 0) = K f := by
          intro K
          rw [hfd]
          by_cases c : a = 0
          · rw [if_neg (fun z => z c), if_neg (fun z => z c)]
          · rw [if_pos c, if_pos c, ck_id (by omega) (by omega) (by omega), s32_id (a := 2 + a - 1) (by omega) (by omega), show mem 150 (2 + a - 1) = aT (mem 150) (a - 1) by unfold aT; congr 1; omega]
        have p2 : ∀ K : Int → Option (Int × Mem), (if ¬ a = mem 150 1 - 1 then ck (2 + a + 1) 36 (K (mem 150 (s32 (2 + a + 1)) - 1)) else K (mem 150 0)) = K t := by
          intro K
          rw [htd]
          by_cases c : a = mem 150 1 - 1
          · rw [if_neg (fun z => z c), if_neg (fun z => z c)]
          · rw [if_pos c, if_pos c, ck_id (by omega) (by omega) (by omega), s32_id (a := 2 + a + 1) (by omega) (by omega), show mem 150 (2 + a + 1) = aT (mem 150) (a + 1) by unfold aT; congr 1; omega]
        dsimp only
        rw [p1 (fun x4 => jn (fun (x5 : Int) => jn (fun (x6 : Int) (m7 : Mem) => (Mo_laysBack m7).bind (fun m8 => some (x6, m8))) (fun (k157 : Int → Mem → Option (Int × Mem)) => (Mo_best_L91 a x4 x5 k157 2000 x4 0 0 x4 m3))) (fun (k78 : Int → Option (Int × Mem)) => if ¬ a = mem 150 1 - 1 then (ck ((2 + a) + 1) 36 ((k78 ((mem 150 (s32 ((2 + a) + 1))) - 1)))) else ((k78 (mem 150 0)))))]
        rw [jn_id]
        dsimp only
        rw [p2 (fun x5 => jn (fun (x6 : Int) (m7 : Mem) => (Mo_laysBack m7).bind (fun m8 => some (x6, m8))) (fun (k157 : Int → Mem → Option (Int × Mem)) => (Mo_best_L91 a f x5 k157 2000 f 0 0 f m3)))]
        rw [jn_id]
        rw [e7', e8, ob_some]
    · rw [if_neg h1, s32_0, if_0]
      refine ⟨_, mem, _, mem, rfl, ?_, rfl, R⟩
      rw [Mo_isSupport_eq ⟨ha1, ha2⟩ n4, ob_some, if_pos h2, s32_1, if_1, Mo_stands_eq n4, ob_some, if_neg h1, s32_0, if_0]
  · rw [if_neg h2, s32_0, if_0]
    refine ⟨_, mem, _, mem, rfl, ?_, rfl, R⟩
    rw [Mo_isSupport_eq ⟨ha1, ha2⟩ n4, ob_some, if_neg h2, s32_0, if_0]
