/-! the class's solve, all of it -/
def SV (m : Mem) (A : Int → Int) : Prop := SF m A ∧ m 111 6 = DD A ∧ m 111 14 = PP A ∧ (∀ k, 0 ≤ k → k < A 1 → m 116 k = UU A k) ∧ (∀ x, 0 ≤ x → x ≤ A 0 → m 117 x = CT A x ∧ 2 * m 118 x = MB A x 1)
def AI (m0 : Mem) (A : Int → Int) (x k ahead : Int) (m : Mem) : Prop :=
  (0 ≤ k ∧ k ≤ A 1) ∧ (∀ j, 0 ≤ j → j < k → aT A j < x) ∧ (∀ j, k ≤ j → j < A 1 → x ≤ aT A j) ∧ ahead = T0 A k - DD A * ZS A (bsF x 1) ∧ (∀ y, 0 ≤ y → y < x → m 117 y = CT A y) ∧ (∀ j, 0 ≤ j → j < k → m 116 j = UU A j) ∧ (∀ c i, ¬ c = 116 → ¬ c = 117 → m c i = m0 c i)
theorem VA_mono {A : Int → Int} (v : VA A) : ∀ (d : Nat) (i : Int), 0 ≤ i → i + (d : Int) < A 1 → aT A i + (d : Int) ≤ aT A (i + (d : Int)) := by
  intro d
  induction d with
  | zero => intro i _ _; simp
  | succ d ih =>
    intro i h0 h1
    have a := ih i h0 (by omega)
    have b := VA_lt v (k := i + (d : Int)) (by omega) (by omega)
    rw [show i + ((d + 1 : Nat) : Int) = i + (d : Int) + 1 by omega]
    omega
theorem VA_lt2 {A : Int → Int} (v : VA A) {i j : Int} (h0 : 0 ≤ i) (h1 : i < j) (h2 : j < A 1) : aT A i < aT A j := by
  have := VA_mono v (j - i).toNat i h0 (by omega)
  rw [show i + (((j - i).toNat : Nat) : Int) = j by omega] at this
  omega
theorem along_step {m0 : Mem} {A : Int → Int} (v : VA A) (hn : 2 ≤ A 1) (h : SF m0 A) (o : OV m0 A) (n : Nat) {x k ahead : Int} {m : Mem} (x0 : 0 ≤ x) (x1 : x ≤ A 0) (I : AI m0 A x k ahead m) : ∃ k' ahead' m', Sta_shearAlong_L7 (n + 1) k ahead x m = Sta_shearAlong_L7 n k' ahead' (x + 1) m' ∧ AI m0 A (x + 1) k' ahead' m' := by
  obtain ⟨⟨k0, k1⟩, i2, i3, i3', i4, i5, i6⟩ := I
  have hl := v.1
  have hn4 := v.2.1
  have bn := bs_next v x0 x1
  have s : SF m A := SF_fr h (i6 _ _ (by decide) (by decide)) (i6 _ _ (by decide) (by decide)) (fun c i hc => i6 c i (by omega) (by omega))
  have hD : m 111 6 = DD A := by rw [i6 _ _ (by decide) (by decide)]; exact o.2.1
  rw [Sta_shearAlong_L7, s.1.1, hD]
  simp (disch := omega) only [s32_id, ck_id, lt_id, jn_id]
  rw [if_neg (by omega), (s.2 x x0 (by omega)).1]
  have q := SF_put (c := 117) (i := x) (x := ahead - ZS A (plF x) * DD A) s (Or.inl (by decide)) (by decide) (by decide) (by decide) (by decide)
  have qf : ∀ c i, ¬ c = 117 → mset m 117 x (ahead - ZS A (plF x) * DD A) c i = m c i := fun c i hc => by rw [mset_if, if_neg (fun z => hc z.1)]
  have qh : ∀ y, mset m 117 x (ahead - ZS A (plF x) * DD A) 117 y = if y = x then ahead - ZS A (plF x) * DD A else m 117 y := fun y => mset_c _ _ _ _ _
  generalize mset m 117 x (ahead - ZS A (plF x) * DD A) = m5 at *
  have hD5 : m5 111 6 = DD A := by rw [qf _ _ (by decide)]; exact hD
  rw [q.1.2.1, s32_id (a := A 1) (by omega) (by omega)]
  by_cases c : k < A 1 ∧ aT A k = x
  · rw [if_neg (by omega), (q.1.2.2 k k0 c.1).1, s32_id (a := aT A k) (by omega) (by omega), if_neg (fun z => z c.2), ck_id k0 (by omega) (by omega), s32_id (a := A 1 - 1) (by omega) (by omega)]
    have hcut : m5 117 x = ahead - ZS A (plF x) * DD A := by rw [qh, if_pos rfl]
    have o5 : OV m5 A := ⟨by rw [qf _ _ (by decide), i6 _ _ (by decide) (by decide)]; exact o.1, hD5, fun j j0 j1 => by rw [qf _ _ (by decide), i6 _ _ (by decide) (by decide)]; exact o.2.2 j j0 j1⟩
    have hb : ∀ K : Int → Option Mem, (if ¬ k = A 1 - 1 then (Sta_shearOfSpan k m5).bind K else (Sta_loadsBehind x m5).bind K) = K (SS A k) := by
      intro K
      unfold SS
      by_cases d : k = A 1 - 1
      · rw [if_neg (fun z => z d), if_pos d, behind_eq v q x0 x1, ob_some, hD5, c.2]
      · rw [if_pos d, if_neg d, spanShear_eq v hn q o5 k0 (by omega), ob_some]
    rw [hb, ck_id k0 (by omega) (by omega), hcut]
    have eT : T0 A (k + 1) = TT A k := by unfold T0; rw [if_neg (by omega), show k + 1 - 1 = k by omega]
    have eS : SS A k = TT A k - DD A * (ZS A (plF x) + ZS A (bsF x 1)) := by unfold TT; rw [c.2]; grind
    refine ⟨k + 1, _, _, rfl, ⟨by omega, by omega⟩, fun j j0 j1 => ?_, fun j j0 j1 => ?_, ?_, fun y y0 y1 => ?_, fun j j0 j1 => ?_, fun cc i c1 c2 => ?_⟩
    · by_cases e : j = k
      · rw [e]; omega
      · have := i2 j j0 (by omega); omega
    · have := VA_lt2 v (i := k) (j := j) k0 (by omega) j1; omega
    · rw [mset_here, mset_if, if_neg (by omega), mset_if, if_neg (by omega), (q.2 x x0 (by omega)).2, mset_if, if_neg (by omega), mset_if, if_neg (by omega), hD5, bn, eT, eS]
      grind
    · rw [mset_c]
      by_cases e : y = x
      · rw [if_pos e, e, CT_eq (k := k + 1) (by omega) (by omega) (fun j j0 j1 => by
          by_cases f : j = k
          · rw [f]; omega
          · have := i2 j j0 (by omega); omega) (fun j j0 j1 => by have := VA_lt2 v (i := k) (j := j) k0 (by omega) j1; omega), eT, eS]
      · rw [if_neg e, mset_if, if_neg (by omega), qh, if_neg e]; exact i4 y y0 (by omega)
    · rw [mset_if, if_neg (by omega), mset_c]
      by_cases e : j = k
      · rw [if_pos e, e, i3']
        unfold UU TT
        rw [c.2]
        grind
      · rw [if_neg e, qf _ _ (by decide)]; exact i5 j j0 (by omega)
    · rw [mset_if, if_neg (by omega), mset_if, if_neg (by omega), qf _ _ c2]; exact i6 cc i c1 c2
  · have hx : ∀ j, k ≤ j → j < A 1 → x < aT A j := fun j j0 j1 => by
      have a := i3 j j0 j1
      by_cases e : j = k
      · subst e
        by_cases f : aT A j = x
        · exact absurd ⟨j1, f⟩ c
        · omega
      · have b := i3 k (by omega) (by omega)
        have := VA_lt2 v (i := k) (j := j) k0 (by omega) j1
        omega
    have fin : ∃ k' ahead' m', Sta_shearAlong_L7 n k (m5 117 x - m5 115 x * m5 111 6) (x + 1) m5 = Sta_shearAlong_L7 n k' ahead' (x + 1) m' ∧ AI m0 A (x + 1) k' ahead' m' := by
      refine ⟨k, _, _, rfl, ⟨k0, k1⟩, fun j j0 j1 => by have := i2 j j0 j1; omega, fun j j0 j1 => by have := hx j j0 j1; omega, ?_, fun y y0 y1 => ?_, fun j j0 j1 => ?_, fun cc i c1 c2 => ?_⟩
      · rw [qh, if_pos rfl, (q.2 x x0 (by omega)).2, hD5, bn, i3']
        grind
      · rw [qh]
        by_cases e : y = x
        · rw [if_pos e, e, CT_eq (k := k) k0 k1 (fun j j0 j1 => by have := i2 j j0 j1; omega) hx, i3']
          grind
        · rw [if_neg e]; exact i4 y y0 (by omega)
      · rw [qf _ _ (by decide)]; exact i5 j j0 j1
      · rw [qf _ _ c2]; exact i6 cc i c1 c2
    by_cases d : A 1 ≤ k
    · rw [if_pos d]; exact fin
    · have a9 := VA_at v k0 (show k < A 1 by omega)
      rw [if_neg d, ck_id k0 (by omega) (by omega), (q.1.2.2 k k0 (by omega)).1, s32_id (a := aT A k) (by omega) (by omega), if_pos (fun z => c ⟨by omega, z⟩)]; exact fin
theorem along_eq {m0 : Mem} {A : Int → Int} (v : VA A) (hn : 2 ≤ A 1) (h : SF m0 A) (o : OV m0 A) : ∀ (d n : Nat) (x k ahead : Int) (m : Mem), 0 ≤ x → x + (d : Int) = A 0 + 1 → d < n → AI m0 A x k ahead m → ∃ k' ahead' m', Sta_shearAlong_L7 n k ahead x m = some m' ∧ AI m0 A (A 0 + 1) k' ahead' m' := by
  intro d
  induction d with
  | zero =>
    intro n x k ahead m x0 x1 hd I
    obtain ⟨n', rfl⟩ : ∃ n', n = n' + 1 := ⟨n - 1, by omega⟩
    have hx : x = A 0 + 1 := by omega
    subst hx
    refine ⟨k, ahead, m, ?_, I⟩
    have hl := v.1
    rw [Sta_shearAlong_L7, I.2.2.2.2.2.2 111 0 (by decide) (by decide), h.1.1, s32_id (by omega) (by omega), s32_id (by omega) (by omega), if_pos (by omega)]
  | succ d ih =>
    intro n x k ahead m x0 x1 hd I
    obtain ⟨n', rfl⟩ : ∃ n', n = n' + 1 := ⟨n - 1, by omega⟩
    obtain ⟨k', ahead', m', e, I'⟩ := along_step v hn h o n' x0 (by omega) I
    obtain ⟨k2, ahead2, m2, e2, I2⟩ := ih n' (x + 1) k' ahead' m' (by omega) (by omega) (by omega) I'
    exact ⟨k2, ahead2, m2, by rw [e, e2], I2⟩
theorem shear_eq {m0 : Mem} {A : Int → Int} (v : VA A) (hn : 2 ≤ A 1) (h : SF m0 A) (o : OV m0 A) : ∃ m', Sta_shearAlong m0 = some m' ∧ (∀ y, 0 ≤ y → y ≤ A 0 → m' 117 y = CT A y) ∧ (∀ j, 0 ≤ j → j < A 1 → m' 116 j = UU A j) ∧ (∀ c i, ¬ c = 116 → ¬ c = 117 → m' c i = m0 c i) := by
  have hl := v.1
  have hn4 := v.2.1
  obtain ⟨k', a', m', e, ⟨k0, k1⟩, i1, i2, i3, i4, i5, i6⟩ := along_eq v hn h o (A 0 + 1).toNat 2000 0 0 0 m0 (by omega) (by omega) (by omega) ⟨⟨by omega, by omega⟩, fun j j0 j1 => by omega, fun j j0 j1 => (VA_at v j0 j1).1, by rw [bs_zero v]; simp [T0], fun y y0 y1 => by omega, fun j j0 j1 => by omega, fun _ _ _ _ => rfl⟩
  have hk : k' = A 1 := by
    by_cases c : k' < A 1
    · have a := i2 k' (by omega) c
      have b := VA_at v k0 c
      omega
    · omega
  subst hk
  exact ⟨m', e, fun y y0 y1 => i4 y y0 (by omega), i5, i6⟩
theorem DD_half (A : Int → Int) : ∃ h, DD A = 2 * h := ⟨2 * PP A * PP A * crA A, by unfold DD; grind⟩
theorem bend_eq {m0 : Mem} {A : Int → Int} (v : VA A) (hn : 2 ≤ A 1) (h : SF m0 A) (hD : m0 111 6 = DD A) (hc : ∀ y, 0 ≤ y → y ≤ A 0 → m0 117 y = CT A y) : ∃ m', Sta_bendAlong m0 = some m' ∧ (∀ y, 0 ≤ y → y ≤ A 0 → 2 * m' 118 y = MB A y 1) ∧ (∀ c i, ¬ c = 118 → m' c i = m0 c i) := by
  have hl := v.1
  obtain ⟨⟨B1, B1'⟩, -⟩ := bnd v hn
  obtain ⟨hf, eh⟩ := DD_half A
  unfold Sta_bendAlong
  rw [lt_id]
  obtain ⟨m', e, h1, h2⟩ := loopM (fun n i m => Sta_bendAlong_L9 n i m) (A 0) (fun i m' => (∀ y, 0 ≤ y → y ≤ i → 2 * m' 118 y = MB A y 1) ∧ (∀ c i, ¬ c = 118 → m' c i = m0 c i)) some 0
    (fun n m' I => by
      show Sta_bendAlong_L9 (n + 1) (A 0) m' = some m'
      rw [Sta_bendAlong_L9, I.2 111 0 (by decide), h.1.1, if_pos (by omega)])
    (fun n i m' h0 h1 I => by
      show ∃ m'', Sta_bendAlong_L9 (n + 1) i m' = Sta_bendAlong_L9 n (i + 1) m'' ∧ _
      rw [Sta_bendAlong_L9, I.2 111 0 (by decide), h.1.1, I.2 111 6 (by decide), hD, b62_s ⟨by omega, by omega⟩, s64_id (a := 2) (by decide) (by decide)]
      simp (disch := omega) only [s32_id, ck_id, lt_id]
      rw [if_neg (by omega)]
      refine ⟨_, rfl, fun y y0 y1 => ?_, fun c j hc' => ?_⟩
      · rw [mset_c]
        by_cases f : y = i + 1
        · rw [if_pos f, f, MB_next v h0 (by omega), ← I.1 i h0 (by omega), I.2 117 i (by decide), hc i h0 (by omega), I.2 115 i (by decide), (h.2 i h0 (by omega)).2]
          have : (DD A).tdiv 2 = hf := by rw [eh, Int.mul_comm]; exact Int.mul_tdiv_cancel _ (by decide)
          rw [this]
          conv => rhs; rw [eh]
          grind
        · rw [if_neg f]; exact I.1 y y0 (by omega)
      · rw [mset_if, if_neg (fun z => hc' z.1)]; exact I.2 c j hc')
    (A 0).toNat 2000 0 (mset m0 118 0 0) (by omega) (by omega) (by omega) ⟨fun y y0 y1 => by rw [show y = 0 by omega, mset_here, MB_zero v]; rfl, fun c j hc' => by rw [mset_if, if_neg (fun z => hc' z.1)]⟩
  exact ⟨m', e, h1, h2⟩
theorem solve_eq {m : Mem} {A : Int → Int} (v : VA A) (hn : 2 ≤ A 1) (h : SF m A) : ∃ m', Sta_solve m = some m' ∧ SV m' A ∧ (∀ c i, ¬ c = 116 → ¬ c = 117 → ¬ c = 118 → ¬ c = 126 → ¬ (c = 111 ∧ (i = 6 ∨ i = 14)) → m' c i = m c i) := by
  have hn4 := v.2.1
  have e2 : s32 2 = 2 := s32_id (by decide) (by decide)
  obtain ⟨m1, a1, a2, a3, a4⟩ := over_eq v hn h
  obtain ⟨m2, b1, b2, b3, b4⟩ := shear_eq v hn a2 a3
  have s2 : SF m2 A := SF_fr a2 (b4 _ _ (by decide) (by decide)) (b4 _ _ (by decide) (by decide)) (fun c i hc => b4 c i (by omega) (by omega))
  have hD2 : m2 111 6 = DD A := by rw [b4 _ _ (by decide) (by decide)]; exact a3.2.1
  obtain ⟨m3, c1, c2, c3⟩ := bend_eq v hn s2 hD2 b2
  unfold Sta_solve
  rw [h.1.2.1, e2, s32_id (by omega) (by omega), if_pos (by omega), a1, ob_some, b1, ob_some, c1, ob_some]
  refine ⟨m3, rfl, ⟨SF_fr s2 (c3 _ _ (by decide)) (c3 _ _ (by decide)) (fun c i hc => c3 c i (by omega)), by rw [c3 _ _ (by decide)]; exact hD2, by rw [c3 _ _ (by decide), b4 _ _ (by decide) (by decide)]; exact a3.1, fun k k0 k1 => by rw [c3 _ _ (by decide)]; exact b3 k k0 k1, fun x x0 x1 => ⟨by rw [c3 _ _ (by decide)]; exact b2 x x0 x1, c2 x x0 x1⟩⟩, fun c i h1 h2 h3 h4 h5 => ?_⟩
  rw [c3 c i h3, b4 c i h1 h2, a4 c i h4 h5]
