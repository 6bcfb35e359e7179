/-! the class's beam in thought: its frame and its loads -/
def aT (A : Int → Int) (k : Int) : Int := A (2 + k)
def spA (A : Int → Int) (k : Int) : Int := aT A (k + 1) - aT A k
theorem nat_of {x : Int} (h : 0 ≤ x) : ∃ n : Nat, x = (n : Int) := ⟨x.toNat, by omega⟩
theorem ZS_two (A : Int → Int) (c1 c2 : Int → Int) (f1 f2 : Int → Int → Int → Int) (d : Nat) (i : Int) : isum (fun k => c1 k * ZS A (f1 k) + c2 k * ZS A (f2 k)) i d = ZS A (fun x y => isum (fun k => c1 k * f1 k x y + c2 k * f2 k x y) i d) := by
  rw [isum_add (fun k => c1 k * ZS A (f1 k)) (fun k => c2 k * ZS A (f2 k)), ZS_isum, ZS_isum, ← ZS_add]
  congr 1
  funext x y
  rw [isum_add (fun k => c1 k * f1 k x y) (fun k => c2 k * f2 k x y)]
def FR (m : Mem) (A : Int → Int) : Prop := m 111 0 = A 0 ∧ m 111 1 = A 1 ∧ (∀ k, 0 ≤ k → k < A 1 → m 112 k = aT A k ∧ m 113 k = A (6 + k))
def SF (m : Mem) (A : Int → Int) : Prop := FR m A ∧ (∀ k, 0 ≤ k → k < 11 → m 114 k = ZS A (plF k) ∧ m 115 k = ZS A (deF k))
def RBL (m : Mem) (A : Int → Int) : Prop := m 1 4 = A 10 ∧ (∀ k, 0 ≤ k → k < A 10 → m 4 k = A (11 + k) ∧ m 5 k = A (17 + k) ∧ m 6 k = A (23 + k) ∧ m 7 k = (if A (11 + k) = A (17 + k) then 1 else 0))
theorem jd_fill_eq {b : Nat} (hb : ln b = 11) (m : Mem) : ∃ m', jd_fill b 0 m = some m' ∧ (∀ k, 0 ≤ k → k < 11 → m' b k = 0) ∧ ∀ c i, ¬ c = b → m' c i = m c i := by
  unfold jd_fill
  rw [lt_id, hb]
  obtain ⟨m', e, h1, h2⟩ := loopM (fun n i m => jd_fill_L6 b 0 ((11 : Nat) : Int) n i m) 11 (fun i m' => (∀ k, 0 ≤ k → k < i → m' b k = 0) ∧ ∀ c i, ¬ c = b → m' c i = m c i) some 0
    (fun n m' _ => by
      show jd_fill_L6 b 0 ((11 : Nat) : Int) (n + 1) 11 m' = some m'
      rw [jd_fill_L6, if_pos (show s32 ((11 : Nat) : Int) ≤ s32 11 from Int.le_refl _)])
    (fun n i m' h0 h1 hI => by
      refine ⟨mset m' b i 0, ?_, fun k k0 k1 => ?_, fun c j hc => ?_⟩
      · show jd_fill_L6 b 0 ((11 : Nat) : Int) (n + 1) i m' = jd_fill_L6 b 0 ((11 : Nat) : Int) n (i + 1) (mset m' b i 0)
        rw [jd_fill_L6]
        simp (disch := omega) only [s32_id]
        rw [if_neg (by omega), ck_id h0 (by rw [hb]; omega) (by omega), lt_id]
      · rw [mset_c]
        by_cases e : k = i
        · rw [if_pos e]
        · rw [if_neg e]; exact hI.1 k k0 (by omega)
      · rw [mset_if, if_neg (fun z => hc z.1)]; exact hI.2 c j hc)
    11 2000 0 m (by omega) (by omega) (by omega) ⟨fun k k0 k1 => by omega, fun _ _ _ => rfl⟩
  exact ⟨m', e, h1, h2⟩
theorem frame_eq {mem : Mem} {A : Int → Int} (v : VA A) (h : RB mem 1 A) : ∃ m, Sta_frame mem = some m ∧ FR m A ∧ (∀ k, 0 ≤ k → k < 11 → m 114 k = 0 ∧ m 115 k = 0) ∧ ∀ c i, (c < 111 ∨ 115 < c) → m c i = mem c i := by
  obtain ⟨v1, v2, v3, v4, v5, v6, v7, v8⟩ := v
  obtain ⟨b1, b2, b3, b4, b5, b6, b7⟩ := h
  unfold Sta_frame
  rw [lt_id, lt_id, lt_id, lt_id]
  obtain ⟨m5, e5, p5, q5⟩ := jd_fill_eq (b := 114) (by decide) (mcpy (mcpy (mset (mset mem 111 0 (mem 1 0)) 111 1 ((mset mem 111 0 (mem 1 0)) 1 1)) 2 112 4) 3 113 4)
  obtain ⟨m6, e6, p6, q6⟩ := jd_fill_eq (b := 115) (by decide) m5
  rw [e5, ob_some, e6, ob_some]
  refine ⟨m6, rfl, ⟨?_, ?_, fun k k0 k1 => ⟨?_, ?_⟩⟩, fun k k0 k1 => ⟨?_, p6 k k0 k1⟩, fun c i hc => ?_⟩
  · rw [q6 _ _ (by decide), q5 _ _ (by decide)]; simp [mcpy, mset, b1]
  · rw [q6 _ _ (by decide), q5 _ _ (by decide)]; simp [mcpy, mset, b2]
  · rw [q6 _ _ (by decide), q5 _ _ (by decide)]
    have := (b5 k k0 k1).1
    simp only [mcpy, mset]
    simp only [Nat.reduceAdd] at this
    simp [k0, show k < 4 by omega, this, aT]
  · rw [q6 _ _ (by decide), q5 _ _ (by decide)]
    have := (b5 k k0 k1).2
    simp only [mcpy, mset]
    simp only [Nat.reduceAdd] at this
    simp [k0, show k < 4 by omega, this]
  · rw [q6 _ _ (by decide)]; exact p5 k k0 k1
  · rw [q6 _ _ (by omega), q5 _ _ (by omega)]
    simp only [mcpy, mset]
    rw [if_neg (by omega), if_neg (by omega), if_neg (by omega), if_neg (by omega)]
theorem bearPoint_in {m : Mem} {p v : Int} (h : 0 ≤ p ∧ p ≤ m 111 0) (hl : m 111 0 ≤ 10) (hv : -9 ≤ v ∧ v ≤ 9) : Sta_bearPoint p v m = some (mset m 114 p (m 114 p + v)) := by
  unfold Sta_bearPoint
  simp (disch := omega) only [s32_id]
  rw [if_neg (by omega), if_neg (by omega), ck_id h.1 (by omega) (by omega), ck_id h.1 (by omega) (by omega), lt_id]
theorem bearPoint_out {m : Mem} {p v : Int} (h : ¬ (0 ≤ p ∧ p ≤ m 111 0)) (hl : 0 ≤ m 111 0 ∧ m 111 0 ≤ 10) (hp : r32 p) : Sta_bearPoint p v m = some m := by
  obtain ⟨hp1, hp2⟩ := hp
  unfold Sta_bearPoint
  simp (disch := omega) only [s32_id]
  by_cases c : p < 0
  · rw [if_pos c]
  · rw [if_neg c, if_pos (by omega)]
theorem bearLoads_in {i v x y : Int} (hi : 0 ≤ i ∧ i < 6) (hv : -9 ≤ v ∧ v ≤ 9) (hx : 0 ≤ x ∧ x ≤ y ∧ y ≤ 10) (m : Mem) (h5 : m 5 i = y) (h6 : m 6 i = v) (k78 : Mem → Option Mem) :
    ∃ m', Sta_bearLoads_L46 i k78 2000 x m = k78 m' ∧ (∀ k, 0 ≤ k → k < 11 → m' 115 k = m 115 k + v * deF k x y) ∧ ∀ c j, ¬ c = 115 → m' c j = m c j := by
  obtain ⟨m', e, h1, h2⟩ := loopM (fun n j m => Sta_bearLoads_L46 i k78 n j m) y (fun j m' => (∀ k, 0 ≤ k → k < 11 → m' 115 k = m 115 k + v * (if x ≤ k then (if k < j then 1 else 0) else 0)) ∧ ∀ c j, ¬ c = 115 → m' c j = m c j) k78 x
    (fun n m' hI => by
      show Sta_bearLoads_L46 i k78 (n + 1) y m' = k78 m'
      rw [Sta_bearLoads_L46, ck_id hi.1 (by omega) (by omega), s32_id (a := i) (by omega) (by omega), hI.2 5 i (by decide), h5, if_pos (by omega)])
    (fun n j m' h0 h1 hI => by
      refine ⟨mset m' 115 j (m' 115 j + v), ?_, fun k k0 k1 => ?_, fun c q hc => ?_⟩
      · show Sta_bearLoads_L46 i k78 (n + 1) j m' = Sta_bearLoads_L46 i k78 n (j + 1) (mset m' 115 j (m' 115 j + v))
        rw [Sta_bearLoads_L46, ck_id hi.1 (by omega) (by omega), s32_id (a := i) (by omega) (by omega), hI.2 5 i (by decide), h5, hI.2 6 i (by decide), h6]
        simp (disch := omega) only [s32_id]
        rw [if_neg (by omega), ck_id (by omega) (by omega) (by omega), ck_id hi.1 (by omega) (by omega), ck_id (by omega) (by omega) (by omega), lt_id]
      · rw [mset_c]
        by_cases e : k = j
        · subst e
          rw [if_pos rfl, hI.1 k k0 k1]
          simp [h0, show k < k + 1 by omega]
        · rw [if_neg e, hI.1 k k0 k1]
          congr 2
          by_cases c : x ≤ k
          · rw [if_pos c, if_pos c]
            by_cases d : k < j
            · rw [if_pos d, if_pos (by omega)]
            · rw [if_neg d, if_neg (by omega)]
          · rw [if_neg c, if_neg c]
      · rw [mset_if, if_neg (fun z => hc z.1)]; exact hI.2 c q hc)
    (y - x).toNat 2000 x m (by omega) (by omega) (by omega) ⟨fun k k0 k1 => by
      have : (if x ≤ k then (if k < x then (1 : Int) else 0) else 0) = 0 := by
        by_cases c : x ≤ k
        · rw [if_pos c, if_neg (by omega)]
        · rw [if_neg c]
      rw [this, Int.mul_zero, Int.add_zero], fun _ _ _ => rfl⟩
  exact ⟨m', e, h1, h2⟩
theorem bearLoads_eq {m : Mem} {A : Int → Int} (v : VA A) (hl : RBL m A) (hf : FR m A) (hz : ∀ k, 0 ≤ k → k < 11 → m 114 k = 0 ∧ m 115 k = 0) : ∃ m', Sta_bearLoads m = some m' ∧ SF m' A ∧ ∀ c i, ¬ c = 114 → ¬ c = 115 → m' c i = m c i := by
  obtain ⟨v1, v2, v3, v4, v5, v6, v7, v8⟩ := v
  obtain ⟨l1, l2⟩ := hl
  unfold Sta_bearLoads
  obtain ⟨m', e, h1, h2⟩ := loopM (fun n i m => Sta_bearLoads_L2 n i m) (A 10) (fun i m' => (∀ k, 0 ≤ k → k < 11 → m' 114 k = lsum A (plF k) i.toNat ∧ m' 115 k = lsum A (deF k) i.toNat) ∧ ∀ c i, ¬ c = 114 → ¬ c = 115 → m' c i = m c i) some 0
    (fun n m' hI => by
      show Sta_bearLoads_L2 (n + 1) (A 10) m' = some m'
      rw [Sta_bearLoads_L2, hI.2 1 4 (by decide) (by decide), l1, if_pos (by omega)])
    (fun n i m' h0 h1 hI => by
      show ∃ m'', Sta_bearLoads_L2 (n + 1) i m' = Sta_bearLoads_L2 n (i + 1) m'' ∧ _
      obtain ⟨w1, w2, w3, w4⟩ := l2 i h0 h1
      obtain ⟨u1, u2, u3, u4, u5⟩ := v7 i h0 h1
      have s1 : (i + 1).toNat = i.toNat + 1 := by omega
      have s2 : ((i.toNat : Nat) : Int) = i := by omega
      rw [Sta_bearLoads_L2]
      simp (disch := omega) only [s32_id, ck_id]
      rw [hI.2 1 4 (by decide) (by decide), l1, hI.2 7 i (by decide) (by decide), w4, hI.2 4 i (by decide) (by decide), w1, hI.2 6 i (by decide) (by decide), w3]
      simp (disch := omega) only [s32_id, ck_id]
      rw [if_neg (by omega)]
      by_cases e : A (11 + i) = A (17 + i)
      · rw [if_pos e, if_neg (by simp [s32_1])]
        have hlen : m' 111 0 = A 0 := by rw [hI.2 111 0 (by decide) (by decide)]; exact hf.1
        rw [bearPoint_in ⟨u1, by rw [hlen]; omega⟩ (by rw [hlen]; omega) ⟨u4, u5⟩, ob_some]
        refine ⟨_, rfl, fun k k0 k1 => ?_, fun c j c1 c2 => ?_⟩
        · rw [s1]
          simp only [lsum]
          rw [s2]
          have d0 : deF k (A (11 + i)) (A (17 + i)) = 0 := by
            unfold deF
            by_cases c : A (11 + i) ≤ k
            · rw [if_pos c, if_neg (by omega)]
            · rw [if_neg c]
          refine ⟨?_, by rw [d0, Int.mul_zero, Int.add_zero, mset_if, if_neg (fun z => absurd z.1 (by decide)), (hI.1 k k0 k1).2]⟩
          rw [mset_c]
          have p0 : plF k (A (11 + i)) (A (17 + i)) = if A (11 + i) = k then 1 else 0 := by unfold plF; rw [if_pos e]
          rw [p0]
          by_cases c : k = A (11 + i)
          · rw [if_pos c, if_pos c.symm, ← c, (hI.1 k k0 k1).1, Int.mul_one]
          · rw [if_neg c, if_neg (fun z => c z.symm), (hI.1 k k0 k1).1, Int.mul_zero, Int.add_zero]
        · rw [mset_if, if_neg (fun z => c1 z.1)]; exact hI.2 c j c1 c2
      · rw [if_neg e, if_pos (by simp [s32_1, s32_0])]
        rw [lt_id, jn_id]
        obtain ⟨m2, e2, g1, g2⟩ := bearLoads_in (i := i) (v := A (23 + i)) (x := A (11 + i)) (y := A (17 + i)) ⟨h0, by omega⟩ ⟨u4, u5⟩ ⟨u1, u2, by omega⟩ m' (by rw [hI.2 5 i (by decide) (by decide), w2]) (by rw [hI.2 6 i (by decide) (by decide), w3]) (fun m4 => Sta_bearLoads_L2 n (i + 1) m4)
        refine ⟨m2, e2, fun k k0 k1 => ?_, fun c j c1 c2 => ?_⟩
        · rw [s1]
          simp only [lsum]
          rw [s2, g1 k k0 k1, g2 114 k (by decide), (hI.1 k k0 k1).1, (hI.1 k k0 k1).2]
          have p0 : plF k (A (11 + i)) (A (17 + i)) = 0 := by unfold plF; rw [if_neg e]
          refine ⟨?_, rfl⟩
          rw [p0, Int.mul_zero, Int.add_zero]
        · rw [g2 c j c2]; exact hI.2 c j c1 c2)
    (A 10).toNat 2000 0 m (by omega) (by omega) (by omega) ⟨fun k k0 k1 => hz k k0 k1, fun _ _ _ _ => rfl⟩
  refine ⟨m', e, ⟨⟨?_, ?_, fun k k0 k1 => ?_⟩, h1⟩, h2⟩
  · rw [h2 111 0 (by decide) (by decide)]; exact hf.1
  · rw [h2 111 1 (by decide) (by decide)]; exact hf.2.1
  · rw [h2 112 k (by decide) (by decide), h2 113 k (by decide) (by decide)]; exact hf.2.2 k k0 k1
