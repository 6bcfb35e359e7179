/-! how the class's cells stand to the model's -/
/-- a beam as the model writes it, in order -/
def VA (A : Int → Int) : Prop :=
  (2 ≤ A 0 ∧ A 0 ≤ 10) ∧ (0 ≤ A 1 ∧ A 1 ≤ 4) ∧ (0 ≤ A 10 ∧ A 10 ≤ 6) ∧ (0 ≤ A 29 ∧ A 29 ≤ 3) ∧
  (∀ k, 0 ≤ k → k < A 1 → 0 ≤ A (2 + k) ∧ A (2 + k) ≤ A 0 ∧ (A (6 + k) = 0 ∨ A (6 + k) = 1)) ∧
  (∀ k, 0 ≤ k → k + 1 < A 1 → A (2 + k) < A (2 + (k + 1))) ∧
  (∀ k, 0 ≤ k → k < A 10 → 0 ≤ A (11 + k) ∧ A (11 + k) ≤ A (17 + k) ∧ A (17 + k) ≤ A 0 ∧ -9 ≤ A (23 + k) ∧ A (23 + k) ≤ 9) ∧
  (∀ k, 0 ≤ k → k < A 29 → 0 ≤ A (30 + k) ∧ A (30 + k) ≤ 9 ∧ 1 ≤ A (33 + k) ∧ A (33 + k) ≤ 9)
/-- the class's Beam at a is the beam A -/
def RB (mem : Mem) (a : Nat) (A : Int → Int) : Prop :=
  mem a 0 = A 0 ∧ mem a 1 = A 1 ∧ mem a 4 = A 10 ∧ mem a 9 = A 29 ∧
  (∀ k, 0 ≤ k → k < A 1 → mem (a + 1) k = A (2 + k) ∧ mem (a + 2) k = A (6 + k)) ∧
  (∀ k, 0 ≤ k → k < A 10 → mem (a + 3) k = A (11 + k) ∧ mem (a + 4) k = A (17 + k) ∧ mem (a + 5) k = A (23 + k) ∧ mem (a + 6) k = (if A (11 + k) = A (17 + k) then 1 else 0)) ∧
  (∀ k, 0 ≤ k → k < A 29 → mem (a + 7) k = A (30 + k) ∧ mem (a + 8) k = A (33 + k))
theorem RB_frame {mem m : Mem} {a : Nat} {A : Int → Int} (h : RB mem a A) (hm : ∀ c i, a ≤ c → c ≤ a + 8 → m c i = mem c i) : RB m a A := by
  obtain ⟨h1, h2, h3, h4, h5, h6, h7⟩ := h
  refine ⟨?_, ?_, ?_, ?_, fun k k1 k2 => ?_, fun k k1 k2 => ?_, fun k k1 k2 => ?_⟩
  · rw [hm a 0 (by omega) (by omega)]; exact h1
  · rw [hm a 1 (by omega) (by omega)]; exact h2
  · rw [hm a 4 (by omega) (by omega)]; exact h3
  · rw [hm a 9 (by omega) (by omega)]; exact h4
  · rw [hm (a + 1) k (by omega) (by omega), hm (a + 2) k (by omega) (by omega)]; exact h5 k k1 k2
  · rw [hm (a + 3) k (by omega) (by omega), hm (a + 4) k (by omega) (by omega), hm (a + 5) k (by omega) (by omega), hm (a + 6) k (by omega) (by omega)]; exact h6 k k1 k2
  · rw [hm (a + 7) k (by omega) (by omega), hm (a + 8) k (by omega) (by omega)]; exact h7 k k1 k2
/-- both say the same beam -/
theorem RB_congr {mem : Mem} {a : Nat} {A B : Int → Int} (h : RB mem a A) (e : ∀ k, 0 ≤ k → k < 36 → B k = A k) (v : VA A) : RB mem a B ∧ VA B := by
  obtain ⟨h1, h2, h3, h4, h5, h6, h7⟩ := h
  obtain ⟨v1, v2, v3, v4, v5, v6, v7, v8⟩ := v
  have e0 := e 0 (by omega) (by omega)
  have e1 := e 1 (by omega) (by omega)
  have e10 := e 10 (by omega) (by omega)
  have e29 := e 29 (by omega) (by omega)
  refine ⟨⟨?_, ?_, ?_, ?_, fun k k1 k2 => ?_, fun k k1 k2 => ?_, fun k k1 k2 => ?_⟩, ⟨?_, ?_, ?_, ?_, fun k k1 k2 => ?_, fun k k1 k2 => ?_, fun k k1 k2 => ?_, fun k k1 k2 => ?_⟩⟩
  · rw [e0]; exact h1
  · rw [e1]; exact h2
  · rw [e10]; exact h3
  · rw [e29]; exact h4
  · rw [e (2 + k) (by omega) (by omega), e (6 + k) (by omega) (by omega)]; exact h5 k k1 (by omega)
  · rw [e (11 + k) (by omega) (by omega), e (17 + k) (by omega) (by omega), e (23 + k) (by omega) (by omega)]; exact h6 k k1 (by omega)
  · rw [e (30 + k) (by omega) (by omega), e (33 + k) (by omega) (by omega)]; exact h7 k k1 (by omega)
  · rw [e0]; exact v1
  · rw [e1]; exact v2
  · rw [e10]; exact v3
  · rw [e29]; exact v4
  · rw [e0, e (2 + k) (by omega) (by omega), e (6 + k) (by omega) (by omega)]; exact v5 k k1 (by omega)
  · rw [e (2 + k) (by omega) (by omega), e (2 + (k + 1)) (by omega) (by omega)]; exact v6 k k1 (by omega)
  · rw [e0, e (11 + k) (by omega) (by omega), e (17 + k) (by omega) (by omega), e (23 + k) (by omega) (by omega)]; exact v7 k k1 (by omega)
  · rw [e (30 + k) (by omega) (by omega), e (33 + k) (by omega) (by omega)]; exact v8 k k1 (by omega)
/-- where the class keeps the k-th of h changes -/
def ring (next h k : Int) : Nat := 12 + 9 * ((next - h + k) % 10).toNat
def RHist (mem : Mem) : Prop :=
  (0 ≤ mem 149 4 ∧ mem 149 4 ≤ 10) ∧ mem 10 0 = mem 149 4 ∧ (0 ≤ mem 10 1 ∧ mem 10 1 ≤ 9) ∧
  (∀ k, 0 ≤ k → k < mem 149 4 → VA (fun i => mem 152 (36 * k + i)) ∧ RB mem (ring (mem 10 1) (mem 149 4) k) (fun i => mem 152 (36 * k + i)))
def RImage (mem : Mem) : Prop :=
  (mem 0 3 = 0 ∧ mem 149 2 = 0) ∨ (mem 0 3 = 1 ∧ mem 149 2 = 1 ∧ VA (mem 151) ∧ RB mem 102 (mem 151))
def RTape (mem : Mem) : Prop :=
  (0 ≤ mem 149 23 ∧ mem 149 23 ≤ 120) ∧ mem 131 0 = mem 149 23 ∧ (∀ k, 0 ≤ k → k < mem 149 23 → mem 141 k = mem 161 k ∧ 1 ≤ mem 161 k ∧ mem 161 k ≤ 127)
def RPaper (mem : Mem) : Prop :=
  (0 ≤ mem 149 32 ∧ mem 149 32 ≤ 1000) ∧ mem 143 0 = mem 149 32 ∧ (∀ k, 0 ≤ k → k < mem 149 32 → mem 144 k = mem 167 k ∧ 0 ≤ mem 167 k ∧ mem 167 k ≤ 127)
def RLists (mem : Mem) : Prop :=
  ∀ r, 0 ≤ r → r < 3 → mem 147 r = mem 169 r ∧ (-1 ≤ mem 169 r ∧ mem 169 r ≤ 24) ∧ (∀ k, 0 ≤ k → k < mem 169 r → mem 148 (24 * r + k) = mem 168 (24 * r + k))
/-- cells that never change -/
def RConst (mem : Mem) : Prop := mem 120 3 = 1 ∧ mem 123 3 = -1 ∧ (∀ i, mem 162 i = mem0 162 i) ∧ (∀ i, mem 163 i = mem0 163 i) ∧ (∀ i, mem 164 i = mem0 164 i)
def RNow (mem : Mem) : Prop := VA (mem 150) ∧ RB mem 1 (mem 150)
def Rel (mem : Mem) : Prop := RNow mem ∧ RHist mem ∧ RImage mem ∧ RTape mem ∧ RPaper mem ∧ RLists mem ∧ RConst mem
/-- the cells that Rel speaks of -/
def kept (c : Nat) (i : Int) : Prop :=
  c ≤ 110 ∨ (c = 131 ∧ i = 0) ∨ c = 141 ∨ (c = 143 ∧ i = 0) ∨ c = 144 ∨ c = 147 ∨ c = 148 ∨ (c = 120 ∧ i = 3) ∨ (c = 123 ∧ i = 3) ∨
  (c = 149 ∧ (i = 2 ∨ i = 4 ∨ i = 23 ∨ i = 32)) ∨ c = 150 ∨ c = 151 ∨ c = 152 ∨ c = 161 ∨ c = 162 ∨ c = 163 ∨ c = 164 ∨ c = 167 ∨ c = 168 ∨ c = 169
theorem ring_le {n h k : Int} : 12 ≤ ring n h k ∧ ring n h k ≤ 93 := by
  unfold ring
  have h1 := Int.emod_nonneg (n - h + k) (b := 10) (by omega)
  have h2 := Int.emod_lt_of_pos (n - h + k) (b := 10) (by omega)
  omega
theorem Rel_frame {mem m : Mem} (h : Rel mem) (hm : ∀ c i, kept c i → m c i = mem c i) : Rel m := by
  obtain ⟨⟨n1, n2⟩, ⟨q1, q2, q3, q4⟩, im, ⟨t1, t2, t3⟩, ⟨p1, p2, p3⟩, ls, ⟨c1, c2, c3, c4, c5⟩⟩ := h
  have k150 : m 150 = mem 150 := funext fun i => hm 150 i (by unfold kept; omega)
  have k151 : m 151 = mem 151 := funext fun i => hm 151 i (by unfold kept; omega)
  have k152 : m 152 = mem 152 := funext fun i => hm 152 i (by unfold kept; omega)
  have k4 : m 149 4 = mem 149 4 := hm 149 4 (by unfold kept; omega)
  have k2 : m 149 2 = mem 149 2 := hm 149 2 (by unfold kept; omega)
  have k23 : m 149 23 = mem 149 23 := hm 149 23 (by unfold kept; omega)
  have k32 : m 149 32 = mem 149 32 := hm 149 32 (by unfold kept; omega)
  have ka : m 10 0 = mem 10 0 := hm 10 0 (by unfold kept; omega)
  have kb : m 10 1 = mem 10 1 := hm 10 1 (by unfold kept; omega)
  have kc : m 0 3 = mem 0 3 := hm 0 3 (by unfold kept; omega)
  refine ⟨⟨by rw [k150]; exact n1, by rw [k150]; exact RB_frame n2 (fun c i a b => hm c i (by unfold kept; omega))⟩, ⟨by rw [k4]; exact q1, by rw [k4, ka]; exact q2, by rw [kb]; exact q3, fun k a b => ?_⟩, ?_, ⟨by rw [k23]; exact t1, by rw [k23, hm 131 0 (by unfold kept; omega)]; exact t2, fun k a b => ?_⟩, ⟨by rw [k32]; exact p1, by rw [k32, hm 143 0 (by unfold kept; omega)]; exact p2, fun k a b => ?_⟩, fun r a b => ?_, ⟨?_, ?_, fun i => ?_, fun i => ?_, fun i => ?_⟩⟩
  · rw [k152, k4, kb]
    rw [k4] at b
    have rl := ring_le (n := mem 10 1) (h := mem 149 4) (k := k)
    exact ⟨(q4 k a b).1, RB_frame (q4 k a b).2 (fun c i x y => hm c i (by unfold kept; omega))⟩
  · unfold RImage
    rw [kc, k2, k151]
    rcases im with g | ⟨g1, g2, g3, g4⟩
    · exact Or.inl g
    · exact Or.inr ⟨g1, g2, g3, RB_frame g4 (fun c i x y => hm c i (by unfold kept; omega))⟩
  · rw [k23] at b
    rw [hm 141 k (by unfold kept; omega), hm 161 k (by unfold kept; omega)]; exact t3 k a b
  · rw [k32] at b
    rw [hm 144 k (by unfold kept; omega), hm 167 k (by unfold kept; omega)]; exact p3 k a b
  · obtain ⟨l1, l2, l3⟩ := ls r a b
    rw [hm 147 r (by unfold kept; omega), hm 169 r (by unfold kept; omega)]
    refine ⟨l1, l2, fun k x y => ?_⟩
    rw [hm 148 _ (by unfold kept; omega), hm 168 _ (by unfold kept; omega)]
    exact l3 k x y
  · rw [hm 120 3 (by unfold kept; omega)]; exact c1
  · rw [hm 123 3 (by unfold kept; omega)]; exact c2
  · rw [hm 162 i (by unfold kept; omega)]; exact c3 i
  · rw [hm 163 i (by unfold kept; omega)]; exact c4 i
  · rw [hm 164 i (by unfold kept; omega)]; exact c5 i
/-- a call that writes answers as the model does -/
def OkM (F G : Mem → Option (Int × Mem)) (rd : Int → Int) : Prop := ∀ mem, Rel mem → ∃ r m1 r' m2, F mem = some (r, m1) ∧ G m1 = some (r', m2) ∧ rd r = rd r' ∧ Rel m2
/-- a call that only looks -/
def OkP (F G : Mem → Option Int) (rd : Int → Int) : Prop := ∀ mem, Rel mem → ∃ r r', F mem = some r ∧ G mem = some r' ∧ rd r = rd r'
