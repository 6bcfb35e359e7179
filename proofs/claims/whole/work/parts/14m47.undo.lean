/-! image, back, undo, beam -/
theorem VA_eqv {A B : Int → Int} (v : VA A) (e : ∀ k, 0 ≤ k → k < 36 → B k = A k) : VA B := by
  have h : RB (fun c i => if c = 0 then (if i = 0 then A 0 else if i = 1 then A 1 else if i = 4 then A 10 else A 29) else if c = 1 then A (2 + i) else if c = 2 then A (6 + i) else if c = 3 then A (11 + i) else if c = 4 then A (17 + i) else if c = 5 then A (23 + i) else if c = 6 then (if A (11 + i) = A (17 + i) then 1 else 0) else if c = 7 then A (30 + i) else A (33 + i)) 0 A := by
    refine ⟨rfl, rfl, rfl, rfl, fun k _ _ => ⟨rfl, rfl⟩, fun k _ _ => ⟨rfl, rfl, rfl, rfl⟩, fun k _ _ => ⟨rfl, rfl⟩⟩
  exact (RB_congr h e v).2
theorem VA_lens {A : Int → Int} (v : VA A) : A 1 ≤ 4 ∧ A 10 ≤ 6 ∧ A 29 ≤ 3 := ⟨v.2.1.2, v.2.2.1.2, v.2.2.2.1.2⟩
theorem ok_image : OkM BP_image Mo_image s32 := by
  intro mem R
  have R0 := R
  obtain ⟨⟨v, rb⟩, hist, im, tp, pp, ls, cs⟩ := R0
  have L := VA_lens v
  obtain ⟨m1, e1, b1, f1⟩ := become_eq (a := 102) rb (Or.inr (by omega)) L.1 L.2.1 L.2.2
  have hA : mset m1 0 3 1 150 = mem 150 := by funext i; rw [mset_if, if_neg (by omega), f1 150 i (by omega)]
  obtain ⟨m4, e4, c1, c2, c3⟩ := copies_eq (b := 150) (c := 151) (by decide) (by decide) (by decide) (mset (mset m1 0 3 1) 149 2 1)
  have g : ∀ c i, ¬ (102 ≤ c ∧ c ≤ 110) → ¬ (c = 0 ∧ i = 3) → ¬ (c = 149 ∧ i = 2) → ¬ c = 151 → m4 c i = mem c i := fun c i x1 x2 x3 x4 => by rw [c3 c i x4, mset_if, if_neg x3, mset_if, if_neg x2, f1 c i (by omega)]
  have e10 : mset (mset m1 0 3 1) 149 2 1 150 = mem 150 := by funext i; rw [mset_if, if_neg (by omega), hA]
  refine ⟨mem 150 0, mset m1 0 3 1, mem 150 0, m4, ?_, ?_, rfl, ?_⟩
  · unfold BP_image
    rw [e1, ob_some, lt_id]
    congr 2
    rw [mset_if, if_neg (by omega), f1 1 0 (by omega)]
    exact rb.1
  · unfold Mo_image
    rw [lt_id, e4, ob_some]
    congr 2
    rw [g 150 0 (by omega) (by omega) (by omega) (by omega)]
  · obtain ⟨q1, q2, q3, q4⟩ := hist
    obtain ⟨t1, t2, t3⟩ := tp
    obtain ⟨p1, p2, p3⟩ := pp
    obtain ⟨k1, k2, k3, k4, k5⟩ := cs
    have h150 : m4 150 = mem 150 := by funext i; exact g 150 i (by omega) (by omega) (by omega) (by omega)
    have h152 : m4 152 = mem 152 := by funext i; exact g 152 i (by omega) (by omega) (by omega) (by omega)
    refine ⟨⟨by rw [h150]; exact v, by rw [h150]; exact RB_frame rb (fun c i _ _ => g c i (by omega) (by omega) (by omega) (by omega))⟩, ⟨by rw [g 149 4 (by omega) (by omega) (by omega) (by omega)]; exact q1, by rw [g 149 4 (by omega) (by omega) (by omega) (by omega), g 10 0 (by omega) (by omega) (by omega) (by omega)]; exact q2, by rw [g 10 1 (by omega) (by omega) (by omega) (by omega)]; exact q3, fun k k0 k1' => ?_⟩, Or.inr ⟨?_, ?_, ?_, ?_⟩, ⟨by rw [g 149 23 (by omega) (by omega) (by omega) (by omega)]; exact t1, by rw [g 149 23 (by omega) (by omega) (by omega) (by omega), g 131 0 (by omega) (by omega) (by omega) (by omega)]; exact t2, fun k a b => ?_⟩, ⟨by rw [g 149 32 (by omega) (by omega) (by omega) (by omega)]; exact p1, by rw [g 149 32 (by omega) (by omega) (by omega) (by omega), g 143 0 (by omega) (by omega) (by omega) (by omega)]; exact p2, fun k a b => ?_⟩, fun r a b => ?_, ⟨?_, ?_, fun i => ?_, fun i => ?_, fun i => ?_⟩⟩
    · rw [g 149 4 (by omega) (by omega) (by omega) (by omega)] at k1'
      rw [h152, g 149 4 (by omega) (by omega) (by omega) (by omega), g 10 1 (by omega) (by omega) (by omega) (by omega)]
      have rl := ring_le (n := mem 10 1) (h := mem 149 4) (k := k)
      exact ⟨(q4 k k0 k1').1, RB_frame (q4 k k0 k1').2 (fun c i x y => g c i (by omega) (by omega) (by omega) (by omega))⟩
    · rw [c3 0 3 (by decide), mset_if, if_neg (by omega), mset_here]
    · rw [c3 149 2 (by decide), mset_here]
    · exact VA_eqv v (fun k k0 k1' => by rw [c1 k k0 k1', e10])
    · have b2 : RB m4 102 (mem 150) := RB_frame b1 (fun c i _ _ => by rw [c3 c i (by omega), mset_if, if_neg (by omega), mset_if, if_neg (by omega)])
      exact (RB_congr b2 (fun k k0 k1' => by rw [c1 k k0 k1', e10]) v).1
    · rw [g 149 23 (by omega) (by omega) (by omega) (by omega)] at b
      rw [g 141 k (by omega) (by omega) (by omega) (by omega), g 161 k (by omega) (by omega) (by omega) (by omega)]; exact t3 k a b
    · rw [g 149 32 (by omega) (by omega) (by omega) (by omega)] at b
      rw [g 144 k (by omega) (by omega) (by omega) (by omega), g 167 k (by omega) (by omega) (by omega) (by omega)]; exact p3 k a b
    · obtain ⟨l1, l2, l3⟩ := ls r a b
      rw [g 147 r (by omega) (by omega) (by omega) (by omega), g 169 r (by omega) (by omega) (by omega) (by omega)]
      refine ⟨l1, l2, fun k x y => ?_⟩
      rw [g 148 _ (by omega) (by omega) (by omega) (by omega), g 168 _ (by omega) (by omega) (by omega) (by omega)]
      exact l3 k x y
    · rw [g 120 3 (by omega) (by omega) (by omega) (by omega)]; exact k1
    · rw [g 123 3 (by omega) (by omega) (by omega) (by omega)]; exact k2
    · rw [g 162 i (by omega) (by omega) (by omega) (by omega)]; exact k3 i
    · rw [g 163 i (by omega) (by omega) (by omega) (by omega)]; exact k4 i
    · rw [g 164 i (by omega) (by omega) (by omega) (by omega)]; exact k5 i
/-- the beam, and how many changes: all else as it was -/
theorem Rel_new {mem mm : Mem} (R : Rel mem) (vB : VA (mm 150)) (hB : RB mm 1 (mm 150)) (hh : 0 ≤ mm 149 4 ∧ mm 149 4 ≤ mem 149 4) (h1 : mm 10 0 = mm 149 4) (h2 : 0 ≤ mm 10 1 ∧ mm 10 1 ≤ 9) (h3 : (mm 10 1 - mm 149 4) % 10 = (mem 10 1 - mem 149 4) % 10 ∨ mm 149 4 = 0) (fm : ∀ c i, ¬ (c = 150 ∨ (c = 149 ∧ i = 4) ∨ (1 ≤ c ∧ c ≤ 9) ∨ (c = 10 ∧ (i = 0 ∨ i = 1))) → mm c i = mem c i) : Rel mm := by
  obtain ⟨⟨n1, n2⟩, ⟨q1, q2, q3, q4⟩, im, ⟨t1, t2, t3⟩, ⟨p1, p2, p3⟩, ls, ⟨c1, c2, c3, c4, c5⟩⟩ := R
  have h152 : mm 152 = mem 152 := by funext i; exact fm 152 i (by omega)
  refine ⟨⟨vB, hB⟩, ⟨by omega, h1, h2, fun k k0 k1 => ?_⟩, ?_, ⟨by rw [fm 149 23 (by omega)]; exact t1, by rw [fm 149 23 (by omega), fm 131 0 (by omega)]; exact t2, fun k a b => ?_⟩, ⟨by rw [fm 149 32 (by omega)]; exact p1, by rw [fm 149 32 (by omega), fm 143 0 (by omega)]; exact p2, fun k a b => ?_⟩, fun r a b => ?_, ⟨?_, ?_, fun i => ?_, fun i => ?_, fun i => ?_⟩⟩
  · have w := q4 k k0 (by omega)
    rw [h152]
    have er : ring (mm 10 1) (mm 149 4) k = ring (mem 10 1) (mem 149 4) k := by
      unfold ring
      have : (mm 10 1 - mm 149 4 + k) % 10 = (mem 10 1 - mem 149 4 + k) % 10 := by omega
      rw [this]
    rw [er]
    have rl := ring_le (n := mem 10 1) (h := mem 149 4) (k := k)
    exact ⟨w.1, RB_frame w.2 (fun c i x y => fm c i (by omega))⟩
  · unfold RImage
    rw [fm 0 3 (by omega), fm 149 2 (by omega)]
    have e151 : mm 151 = mem 151 := by funext i; exact fm 151 i (by omega)
    rw [e151]
    rcases im with x | ⟨x1, x2, x3, x4⟩
    · exact Or.inl x
    · exact Or.inr ⟨x1, x2, x3, RB_frame x4 (fun c i y0 y1 => fm c i (by omega))⟩
  · rw [fm 149 23 (by omega)] at b
    rw [fm 141 k (by omega), fm 161 k (by omega)]; exact t3 k a b
  · rw [fm 149 32 (by omega)] at b
    rw [fm 144 k (by omega), fm 167 k (by omega)]; exact p3 k a b
  · obtain ⟨l1, l2, l3⟩ := ls r a b
    rw [fm 147 r (by omega), fm 169 r (by omega)]
    refine ⟨l1, l2, fun k x y => ?_⟩
    rw [fm 148 _ (by omega), fm 168 _ (by omega)]
    exact l3 k x y
  · rw [fm 120 3 (by omega)]; exact c1
  · rw [fm 123 3 (by omega)]; exact c2
  · rw [fm 162 i (by omega)]; exact c3 i
  · rw [fm 163 i (by omega)]; exact c4 i
  · rw [fm 164 i (by omega)]; exact c5 i
theorem ok_back : OkM BP_back Mo_back s32 := by
  intro mem R
  have R0 := R
  obtain ⟨⟨v, rb⟩, hist, im, -⟩ := R0
  unfold BP_back Mo_back
  rcases im with ⟨z1, z2⟩ | ⟨z1, z2, z3, z4⟩
  · rw [z1, s32_0, if_0]
    refine ⟨_, mem, _, mem, rfl, ?_, rfl, R⟩
    rw [z2, s32_0, if_0]
  · have L := VA_lens z3
    obtain ⟨m1, e1, b1, f1⟩ := become_eq (a := 1) z4 (Or.inl (by omega)) L.1 L.2.1 L.2.2
    rw [z1, s32_1, if_1, e1, ob_some]
    unfold Chg_forget
    rw [lt_id, ob_some]
    obtain ⟨m4, e4, c1, c2, c3⟩ := copies_eq (b := 151) (c := 150) (by decide) (by decide) (by decide) (mset m1 10 0 0)
    have h151 : mset m1 10 0 0 151 = mem 151 := by funext i; rw [mset_if, if_neg (by omega), f1 151 i (by omega)]
    have e150 : ∀ k, 0 ≤ k → k < 36 → mset m4 149 4 0 150 k = mem 151 k := fun k k0 k1 => by rw [mset_if, if_neg (by omega), c1 k k0 k1, h151]
    refine ⟨mem 151 0, mset m1 10 0 0, mem 151 0, mset m4 149 4 0, ?_, ?_, rfl, ?_⟩
    · congr 2
      rw [mset_if, if_neg (by omega)]
      exact b1.1
    · have h2' : mset m1 10 0 0 149 2 = 1 := by rw [mset_if, if_neg (by omega), f1 149 2 (by omega)]; exact z2
      rw [h2', s32_1, if_1, e4, ob_some, lt_id]
      congr 2
      exact e150 0 (by omega) (by omega)
    · have vB := VA_eqv z3 e150
      have rB : RB (mset m4 149 4 0) 1 (mem 151) := RB_frame b1 (fun c i _ _ => by rw [mset_if, if_neg (by omega), c3 c i (by omega), mset_if, if_neg (by omega)])
      have g : ∀ c i, ¬ (c = 150 ∨ (c = 149 ∧ i = 4) ∨ (1 ≤ c ∧ c ≤ 9) ∨ (c = 10 ∧ i = 0)) → mset m4 149 4 0 c i = mem c i := fun c i hc => by rw [mset_if, if_neg (by omega), c3 c i (by omega), mset_if, if_neg (by omega), f1 c i (by omega)]
      refine Rel_new R vB (RB_congr rB e150 z3).1 (by rw [mset_here]; have := hist.1; omega) (by rw [mset_here, mset_if, if_neg (by omega), c3 10 0 (by decide), mset_here]) (by rw [g 10 1 (by omega)]; exact hist.2.2.1) (Or.inr (mset_here _ _ _ _)) (fun c i hc => g c i (by omega))
theorem ok_undo : OkM BP_undo Mo_undo s32 := by
  intro mem R
  have R0 := R
  obtain ⟨⟨v, rb⟩, ⟨q1, q2, q3, q4⟩, -⟩ := R0
  have e0 : s32 0 = 0 := s32_0
  unfold BP_undo Mo_undo
  by_cases h : mem 149 4 = 0
  · rw [q2, h, s32_0, if_0]
    refine ⟨_, mem, _, mem, rfl, ?_, rfl, R⟩
    rw [h, s32_0, if_0]
  · rw [q2, s32_id (a := mem 149 4) (by omega) (by omega), if_pos h]
    have w := q4 (mem 149 4 - 1) (by omega) (by omega)
    obtain ⟨x1, hx1⟩ : ∃ x1 : Int, x1 = (if ¬ mem 10 1 = 0 then mem 10 1 - 1 else 9) := ⟨_, rfl⟩
    have hx : 0 ≤ x1 ∧ x1 ≤ 9 ∧ (mem 10 1 - mem 149 4 + (mem 149 4 - 1)) % 10 = x1 ∧ (x1 - (mem 149 4 - 1)) % 10 = (mem 10 1 - mem 149 4) % 10 := by
      by_cases c : mem 10 1 = 0
      · rw [if_neg (fun z => z c)] at hx1; omega
      · rw [if_pos c] at hx1; omega
    have wr : RB mem (12 + 9 * x1.toNat) (fun i => mem 152 (36 * (mem 149 4 - 1) + i)) := by
      have := w.2
      unfold ring at this
      rw [hx.2.2.1] at this
      exact this
    have wr2 : RB (mset (mset mem 10 1 x1) 10 0 (mem 149 4 - 1)) (12 + 9 * x1.toNat) (fun i => mem 152 (36 * (mem 149 4 - 1) + i)) := RB_frame wr (fun c i _ _ => by rw [mset_if, if_neg (by omega), mset_if, if_neg (by omega)])
    have L := VA_lens w.1
    obtain ⟨m5, e5, b5, f5⟩ := become_eq (a := 1) wr2 (Or.inl (by omega)) L.1 L.2.1 L.2.2
    have cl : Chg_layBack mem = some m5 := by
      unfold Chg_layBack
      rw [jn_id, s32_id (a := mem 10 1) (by omega) (by omega)]
      have hk : ∀ K : Int → Option Mem, (if ¬ mem 10 1 = 0 then K (mem 10 1 - 1) else K 9) = K x1 := by
        intro K
        rw [hx1]
        by_cases c : mem 10 1 = 0
        · rw [if_neg (fun z => z c), if_neg (fun z => z c)]
        · rw [if_pos c, if_pos c]
      rw [hk (fun x1 => lt (mset mem 10 1 x1) (fun m2 => lt (mset m2 10 0 (if s32 ((m2 10 0) - 1) < s32 0 then 0 else ((m2 10 0) - 1))) (fun m3 => ck (m3 10 1) 10 (lt (12 + 9 * (s32 (m3 10 1)).toNat) (fun q4 => (Beam_become 1 q4 m3).bind (fun m5 => some m5))))))]
      have r0 : mset mem 10 1 x1 10 0 = mem 149 4 := by rw [mset_if, if_neg (by omega)]; exact q2
      rw [lt_id, r0, s32_id (a := mem 149 4 - 1) (by omega) (by omega), s32_0, if_neg (show ¬ mem 149 4 - 1 < 0 by omega), lt_id]
      have r1 : mset (mset mem 10 1 x1) 10 0 (mem 149 4 - 1) 10 1 = x1 := by rw [mset_if, if_neg (by omega), mset_here]
      rw [r1, ck_id hx.1 (by omega) (by omega), lt_id, s32_id (a := x1) (by omega) (by omega), e5, ob_some]
    rw [cl, ob_some]
    have h40 : m5 149 4 = mem 149 4 := by rw [f5 149 4 (by omega), mset_if, if_neg (by omega), mset_if, if_neg (by omega)]
    have h152 : m5 152 = mem 152 := by funext i; rw [f5 152 i (by omega), mset_if, if_neg (by omega), mset_if, if_neg (by omega)]
    obtain ⟨m6, e6, a6, a7, a8⟩ := loopM (fun n i m => Mo_undo_L22 n i m) 36 (fun i m' => (∀ k, 0 ≤ k → k < i → m' 150 k = mem 152 (36 * (mem 149 4 - 1) + k)) ∧ (∀ c k, ¬ c = 150 → m' c k = mset m5 149 4 (mem 149 4 - 1) c k) ∧ True) (fun m => some (m 149 4, m)) 0
      (fun n m' _ => by
        show Mo_undo_L22 (n + 1) 36 m' = some (m' 149 4, m')
        rw [Mo_undo_L22, if_pos (Int.le_refl _)])
      (fun n i m' g0 g1 I => by
        show ∃ m'', Mo_undo_L22 (n + 1) i m' = Mo_undo_L22 n (i + 1) m'' ∧ _
        obtain ⟨I1, I2, -⟩ := I
        have h4' : m' 149 4 = mem 149 4 - 1 := by rw [I2 _ _ (by decide), mset_here]
        rw [Mo_undo_L22, s32_id (a := 36) (by decide) (by decide), s32_id (a := i) (by omega) (by omega), if_neg (by omega), h4', ck_id (by omega) (by omega) (by omega), ck_id g0 (by omega) (by omega), lt_id, s32_id (a := (mem 149 4 - 1) * 36 + i) (by omega) (by omega), I2 152 _ (by decide), mset_if, if_neg (by omega), h152]
        refine ⟨_, rfl, fun k k0 k1 => ?_, fun c k hc => ?_, trivial⟩
        · rw [mset_c]
          by_cases c : k = i
          · rw [if_pos c, c, show (mem 149 4 - 1) * 36 + i = 36 * (mem 149 4 - 1) + i by omega]
          · rw [if_neg c]; exact I1 k k0 (by omega)
        · rw [mset_if, if_neg (fun z => hc z.1)]; exact I2 c k hc)
      36 2000 0 (mset m5 149 4 (mem 149 4 - 1)) (by omega) (by omega) (by omega) ⟨fun k k0 k1 => by omega, fun _ _ _ => rfl, trivial⟩
    have e6' : Mo_undo_L22 2000 0 (mset m5 149 4 (mem 149 4 - 1)) = some (m6 149 4, m6) := e6
    have f64 : m6 149 4 = mem 149 4 - 1 := by rw [a7 _ _ (by decide), mset_here]
    have f100 : m5 10 0 = mem 149 4 - 1 := by rw [f5 10 0 (by omega), mset_here]
    have f101 : m5 10 1 = x1 := by rw [f5 10 1 (by omega), mset_if, if_neg (by omega), mset_here]
    refine ⟨m5 10 0, m5, m6 149 4, m6, rfl, ?_, by rw [f100, f64], ?_⟩
    · rw [h40, s32_id (a := mem 149 4) (by omega) (by omega), if_pos h, lt_id, e6']
    · have vB := VA_eqv w.1 a6
      have rB : RB m6 1 (fun i => mem 152 (36 * (mem 149 4 - 1) + i)) := RB_frame b5 (fun c i _ _ => by rw [a7 c i (by omega), mset_if, if_neg (by omega)])
      refine Rel_new R vB (RB_congr rB a6 w.1).1 (by omega) (by rw [f64, a7 10 0 (by decide), mset_if, if_neg (by omega), f100]) (by rw [a7 10 1 (by decide), mset_if, if_neg (by omega), f101]; omega) (Or.inl (by rw [f64, a7 10 1 (by decide), mset_if, if_neg (by omega), f101]; exact hx.2.2.2)) (fun c i hc => by rw [a7 c i (by omega), mset_if, if_neg (by omega), f5 c i (by omega), mset_if, if_neg (by omega), mset_if, if_neg (by omega)])
