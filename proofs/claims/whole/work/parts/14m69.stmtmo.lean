/-! the model reads a statement -/
def TM (S : Int) (T : Int → Int) (m : Mem) : Prop := m 149 23 = S ∧ (∀ k, 0 ≤ k → k < S → m 161 k = T k) ∧ (∀ i, m 162 i = mem0 162 i) ∧ (∀ i, m 163 i = mem0 163 i) ∧ (∀ i, m 164 i = mem0 164 i)
theorem TM_fr {S : Int} {T : Int → Int} {m m' : Mem} (C : TM S T m) (h : ∀ c i, (161 ≤ c ∧ c ≤ 164) ∨ (c = 149 ∧ i = 23) → m' c i = m c i) : TM S T m' := by
  obtain ⟨a, b, c, d, e⟩ := C
  exact ⟨by rw [h _ _ (Or.inr ⟨rfl, rfl⟩)]; exact a, fun k k0 k1 => by rw [h _ _ (by omega)]; exact b k k0 k1, fun i => by rw [h _ _ (by omega)]; exact c i, fun i => by rw [h _ _ (by omega)]; exact d i, fun i => by rw [h _ _ (by omega)]; exact e i⟩
theorem bg_all : ∀ w : Nat, w < 6 → (0 ≤ mem0 163 (w : Int) ∧ mem0 163 (w : Int) ≤ 31) ∧ mem0 163 ((w : Int) + 1) - mem0 163 (w : Int) = txL (w : Int) ∧ mem0 163 (w : Int) + txL (w : Int) ≤ 31 ∧ mem0 164 (w : Int) = numsF (w : Int) ∧ (0 ≤ mem0 163 ((w : Int) + 1) ∧ mem0 163 ((w : Int) + 1) ≤ 31) := by decide +kernel
theorem lt_all : ∀ w : Nat, w < 6 → ∀ j : Nat, j < 7 → (j : Int) < txL (w : Int) → mem0 162 (mem0 163 (w : Int) + (j : Int)) = txC (w : Int) (j : Int) := by decide +kernel
theorem here_eq {S : Int} {T : Int → Int} (hT : okT S T) {m : Mem} (C : TM S T m) {a : Int} (ha : m 149 28 = a) (h0 : 0 ≤ a ∧ a ≤ S) : Mo_here m = some (if a < S then T a else -1) := by
  have hS := hT.1
  unfold Mo_here
  rw [ha, C.1, s32_id (a := S) (by omega) (by omega), s32_id (a := a) (by omega) (by omega)]
  by_cases c : a < S
  · rw [if_pos c, if_neg (by omega), ck_id h0.1 (by omega) (by omega), C.2.1 a h0.1 c]
  · rw [if_neg c, if_pos (by omega)]
theorem mo_L5 {S : Int} {T : Int → Int} (hT : okT S T) {m : Mem} (C : TM S T m) (k : Int → Option (Int × Mem)) : ∀ (d n : Nat) (i : Int), 0 ≤ i → i + (d : Int) = S → d < n → Mo_word_L5 m k n i = k (pEnd T d i) := by
  obtain ⟨hS, hT⟩ := hT
  intro d
  induction d with
  | zero =>
    intro n i h0 h1 hn
    obtain ⟨n', rfl⟩ : ∃ n', n = n' + 1 := ⟨n - 1, by omega⟩
    rw [Mo_word_L5, C.1, s32_id (a := S) (by omega) (by omega), s32_id (a := i) (by omega) (by omega), if_pos (by omega), pEnd]
  | succ d ih =>
    intro n i h0 h1 hn
    obtain ⟨n', rfl⟩ : ∃ n', n = n' + 1 := ⟨n - 1, by omega⟩
    have t := hT i h0 (by omega)
    rw [Mo_word_L5, C.1, s32_id (a := S) (by omega) (by omega), s32_id (a := i) (by omega) (by omega), if_neg (by omega), ck_id h0 (by omega) (by omega), C.2.1 i h0 (by omega), s32_id (a := T i) (by omega) (by omega), Mo_in_eq (by omega) (by omega) (by omega), ob_some, pEnd]
    by_cases c : 97 ≤ T i ∧ T i ≤ 122
    · rw [if_pos c, if_pos c, s32_1, if_1', ih n' (i + 1) (by omega) (by omega) (by omega)]
    · rw [if_neg c, if_neg c, s32_0, if_0']
theorem L79_0 (m : Mem) (x2 i5 : Int) (k : Int → Option (Int × Mem)) (n : Nat) (j : Int) : Mo_word_L79 m x2 i5 k (n + 1) 0 j = k 0 := by
  rw [Mo_word_L79, s32_0, if_0']
  by_cases c : s32 (x2 - m 149 28) ≤ s32 j
  · rw [if_pos c]
  · rw [if_neg c]
theorem L79_1 {S : Int} {T : Int → Int} (hT : okT S T) {m : Mem} (C : TM S T m) {a e : Int} (ha : m 149 28 = a) (a0 : 0 ≤ a) (he : e ≤ S) {w : Nat} (hw : w < 6) (hl : txL (w : Int) = e - a) (k : Int → Option (Int × Mem)) : ∀ (d n : Nat) (j : Int), 0 ≤ j → a + j + (d : Int) = e → d + 1 < n → Mo_word_L79 m e (w : Int) k n 1 j = k (spL T (w : Int) a d j) := by
  obtain ⟨hS, hT⟩ := hT
  have tl := tx_len w hw
  obtain ⟨g1, g2, g3, g4, g5⟩ := bg_all w hw
  intro d
  induction d with
  | zero =>
    intro n j h0 h1 hn
    obtain ⟨n', rfl⟩ : ∃ n', n = n' + 1 := ⟨n - 1, by omega⟩
    rw [Mo_word_L79, ha, s32_id (a := e - a) (by omega) (by omega), s32_id (a := j) (by omega) (by omega), if_pos (by omega), spL]
  | succ d ih =>
    intro n j h0 h1 hn
    obtain ⟨n', rfl⟩ : ∃ n', n = n' + 1 + 1 := ⟨n - 2, by omega⟩
    have t := hT (a + j) (by omega) (by omega)
    have g := tx_chr' (w := (w : Int)) (j := j) ⟨by omega, by omega⟩ ⟨h0, by omega⟩
    have lc : mem0 162 (mem0 163 (w : Int) + j) = txC (w : Int) j := by
      obtain ⟨j', rfl⟩ := nat_of h0
      exact lt_all w hw j' (by omega) (by omega)
    rw [Mo_word_L79, ha, s32_id (a := e - a) (by omega) (by omega), s32_id (a := j) (by omega) (by omega), if_neg (by omega), s32_1, if_1', ck_id (by omega) (by omega) (by omega), s32_id (a := a + j) (by omega) (by omega), ck_id (by omega) (by omega) (by omega), s32_id (a := (w : Int)) (by omega) (by omega), C.2.2.2.1, ck_id (by omega) (by omega) (by omega), s32_id (a := mem0 163 (w : Int) + j) (by omega) (by omega), C.2.2.1, lc, C.2.1 (a + j) (by omega) (by omega), s32_id (a := T (a + j)) (by omega) (by omega), s32_id (a := txC (w : Int) j) (by omega) (by omega), spL]
    simp only [jn_id]
    by_cases c : T (a + j) = txC (w : Int) j
    · rw [if_neg (fun z => z c), if_pos c]
      exact ih (n' + 1) (j + 1) (by omega) (by omega) (by omega)
    · rw [if_pos c, if_neg c]
      exact L79_0 m e (w : Int) k n' (j + 1)
theorem mo_L40 {S : Int} {T : Int → Int} (hT : okT S T) {m : Mem} (C : TM S T m) {a e : Int} (ha : m 149 28 = a) (a0 : 0 ≤ a) (hae : a ≤ e) (he : e ≤ S) (k : Int → Option (Int × Mem)) : ∀ (d n : Nat) (w : Nat), w + d = 6 → d < n → Mo_word_L40 m e k n (w : Int) = (if 0 ≤ wdF T a e d (w : Int) then k (wdF T a e d (w : Int)) else some (-1, m)) := by
  have e6 : s32 6 = 6 := s32_id (by decide) (by decide)
  have hS := hT.1
  intro d
  induction d with
  | zero =>
    intro n w hw hn
    obtain ⟨n', rfl⟩ : ∃ n', n = n' + 1 := ⟨n - 1, by omega⟩
    rw [Mo_word_L40, e6, s32_id (a := (w : Int)) (by omega) (by omega), if_pos (by omega), wdF, if_neg (by decide)]
  | succ d ih =>
    intro n w hw hn
    obtain ⟨n', rfl⟩ : ∃ n', n = n' + 1 := ⟨n - 1, by omega⟩
    have hw6 : w < 6 := by omega
    have tl := tx_len w hw6
    obtain ⟨g1, g2, g3, g4, g5⟩ := bg_all w hw6
    have q := ih n' (w + 1) (by omega) (by omega)
    have key : ∀ x6 : Int, (x6 = 1 ∧ txL (w : Int) = e - a) ∨ (x6 = 0 ∧ ¬ txL (w : Int) = e - a) → Mo_word_L79 m e (w : Int) (fun (x7 : Int) => if s32 x7 = 0 then ((Mo_word_L40 m e k n' ((w : Int) + 1))) else ((k (w : Int)))) 2000 x6 0 = (if 0 ≤ wdF T a e (d + 1) (w : Int) then k (wdF T a e (d + 1) (w : Int)) else some (-1, m)) := by
      intro x6 hx
      have s01 := spW_01 T a e (w : Int)
      have r : Mo_word_L79 m e (w : Int) (fun (x7 : Int) => if s32 x7 = 0 then ((Mo_word_L40 m e k n' ((w : Int) + 1))) else ((k (w : Int)))) 2000 x6 0 = (if spW T a e (w : Int) = 0 then ((Mo_word_L40 m e k n' ((w : Int) + 1))) else ((k (w : Int)))) := by
        rcases hx with ⟨rfl, hl⟩ | ⟨rfl, hl⟩
        · have z := L79_1 hT C ha a0 he hw6 hl (fun (x7 : Int) => if s32 x7 = 0 then ((Mo_word_L40 m e k n' ((w : Int) + 1))) else ((k (w : Int)))) (e - a).toNat 2000 0 (by omega) (by omega) (by omega)
          have sw : spW T a e (w : Int) = spL T (w : Int) a (e - a).toNat 0 := by unfold spW; rw [if_pos hl]
          rw [z, ← sw]
          rw [s32_id (a := spW T a e (w : Int)) (by omega) (by omega)]
        · have z := L79_0 m e (w : Int) (fun (x7 : Int) => if s32 x7 = 0 then ((Mo_word_L40 m e k n' ((w : Int) + 1))) else ((k (w : Int)))) 1999 0
          have sw : spW T a e (w : Int) = 0 := by unfold spW; rw [if_neg hl]
          refine Eq.trans z ?_
          rw [s32_0, sw]
      rw [r, wdF]
      by_cases c : spW T a e (w : Int) = 0
      · rw [if_pos c, if_pos c, show (w : Int) + 1 = ((w + 1 : Nat) : Int) by omega, q]
      · rw [if_neg c, if_neg c, if_pos (show (0 : Int) ≤ (w : Int) by omega)]
    rw [Mo_word_L40, e6, s32_id (a := (w : Int)) (by omega) (by omega), if_neg (by omega), ck_id (by omega) (by omega) (by omega), ck_id (by omega) (by omega) (by omega), ha, s32_id (a := e - a) (by omega) (by omega), s32_id (a := (w : Int) + 1) (by omega) (by omega), C.2.2.2.1, C.2.2.2.1, g2, s32_id (a := txL (w : Int)) (by omega) (by omega)]
    simp only [jn_id]
    by_cases c : txL (w : Int) = e - a
    · rw [if_neg (show ¬ ¬ e - a = txL (w : Int) by omega)]
      exact key 1 (Or.inl ⟨rfl, c⟩)
    · rw [if_pos (show ¬ e - a = txL (w : Int) by omega)]
      exact key 0 (Or.inr ⟨rfl, c⟩)
def frA (m' m : Mem) : Prop := ∀ c i, ¬ (c = 149 ∧ i = 28) → m' c i = m c i
theorem moWord_eq {S : Int} {T : Int → Int} (hT : okT S T) {m : Mem} (C : TM S T m) {a : Int} (ha : m 149 28 = a) (a0 : 0 ≤ a) (a1 : a ≤ S) : ∃ m', Mo_word m = some (pWd T S a, m') ∧ m' 149 28 = (if 0 ≤ pWd T S a then pE T S a else a) ∧ frA m' m := by
  have hS := hT.1
  obtain ⟨b1, b2, b3, b4, b5, b6⟩ := pS_b T a0 a1
  have L := mo_L5 hT C (fun (x2 : Int) => jn (fun (x3 : Int) => lt (mset m 149 28 x2) (fun m4 => some (x3, m4))) (fun (k139 : Int → Option (Int × Mem)) => (Mo_word_L40 m x2 k139 2000 0))) (S - a).toNat 2000 a a0 (by omega) (by omega)
  have W := mo_L40 hT C ha a0 b6.1 b6.2 (fun (x3 : Int) => lt (mset m 149 28 (pE T S a)) (fun m4 => some (x3, m4))) 6 2000 0 rfl (by omega)
  have W' : Mo_word_L40 m (pE T S a) (fun (x3 : Int) => lt (mset m 149 28 (pE T S a)) (fun m4 => some (x3, m4))) 2000 0 = (if 0 ≤ pWd T S a then lt (mset m 149 28 (pE T S a)) (fun m4 => some (pWd T S a, m4)) else some (-1, m)) := W
  unfold Mo_word
  rw [lt_id, jn_id, ha, L, show pEnd T (S - a).toNat a = pE T S a from rfl]
  rw [jn_id, W']
  by_cases c : 0 ≤ pWd T S a
  · rw [if_pos c, if_pos c, lt_id]
    exact ⟨_, rfl, mset_here _ _ _ _, fun c i hc => by rw [mset_if, if_neg hc]⟩
  · rw [if_neg c, if_neg c, show pWd T S a = -1 by omega]
    exact ⟨m, rfl, ha, fun _ _ _ => rfl⟩
/-- the figures, as the model takes them -/
def tkF (p0 x3 : Int) (m5 : Mem) : Option (Int × Mem) := jn (fun (x6 : Int) (x7 : Int) (m8 : Mem) => jn (fun (x9 : Int) => ck p0 3 (lt (mset m8 165 (s32 p0) x9) (fun m10 => if s32 x6 ≤ 0 then (some (0, m10)) else (some (1, m10))))) (fun (k135 : Int → Option (Int × Mem)) => if s32 x3 = 0 then ((k135 x7)) else ((k135 (-x7))))) (fun (k118 : Int → Int → Mem → Option (Int × Mem)) => (Mo_takes_L64 k118 2000 0 0 m5))
theorem takes_tkF (p0 p1 : Int) (mem : Mem) : Mo_takes p0 p1 mem = (Mo_here mem).bind (fun r1 => if s32 r1 = s32 32 then (lt (mset mem 149 28 ((mem 149 28) + 1)) (fun m2 => jn (fun (x3 : Int) => jn (fun (x4 : Int) => lt (mset m2 149 28 ((m2 149 28) + x4)) (fun m5 => tkF p0 x3 m5)) (fun (k54 : Int → Option (Int × Mem)) => if s32 x3 = 0 then ((k54 0)) else ((k54 1)))) (fun (k39 : Int → Option (Int × Mem)) => jn ((k39 0)) (fun (k38 : Option (Int × Mem)) => if s32 p1 = 0 then (k38) else ((Mo_here m2).bind (fun r19 => if ¬ s32 r19 = s32 45 then (k38) else ((k39 1)))))))) else (some (0, mem))) := by
  unfold Mo_takes tkF
  rfl
theorem L64_no {S : Int} {T : Int → Int} (hT : okT S T) {m : Mem} (C : TM S T m) {b v : Int} (hb : m 149 28 = b) (h0 : 0 ≤ b ∧ b ≤ S) (k : Int → Int → Mem → Option (Int × Mem)) (n : Nat) {i : Int} (hi : 0 ≤ i ∧ i ≤ 2) (h : i = 2 ∨ ¬ (b < S ∧ 48 ≤ T b ∧ T b ≤ 57)) : Mo_takes_L64 k (n + 1) i v m = k i v m := by
  have hS := hT.1
  have e2 : s32 2 = 2 := s32_id (by decide) (by decide)
  rw [Mo_takes_L64, e2, s32_id (a := i) (by omega) (by omega)]
  by_cases c : i = 2
  · rw [if_pos (by omega)]
  · rw [if_neg (by omega), here_eq hT C hb h0, ob_some]
    by_cases d : b < S
    · have t := hT.2 b h0.1 d
      rw [if_pos d, s32_id (a := T b) (by omega) (by omega), Mo_in_eq (by omega) (by omega) (by omega), ob_some, if_neg (show ¬ (48 ≤ T b ∧ T b ≤ 57) by omega), s32_0, if_0']
    · rw [if_neg d, s32_id (a := -1) (by decide) (by decide), Mo_in_eq (by omega) (by omega) (by omega), ob_some, if_neg (show ¬ ((48 : Int) ≤ -1 ∧ (-1 : Int) ≤ 57) by omega), s32_0, if_0']
theorem L64_yes {S : Int} {T : Int → Int} (hT : okT S T) {m : Mem} (C : TM S T m) {b v : Int} (hb : m 149 28 = b) (h0 : 0 ≤ b ∧ b ≤ S) (k : Int → Int → Mem → Option (Int × Mem)) (n : Nat) {i : Int} (hi : 0 ≤ i ∧ i < 2) (h : b < S ∧ 48 ≤ T b ∧ T b ≤ 57) : Mo_takes_L64 k (n + 1) i v m = Mo_takes_L64 k n (i + 1) (10 * v + T b - 48) (mset m 149 28 (b + 1)) := by
  have hS := hT.1
  have e2 : s32 2 = 2 := s32_id (by decide) (by decide)
  have t := hT.2 b h0.1 h.1
  rw [Mo_takes_L64, e2, s32_id (a := i) (by omega) (by omega), if_neg (by omega), here_eq hT C hb h0, ob_some, if_pos h.1, s32_id (a := T b) (by omega) (by omega), Mo_in_eq (by omega) (by omega) (by omega), ob_some, if_pos h.2, s32_1, if_1', ob_some, lt_id, lt_id, hb]
def frM (p : Int) (m' m : Mem) : Prop := ∀ c i, ¬ (c = 149 ∧ i = 28) → ¬ (c = 165 ∧ i = p) → m' c i = m c i
theorem tkF_eq {S : Int} {T : Int → Int} (hT : okT S T) {m : Mem} (C : TM S T m) {b p x : Int} (hb : m 149 28 = b) (h0 : 0 ≤ b ∧ b ≤ S) (hp : 0 ≤ p ∧ p < 3) (hx : x = 0 ∨ x = 1) : ∃ m', tkF p x m = some ((pF T S x b).1, m') ∧ m' 149 28 = (pF T S x b).2.1 ∧ ((pF T S x b).1 = 1 → m' 165 p = (pF T S x b).2.2) ∧ frM p m' m := by
  have hS := hT.1
  have e2 : s32 2 = 2 := s32_id (by decide) (by decide)
  have key : ∀ (x6 v : Int) (m10 : Mem), frM p m10 m → (0 ≤ x6 ∧ x6 ≤ 2) → ∃ m', jn (fun (x9 : Int) => ck p 3 (lt (mset m10 165 (s32 p) x9) (fun m10 => if s32 x6 ≤ 0 then (some ((0 : Int), m10)) else (some (1, m10))))) (fun (k135 : Int → Option (Int × Mem)) => if s32 x = 0 then ((k135 v)) else ((k135 (-v)))) = some ((if x6 = 0 then 0 else 1), m') ∧ m' 149 28 = m10 149 28 ∧ m' 165 p = sg x v ∧ frM p m' m := by
    intro x6 v m10 f10 h6
    unfold sg
    simp only [jn_id]
    rw [ck_id hp.1 (by omega) (by omega), ck_id hp.1 (by omega) (by omega), s32_id (a := p) (by omega) (by omega), lt_id, lt_id, s32_id (a := x6) (by omega) (by omega)]
    have two : ∀ y : Int, ∃ m', (if x6 ≤ 0 then (some ((0 : Int), mset m10 165 p y)) else (some (1, mset m10 165 p y))) = some ((if x6 = 0 then 0 else 1), m') ∧ m' 149 28 = m10 149 28 ∧ m' 165 p = y ∧ frM p m' m := by
      intro y
      refine ⟨mset m10 165 p y, ?_, by rw [mset_if, if_neg (by omega)], mset_here _ _ _ _, fun c i h1 h2 => by rw [mset_if, if_neg h2]; exact f10 c i h1 h2⟩
      by_cases z : x6 = 0
      · rw [if_pos (by omega), if_pos z]
      · rw [if_neg (by omega), if_neg z]
    rcases hx with rfl | rfl
    · rw [s32_0, if_pos rfl, if_pos rfl]; exact two v
    · rw [s32_1, if_1', if_1']; exact two (-v)
  have f0 : frM p m m := fun _ _ _ _ => rfl
  unfold tkF
  rw [jn_id]
  by_cases c : b < S ∧ 48 ≤ T b ∧ T b ≤ 57
  · have q1 := L64_yes hT C (v := 0) hb h0 (fun (x6 : Int) (x7 : Int) (m8 : Mem) => jn (fun (x9 : Int) => ck p 3 (lt (mset m8 165 (s32 p) x9) (fun m10 => if s32 x6 ≤ 0 then (some ((0 : Int), m10)) else (some (1, m10))))) (fun (k135 : Int → Option (Int × Mem)) => if s32 x = 0 then ((k135 x7)) else ((k135 (-x7))))) 1999 (i := 0) (by omega) c
    have C1 : TM S T (mset m 149 28 (b + 1)) := TM_fr C (fun c i hc => by rw [mset_if, if_neg (by omega)])
    have f1 : frM p (mset m 149 28 (b + 1)) m := fun c i h1 h2 => by rw [mset_if, if_neg h1]
    have n1 : (10 * 0 + T b - 48 : Int) = T b - 48 := by omega
    rw [n1] at q1
    by_cases d : b + 1 < S ∧ 48 ≤ T (b + 1) ∧ T (b + 1) ≤ 57
    · have e : pF T S x b = (1, b + 2, sg x (10 * (T b - 48) + T (b + 1) - 48)) := by unfold pF; rw [if_pos c, if_pos d]
      have q2 := L64_yes hT C1 (v := T b - 48) (mset_here _ _ _ _) ⟨by omega, by omega⟩ (fun (x6 : Int) (x7 : Int) (m8 : Mem) => jn (fun (x9 : Int) => ck p 3 (lt (mset m8 165 (s32 p) x9) (fun m10 => if s32 x6 ≤ 0 then (some ((0 : Int), m10)) else (some (1, m10))))) (fun (k135 : Int → Option (Int × Mem)) => if s32 x = 0 then ((k135 x7)) else ((k135 (-x7))))) 1998 (i := 0 + 1) (by omega) d
      have C2 : TM S T (mset (mset m 149 28 (b + 1)) 149 28 (b + 1 + 1)) := TM_fr C1 (fun c i hc => by rw [mset_if, if_neg (by omega)])
      have q3 := L64_no hT C2 (v := 10 * (T b - 48) + T (b + 1) - 48) (mset_here _ _ _ _) ⟨by omega, by omega⟩ (fun (x6 : Int) (x7 : Int) (m8 : Mem) => jn (fun (x9 : Int) => ck p 3 (lt (mset m8 165 (s32 p) x9) (fun m10 => if s32 x6 ≤ 0 then (some ((0 : Int), m10)) else (some (1, m10))))) (fun (k135 : Int → Option (Int × Mem)) => if s32 x = 0 then ((k135 x7)) else ((k135 (-x7))))) 1997 (i := 0 + 1 + 1) (by omega) (Or.inl (by omega))
      obtain ⟨m', e1, e2, e3, e4⟩ := key (0 + 1 + 1) (10 * (T b - 48) + T (b + 1) - 48) (mset (mset m 149 28 (b + 1)) 149 28 (b + 1 + 1)) (fun c i h1 h2 => by rw [mset_if, if_neg h1]; exact f1 c i h1 h2) (by omega)
      rw [e]
      exact ⟨m', Eq.trans q1 (Eq.trans q2 (Eq.trans q3 e1)), by rw [e2, mset_here]; show b + 1 + 1 = b + 2; omega, fun _ => e3, e4⟩
    · have e : pF T S x b = (1, b + 1, sg x (T b - 48)) := by unfold pF; rw [if_pos c, if_neg d]
      have q3 := L64_no hT C1 (v := T b - 48) (mset_here _ _ _ _) ⟨by omega, by omega⟩ (fun (x6 : Int) (x7 : Int) (m8 : Mem) => jn (fun (x9 : Int) => ck p 3 (lt (mset m8 165 (s32 p) x9) (fun m10 => if s32 x6 ≤ 0 then (some ((0 : Int), m10)) else (some (1, m10))))) (fun (k135 : Int → Option (Int × Mem)) => if s32 x = 0 then ((k135 x7)) else ((k135 (-x7))))) 1998 (i := 0 + 1) (by omega) (Or.inr d)
      obtain ⟨m', e1, e2, e3, e4⟩ := key (0 + 1) (T b - 48) (mset m 149 28 (b + 1)) f1 (by omega)
      rw [e]
      exact ⟨m', Eq.trans q1 (Eq.trans q3 e1), by rw [e2, mset_here], fun _ => e3, e4⟩
  · have e : pF T S x b = (0, b, 0) := by unfold pF; rw [if_neg c]
    have q3 := L64_no hT C (v := 0) hb h0 (fun (x6 : Int) (x7 : Int) (m8 : Mem) => jn (fun (x9 : Int) => ck p 3 (lt (mset m8 165 (s32 p) x9) (fun m10 => if s32 x6 ≤ 0 then (some ((0 : Int), m10)) else (some (1, m10))))) (fun (k135 : Int → Option (Int × Mem)) => if s32 x = 0 then ((k135 x7)) else ((k135 (-x7))))) 1999 (i := 0) (by omega) (Or.inr c)
    obtain ⟨m', e1, e2, e3, e4⟩ := key 0 0 m f0 (by omega)
    rw [e]
    exact ⟨m', Eq.trans q3 e1, by rw [e2]; exact hb, fun z => absurd (show (0 : Int) = 1 from z) (by decide), e4⟩
theorem takes_eq {S : Int} {T : Int → Int} (hT : okT S T) {m : Mem} (C : TM S T m) {a p g : Int} (ha : m 149 28 = a) (h0 : 0 ≤ a ∧ a ≤ S) (hp : 0 ≤ p ∧ p < 3) (hg : g = 0 ∨ g = 1) : ∃ m', Mo_takes p g m = some ((pN T S g a).1, m') ∧ m' 149 28 = (pN T S g a).2.1 ∧ ((pN T S g a).1 = 1 → m' 165 p = (pN T S g a).2.2) ∧ frM p m' m := by
  have hS := hT.1
  have e32 : s32 32 = 32 := s32_id (by decide) (by decide)
  have e45 : s32 45 = 45 := s32_id (by decide) (by decide)
  have hr : ∀ b, 0 ≤ b → b ≤ S → s32 (if b < S then T b else -1) = (if b < S then T b else -1) := fun b b0 b1 => by
    by_cases z : b < S
    · rw [if_pos z]; have := hT.2 b b0 z; exact s32_id (by omega) (by omega)
    · rw [if_neg z]; exact s32_id (by decide) (by decide)
  have hq : ∀ b y, 0 ≤ b → b ≤ S → 0 ≤ y → ((if b < S then T b else -1) = y ↔ b < S ∧ T b = y) := fun b y b0 b1 y0 => by
    by_cases z : b < S
    · rw [if_pos z]; exact ⟨fun h => ⟨z, h⟩, fun h => h.2⟩
    · rw [if_neg z]; exact ⟨fun h => by omega, fun h => absurd h.1 z⟩
  rw [takes_tkF, here_eq hT C ha h0, ob_some, ha, e32, e45, hr a h0.1 h0.2]
  unfold pN
  by_cases c : a < S ∧ T a = 32
  · rw [if_pos c, if_pos ((hq a 32 h0.1 h0.2 (by decide)).mpr c)]
    simp only [jn_id, lt_id]
    have C2 : TM S T (mset m 149 28 (a + 1)) := TM_fr C (fun c i hc => by rw [mset_if, if_neg (by omega)])
    have f2 : frM p (mset m 149 28 (a + 1)) m := fun c i h1 h2 => by rw [mset_if, if_neg h1]
    rw [here_eq hT C2 (mset_here _ _ _ _) ⟨by omega, by omega⟩, ob_some, s32_0, if_0', s32_1, if_1', mset_here, hr (a + 1) (by omega) (by omega)]
    by_cases d : g = 1 ∧ (a + 1 < S ∧ T (a + 1) = 45)
    · obtain ⟨d1, d2⟩ := d
      subst d1
      obtain ⟨m', e1, e2, e3, e4⟩ := tkF_eq hT (m := mset (mset m 149 28 (a + 1)) 149 28 (a + 1 + 1)) (TM_fr C2 (fun c i hc => by rw [mset_if, if_neg (by omega)])) (b := a + 2) (p := p) (x := 1) (by rw [mset_here]; omega) ⟨by omega, by omega⟩ hp (Or.inr rfl)
      rw [if_pos (show (1 : Int) = 1 ∧ (a + 1 < S ∧ T (a + 1) = 45) from ⟨rfl, d2⟩), s32_1, if_1', if_neg (fun z => z ((hq (a + 1) 45 (by omega) (by omega) (by decide)).mpr d2))]
      exact ⟨m', e1, e2, e3, fun c i h1 h2 => by rw [e4 c i h1 h2, mset_if, if_neg h1]; exact f2 c i h1 h2⟩
    · obtain ⟨m', e1, e2, e3, e4⟩ := tkF_eq hT (m := mset (mset m 149 28 (a + 1)) 149 28 (a + 1 + 0)) (TM_fr C2 (fun c i hc => by rw [mset_if, if_neg (by omega)])) (b := a + 1) (p := p) (x := 0) (by rw [mset_here]; omega) ⟨by omega, by omega⟩ hp (Or.inl rfl)
      rw [if_neg d]
      refine ⟨m', ?_, e2, e3, fun c i h1 h2 => by rw [e4 c i h1 h2, mset_if, if_neg h1]; exact f2 c i h1 h2⟩
      rcases hg with rfl | rfl
      · rw [s32_0, if_0']; exact e1
      · rw [s32_1, if_1', if_pos (fun z => d ⟨rfl, (hq (a + 1) 45 (by omega) (by omega) (by decide)).mp z⟩)]; exact e1
  · rw [if_neg c, if_neg (fun z => c ((hq a 32 h0.1 h0.2 (by decide)).mp z))]
    exact ⟨m, rfl, ha, fun z => absurd (show (0 : Int) = 1 from z) (by decide), fun _ _ _ _ => rfl⟩
