/-! a whole text: the class in two goes, the model in one -/
def pA (T : Int → Int) (S : Int) : Nat → Int → Int
  | 0, a => a
  | n + 1, a => if pOk T S a = 1 then (if pAt T S a < S then (if T (pAt T S a) = 59 then pA T S n (pAt T S a + 1) else pAt T S a) else -1) else pAt T S a
theorem pA_b (T : Int → Int) (S : Int) : ∀ (d : Nat) (a : Int), 0 ≤ a → a ≤ S → S - a < (d : Int) → -1 ≤ pA T S d a ∧ pA T S d a ≤ S := by
  intro d
  induction d with
  | zero => intro a h0 h1 h2; omega
  | succ d ih =>
    intro a h0 h1 h2
    obtain ⟨b1, b2, b3, b4, b5, b6⟩ := pS_b T h0 h1
    rw [pA]
    by_cases c : pOk T S a = 1
    · have := b5 c
      rw [if_pos c]
      by_cases e : pAt T S a < S
      · rw [if_pos e]
        by_cases f : T (pAt T S a) = 59
        · rw [if_pos f]; exact ih _ (by omega) (by omega) (by omega)
        · rw [if_neg f]; omega
      · rw [if_neg e]; omega
    · rw [if_neg c]; omega
theorem pass1 {S : Int} {T : Int → Int} (hT : okT S T) : ∀ (d n : Nat) (i a : Int) (m : Mem), 0 ≤ a → a ≤ S → S - a < (d : Int) → d ≤ n → 0 ≤ i → i ≤ a → TC S T m → m 131 3 = a → ∃ m', Rd_placeOfNoText_L7 n i m = some (pA T S d a, m') ∧ frS m' m := by
  have hS := hT.1
  have e120 : s32 120 = 120 := s32_id (by decide) (by decide)
  have e59 : s32 59 = 59 := s32_id (by decide) (by decide)
  intro d
  induction d with
  | zero => intro n i a m h0 h1 h2; omega
  | succ d ih =>
    intro n i a m h0 h1 h2 hn i0 i1 C ha
    obtain ⟨n', rfl⟩ : ∃ n', n = n' + 1 := ⟨n - 1, by omega⟩
    obtain ⟨b1, b2, b3, b4, b5, b6⟩ := pS_b T h0 h1
    obtain ⟨m5, e5, p5, q5, f5⟩ := readStatement_eq hT C ha h0 h1
    have C5 : TC S T m5 := TC_fr C (fun c i hc => f5 c i (by omega) (by omega))
    rw [Rd_placeOfNoText_L7, e120, s32_id (a := i) (by omega) (by omega), if_neg (by omega), e5, bdI_some, p5, C5.1, s32_id (a := S) (by omega) (by omega), s32_id (a := pAt T S a) (by omega) (by omega), pA]
    by_cases c : pOk T S a = 1
    · have g := b5 c
      rw [if_pos c, c, s32_1, if_1]
      by_cases e : pAt T S a < S
      · have t := hT.2 (pAt T S a) (by omega) e
        rw [if_pos e, if_pos e, ck_id (by omega) (by omega) (by omega), C5.2 _ (by omega) e, s32_id (a := T (pAt T S a)) (by omega) (by omega), e59]
        by_cases f : T (pAt T S a) = 59
        · rw [if_pos f, if_pos f, lt_id]
          obtain ⟨m6, e6, f6⟩ := ih n' (i + 1) (pAt T S a + 1) (mset m5 131 3 (pAt T S a + 1)) (by omega) (by omega) (by omega) (by omega) (by omega) (by omega) (TC_fr C5 (fun c i hc => by rw [mset_if, if_neg (by omega)])) (mset_here _ _ _ _)
          exact ⟨m6, e6, fun c i h1 h2 => by rw [f6 c i h1 h2, mset_if, if_neg (by omega), f5 c i h1 h2]⟩
        · rw [if_neg f, if_neg f]
          exact ⟨m5, rfl, f5⟩
      · rw [if_neg e, if_neg e]
        exact ⟨m5, rfl, f5⟩
    · have z : pOk T S a = 0 := by omega
      rw [if_neg c, z, s32_0, if_0]
      exact ⟨m5, rfl, f5⟩
theorem MI_fr {m m' : Mem} (h : MI m) (hm : ∀ c i, c = 150 ∨ (c = 149 ∧ i = 4) → m' c i = m c i) : MI m' := by
  have e : m' 150 = m 150 := by funext i; exact hm 150 i (Or.inl rfl)
  exact ⟨by rw [e]; exact h.1, by rw [hm 149 4 (Or.inr ⟨rfl, rfl⟩)]; exact h.2⟩
/-- the class at the statement that the model has taken; x: what the model says of refusals then -/
def ClsAt (A : Int → Int) (w : Int) (V : Int → Int) (a x : Int) (B : Int → Int) : Prop := ∀ mc : Mem, RB mc 132 A → mc 131 4 = w → (∀ k, 0 ≤ k → k < numsF w → mc 142 k = V k) → (x = -1 ∧ ∃ mc', Rd_whyNotStatement mc = some 0 ∧ Rd_takeStatement mc = some mc' ∧ RB mc' 132 B ∧ (∀ c i, ¬ (132 ≤ c ∧ c ≤ 140) → mc' c i = mc c i)) ∨ (x = a ∧ ∃ z, Rd_whyNotStatement mc = some z ∧ r32 z ∧ ¬ z = 0)
theorem M69_eq {S : Int} {T : Int → Int} (hT : okT S T) {m : Mem} (C : TM S T m) (I : MI m) {a b w : Int} {V : Int → Int} (hb : m 149 28 = b) (h0 : 0 ≤ b ∧ b ≤ S) (ha : 0 ≤ a ∧ a ≤ 120) (hr : -1 ≤ m 149 29 ∧ m 149 29 ≤ 120) (hw : 0 ≤ w ∧ w ≤ 5) (hx : ∀ k, 0 ≤ k → k < numsF w → m 165 k = V k) (hV : ∀ k, -99 ≤ V k ∧ V k ≤ 99) :
    (¬ (b < S ∧ ¬ T b = 59) → ∃ m', M69 a w m = some (1, m') ∧ MI m' ∧ (∀ c i, ¬ (c = 150 ∨ c = 152 ∨ (c = 149 ∧ (i = 4 ∨ i = 29))) → m' c i = m c i) ∧ (-1 ≤ m' 149 29 ∧ m' 149 29 ≤ 120) ∧ (0 ≤ m 149 29 → m' 149 29 = m 149 29) ∧ (m 149 29 = -1 → ClsAt (m 150) w V a (m' 149 29) (m' 150))) ∧ ((b < S ∧ ¬ T b = 59) → M69 a w m = some (0, m)) := by
  have hS := hT.1
  have e59 : s32 59 = 59 := s32_id (by decide) (by decide)
  have key : M69 a w m = (if b < S ∧ ¬ T b = 59 then some (0, m) else (if 0 ≤ s32 (m 149 29) then (some (1, m)) else (bdI (Mo_does w m) (fun r6 m7 => if 0 ≤ s32 r6 then (some (1, m7)) else (lt (mset m7 149 29 a) (fun m8 => some (1, m8))))))) := by
    unfold M69
    rw [here_eq hT C hb h0, ob_some, jn_id, e59, C.1, hb, s32_id (a := S) (by omega) (by omega), s32_id (a := b) (by omega) (by omega)]
    by_cases c : b < S
    · have t := hT.2 b h0.1 c
      rw [if_pos c, s32_id (a := T b) (by omega) (by omega)]
      by_cases d : T b = 59
      · rw [if_pos d, if_neg (show ¬ (b < S ∧ ¬ T b = 59) from fun z => z.2 d)]
      · rw [if_neg d, if_neg (show ¬ S ≤ b by omega), if_pos (show b < S ∧ ¬ T b = 59 from ⟨c, d⟩)]
    · rw [if_neg c, s32_id (a := -1) (by decide) (by decide), if_neg (by decide), if_pos (show S ≤ b by omega), if_neg (show ¬ (b < S ∧ ¬ T b = 59) from fun z => c z.1)]
  refine ⟨fun nc => ?_, fun c => by rw [key, if_pos c]⟩
  rw [key, if_neg nc, s32_id (a := m 149 29) (by omega) (by omega)]
  by_cases c : 0 ≤ m 149 29
  · rw [if_pos c]
    exact ⟨m, rfl, I, fun _ _ _ => rfl, hr, fun _ => rfl, fun z => by omega⟩
  · rw [if_neg c]
    obtain ⟨r6, m7, e7, hr6, I7, f7, D⟩ := does_all I.1 rfl I.2 hw hx hV
    obtain ⟨h61, h62⟩ := hr6
    rw [e7, bdI_some, s32_id (a := r6) (by omega) (by omega)]
    have q29 : m7 149 29 = m 149 29 := f7 149 29 (by omega)
    by_cases d : 0 ≤ r6
    · rw [if_pos d]
      refine ⟨m7, rfl, I7, fun c i hc => f7 c i (by omega), by rw [q29]; exact hr, fun z => absurd z c, fun z mc rb h4 hv => ?_⟩
      rcases D mc rb h4 hv with ⟨-, y⟩ | ⟨y, -⟩
      · exact Or.inl ⟨by rw [q29]; exact z, y⟩
      · omega
    · rw [if_neg d, lt_id]
      have e150 : mset m7 149 29 a 150 = m7 150 := by funext i; rw [mset_if, if_neg (by omega)]
      refine ⟨_, rfl, MI_fr I7 (fun c i hc => by rw [mset_if, if_neg (by omega)]), fun c i hc => by rw [mset_if, if_neg (by omega)]; exact f7 c i (by omega), by rw [mset_here]; omega, fun z => absurd z c, fun z mc rb h4 hv => ?_⟩
      rw [mset_here, e150]
      rcases D mc rb h4 hv with ⟨y, -⟩ | ⟨-, y⟩
      · omega
      · exact Or.inr ⟨rfl, y⟩
def frT (m' m : Mem) : Prop := ∀ c i, ¬ (c = 131 ∧ (i = 3 ∨ i = 4)) → ¬ c = 142 → ¬ (132 ≤ c ∧ c ≤ 140) → m' c i = m c i
def frB (m' m : Mem) : Prop := ∀ c i, ¬ (c = 150 ∨ c = 152 ∨ c = 165 ∨ (c = 149 ∧ (i = 4 ∨ i = 28 ∨ i = 29))) → m' c i = m c i
/-- the class's second go -/
def Pass2 (S : Int) (T : Int → Int) (d : Nat) (i a : Int) (A : Int → Int) (r x : Int) (B : Int → Int) : Prop := ∀ (mc : Mem) (n2 : Nat) (i6 : Int), d < n2 → 0 ≤ i6 → i6 ≤ a → TC S T mc → mc 131 3 = a → RB mc 132 A → ∃ mc', ((x = -1 ∧ Rd_readOnto_L33 n2 i i6 mc = some (r, mc') ∧ RB mc' 132 B) ∨ (0 ≤ x ∧ Rd_readOnto_L33 n2 i i6 mc = some (-2000 - x, mc'))) ∧ frT mc' mc
theorem cls_step {S : Int} {T : Int → Int} (hT : okT S T) {mc : Mem} (C : TC S T mc) {a i i6 : Int} (ha : mc 131 3 = a) (h0 : 0 ≤ a) (h1 : a < S) (hi : 0 ≤ i6 ∧ i6 < 120) (ok : pOk T S a = 1) {A B : Int → Int} (rb : RB mc 132 A) {x : Int} (D : ClsAt A (pWd T S a) (pR T S a).2.2 a x B) (n : Nat) :
    (x = -1 ∧ ∃ m', Rd_readOnto_L33 (n + 1) i i6 mc = Rd_readOnto_L33 n (i + 1) (i6 + 1) m' ∧ RB m' 132 B ∧ m' 131 3 = pAt T S a + 1 ∧ frT m' mc) ∨ (x = a ∧ ∃ m', Rd_readOnto_L33 (n + 1) i i6 mc = some (-2000 - a, m') ∧ frT m' mc) := by
  have hS := hT.1
  have e120 : s32 120 = 120 := s32_id (by decide) (by decide)
  obtain ⟨m5, e5, p5, q5, f5⟩ := readStatement_eq hT C ha h0 (by omega)
  have rb5 : RB m5 132 A := RB_frame rb (fun c i _ _ => f5 c i (by omega) (by omega))
  have st : Rd_readOnto_L33 (n + 1) i i6 mc = (Rd_whyNotStatement m5).bind (fun r11 => if s32 r11 = 0 then ((Rd_takeStatement m5).bind (fun m12 => lt (mset m12 131 3 ((m12 131 3) + 1)) (fun m13 => (Rd_readOnto_L33 n (i + 1) (i6 + 1) m13)))) else (some (((-2000) - a), m5))) := by
    rw [Rd_readOnto_L33, e120, s32_id (a := i6) (by omega) (by omega), if_neg (by omega), C.1, ha, s32_id (a := S) (by omega) (by omega), s32_id (a := a) (by omega) (by omega), if_neg (by omega), lt_id, e5, bdI_some]
  rcases D m5 rb5 (q5 ok).1 (q5 ok).2 with ⟨hx, m6, w6, t6, b6, f6⟩ | ⟨hx, z, w6, ⟨z1, z2⟩, z3⟩
  · refine Or.inl ⟨hx, mset m6 131 3 (pAt T S a + 1), ?_, RB_frame b6 (fun c i _ _ => by rw [mset_if, if_neg (by omega)]), mset_here _ _ _ _, fun c i h1 h2 h3 => by rw [mset_if, if_neg (by omega), f6 c i h3, f5 c i h1 h2]⟩
    rw [st, w6, ob_some, s32_0, if_0', t6, ob_some, lt_id, f6 131 3 (by omega), p5]
  · refine Or.inr ⟨hx, m5, ?_, fun c i h1 h2 _ => f5 c i h1 h2⟩
    rw [st, w6, ob_some, s32_id (a := z) (by omega) (by omega), if_neg z3]
theorem all_eq {S : Int} {T : Int → Int} (hT : okT S T) : ∀ (d n : Nat) (i a : Int) (m : Mem), 0 ≤ a → a ≤ S → S - a < (d : Int) → d ≤ n → 0 ≤ i → i ≤ a → TM S T m → m 149 28 = a → MI m → (-1 ≤ m 149 29 ∧ m 149 29 ≤ 120) →
    ∃ r m', Mo_takesAll_L12 n i m = some (r, m') ∧ MI m' ∧ frB m' m ∧ (-1 ≤ m' 149 29 ∧ m' 149 29 ≤ 120) ∧ (0 ≤ m 149 29 → m' 149 29 = m 149 29) ∧ (0 ≤ pA T S d a → r = -1000 - pA T S d a) ∧ (pA T S d a < 0 → (0 ≤ r ∧ r ≤ 1000) ∧ (m 149 29 = -1 → Pass2 S T d i a (m 150) r (m' 149 29) (m' 150))) := by
  have hS := hT.1
  intro d
  induction d with
  | zero => intro n i a m h0 h1 h2; omega
  | succ d ih =>
    intro n i a m h0 h1 h2 hn i0 i1 C ha I hr
    obtain ⟨n', rfl⟩ : ∃ n', n = n' + 1 := ⟨n - 1, by omega⟩
    obtain ⟨b1, b2, b3, b4, b5, b6⟩ := pS_b T h0 h1
    obtain ⟨m6, e6, p6, q6, f6⟩ := takesOne_eq hT C ha h0 h1
    have C6 : TM S T m6 := TM_fr C (fun c i hc => f6 c i (by omega) (by omega))
    have I6 : MI m6 := MI_fr I (fun c i hc => f6 c i (by omega) (by omega))
    have q29 : m6 149 29 = m 149 29 := f6 149 29 (by omega) (by decide)
    have e150 : m6 150 = m 150 := by funext i; exact f6 150 i (by omega) (by decide)
    have fB6 : frB m6 m := fun c i hc => f6 c i (by omega) (by omega)
    rw [Mo_takesAll_L12, e6, pA]
    by_cases ok : pOk T S a = 1
    · have g := b5 ok
      have M := M69_eq hT C6 I6 (a := a) (b := pAt T S a) (w := pWd T S a) (V := (pR T S a).2.2) p6 ⟨by omega, by omega⟩ ⟨by omega, by omega⟩ (by rw [q29]; exact hr) ⟨g.2, b3.2⟩ (q6 ok) b4
      rw [if_pos ok, if_pos ok]
      by_cases c : pAt T S a < S ∧ ¬ T (pAt T S a) = 59
      · rw [M.2 c, bdI_some, s32_0, if_0, p6, if_pos c.1, if_neg c.2]
        exact ⟨_, m6, rfl, I6, fB6, by rw [q29]; exact hr, fun _ => q29, fun _ => rfl, fun z => by omega⟩
      · obtain ⟨m7, e7, I7, f7, r7, k7, D⟩ := M.1 c
        have C7 : TM S T m7 := TM_fr C6 (fun c i hc => f7 c i (by omega))
        have q28 : m7 149 28 = pAt T S a := by rw [f7 149 28 (by omega)]; exact p6
        have fB7 : frB m7 m := fun c i hc => by rw [f7 c i (by omega), f6 c i (by omega) (by omega)]
        rw [q29] at k7 D
        rw [e150] at D
        rw [e7, bdI_some, s32_1, if_1, q28, C7.1, s32_id (a := S) (by omega) (by omega), s32_id (a := pAt T S a) (by omega) (by omega)]
        by_cases e : pAt T S a < S
        · have f : T (pAt T S a) = 59 := by
            by_cases y : T (pAt T S a) = 59
            · exact y
            · exact absurd ⟨e, y⟩ c
          rw [if_pos (show ¬ pAt T S a = S by omega), lt_id, if_pos e, if_pos f]
          have e150' : mset m7 149 28 (pAt T S a + 1) 150 = m7 150 := by funext i; rw [mset_if, if_neg (by omega)]
          have e29' : mset m7 149 28 (pAt T S a + 1) 149 29 = m7 149 29 := by rw [mset_if, if_neg (by omega)]
          obtain ⟨r, m8, e8, I8, f8, r8, k8, u8, w8⟩ := ih n' (i + 1) (pAt T S a + 1) (mset m7 149 28 (pAt T S a + 1)) (by omega) (by omega) (by omega) (by omega) (by omega) (by omega) (TM_fr C7 (fun c i hc => by rw [mset_if, if_neg (by omega)])) (mset_here _ _ _ _) (MI_fr I7 (fun c i hc => by rw [mset_if, if_neg (by omega)])) (by rw [e29']; exact r7)
          rw [e29'] at k8 w8
          rw [e150'] at w8
          refine ⟨r, m8, e8, I8, fun c i hc => by rw [f8 c i hc, mset_if, if_neg (by omega), fB7 c i hc], r8, fun z => by rw [k8 (by rw [k7 z]; exact z), k7 z], u8, fun z => ⟨(w8 z).1, fun y mc n2 i6 hn2 i60 i61 tc hm rb => ?_⟩⟩
          obtain ⟨n3, rfl⟩ : ∃ n3, n2 = n3 + 1 := ⟨n2 - 1, by omega⟩
          rcases cls_step hT tc (i := i) (i6 := i6) hm h0 (by omega) ⟨i60, by omega⟩ ok rb (D y) n3 with ⟨hx, m9, e9, b9, p9, f9⟩ | ⟨hx, m9, e9, f9⟩
          · obtain ⟨mc', h, fr⟩ := (w8 z).2 hx m9 n3 (i6 + 1) (by omega) (by omega) (by omega) (TC_fr tc (fun c i hc => f9 c i (by omega) (by omega) (by omega))) p9 b9
            refine ⟨mc', ?_, fun c i h1 h2 h3 => by rw [fr c i h1 h2 h3, f9 c i h1 h2 h3]⟩
            rw [e9]; exact h
          · refine ⟨m9, Or.inr ⟨?_, ?_⟩, f9⟩
            · rw [k8 (by omega)]; omega
            · rw [k8 (by omega), hx]; exact e9
        · have eS : pAt T S a = S := by omega
          rw [if_neg (show ¬ ¬ pAt T S a = S by omega), if_neg e]
          refine ⟨_, m7, rfl, I7, fB7, r7, k7, fun z => absurd z (by decide), fun z => ⟨by omega, fun y mc n2 i6 hn2 i60 i61 tc hm rb => ?_⟩⟩
          obtain ⟨n3, rfl⟩ : ∃ n3, n2 = n3 + 1 + 1 := ⟨n2 - 2, by omega⟩
          rcases cls_step hT tc (i := i) (i6 := i6) hm h0 (by omega) ⟨i60, by omega⟩ ok rb (D y) (n3 + 1) with ⟨hx, m9, e9, b9, p9, f9⟩ | ⟨hx, m9, e9, f9⟩
          · refine ⟨m9, Or.inl ⟨hx, ?_, b9⟩, f9⟩
            have e120 : s32 120 = 120 := s32_id (by decide) (by decide)
            rw [e9, Rd_readOnto_L33, p9, f9 131 0 (by omega) (by decide) (by decide), tc.1, eS, s32_id (a := S) (by omega) (by omega), s32_id (a := S + 1) (by omega) (by omega)]
            by_cases y2 : s32 120 ≤ s32 (i6 + 1)
            · rw [if_pos y2]
            · rw [if_neg y2, if_pos (show S ≤ S + 1 by omega)]
          · refine ⟨m9, Or.inr ⟨by omega, ?_⟩, f9⟩
            rw [e9, hx]
    · rw [if_neg ok, if_neg ok, bdI_some, s32_0, if_0, p6]
      exact ⟨_, m6, rfl, I6, fB6, by rw [q29]; exact hr, fun _ => q29, fun _ => rfl, fun z => by omega⟩
