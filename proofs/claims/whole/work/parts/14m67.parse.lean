/-! texts: what a statement is, by the tape T of S bytes -/
def okT (S : Int) (T : Int → Int) : Prop := (0 ≤ S ∧ S ≤ 120) ∧ ∀ k, 0 ≤ k → k < S → 1 ≤ T k ∧ T k ≤ 127
def pEnd (T : Int → Int) : Nat → Int → Int
  | 0, i => i
  | d + 1, i => if 97 ≤ T i ∧ T i ≤ 122 then pEnd T d (i + 1) else i
theorem pEnd_b (T : Int → Int) : ∀ (d : Nat) (i : Int), i ≤ pEnd T d i ∧ pEnd T d i ≤ i + (d : Int) := by
  intro d
  induction d with
  | zero => intro i; rw [pEnd]; omega
  | succ d ih =>
    intro i
    rw [pEnd]
    by_cases c : 97 ≤ T i ∧ T i ≤ 122
    · rw [if_pos c]; have := ih (i + 1); omega
    · rw [if_neg c]; omega
/-- whether d letters from a + j on are those of w from j on -/
def spL (T : Int → Int) (w a : Int) : Nat → Int → Int
  | 0, _ => 1
  | d + 1, j => if T (a + j) = txC w j then spL T w a d (j + 1) else 0
theorem spL_01 (T : Int → Int) (w a : Int) : ∀ (d : Nat) (j : Int), spL T w a d j = 0 ∨ spL T w a d j = 1 := by
  intro d
  induction d with
  | zero => intro j; exact Or.inr rfl
  | succ d ih =>
    intro j
    rw [spL]
    by_cases c : T (a + j) = txC w j
    · rw [if_pos c]; exact ih (j + 1)
    · rw [if_neg c]; exact Or.inl rfl
def spW (T : Int → Int) (a e w : Int) : Int := if txL w = e - a then spL T w a (e - a).toNat 0 else 0
theorem spW_01 (T : Int → Int) (a e w : Int) : spW T a e w = 0 ∨ spW T a e w = 1 := by
  unfold spW
  by_cases c : txL w = e - a
  · rw [if_pos c]; exact spL_01 T w a _ _
  · rw [if_neg c]; exact Or.inl rfl
def wdF (T : Int → Int) (a e : Int) : Nat → Int → Int
  | 0, _ => -1
  | d + 1, w => if spW T a e w = 0 then wdF T a e d (w + 1) else w
theorem tx_len : ∀ w : Nat, w < 6 → 4 ≤ txL (w : Int) ∧ txL (w : Int) ≤ 7 := by decide +kernel
theorem tx_chr : ∀ w : Nat, w < 6 → ∀ j : Nat, j < 7 → 0 ≤ txC (w : Int) (j : Int) ∧ txC (w : Int) (j : Int) ≤ 127 := by decide +kernel
theorem tx_len' {w : Int} (h : 0 ≤ w ∧ w < 6) : 4 ≤ txL w ∧ txL w ≤ 7 := by
  obtain ⟨w', rfl⟩ := nat_of h.1
  exact tx_len w' (by omega)
theorem tx_chr' {w j : Int} (h : 0 ≤ w ∧ w < 6) (hj : 0 ≤ j ∧ j < 7) : 0 ≤ txC w j ∧ txC w j ≤ 127 := by
  obtain ⟨w', rfl⟩ := nat_of h.1
  obtain ⟨j', rfl⟩ := nat_of hj.1
  exact tx_chr w' (by omega) j' (by omega)
theorem wdF_b (T : Int → Int) (a e : Int) : ∀ (d : Nat) (w : Int), 0 ≤ w → w + (d : Int) = 6 → (-1 ≤ wdF T a e d w ∧ wdF T a e d w ≤ 5) ∧ (0 ≤ wdF T a e d w → a + 4 ≤ e) := by
  intro d
  induction d with
  | zero => intro w _ _; rw [wdF]; exact ⟨by omega, fun h => absurd h (by decide)⟩
  | succ d ih =>
    intro w h0 h1
    rw [wdF]
    by_cases c : spW T a e w = 0
    · rw [if_pos c]; exact ih (w + 1) (by omega) (by omega)
    · rw [if_neg c]
      refine ⟨by omega, fun _ => ?_⟩
      have t := tx_len' (w := w) ⟨h0, by omega⟩
      unfold spW at c
      by_cases q : txL w = e - a
      · omega
      · rw [if_neg q] at c; exact absurd rfl c
/-- x: below 0; one or two figures from b on -/
def sg (x v : Int) : Int := if x = 0 then v else -v
def pF (T : Int → Int) (S x b : Int) : Int × Int × Int := if b < S ∧ 48 ≤ T b ∧ T b ≤ 57 then (if b + 1 < S ∧ 48 ≤ T (b + 1) ∧ T (b + 1) ≤ 57 then (1, b + 2, sg x (10 * (T b - 48) + T (b + 1) - 48)) else (1, b + 1, sg x (T b - 48))) else (0, b, 0)
/-- a blank and a number; g: it may be below 0 -/
def pN (T : Int → Int) (S g a : Int) : Int × Int × Int := if a < S ∧ T a = 32 then (if g = 1 ∧ (a + 1 < S ∧ T (a + 1) = 45) then pF T S 1 (a + 2) else pF T S 0 (a + 1)) else (0, a, 0)
theorem pF_b (T : Int → Int) {S x b : Int} (hb : b ≤ S) (hx : x = 0 ∨ x = 1) : ((pF T S x b).1 = 0 ∨ (pF T S x b).1 = 1) ∧ (b ≤ (pF T S x b).2.1 ∧ (pF T S x b).2.1 ≤ S) ∧ (-99 ≤ (pF T S x b).2.2 ∧ (pF T S x b).2.2 ≤ 99) := by
  unfold pF
  by_cases c : b < S ∧ 48 ≤ T b ∧ T b ≤ 57
  · rw [if_pos c]
    by_cases d : b + 1 < S ∧ 48 ≤ T (b + 1) ∧ T (b + 1) ≤ 57
    · rw [if_pos d]
      dsimp only
      unfold sg
      refine ⟨Or.inr rfl, by omega, ?_⟩
      rcases hx with rfl | rfl
      · rw [if_pos rfl]; omega
      · rw [if_neg (by decide)]; omega
    · rw [if_neg d]
      dsimp only
      unfold sg
      refine ⟨Or.inr rfl, by omega, ?_⟩
      rcases hx with rfl | rfl
      · rw [if_pos rfl]; omega
      · rw [if_neg (by decide)]; omega
  · rw [if_neg c]
    dsimp only
    exact ⟨Or.inl rfl, by omega, by omega⟩
theorem pN_b (T : Int → Int) {S g a : Int} (ha : a ≤ S) : ((pN T S g a).1 = 0 ∨ (pN T S g a).1 = 1) ∧ (a ≤ (pN T S g a).2.1 ∧ (pN T S g a).2.1 ≤ S) ∧ (-99 ≤ (pN T S g a).2.2 ∧ (pN T S g a).2.2 ≤ 99) := by
  unfold pN
  by_cases c : a < S ∧ T a = 32
  · rw [if_pos c]
    by_cases d : g = 1 ∧ (a + 1 < S ∧ T (a + 1) = 45)
    · rw [if_pos d]
      have := pF_b T (S := S) (x := 1) (b := a + 2) (by omega) (Or.inr rfl)
      exact ⟨this.1, ⟨by omega, this.2.1.2⟩, this.2.2⟩
    · rw [if_neg d]
      have := pF_b T (S := S) (x := 0) (b := a + 1) (by omega) (Or.inl rfl)
      exact ⟨this.1, ⟨by omega, this.2.1.2⟩, this.2.2⟩
  · rw [if_neg c]
    dsimp only
    exact ⟨Or.inl rfl, by omega, by omega⟩
def fl (w i : Int) : Int := if (w = 3 ∧ i = 1) ∨ (w = 4 ∧ i = 2) then 1 else 0
def pNs (T : Int → Int) (S w : Int) : Nat → Int → Int → (Int → Int) → Int × Int × (Int → Int)
  | 0, _, a, V => (1, a, V)
  | d + 1, i, a, V => if (pN T S (fl w i) a).1 = 1 then pNs T S w d (i + 1) (pN T S (fl w i) a).2.1 (fun k => if k = i then (pN T S (fl w i) a).2.2 else V k) else (0, (pN T S (fl w i) a).2.1, V)
theorem pNs_b (T : Int → Int) (S w : Int) : ∀ (d : Nat) (i a : Int) (V : Int → Int), a ≤ S → (∀ k, -99 ≤ V k ∧ V k ≤ 99) → ((pNs T S w d i a V).1 = 0 ∨ (pNs T S w d i a V).1 = 1) ∧ (a ≤ (pNs T S w d i a V).2.1 ∧ (pNs T S w d i a V).2.1 ≤ S) ∧ (∀ k, -99 ≤ (pNs T S w d i a V).2.2 k ∧ (pNs T S w d i a V).2.2 k ≤ 99) := by
  intro d
  induction d with
  | zero => intro i a V ha hV; rw [pNs]; exact ⟨Or.inr rfl, ⟨Int.le_refl a, ha⟩, hV⟩
  | succ d ih =>
    intro i a V ha hV
    have p := pN_b T (S := S) (g := fl w i) ha
    rw [pNs]
    by_cases c : (pN T S (fl w i) a).1 = 1
    · rw [if_pos c]
      have q := ih (i + 1) (pN T S (fl w i) a).2.1 (fun k => if k = i then (pN T S (fl w i) a).2.2 else V k) p.2.1.2 (fun k => by
        show -99 ≤ (if k = i then (pN T S (fl w i) a).2.2 else V k) ∧ (if k = i then (pN T S (fl w i) a).2.2 else V k) ≤ 99
        by_cases z : k = i
        · rw [if_pos z]; exact p.2.2
        · rw [if_neg z]; exact hV k)
      exact ⟨q.1, ⟨by omega, q.2.1.2⟩, q.2.2⟩
    · rw [if_neg c]
      exact ⟨Or.inl rfl, p.2.1, hV⟩
def pE (T : Int → Int) (S a : Int) : Int := pEnd T (S - a).toNat a
def pWd (T : Int → Int) (S a : Int) : Int := wdF T a (pE T S a) 6 0
def pR (T : Int → Int) (S a : Int) : Int × Int × (Int → Int) := pNs T S (pWd T S a) (numsF (pWd T S a)).toNat 0 (pE T S a) (fun _ => 0)
/-- whether a statement begins at a; where it ends, or what is wrong -/
def pOk (T : Int → Int) (S a : Int) : Int := if 0 ≤ pWd T S a then (pR T S a).1 else 0
def pAt (T : Int → Int) (S a : Int) : Int := if 0 ≤ pWd T S a then (pR T S a).2.1 else a
theorem pS_b (T : Int → Int) {S a : Int} (h0 : 0 ≤ a) (ha : a ≤ S) : (pOk T S a = 0 ∨ pOk T S a = 1) ∧ (a ≤ pAt T S a ∧ pAt T S a ≤ S) ∧ (-1 ≤ pWd T S a ∧ pWd T S a ≤ 5) ∧ (∀ k, -99 ≤ (pR T S a).2.2 k ∧ (pR T S a).2.2 k ≤ 99) ∧ (pOk T S a = 1 → a < pAt T S a ∧ 0 ≤ pWd T S a) ∧ (a ≤ pE T S a ∧ pE T S a ≤ S) := by
  have e := pEnd_b T (S - a).toNat a
  have e' : a ≤ pE T S a ∧ pE T S a ≤ S := by unfold pE; omega
  have w := wdF_b T a (pE T S a) 6 0 (by omega) (by omega)
  have q : ((pR T S a).1 = 0 ∨ (pR T S a).1 = 1) ∧ (pE T S a ≤ (pR T S a).2.1 ∧ (pR T S a).2.1 ≤ S) ∧ (∀ k, -99 ≤ (pR T S a).2.2 k ∧ (pR T S a).2.2 k ≤ 99) := pNs_b T S (pWd T S a) _ 0 (pE T S a) (fun _ => 0) e'.2 (fun k => ⟨by decide, by decide⟩)
  have w' : (-1 ≤ pWd T S a ∧ pWd T S a ≤ 5) ∧ (0 ≤ pWd T S a → a + 4 ≤ pE T S a) := w
  unfold pOk pAt
  by_cases c : 0 ≤ pWd T S a
  · rw [if_pos c, if_pos c]
    have := w'.2 c
    exact ⟨q.1, by omega, w'.1, q.2.2, fun _ => ⟨by omega, c⟩, e'⟩
  · rw [if_neg c, if_neg c]
    exact ⟨Or.inl rfl, by omega, w'.1, q.2.2, fun z => absurd z (by decide), e'⟩
/-! the class reads one -/
def TC (S : Int) (T : Int → Int) (m : Mem) : Prop := m 131 0 = S ∧ ∀ k, 0 ≤ k → k < S → m 141 k = T k
theorem TC_fr {S : Int} {T : Int → Int} {m m' : Mem} (C : TC S T m) (h : ∀ c i, c = 141 ∨ (c = 131 ∧ i = 0) → m' c i = m c i) : TC S T m' := ⟨by rw [h _ _ (Or.inr ⟨rfl, rfl⟩)]; exact C.1, fun k k0 k1 => by rw [h _ _ (Or.inl rfl)]; exact C.2 k k0 k1⟩
theorem isLetter_eq {x : Int} (hx : 0 ≤ x ∧ x ≤ 127) (m : Mem) : Rd_isLetter x m = some (if 97 ≤ x ∧ x ≤ 122 then 1 else 0) := by
  unfold Rd_isLetter
  rw [s32_id (a := x) (by omega) (by omega), s32_id (a := 97) (by decide) (by decide), s32_id (a := 122) (by decide) (by decide)]
  by_cases c : x < 97
  · rw [if_pos c, if_neg (by omega)]
  · rw [if_neg c]
    by_cases d : 122 < x
    · rw [if_pos d, if_neg (by omega)]
    · rw [if_neg d, if_pos (by omega)]
theorem cls_L5 {S : Int} {T : Int → Int} (hT : okT S T) {m : Mem} (C : TC S T m) (k : Int → Option (Int × Mem)) : ∀ (d n : Nat) (i : Int), 0 ≤ i → i + (d : Int) = S → d < n → Rd_readStatement_L5 m k n i = k (pEnd T d i) := by
  obtain ⟨hS, hT⟩ := hT
  intro d
  induction d with
  | zero =>
    intro n i h0 h1 hn
    obtain ⟨n', rfl⟩ : ∃ n', n = n' + 1 := ⟨n - 1, by omega⟩
    rw [Rd_readStatement_L5, C.1, s32_id (a := S) (by omega) (by omega), s32_id (a := i) (by omega) (by omega), if_pos (by omega), pEnd]
  | succ d ih =>
    intro n i h0 h1 hn
    obtain ⟨n', rfl⟩ : ∃ n', n = n' + 1 := ⟨n - 1, by omega⟩
    have t := hT i h0 (by omega)
    rw [Rd_readStatement_L5, C.1, s32_id (a := S) (by omega) (by omega), s32_id (a := i) (by omega) (by omega), if_neg (by omega), ck_id h0 (by omega) (by omega), C.2 i h0 (by omega), isLetter_eq (by omega), ob_some, pEnd]
    by_cases c : 97 ≤ T i ∧ T i ≤ 122
    · rw [if_pos c, if_pos c, s32_1, if_1', ih n' (i + 1) (by omega) (by omega) (by omega)]
    · rw [if_neg c, if_neg c, s32_0, if_0']
theorem spells_L {S : Int} {T : Int → Int} (hT : okT S T) {m : Mem} (C : TC S T m) {w : Nat} (hw : w < 6) {a e : Int} (ha : 0 ≤ a) (he : e ≤ S) (hl : txL (w : Int) = e - a) : ∀ (d n : Nat) (j : Int), 0 ≤ j → a + j + (d : Int) = e → d < n → Rd_spells_L a e w m n (a + j) = some (spL T (w : Int) a d j) := by
  obtain ⟨hS, hT⟩ := hT
  have tl := tx_len w hw
  intro d
  induction d with
  | zero =>
    intro n j h0 h1 hn
    obtain ⟨n', rfl⟩ : ∃ n', n = n' + 1 := ⟨n - 1, by omega⟩
    rw [Rd_spells_L, s32_id (a := e) (by omega) (by omega), s32_id (a := a + j) (by omega) (by omega), if_pos (by omega), spL]
  | succ d ih =>
    intro n j h0 h1 hn
    obtain ⟨n', rfl⟩ : ∃ n', n = n' + 1 := ⟨n - 1, by omega⟩
    have t := hT (a + j) (by omega) (by omega)
    have g := tx_chr' (w := (w : Int)) (j := j) ⟨by omega, by omega⟩ ⟨h0, by omega⟩
    have jc : jd_char w (a + j - a) = some (txC (w : Int) j) := by
      unfold jd_char
      rw [show a + j - a = j by omega, s32_id (a := j) (by omega) (by omega), if_pos ⟨h0, by omega⟩]
    rw [Rd_spells_L, s32_id (a := e) (by omega) (by omega), s32_id (a := a + j) (by omega) (by omega), if_neg (by omega), ck_id (by omega) (by omega) (by omega), jc, ob_some, C.2 (a + j) (by omega) (by omega), s32_id (a := T (a + j)) (by omega) (by omega), s32_id (a := txC (w : Int) j) (by omega) (by omega), spL]
    by_cases c : T (a + j) = txC (w : Int) j
    · rw [if_pos c, if_pos c, show a + j + 1 = a + (j + 1) by omega, ih n' (j + 1) (by omega) (by omega) (by omega)]
    · rw [if_neg c, if_neg c]
theorem spells_eq {S : Int} {T : Int → Int} (hT : okT S T) {m : Mem} (C : TC S T m) {w : Nat} (hw : w < 6) {a e : Int} (ha : 0 ≤ a) (hae : a ≤ e) (he : e ≤ S) : Rd_spells a e w m = some (spW T a e (w : Int)) := by
  have tl := tx_len w hw
  have hS := hT.1
  unfold Rd_spells spW
  rw [s32_id (a := txL (w : Int)) (by omega) (by omega), s32_id (a := e - a) (by omega) (by omega)]
  by_cases c : txL (w : Int) = e - a
  · have q := spells_L hT C hw ha he c (e - a).toNat 2000 0 (by omega) (by omega) (by omega)
    rw [Int.add_zero] at q
    rw [if_pos c, if_pos c, q]
  · rw [if_neg c, if_neg c]
theorem spelled_eq : ∀ w : Nat, w < 6 → Rd_spelled (w : Int) = some w := by decide +kernel
theorem wordWithin_eq {S : Int} {T : Int → Int} (hT : okT S T) {m : Mem} (C : TC S T m) {a e : Int} (ha : 0 ≤ a) (hae : a ≤ e) (he : e ≤ S) : ∀ (d n : Nat) (w : Nat), w + d = 6 → d < n → Rd_wordWithin_L a e m n (w : Int) = some (wdF T a e d (w : Int)) := by
  have e6 : s32 6 = 6 := s32_id (by decide) (by decide)
  intro d
  induction d with
  | zero =>
    intro n w hw hn
    obtain ⟨n', rfl⟩ : ∃ n', n = n' + 1 := ⟨n - 1, by omega⟩
    rw [Rd_wordWithin_L, e6, s32_id (a := (w : Int)) (by omega) (by omega), if_pos (by omega), wdF]
  | succ d ih =>
    intro n w hw hn
    obtain ⟨n', rfl⟩ : ∃ n', n = n' + 1 := ⟨n - 1, by omega⟩
    have z := spW_01 T a e (w : Int)
    rw [Rd_wordWithin_L, e6, s32_id (a := (w : Int)) (by omega) (by omega), if_neg (by omega), spelled_eq w (by omega), ob_some, spells_eq hT C (by omega) ha hae he, ob_some, s32_id (a := spW T a e (w : Int)) (by omega) (by omega), wdF]
    by_cases c : spW T a e (w : Int) = 0
    · have q := ih n' (w + 1) (by omega) (by omega)
      rw [if_pos c, if_pos c, show (w : Int) + 1 = ((w + 1 : Nat) : Int) by omega, q]
    · rw [if_neg c, if_neg c]
theorem isNext_eq {S : Int} {T : Int → Int} (hT : okT S T) {m : Mem} (C : TC S T m) {a x : Int} (ha : m 131 3 = a) (h0 : 0 ≤ a ∧ a ≤ S) (hx : 0 ≤ x ∧ x ≤ 127) : Rd_isNext x m = some (if a < S ∧ T a = x then 1 else 0) := by
  obtain ⟨hS, hT⟩ := hT
  unfold Rd_isNext
  rw [ha, C.1, s32_id (a := S) (by omega) (by omega), s32_id (a := a) (by omega) (by omega)]
  by_cases c : S ≤ a
  · rw [if_pos c, if_neg (by omega)]
  · have t := hT a h0.1 (by omega)
    rw [if_neg c, ck_id h0.1 (by omega) (by omega), C.2 a h0.1 (by omega), s32_id (a := T a) (by omega) (by omega), s32_id (a := x) (by omega) (by omega)]
    by_cases d : T a = x
    · rw [if_neg (fun z => z d), if_pos ⟨by omega, d⟩]
    · rw [if_pos d, if_neg (fun z => d z.2)]
theorem isFigure_eq {S : Int} {T : Int → Int} (hT : okT S T) {m : Mem} (C : TC S T m) {a : Int} (ha : m 131 3 = a) (h0 : 0 ≤ a ∧ a ≤ S) : Rd_isFigureNext m = some (if a < S ∧ 48 ≤ T a ∧ T a ≤ 57 then 1 else 0) := by
  obtain ⟨hS, hT⟩ := hT
  unfold Rd_isFigureNext
  rw [ha, C.1, s32_id (a := S) (by omega) (by omega), s32_id (a := a) (by omega) (by omega), s32_id (a := 48) (by decide) (by decide), s32_id (a := 57) (by decide) (by decide)]
  by_cases c : S ≤ a
  · rw [if_pos c, if_neg (by omega)]
  · have t := hT a h0.1 (by omega)
    rw [if_neg c, ck_id h0.1 (by omega) (by omega), C.2 a h0.1 (by omega), s32_id (a := T a) (by omega) (by omega)]
    by_cases d : T a < 48
    · rw [if_pos d, if_neg (by omega)]
    · rw [if_neg d, ck_id h0.1 (by omega) (by omega)]
      by_cases f : 57 < T a
      · rw [if_pos f, if_neg (by omega)]
      · rw [if_neg f, if_pos (by omega)]
/-- the figures, as the class reads them -/
def cF (p0 x3 : Int) (m4 : Mem) : Option (Int × Mem) := (Rd_isFigureNext m4).bind (fun r5 => if ¬ s32 r5 = 0 then (ck (m4 131 3) 120 (lt (((m4 141 (s32 (m4 131 3))) - 48)) (fun x6 => lt (mset m4 131 3 ((m4 131 3) + 1)) (fun m7 => (Rd_isFigureNext m7).bind (fun r8 => jn (fun (x9 : Int) (m10 : Mem) => jn (fun (x11 : Int) => ck p0 3 (lt (mset m10 142 (s32 p0) x11) (fun m12 => some (1, m12)))) (fun (k141 : Int → Option (Int × Mem)) => if s32 x3 = 0 then ((k141 x9)) else ((k141 (-x9))))) (fun (k124 : Int → Mem → Option (Int × Mem)) => if s32 r8 = 0 then ((k124 x6 m7)) else (ck (m7 131 3) 120 (lt ((((10 * x6) + (m7 141 (s32 (m7 131 3)))) - 48)) (fun x13 => lt (mset m7 131 3 ((m7 131 3) + 1)) (fun m14 => (k124 x13 m14))))))))))) else (some (0, m4)))
theorem readNumber_cF (p0 p1 : Int) (mem : Mem) : Rd_readNumber p0 p1 mem = (Rd_isNext 32 mem).bind (fun r1 => if ¬ s32 r1 = 0 then (lt (mset mem 131 3 ((mem 131 3) + 1)) (fun m2 => jn (fun (x3 : Int) => jn (fun (m4 : Mem) => cF p0 x3 m4) (fun (k54 : Mem → Option (Int × Mem)) => if s32 x3 = 0 then ((k54 m2)) else (lt (mset m2 131 3 ((m2 131 3) + 1)) (fun m15 => (k54 m15))))) (fun (k39 : Int → Option (Int × Mem)) => jn ((k39 0)) (fun (k38 : Option (Int × Mem)) => if s32 p1 = 0 then (k38) else ((Rd_isNext 45 m2).bind (fun r16 => if s32 r16 = 0 then (k38) else ((k39 1)))))))) else (some (0, mem))) := by
  unfold Rd_readNumber cF
  rfl
/-- what reading a number leaves: p its number -/
def frN (p : Int) (m' m : Mem) : Prop := ∀ c i, ¬ (c = 131 ∧ i = 3) → ¬ (c = 142 ∧ i = p) → m' c i = m c i
theorem cF_eq {S : Int} {T : Int → Int} (hT : okT S T) {m : Mem} (C : TC S T m) {b p x : Int} (hb : m 131 3 = b) (h0 : 0 ≤ b ∧ b ≤ S) (hp : 0 ≤ p ∧ p < 3) (hx : x = 0 ∨ x = 1) : ∃ m', cF p x m = some ((pF T S x b).1, m') ∧ m' 131 3 = (pF T S x b).2.1 ∧ ((pF T S x b).1 = 1 → m' 142 p = (pF T S x b).2.2) ∧ frN p m' m := by
  have hS := hT.1
  unfold cF
  rw [isFigure_eq hT C hb h0, ob_some, hb]
  by_cases c : b < S ∧ 48 ≤ T b ∧ T b ≤ 57
  · have t := hT.2 b h0.1 c.1
    rw [if_pos c, s32_1, if_1, ck_id h0.1 (by omega) (by omega), s32_id (a := b) (by omega) (by omega), C.2 b h0.1 c.1, lt_id, lt_id]
    have C7 : TC S T (mset m 131 3 (b + 1)) := TC_fr C (fun c i hc => by rw [mset_if, if_neg (by omega)])
    rw [isFigure_eq hT C7 (mset_here _ _ _ _) ⟨by omega, by omega⟩, ob_some, jn_id]
    have key : ∀ (v : Int) (m10 : Mem), frN p m10 m → ∃ m', (if s32 x = 0 then ck p 3 (lt (mset m10 142 (s32 p) v) (fun m12 => some ((1 : Int), m12))) else ck p 3 (lt (mset m10 142 (s32 p) (-v)) (fun m12 => some ((1 : Int), m12)))) = some (1, m') ∧ m' 131 3 = m10 131 3 ∧ m' 142 p = sg x v ∧ frN p m' m := by
      intro v m10 f10
      unfold sg
      rw [ck_id hp.1 (by omega) (by omega), ck_id hp.1 (by omega) (by omega), s32_id (a := p) (by omega) (by omega), lt_id, lt_id]
      rcases hx with rfl | rfl
      · rw [s32_0, if_pos rfl, if_pos rfl]
        exact ⟨_, rfl, by rw [mset_if, if_neg (by omega)], mset_here _ _ _ _, fun c i h1 h2 => by rw [mset_if, if_neg h2]; exact f10 c i h1 h2⟩
      · rw [s32_1, if_1', if_1']
        exact ⟨_, rfl, by rw [mset_if, if_neg (by omega)], mset_here _ _ _ _, fun c i h1 h2 => by rw [mset_if, if_neg h2]; exact f10 c i h1 h2⟩
    by_cases d : b + 1 < S ∧ 48 ≤ T (b + 1) ∧ T (b + 1) ≤ 57
    · have e : pF T S x b = (1, b + 2, sg x (10 * (T b - 48) + T (b + 1) - 48)) := by unfold pF; rw [if_pos c, if_pos d]
      rw [e, if_pos d, s32_1, if_1', mset_here, ck_id (by omega) (by omega) (by omega), s32_id (a := b + 1) (by omega) (by omega), C7.2 (b + 1) (by omega) d.1, lt_id, lt_id]
      obtain ⟨m', e1, e2, e3, e4⟩ := key (10 * (T b - 48) + T (b + 1) - 48) (mset (mset m 131 3 (b + 1)) 131 3 (b + 1 + 1)) (fun c i h1 h2 => by rw [mset_if, if_neg h1, mset_if, if_neg h1])
      exact ⟨m', e1, by rw [e2, mset_here]; show b + 1 + 1 = b + 2; omega, fun _ => e3, e4⟩
    · have e : pF T S x b = (1, b + 1, sg x (T b - 48)) := by unfold pF; rw [if_pos c, if_neg d]
      rw [e, if_neg d, s32_0, if_0']
      obtain ⟨m', e1, e2, e3, e4⟩ := key (T b - 48) (mset m 131 3 (b + 1)) (fun c i h1 h2 => by rw [mset_if, if_neg h1])
      exact ⟨m', e1, by rw [e2, mset_here], fun _ => e3, e4⟩
  · have e : pF T S x b = (0, b, 0) := by unfold pF; rw [if_neg c]
    rw [e, if_neg c, s32_0, if_0]
    exact ⟨m, rfl, hb, fun z => absurd (show (0 : Int) = 1 from z) (by decide), fun _ _ _ _ => rfl⟩
theorem readNumber_eq {S : Int} {T : Int → Int} (hT : okT S T) {m : Mem} (C : TC S T m) {a p g : Int} (ha : m 131 3 = a) (h0 : 0 ≤ a ∧ a ≤ S) (hp : 0 ≤ p ∧ p < 3) (hg : g = 0 ∨ g = 1) : ∃ m', Rd_readNumber p g m = some ((pN T S g a).1, m') ∧ m' 131 3 = (pN T S g a).2.1 ∧ ((pN T S g a).1 = 1 → m' 142 p = (pN T S g a).2.2) ∧ frN p m' m := by
  have hS := hT.1
  rw [readNumber_cF, isNext_eq hT C ha h0 (by decide), ob_some, ha]
  unfold pN
  by_cases c : a < S ∧ T a = 32
  · rw [if_pos c, if_pos c, s32_1, if_1, lt_id, jn_id]
    have C2 : TC S T (mset m 131 3 (a + 1)) := TC_fr C (fun c i hc => by rw [mset_if, if_neg (by omega)])
    have f2 : frN p (mset m 131 3 (a + 1)) m := fun c i h1 h2 => by rw [mset_if, if_neg h1]
    simp only [jn_id, lt_id]
    rw [isNext_eq hT C2 (mset_here _ _ _ _) ⟨by omega, by omega⟩ (by decide), ob_some, s32_0, if_0', s32_1, if_1', mset_here]
    by_cases d : g = 1 ∧ (a + 1 < S ∧ T (a + 1) = 45)
    · obtain ⟨d1, d2⟩ := d
      subst d1
      obtain ⟨m', e1, e2, e3, e4⟩ := cF_eq hT (m := mset (mset m 131 3 (a + 1)) 131 3 (a + 1 + 1)) (TC_fr C2 (fun c i hc => by rw [mset_if, if_neg (by omega)])) (b := a + 2) (p := p) (x := 1) (by rw [mset_here]; omega) ⟨by omega, by omega⟩ hp (Or.inr rfl)
      rw [if_pos (show (1 : Int) = 1 ∧ (a + 1 < S ∧ T (a + 1) = 45) from ⟨rfl, d2⟩), s32_1, if_1', if_pos d2, s32_1, if_1']
      exact ⟨m', e1, e2, e3, fun c i h1 h2 => by rw [e4 c i h1 h2, mset_if, if_neg h1]; exact f2 c i h1 h2⟩
    · obtain ⟨m', e1, e2, e3, e4⟩ := cF_eq hT (m := mset m 131 3 (a + 1)) C2 (b := a + 1) (p := p) (x := 0) (mset_here _ _ _ _) ⟨by omega, by omega⟩ hp (Or.inl rfl)
      rw [if_neg d]
      refine ⟨m', ?_, e2, e3, fun c i h1 h2 => by rw [e4 c i h1 h2]; exact f2 c i h1 h2⟩
      rcases hg with rfl | rfl
      · rw [s32_0, if_0']; exact e1
      · rw [s32_1, if_1', if_neg (fun z => d ⟨rfl, z⟩), s32_0, if_0']; exact e1
  · rw [if_neg c, if_neg c, s32_0, if_0]
    exact ⟨m, rfl, ha, fun z => absurd (show (0 : Int) = 1 from z) (by decide), fun _ _ _ _ => rfl⟩
