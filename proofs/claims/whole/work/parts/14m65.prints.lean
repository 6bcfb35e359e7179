/-! prints: the model's bytes -/
def fr2 (m' m : Mem) : Prop := ∀ c i, ¬ (c = 167 ∨ (c = 149 ∧ i = 32)) → m' c i = m c i
def Pm (m : Mem) (bs : List Int) : Prop := Pp (m 149 32) (m 167) bs
theorem Pm_fr {m m' : Mem} {bs : List Int} (P : Pm m bs) (h : ∀ c i, c = 167 ∨ (c = 149 ∧ i = 32) → m' c i = m c i) : Pm m' bs := by
  have e : m' 167 = m 167 := by funext i; exact h 167 i (Or.inl rfl)
  unfold Pm
  rw [e, h 149 32 (Or.inr ⟨rfl, rfl⟩)]
  exact P
theorem sign_eq {m : Mem} {bs : List Int} (P : Pm m bs) (hl : bs.length + 1 ≤ 1000) {b : Int} (hb : 0 ≤ b ∧ b ≤ 127) : ∃ m', Mo_sign b m = some m' ∧ Pm m' (bs ++ [b]) ∧ fr2 m' m := by
  have hz : 0 ≤ m 149 32 ∧ m 149 32 < 1000 := by rw [P.1]; omega
  have r0 : mset m 167 (m 149 32) b 149 32 = m 149 32 := by rw [mset_if, if_neg (by omega)]
  unfold Mo_sign
  rw [ck_id hz.1 (by omega) (by omega), s32_id (a := m 149 32) (by omega) (by omega), lt_id, lt_id, r0]
  refine ⟨_, rfl, ?_, fun c i hc => by rw [mset_if, if_neg (by omega), mset_if, if_neg (by omega)]⟩
  refine Pp_put P hb (mset_here _ _ _ _) (fun i hi => ?_) ?_
  · rw [mset_if, if_neg (by omega), mset_c, if_neg hi]
  · rw [mset_if, if_neg (by omega), mset_here]
theorem num_L21 {N : Int} (h0 : 0 ≤ N) (hb : N < 100000000000000000) : ∀ (e n : Nat) (m : Mem) (bs : List Int), e + 1 < n → e ≤ 16 → Pm m bs → bs.length + (e + 1) ≤ 1000 → ∃ m', Mo_number_L21 N n (p10 e) m = some m' ∧ Pm m' (bs ++ figL N (e + 1)) ∧ fr2 m' m := by
  have e10 : s64 10 = 10 := s64_id (by decide) (by decide)
  intro e
  induction e with
  | zero =>
    intro n m bs hn he P hl
    obtain ⟨n', rfl⟩ : ∃ n', n = n' + 1 + 1 := ⟨n - 2, by omega⟩
    have g := dgt_b N 0
    obtain ⟨m1, e1, P1, f1⟩ := sign_eq P (b := 48 + dgt N 0) (by omega) (by omega)
    refine ⟨m1, ?_, P1, f1⟩
    have s1 : s64 1 = 1 := s64_id (by decide) (by decide)
    have d1 : N.tdiv 1 = N := by rw [Int.tdiv_eq_ediv_of_nonneg h0, Int.ediv_one]
    have d2 : N.tmod 10 = dgt N 0 := by
      rw [Int.tmod_eq_emod_of_nonneg h0]; unfold dgt; rw [show p10 0 = 1 from rfl, Int.ediv_one]
    rw [show p10 0 = 1 from rfl, Mo_number_L21, s1, s64_0, if_neg (show ¬ (1 : Int) ≤ 0 by decide), dv_id (by decide), e10, s64_id (a := N) (by omega) (by omega), d1, s64_id (a := N) (by omega) (by omega), d2, e1, ob_some, lt_id, show (1 : Int).tdiv 10 = 0 by decide, Mo_number_L21, s64_0, if_pos (Int.le_refl 0)]
  | succ e ih =>
    intro n m bs hn he P hl
    obtain ⟨n', rfl⟩ : ∃ n', n = n' + 1 := ⟨n - 1, by omega⟩
    have g := dgt_b N (e + 1)
    have pp := p10_pos e
    have pl : p10 e ≤ 10000000000000000 := p10_16 (by omega)
    have ps := p10_s e
    obtain ⟨m1, e1, P1, f1⟩ := sign_eq P (b := 48 + dgt N (e + 1)) (by omega) (by omega)
    obtain ⟨m2, e2, P2, f2⟩ := ih n' m1 (bs ++ [48 + dgt N (e + 1)]) (by omega) (by omega) P1 (by rw [List.length_append, List.length_cons, List.length_nil]; omega)
    refine ⟨m2, ?_, ?_, fun c i hc => by rw [f2 c i hc, f1 c i hc]⟩
    · have q0 : 0 ≤ N / p10 (e + 1) := Int.ediv_nonneg h0 (by omega)
      have q1 : N / p10 (e + 1) ≤ N := Int.ediv_le_self _ h0
      have d1 : N.tdiv (p10 (e + 1)) = N / p10 (e + 1) := Int.tdiv_eq_ediv_of_nonneg h0
      have d2 : (N / p10 (e + 1)).tmod 10 = dgt N (e + 1) := Int.tmod_eq_emod_of_nonneg q0
      have d3 : (p10 (e + 1)).tdiv 10 = p10 e := by rw [Int.tdiv_eq_ediv_of_nonneg (by omega)]; omega
      rw [Mo_number_L21, s64_0, s64_id (a := p10 (e + 1)) (by omega) (by omega), if_neg (by omega), dv_id (by omega), e10, s64_id (a := N) (by omega) (by omega), d1, s64_id (a := N / p10 (e + 1)) (by omega) (by omega), d2, e1, ob_some, lt_id, d3, e2]
    · rw [app1] at P2; exact P2
theorem num_L2 {N : Int} (h0 : 0 ≤ N) (hb : N < 100000000000000000) {d : Nat} (D : nd N d) (hd : d ≤ 17) (k : Int → Option Mem) : ∀ (w n e : Nat), e + w + 1 = d → w < n → Mo_number_L2 N k n (p10 e) = k (p10 (d - 1)) := by
  obtain ⟨d1, d2, d3⟩ := D
  intro w
  induction w with
  | zero =>
    intro n e he hn
    obtain ⟨n', rfl⟩ : ∃ n', n = n' + 1 := ⟨n - 1, by omega⟩
    have pl : p10 e ≤ 10000000000000000 := p10_16 (by omega)
    have pp := p10_pos e
    have ps := p10_s e
    have ed : d = e + 1 := by omega
    rw [ed] at d2
    rw [Mo_number_L2, s64_id (a := N) (by omega) (by omega), s64_id (a := p10 e * 10) (by omega) (by omega), if_pos (by omega), show d - 1 = e by omega]
  | succ w ih =>
    intro n e he hn
    obtain ⟨n', rfl⟩ : ∃ n', n = n' + 1 := ⟨n - 1, by omega⟩
    have pl : p10 e ≤ 10000000000000000 := p10_16 (by omega)
    have pp := p10_pos e
    have ps := p10_s e
    have hh : p10 (e + 1) ≤ N := by
      rcases d3 with d3 | d3
      · omega
      · have := p10_le (i := e + 1) (j := d - 1) (by omega)
        omega
    rw [Mo_number_L2, s64_id (a := N) (by omega) (by omega), s64_id (a := p10 e * 10) (by omega) (by omega), if_neg (by omega), lt_id, show p10 e * 10 = p10 (e + 1) by omega, ih n' (e + 1) (by omega) (by omega)]
theorem number_eq {m : Mem} {bs : List Int} (P : Pm m bs) {N : Int} (h0 : 0 ≤ N) (hb : N < 100000000000000000) (hl : bs.length + (numT N).length ≤ 1000) : ∃ m', Mo_number N m = some m' ∧ Pm m' (bs ++ numT N) ∧ fr2 m' m := by
  obtain ⟨D, hd⟩ := nFig_nd h0 hb
  have D' := D
  obtain ⟨d1, -, -⟩ := D'
  rw [numT_len] at hl
  obtain ⟨e, he⟩ : ∃ e, nFig N = e + 1 := ⟨nFig N - 1, by omega⟩
  have ha := num_L2 h0 hb D hd (fun (x1 : Int) => (Mo_number_L21 N 2000 x1 m)) (nFig N - 1) 2000 0 (by omega) (by omega)
  have ha' : Mo_number_L2 N (fun (x1 : Int) => (Mo_number_L21 N 2000 x1 m)) 2000 1 = Mo_number_L21 N 2000 (p10 (nFig N - 1)) m := ha
  obtain ⟨m', e1, P1, f1⟩ := num_L21 h0 hb e 2000 m bs (by omega) (by omega) P (by omega)
  refine ⟨m', ?_, ?_, f1⟩
  · unfold Mo_number
    rw [jn_id, ha', he, show e + 1 - 1 = e by omega, e1]
  · unfold numT; rw [he]; exact P1
/-- a fraction as the model writes it; s: a + ahead -/
def fracP (s x d : Int) : List Int := (if x < 0 then [45] else if s = 0 then [] else [43]) ++ (numT (if x < 0 then -x else x) ++ (if d = 1 then [] else 47 :: numT d))
def fr3 (m' m : Mem) : Prop := ∀ c i, ¬ (c = 167 ∨ (c = 149 ∧ (i = 32 ∨ i = 5 ∨ i = 6))) → m' c i = m c i
theorem fraction_eq {m : Mem} {bs : List Int} (P : Pm m bs) {p q X D s : Int} (hp : b62 p) (hq : b62 q) (q0 : 0 < q) (hD : 0 < D) (h : p * D = X * q) (hN : okN (nm X D) (dn X D)) (hs : s = 0 ∨ s = 1) (hl : bs.length + (fracP s (nm X D) (dn X D)).length ≤ 1000) : ∃ m', Mo_fraction p q s m = some m' ∧ Pm m' (bs ++ fracP s (nm X D) (dn X D)) ∧ fr3 m' m := by
  obtain ⟨m1, e1, ⟨g5, g6⟩, f1⟩ := is_frac (mem := m) hp hq q0 hD h
  have P1 : Pm m1 bs := Pm_fr P (fun c i hc => f1 c i (by omega))
  have s1 : s64 1 = 1 := s64_id (by decide) (by decide)
  obtain ⟨hx1, hd0, hd1⟩ := hN
  generalize nm X D = x at *
  generalize dn X D = d at *
  unfold fracP at hl ⊢
  rw [List.length_append, List.length_append] at hl
  have sx : s64 x = x := s64_id (by omega) (by omega)
  have sd : s64 d = d := s64_id (by omega) (by omega)
  have tail : ∀ (m2 : Mem) (b2 : List Int) (N : Int), Pm m2 b2 → m2 149 6 = d → 0 ≤ N → N < 100000000000000000 → b2.length + ((numT N).length + (if d = 1 then ([] : List Int) else 47 :: numT d).length) ≤ 1000 → ∃ m', (Mo_number N m2).bind (fun m4 => if s64 (m4 149 6) ≤ s64 1 then (some m4) else ((Mo_sign 47 m4).bind (fun m5 => (Mo_number (m5 149 6) m5).bind (fun m6 => some m6)))) = some m' ∧ Pm m' (b2 ++ (numT N ++ (if d = 1 then [] else 47 :: numT d))) ∧ fr2 m' m2 := by
    intro m2 b2 N P2 q6 n0 n1 l2
    obtain ⟨m4, e4, P4, f4⟩ := number_eq P2 n0 n1 (by omega)
    have q6' : m4 149 6 = d := by rw [f4 149 6 (by omega)]; exact q6
    rw [e4, ob_some, q6', sd, s1]
    by_cases c : d = 1
    · rw [if_pos c, if_pos (by omega), List.append_nil]
      exact ⟨m4, rfl, P4, f4⟩
    · rw [if_neg c] at l2
      rw [if_neg c, if_neg (by omega)]
      rw [List.length_cons] at l2
      obtain ⟨m5, e5, P5, f5⟩ := sign_eq P4 (b := 47) (by rw [List.length_append]; omega) (by omega)
      have q6'' : m5 149 6 = d := by rw [f5 149 6 (by omega)]; exact q6'
      obtain ⟨m6, e6, P6, f6⟩ := number_eq P5 (N := d) (by omega) hd1 (by rw [List.length_append, List.length_append, List.length_cons, List.length_nil]; omega)
      refine ⟨m6, by rw [e5, ob_some, q6'', e6, ob_some], ?_, fun c i hc => by rw [f6 c i hc, f5 c i hc, f4 c i hc]⟩
      rw [app1, List.append_assoc] at P6; exact P6
  unfold Mo_fraction
  rw [e1, ob_some, jn_id, g5, s64_0, sx]
  by_cases c : x < 0
  · rw [if_pos c, if_pos c] at hl
    rw [if_pos c, if_pos c, if_neg (show ¬ 0 ≤ x by omega)]
    rw [List.length_cons, List.length_nil] at hl
    obtain ⟨m2, e2, P2, f2⟩ := sign_eq P1 (b := 45) (by omega) (by omega)
    obtain ⟨m3, e3, P3, f3⟩ := tail m2 (bs ++ [45]) (-x) P2 (by rw [f2 149 6 (by omega)]; exact g6) (by omega) (by omega) (by rw [List.length_append, List.length_cons, List.length_nil]; omega)
    refine ⟨m3, ?_, by rw [List.append_assoc] at P3; exact P3, fun c i hc => by rw [f3 c i (by omega), f2 c i (by omega), f1 c i (by omega)]⟩
    rw [e2, ob_some]
    dsimp only
    rw [jn_id, f2 149 5 (by omega), g5, sx, if_neg (show ¬ 0 ≤ x by omega)]
    exact e3
  · rw [if_neg c, if_neg c] at hl
    rw [if_neg c, if_neg c, if_pos (show 0 ≤ x by omega)]
    rcases hs with rfl | rfl
    · rw [if_pos rfl] at hl
      rw [if_pos rfl, s32_0, if_0', List.nil_append]
      rw [List.length_nil] at hl
      obtain ⟨m3, e3, P3, f3⟩ := tail m1 bs x P1 g6 (by omega) (by omega) (by omega)
      refine ⟨m3, ?_, P3, fun c i hc => by rw [f3 c i (by omega), f1 c i (by omega)]⟩
      dsimp only
      rw [jn_id, g5, sx, if_pos (show 0 ≤ x by omega)]
      exact e3
    · rw [if_neg (by decide)] at hl
      rw [if_neg (show ¬ (1 : Int) = 0 by decide), s32_1, if_1']
      rw [List.length_cons, List.length_nil] at hl
      obtain ⟨m2, e2, P2, f2⟩ := sign_eq P1 (b := 43) (by omega) (by omega)
      obtain ⟨m3, e3, P3, f3⟩ := tail m2 (bs ++ [43]) x P2 (by rw [f2 149 6 (by omega)]; exact g6) (by omega) (by omega) (by rw [List.length_append, List.length_cons, List.length_nil]; omega)
      refine ⟨m3, ?_, by rw [List.append_assoc] at P3; exact P3, fun c i hc => by rw [f3 c i (by omega), f2 c i (by omega), f1 c i (by omega)]⟩
      rw [e2, ob_some]
      dsimp only
      rw [jn_id, f2 149 5 (by omega), g5, sx, if_pos (show 0 ≤ x by omega)]
      exact e3
theorem fracP_0 (x d : Int) : fracP 0 x d = fracT x d := by
  unfold fracP fracT intT
  by_cases c : x < 0
  · rw [if_pos c, if_pos c, if_pos c]; rfl
  · rw [if_neg c, if_neg c, if_neg c, if_pos rfl]; rfl
theorem fracP_1 {x d : Int} (h : ¬ x = 0) : fracP 1 x d = (if 0 < x then [43] else []) ++ fracT x d := by
  unfold fracP fracT intT
  by_cases c : x < 0
  · rw [if_pos c, if_pos c, if_pos c, if_neg (show ¬ 0 < x by omega)]; rfl
  · rw [if_neg c, if_neg c, if_neg c, if_neg (by decide), if_pos (show 0 < x by omega)]
/-! a piece -/
def pcM (A : Int → Int) (k : Int) : List Int := fracT (nm (MB A k 1) (2 * DD A)) (dn (MB A k 1) (2 * DD A))
def pcV (A : Int → Int) (k : Int) : List Int := termT 1 (nm (CT A k) (DD A)) (dn (CT A k) (DD A))
def pcQ (A : Int → Int) (k : Int) : List Int := termT 2 (nm (-ZS A (deF k)) 2) (dn (-ZS A (deF k)) 2)
def pieceT (A : Int → Int) (k : Int) : List Int := numT k ++ (58 :: 32 :: (pcM A k ++ (pcV A k ++ (pcQ A k ++ [59]))))
theorem fracT_len {x d : Int} {a b : Nat} (hx : ab x (p10 a - 1)) (hd : 0 < d ∧ d < p10 b) (ha : 1 ≤ a ∧ a ≤ 16) (hb : 1 ≤ b ∧ b ≤ 16) : (fracT x d).length ≤ a + b + 2 ∧ okN x d := by
  obtain ⟨x1, x2⟩ := hx
  have pa : p10 a ≤ 10000000000000000 := p10_16 (by omega)
  have pb : p10 b ≤ 10000000000000000 := p10_16 (by omega)
  have l1 : (intT x).length ≤ a + 1 := by
    unfold intT
    by_cases c : x < 0
    · rw [if_pos c, List.length_cons]
      have := nFig_le (n := -x) (by omega) (by omega) ha.1 (by omega)
      omega
    · rw [if_neg c]
      have := nFig_le (n := x) (by omega) (by omega) ha.1 (by omega)
      omega
  have l2 := nFig_le (n := d) (by omega) (by omega) hb.1 hd.2
  refine ⟨?_, ⟨by omega, by omega⟩, hd.1, by omega⟩
  unfold fracT
  rw [List.length_append]
  by_cases c : d = 1
  · rw [if_pos c, List.length_nil]; omega
  · rw [if_neg c, List.length_cons]; omega
theorem termT_len (g : Nat) (x d : Int) : (termT g x d).length ≤ (fracT x d).length + g + 1 := by
  unfold termT
  by_cases c : x = 0
  · rw [if_pos c, List.length_nil]; omega
  · rw [if_neg c, List.length_append, List.length_append, List.length_replicate]
    by_cases z : 0 < x
    · rw [if_pos z, List.length_cons, List.length_nil]; omega
    · rw [if_neg z, List.length_nil]; omega
theorem pc_b {A : Int → Int} (v : VA A) (hn : 2 ≤ A 1) {k : Int} (h0 : 0 ≤ k) (h1 : k < A 0) : (numT k).length ≤ 1 ∧ (pcM A k).length ≤ 20 ∧ (pcV A k).length ≤ 21 ∧ (pcQ A k).length ≤ 9 ∧ okN (nm (MB A k 1) (2 * DD A)) (dn (MB A k 1) (2 * DD A)) ∧ okN (nm (CT A k) (DD A)) (dn (CT A k) (DD A)) ∧ okN (nm (-ZS A (deF k)) 2) (dn (-ZS A (deF k)) 2) := by
  have l10 := v.1
  have B1 := (bnd v hn).1
  have mb := nm_ab (q := 2 * DD A) (MB_ab' v hn h0 (by omega))
  have ct := nm_ab (q := DD A) (CT_ab v hn (x := k) (by omega))
  have z := (ZS_pl v (p := k) (by omega)).2.2.2
  have zq := nm_ab (p := -ZS A (deF k)) (q := 2) (B := 54) (by unfold ab at z ⊢; omega)
  have d1 := dn_b (p := MB A k 1) (q := 2 * DD A) (by omega)
  have d2 := dn_b (p := CT A k) (q := DD A) (by omega)
  have d3 := dn_b (p := -ZS A (deF k)) (q := 2) (by omega)
  have q1 := fracT_len (x := nm (MB A k 1) (2 * DD A)) (d := dn (MB A k 1) (2 * DD A)) (a := 11) (b := 7) (ab_mono mb (by rw [p10_v11]; decide)) ⟨d1.1, by rw [p10_v7]; omega⟩ (by omega) (by omega)
  have q2 := fracT_len (x := nm (CT A k) (DD A)) (d := dn (CT A k) (DD A)) (a := 10) (b := 7) (ab_mono ct (by rw [p10_v10]; decide)) ⟨d2.1, by rw [p10_v7]; omega⟩ (by omega) (by omega)
  have q3 := fracT_len (x := nm (-ZS A (deF k)) 2) (d := dn (-ZS A (deF k)) 2) (a := 2) (b := 1) (ab_mono zq (by rw [p10_v2]; decide)) ⟨d3.1, by rw [p10_v1]; omega⟩ (by omega) (by omega)
  have t2 := termT_len 1 (nm (CT A k) (DD A)) (dn (CT A k) (DD A))
  have t3 := termT_len 2 (nm (-ZS A (deF k)) 2) (dn (-ZS A (deF k)) 2)
  refine ⟨nFig_le h0 (by omega) (Nat.le_refl 1) (by rw [p10_v1]; omega), ?_, ?_, ?_, q1.2, q2.2, q3.2⟩
  · unfold pcM; omega
  · unfold pcV; omega
  · unfold pcQ; omega
theorem pieceT_len {A : Int → Int} (v : VA A) (hn : 2 ≤ A 1) {k : Int} (h0 : 0 ≤ k) (h1 : k < A 0) : (pieceT A k).length ≤ 100 := by
  obtain ⟨a, b, c, d, -⟩ := pc_b v hn h0 h1
  unfold pieceT
  simp only [List.length_append, List.length_cons, List.length_nil]
  omega
def txt (A : Int → Int) : Nat → List Int
  | 0 => []
  | k + 1 => txt A k ++ pieceT A (k : Int)
theorem txt_len {A : Int → Int} (v : VA A) (hn : 2 ≤ A 1) : ∀ k : Nat, (k : Int) ≤ A 0 → (txt A k).length ≤ 100 * k := by
  intro k
  induction k with
  | zero => intro _; exact Nat.le_refl 0
  | succ k ih =>
    intro h
    have := ih (by omega)
    have p := pieceT_len v hn (k := (k : Int)) (by omega) (by omega)
    rw [txt, List.length_append]
    omega
def fr4 (m' m : Mem) : Prop := ∀ c i, ¬ (c = 144 ∨ c = 145 ∨ c = 129 ∨ (c = 143 ∧ i = 0)) → m' c i = m c i
theorem become_put {m : Mem} {bs : List Int} (P : Pc m bs) {p q : Int} (hp : b62 p) (hq : b62 q) (h0 : 0 < q) : ∃ m', Frac_become 129 p q m = some m' ∧ m' 129 0 = nm p q ∧ m' 129 1 = dn p q ∧ Pc m' bs ∧ (∀ c i, ¬ c = 129 → m' c i = m c i) := by
  rw [become_pos hp hq h0]
  refine ⟨_, rfl, by simp [mset], by simp [mset], Pc_fr P (fun c i hc => by rw [mset_if, if_neg (by omega), mset_if, if_neg (by omega)]), fun c i hc => by rw [mset_if, if_neg (fun z => hc z.1), mset_if, if_neg (fun z => hc z.1)]⟩
theorem printPiece_eq {A : Int → Int} (v : VA A) (hn : 2 ≤ A 1) {m : Mem} (V : SV m A) {bs : List Int} (P : Pc m bs) {k : Int} (h0 : 0 ≤ k) (h1 : k < A 0) (hl : bs.length + 100 ≤ 1000) : ∃ m', BP_printPiece k m = some m' ∧ Pc m' (bs ++ pieceT A k) ∧ fr4 m' m := by
  have l10 := v.1
  have B1 := (bnd v hn).1
  obtain ⟨l1, l2, l3, l4, o1, o2, o3⟩ := pc_b v hn h0 h1
  have mb := MB_ab' v hn h0 (by omega)
  have ct := CT_ab v hn (x := k) (by omega)
  have z := (ZS_pl v (p := k) (by omega)).2.2.2
  have hb := (V.2.2.2.2 k h0 (by omega)).2
  have hc := (V.2.2.2.2 k h0 (by omega)).1
  have hd := (V.1.2 k h0 (by omega)).2
  have xb : b62 (m 118 k) := by unfold ab at mb; exact ⟨by omega, by omega⟩
  have iT : intT k = numT k := if_neg (by omega)
  obtain ⟨m1, e1, P1, f1⟩ := putNumber_eq P (x := k) (by omega) (by rw [iT]; omega)
  rw [iT] at P1
  obtain ⟨m2, e2, P2, f2⟩ := put_eq P1 (b := 58) (by rw [List.length_append]; omega) (by omega)
  obtain ⟨m3, e3, P3, f3⟩ := put_eq P2 (b := 32) (by rw [List.length_append, List.length_append, List.length_cons, List.length_nil]; omega) (by omega)
  rw [app1, List.append_assoc] at P3
  have F3 : ∀ c i, ¬ (c = 144 ∨ c = 145 ∨ c = 129 ∨ (c = 143 ∧ i = 0)) → m3 c i = m c i := fun c i hc => by rw [f3 c i (by omega), f2 c i (by omega), f1 c i (by omega)]
  have L3 : (bs ++ (numT k ++ [58, 32])).length ≤ bs.length + 3 := by
    simp only [List.length_append, List.length_cons, List.length_nil]; omega
  obtain ⟨m4, e4, a4, b4, P4, f4⟩ := become_put P3 (p := m 118 k) (q := DD A) xb ⟨by omega, by omega⟩ B1.1
  have eM : nm (m 118 k) (DD A) = nm (MB A k 1) (2 * DD A) ∧ dn (m 118 k) (DD A) = dn (MB A k 1) (2 * DD A) := by
    rcases MB_even V h0 (by omega) with q | q
    · exact q
    · exfalso; omega
  rw [eM.1] at a4
  rw [eM.2] at b4
  obtain ⟨m5, e5, P5, f5⟩ := putFraction_eq P4 a4 b4 o1 (by unfold pcM at l2; omega)
  have F5 : ∀ c i, ¬ (c = 144 ∨ c = 145 ∨ c = 129 ∨ (c = 143 ∧ i = 0)) → m5 c i = m c i := fun c i hc => by rw [f5 c i (by omega), f4 c i (by omega), F3 c i hc]
  rw [show fracT (nm (MB A k 1) (2 * DD A)) (dn (MB A k 1) (2 * DD A)) = pcM A k from rfl] at P5
  obtain ⟨m6, e6, a6, b6, P6, f6⟩ := become_put P5 (p := CT A k) (q := DD A) (b62_le ct (by decide)) ⟨by omega, by omega⟩ B1.1
  obtain ⟨m7, e7, P7, f7⟩ := putTerm_eq P6 a6 b6 o2 (g := 1) (by decide) (by rw [List.length_append]; unfold pcV at l3; omega)
  have F7 : ∀ c i, ¬ (c = 144 ∨ c = 145 ∨ c = 129 ∨ (c = 143 ∧ i = 0)) → m7 c i = m c i := fun c i hc => by rw [f7 c i (by omega), f6 c i (by omega), F5 c i hc]
  rw [show termT 1 (nm (CT A k) (DD A)) (dn (CT A k) (DD A)) = pcV A k from rfl] at P7
  obtain ⟨m8, e8, a8, b8, P8, f8⟩ := become_put P7 (p := -ZS A (deF k)) (q := 2) (by unfold ab at z; exact ⟨by omega, by omega⟩) ⟨by decide, by decide⟩ (by decide)
  obtain ⟨m9, e9, P9, f9⟩ := putTerm_eq P8 a8 b8 o3 (g := 2) (by decide) (by rw [List.length_append, List.length_append]; unfold pcQ at l4; omega)
  rw [show termT 2 (nm (-ZS A (deF k)) 2) (dn (-ZS A (deF k)) 2) = pcQ A k from rfl] at P9
  obtain ⟨ma, ea, Pa, fa⟩ := put_eq P9 (b := 59) (by rw [List.length_append, List.length_append, List.length_append]; omega) (by omega)
  have e7' : Pap_putTerm 1 m6 = some m7 := e7
  have e9' : Pap_putTerm 2 m8 = some m9 := e9
  refine ⟨ma, ?_, ?_, fun c i hc => by rw [fa c i (by omega), f9 c i (by omega), f8 c i (by omega), F7 c i hc]⟩
  · unfold BP_printPiece
    rw [s32_id (a := k) (by omega) (by omega), e1, ob_some, e2, ob_some, e3, ob_some, ck_id h0 (by omega) (by omega), F3 118 k (by omega), F3 111 6 (by omega), V.2.1, e4, ob_some, e5, ob_some, ck_id h0 (by omega) (by omega), F5 117 k (by omega), F5 111 6 (by omega), V.2.1, hc, e6, ob_some, e7', ob_some, ck_id h0 (by omega) (by omega), F7 115 k (by omega), hd, e8, ob_some, e9', ob_some, ea, ob_some]
  · have eq : bs ++ (numT k ++ [58, 32]) ++ pcM A k ++ pcV A k ++ pcQ A k ++ [59] = bs ++ pieceT A k := by unfold pieceT; simp
    rw [← eq]; exact Pa
