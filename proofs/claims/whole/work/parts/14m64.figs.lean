/-! what is printed: bytes as lists; figures -/
def p10 : Nat → Int
  | 0 => 1
  | d + 1 => 10 * p10 d
theorem p10_s (d : Nat) : p10 (d + 1) = 10 * p10 d := rfl
theorem p10_pos : ∀ d : Nat, 0 < p10 d := by
  intro d
  induction d with
  | zero => decide
  | succ d ih => rw [p10_s]; omega
theorem p10_le {i : Nat} : ∀ {j : Nat}, i ≤ j → p10 i ≤ p10 j := by
  intro j
  induction j with
  | zero => intro h; rw [show i = 0 by omega]; exact Int.le_refl _
  | succ j ih =>
    intro h
    by_cases c : i = j + 1
    · rw [c]; exact Int.le_refl _
    · have := ih (by omega)
      have q := p10_pos j
      rw [p10_s]; omega
theorem p10_v1 : p10 1 = 10 := by decide +kernel
theorem p10_v2 : p10 2 = 100 := by decide +kernel
theorem p10_v7 : p10 7 = 10000000 := by decide +kernel
theorem p10_v10 : p10 10 = 10000000000 := by decide +kernel
theorem p10_v11 : p10 11 = 100000000000 := by decide +kernel
theorem p10_v16 : p10 16 = 10000000000000000 := by decide +kernel
theorem p10_v17 : p10 (16 + 1) = 100000000000000000 := by decide +kernel
theorem p10_16 {e : Nat} (h : e ≤ 16) : p10 e ≤ 10000000000000000 := by
  have := p10_le h
  rw [p10_v16] at this
  exact this
def dgt (n : Int) (j : Nat) : Int := n / p10 j % 10
theorem dgt_b (n : Int) (j : Nat) : 0 ≤ dgt n j ∧ dgt n j ≤ 9 := by unfold dgt; omega
/-- the d last figures of n, the greatest first -/
def figL (n : Int) : Nat → List Int
  | 0 => []
  | d + 1 => (48 + dgt n d) :: figL n d
theorem figL_s (n : Int) (d : Nat) : figL n (d + 1) = (48 + dgt n d) :: figL n d := rfl
theorem figL_len (n : Int) : ∀ d : Nat, (figL n d).length = d := by
  intro d
  induction d with
  | zero => rfl
  | succ d ih => rw [figL_s, List.length_cons, ih]
/-- how many figures n has -/
def nF : Nat → Int → Nat
  | 0, _ => 1
  | f + 1, n => if n < 10 then 1 else nF f (n / 10) + 1
def nd (n : Int) (d : Nat) : Prop := 1 ≤ d ∧ n < p10 d ∧ (d = 1 ∨ p10 (d - 1) ≤ n)
theorem nF_spec : ∀ (f : Nat) (n : Int), 0 ≤ n → n < p10 (f + 1) → nd n (nF f n) ∧ nF f n ≤ f + 1 := by
  intro f
  induction f with
  | zero => intro n h0 h1; exact ⟨⟨Nat.le_refl 1, h1, Or.inl rfl⟩, Nat.le_refl 1⟩
  | succ f ih =>
    intro n h0 h1
    rw [nF]
    by_cases c : n < 10
    · rw [if_pos c]
      exact ⟨⟨Nat.le_refl 1, by rw [p10_v1]; exact c, Or.inl rfl⟩, by omega⟩
    · rw [if_neg c]
      have s := p10_s (f + 1)
      obtain ⟨⟨a1, a2, a3⟩, a4⟩ := ih (n / 10) (by omega) (by omega)
      have s2 := p10_s (nF f (n / 10))
      refine ⟨⟨by omega, by omega, Or.inr ?_⟩, by omega⟩
      rw [show nF f (n / 10) + 1 - 1 = nF f (n / 10) by omega]
      rcases a3 with a3 | a3
      · rw [a3, p10_v1]; omega
      · obtain ⟨e, he⟩ : ∃ e, nF f (n / 10) = e + 1 := ⟨nF f (n / 10) - 1, by omega⟩
        rw [he] at a3 ⊢
        rw [show e + 1 - 1 = e by omega] at a3
        rw [p10_s]; omega
def nFig (n : Int) : Nat := nF 16 n
def numT (n : Int) : List Int := figL n (nFig n)
theorem nFig_nd {n : Int} (h0 : 0 ≤ n) (h1 : n < 100000000000000000) : nd n (nFig n) ∧ nFig n ≤ 17 := nF_spec 16 n h0 (by rw [p10_v17]; exact h1)
theorem numT_len (n : Int) : (numT n).length = nFig n := figL_len n _
theorem nFig_le {n : Int} (h0 : 0 ≤ n) (h1 : n < 100000000000000000) {d : Nat} (hd : 1 ≤ d) (h : n < p10 d) : (numT n).length ≤ d := by
  rw [numT_len]
  obtain ⟨⟨a1, a2, a3⟩, a4⟩ := nFig_nd h0 h1
  by_cases c : nFig n ≤ d
  · exact c
  · exfalso
    rcases a3 with a3 | a3
    · omega
    · have := p10_le (i := d) (j := nFig n - 1) (by omega)
      omega
/-- z bytes of f are these -/
def Pp (z : Int) (f : Int → Int) (bs : List Int) : Prop := z = (bs.length : Int) ∧ ∀ k : Nat, k < bs.length → f (k : Int) = bs.getD k 0 ∧ 0 ≤ f (k : Int) ∧ f (k : Int) ≤ 127
theorem Pp_nil (f : Int → Int) : Pp 0 f [] := ⟨rfl, fun k hk => absurd hk (Nat.not_lt_zero k)⟩
theorem Pp_put {z z' : Int} {f f' : Int → Int} {bs : List Int} {b : Int} (h : Pp z f bs) (hb : 0 ≤ b ∧ b ≤ 127) (hz : z' = z + 1) (hf : ∀ i, ¬ i = z → f' i = f i) (hb' : f' z = b) : Pp z' f' (bs ++ [b]) := by
  obtain ⟨h1, h2⟩ := h
  refine ⟨by rw [hz, h1]; simp, fun k hk => ?_⟩
  by_cases c : k < bs.length
  · rw [hf (k : Int) (by omega), List.getD_eq_getElem?_getD, List.getElem?_append_left c, ← List.getD_eq_getElem?_getD]
    exact h2 k c
  · have e : k = bs.length := by
      rw [List.length_append, List.length_cons, List.length_nil] at hk
      omega
    have ez : (k : Int) = z := by rw [h1, e]
    rw [ez, hb', List.getD_eq_getElem?_getD, List.getElem?_append_right (by omega), e]
    simp
    exact hb
theorem app1 (bs xs : List Int) (b : Int) : bs ++ [b] ++ xs = bs ++ (b :: xs) := by simp
/-! the class -/
def fr1 (m' m : Mem) : Prop := ∀ c i, ¬ (c = 144 ∨ c = 145 ∨ (c = 143 ∧ i = 0)) → m' c i = m c i
def Pc (m : Mem) (bs : List Int) : Prop := Pp (m 143 0) (m 144) bs
theorem Pc_fr {m m' : Mem} {bs : List Int} (P : Pc m bs) (h : ∀ c i, c = 144 ∨ (c = 143 ∧ i = 0) → m' c i = m c i) : Pc m' bs := by
  have e : m' 144 = m 144 := by funext i; exact h 144 i (Or.inl rfl)
  unfold Pc
  rw [e, h 143 0 (Or.inr ⟨rfl, rfl⟩)]
  exact P
theorem put_eq {m : Mem} {bs : List Int} (P : Pc m bs) (hl : bs.length + 1 ≤ 1000) {b : Int} (hb : 0 ≤ b ∧ b ≤ 127) : ∃ m', Pap_put b m = some m' ∧ Pc m' (bs ++ [b]) ∧ (∀ c i, ¬ (c = 144 ∨ (c = 143 ∧ i = 0)) → m' c i = m c i) := by
  have hz : 0 ≤ m 143 0 ∧ m 143 0 < 1000 := by rw [P.1]; omega
  have r0 : mset m 144 (m 143 0) b 143 0 = m 143 0 := by rw [mset_if, if_neg (by omega)]
  unfold Pap_put
  rw [s32_id (a := 1000) (by decide) (by decide), s32_id (a := m 143 0) (by omega) (by omega), if_neg (by omega), ck_id hz.1 (by omega) (by omega), s8_id (x := b) (by omega), s8_id (x := b) (by omega), lt_id, lt_id, r0]
  refine ⟨_, rfl, ?_, fun c i hc => by rw [mset_if, if_neg (by omega), mset_if, if_neg (by omega)]⟩
  refine Pp_put P hb (mset_here _ _ _ _) (fun i hi => ?_) ?_
  · rw [mset_if, if_neg (by omega), mset_c, if_neg hi]
  · rw [mset_if, if_neg (by omega), mset_here]
theorem figs_loop {N : Int} {d : Nat} (h0 : 0 ≤ N) (hb : N < 100000000000000000) (D : nd N d) (hd : d ≤ 17) (k : Int → Mem → Option Mem) (m : Mem) : ∃ m', Pap_putNumber_L23 k 2000 N 0 0 m = k (d : Int) m' ∧ (∀ j : Nat, j < d → m' 145 (j : Int) = 48 + dgt N j) ∧ (∀ c i, ¬ c = 145 → m' c i = m c i) := by
  obtain ⟨d1, d2, d3⟩ := D
  have e20 : s32 20 = 20 := s32_id (by decide) (by decide)
  have e10 : s64 10 = 10 := s64_id (by decide) (by decide)
  have rb : ∀ j : Nat, 0 ≤ N / p10 j ∧ N / p10 j ≤ N := fun j => ⟨Int.ediv_nonneg h0 (by have := p10_pos j; omega), Int.ediv_le_self _ h0⟩
  obtain ⟨m', e, J1, J2⟩ := loopM (fun n i m => Pap_putNumber_L23 k n (N / p10 i.toNat) i i m) (d : Int) (fun i m' => (∀ j : Nat, (j : Int) < i → m' 145 (j : Int) = 48 + dgt N j) ∧ (∀ c q, ¬ c = 145 → m' c q = m c q)) (fun m' => k (d : Int) m') 0
    (fun n m' J => by
      show Pap_putNumber_L23 k (n + 1) (N / p10 (d : Int).toNat) (d : Int) (d : Int) m' = k (d : Int) m'
      have z : N / p10 d = 0 := Int.ediv_eq_zero_of_lt h0 d2
      rw [show (d : Int).toNat = d by omega, z, Pap_putNumber_L23, e20, s32_id (a := (d : Int)) (by omega) (by omega), if_neg (by omega), jn_id, if_neg (by omega), s64_0, if_pos (Int.le_refl 0)])
    (fun n i m' i0 i1 J => by
      show ∃ m'', Pap_putNumber_L23 k (n + 1) (N / p10 i.toNat) i i m' = Pap_putNumber_L23 k n (N / p10 (i + 1).toNat) (i + 1) (i + 1) m'' ∧ _
      obtain ⟨J1, J2⟩ := J
      obtain ⟨q, rfl⟩ := nat_of i0
      have r := rb q
      have g := dgt_b N q
      have e1 : (N / p10 q).tmod 10 = dgt N q := Int.tmod_eq_emod_of_nonneg r.1
      have e2 : (N / p10 q).tdiv 10 = N / p10 (q + 1) := by
        rw [Int.tdiv_eq_ediv_of_nonneg r.1, Int.ediv_ediv_of_nonneg (by have := p10_pos q; omega), Int.mul_comm, p10_s]
      have tail : ∀ o : Option Mem, (if (q : Int) = 0 then o else (if N / p10 q ≤ 0 then k (q : Int) m' else o)) = o := by
        intro o
        by_cases c : (q : Int) = 0
        · rw [if_pos c]
        · rw [if_neg c]
          have : 1 ≤ N / p10 q := by
            rw [Int.le_ediv_iff_mul_le (p10_pos q), Int.one_mul]
            rcases d3 with d3 | d3
            · omega
            · have := p10_le (i := q) (j := d - 1) (by omega)
              omega
          rw [if_neg (by omega)]
      rw [show ((q : Int)).toNat = q by omega, show ((q : Int) + 1).toNat = q + 1 by omega, Pap_putNumber_L23, e20, s32_id (a := (q : Int)) (by omega) (by omega), if_neg (by omega), jn_id, s64_0, s64_id (a := N / p10 q) (by omega) (by omega), e10, tail, ck_id i0 (by omega) (by omega), e1, e2, s8_id (x := 48 + dgt N q) (by omega), s8_id (x := 48 + dgt N q) (by omega), lt_id, lt_id]
      refine ⟨_, rfl, fun j hj => ?_, fun c w hc => ?_⟩
      · rw [mset_c]
        by_cases c : j = q
        · rw [c, if_pos rfl]
        · rw [if_neg (by omega)]; exact J1 j (by omega)
      · rw [mset_if, if_neg (fun z => hc z.1)]; exact J2 c w hc)
    d 2000 0 m (by omega) (by omega) (by omega) ⟨fun j hj => by omega, fun _ _ _ => rfl⟩
  have e' : Pap_putNumber_L23 k 2000 (N / 1) 0 0 m = k (d : Int) m' := e
  rw [Int.ediv_one] at e'
  exact ⟨m', e', fun j hj => J1 j (by omega), J2⟩
theorem figs_out {N : Int} : ∀ (d n : Nat) (m : Mem) (bs : List Int), d < n → d ≤ 20 → Pc m bs → bs.length + d ≤ 1000 → (∀ j : Nat, j < d → m 145 (j : Int) = 48 + dgt N j) → ∃ m', Pap_putNumber_L80 n ((d : Int) - 1) m = some m' ∧ Pc m' (bs ++ figL N d) ∧ (∀ c i, ¬ (c = 144 ∨ (c = 143 ∧ i = 0)) → m' c i = m c i) := by
  intro d
  induction d with
  | zero =>
    intro n m bs hn _ P _ _
    obtain ⟨n', rfl⟩ : ∃ n', n = n' + 1 := ⟨n - 1, by omega⟩
    refine ⟨m, ?_, ?_, fun _ _ _ => rfl⟩
    · rw [Pap_putNumber_L80, s32_id (a := ((0 : Nat) : Int) - 1) (by omega) (by omega), if_pos (by omega)]
    · rw [show figL N 0 = [] from rfl, List.append_nil]; exact P
  | succ d ih =>
    intro n m bs hn hd P hl F
    obtain ⟨n', rfl⟩ : ∃ n', n = n' + 1 := ⟨n - 1, by omega⟩
    have g := dgt_b N d
    obtain ⟨m1, e1, P1, f1⟩ := put_eq P (b := 48 + dgt N d) (by omega) (by omega)
    obtain ⟨m2, e2, P2, f2⟩ := ih n' m1 (bs ++ [48 + dgt N d]) (by omega) (by omega) P1 (by rw [List.length_append, List.length_cons, List.length_nil]; omega) (fun j hj => by rw [f1 145 _ (by omega)]; exact F j (by omega))
    refine ⟨m2, ?_, ?_, fun c i hc => by rw [f2 c i hc, f1 c i hc]⟩
    · rw [Pap_putNumber_L80, show ((d + 1 : Nat) : Int) - 1 = (d : Int) by omega, s32_id (a := (d : Int)) (by omega) (by omega), if_neg (by omega), ck_id (by omega) (by omega) (by omega), F d (by omega), e1, ob_some, show (d : Int) + -1 = (d : Int) - 1 by omega, e2]
    · rw [app1] at P2; exact P2
def intT (x : Int) : List Int := if x < 0 then 45 :: numT (-x) else numT x
theorem putNumber_eq {m : Mem} {bs : List Int} (P : Pc m bs) {x : Int} (hx : -100000000000000000 < x ∧ x < 100000000000000000) (hl : bs.length + (intT x).length ≤ 1000) : ∃ m', Pap_putNumber x m = some m' ∧ Pc m' (bs ++ intT x) ∧ fr1 m' m := by
  have key : ∀ (N : Int) (m1 : Mem) (b1 : List Int), 0 ≤ N → N < 100000000000000000 → Pc m1 b1 → b1.length + (numT N).length ≤ 1000 → ∃ m', Pap_putNumber_L23 (fun (x3 : Int) (m4 : Mem) => lt ((x3 - 1)) (fun x5 => (Pap_putNumber_L80 2000 x5 m4))) 2000 N 0 0 m1 = some m' ∧ Pc m' (b1 ++ numT N) ∧ fr1 m' m1 := by
    intro N m1 b1 n0 n1 P1 l1
    obtain ⟨D, hd⟩ := nFig_nd n0 n1
    rw [numT_len] at l1
    obtain ⟨m2, e2, F2, f2⟩ := figs_loop n0 n1 D hd (fun (x3 : Int) (m4 : Mem) => lt ((x3 - 1)) (fun x5 => (Pap_putNumber_L80 2000 x5 m4))) m1
    obtain ⟨m3, e3, P3, f3⟩ := figs_out (nFig N) 2000 m2 b1 (by omega) (by omega) (Pc_fr P1 (fun c i hc => f2 c i (by omega))) l1 F2
    refine ⟨m3, ?_, P3, fun c i hc => by rw [f3 c i (by omega), f2 c i (by omega)]⟩
    rw [e2, lt_id, e3]
  unfold Pap_putNumber
  rw [jn_id, s64_0, s64_id (a := x) (by omega) (by omega)]
  by_cases c : x < 0
  · have eT : intT x = 45 :: numT (-x) := if_pos c
    rw [eT] at hl ⊢
    rw [List.length_cons] at hl
    obtain ⟨m1, e1, P1, f1⟩ := put_eq P (b := 45) (by omega) (by omega)
    obtain ⟨m2, e2, P2, f2⟩ := key (-x) m1 (bs ++ [45]) (by omega) (by omega) P1 (by rw [List.length_append, List.length_cons, List.length_nil]; omega)
    refine ⟨m2, ?_, ?_, fun c i hc => by rw [f2 c i hc, f1 c i (by omega)]⟩
    · rw [if_neg (show ¬ 0 ≤ x by omega), e1, ob_some, if_neg (show ¬ 0 < x by omega)]
      dsimp only
      rw [lt_id, jn_id, e2]
    · rw [app1] at P2; exact P2
  · have eT : intT x = numT x := if_neg c
    rw [eT] at hl ⊢
    obtain ⟨m2, e2, P2, f2⟩ := key x m bs (by omega) (by omega) P hl
    refine ⟨m2, ?_, P2, f2⟩
    rw [if_pos (show 0 ≤ x by omega)]
    have ex : (if 0 < x then x else -x) = x := by
      by_cases z : 0 < x
      · rw [if_pos z]
      · rw [if_neg z]; omega
    rw [ex]
    dsimp only
    rw [lt_id, jn_id, e2]
def fracT (x d : Int) : List Int := intT x ++ (if d = 1 then [] else 47 :: numT d)
def okN (x d : Int) : Prop := (-100000000000000000 < x ∧ x < 100000000000000000) ∧ (0 < d ∧ d < 100000000000000000)
theorem putFraction_eq {m : Mem} {bs : List Int} (P : Pc m bs) {x d : Int} (h0 : m 129 0 = x) (h1 : m 129 1 = d) (hx : okN x d) (hl : bs.length + (fracT x d).length ≤ 1000) : ∃ m', Pap_putFraction m = some m' ∧ Pc m' (bs ++ fracT x d) ∧ fr1 m' m := by
  obtain ⟨hx1, hd0, hd1⟩ := hx
  have s1 : s64 1 = 1 := s64_id (by decide) (by decide)
  unfold fracT at hl ⊢
  rw [List.length_append] at hl
  obtain ⟨m1, e1, P1, f1⟩ := putNumber_eq P hx1 (by omega)
  have h1' : m1 129 1 = d := by rw [f1 129 1 (by omega)]; exact h1
  unfold Pap_putFraction
  rw [h0, e1, ob_some, h1', s1, s64_id (a := d) (by omega) (by omega)]
  by_cases c : d = 1
  · rw [if_pos c, if_pos c, List.append_nil]
    exact ⟨m1, rfl, P1, f1⟩
  · rw [if_neg c] at hl
    rw [if_neg c, if_neg c]
    rw [List.length_cons] at hl
    have iT : intT d = numT d := if_neg (by omega)
    obtain ⟨m2, e2, P2, f2⟩ := put_eq P1 (b := 47) (by rw [List.length_append]; omega) (by omega)
    obtain ⟨m3, e3, P3, f3⟩ := putNumber_eq P2 (x := d) ⟨by omega, hd1⟩ (by rw [List.length_append, List.length_append, List.length_cons, List.length_nil, iT]; omega)
    refine ⟨m3, ?_, ?_, fun c i hc => by rw [f3 c i hc, f2 c i (by omega), f1 c i hc]⟩
    · rw [e2, ob_some, f2 129 1 (by omega), h1', e3, ob_some]
    · rw [iT, app1, List.append_assoc] at P3; exact P3
theorem exes : ∀ (d n : Nat) (p i : Int) (m : Mem) (bs : List Int), 0 ≤ i → i + (d : Int) = p → p ≤ 1000 → d < n → Pc m bs → bs.length + d ≤ 1000 → ∃ m', Pap_putTerm_L32 p n i m = some m' ∧ Pc m' (bs ++ List.replicate d 120) ∧ fr1 m' m := by
  intro d
  induction d with
  | zero =>
    intro n p i m bs i0 hp hp2 hn P _
    obtain ⟨n', rfl⟩ : ∃ n', n = n' + 1 := ⟨n - 1, by omega⟩
    refine ⟨m, ?_, ?_, fun _ _ _ => rfl⟩
    · rw [Pap_putTerm_L32, s32_id (a := p) (by omega) (by omega), s32_id (a := i) (by omega) (by omega), if_pos (by omega)]
    · rw [List.replicate_zero, List.append_nil]; exact P
  | succ d ih =>
    intro n p i m bs i0 hp hp2 hn P hl
    obtain ⟨n', rfl⟩ : ∃ n', n = n' + 1 := ⟨n - 1, by omega⟩
    obtain ⟨m1, e1, P1, f1⟩ := put_eq P (b := 120) (by omega) (by omega)
    obtain ⟨m2, e2, P2, f2⟩ := ih n' p (i + 1) m1 (bs ++ [120]) (by omega) (by omega) hp2 (by omega) P1 (by rw [List.length_append, List.length_cons, List.length_nil]; omega)
    refine ⟨m2, ?_, ?_, fun c j hc => by rw [f2 c j hc, f1 c j (by omega)]⟩
    · rw [Pap_putTerm_L32, s32_id (a := p) (by omega) (by omega), s32_id (a := i) (by omega) (by omega), if_neg (by omega), e1, ob_some, e2]
    · rw [app1] at P2; rw [List.replicate_succ]; exact P2
def termT (d : Nat) (x y : Int) : List Int := if x = 0 then [] else (if 0 < x then [43] else []) ++ (fracT x y ++ List.replicate d 120)
theorem putTerm_eq {m : Mem} {bs : List Int} (P : Pc m bs) {x d : Int} (h0 : m 129 0 = x) (h1 : m 129 1 = d) (hx : okN x d) {g : Nat} (hg : g ≤ 2) (hl : bs.length + (termT g x d).length ≤ 1000) : ∃ m', Pap_putTerm (g : Int) m = some m' ∧ Pc m' (bs ++ termT g x d) ∧ fr1 m' m := by
  have hx' := hx
  obtain ⟨hx1, hd0, hd1⟩ := hx'
  unfold Pap_putTerm
  rw [h0, s64_0, s64_id (a := x) (by omega) (by omega)]
  by_cases c : x = 0
  · have eT : termT g x d = [] := if_pos c
    rw [eT, List.append_nil, if_neg (fun z => z c)]
    exact ⟨m, rfl, P, fun _ _ _ => rfl⟩
  · have eT : termT g x d = (if 0 < x then [43] else []) ++ (fracT x d ++ List.replicate g 120) := if_neg c
    rw [eT] at hl ⊢
    rw [if_pos c, jn_id]
    rw [List.length_append, List.length_append, List.length_replicate] at hl
    have key : ∀ (m1 : Mem) (b1 : List Int), Pc m1 b1 → m1 129 0 = x → m1 129 1 = d → b1.length + ((fracT x d).length + g) ≤ 1000 → ∃ m', (Pap_putFraction m1).bind (fun m2 => (Pap_putTerm_L32 (g : Int) 2000 0 m2)) = some m' ∧ Pc m' (b1 ++ (fracT x d ++ List.replicate g 120)) ∧ fr1 m' m1 := by
      intro m1 b1 P1 q0 q1 l1
      obtain ⟨m2, e2, P2, f2⟩ := putFraction_eq P1 q0 q1 hx (by omega)
      obtain ⟨m3, e3, P3, f3⟩ := exes g 2000 (g : Int) 0 m2 (b1 ++ fracT x d) (by omega) (by omega) (by omega) (by omega) P2 (by rw [List.length_append]; omega)
      refine ⟨m3, by rw [e2, ob_some, e3], ?_, fun c i hc => by rw [f3 c i hc, f2 c i hc]⟩
      rw [List.append_assoc] at P3; exact P3
    by_cases z : 0 < x
    · rw [if_pos z] at hl
      rw [if_pos z, if_neg (show ¬ x ≤ 0 by omega)]
      rw [List.length_cons, List.length_nil] at hl
      obtain ⟨m1, e1, P1, f1⟩ := put_eq P (b := 43) (by omega) (by omega)
      obtain ⟨m2, e2, P2, f2⟩ := key m1 (bs ++ [43]) P1 (by rw [f1 _ _ (by omega)]; exact h0) (by rw [f1 _ _ (by omega)]; exact h1) (by rw [List.length_append, List.length_cons, List.length_nil]; omega)
      refine ⟨m2, by rw [e1, ob_some]; exact e2, ?_, fun c i hc => by rw [f2 c i hc, f1 c i (by omega)]⟩
      rw [List.append_assoc] at P2; exact P2
    · rw [if_neg z] at hl
      rw [if_neg z, if_pos (show x ≤ 0 by omega), List.nil_append]
      rw [List.length_nil] at hl
      exact key m bs P h0 h1 (by omega)
