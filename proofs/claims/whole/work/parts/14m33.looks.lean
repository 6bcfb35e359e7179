/-! findPeaks and looks() -/
theorem node_step {m0 m : Mem} {A : Int → Int} (v : VA A) (hn : 2 ≤ A 1) (V : SV m0 A) {k : Int} (h0 : 0 ≤ k) (h1 : k ≤ A 0) {s t : Int × Int × Int × Int} (hs : okS s) (ht : okS t) (I : PI m0 A s t m) : ∃ m5 m6 m7, Frac_become 127 (m 118 k) (DD A) m = some m5 ∧ Frac_become 128 k 1 m5 = some m6 ∧ Sta_offerPeak m6 = some m7 ∧ PI m0 A (nodeS A 1 k s) (nodeS A (-1) k t) m7 := by
  have l10 := v.1
  have B1 := (bnd v hn).1
  have Vm := PI_SV V I
  have bd := bounds_node v hn (g := 1) (Or.inl rfl) h0 h1
  have mb := MB_ab' v hn h0 h1
  have e := (Vm.2.2.2.2 k h0 h1).2
  have b118 : b62 (m 118 k) := by unfold ab at mb; exact ⟨by omega, by omega⟩
  have ev : nm (m 118 k) (DD A) = nm (MB A k 1) (2 * DD A) ∧ dn (m 118 k) (DD A) = dn (MB A k 1) (2 * DD A) := by
    rcases MB_even Vm h0 h1 with z | z
    · exact z
    · omega
  have f1 := become_pos (a := 127) (p := m 118 k) (q := DD A) (mem := m) b118 ⟨by omega, by omega⟩ B1.1
  rw [ev.1, ev.2] at f1
  have f2 := become_pos (a := 128) (p := k) (q := 1) (mem := mset (mset m 127 0 (nm (MB A k 1) (2 * DD A))) 127 1 (dn (MB A k 1) (2 * DD A))) ⟨by omega, by omega⟩ ⟨by decide, by decide⟩ (by decide)
  rw [(nm_1 k).1, (nm_1 k).2] at f2
  obtain ⟨m7, e7, J⟩ := put_offers (x := MB A k 1) (d := 2 * DD A) (wn := k) (wd := 1) I hs ht bd.1 (ab_mono mb (by decide))
  exact ⟨_, _, m7, f1, f2, e7, J⟩
theorem peaks_step {m0 m : Mem} {A : Int → Int} (v : VA A) (hn : 2 ≤ A 1) (V : SV m0 A) (n : Nat) {i : Nat} (h1 : (i : Int) < A 0) (I : PI m0 A (pkN A 1 i) (pkN A (-1) i) m) : ∃ m', Sta_findPeaks_L18 (n + 1) (i : Int) m = Sta_findPeaks_L18 n ((i : Int) + 1) m' ∧ PI m0 A (pkN A 1 (i + 1)) (pkN A (-1) (i + 1)) m' := by
  have l10 := v.1
  have os := okS_pkN v hn (g := 1) (Or.inl rfl) i (by omega)
  have ot := okS_pkN v hn (g := -1) (Or.inr rfl) i (by omega)
  have Vm := PI_SV V I
  obtain ⟨m5, m6, m7, e5, e6, e7, J⟩ := node_step v hn V (k := (i : Int)) (by omega) (by omega) os ot I
  have V7 := PI_SV V J
  obtain ⟨m', f, F⟩ := turn_step v hn V (k := (i : Int)) (by omega) h1 os ot J (fun m => Sta_findPeaks_L18 n ((i : Int) + 1) m)
  refine ⟨m', ?_, F⟩
  rw [Sta_findPeaks_L18, Vm.1.1.1, s32_id (a := A 0) (by omega) (by omega), s32_id (a := (i : Int)) (by omega) (by omega), if_neg (by omega), ck_id (by omega) (by omega) (by omega), Vm.2.1, e5, ob_some, e6, ob_some, e7, ob_some, V7.1.1.1, s32_id (a := A 0) (by omega) (by omega), if_neg (by omega)]
  rw [s32_id (a := (i : Int)) (by omega) (by omega)] at f
  exact f
theorem peaks_loop {m0 : Mem} {A : Int → Int} (v : VA A) (hn : 2 ≤ A 1) (V : SV m0 A) : ∀ (d n : Nat) (i : Nat) (m : Mem), (i : Int) + (d : Int) = A 0 → d + 1 < n → PI m0 A (pkN A 1 i) (pkN A (-1) i) m → ∃ m', Sta_findPeaks_L18 n (i : Int) m = some m' ∧ PI m0 A (pk A 1) (pk A (-1)) m' := by
  have l10 := v.1
  intro d
  induction d with
  | zero =>
    intro n i m hi hd I
    obtain ⟨n', rfl⟩ : ∃ n', n = n' + 1 + 1 := ⟨n - 2, by omega⟩
    have os := okS_pkN v hn (g := 1) (Or.inl rfl) i (by omega)
    have ot := okS_pkN v hn (g := -1) (Or.inr rfl) i (by omega)
    have Vm := PI_SV V I
    obtain ⟨m5, m6, m7, e5, e6, e7, J⟩ := node_step v hn V (k := (i : Int)) (by omega) (by omega) os ot I
    have V7 := PI_SV V J
    refine ⟨m7, ?_, ?_⟩
    · rw [Sta_findPeaks_L18, Vm.1.1.1, s32_id (a := A 0) (by omega) (by omega), s32_id (a := (i : Int)) (by omega) (by omega), if_neg (by omega), ck_id (by omega) (by omega) (by omega), Vm.2.1, e5, ob_some, e6, ob_some, e7, ob_some, V7.1.1.1, s32_id (a := A 0) (by omega) (by omega), if_pos (by omega)]
      rw [Sta_findPeaks_L18, V7.1.1.1, s32_id (a := A 0) (by omega) (by omega), s32_id (a := (i : Int) + 1) (by omega) (by omega), if_pos (by omega)]
    · unfold pk
      rw [show (A 0).toNat = i by omega, show A 0 = (i : Int) by omega]
      exact J
  | succ d ih =>
    intro n i m hi hd I
    obtain ⟨n', rfl⟩ : ∃ n', n = n' + 1 := ⟨n - 1, by omega⟩
    obtain ⟨m', e, I'⟩ := peaks_step v hn V n' (i := i) (by omega) I
    obtain ⟨m2, e2, I2⟩ := ih n' (i + 1) m' (by omega) (by omega) I'
    exact ⟨m2, by rw [e, show (i : Int) + 1 = ((i + 1 : Nat) : Int) by omega, e2], I2⟩
theorem findPeaks_eq {m : Mem} {A : Int → Int} (v : VA A) (hn : 2 ≤ A 1) (V : SV m A) (h1 : m 120 3 = 1) (h2 : m 123 3 = -1) : ∃ m', Sta_findPeaks m = some m' ∧ RP m' 120 1 (pk A 1) ∧ RP m' 123 (-1) (pk A (-1)) ∧ SV m' A ∧ (∀ c i, ¬ (120 ≤ c ∧ c ≤ 125) → ¬ (c = 127 ∨ c = 128) → m' c i = m c i) ∧ m' 120 3 = 1 ∧ m' 123 3 = -1 := by
  have l10 := v.1
  unfold Sta_findPeaks
  rw [lt_id, lt_id]
  obtain ⟨m', e, I⟩ := peaks_loop v hn V (A 0).toNat 2000 0 (mset (mset m 120 2 0) 123 2 0) (by omega) (by omega) ⟨⟨by simp [mset, h1], Or.inl ⟨rfl, by simp [mset]⟩⟩, ⟨by simp [mset, h2], Or.inl ⟨rfl, by simp [mset]⟩⟩, fun c i c1 c2 => by rw [mset_if, if_neg (by omega), mset_if, if_neg (by omega)], by simp [mset, h1], by simp [mset, h2]⟩
  exact ⟨m', e, I.1, I.2.1, PI_SV V I, I.2.2.1, I.2.2.2.1, I.2.2.2.2⟩
theorem pk_pos {A : Int → Int} (v : VA A) (hn : 2 ≤ A 1) {g : Int} (hg : g = 1 ∨ g = -1) : (0 < (pk A g).2.1 ∧ (pk A g).2.1 ≤ 200000000000000) ∧ ab (pk A g).1 3000000000000000000 := by
  have l10 := v.1
  have o := okS_pkN v hn hg (A 0).toNat (by omega)
  have g1 := node_ge v hn (g := g) (k := A 0) o
  have ok := okS_node v hn hg (k := A 0) (by omega) (by omega) o
  rcases ok with z | z
  · exact absurd z (by have := g1.1; omega)
  · exact z
/-! the model -/
def QM (m : Mem) (s : Int × Int × Int × Int) : Prop := (s.2.1 = 0 ∧ m 149 16 = 0) ∨ (0 < s.2.1 ∧ (0 < m 149 16 ∧ m 149 16 ≤ 200000000000000) ∧ ab (m 149 15) 3000000000000000000 ∧ m 149 15 * s.2.1 = s.1 * m 149 16 ∧ m 149 17 = s.2.2.1 ∧ m 149 18 = s.2.2.2)
def ftr (m' m : Mem) : Prop := ∀ c i, ¬ (c = 149 ∧ (i = 5 ∨ i = 6 ∨ (15 ≤ i ∧ i ≤ 18))) → m' c i = m c i
theorem tries_eq {m : Mem} {s : Int × Int × Int × Int} {n d p q wn wd : Int} (h : QM m s) (hd : 0 < d) (hq : 0 < q ∧ q ≤ 200000000000000) (hp : ab p 3000000000000000000) (e : p * d = n * q) : ∃ m', Mo_tries p q wn wd m = some m' ∧ QM m' (updS s n d wn wd) ∧ ftr m' m ∧ (∀ c i, ¬ (c = 149 ∧ (15 ≤ i ∧ i ≤ 18)) → m' c i = m c i) := by
  have put : ∃ m', lt (mset m 149 15 p) (fun m1 => lt (mset m1 149 16 q) (fun m2 => lt (mset m2 149 17 wn) (fun m3 => lt (mset m3 149 18 wd) (fun m4 => some m4)))) = some m' ∧ QM m' (n, d, wn, wd) ∧ (∀ c i, ¬ (c = 149 ∧ (15 ≤ i ∧ i ≤ 18)) → m' c i = m c i) := by
    simp only [lt_id]
    refine ⟨_, rfl, Or.inr ⟨hd, ?_⟩, fun c i hc => ?_⟩
    · simp [mset]
      exact ⟨hq, hp, e⟩
    · simp only [mset]
      rw [if_neg (by omega), if_neg (by omega), if_neg (by omega), if_neg (by omega)]
  obtain ⟨m', e', Q, fr⟩ := put
  unfold Mo_tries
  rw [jn_id, e']
  rcases h with ⟨z1, z2⟩ | ⟨z1, z2, z3, z4, z5, z6⟩
  · rw [z2, if_pos rfl, updS_yes (Or.inl z1)]
    exact ⟨m', rfl, Q, fun c i hc => fr c i (by omega), fr⟩
  · unfold ab at z3 hp
    rw [b62_s (x := m 149 16) ⟨by omega, by omega⟩, s64_0, if_neg (by omega), isLess_eq ⟨by omega, by omega⟩ ⟨by omega, by omega⟩ ⟨by omega, by omega⟩ ⟨by omega, by omega⟩, ob_some]
    have key : m 149 15 * q < p * m 149 16 ↔ s.1 * d < n * s.2.1 := by
      have dd := pos2 hd z1
      have qm := pos2 hq.1 z2.1
      have h1 : (m 149 15 * q) * (d * s.2.1) = (s.1 * d) * (q * m 149 16) := by
        have : (m 149 15 * q) * (d * s.2.1) = (m 149 15 * s.2.1) * (q * d) := by grind
        rw [this, z4]; grind
      have h2 : (p * m 149 16) * (d * s.2.1) = (n * s.2.1) * (q * m 149 16) := by
        have : (p * m 149 16) * (d * s.2.1) = (p * d) * (m 149 16 * s.2.1) := by grind
        rw [this, e]; grind
      rw [← lt_mul_iff (a := m 149 15 * q) dd, h1, h2, lt_mul_iff qm]
    by_cases c : s.1 * d < n * s.2.1
    · rw [if_pos (key.mpr c), s32_1, if_1', updS_yes (Or.inr c)]
      exact ⟨m', rfl, Q, fun c i hc => fr c i (by omega), fr⟩
    · rw [if_neg (fun y => c (key.mp y)), s32_0, if_0', updS_no (by intro y; rcases y with y | y; omega; exact c y)]
      exact ⟨m, rfl, Or.inr ⟨z1, z2, z3, z4, z5, z6⟩, fun _ _ _ => rfl, fun _ _ _ => rfl⟩
theorem MV_ftr {m m' : Mem} {A : Int → Int} (V : MV m A) (h : ftr m' m) : MV m' A := by
  obtain ⟨a, b, c⟩ := V
  exact ⟨by rw [← a]; funext i; exact h 150 i (by omega), by rw [h _ _ (by omega)]; exact b, fun k k0 k1 => by rw [h _ _ (by omega), h _ _ (by omega)]; exact c k k0 k1⟩
def QI (m0 : Mem) (s : Int × Int × Int × Int) (m : Mem) : Prop := QM m s ∧ ftr m m0
theorem looks_node {m0 m : Mem} {A : Int → Int} (v : VA A) (hn : 2 ≤ A 1) (V : MV m0 A) {g k r : Int} (hg : g = 1 ∨ g = -1) (h0 : 0 ≤ k) (h1 : k ≤ A 0) {s : Int × Int × Int × Int} (I : QI m0 s m) (hr : r * DD A = MB A k 1 * m0 149 13) : ∃ m', Mo_tries (g * r) (2 * m0 149 13) k 1 m = some m' ∧ QI m0 (nodeS A g k s) m' := by
  have B1 := (bnd v hn).1
  have o := MV_one v hn V
  have rb := ab_div o hr (MB_ab' v hn h0 h1)
  obtain ⟨m', e, Q, f, -⟩ := tries_eq (s := s) (n := g * MB A k 1) (d := 2 * DD A) (wn := k) (wd := 1) I.1 (by omega) (p := g * r) (q := 2 * m0 149 13) ⟨by omega, by omega⟩ (ab_mono (ab_g hg rb) (by decide)) (by
    have : g * r * (2 * DD A) = g * (2 * (r * DD A)) := by clear hr; grind
    rw [this, hr]
    clear this hr
    grind)
  exact ⟨m', e, Q, fun c i hc => by rw [f c i hc, I.2 c i hc]⟩
theorem looks_turn {m0 m13 : Mem} {A : Int → Int} (v : VA A) (hn : 2 ≤ A 1) (V : MV m0 A) {g k r w : Int} (hg : g = 1 ∨ g = -1) (h0 : 0 ≤ k) (h1 : k ≤ A 0) {s : Int × Int × Int × Int} (I : QI m0 s m13) (hr : r * DD A = MB A k 1 * m0 149 13) (hw : w * DD A = CT A k * m0 149 13) (K : Mem → Option Mem) :
    ∃ m', (if s64 (sqA A g k) ≤ s64 0 then K m13 else (if s64 (g * w) ≤ s64 0 then K m13 else (if s64 (sqA A g k * m13 149 13) ≤ s64 (g * w) then K m13 else ((Mo_is ((((g * r) * sqA A g k) * (m13 149 13)) + ((g * w) * (g * w))) (((2 * sqA A g k) * (m13 149 13)) * (m13 149 13)) m13).bind (fun m14 => lt ((m14 149 5)) (fun x15 => lt ((m14 149 6)) (fun x16 => (Mo_is (((k * sqA A g k) * (m14 149 13)) + (g * w)) (sqA A g k * (m14 149 13)) m14).bind (fun m17 => (Mo_tries x15 x16 (m17 149 5) (m17 149 6) m17).bind (fun m18 => K m18))))))))) = K m' ∧ QI m0 (turnS A g k s) m' := by
  have l10 := v.1
  have B1 := (bnd v hn).1
  have o := MV_one v hn V
  have o13 : m13 149 13 = m0 149 13 := I.2 _ _ (by omega)
  have cb := CT_ab v hn (x := k) (by omega)
  have wb := ab_div o hw cb
  have rb := ab_div o hr (MB_ab' v hn h0 h1)
  have z := ab_g hg (ZS_pl v (p := k) (by omega)).2.2.2
  have qb : ab (sqA A g k) 54 := z
  have gw := ab_g hg wb
  have gr := ab_g hg rb
  rw [o13]
  have hgw : (g * w) * DD A = (g * CT A k) * m0 149 13 := by rw [Int.mul_assoc, hw, Int.mul_assoc]
  have hgr : (g * r) * DD A = (g * MB A k 1) * m0 149 13 := by rw [Int.mul_assoc, hr, Int.mul_assoc]
  have wpos : 0 < g * w ↔ 0 < g * CT A k := by
    have a1 := lt_mul_iff (a := 0) (b := g * w) B1.1
    have a2 := lt_mul_iff (a := 0) (b := g * CT A k) o.1
    rw [Int.zero_mul] at a1 a2
    rw [← a1, hgw, a2]
  have wlt : g * w < sqA A g k * m0 149 13 ↔ g * CT A k < sqA A g k * DD A := by
    have a1 := lt_mul_iff (a := g * w) (b := sqA A g k * m0 149 13) B1.1
    have a2 := lt_mul_iff (a := g * CT A k) (b := sqA A g k * DD A) o.1
    rw [← a1, hgw, ← a2]
    have : sqA A g k * m0 149 13 * DD A = sqA A g k * DD A * m0 149 13 := by rw [Int.mul_assoc, Int.mul_comm (m0 149 13), ← Int.mul_assoc]
    rw [this]
  have qo := ab_mul2 qb (b := m0 149 13) (c := 1100000) (by omega) (by omega)
  rw [Int.mul_comm] at qo
  have sq1 : s64 (sqA A g k) = sqA A g k := b62_s (b62_le qb (by decide))
  have sq2 : s64 (g * w) = g * w := b62_s (b62_le gw (by decide))
  have sq3 : s64 (sqA A g k * m0 149 13) = sqA A g k * m0 149 13 := b62_s (b62_le qo (by decide))
  rw [sq1, sq2, sq3, s64_0]
  by_cases c1 : sqA A g k ≤ 0
  · rw [if_pos c1]
    refine ⟨m13, rfl, ?_⟩
    unfold turnS
    rw [if_neg (by omega)]
    exact I
  · rw [if_neg c1]
    by_cases c2 : g * w ≤ 0
    · rw [if_pos c2]
      refine ⟨m13, rfl, ?_⟩
      unfold turnS
      rw [if_neg (by omega)]
      exact I
    · rw [if_neg c2]
      by_cases c3 : sqA A g k * m0 149 13 ≤ g * w
      · rw [if_pos c3]
        refine ⟨m13, rfl, ?_⟩
        unfold turnS
        rw [if_neg (by intro y; have := wlt.mpr y.2.2; omega)]
        exact I
      · rw [if_neg c3]
        have tc : 0 < sqA A g k ∧ 0 < g * CT A k ∧ g * CT A k < sqA A g k * DD A := ⟨by omega, wpos.mp (by omega), wlt.mp (by omega)⟩
        have bt := bounds_turn v hn hg h0 h1 tc.1
        have g2 : (g * w) * (g * w) = w * w := by rcases hg with rfl | rfl <;> grind
        generalize hq : sqA A g k = q at *
        have qd : 0 < q * m0 149 13 := pos2 tc.1 o.1
        have pd1 := mul_b (a := 2 * (q * m0 149 13)) (b := m0 149 13) (A := 118800000) (B := 1100000) (by unfold ab at qo; omega) ⟨by omega, by omega⟩
        have pd0 := pos2 (show 0 < 2 * (q * m0 149 13) by omega) o.1
        have eD : 2 * q * m0 149 13 * m0 149 13 = 2 * (q * m0 149 13) * m0 149 13 := by clear hgw hgr wpos wlt I V hr hw; grind
        have nb : ab ((g * r) * q * m0 149 13 + (g * w) * (g * w)) 3000000000000000000 := by
          have a1 : (g * r) * q * m0 149 13 = (q * m0 149 13) * (g * r) := by clear hgw hgr wpos wlt I V hr hw; grind
          rw [a1]
          have a2 := ab_mul2 gr (b := q * m0 149 13) (c := 59400000) (by omega) (by unfold ab at qo; omega)
          have a3 : ab ((g * w) * (g * w)) 1000000000000000000 := by
            have := ab_mul2 gw (b := g * w) (c := 1000000000) (by omega) (by unfold ab at gw; omega)
            exact ab_mono this (by decide)
          exact ab_mono (ab_add a2 a3) (by decide)
        obtain ⟨m14, e14, f14, r14⟩ := is_frac (mem := m13) (p := (g * r) * q * m0 149 13 + (g * w) * (g * w)) (q := 2 * q * m0 149 13 * m0 149 13) (X := tN A g k) (D := tD A g k) (b62_le nb (by decide)) ⟨by omega, by omega⟩ (by omega) bt.1.1 (by
          unfold tN tD
          rw [hq, g2]
          have a1 : ((g * r) * q * m0 149 13 + w * w) * (2 * q * DD A * DD A) = 2 * q * (((g * r) * DD A) * (q * m0 149 13 * DD A) + (w * DD A) * (w * DD A)) := by clear hgw hgr wpos wlt I V hr hw; grind
          rw [a1, hgr, hw]
          clear hgw hgr wpos wlt I V hr hw a1
          grind)
        rw [e14, ob_some, lt_id, lt_id, r14 149 13 (by omega), o13]
        have kb := mul_b (a := k) (b := q * m0 149 13) (A := 10) (B := 59400000) ⟨by omega, by omega⟩ ⟨by omega, by unfold ab at qo; omega⟩
        have eK : k * q * m0 149 13 = k * (q * m0 149 13) := by rw [Int.mul_assoc]
        obtain ⟨m17, e17, f17, r17⟩ := is_frac (mem := m14) (p := k * q * m0 149 13 + g * w) (q := q * m0 149 13) (X := k * q * DD A + g * CT A k) (D := q * DD A) (by unfold ab at gw; exact ⟨by omega, by omega⟩) (by unfold ab at qo; exact ⟨by omega, by omega⟩) qd bt.2.2.1.1 (by
          have a1 : (k * q * m0 149 13 + g * w) * (q * DD A) = k * q * m0 149 13 * (q * DD A) + q * ((g * w) * DD A) := by clear hgw hgr wpos wlt I V hr hw; grind
          rw [a1, hgw]
          clear hgw hgr wpos wlt I V hr hw a1
          grind)
        rw [e17, ob_some]
        have dt := dn_b (p := tN A g k) bt.1.1
        have nt := nm_ab (q := tD A g k) bt.2.1
        have Q17 : QM m17 s := by
          rcases I.1 with ⟨y1, y2⟩ | ⟨y1, y2, y3, y4, y5, y6⟩
          · exact Or.inl ⟨y1, by rw [r17 _ _ (by omega), r14 _ _ (by omega)]; exact y2⟩
          · exact Or.inr ⟨y1, by rw [r17 _ _ (by omega), r14 _ _ (by omega)]; exact y2, by rw [r17 _ _ (by omega), r14 _ _ (by omega)]; exact y3, by rw [r17 _ _ (by omega), r14 _ _ (by omega), r17 _ _ (by omega), r14 _ _ (by omega)]; exact y4, by rw [r17 _ _ (by omega), r14 _ _ (by omega)]; exact y5, by rw [r17 _ _ (by omega), r14 _ _ (by omega)]; exact y6⟩
        obtain ⟨m18, e18, Q18, f18, -⟩ := tries_eq (n := tN A g k) (d := tD A g k) (wn := m17 149 5) (wd := m17 149 6) Q17 bt.1.1 (p := m14 149 5) (q := m14 149 6) (by rw [f14.2]; omega) (by rw [f14.1]; exact nt) (by rw [f14.1, f14.2]; exact cross_nd _ _)
        rw [e18, ob_some]
        refine ⟨m18, rfl, ?_, fun c i hc => by rw [f18 c i hc, r17 c i (by omega), r14 c i (by omega), I.2 c i hc]⟩
        unfold turnS
        rw [hq, if_pos tc]
        rw [f17.1, f17.2] at Q18
        exact Q18
