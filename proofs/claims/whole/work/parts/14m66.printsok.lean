/-! prints: the model's piece, and both -/
theorem nm_0 {X D : Int} : nm X D = 0 ↔ X = 0 := by
  have h := nm_mul (p := X) (q := D)
  constructor
  · intro z; rw [z, Int.zero_mul] at h; exact h.symm
  · intro z; unfold nm; rw [z, Int.zero_ediv]
theorem prod_0 {w X D o : Int} (hD : 0 < D) (ho : 0 < o) (h : w * D = X * o) : w = 0 ↔ X = 0 := by
  constructor
  · intro z
    rw [z, Int.zero_mul] at h
    rcases Int.mul_eq_zero.mp h.symm with y | y
    · exact y
    · omega
  · intro z
    rw [z, Int.zero_mul] at h
    rcases Int.mul_eq_zero.mp h with y | y
    · exact y
    · omega
theorem v_step {A : Int → Int} (v : VA A) (hn : 2 ≤ A 1) {m : Mem} (V : MV m A) {bs : List Int} (P : Pm m bs) {k : Int} (h0 : 0 ≤ k) (h1 : k < A 0) (hl : bs.length + 21 ≤ 1000) (K : Mem → Option (Int × Mem)) : ∃ r m', Mo_shearBehind k m = some r ∧ (if s64 r = s64 0 then K m else (Mo_fraction r (m 149 13) 1 m).bind (fun m19 => (Mo_sign 120 m19).bind (fun m20 => K m20))) = K m' ∧ Pm m' (bs ++ pcV A k) ∧ fr3 m' m := by
  have l10 := v.1
  have B1 := (bnd v hn).1
  have o := MV_one v hn V
  have ct := CT_ab v hn (x := k) (by omega)
  obtain ⟨-, -, l3, -, -, o2, -⟩ := pc_b v hn h0 h1
  obtain ⟨w, ew, hw⟩ := shearBehind_eq v hn V (x := k) (by omega)
  have wb := ab_div o hw ct
  have w64 : s64 w = w := s64_id (by unfold ab at wb; omega) (by unfold ab at wb; omega)
  have z1 := prod_0 B1.1 o.1 hw
  have z2 := nm_0 (X := CT A k) (D := DD A)
  refine ⟨w, ?_⟩
  rw [w64, s64_0]
  by_cases c : w = 0
  · have x0 : nm (CT A k) (DD A) = 0 := z2.mpr (z1.mp c)
    have eT : pcV A k = [] := by unfold pcV termT; exact if_pos x0
    refine ⟨m, ew, if_pos c, by rw [eT, List.append_nil]; exact P, fun _ _ _ => rfl⟩
  · have x0 : ¬ nm (CT A k) (DD A) = 0 := fun y => c (z1.mpr (z2.mp y))
    have eT : pcV A k = fracP 1 (nm (CT A k) (DD A)) (dn (CT A k) (DD A)) ++ [120] := by
      rw [fracP_1 x0]
      unfold pcV termT
      rw [if_neg x0, List.append_assoc]
      rfl
    rw [eT] at l3 ⊢
    rw [List.length_append, List.length_cons, List.length_nil] at l3
    obtain ⟨m2, e2, P2, f2⟩ := fraction_eq P (p := w) (q := m 149 13) (X := CT A k) (D := DD A) (s := 1) (b62_le wb (by decide)) ⟨by omega, by omega⟩ o.1 B1.1 hw o2 (Or.inr rfl) (by omega)
    obtain ⟨m3, e3, P3, f3⟩ := sign_eq P2 (b := 120) (by rw [List.length_append]; omega) (by omega)
    refine ⟨m3, ew, by rw [if_neg c, e2, ob_some, e3, ob_some], by rw [List.append_assoc] at P3; exact P3, fun c i hc => by rw [f3 c i (by omega), f2 c i hc]⟩
theorem q_step {A : Int → Int} (v : VA A) (hn : 2 ≤ A 1) {m : Mem} (V : MV m A) {bs : List Int} (P : Pm m bs) {k : Int} (h0 : 0 ≤ k) (h1 : k < A 0) (hl : bs.length + 9 ≤ 1000) (K : Mem → Option (Int × Mem)) : ∃ r m', Mo_spreadOn k m = some r ∧ (if s32 r = 0 then K m else (Mo_fraction (s32 (-r)) 2 1 m).bind (fun m16 => (Mo_sign 120 m16).bind (fun m17 => (Mo_sign 120 m17).bind (fun m18 => K m18)))) = K m' ∧ Pm m' (bs ++ pcQ A k) ∧ fr3 m' m := by
  have l10 := v.1
  have z := (ZS_pl v (p := k) (by omega)).2.2.2
  obtain ⟨-, -, -, l4, -, -, o3⟩ := pc_b v hn h0 h1
  have e := spreadOn_eq v V.1 (p := k) (by omega)
  unfold ab at z
  have z2 := nm_0 (X := -ZS A (deF k)) (D := 2)
  refine ⟨ZS A (deF k), ?_⟩
  rw [s32_id (a := ZS A (deF k)) (by omega) (by omega), s32_id (a := -ZS A (deF k)) (by omega) (by omega)]
  by_cases c : ZS A (deF k) = 0
  · have x0 : nm (-ZS A (deF k)) 2 = 0 := z2.mpr (by omega)
    have eT : pcQ A k = [] := by unfold pcQ termT; exact if_pos x0
    refine ⟨m, e, if_pos c, by rw [eT, List.append_nil]; exact P, fun _ _ _ => rfl⟩
  · have x0 : ¬ nm (-ZS A (deF k)) 2 = 0 := fun y => c (by have := z2.mp y; omega)
    have eT : pcQ A k = fracP 1 (nm (-ZS A (deF k)) 2) (dn (-ZS A (deF k)) 2) ++ [120, 120] := by
      rw [fracP_1 x0]
      unfold pcQ termT
      rw [if_neg x0, List.append_assoc]
      rfl
    rw [eT] at l4 ⊢
    rw [List.length_append, List.length_cons, List.length_cons, List.length_nil] at l4
    obtain ⟨m2, e2, P2, f2⟩ := fraction_eq P (p := -ZS A (deF k)) (q := 2) (X := -ZS A (deF k)) (D := 2) (s := 1) ⟨by omega, by omega⟩ ⟨by decide, by decide⟩ (by decide) (by decide) rfl o3 (Or.inr rfl) (by omega)
    obtain ⟨m3, e3, P3, f3⟩ := sign_eq P2 (b := 120) (by rw [List.length_append]; omega) (by omega)
    obtain ⟨m4, e4, P4, f4⟩ := sign_eq P3 (b := 120) (by rw [List.length_append, List.length_append, List.length_cons, List.length_nil]; omega) (by omega)
    refine ⟨m4, e, by rw [if_neg c, e2, ob_some, e3, ob_some, e4, ob_some], by rw [app1, List.append_assoc] at P4; exact P4, fun c i hc => by rw [f4 c i (by omega), f3 c i (by omega), f2 c i hc]⟩
theorem piece_mod {A : Int → Int} (v : VA A) (hn : 2 ≤ A 1) {m : Mem} (V : MV m A) {bs : List Int} (P : Pm m bs) {k : Int} (h0 : 0 ≤ k) (h1 : k < A 0) (hl : bs.length + 100 ≤ 1000) (n : Nat) : ∃ m', Mo_prints_L21 (n + 1) k m = Mo_prints_L21 n (k + 1) m' ∧ Pm m' (bs ++ pieceT A k) ∧ fr3 m' m := by
  have l10 := v.1
  have B1 := (bnd v hn).1
  obtain ⟨l1, l2, l3, l4, o1, o2, o3⟩ := pc_b v hn h0 h1
  have mb := MB_ab' v hn h0 (by omega)
  have h00 : m 150 0 = A 0 := by rw [V.1]
  obtain ⟨m1, e1, P1, f1⟩ := number_eq P h0 (by omega) (by omega)
  obtain ⟨m2, e2, P2, f2⟩ := sign_eq P1 (b := 58) (by rw [List.length_append]; omega) (by omega)
  obtain ⟨m3, e3, P3, f3⟩ := sign_eq P2 (b := 32) (by rw [List.length_append, List.length_append, List.length_cons, List.length_nil]; omega) (by omega)
  rw [app1, List.append_assoc] at P3
  have F3 : fr3 m3 m := fun c i hc => by rw [f3 c i (by omega), f2 c i (by omega), f1 c i (by omega)]
  have V3 : MV m3 A := MV_fr V (fun c i hc => F3 c i (by omega))
  have L3 : (bs ++ (numT k ++ [58, 32])).length ≤ bs.length + 3 := by
    simp only [List.length_append, List.length_cons, List.length_nil]; omega
  have o := MV_one v hn V3
  obtain ⟨w, ew, hw⟩ := momentAt_eq v hn V3 (a := k) (b := 1) (by omega) (by decide)
  have wb := ab_div o hw mb
  obtain ⟨m4, e4, P4, f4⟩ := fraction_eq P3 (p := w) (q := 2 * m3 149 13) (X := MB A k 1) (D := 2 * DD A) (s := 0) (b62_le wb (by decide)) ⟨by omega, by omega⟩ (by omega) (by omega) (by
    have z : w * (2 * DD A) = 2 * (w * DD A) := by clear hw ew; grind
    rw [z, hw]
    clear hw ew z
    grind) o1 (Or.inl rfl) (by rw [fracP_0]; unfold pcM at l2; omega)
  rw [fracP_0, show fracT (nm (MB A k 1) (2 * DD A)) (dn (MB A k 1) (2 * DD A)) = pcM A k from rfl] at P4
  have V4 : MV m4 A := MV_fr V3 (fun c i hc => f4 c i (by omega))
  obtain ⟨r5, m5, a5, e5, P5, f5⟩ := v_step v hn V4 P4 h0 h1 (by rw [List.length_append]; omega) (fun (m12 : Mem) => (Mo_spreadOn k m12).bind (fun r13 => jn (fun (m14 : Mem) => (Mo_sign 59 m14).bind (fun m15 => (Mo_prints_L21 n (k + 1) m15))) (fun (k133 : Mem → Option (Int × Mem)) => if s32 r13 = 0 then ((k133 m12)) else ((Mo_fraction (s32 (-r13)) 2 1 m12).bind (fun m16 => (Mo_sign 120 m16).bind (fun m17 => (Mo_sign 120 m17).bind (fun m18 => (k133 m18))))))))
  have V5 : MV m5 A := MV_fr V4 (fun c i hc => f5 c i (by omega))
  obtain ⟨r6, m6, a6, e6, P6, f6⟩ := q_step v hn V5 P5 h0 h1 (by rw [List.length_append, List.length_append]; omega) (fun (m14 : Mem) => (Mo_sign 59 m14).bind (fun m15 => (Mo_prints_L21 n (k + 1) m15)))
  obtain ⟨m7, e7, P7, f7⟩ := sign_eq P6 (b := 59) (by rw [List.length_append, List.length_append, List.length_append]; omega) (by omega)
  refine ⟨m7, ?_, ?_, fun c i hc => by rw [f7 c i (by omega), f6 c i hc, f5 c i hc, f4 c i hc, F3 c i hc]⟩
  · rw [Mo_prints_L21, h00, s32_id (a := A 0) (by omega) (by omega), s32_id (a := k) (by omega) (by omega), if_neg (by omega), e1, ob_some, e2, ob_some, e3, ob_some, ew, ob_some, e4, ob_some, a5, ob_some, jn_id, e5, a6, ob_some, jn_id, e6, e7, ob_some]
  · have eq : bs ++ (numT k ++ [58, 32]) ++ pcM A k ++ pcV A k ++ pcQ A k ++ [59] = bs ++ pieceT A k := by unfold pieceT; simp
    rw [← eq]; exact P7
theorem prints_mod {A : Int → Int} (v : VA A) (hn : 2 ≤ A 1) {m : Mem} (V : MV m A) (P : Pm m []) : ∃ m', Mo_prints_L21 2000 0 m = some (((txt A (A 0).toNat).length : Int), m') ∧ Pm m' (txt A (A 0).toNat) ∧ fr3 m' m := by
  have l10 := v.1
  obtain ⟨m', e, J1, J2⟩ := loopM (fun n i m => Mo_prints_L21 n i m) (A 0) (fun i m' => Pm m' (txt A i.toNat) ∧ fr3 m' m) (fun m' => some (m' 149 32, m')) 0
    (fun n m' J => by
      show Mo_prints_L21 (n + 1) (A 0) m' = some (m' 149 32, m')
      have h00 : m' 150 0 = A 0 := by rw [J.2 150 0 (by omega), V.1]
      rw [Mo_prints_L21, h00, if_pos (Int.le_refl _)])
    (fun n i m' i0 i1 J => by
      show ∃ m'', Mo_prints_L21 (n + 1) i m' = Mo_prints_L21 n (i + 1) m'' ∧ _
      obtain ⟨J1, J2⟩ := J
      have V' : MV m' A := MV_fr V (fun c i hc => J2 c i (by omega))
      have tl := txt_len v hn i.toNat (by omega)
      obtain ⟨m2, e2, P2, f2⟩ := piece_mod v hn V' J1 i0 i1 (by omega) n
      refine ⟨m2, e2, ?_, fun c j hc => by rw [f2 c j hc, J2 c j hc]⟩
      rw [show (i + 1).toNat = i.toNat + 1 by omega, txt, show ((i.toNat : Nat) : Int) = i by omega]
      exact P2)
    (A 0).toNat 2000 0 m (by omega) (by omega) (by omega) ⟨P, fun _ _ _ => rfl⟩
  have e' : Mo_prints_L21 2000 0 m = some (m' 149 32, m') := e
  rw [J1.1] at e'
  exact ⟨m', e', J1, J2⟩
theorem prints_cls {A : Int → Int} (v : VA A) (hn : 2 ≤ A 1) {m : Mem} (V : SV m A) (hL : m 1 0 = A 0) (P : Pc m []) : ∃ m', BP_prints_L27 2000 0 m = some (((txt A (A 0).toNat).length : Int), m') ∧ Pc m' (txt A (A 0).toNat) ∧ fr4 m' m := by
  have l10 := v.1
  obtain ⟨m', e, J1, J2⟩ := loopM (fun n i m => BP_prints_L27 n i m) (A 0) (fun i m' => Pc m' (txt A i.toNat) ∧ fr4 m' m) (fun m' => some (m' 143 0, m')) 0
    (fun n m' J => by
      show BP_prints_L27 (n + 1) (A 0) m' = some (m' 143 0, m')
      have h00 : m' 1 0 = A 0 := by rw [J.2 1 0 (by omega), hL]
      rw [BP_prints_L27, h00, if_pos (Int.le_refl _)])
    (fun n i m' i0 i1 J => by
      show ∃ m'', BP_prints_L27 (n + 1) i m' = BP_prints_L27 n (i + 1) m'' ∧ _
      obtain ⟨J1, J2⟩ := J
      have h00 : m' 1 0 = A 0 := by rw [J2 1 0 (by omega), hL]
      have V' : SV m' A := SV_only V (fun c i x y => J2 c i (by omega))
      have tl := txt_len v hn i.toNat (by omega)
      obtain ⟨m2, e2, P2, f2⟩ := printPiece_eq v hn V' J1 i0 i1 (by omega)
      refine ⟨m2, ?_, ?_, fun c j hc => by rw [f2 c j hc, J2 c j hc]⟩
      · rw [BP_prints_L27, h00, s32_id (a := A 0) (by omega) (by omega), s32_id (a := i) (by omega) (by omega), if_neg (by omega), e2, ob_some]
      · rw [show (i + 1).toNat = i.toNat + 1 by omega, txt, show ((i.toNat : Nat) : Int) = i by omega]
        exact P2)
    (A 0).toNat 2000 0 m (by omega) (by omega) (by omega) ⟨P, fun _ _ _ => rfl⟩
  have e' : BP_prints_L27 2000 0 m = some (m' 143 0, m') := e
  rw [J1.1] at e'
  exact ⟨m', e', J1, J2⟩
theorem Rel_paper {mem mm : Mem} (R : Rel mem) (T : RPaper mm) (fm : ∀ c i, kept c i → ¬ (c = 144 ∨ c = 167 ∨ (c = 143 ∧ i = 0) ∨ (c = 149 ∧ i = 32)) → mm c i = mem c i) : Rel mm := by
  have h2 : Rel (fun c i => if c = 144 ∨ c = 167 ∨ (c = 143 ∧ i = 0) ∨ (c = 149 ∧ i = 32) then mem c i else mm c i) := by
    refine Rel_frame R (fun c i hk => ?_)
    show (if c = 144 ∨ c = 167 ∨ (c = 143 ∧ i = 0) ∨ (c = 149 ∧ i = 32) then mem c i else mm c i) = mem c i
    by_cases c' : c = 144 ∨ c = 167 ∨ (c = 143 ∧ i = 0) ∨ (c = 149 ∧ i = 32)
    · rw [if_pos c']
    · rw [if_neg c']; exact fm c i hk c'
  obtain ⟨a, b, c, d, e, f, g⟩ := h2
  have q : ∀ c i, ¬ (c = 144 ∨ c = 167 ∨ (c = 143 ∧ i = 0) ∨ (c = 149 ∧ i = 32)) → (if c = 144 ∨ c = 167 ∨ (c = 143 ∧ i = 0) ∨ (c = 149 ∧ i = 32) then mem c i else mm c i) = mm c i := fun c i h => if_neg h
  exact ⟨a, RHist_fr b (fun c i hc => (q c i (by omega)).symm), c, d, T, f, g⟩
theorem ok_prints : OkM BP_prints Mo_prints s32 := by
  intro mem R
  have R0 := R
  obtain ⟨⟨v, rb⟩, -⟩ := R0
  have n4 := v.2.1
  have l10 := v.1
  have b2 := rb.2.1
  unfold BP_prints
  rw [Beam_stands_eq (by omega), ob_some, b2]
  by_cases h1 : 2 ≤ mem 150 1
  · rw [if_pos h1, s32_1, if_1]
    obtain ⟨m2, e2, V, f2⟩ := asItIs_eq v h1 rb
    rw [e2, ob_some, lt_id]
    have V3 : SV (mset m2 143 0 0) (mem 150) := SV_only V (fun c i x y => by rw [mset_if, if_neg (by omega)])
    have P3 : Pc (mset m2 143 0 0) [] := by
      unfold Pc
      rw [mset_here]
      exact Pp_nil _
    obtain ⟨m4, e4, P4, f4⟩ := prints_cls v h1 V3 (by rw [mset_if, if_neg (by omega), f2 1 0 (by omega)]; exact rb.1) P3
    have F4 : ∀ c i, ¬ (c = 144 ∨ c = 145 ∨ c = 129 ∨ (c = 143 ∧ i = 0)) → ¬ (111 ≤ c ∧ c ≤ 118) → ¬ c = 126 → m4 c i = mem c i := fun c i hc h2 h3 => by
      rw [f4 c i hc, mset_if, if_neg (by omega), f2 c i (by omega)]
    have hA4 : m4 150 = mem 150 := by funext i; exact F4 150 i (by omega) (by omega) (by omega)
    obtain ⟨m5, e5, V5, f5⟩ := reactions_eq v h1 hA4
    have V6 : MV (mset m5 149 32 0) (mem 150) := MV_fr V5 (fun c i hc => by rw [mset_if, if_neg (by omega)])
    have P6 : Pm (mset m5 149 32 0) [] := by
      unfold Pm
      rw [mset_here]
      exact Pp_nil _
    obtain ⟨m7, e7, P7, f7⟩ := prints_mod v h1 V6 P6
    refine ⟨_, m4, _, m7, e4, ?_, rfl, ?_⟩
    · unfold Mo_prints
      rw [Mo_stands_eq (by rw [hA4]; omega), hA4, ob_some, if_pos h1, s32_1, if_1, e5, ob_some, lt_id, e7]
    · have F7 : ∀ c i, ¬ (c = 167 ∨ (c = 149 ∧ (i = 32 ∨ i = 5 ∨ i = 6 ∨ i = 13))) → ¬ (153 ≤ c ∧ c ≤ 158) → m7 c i = m4 c i := fun c i hc h2 => by
        rw [f7 c i (by omega), mset_if, if_neg (by omega), f5 c i (by omega) h2]
      have tl := txt_len v h1 (mem 150 0).toNat (by omega)
      generalize txt (mem 150) (mem 150 0).toNat = T at *
      have q143 : m7 143 0 = (T.length : Int) := by rw [F7 143 0 (by omega) (by omega)]; exact P4.1
      have q149 : m7 149 32 = (T.length : Int) := P7.1
      refine Rel_paper R ⟨by rw [q149]; omega, by rw [q143, q149], fun k k0 k1 => ?_⟩ (fun c i hk hc => ?_)
      · rw [q149] at k1
        obtain ⟨k', rfl⟩ := nat_of k0
        have u1 := P4.2 k' (by omega)
        have u2 := P7.2 k' (by omega)
        rw [F7 144 _ (by omega) (by omega)]
        exact ⟨by rw [u1.1, u2.1], u2.2⟩
      · unfold kept at hk
        rw [F7 c i (by omega) (by omega), F4 c i (by omega) (by omega) (by omega)]
  · rw [if_neg h1, s32_0, if_0]
    refine ⟨_, mem, _, mem, rfl, ?_, rfl, R⟩
    unfold Mo_prints
    rw [Mo_stands_eq n4, ob_some, if_neg h1, s32_0, if_0]
