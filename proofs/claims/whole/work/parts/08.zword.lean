theorem sg_J0_length_8abf5 : jSg yJ0_length_8abf5 cJ0_length_8abf5 1 (some .int) 0 := ⟨jt_4 (i := 70) rfl rfl, jt_1 (i := 15) (by decide +kernel) (by decide +kernel), by decide +kernel, by decide +kernel, by decide +kernel⟩ -- 1
theorem sv_J0_length_8abf5 : jSgV yJ0_length_8abf5 := ⟨jt_4 (i := 68) (by decide +kernel) (by decide +kernel), jt_4 (i := 69) (by decide +kernel) (by decide +kernel)⟩
theorem sg_J0_charAt_5068e : jSg yJ0_charAt_5068e cJ0_charAt_5068e 2 (some .char) 1 := ⟨jt_4 (i := 80) rfl rfl, jt_1 (i := 15) (by decide +kernel) (by decide +kernel), by decide +kernel, by decide +kernel, by decide +kernel⟩ -- 2
theorem sv_J0_charAt_5068e : jSgV yJ0_charAt_5068e := ⟨jt_4 (i := 78) (by decide +kernel) (by decide +kernel), jt_4 (i := 79) (by decide +kernel) (by decide +kernel)⟩
theorem sg_J0_coder_7d493 : jSg yJ0_coder_7d493 cJ0_coder_7d493 1 (some .byte) 0 := ⟨jt_4 (i := 74) rfl rfl, jt_1 (i := 15) (by decide +kernel) (by decide +kernel), by decide +kernel, by decide +kernel, by decide +kernel⟩ -- 1
theorem sv_J0_coder_7d493 : jSgV yJ0_coder_7d493 := ⟨jt_4 (i := 72) (by decide +kernel) (by decide +kernel), jt_4 (i := 73) (by decide +kernel) (by decide +kernel)⟩
theorem sg_J0_isLatin1_aae02 : jSg yJ0_isLatin1_aae02 cJ0_isLatin1_aae02 1 (some .boolean) 0 := ⟨jt_4 (i := 84) rfl rfl, jt_1 (i := 15) (by decide +kernel) (by decide +kernel), by decide +kernel, by decide +kernel, by decide +kernel⟩ -- 1
theorem sv_J0_isLatin1_aae02 : jSgV yJ0_isLatin1_aae02 := ⟨jt_4 (i := 82) (by decide +kernel) (by decide +kernel), jt_4 (i := 83) (by decide +kernel) (by decide +kernel)⟩
theorem sg_J0_checkIndex_df160 : jSg yJ0_checkIndex_df160 cJ0_checkIndex_df160 2 none 2 := ⟨jt_4 (i := 90) rfl rfl, jt_1 (i := 15) (by decide +kernel) (by decide +kernel), by decide +kernel, by decide +kernel, by decide +kernel⟩ -- 2
theorem ss_J0_checkIndex_df160 : Cond.static yJ0_checkIndex_df160 ∈ jTW := jt_4 (i := 89) (by decide +kernel) (by decide +kernel)
theorem sg_J1_charAt_3b067 : jSg yJ1_charAt_3b067 cJ1_charAt_3b067 2 (some .char) 2 := ⟨jt_4 (i := 87) rfl rfl, jt_1 (i := 16) (by decide +kernel) (by decide +kernel), by decide +kernel, by decide +kernel, by decide +kernel⟩ -- 2
theorem ss_J1_charAt_3b067 : Cond.static yJ1_charAt_3b067 ∈ jTW := jt_4 (i := 86) (by decide +kernel) (by decide +kernel)
theorem sg_J3_checkIndex_8e157 : jSg yJ3_checkIndex_8e157 cJ3_checkIndex_8e157 3 (some .int) 3 := ⟨jt_4 (i := 95) rfl rfl, jt_1 (i := 17) (by decide +kernel) (by decide +kernel), by decide +kernel, by decide +kernel, by decide +kernel⟩ -- 3
theorem ss_J3_checkIndex_8e157 : Cond.static yJ3_checkIndex_8e157 ∈ jTW := jt_4 (i := 94) (by decide +kernel) (by decide +kernel)
theorem wz_75 : Cond.methodLink RX5 75 yX5_spelled ∈ jTW := jt_4 (i := 54) (by decide +kernel) (by decide +kernel)
theorem wz_79 : Cond.methodLink RX5 79 yX5_spells ∈ jTW := jt_4 (i := 63) (by decide +kernel) (by decide +kernel)
theorem wz_83 : Cond.methodLink RX5 83 yJ0_length_8abf5 ∈ jTW := jt_4 (i := 67) (by decide +kernel) (by decide +kernel)
theorem wz_88 : Cond.methodLink RX5 88 yJ0_charAt_5068e ∈ jTW := jt_4 (i := 77) (by decide +kernel) (by decide +kernel)
theorem wz_335 : Cond.methodLink RJ0 335 yJ0_coder_7d493 ∈ jTW := jt_4 (i := 71) (by decide +kernel) (by decide +kernel)
theorem wz_492 : Cond.methodLink RJ0 492 yJ0_isLatin1_aae02 ∈ jTW := jt_4 (i := 81) (by decide +kernel) (by decide +kernel)
theorem wz_495 : Cond.methodLink RJ0 495 yJ1_charAt_3b067 ∈ jTW := jt_4 (i := 85) (by decide +kernel) (by decide +kernel)
theorem wz_9 : Cond.methodLink RJ1 9 yJ0_checkIndex_df160 ∈ jTW := jt_4 (i := 88) (by decide +kernel) (by decide +kernel)
theorem wz_1059 : Cond.methodLink RJ0 1059 yJ3_checkIndex_8e157 ∈ jTW := jt_4 (i := 93) (by decide +kernel) (by decide +kernel)
theorem wz_f9 : Cond.fieldLink RJ0 9 RJ0 "value" "[B" ∈ jTW := jt_7 (i := 36) (by decide +kernel) (by decide +kernel)
theorem wz_f15 : Cond.fieldLink RJ0 15 RJ0 "coder" "B" ∈ jTW := jt_7 (i := 37) (by decide +kernel) (by decide +kernel)
theorem wz_f38 : Cond.fieldLink RJ0 38 RJ0 "COMPACT_STRINGS" "Z" ∈ jTW := jt_4 (i := 75) (by decide +kernel) (by decide +kernel)
theorem wz_f1053 : Cond.fieldLink RJ0 1053 RJ3 "SIOOBE_FORMATTER" "Ljava/util/function/BiFunction;" ∈ jTW := jt_4 (i := 91) (by decide +kernel) (by decide +kernel)
section JSt
variable {α β : Type} {u : jU} {x : jX} {cc : ByteArray} {own : String} {nL : Nat} {ret : Option FieldType} {rm : Room} {Qf : α → State → Prop} {pc : Nat} {lv : List (Nat × Value)} {st : List Value} {mem : Mem} {o o' : Option α} {a b : Int} {E : β → Option Value × Mem}
abbrev uK (u : jU) : Nat → Nat := u.2.2.2.2.1
abbrev uV (u : jU) : Nat → Nat := u.2.2.2.2.2.1
theorem J_iand0 (G : jG u x cc own nL ret rm) (hd : decode cc pc = .ok (.iand, 1)) {v : Int} (hv : Int32.ofInt a &&& Int32.ofInt b = Int32.ofInt v) (k : J u x nL Qf (pc + 1) lv (vI v :: st) mem o) : J u x nL Qf pc lv (vI b :: vI a :: st) mem o := by
  obtain ⟨p, e, R, s, m, args, below, meth, c, cells, slots⟩ := x
  intro r hr H locs ls hP hS hl
  have k := k r hr H locs ls hP hS hl
  rw [vI, ← hv] at k
  exact lv_iand G.1 G.2.1 hd k
theorem J_i2c0 (G : jG u x cc own nL ret rm) (hd : decode cc pc = .ok (.i2c, 1)) {v : Int} (hv : ((Int32.ofInt a).toUInt32 % 65536).toInt32 = Int32.ofInt v) (k : J u x nL Qf (pc + 1) lv (vI v :: st) mem o) : J u x nL Qf pc lv (vI a :: st) mem o := by
  obtain ⟨p, e, R, s, m, args, below, meth, c, cells, slots⟩ := x
  intro r hr H locs ls hP hS hl
  exact lv_i2c G.1 G.2.1 hd hv (k r hr H locs ls hP hS hl)
theorem J_ishr0 (G : jG u x cc own nL ret rm) (hd : decode cc pc = .ok (.ishr, 1)) {v : Int} (hv : Int32.ofInt a >>> (Int32.ofInt b &&& 31) = Int32.ofInt v) (k : J u x nL Qf (pc + 1) lv (vI v :: st) mem o) : J u x nL Qf pc lv (vI b :: vI a :: st) mem o := by
  obtain ⟨p, e, R, s, m, args, below, meth, c, cells, slots⟩ := x
  intro r hr H locs ls hP hS hl
  have k := k r hr H locs ls hP hS hl
  rw [vI, ← hv] at k
  exact lv_ishr G.1 G.2.1 hd k
theorem vI_0 : vI 0 = .int 0 := congrArg Value.int (by decide)
theorem vI_1 : vI 1 = .int 1 := congrArg Value.int (by decide)
theorem J_compact {idx : Nat} (G : jG u x cc own nL ret rm) (hw : Cond.fieldLink own idx RJ0 "COMPACT_STRINGS" "Z" ∈ jTW) (hd : decode cc pc = .ok (.getstatic idx, 3)) (k : J u x nL Qf (pc + 3) lv (vI 1 :: st) mem o) : J u x nL Qf pc lv st mem o := by
  obtain ⟨p, e, R, s, m, args, below, meth, c, cells, slots⟩ := x
  intro r hr H locs ls hP hS hl
  have k := k r hr H locs ls hP hS hl
  rw [vI_1] at k
  exact va_gets G.1 G.2.1 G.2.2.2.2.2.2.1.2.2.2.2.2.1 hS G.2.2.2.1 (G.2.2.2.2.1 _ hw) (fun _ h => h) hd k
theorem J_fmt {idx : Nat} (G : jG u x cc own nL ret rm) (hw : Cond.fieldLink own idx RJ3 "SIOOBE_FORMATTER" "Ljava/util/function/BiFunction;" ∈ jTW) (hd : decode cc pc = .ok (.getstatic idx, 3)) (k : ∀ v : Value, v.category = 1 → J u x nL Qf (pc + 3) lv (v :: st) mem o) : J u x nL Qf pc lv st mem o := by
  obtain ⟨p, e, R, s, m, args, below, meth, c, cells, slots⟩ := x
  intro r hr H locs ls hP hS hl
  rcases G.2.2.2.2.2.2.1.2.2.2.2.2.2 with h | ⟨t, h⟩
  · exact va_gets G.1 G.2.1 h hS G.2.2.2.1 (G.2.2.2.2.1 _ hw) (fun _ h => h) hd (k .null rfl r hr H locs ls hP hS hl)
  · exact va_gets G.1 G.2.1 h hS G.2.2.2.1 (G.2.2.2.2.1 _ hw) (fun _ h => h) hd (k (.ref t) rfl r hr H locs ls hP hS hl)
theorem J_coderF {idx i : Nat} (G : jG u x cc own nL ret rm) (hi : i < 6) (hw : Cond.fieldLink own idx RJ0 "coder" "B" ∈ jTW) (hd : decode cc pc = .ok (.getfield idx, 3)) (k : J u x nL Qf (pc + 3) lv (vI 0 :: st) mem o) : J u x nL Qf pc lv (.ref (uK u i) :: st) mem o := by
  obtain ⟨p, e, R, s, m, args, below, meth, c, cells, slots⟩ := x
  intro r hr H locs ls hP hS hl
  have k := k r hr H locs ls hP hS hl
  rw [vI_0] at k
  exact vk_getf G.1 G.2.1 (G.2.2.2.2.2.2.1.2.2.2.1.1 i hi).2.1 hS G.2.2.2.1 (G.2.2.2.2.1 _ hw) (fun _ h => h) hd k
theorem J_valueF {idx i : Nat} (G : jG u x cc own nL ret rm) (hi : i < 6) (hw : Cond.fieldLink own idx RJ0 "value" "[B" ∈ jTW) (hd : decode cc pc = .ok (.getfield idx, 3)) (k : J u x nL Qf (pc + 3) lv (.ref (uV u i) :: st) mem o) : J u x nL Qf pc lv (.ref (uK u i) :: st) mem o := by
  obtain ⟨p, e, R, s, m, args, below, meth, c, cells, slots⟩ := x
  intro r hr H locs ls hP hS hl
  exact vk_getf G.1 G.2.1 (G.2.2.2.2.2.2.1.2.2.2.1.1 i hi).2.2.1 hS G.2.2.2.1 (G.2.2.2.2.1 _ hw) (fun _ h => h) hd (k r hr H locs ls hP hS hl)
theorem J_tlen {i : Nat} (G : jG u x cc own nL ret rm) (hi : i < 6) (hd : decode cc pc = .ok (.arraylength, 1)) (k : J u x nL Qf (pc + 1) lv (vI (txL i) :: st) mem o) : J u x nL Qf pc lv (.ref (uV u i) :: st) mem o := by
  obtain ⟨p, e, R, s, m, args, below, meth, c, cells, slots⟩ := x
  intro r hr H locs ls hP hS hl
  have e0 : ∀ i : Nat, i < 6 → Int32.ofNat (jTl.getD i 0) = Int32.ofInt (txL i) := by decide
  exact va_tlen G.1 G.2.1 (G.2.2.2.2.2.2.1.2.2.2.1.1 i hi).2.2.2 hS (e0 i hi) hd (k r hr H locs ls hP hS hl)
theorem txB {i j : Nat} (hi : i < 6) (hj : j < jTl.getD i 0) : Value.int ((jTb.getD i []).getD j 0) = vI (txC i j) := by
  have h : ∀ i : Nat, i < 6 → ∀ j : Nat, j < 7 → j < jTl.getD i 0 → (jTb.getD i []).getD j 0 = Int32.ofInt (txC i j) := by decide
  have h7 : ∀ i, i < 6 → jTl.getD i 0 ≤ 7 := by decide
  exact congrArg Value.int (h i hi j (Nat.lt_of_lt_of_le hj (h7 i hi)) hj)
theorem J_tb {i : Nat} {z : Int} (G : jG u x cc own nL ret rm) (hi : i < 6) (hz : 0 ≤ s32 z ∧ s32 z < txL i) (hd : decode cc pc = .ok (.baload, 1)) (k : J u x nL Qf (pc + 1) lv (vI (txC i (s32 z)) :: st) mem o) : J u x nL Qf pc lv (vI z :: .ref (uV u i) :: st) mem o := by
  obtain ⟨p, e, R, s, m, args, below, meth, c, cells, slots⟩ := x
  intro r hr H locs ls hP hS hl
  have e1 : ∀ i : Nat, i < 6 → txL i = (jTl.getD i 0 : Nat) := by decide
  have e2 := e1 i hi
  rw [e2] at hz
  refine va_tb G.1 G.2.1 (G.2.2.2.2.2.2.1.2.2.2.1.1 i hi).2.2.2 hS (ck_in hz) ?_ hd (k r hr H locs ls hP hS hl)
  show Value.int ((jTb.getD i []).getD (Int32.ofInt z).toNatClampNeg 0) = _
  rw [i32_clamp, txB hi (by omega), Int.toNat_of_nonneg hz.1]
theorem J_ldcS {i : Nat} (G : jG u x cc RX5 nL ret rm) (hi : i < 6) (hd : decode cc pc = .ok (.ldc (jTk.getD i 0), 2)) (k : J u x nL Qf (pc + 2) lv (.ref (uK u i) :: st) mem o) : J u x nL Qf pc lv st mem o := by
  obtain ⟨p, e, R, s, m, args, below, meth, c, cells, slots⟩ := x
  intro r hr H locs ls hP hS hl
  exact va_ldcS G.1 G.2.1 G.2.2.2.1 (G.2.2.2.2.2.2.1.2.2.2.2.1 i hi) hd (k r hr H locs ls hP hS hl)
theorem J_aret {bb : β} {d : Nat} {C : String} (G : jG u x cc own nL (some (.object C)) rm) (hd : decode cc pc = .ok (.areturn, 1)) (hE : E bb = (some (.ref d), mem)) : J u x nL (jQ u x E) pc lv [.ref d] mem (some bb) := by
  obtain ⟨p, e, R, s, m, args, below, meth, cd, cells, slots⟩ := x
  intro r hr H locs ls hP hS hh
  cases hr
  show W p u.1 e R s m args below meth cd H locs cells slots (MQ below (fun _ st oc t => (oc = .returned (E bb).1 ∧ jPic u (E bb).2 t) ∧ va_F (jA (uB u)) st t) args s cells slots (jA (uB u))) (F0 m pc ls [.ref d])
  refine W.aret G.1 G.2.1 G.2.2.2.2.2.2.2.2.1 (Or.inl ⟨C, rfl⟩) (Or.inr ⟨d, rfl⟩) (fun t ht hW => ?_) hS.2.2 hd G.2.2.2.2.2.2.2.1
  obtain ⟨h1, h2⟩ := jEnd G hP hS ht hW
  exact ⟨⟨by rw [hE], by rw [hE]; exact h1⟩, h2⟩
variable {y : MethodName} {cY : ByteArray} {nY : Nat} {rY : Option FieldType} {f l n idx i : Nat} {As stk : List Value} {oc : Option β} {k : β → Option α}
/-- a call on a word -/
theorem J_callX (G : jG u x cc own nL ret rm) (hi : i < 6) (hM : jMet u y cY nY rY (jRm f l) (.ref (uK u i) :: As) mem E oc) (hs : jSg y cY nY rY n) (hv : jSgV y) (hw : Cond.methodLink own idx y ∈ jTW) (hyC : y.cls = "java/lang/String")
    (hR : f + 1 ≤ rm.frames ∧ 8 + (nY + 11) + l ≤ rm.locals) (hstk : stk = As.reverse ++ .ref (uK u i) :: st) (hn : As.length = n) (hcat : (st.map fun v => v.category).sum ≤ 8) (hd : decode cc pc = .ok (.invokevirtual idx, 3))
    (kk : ∀ bb, oc = some bb → J u x nL Qf (pc + 3) lv ((E bb).1.toList ++ st) (E bb).2 (k bb)) : J u x nL Qf pc lv stk mem (oc.bind k) := by
  obtain ⟨p, e, R, s, m, args, below, meth, cd, cells, slots⟩ := x
  intro r hr H locs ls hP hS hh
  cases hoc : oc with
  | none => rw [hoc] at hr; cases hr
  | some bb =>
    rw [hoc] at hr
    obtain ⟨hx, hb, hml, hown, hts, hK, hE, hlk, hrt, hc1, hc2, hRe⟩ := G
    subst hRe
    have hk := kk bb hoc r hr
    refine J_after (a0 := #[]) (bb := bb) (E := E) (u := u) hS (va_runV (As := As) (rest := st) (C := y.cls) (n := n) (b := uK u i) ⟨hx, hb, hml, hown, hts⟩ (hM bb hoc) ⟨callB_of n hts (jTW_good hs.1) rfl rfl rfl (hts _ hs.2.1) (hts _ hw) hs.2.2 hR, hts _ hv.1, hts _ hv.2⟩ ⟨jPic.blind, ?_, ?_⟩ rfl hn hh.1 hstk ?_ hd ⟨hc1, hc2⟩) (fun H1 locs1 hP1 hS1 => hk H1 locs1 ls hP1 hS1 hh)
    · rw [hyC]; exact vk_recv hE.2.2.2.1 hi hS
    · exact jPre (e := e) (below := below) (As := .ref (uK u i) :: As) ⟨hx, hb, hml, hown, hts, hK, hE, hlk, hrt, hc1, hc2, rfl⟩ hP hS
    · show 2 * 0 + _ ≤ 8; omega
theorem J_callS2 (G : jG u x cc own nL ret rm) (hM : jMet u y cY nY rY (jRm f l) As mem E oc) (hs : jSg y cY nY rY n) (hv : Cond.static y ∈ jTW) (hw : Cond.methodLink own idx y ∈ jTW)
    (hR : f + 1 ≤ rm.frames ∧ 8 + (nY + 11) + l ≤ rm.locals) (hstk : stk = As.reverse ++ st) (hn : As.length = n) (hcat : (st.map fun v => v.category).sum ≤ 8) (hd : decode cc pc = .ok (.invokestatic idx, 3))
    (kk : ∀ bb, oc = some bb → J u x nL Qf (pc + 3) lv ((E bb).1.toList ++ st) (E bb).2 (k bb)) : J u x nL Qf pc lv stk mem (oc.bind k) := by
  cases hoc : oc with
  | none => exact J_none
  | some bb =>
    have h := J_callS (k := fun _ => k bb) (oc := some bb) (E := fun _ => E bb) G (fun b hb => by cases hb; exact hM bb hoc) hs hv hw hR hstk hn hcat hd (fun _ => kk bb hoc)
    exact h
end JSt
/-! the JDK's own methods of a word -/
theorem mJ0_isLatin1 (u : jU) {i : Nat} (hi : i < 6) (mem : Mem) : jMet u yJ0_isLatin1_aae02 cJ0_isLatin1_aae02 1 (some .boolean) (jRm 0 0) [.ref (uK u i)] mem (EpI mem) (some 1) := by
  refine jMet_of (by decide +kernel) (Nat.le_of_ble_eq_true rfl) (fun x G => ?_)
  show J u x _ (jQ u x (EpI mem)) 0 [(0, .ref (uK u i))] [] mem _
  refine J_compact G wz_f38 dJ0_isLatin1_aae02_0 ?_
  have h := J_if_eq (o := (none : Option Int)) (o' := some 1) 17 G dJ0_isLatin1_aae02_3 (by decide) J_none (a := 1) (st := []) (lv := [(0, .ref (uK u i))]) (mem := mem) (Qf := jQ u x (EpI mem)) ?_
  · exact h
  refine J_aload_nX G 0 dJ0_isLatin1_aae02_6 rfl ?_
  refine J_coderF G hi wz_f15 dJ0_isLatin1_aae02_7 ?_
  have h := J_if_ne (o := (none : Option Int)) (o' := some 1) 17 G dJ0_isLatin1_aae02_10 (by decide) J_none (a := 0) (st := []) (lv := [(0, .ref (uK u i))]) (mem := mem) (Qf := jQ u x (EpI mem)) ?_
  · exact h
  refine J_iconst G dJ0_isLatin1_aae02_13 ?_
  refine J_goto 18 G dJ0_isLatin1_aae02_14 (by decide) ?_
  exact J_zret G dJ0_isLatin1_aae02_18 (by decide) rfl
theorem mJ0_coder (u : jU) {i : Nat} (hi : i < 6) (mem : Mem) : jMet u yJ0_coder_7d493 cJ0_coder_7d493 1 (some .byte) (jRm 0 0) [.ref (uK u i)] mem (EpI mem) (some 0) := by
  refine jMet_of (by decide +kernel) (Nat.le_of_ble_eq_true rfl) (fun x G => ?_)
  show J u x _ (jQ u x (EpI mem)) 0 [(0, .ref (uK u i))] [] mem _
  refine J_compact G wz_f38 dJ0_coder_7d493_0 ?_
  have h := J_if_eq (o := (none : Option Int)) (o' := some 0) 13 G dJ0_coder_7d493_3 (by decide) J_none (a := 1) (st := []) (lv := [(0, .ref (uK u i))]) (mem := mem) (Qf := jQ u x (EpI mem)) ?_
  · exact h
  refine J_aload_nX G 0 dJ0_coder_7d493_6 rfl ?_
  refine J_coderF G hi wz_f15 dJ0_coder_7d493_7 ?_
  refine J_goto 14 G dJ0_coder_7d493_10 (by decide) ?_
  exact J_zret G dJ0_coder_7d493_14 (by decide) rfl
theorem mJ0_length (u : jU) {i : Nat} (hi : i < 6) (mem : Mem) : jMet u yJ0_length_8abf5 cJ0_length_8abf5 1 (some .int) (jRm 1 40) [.ref (uK u i)] mem (EpI mem) (some (txL i)) := by
  refine jMet_of (by decide +kernel) (Nat.le_of_ble_eq_true rfl) (fun x G => ?_)
  show J u x _ (jQ u x (EpI mem)) 0 [(0, .ref (uK u i))] [] mem _
  refine J_aload_nX G 0 dJ0_length_8abf5_0 rfl ?_
  refine J_valueF G hi wz_f9 dJ0_length_8abf5_1 ?_
  refine J_tlen G hi dJ0_length_8abf5_4 ?_
  refine J_aload_nX G 0 dJ0_length_8abf5_5 rfl ?_
  refine J_callX (k := fun (r : Int) => (some (txL i) : Option Int)) (oc := some 0) (As := []) G hi (mJ0_coder u hi mem) sg_J0_coder_7d493 sv_J0_coder_7d493 wz_335 rfl ⟨by decide, by decide⟩ rfl rfl (Nat.le_of_ble_eq_true rfl) dJ0_length_8abf5_6 ?_
  intro bb hbb
  cases hbb
  show J u x _ (jQ u x (EpI mem)) _ _ [vI 0, vI (txL i)] mem _
  have e0 : ∀ i : Nat, i < 6 → Int32.ofInt (txL i) >>> (Int32.ofInt 0 &&& 31) = Int32.ofInt (txL i) := by decide
  refine J_ishr0 G dJ0_length_8abf5_9 (e0 i hi) ?_
  exact J_iret G dJ0_length_8abf5_10 rfl
def jd_check (a n : Int) : Option Int := if s32 a < 0 then none else (if s32 a < s32 n then some a else none)
theorem mJ3_checkIndex (u : jU) (a n : Int) (v : Value) (hv : v.category = 1) (mem : Mem) : jMet u yJ3_checkIndex_8e157 cJ3_checkIndex_8e157 3 (some .int) (jRm 0 0) [vI a, vI n, v] mem (EpI mem) (jd_check a n) := by
  refine jMet_of (by decide +kernel) (by cases v <;> first | exact Nat.le_of_ble_eq_true rfl | (simp [Value.category] at hv)) (fun x G => ?_)
  have e0 : lv_args 0 [vI a, vI n, v] = [(0, vI a), (1, vI n), (2, v)] := rfl
  rw [e0]
  unfold jd_check
  refine J_iload_n G 0 dJ3_checkIndex_8e157_0 rfl ?_
  refine J_if_lt 9 G dJ3_checkIndex_8e157_1 (by decide) J_none ?_
  refine J_iload_n G 0 dJ3_checkIndex_8e157_4 rfl ?_
  refine J_iload_n G 1 dJ3_checkIndex_8e157_5 rfl ?_
  refine J_icmp_lt 16 G dJ3_checkIndex_8e157_6 (by decide) ?_ J_none
  refine J_iload_n G 0 dJ3_checkIndex_8e157_16 rfl ?_
  exact J_iret G dJ3_checkIndex_8e157_17 rfl
theorem mJ0_checkIndex (u : jU) (a n : Int) (mem : Mem) : jMet u yJ0_checkIndex_df160 cJ0_checkIndex_df160 2 none (jRm 1 40) [vI a, vI n] mem EwV ((jd_check a n).bind (fun _ => some mem)) := by
  refine jMet_of (by decide +kernel) (Nat.le_of_ble_eq_true rfl) (fun x G => ?_)
  show J u x _ (jQ u x EwV) 0 [(0, vI a), (1, vI n)] [] mem _
  refine J_iload_n G 0 dJ0_checkIndex_df160_0 rfl ?_
  refine J_iload_n G 1 dJ0_checkIndex_df160_1 rfl ?_
  refine J_fmt G wz_f1053 dJ0_checkIndex_df160_2 (fun v hv => ?_)
  refine J_cSpI (As := [vI a, vI n, v]) G (mJ3_checkIndex u a n v hv mem) sg_J3_checkIndex_8e157 ss_J3_checkIndex_8e157 wz_1059 ⟨by decide, by decide⟩ rfl rfl (Nat.le_of_ble_eq_true rfl) dJ0_checkIndex_df160_5 ?_
  intro r
  refine J_pop G dJ0_checkIndex_df160_8 rfl ?_
  exact J_vret G dJ0_checkIndex_df160_9 rfl
theorem jd_chk {i : Nat} (hi : i < 6) (z : Int) : jd_check z (txL i) = if 0 ≤ s32 z ∧ s32 z < txL i then some z else none := by
  have e : ∀ i : Nat, i < 6 → s32 (txL i) = txL i := by decide
  unfold jd_check
  rw [e i hi]
  by_cases h1 : s32 z < 0
  · rw [if_pos h1, if_neg (by omega)]
  · rw [if_neg h1]
    by_cases h2 : s32 z < txL i
    · rw [if_pos h2, if_pos (by omega)]
    · rw [if_neg h2, if_neg (by omega)]
theorem tx_and : ∀ i : Nat, i < 6 → ∀ j : Nat, j < 7 → (j : Int) < txL i → (Int32.ofInt (txC i j) &&& Int32.ofInt 255 = Int32.ofInt (txC i j) ∧ ((Int32.ofInt (txC i j)).toUInt32 % 65536).toInt32 = Int32.ofInt (txC i j) ∧ narrow .char (vI (txC i j)) = vI (txC i j)) := by decide
theorem tx_at {i : Nat} {z : Int} (hi : i < 6) (h : 0 ≤ s32 z ∧ s32 z < txL i) : Int32.ofInt (txC i (s32 z)) &&& Int32.ofInt 255 = Int32.ofInt (txC i (s32 z)) ∧ ((Int32.ofInt (txC i (s32 z))).toUInt32 % 65536).toInt32 = Int32.ofInt (txC i (s32 z)) ∧ narrow .char (vI (txC i (s32 z))) = vI (txC i (s32 z)) := by
  have h7 : ∀ i : Nat, i < 6 → txL i ≤ 7 := by decide
  have h8 := h7 i hi
  obtain ⟨j, hj⟩ : ∃ j : Nat, s32 z = (j : Int) := ⟨(s32 z).toNat, (Int.toNat_of_nonneg h.1).symm⟩
  rw [hj] at h ⊢
  exact tx_and i hi j (by omega) h.2
theorem mJ1_charAt (u : jU) {i : Nat} (hi : i < 6) (z : Int) (mem : Mem) : jMet u yJ1_charAt_3b067 cJ1_charAt_3b067 2 (some .char) (jRm 2 70) [.ref (uV u i), vI z] mem (EpI mem) (jd_char i z) := by
  refine jMet_of (by decide +kernel) (Nat.le_of_ble_eq_true rfl) (fun x G => ?_)
  show J u x _ (jQ u x (EpI mem)) 0 [(0, .ref (uV u i)), (1, vI z)] [] mem _
  have e1 : jd_char i z = ((jd_check z (txL i)).bind (fun _ => some mem)).bind (fun _ => jd_char i z) := by
    rw [jd_chk hi]
    unfold jd_char
    by_cases h : 0 ≤ s32 z ∧ s32 z < txL i
    · simp [h]
    · simp [h]
  rw [e1]
  refine J_iload_n G 1 dJ1_charAt_3b067_0 rfl ?_
  refine J_aload_nX G 0 dJ1_charAt_3b067_1 rfl ?_
  refine J_tlen G hi dJ1_charAt_3b067_2 ?_
  refine J_callS2 (As := [vI z, vI (txL i)]) (E := EwV) G (mJ0_checkIndex u z (txL i) mem) sg_J0_checkIndex_df160 ss_J0_checkIndex_df160 wz_9 ⟨by decide, by decide⟩ rfl rfl (Nat.le_of_ble_eq_true rfl) dJ1_charAt_3b067_3 ?_
  intro m hm
  rw [jd_chk hi] at hm
  by_cases h : 0 ≤ s32 z ∧ s32 z < txL i
  · rw [if_pos h] at hm
    cases hm
    show J u x _ (jQ u x (EpI mem)) _ _ [] mem _
    obtain ⟨g1, g2, g3⟩ := tx_at hi h
    have e2 : jd_char i z = some (txC i (s32 z)) := by unfold jd_char; rw [if_pos h]
    rw [e2]
    refine J_aload_nX G 0 dJ1_charAt_3b067_6 rfl ?_
    refine J_iload_n G 1 dJ1_charAt_3b067_7 rfl ?_
    refine J_tb G hi h dJ1_charAt_3b067_8 ?_
    refine J_sipush G dJ1_charAt_3b067_9 (by decide) ?_
    refine J_iand0 G dJ1_charAt_3b067_12 g1 ?_
    refine J_i2c0 G dJ1_charAt_3b067_13 g2 ?_
    exact J_zret G dJ1_charAt_3b067_14 g3 rfl
  · rw [if_neg h] at hm
    cases hm
theorem mJ0_charAt (u : jU) {i : Nat} (hi : i < 6) (z : Int) (mem : Mem) : jMet u yJ0_charAt_5068e cJ0_charAt_5068e 2 (some .char) (jRm 3 100) [.ref (uK u i), vI z] mem (EpI mem) (jd_char i z) := by
  refine jMet_of (by decide +kernel) (Nat.le_of_ble_eq_true rfl) (fun x G => ?_)
  show J u x _ (jQ u x (EpI mem)) 0 [(0, .ref (uK u i)), (1, vI z)] [] mem _
  have e1 : jd_char i z = (some (1 : Int)).bind (fun r => if s32 r = 0 then none else (jd_char i z).bind (fun r => some r)) := by
    show _ = if s32 1 = 0 then none else (jd_char i z).bind (fun r => some r)
    rw [if_neg (by decide)]
    cases jd_char i z <;> rfl
  rw [e1]
  refine J_aload_nX G 0 dJ0_charAt_5068e_0 rfl ?_
  refine J_callX (As := []) (E := EpI mem) G hi (mJ0_isLatin1 u hi mem) sg_J0_isLatin1_aae02 sv_J0_isLatin1_aae02 wz_492 rfl ⟨by decide, by decide⟩ rfl rfl (Nat.le_of_ble_eq_true rfl) dJ0_charAt_5068e_1 ?_
  intro r hr
  show J u x _ (jQ u x (EpI mem)) _ _ [vI r] mem _
  refine J_if_eq 16 G dJ0_charAt_5068e_4 (by decide) J_none ?_
  refine J_aload_nX G 0 dJ0_charAt_5068e_7 rfl ?_
  refine J_valueF G hi wz_f9 dJ0_charAt_5068e_8 ?_
  refine J_iload_n G 1 dJ0_charAt_5068e_11 rfl ?_
  refine J_callS2 (As := [.ref (uV u i), vI z]) (E := EpI mem) G (mJ1_charAt u hi z mem) sg_J1_charAt_3b067 ss_J1_charAt_3b067 wz_495 ⟨by decide, by decide⟩ rfl rfl (Nat.le_of_ble_eq_true rfl) dJ0_charAt_5068e_12 ?_
  intro r2 hr2
  show J u x _ (jQ u x (EpI mem)) _ _ [vI r2] mem _
  unfold jd_char at hr2
  by_cases h : 0 ≤ s32 z ∧ s32 z < txL i
  · rw [if_pos h] at hr2
    cases hr2
    exact J_zret G dJ0_charAt_5068e_15 (tx_at hi h).2.2 rfl
  · rw [if_neg h] at hr2
    cases hr2
/-! the reader's words -/
theorem mX5_spelled (u : jU) (w : Int) (mem : Mem) : jMet u yX5_spelled cX5_spelled 1 (some (.object "java/lang/String")) (jRm 0 0) [vI w] mem (fun (i : Nat) => (some (.ref (uK u i)), mem)) (Rd_spelled w) := by
  refine jMet_of (by decide +kernel) (Nat.le_of_ble_eq_true rfl) (fun x G => ?_)
  unfold Rd_spelled
  show J u x _ (jQ u x (fun (i : Nat) => (some (.ref (uK u i)), mem))) 0 [(0, vI w)] [] mem _
  refine J_iload_n G 0 dX5_spelled_0 rfl ?_
  refine J_split (fun h => ?_) (fun h0 => ?_)
  · refine J_tableIn (off := 35) 36 G dX5_spelled_1 h (by decide) (by decide) (by decide) (by decide) ?_
    refine J_ldcS (i := 0) G (by decide) dX5_spelled_36 ?_
    exact J_aret G dX5_spelled_38 rfl
  refine J_split (fun h => ?_) (fun h1 => ?_)
  · refine J_tableIn (off := 38) 39 G dX5_spelled_1 h (by decide) (by decide) (by decide) (by decide) ?_
    refine J_ldcS (i := 1) G (by decide) dX5_spelled_39 ?_
    exact J_aret G dX5_spelled_41 rfl
  refine J_split (fun h => ?_) (fun h2 => ?_)
  · refine J_tableIn (off := 41) 42 G dX5_spelled_1 h (by decide) (by decide) (by decide) (by decide) ?_
    refine J_ldcS (i := 2) G (by decide) dX5_spelled_42 ?_
    exact J_aret G dX5_spelled_44 rfl
  refine J_split (fun h => ?_) (fun h3 => ?_)
  · refine J_tableIn (off := 44) 45 G dX5_spelled_1 h (by decide) (by decide) (by decide) (by decide) ?_
    refine J_ldcS (i := 3) G (by decide) dX5_spelled_45 ?_
    exact J_aret G dX5_spelled_47 rfl
  refine J_split (fun h => ?_) (fun h4 => ?_)
  · refine J_tableIn (off := 47) 48 G dX5_spelled_1 h (by decide) (by decide) (by decide) (by decide) ?_
    refine J_ldcS (i := 4) G (by decide) dX5_spelled_48 ?_
    exact J_aret G dX5_spelled_50 rfl
  · refine J_tableOut 51 G dX5_spelled_1 (by omega) (by decide) ?_
    refine J_ldcS (i := 5) G (by decide) dX5_spelled_51 ?_
    exact J_aret G dX5_spelled_53 rfl
theorem spelled_lt {w : Int} {i : Nat} (h : Rd_spelled w = some i) : i < 6 := by
  unfold Rd_spelled at h
  by_cases h0 : s32 w = 0
  · rw [if_pos h0] at h; cases h; decide
  rw [if_neg h0] at h
  by_cases h0 : s32 w = 1
  · rw [if_pos h0] at h; cases h; decide
  rw [if_neg h0] at h
  by_cases h0 : s32 w = 2
  · rw [if_pos h0] at h; cases h; decide
  rw [if_neg h0] at h
  by_cases h0 : s32 w = 3
  · rw [if_pos h0] at h; cases h; decide
  rw [if_neg h0] at h
  by_cases h0 : s32 w = 4
  · rw [if_pos h0] at h; cases h; decide
  rw [if_neg h0] at h
  cases h; decide
theorem jRd_spells_L {u : jU} {x : jX} (G : jG u x cX5_spells RX5 5 (some .boolean) (jRm 4 140)) (p0 p1 : Int) {w : Nat} (hw : w < 6) (mem : Mem) : ∀ (n : Nat) (i : Int), J u x 5 (jQ u x (EpI mem)) 15 [(0, vR (uB u) 131), (1, vI p0), (2, vI p1), (3, .ref (uK u w)), (4, vI i)] [] mem (Rd_spells_L p0 p1 w mem n i) := by
  intro n
  induction n with
  | zero => intro i; exact J_none
  | succ n ih =>
    intro i
    rw [Rd_spells_L]
    refine J_iload G 4 dX5_spells_15 rfl ?_
    refine J_iload_n G 2 dX5_spells_17 rfl ?_
    refine J_icmp_ge 47 G dX5_spells_18 (by decide) ?_ ?_
    · refine J_iconst G dX5_spells_47 ?_
      exact J_zret G dX5_spells_48 (by decide) rfl
    · refine J_aload_n G 0 dX5_spells_21 rfl ?_
      refine J_getR (d := 141) (k := 2) G cls_5 wf_X5_18 kd_131 rfl rfl dX5_spells_22 ?_
      refine J_iload G 4 dX5_spells_25 rfl ?_
      refine J_bald G kd_141 ln_141 dX5_spells_27 ?_
      refine J_aload_nX G 3 dX5_spells_28 rfl ?_
      refine J_iload G 4 dX5_spells_29 rfl ?_
      refine J_iload_n G 1 dX5_spells_31 rfl ?_
      refine J_isub G dX5_spells_32 ?_
      refine J_callX (As := [vI (i - p0)]) (E := EpI mem) G hw (mJ0_charAt u hw (i - p0) mem) sg_J0_charAt_5068e sv_J0_charAt_5068e wz_88 rfl ⟨by decide, by decide⟩ rfl rfl (Nat.le_of_ble_eq_true rfl) dX5_spells_33 ?_
      intro r hr
      show J u x 5 (jQ u x (EpI mem)) _ _ [vI r, vI (mem 141 (s32 i))] mem _
      refine J_icmp_eq 41 G dX5_spells_36 (by decide) ?_ ?_
      · refine J_iinc (lv' := [(4, vI (i + 1)), (0, vR (uB u) 131), (1, vI p0), (2, vI p1), (3, .ref (uK u w))]) G 4 dX5_spells_41 rfl (by decide) rfl ?_
        refine J_goto 15 G dX5_spells_44 (by decide) ?_
        refine J_lv [1, 2, 3, 4, 0] rfl ?_
        exact ih (i + 1)
      · refine J_iconst G dX5_spells_39 ?_
        exact J_zret G dX5_spells_40 (by decide) rfl
theorem mX5_spells (u : jU) (p0 p1 : Int) {w : Nat} (hw : w < 6) (mem : Mem) : jMet u yX5_spells cX5_spells 5 (some .boolean) (jRm 4 140) [vR (uB u) 131, vI p0, vI p1, .ref (uK u w)] mem (EpI mem) (Rd_spells p0 p1 w mem) := by
  refine jMet_of (by decide +kernel) (Nat.le_of_ble_eq_true rfl) (fun x G => ?_)
  show J u x 5 (jQ u x (EpI mem)) 0 [(0, vR (uB u) 131), (1, vI p0), (2, vI p1), (3, .ref (uK u w))] [] mem _
  have e1 : Rd_spells p0 p1 w mem = (some (txL w)).bind (fun r => if s32 r = s32 (p1 - p0) then Rd_spells_L p0 p1 w mem 2000 p0 else some 0) := rfl
  rw [e1]
  refine J_aload_nX G 3 dX5_spells_0 rfl ?_
  refine J_callX (As := []) (E := EpI mem) G hw (mJ0_length u hw mem) sg_J0_length_8abf5 sv_J0_length_8abf5 wz_83 rfl ⟨by decide, by decide⟩ rfl rfl (Nat.le_of_ble_eq_true rfl) dX5_spells_1 ?_
  intro r hr
  show J u x 5 (jQ u x (EpI mem)) _ _ [vI r] mem _
  refine J_iload_n G 2 dX5_spells_4 rfl ?_
  refine J_iload_n G 1 dX5_spells_5 rfl ?_
  refine J_isub G dX5_spells_6 ?_
  refine J_icmp_eq 12 G dX5_spells_7 (by decide) ?_ ?_
  · refine J_iload_n G 1 dX5_spells_12 rfl ?_
    refine J_istore (lv' := [(4, vI p0), (0, vR (uB u) 131), (1, vI p0), (2, vI p1), (3, .ref (uK u w))]) G dX5_spells_13 (by decide) rfl ?_
    refine J_lv [1, 2, 3, 4, 0] rfl ?_
    exact jRd_spells_L G p0 p1 hw mem 2000 p0
  · refine J_iconst G dX5_spells_10 ?_
    exact J_zret G dX5_spells_11 (by decide) rfl
theorem jRd_wordWithin_L {u : jU} {x : jX} (G : jG u x cX5_wordWithin RX5 4 (some .int) (jRm 5 164)) (p0 p1 : Int) (mem : Mem) : ∀ (n : Nat) (w : Int), J u x 4 (jQ u x (EpI mem)) 2 [(0, vR (uB u) 131), (1, vI p0), (2, vI p1), (3, vI w)] [] mem (Rd_wordWithin_L p0 p1 mem n w) := by
  intro n
  induction n with
  | zero => intro w; exact J_none
  | succ n ih =>
    intro w
    rw [Rd_wordWithin_L]
    refine J_iload_n G 3 dX5_wordWithin_2 rfl ?_
    refine J_bipush G dX5_wordWithin_3 (by decide) ?_
    refine J_icmp_ge 29 G dX5_wordWithin_5 (by decide) ?_ ?_
    · refine J_iconst G dX5_wordWithin_29 ?_
      exact J_iret G dX5_wordWithin_30 rfl
    · refine J_aload_n G 0 dX5_wordWithin_8 rfl ?_
      refine J_iload_n G 1 dX5_wordWithin_9 rfl ?_
      refine J_iload_n G 2 dX5_wordWithin_10 rfl ?_
      refine J_iload_n G 3 dX5_wordWithin_11 rfl ?_
      refine J_callS2 (As := [vI w]) (E := fun (i : Nat) => (some (.ref (uK u i)), mem)) G (mX5_spelled u w mem) sg_X5_spelled ss_X5_spelled wz_75 ⟨by decide, by decide⟩ rfl rfl (Nat.le_of_ble_eq_true rfl) dX5_wordWithin_12 ?_
      intro i hi
      have hi := spelled_lt hi
      show J u x 4 (jQ u x (EpI mem)) _ _ [.ref (uK u i), vI p1, vI p0, vR (uB u) 131] mem _
      refine J_cVpI (As := [vI p0, vI p1, .ref (uK u i)]) G (mX5_spells u p0 p1 hi mem) sg_X5_spells sv_X5_spells wz_79 cls_5 kd_131 rfl ⟨by decide, by decide⟩ rfl rfl (Nat.le_of_ble_eq_true rfl) dX5_wordWithin_15 ?_
      intro r
      refine J_if_eq 23 G dX5_wordWithin_18 (by decide) ?_ ?_
      · refine J_iinc (lv' := [(3, vI (w + 1)), (0, vR (uB u) 131), (1, vI p0), (2, vI p1)]) G 3 dX5_wordWithin_23 rfl (by decide) rfl ?_
        refine J_goto 2 G dX5_wordWithin_26 (by decide) ?_
        refine J_lv [1, 2, 3, 0] rfl ?_
        exact ih (w + 1)
      · refine J_iload_n G 3 dX5_wordWithin_21 rfl ?_
        exact J_iret G dX5_wordWithin_22 rfl
theorem mX5_wordWithin (u : jU) (p0 p1 : Int) (mem : Mem) : jMet u yX5_wordWithin cX5_wordWithin 4 (some .int) (jRm 5 164) [vR (uB u) 131, vI p0, vI p1] mem (EpI mem) (Rd_wordWithin p0 p1 mem) := by
  refine jMet_of (by decide +kernel) (Nat.le_of_ble_eq_true rfl) (fun x G => ?_)
  show J u x 4 (jQ u x (EpI mem)) 0 [(0, vR (uB u) 131), (1, vI p0), (2, vI p1)] [] mem _
  unfold Rd_wordWithin
  refine J_iconst G dX5_wordWithin_0 ?_
  refine J_istore_n (lv' := [(3, vI 0), (0, vR (uB u) 131), (1, vI p0), (2, vI p1)]) G dX5_wordWithin_1 rfl (by decide) rfl ?_
  refine J_lv [1, 2, 3, 0] rfl ?_
  exact jRd_wordWithin_L G p0 p1 mem 2000 0
