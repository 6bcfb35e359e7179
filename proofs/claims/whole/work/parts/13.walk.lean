/-! THE CLAIM OUT OF ONE WALK OF THE LAW'S BODY. Your part is whole_start (and what it stands on); all else here is the same for every law, but numbers. -/
def R_law : String := "BeamPiecesLaw"
def lw_P (b : Addr) (xs : List Int32) (args : Array Value) (s : State) : Prop := args = #[.ref b] ∧ s.IntsAt b xs ∧ xs.length ≤ 2560 ∧ (Jvm.Cond.and given_1 narrow_1).before args s = true
def lw_Q (_ : Array Value) (s : State) (o : Outcome) (t : State) : Prop := o = .returned (some (.int 1)) ∧ Framed s o t [] 600000 7302250
def lw_Z (below : List Frame) (a : Array Value) (s : State) : State → Prop := fun t => ∃ o, t.status = .running ∧ Ended t below o ∧ lw_Q a s o t
/-- the law's own end, with 1 on the stack, nothing written that was there before, its room as the claim has it -/
theorem lw_ret {p : Program} {l : Launch} {e : Env} {s : State} {m : MethodId} {below : List Frame} {meth : Method} {c : Code} {b : Nat} (hx : p.tables.exec = Jvm.exec) (hb : c.code = code) (hr : meth.sig.returnType = ret) (hlocks : meth.locks = false) {pc : Nat} {H : Heap} {ls : Array Slot} (hdg : decode code pc = .ok (.ireturn, 1)) : W p l e room_1 s m #[Value.ref b] below meth c H [] 600000 7302250 (lw_Z below #[Value.ref b] s) (F0 m pc ls [.int 1]) := by
  intro T hT X
  obtain ⟨fs, hret, hrun, hended, hW, hframe⟩ := X.leave (v := some (.int 1)) (hlocks := hlocks) (fun h => by rw [hr] at h; cases h)
  have hmeth' : T.vm.method? m = some meth := X.method'
  refine ⟨T.setFrames fs, ?_, .returned (some (.int 1)), hrun, hended, rfl, ⟨_, rfl⟩, hW, hframe⟩
  jvm_step X.here [X.here.top, hx, hb, hdg, hmeth', hr, ret, narrow_b1]
  (try refine ⟨rfl, ?_⟩); (try refine ⟨rfl, ?_⟩)
  first | (intro acts; rw [hret _ acts rfl rfl rfl]) | rw [hret _ _ rfl rfl rfl]
  exact Steps.refl _
/-- what holds at the law's entry: the machine, the code, the tables' words (any of lw_tbl by 'hts w (by decide +kernel)'), the script of L ints xs at the cell b, what the Statement gives of the start (any of its parts by flat_of_before) -/
def lw_At (p : Program) (s : State) (m : MethodId) (meth : Method) (c : Code) (b L : Nat) (xs : Nat → Int32) : Prop :=
  p.tables.exec = Jvm.exec ∧ c.code = code ∧ meth.sig.returnType = ret ∧ c.maxLocals = 4 ∧ s.vm.findClass R_law = some m.cls ∧ (∀ w ∈ lw_tbl, w.before #[Value.ref b] s = true) ∧ va_X b L xs s s.heap ∧ b < s.heap.size ∧ meth.locks = false ∧ (Jvm.Cond.and given_1 narrow_1).before #[Value.ref b] s = true
abbrev lawRet : Option FieldType := ret
section JL
variable {u : jU} {x : jX} {cc : ByteArray} {own : String} {nL : Nat} {ret : Option FieldType} {rm : Room} {α : Type} {Qf : α → State → Prop} {pc : Nat} {lv : List (Nat × Value)} {st : List Value} {mem : Mem} {o : Option α} {a b : Int}
/-- the law's context: the script -/
def lawC (u : jU) (x : jX) (b L : Nat) (xs : Nat → Int32) : Prop := match x with
  | (_, _, R, s, _, args, _, _, _, cells, slots) => args = #[.ref b] ∧ va_X b L xs s s.heap ∧ b < s.heap.size ∧ uB u = s.heap.size ∧ cells ≤ 600000 ∧ slots ≤ 7302250 ∧ R = room_1
def lawQ (x : jX) : Int → State → Prop := fun _ => match x with
  | (_, _, _, s, _, args, below, _, _, _, _) => lw_Z below args s
theorem J_slen {bb L : Nat} {xs : Nat → Int32} (G : jG u x cc own nL ret rm) (C : lawC u x bb L xs) (hd : decode cc pc = .ok (.arraylength, 1)) (k : J u x nL Qf (pc + 1) lv (vI (L : Int) :: st) mem o) : J u x nL Qf pc lv (.ref bb :: st) mem o := by
  obtain ⟨p, e, R, s, m, args, below, meth, c, cells, slots⟩ := x
  intro r hr H locs ls hP hS hh
  have e0 : Int32.ofNat L = Int32.ofInt (L : Int) := by first | rfl | exact (Int32.ofInt_eq_ofNat).symm | simp
  have k := k r hr H locs ls hP hS hh
  rw [vI, ← e0] at k
  exact va_slen G.1 G.2.1 C.2.1 C.2.2.1 (by have := C.2.2.1; have := C.2.2.2.1; show ¬ uB u ≤ bb; omega) hS hd k
theorem J_sld {bb L : Nat} {xs : Nat → Int32} {i : Int} (G : jG u x cc own nL ret rm) (C : lawC u x bb L xs) (hd : decode cc pc = .ok (.iaload, 1)) (k : J u x nL Qf (pc + 1) lv (vI (scI xs (s32 i)) :: st) mem o) : J u x nL Qf pc lv (vI i :: .ref bb :: st) mem (ck i L o) := by
  obtain ⟨p, e, R, s, m, args, below, meth, c, cells, slots⟩ := x
  intro r hr H locs ls hP hS hh
  obtain ⟨hc, hk⟩ := ck_some hr
  have k := k r hk H locs ls hP hS hh
  rw [vI, scI, i32_of, ← i32_clamp] at k
  exact va_sld G.1 G.2.1 C.2.1 C.2.2.1 (by have := C.2.2.1; have := C.2.2.2.1; show ¬ uB u ≤ bb; omega) hS (ck_in hc) hd k
theorem J_iand (G : jG u x cc own nL ret rm) (hd : decode cc pc = .ok (.iand, 1)) (k : J u x nL Qf (pc + 1) lv (vI (Int32.ofInt a &&& Int32.ofInt b).toInt :: st) mem o) : J u x nL Qf pc lv (vI b :: vI a :: st) mem o := by
  obtain ⟨p, e, R, s, m, args, below, meth, c, cells, slots⟩ := x
  intro r hr H locs ls hP hS hl
  have k := k r hr H locs ls hP hS hl
  rw [vI, i32_of] at k
  exact lv_iand G.1 G.2.1 hd k
theorem J_land (G : jG u x cc own nL ret rm) (hd : decode cc pc = .ok (.land, 1)) (k : J u x nL Qf (pc + 1) lv (vL (Int64.ofInt a &&& Int64.ofInt b).toInt :: st) mem o) : J u x nL Qf pc lv (vL b :: vL a :: st) mem o := by
  obtain ⟨p, e, R, s, m, args, below, meth, c, cells, slots⟩ := x
  intro r hr H locs ls hP hS hl
  have k := k r hr H locs ls hP hS hl
  rw [vL, i64_of] at k
  exact lv_land G.1 G.2.1 hd k
theorem J_lor (G : jG u x cc own nL ret rm) (hd : decode cc pc = .ok (.lor, 1)) (k : J u x nL Qf (pc + 1) lv (vL (Int64.ofInt a ||| Int64.ofInt b).toInt :: st) mem o) : J u x nL Qf pc lv (vL b :: vL a :: st) mem o := by
  obtain ⟨p, e, R, s, m, args, below, meth, c, cells, slots⟩ := x
  intro r hr H locs ls hP hS hl
  have k := k r hr H locs ls hP hS hl
  rw [vL, i64_of] at k
  exact lv_lor G.1 G.2.1 hd k
theorem J_lshl (G : jG u x cc own nL ret rm) (hd : decode cc pc = .ok (.lshl, 1)) (k : J u x nL Qf (pc + 1) lv (vL (Int64.ofInt a <<< ((Int32.ofInt b).toInt64 &&& 63)).toInt :: st) mem o) : J u x nL Qf pc lv (vI b :: vL a :: st) mem o := by
  obtain ⟨p, e, R, s, m, args, below, meth, c, cells, slots⟩ := x
  intro r hr H locs ls hP hS hl
  have k := k r hr H locs ls hP hS hl
  rw [vL, i64_of] at k
  exact lv_lshl G.1 G.2.1 hd rfl k
theorem J_lawret {bb L : Nat} {xs : Nat → Int32} {r0 : Int} (G : jG u x code own nL lawRet rm) (C : lawC u x bb L xs) (hd : decode code pc = .ok (.ireturn, 1)) : J u x nL (lawQ x) pc lv [vI 1] mem (some r0) := by
  obtain ⟨p, e, R, s, m, args, below, meth, c, cells, slots⟩ := x
  intro r hr H locs ls hP hS hh
  obtain ⟨rfl, -, -, hbase, h1, h2, rfl⟩ := C
  have G := G
  show W p u.1 e room_1 s m #[Value.ref bb] below meth c H locs cells slots (lw_Z below #[Value.ref bb] s) (F0 m pc ls [.int 1])
  refine va_forget (fun q hq => by have := hS.2.2 q hq; rw [← hbase]; exact this) ?_
  refine W.widen (k := 600000) (n := 7302250) h1 h2 ?_
  exact lw_ret G.1 G.2.1 G.2.2.2.2.2.2.2.2.1 G.2.2.2.2.2.2.2.1 hd
end JL
theorem wc_L_143 : Cond.constantLong RL 143 (4294967295) ∈ jTW := jt_7 (i := 35) (by decide +kernel) (by decide +kernel)
theorem wm_L_102 : Cond.methodLink RL 102 yX9_rolls ∈ jTW := jt_6 (i := 126) (by decide +kernel) (by decide +kernel)
theorem wm_L_103 : Cond.methodLink RL 103 yX8_presses ∈ jTW := jt_3 (i := 239) (by decide +kernel) (by decide +kernel)
theorem wm_L_106 : Cond.methodLink RL 106 yX9_presses ∈ jTW := jt_6 (i := 153) (by decide +kernel) (by decide +kernel)
theorem wm_L_107 : Cond.methodLink RL 107 yX8_unit ∈ jTW := jt_4 (i := 3) (by decide +kernel) (by decide +kernel)
theorem wm_L_110 : Cond.methodLink RL 110 yX9_unit ∈ jTW := jt_6 (i := 157) (by decide +kernel) (by decide +kernel)
theorem wm_L_111 : Cond.methodLink RL 111 yX8_bears ∈ jTW := jt_4 (i := 11) (by decide +kernel) (by decide +kernel)
theorem wm_L_114 : Cond.methodLink RL 114 yX9_bears_ ∈ jTW := jt_6 (i := 165) (by decide +kernel) (by decide +kernel)
theorem wm_L_115 : Cond.methodLink RL 115 yX8_best ∈ jTW := jt_4 (i := 15) (by decide +kernel) (by decide +kernel)
theorem wm_L_118 : Cond.methodLink RL 118 yX9_best ∈ jTW := jt_6 (i := 169) (by decide +kernel) (by decide +kernel)
theorem wm_L_119 : Cond.methodLink RL 119 yX8_hinged ∈ jTW := jt_4 (i := 19) (by decide +kernel) (by decide +kernel)
theorem wm_L_122 : Cond.methodLink RL 122 yX9_hinged ∈ jTW := jt_6 (i := 173) (by decide +kernel) (by decide +kernel)
theorem wm_L_123 : Cond.methodLink RL 123 yX8_feed ∈ jTW := jt_4 (i := 23) (by decide +kernel) (by decide +kernel)
theorem wm_L_126 : Cond.methodLink RL 126 yX9_feed ∈ jTW := jt_6 (i := 177) (by decide +kernel) (by decide +kernel)
theorem wm_L_127 : Cond.methodLink RL 127 yX8_reads ∈ jTW := jt_4 (i := 31) (by decide +kernel) (by decide +kernel)
theorem wm_L_13 : Cond.methodLink RL 13 yX8_beam ∈ jTW := jt_2 (i := 85) (by decide +kernel) (by decide +kernel)
theorem wm_L_130 : Cond.methodLink RL 130 yX9_reads ∈ jTW := jt_6 (i := 182) (by decide +kernel) (by decide +kernel)
theorem wm_L_131 : Cond.methodLink RL 131 yX8_prints ∈ jTW := jt_4 (i := 151) (by decide +kernel) (by decide +kernel)
theorem wm_L_134 : Cond.methodLink RL 134 yX9_prints ∈ jTW := jt_6 (i := 220) (by decide +kernel) (by decide +kernel)
theorem wm_L_135 : Cond.methodLink RL 135 yX8_paper ∈ jTW := jt_4 (i := 182) (by decide +kernel) (by decide +kernel)
theorem wm_L_138 : Cond.methodLink RL 138 yX9_paper ∈ jTW := jt_6 (i := 236) (by decide +kernel) (by decide +kernel)
theorem wm_L_139 : Cond.methodLink RL 139 yX8_list ∈ jTW := jt_4 (i := 186) (by decide +kernel) (by decide +kernel)
theorem wm_L_142 : Cond.methodLink RL 142 yX9_list ∈ jTW := jt_7 (i := 0) (by decide +kernel) (by decide +kernel)
theorem wm_L_145 : Cond.methodLink RL 145 yX8_set ∈ jTW := jt_4 (i := 198) (by decide +kernel) (by decide +kernel)
theorem wm_L_149 : Cond.methodLink RL 149 yX9_set ∈ jTW := jt_7 (i := 7) (by decide +kernel) (by decide +kernel)
theorem wm_L_150 : Cond.methodLink RL 150 yX8_get ∈ jTW := jt_4 (i := 215) (by decide +kernel) (by decide +kernel)
theorem wm_L_153 : Cond.methodLink RL 153 yX9_get ∈ jTW := jt_7 (i := 11) (by decide +kernel) (by decide +kernel)
theorem wm_L_154 : Cond.methodLink RL 154 yX8_into ∈ jTW := jt_4 (i := 224) (by decide +kernel) (by decide +kernel)
theorem wm_L_157 : Cond.methodLink RL 157 yX9_into ∈ jTW := jt_7 (i := 15) (by decide +kernel) (by decide +kernel)
theorem wm_L_158 : Cond.methodLink RL 158 yX8_judge ∈ jTW := jt_4 (i := 236) (by decide +kernel) (by decide +kernel)
theorem wm_L_161 : Cond.methodLink RL 161 yX9_judge ∈ jTW := jt_7 (i := 19) (by decide +kernel) (by decide +kernel)
theorem wm_L_162 : Cond.methodLink RL 162 yX8_undo ∈ jTW := jt_5 (i := 0) (by decide +kernel) (by decide +kernel)
theorem wm_L_165 : Cond.methodLink RL 165 yX9_undo ∈ jTW := jt_7 (i := 23) (by decide +kernel) (by decide +kernel)
theorem wm_L_166 : Cond.methodLink RL 166 yX8_image ∈ jTW := jt_5 (i := 11) (by decide +kernel) (by decide +kernel)
theorem wm_L_169 : Cond.methodLink RL 169 yX9_image ∈ jTW := jt_7 (i := 27) (by decide +kernel) (by decide +kernel)
theorem wm_L_17 : Cond.methodLink RL 17 yX9_beam ∈ jTW := jt_5 (i := 132) (by decide +kernel) (by decide +kernel)
theorem wm_L_170 : Cond.methodLink RL 170 yX8_back ∈ jTW := jt_5 (i := 15) (by decide +kernel) (by decide +kernel)
theorem wm_L_173 : Cond.methodLink RL 173 yX9_back ∈ jTW := jt_7 (i := 31) (by decide +kernel) (by decide +kernel)
theorem wm_L_18 : Cond.methodLink RL 18 yX8_support ∈ jTW := jt_2 (i := 101) (by decide +kernel) (by decide +kernel)
theorem wm_L_21 : Cond.methodLink RL 21 yX9_support ∈ jTW := jt_5 (i := 141) (by decide +kernel) (by decide +kernel)
theorem wm_L_22 : Cond.methodLink RL 22 yX8_drop ∈ jTW := jt_2 (i := 135) (by decide +kernel) (by decide +kernel)
theorem wm_L_25 : Cond.methodLink RL 25 yX9_drop ∈ jTW := jt_5 (i := 157) (by decide +kernel) (by decide +kernel)
theorem wm_L_26 : Cond.methodLink RL 26 yX8_hinge ∈ jTW := jt_2 (i := 152) (by decide +kernel) (by decide +kernel)
theorem wm_L_30 : Cond.methodLink RL 30 yX9_hinge ∈ jTW := jt_5 (i := 161) (by decide +kernel) (by decide +kernel)
theorem wm_L_31 : Cond.methodLink RL 31 yX8_point ∈ jTW := jt_2 (i := 160) (by decide +kernel) (by decide +kernel)
theorem wm_L_34 : Cond.methodLink RL 34 yX9_point ∈ jTW := jt_5 (i := 165) (by decide +kernel) (by decide +kernel)
theorem wm_L_35 : Cond.methodLink RL 35 yX8_spread ∈ jTW := jt_2 (i := 175) (by decide +kernel) (by decide +kernel)
theorem wm_L_39 : Cond.methodLink RL 39 yX9_spread ∈ jTW := jt_5 (i := 175) (by decide +kernel) (by decide +kernel)
theorem wm_L_40 : Cond.methodLink RL 40 yX8_heavier ∈ jTW := jt_2 (i := 183) (by decide +kernel) (by decide +kernel)
theorem wm_L_43 : Cond.methodLink RL 43 yX9_heavier ∈ jTW := jt_5 (i := 179) (by decide +kernel) (by decide +kernel)
theorem wm_L_44 : Cond.methodLink RL 44 yX8_lift ∈ jTW := jt_2 (i := 192) (by decide +kernel) (by decide +kernel)
theorem wm_L_47 : Cond.methodLink RL 47 yX9_lift ∈ jTW := jt_5 (i := 187) (by decide +kernel) (by decide +kernel)
theorem wm_L_48 : Cond.methodLink RL 48 yX8_axle ∈ jTW := jt_2 (i := 201) (by decide +kernel) (by decide +kernel)
theorem wm_L_51 : Cond.methodLink RL 51 yX9_axle ∈ jTW := jt_5 (i := 191) (by decide +kernel) (by decide +kernel)
theorem wm_L_52 : Cond.methodLink RL 52 yX8_unhitch ∈ jTW := jt_2 (i := 213) (by decide +kernel) (by decide +kernel)
theorem wm_L_56 : Cond.methodLink RL 56 yX9_unhitch ∈ jTW := jt_5 (i := 195) (by decide +kernel) (by decide +kernel)
theorem wm_L_57 : Cond.methodLink RL 57 yX8_loadOf ∈ jTW := jt_2 (i := 217) (by decide +kernel) (by decide +kernel)
theorem wm_L_60 : Cond.methodLink RL 60 yX9_loadOf ∈ jTW := jt_5 (i := 199) (by decide +kernel) (by decide +kernel)
theorem wm_L_61 : Cond.methodLink RL 61 yX8_supportOf ∈ jTW := jt_2 (i := 221) (by decide +kernel) (by decide +kernel)
theorem wm_L_64 : Cond.methodLink RL 64 yX9_supportOf ∈ jTW := jt_5 (i := 204) (by decide +kernel) (by decide +kernel)
theorem wm_L_65 : Cond.methodLink RL 65 yX8_count ∈ jTW := jt_2 (i := 226) (by decide +kernel) (by decide +kernel)
theorem wm_L_68 : Cond.methodLink RL 68 yX9_count ∈ jTW := jt_5 (i := 212) (by decide +kernel) (by decide +kernel)
theorem wm_L_69 : Cond.methodLink RL 69 yX8_reaction ∈ jTW := jt_2 (i := 234) (by decide +kernel) (by decide +kernel)
theorem wm_L_73 : Cond.methodLink RL 73 yX9_reaction ∈ jTW := jt_5 (i := 220) (by decide +kernel) (by decide +kernel)
theorem wm_L_74 : Cond.methodLink RL 74 yX8_shear ∈ jTW := jt_3 (i := 116) (by decide +kernel) (by decide +kernel)
theorem wm_L_77 : Cond.methodLink RL 77 yX9_shear ∈ jTW := jt_6 (i := 62) (by decide +kernel) (by decide +kernel)
theorem wm_L_78 : Cond.methodLink RL 78 yX8_moment ∈ jTW := jt_3 (i := 121) (by decide +kernel) (by decide +kernel)
theorem wm_L_82 : Cond.methodLink RL 82 yX9_moment ∈ jTW := jt_6 (i := 70) (by decide +kernel) (by decide +kernel)
theorem wm_L_83 : Cond.methodLink RL 83 yX8_sag ∈ jTW := jt_3 (i := 133) (by decide +kernel) (by decide +kernel)
theorem wm_L_86 : Cond.methodLink RL 86 yX9_sag ∈ jTW := jt_6 (i := 79) (by decide +kernel) (by decide +kernel)
theorem wm_L_87 : Cond.methodLink RL 87 yX8_greatest ∈ jTW := jt_3 (i := 163) (by decide +kernel) (by decide +kernel)
theorem wm_L_90 : Cond.methodLink RL 90 yX9_greatest ∈ jTW := jt_6 (i := 105) (by decide +kernel) (by decide +kernel)
theorem wm_L_91 : Cond.methodLink RL 91 yX8_lowest ∈ jTW := jt_3 (i := 197) (by decide +kernel) (by decide +kernel)
theorem wm_L_94 : Cond.methodLink RL 94 yX9_lowest ∈ jTW := jt_6 (i := 98) (by decide +kernel) (by decide +kernel)
theorem wm_L_95 : Cond.methodLink RL 95 yX8_times ∈ jTW := jt_3 (i := 205) (by decide +kernel) (by decide +kernel)
theorem wm_L_98 : Cond.methodLink RL 98 yX9_times ∈ jTW := jt_6 (i := 117) (by decide +kernel) (by decide +kernel)
theorem wm_L_99 : Cond.methodLink RL 99 yX8_rolls ∈ jTW := jt_3 (i := 221) (by decide +kernel) (by decide +kernel)
theorem jLaw_L18 {u : jU} {x : jX} (G : jG u x code RL 4 lawRet room_1) (b : Nat) (L : Nat) (xs : Nat → Int32) (C : lawC u x b L xs) : ∀ (n : Nat) (i1 : Int) (m2 : Mem), J u x 4 (lawQ x) 18 [(0, Value.ref b), (1, vR (uB u) 0), (2, vR (uB u) 149), (3, vI i1)] [] m2 (Law_L18 L xs n i1 m2) := by
  intro n
  induction n with
  | zero => intro i1 m2; exact J_none
  | succ n ih =>
    intro i1 m2
    rw [Law_L18]
    refine J_iload_n G 3 dL_law_18 rfl ?_
    refine J_aload_nX G 0 dL_law_19 rfl ?_
    refine J_slen G C dL_law_20 ?_
    refine J_iconst G dL_law_21 ?_
    refine J_isub G dL_law_22 ?_
    refine J_icmp_gt 1321 G dL_law_23 (by decide) ?_ ?_
    · refine J_iconst G dL_law_1321 ?_
      exact J_lawret G C dL_law_1322
    · refine J_aload_nX G 0 dL_law_26 rfl ?_
      refine J_iload_n G 3 dL_law_27 rfl ?_
      refine J_sld G C dL_law_28 ?_
      refine J_bipush G dL_law_29 (by decide) ?_
      refine J_iand G dL_law_31 ?_
      refine J_ltI (fun x3 => ?_)
      refine J_split (fun hs4 => ?_) (fun hs4 => ?_)
      · refine J_tableIn (off := 168) 200 G dL_law_32 hs4 (by decide) (by decide) (by decide) (by decide) ?_
        refine J_aload_n G 1 dL_law_200 rfl ?_
        refine J_aload_nX G 0 dL_law_201 rfl ?_
        refine J_iload_n G 3 dL_law_202 rfl ?_
        refine J_iconst G dL_law_203 ?_
        refine J_iadd G dL_law_204 ?_
        refine J_sld G C dL_law_205 ?_
        refine J_cVwI (As := [vI (scI xs (s32 (i1 + 1)))]) G (mX8_beam u (scI xs (s32 (i1 + 1))) m2) sg_X8_beam sv_X8_beam wm_L_13 cls_8 kd_0 rfl ⟨by decide, by decide⟩ rfl rfl (Nat.le_of_ble_eq_true rfl) dL_law_206 ?_
        intro r5 m6
        refine J_aload_n G 2 dL_law_209 rfl ?_
        refine J_aload_nX G 0 dL_law_210 rfl ?_
        refine J_iload_n G 3 dL_law_211 rfl ?_
        refine J_iconst G dL_law_212 ?_
        refine J_iadd G dL_law_213 ?_
        refine J_sld G C dL_law_214 ?_
        refine J_cVwI (As := [vI (scI xs (s32 (i1 + 1)))]) G (mX9_beam u (scI xs (s32 (i1 + 1))) m6) sg_X9_beam sv_X9_beam wm_L_17 cls_9 kd_149 rfl ⟨by decide, by decide⟩ rfl rfl (Nat.le_of_ble_eq_true rfl) dL_law_215 ?_
        intro r7 m8
        refine J_icmp_eq 1315 G dL_law_218 (by decide) ?_ ?_
        · refine J_iinc (lv' := [(3, vI (i1 + 5)), (0, Value.ref b), (1, vR (uB u) 0), (2, vR (uB u) 149)]) G 3 dL_law_1315 rfl (by decide) rfl ?_
          refine J_goto 18 G dL_law_1318 (by decide) ?_
          refine J_lv [1, 2, 3, 0] rfl ?_
          exact ih (i1 + 5) m8
        · exact J_none
      · skip
        refine J_split (fun hs9 => ?_) (fun hs9 => ?_)
        · refine J_tableIn (off := 191) 223 G dL_law_32 hs9 (by decide) (by decide) (by decide) (by decide) ?_
          refine J_aload_n G 1 dL_law_223 rfl ?_
          refine J_aload_nX G 0 dL_law_224 rfl ?_
          refine J_iload_n G 3 dL_law_225 rfl ?_
          refine J_iconst G dL_law_226 ?_
          refine J_iadd G dL_law_227 ?_
          refine J_sld G C dL_law_228 ?_
          refine J_cVwI (As := [vI (scI xs (s32 (i1 + 1)))]) G (mX8_support u (scI xs (s32 (i1 + 1))) m2) sg_X8_support sv_X8_support wm_L_18 cls_8 kd_0 rfl ⟨by decide, by decide⟩ rfl rfl (Nat.le_of_ble_eq_true rfl) dL_law_229 ?_
          intro r10 m11
          refine J_aload_n G 2 dL_law_232 rfl ?_
          refine J_aload_nX G 0 dL_law_233 rfl ?_
          refine J_iload_n G 3 dL_law_234 rfl ?_
          refine J_iconst G dL_law_235 ?_
          refine J_iadd G dL_law_236 ?_
          refine J_sld G C dL_law_237 ?_
          refine J_cVwI (As := [vI (scI xs (s32 (i1 + 1)))]) G (mX9_support u (scI xs (s32 (i1 + 1))) m11) sg_X9_support sv_X9_support wm_L_21 cls_9 kd_149 rfl ⟨by decide, by decide⟩ rfl rfl (Nat.le_of_ble_eq_true rfl) dL_law_238 ?_
          intro r12 m13
          refine J_icmp_eq 1315 G dL_law_241 (by decide) ?_ ?_
          · refine J_iinc (lv' := [(3, vI (i1 + 5)), (0, Value.ref b), (1, vR (uB u) 0), (2, vR (uB u) 149)]) G 3 dL_law_1315 rfl (by decide) rfl ?_
            refine J_goto 18 G dL_law_1318 (by decide) ?_
            refine J_lv [1, 2, 3, 0] rfl ?_
            exact ih (i1 + 5) m13
          · exact J_none
        · skip
          refine J_split (fun hs14 => ?_) (fun hs14 => ?_)
          · refine J_tableIn (off := 214) 246 G dL_law_32 hs14 (by decide) (by decide) (by decide) (by decide) ?_
            refine J_aload_n G 1 dL_law_246 rfl ?_
            refine J_aload_nX G 0 dL_law_247 rfl ?_
            refine J_iload_n G 3 dL_law_248 rfl ?_
            refine J_iconst G dL_law_249 ?_
            refine J_iadd G dL_law_250 ?_
            refine J_sld G C dL_law_251 ?_
            refine J_cVwI (As := [vI (scI xs (s32 (i1 + 1)))]) G (mX8_drop u (scI xs (s32 (i1 + 1))) m2) sg_X8_drop sv_X8_drop wm_L_22 cls_8 kd_0 rfl ⟨by decide, by decide⟩ rfl rfl (Nat.le_of_ble_eq_true rfl) dL_law_252 ?_
            intro r15 m16
            refine J_aload_n G 2 dL_law_255 rfl ?_
            refine J_aload_nX G 0 dL_law_256 rfl ?_
            refine J_iload_n G 3 dL_law_257 rfl ?_
            refine J_iconst G dL_law_258 ?_
            refine J_iadd G dL_law_259 ?_
            refine J_sld G C dL_law_260 ?_
            refine J_cVwI (As := [vI (scI xs (s32 (i1 + 1)))]) G (mX9_drop u (scI xs (s32 (i1 + 1))) m16) sg_X9_drop sv_X9_drop wm_L_25 cls_9 kd_149 rfl ⟨by decide, by decide⟩ rfl rfl (Nat.le_of_ble_eq_true rfl) dL_law_261 ?_
            intro r17 m18
            refine J_icmp_eq 1315 G dL_law_264 (by decide) ?_ ?_
            · refine J_iinc (lv' := [(3, vI (i1 + 5)), (0, Value.ref b), (1, vR (uB u) 0), (2, vR (uB u) 149)]) G 3 dL_law_1315 rfl (by decide) rfl ?_
              refine J_goto 18 G dL_law_1318 (by decide) ?_
              refine J_lv [1, 2, 3, 0] rfl ?_
              exact ih (i1 + 5) m18
            · exact J_none
          · skip
            refine J_split (fun hs19 => ?_) (fun hs19 => ?_)
            · refine J_tableIn (off := 237) 269 G dL_law_32 hs19 (by decide) (by decide) (by decide) (by decide) ?_
              refine J_aload_n G 1 dL_law_269 rfl ?_
              refine J_aload_nX G 0 dL_law_270 rfl ?_
              refine J_iload_n G 3 dL_law_271 rfl ?_
              refine J_iconst G dL_law_272 ?_
              refine J_iadd G dL_law_273 ?_
              refine J_sld G C dL_law_274 ?_
              refine J_aload_nX G 0 dL_law_275 rfl ?_
              refine J_iload_n G 3 dL_law_276 rfl ?_
              refine J_iconst G dL_law_277 ?_
              refine J_iadd G dL_law_278 ?_
              refine J_sld G C dL_law_279 ?_
              refine J_cVwI (As := [vI (scI xs (s32 (i1 + 1))), vI (scI xs (s32 (i1 + 2)))]) G (mX8_hinge u (scI xs (s32 (i1 + 1))) (scI xs (s32 (i1 + 2))) m2) sg_X8_hinge sv_X8_hinge wm_L_26 cls_8 kd_0 rfl ⟨by decide, by decide⟩ rfl rfl (Nat.le_of_ble_eq_true rfl) dL_law_280 ?_
              intro r20 m21
              refine J_aload_n G 2 dL_law_283 rfl ?_
              refine J_aload_nX G 0 dL_law_284 rfl ?_
              refine J_iload_n G 3 dL_law_285 rfl ?_
              refine J_iconst G dL_law_286 ?_
              refine J_iadd G dL_law_287 ?_
              refine J_sld G C dL_law_288 ?_
              refine J_aload_nX G 0 dL_law_289 rfl ?_
              refine J_iload_n G 3 dL_law_290 rfl ?_
              refine J_iconst G dL_law_291 ?_
              refine J_iadd G dL_law_292 ?_
              refine J_sld G C dL_law_293 ?_
              refine J_cVwI (As := [vI (scI xs (s32 (i1 + 1))), vI (scI xs (s32 (i1 + 2)))]) G (mX9_hinge u (scI xs (s32 (i1 + 1))) (scI xs (s32 (i1 + 2))) m21) sg_X9_hinge sv_X9_hinge wm_L_30 cls_9 kd_149 rfl ⟨by decide, by decide⟩ rfl rfl (Nat.le_of_ble_eq_true rfl) dL_law_294 ?_
              intro r22 m23
              refine J_icmp_eq 1315 G dL_law_297 (by decide) ?_ ?_
              · refine J_iinc (lv' := [(3, vI (i1 + 5)), (0, Value.ref b), (1, vR (uB u) 0), (2, vR (uB u) 149)]) G 3 dL_law_1315 rfl (by decide) rfl ?_
                refine J_goto 18 G dL_law_1318 (by decide) ?_
                refine J_lv [1, 2, 3, 0] rfl ?_
                exact ih (i1 + 5) m23
              · exact J_none
            · skip
              refine J_split (fun hs24 => ?_) (fun hs24 => ?_)
              · refine J_tableIn (off := 270) 302 G dL_law_32 hs24 (by decide) (by decide) (by decide) (by decide) ?_
                refine J_aload_n G 1 dL_law_302 rfl ?_
                refine J_aload_nX G 0 dL_law_303 rfl ?_
                refine J_iload_n G 3 dL_law_304 rfl ?_
                refine J_iconst G dL_law_305 ?_
                refine J_iadd G dL_law_306 ?_
                refine J_sld G C dL_law_307 ?_
                refine J_aload_nX G 0 dL_law_308 rfl ?_
                refine J_iload_n G 3 dL_law_309 rfl ?_
                refine J_iconst G dL_law_310 ?_
                refine J_iadd G dL_law_311 ?_
                refine J_sld G C dL_law_312 ?_
                refine J_cVwI (As := [vI (scI xs (s32 (i1 + 1))), vI (scI xs (s32 (i1 + 2)))]) G (mX8_point u (scI xs (s32 (i1 + 1))) (scI xs (s32 (i1 + 2))) m2) sg_X8_point sv_X8_point wm_L_31 cls_8 kd_0 rfl ⟨by decide, by decide⟩ rfl rfl (Nat.le_of_ble_eq_true rfl) dL_law_313 ?_
                intro r25 m26
                refine J_aload_n G 2 dL_law_316 rfl ?_
                refine J_aload_nX G 0 dL_law_317 rfl ?_
                refine J_iload_n G 3 dL_law_318 rfl ?_
                refine J_iconst G dL_law_319 ?_
                refine J_iadd G dL_law_320 ?_
                refine J_sld G C dL_law_321 ?_
                refine J_aload_nX G 0 dL_law_322 rfl ?_
                refine J_iload_n G 3 dL_law_323 rfl ?_
                refine J_iconst G dL_law_324 ?_
                refine J_iadd G dL_law_325 ?_
                refine J_sld G C dL_law_326 ?_
                refine J_cVwI (As := [vI (scI xs (s32 (i1 + 1))), vI (scI xs (s32 (i1 + 2)))]) G (mX9_point u (scI xs (s32 (i1 + 1))) (scI xs (s32 (i1 + 2))) m26) sg_X9_point sv_X9_point wm_L_34 cls_9 kd_149 rfl ⟨by decide, by decide⟩ rfl rfl (Nat.le_of_ble_eq_true rfl) dL_law_327 ?_
                intro r27 m28
                refine J_icmp_eq 1315 G dL_law_330 (by decide) ?_ ?_
                · refine J_iinc (lv' := [(3, vI (i1 + 5)), (0, Value.ref b), (1, vR (uB u) 0), (2, vR (uB u) 149)]) G 3 dL_law_1315 rfl (by decide) rfl ?_
                  refine J_goto 18 G dL_law_1318 (by decide) ?_
                  refine J_lv [1, 2, 3, 0] rfl ?_
                  exact ih (i1 + 5) m28
                · exact J_none
              · skip
                refine J_split (fun hs29 => ?_) (fun hs29 => ?_)
                · refine J_tableIn (off := 303) 335 G dL_law_32 hs29 (by decide) (by decide) (by decide) (by decide) ?_
                  refine J_aload_n G 1 dL_law_335 rfl ?_
                  refine J_aload_nX G 0 dL_law_336 rfl ?_
                  refine J_iload_n G 3 dL_law_337 rfl ?_
                  refine J_iconst G dL_law_338 ?_
                  refine J_iadd G dL_law_339 ?_
                  refine J_sld G C dL_law_340 ?_
                  refine J_aload_nX G 0 dL_law_341 rfl ?_
                  refine J_iload_n G 3 dL_law_342 rfl ?_
                  refine J_iconst G dL_law_343 ?_
                  refine J_iadd G dL_law_344 ?_
                  refine J_sld G C dL_law_345 ?_
                  refine J_aload_nX G 0 dL_law_346 rfl ?_
                  refine J_iload_n G 3 dL_law_347 rfl ?_
                  refine J_iconst G dL_law_348 ?_
                  refine J_iadd G dL_law_349 ?_
                  refine J_sld G C dL_law_350 ?_
                  refine J_cVwI (As := [vI (scI xs (s32 (i1 + 1))), vI (scI xs (s32 (i1 + 2))), vI (scI xs (s32 (i1 + 3)))]) G (mX8_spread u (scI xs (s32 (i1 + 1))) (scI xs (s32 (i1 + 2))) (scI xs (s32 (i1 + 3))) m2) sg_X8_spread sv_X8_spread wm_L_35 cls_8 kd_0 rfl ⟨by decide, by decide⟩ rfl rfl (Nat.le_of_ble_eq_true rfl) dL_law_351 ?_
                  intro r30 m31
                  refine J_aload_n G 2 dL_law_354 rfl ?_
                  refine J_aload_nX G 0 dL_law_355 rfl ?_
                  refine J_iload_n G 3 dL_law_356 rfl ?_
                  refine J_iconst G dL_law_357 ?_
                  refine J_iadd G dL_law_358 ?_
                  refine J_sld G C dL_law_359 ?_
                  refine J_aload_nX G 0 dL_law_360 rfl ?_
                  refine J_iload_n G 3 dL_law_361 rfl ?_
                  refine J_iconst G dL_law_362 ?_
                  refine J_iadd G dL_law_363 ?_
                  refine J_sld G C dL_law_364 ?_
                  refine J_aload_nX G 0 dL_law_365 rfl ?_
                  refine J_iload_n G 3 dL_law_366 rfl ?_
                  refine J_iconst G dL_law_367 ?_
                  refine J_iadd G dL_law_368 ?_
                  refine J_sld G C dL_law_369 ?_
                  refine J_cVwI (As := [vI (scI xs (s32 (i1 + 1))), vI (scI xs (s32 (i1 + 2))), vI (scI xs (s32 (i1 + 3)))]) G (mX9_spread u (scI xs (s32 (i1 + 1))) (scI xs (s32 (i1 + 2))) (scI xs (s32 (i1 + 3))) m31) sg_X9_spread sv_X9_spread wm_L_39 cls_9 kd_149 rfl ⟨by decide, by decide⟩ rfl rfl (Nat.le_of_ble_eq_true rfl) dL_law_370 ?_
                  intro r32 m33
                  refine J_icmp_eq 1315 G dL_law_373 (by decide) ?_ ?_
                  · refine J_iinc (lv' := [(3, vI (i1 + 5)), (0, Value.ref b), (1, vR (uB u) 0), (2, vR (uB u) 149)]) G 3 dL_law_1315 rfl (by decide) rfl ?_
                    refine J_goto 18 G dL_law_1318 (by decide) ?_
                    refine J_lv [1, 2, 3, 0] rfl ?_
                    exact ih (i1 + 5) m33
                  · exact J_none
                · skip
                  refine J_split (fun hs34 => ?_) (fun hs34 => ?_)
                  · refine J_tableIn (off := 346) 378 G dL_law_32 hs34 (by decide) (by decide) (by decide) (by decide) ?_
                    refine J_aload_n G 1 dL_law_378 rfl ?_
                    refine J_aload_nX G 0 dL_law_379 rfl ?_
                    refine J_iload_n G 3 dL_law_380 rfl ?_
                    refine J_iconst G dL_law_381 ?_
                    refine J_iadd G dL_law_382 ?_
                    refine J_sld G C dL_law_383 ?_
                    refine J_aload_nX G 0 dL_law_384 rfl ?_
                    refine J_iload_n G 3 dL_law_385 rfl ?_
                    refine J_iconst G dL_law_386 ?_
                    refine J_iadd G dL_law_387 ?_
                    refine J_sld G C dL_law_388 ?_
                    refine J_cVwI (As := [vI (scI xs (s32 (i1 + 1))), vI (scI xs (s32 (i1 + 2)))]) G (mX8_heavier u (scI xs (s32 (i1 + 1))) (scI xs (s32 (i1 + 2))) m2) sg_X8_heavier sv_X8_heavier wm_L_40 cls_8 kd_0 rfl ⟨by decide, by decide⟩ rfl rfl (Nat.le_of_ble_eq_true rfl) dL_law_389 ?_
                    intro r35 m36
                    refine J_aload_n G 2 dL_law_392 rfl ?_
                    refine J_aload_nX G 0 dL_law_393 rfl ?_
                    refine J_iload_n G 3 dL_law_394 rfl ?_
                    refine J_iconst G dL_law_395 ?_
                    refine J_iadd G dL_law_396 ?_
                    refine J_sld G C dL_law_397 ?_
                    refine J_aload_nX G 0 dL_law_398 rfl ?_
                    refine J_iload_n G 3 dL_law_399 rfl ?_
                    refine J_iconst G dL_law_400 ?_
                    refine J_iadd G dL_law_401 ?_
                    refine J_sld G C dL_law_402 ?_
                    refine J_cVwI (As := [vI (scI xs (s32 (i1 + 1))), vI (scI xs (s32 (i1 + 2)))]) G (mX9_heavier u (scI xs (s32 (i1 + 1))) (scI xs (s32 (i1 + 2))) m36) sg_X9_heavier sv_X9_heavier wm_L_43 cls_9 kd_149 rfl ⟨by decide, by decide⟩ rfl rfl (Nat.le_of_ble_eq_true rfl) dL_law_403 ?_
                    intro r37 m38
                    refine J_icmp_eq 1315 G dL_law_406 (by decide) ?_ ?_
                    · refine J_iinc (lv' := [(3, vI (i1 + 5)), (0, Value.ref b), (1, vR (uB u) 0), (2, vR (uB u) 149)]) G 3 dL_law_1315 rfl (by decide) rfl ?_
                      refine J_goto 18 G dL_law_1318 (by decide) ?_
                      refine J_lv [1, 2, 3, 0] rfl ?_
                      exact ih (i1 + 5) m38
                    · exact J_none
                  · skip
                    refine J_split (fun hs39 => ?_) (fun hs39 => ?_)
                    · refine J_tableIn (off := 379) 411 G dL_law_32 hs39 (by decide) (by decide) (by decide) (by decide) ?_
                      refine J_aload_n G 1 dL_law_411 rfl ?_
                      refine J_aload_nX G 0 dL_law_412 rfl ?_
                      refine J_iload_n G 3 dL_law_413 rfl ?_
                      refine J_iconst G dL_law_414 ?_
                      refine J_iadd G dL_law_415 ?_
                      refine J_sld G C dL_law_416 ?_
                      refine J_cVwI (As := [vI (scI xs (s32 (i1 + 1)))]) G (mX8_lift u (scI xs (s32 (i1 + 1))) m2) sg_X8_lift sv_X8_lift wm_L_44 cls_8 kd_0 rfl ⟨by decide, by decide⟩ rfl rfl (Nat.le_of_ble_eq_true rfl) dL_law_417 ?_
                      intro r40 m41
                      refine J_aload_n G 2 dL_law_420 rfl ?_
                      refine J_aload_nX G 0 dL_law_421 rfl ?_
                      refine J_iload_n G 3 dL_law_422 rfl ?_
                      refine J_iconst G dL_law_423 ?_
                      refine J_iadd G dL_law_424 ?_
                      refine J_sld G C dL_law_425 ?_
                      refine J_cVwI (As := [vI (scI xs (s32 (i1 + 1)))]) G (mX9_lift u (scI xs (s32 (i1 + 1))) m41) sg_X9_lift sv_X9_lift wm_L_47 cls_9 kd_149 rfl ⟨by decide, by decide⟩ rfl rfl (Nat.le_of_ble_eq_true rfl) dL_law_426 ?_
                      intro r42 m43
                      refine J_icmp_eq 1315 G dL_law_429 (by decide) ?_ ?_
                      · refine J_iinc (lv' := [(3, vI (i1 + 5)), (0, Value.ref b), (1, vR (uB u) 0), (2, vR (uB u) 149)]) G 3 dL_law_1315 rfl (by decide) rfl ?_
                        refine J_goto 18 G dL_law_1318 (by decide) ?_
                        refine J_lv [1, 2, 3, 0] rfl ?_
                        exact ih (i1 + 5) m43
                      · exact J_none
                    · skip
                      refine J_split (fun hs44 => ?_) (fun hs44 => ?_)
                      · refine J_tableIn (off := 402) 434 G dL_law_32 hs44 (by decide) (by decide) (by decide) (by decide) ?_
                        refine J_aload_n G 1 dL_law_434 rfl ?_
                        refine J_aload_nX G 0 dL_law_435 rfl ?_
                        refine J_iload_n G 3 dL_law_436 rfl ?_
                        refine J_iconst G dL_law_437 ?_
                        refine J_iadd G dL_law_438 ?_
                        refine J_sld G C dL_law_439 ?_
                        refine J_aload_nX G 0 dL_law_440 rfl ?_
                        refine J_iload_n G 3 dL_law_441 rfl ?_
                        refine J_iconst G dL_law_442 ?_
                        refine J_iadd G dL_law_443 ?_
                        refine J_sld G C dL_law_444 ?_
                        refine J_cVwI (As := [vI (scI xs (s32 (i1 + 1))), vI (scI xs (s32 (i1 + 2)))]) G (mX8_axle u (scI xs (s32 (i1 + 1))) (scI xs (s32 (i1 + 2))) m2) sg_X8_axle sv_X8_axle wm_L_48 cls_8 kd_0 rfl ⟨by decide, by decide⟩ rfl rfl (Nat.le_of_ble_eq_true rfl) dL_law_445 ?_
                        intro r45 m46
                        refine J_aload_n G 2 dL_law_448 rfl ?_
                        refine J_aload_nX G 0 dL_law_449 rfl ?_
                        refine J_iload_n G 3 dL_law_450 rfl ?_
                        refine J_iconst G dL_law_451 ?_
                        refine J_iadd G dL_law_452 ?_
                        refine J_sld G C dL_law_453 ?_
                        refine J_aload_nX G 0 dL_law_454 rfl ?_
                        refine J_iload_n G 3 dL_law_455 rfl ?_
                        refine J_iconst G dL_law_456 ?_
                        refine J_iadd G dL_law_457 ?_
                        refine J_sld G C dL_law_458 ?_
                        refine J_cVwI (As := [vI (scI xs (s32 (i1 + 1))), vI (scI xs (s32 (i1 + 2)))]) G (mX9_axle u (scI xs (s32 (i1 + 1))) (scI xs (s32 (i1 + 2))) m46) sg_X9_axle sv_X9_axle wm_L_51 cls_9 kd_149 rfl ⟨by decide, by decide⟩ rfl rfl (Nat.le_of_ble_eq_true rfl) dL_law_459 ?_
                        intro r47 m48
                        refine J_icmp_eq 1315 G dL_law_462 (by decide) ?_ ?_
                        · refine J_iinc (lv' := [(3, vI (i1 + 5)), (0, Value.ref b), (1, vR (uB u) 0), (2, vR (uB u) 149)]) G 3 dL_law_1315 rfl (by decide) rfl ?_
                          refine J_goto 18 G dL_law_1318 (by decide) ?_
                          refine J_lv [1, 2, 3, 0] rfl ?_
                          exact ih (i1 + 5) m48
                        · exact J_none
                      · skip
                        refine J_split (fun hs49 => ?_) (fun hs49 => ?_)
                        · refine J_tableIn (off := 435) 467 G dL_law_32 hs49 (by decide) (by decide) (by decide) (by decide) ?_
                          refine J_aload_n G 1 dL_law_467 rfl ?_
                          refine J_cVwI (As := []) G (mX8_unhitch u m2) sg_X8_unhitch sv_X8_unhitch wm_L_52 cls_8 kd_0 rfl ⟨by decide, by decide⟩ rfl rfl (Nat.le_of_ble_eq_true rfl) dL_law_468 ?_
                          intro r50 m51
                          refine J_aload_n G 2 dL_law_471 rfl ?_
                          refine J_cVwI (As := []) G (mX9_unhitch u m51) sg_X9_unhitch sv_X9_unhitch wm_L_56 cls_9 kd_149 rfl ⟨by decide, by decide⟩ rfl rfl (Nat.le_of_ble_eq_true rfl) dL_law_472 ?_
                          intro r52 m53
                          refine J_icmp_eq 1315 G dL_law_475 (by decide) ?_ ?_
                          · refine J_iinc (lv' := [(3, vI (i1 + 5)), (0, Value.ref b), (1, vR (uB u) 0), (2, vR (uB u) 149)]) G 3 dL_law_1315 rfl (by decide) rfl ?_
                            refine J_goto 18 G dL_law_1318 (by decide) ?_
                            refine J_lv [1, 2, 3, 0] rfl ?_
                            exact ih (i1 + 5) m53
                          · exact J_none
                        · skip
                          refine J_split (fun hs54 => ?_) (fun hs54 => ?_)
                          · refine J_tableIn (off := 448) 480 G dL_law_32 hs54 (by decide) (by decide) (by decide) (by decide) ?_
                            refine J_aload_n G 1 dL_law_480 rfl ?_
                            refine J_aload_nX G 0 dL_law_481 rfl ?_
                            refine J_iload_n G 3 dL_law_482 rfl ?_
                            refine J_iconst G dL_law_483 ?_
                            refine J_iadd G dL_law_484 ?_
                            refine J_sld G C dL_law_485 ?_
                            refine J_aload_nX G 0 dL_law_486 rfl ?_
                            refine J_iload_n G 3 dL_law_487 rfl ?_
                            refine J_iconst G dL_law_488 ?_
                            refine J_iadd G dL_law_489 ?_
                            refine J_sld G C dL_law_490 ?_
                            refine J_cVpI (As := [vI (scI xs (s32 (i1 + 1))), vI (scI xs (s32 (i1 + 2)))]) G (mX8_loadOf u (scI xs (s32 (i1 + 1))) (scI xs (s32 (i1 + 2))) m2) sg_X8_loadOf sv_X8_loadOf wm_L_57 cls_8 kd_0 rfl ⟨by decide, by decide⟩ rfl rfl (Nat.le_of_ble_eq_true rfl) dL_law_491 ?_
                            intro r55
                            refine J_aload_n G 2 dL_law_494 rfl ?_
                            refine J_aload_nX G 0 dL_law_495 rfl ?_
                            refine J_iload_n G 3 dL_law_496 rfl ?_
                            refine J_iconst G dL_law_497 ?_
                            refine J_iadd G dL_law_498 ?_
                            refine J_sld G C dL_law_499 ?_
                            refine J_aload_nX G 0 dL_law_500 rfl ?_
                            refine J_iload_n G 3 dL_law_501 rfl ?_
                            refine J_iconst G dL_law_502 ?_
                            refine J_iadd G dL_law_503 ?_
                            refine J_sld G C dL_law_504 ?_
                            refine J_cVpI (As := [vI (scI xs (s32 (i1 + 1))), vI (scI xs (s32 (i1 + 2)))]) G (mX9_loadOf u (scI xs (s32 (i1 + 1))) (scI xs (s32 (i1 + 2))) m2) sg_X9_loadOf sv_X9_loadOf wm_L_60 cls_9 kd_149 rfl ⟨by decide, by decide⟩ rfl rfl (Nat.le_of_ble_eq_true rfl) dL_law_505 ?_
                            intro r56
                            refine J_icmp_eq 1315 G dL_law_508 (by decide) ?_ ?_
                            · refine J_iinc (lv' := [(3, vI (i1 + 5)), (0, Value.ref b), (1, vR (uB u) 0), (2, vR (uB u) 149)]) G 3 dL_law_1315 rfl (by decide) rfl ?_
                              refine J_goto 18 G dL_law_1318 (by decide) ?_
                              refine J_lv [1, 2, 3, 0] rfl ?_
                              exact ih (i1 + 5) m2
                            · exact J_none
                          · skip
                            refine J_split (fun hs57 => ?_) (fun hs57 => ?_)
                            · refine J_tableIn (off := 481) 513 G dL_law_32 hs57 (by decide) (by decide) (by decide) (by decide) ?_
                              refine J_aload_n G 1 dL_law_513 rfl ?_
                              refine J_aload_nX G 0 dL_law_514 rfl ?_
                              refine J_iload_n G 3 dL_law_515 rfl ?_
                              refine J_iconst G dL_law_516 ?_
                              refine J_iadd G dL_law_517 ?_
                              refine J_sld G C dL_law_518 ?_
                              refine J_aload_nX G 0 dL_law_519 rfl ?_
                              refine J_iload_n G 3 dL_law_520 rfl ?_
                              refine J_iconst G dL_law_521 ?_
                              refine J_iadd G dL_law_522 ?_
                              refine J_sld G C dL_law_523 ?_
                              refine J_cVpI (As := [vI (scI xs (s32 (i1 + 1))), vI (scI xs (s32 (i1 + 2)))]) G (mX8_supportOf u (scI xs (s32 (i1 + 1))) (scI xs (s32 (i1 + 2))) m2) sg_X8_supportOf sv_X8_supportOf wm_L_61 cls_8 kd_0 rfl ⟨by decide, by decide⟩ rfl rfl (Nat.le_of_ble_eq_true rfl) dL_law_524 ?_
                              intro r58
                              refine J_aload_n G 2 dL_law_527 rfl ?_
                              refine J_aload_nX G 0 dL_law_528 rfl ?_
                              refine J_iload_n G 3 dL_law_529 rfl ?_
                              refine J_iconst G dL_law_530 ?_
                              refine J_iadd G dL_law_531 ?_
                              refine J_sld G C dL_law_532 ?_
                              refine J_aload_nX G 0 dL_law_533 rfl ?_
                              refine J_iload_n G 3 dL_law_534 rfl ?_
                              refine J_iconst G dL_law_535 ?_
                              refine J_iadd G dL_law_536 ?_
                              refine J_sld G C dL_law_537 ?_
                              refine J_cVpI (As := [vI (scI xs (s32 (i1 + 1))), vI (scI xs (s32 (i1 + 2)))]) G (mX9_supportOf u (scI xs (s32 (i1 + 1))) (scI xs (s32 (i1 + 2))) m2) sg_X9_supportOf sv_X9_supportOf wm_L_64 cls_9 kd_149 rfl ⟨by decide, by decide⟩ rfl rfl (Nat.le_of_ble_eq_true rfl) dL_law_538 ?_
                              intro r59
                              refine J_icmp_eq 1315 G dL_law_541 (by decide) ?_ ?_
                              · refine J_iinc (lv' := [(3, vI (i1 + 5)), (0, Value.ref b), (1, vR (uB u) 0), (2, vR (uB u) 149)]) G 3 dL_law_1315 rfl (by decide) rfl ?_
                                refine J_goto 18 G dL_law_1318 (by decide) ?_
                                refine J_lv [1, 2, 3, 0] rfl ?_
                                exact ih (i1 + 5) m2
                              · exact J_none
                            · skip
                              refine J_split (fun hs60 => ?_) (fun hs60 => ?_)
                              · refine J_tableIn (off := 514) 546 G dL_law_32 hs60 (by decide) (by decide) (by decide) (by decide) ?_
                                refine J_aload_n G 1 dL_law_546 rfl ?_
                                refine J_aload_nX G 0 dL_law_547 rfl ?_
                                refine J_iload_n G 3 dL_law_548 rfl ?_
                                refine J_iconst G dL_law_549 ?_
                                refine J_iadd G dL_law_550 ?_
                                refine J_sld G C dL_law_551 ?_
                                refine J_cVpI (As := [vI (scI xs (s32 (i1 + 1)))]) G (mX8_count u (scI xs (s32 (i1 + 1))) m2) sg_X8_count sv_X8_count wm_L_65 cls_8 kd_0 rfl ⟨by decide, by decide⟩ rfl rfl (Nat.le_of_ble_eq_true rfl) dL_law_552 ?_
                                intro r61
                                refine J_aload_n G 2 dL_law_555 rfl ?_
                                refine J_aload_nX G 0 dL_law_556 rfl ?_
                                refine J_iload_n G 3 dL_law_557 rfl ?_
                                refine J_iconst G dL_law_558 ?_
                                refine J_iadd G dL_law_559 ?_
                                refine J_sld G C dL_law_560 ?_
                                refine J_cVpI (As := [vI (scI xs (s32 (i1 + 1)))]) G (mX9_count u (scI xs (s32 (i1 + 1))) m2) sg_X9_count sv_X9_count wm_L_68 cls_9 kd_149 rfl ⟨by decide, by decide⟩ rfl rfl (Nat.le_of_ble_eq_true rfl) dL_law_561 ?_
                                intro r62
                                refine J_icmp_eq 1315 G dL_law_564 (by decide) ?_ ?_
                                · refine J_iinc (lv' := [(3, vI (i1 + 5)), (0, Value.ref b), (1, vR (uB u) 0), (2, vR (uB u) 149)]) G 3 dL_law_1315 rfl (by decide) rfl ?_
                                  refine J_goto 18 G dL_law_1318 (by decide) ?_
                                  refine J_lv [1, 2, 3, 0] rfl ?_
                                  exact ih (i1 + 5) m2
                                · exact J_none
                              · skip
                                refine J_split (fun hs63 => ?_) (fun hs63 => ?_)
                                · refine J_tableIn (off := 537) 569 G dL_law_32 hs63 (by decide) (by decide) (by decide) (by decide) ?_
                                  refine J_aload_n G 1 dL_law_569 rfl ?_
                                  refine J_aload_nX G 0 dL_law_570 rfl ?_
                                  refine J_iload_n G 3 dL_law_571 rfl ?_
                                  refine J_iconst G dL_law_572 ?_
                                  refine J_iadd G dL_law_573 ?_
                                  refine J_sld G C dL_law_574 ?_
                                  refine J_aload_nX G 0 dL_law_575 rfl ?_
                                  refine J_iload_n G 3 dL_law_576 rfl ?_
                                  refine J_iconst G dL_law_577 ?_
                                  refine J_iadd G dL_law_578 ?_
                                  refine J_sld G C dL_law_579 ?_
                                  refine J_cVwL (As := [vI (scI xs (s32 (i1 + 1))), vI (scI xs (s32 (i1 + 2)))]) G (mX8_reaction u (scI xs (s32 (i1 + 1))) (scI xs (s32 (i1 + 2))) m2) sg_X8_reaction sv_X8_reaction wm_L_69 cls_8 kd_0 rfl ⟨by decide, by decide⟩ rfl rfl (Nat.le_of_ble_eq_true rfl) dL_law_580 ?_
                                  intro r64 m65
                                  refine J_aload_n G 2 dL_law_583 rfl ?_
                                  refine J_aload_nX G 0 dL_law_584 rfl ?_
                                  refine J_iload_n G 3 dL_law_585 rfl ?_
                                  refine J_iconst G dL_law_586 ?_
                                  refine J_iadd G dL_law_587 ?_
                                  refine J_sld G C dL_law_588 ?_
                                  refine J_aload_nX G 0 dL_law_589 rfl ?_
                                  refine J_iload_n G 3 dL_law_590 rfl ?_
                                  refine J_iconst G dL_law_591 ?_
                                  refine J_iadd G dL_law_592 ?_
                                  refine J_sld G C dL_law_593 ?_
                                  refine J_cVwL (As := [vI (scI xs (s32 (i1 + 1))), vI (scI xs (s32 (i1 + 2)))]) G (mX9_reaction u (scI xs (s32 (i1 + 1))) (scI xs (s32 (i1 + 2))) m65) sg_X9_reaction sv_X9_reaction wm_L_73 cls_9 kd_149 rfl ⟨by decide, by decide⟩ rfl rfl (Nat.le_of_ble_eq_true rfl) dL_law_594 ?_
                                  intro r66 m67
                                  refine J_lcmp_eq 1315 G dL_law_597 dL_law_598 (by decide) ?_ ?_
                                  · refine J_iinc (lv' := [(3, vI (i1 + 5)), (0, Value.ref b), (1, vR (uB u) 0), (2, vR (uB u) 149)]) G 3 dL_law_1315 rfl (by decide) rfl ?_
                                    refine J_goto 18 G dL_law_1318 (by decide) ?_
                                    refine J_lv [1, 2, 3, 0] rfl ?_
                                    exact ih (i1 + 5) m67
                                  · exact J_none
                                · skip
                                  refine J_split (fun hs68 => ?_) (fun hs68 => ?_)
                                  · refine J_tableIn (off := 571) 603 G dL_law_32 hs68 (by decide) (by decide) (by decide) (by decide) ?_
                                    refine J_aload_n G 1 dL_law_603 rfl ?_
                                    refine J_aload_nX G 0 dL_law_604 rfl ?_
                                    refine J_iload_n G 3 dL_law_605 rfl ?_
                                    refine J_iconst G dL_law_606 ?_
                                    refine J_iadd G dL_law_607 ?_
                                    refine J_sld G C dL_law_608 ?_
                                    refine J_aload_nX G 0 dL_law_609 rfl ?_
                                    refine J_iload_n G 3 dL_law_610 rfl ?_
                                    refine J_iconst G dL_law_611 ?_
                                    refine J_iadd G dL_law_612 ?_
                                    refine J_sld G C dL_law_613 ?_
                                    refine J_cVwL (As := [vI (scI xs (s32 (i1 + 1))), vI (scI xs (s32 (i1 + 2)))]) G (mX8_shear u (scI xs (s32 (i1 + 1))) (scI xs (s32 (i1 + 2))) m2) sg_X8_shear sv_X8_shear wm_L_74 cls_8 kd_0 rfl ⟨by decide, by decide⟩ rfl rfl (Nat.le_of_ble_eq_true rfl) dL_law_614 ?_
                                    intro r69 m70
                                    refine J_aload_n G 2 dL_law_617 rfl ?_
                                    refine J_aload_nX G 0 dL_law_618 rfl ?_
                                    refine J_iload_n G 3 dL_law_619 rfl ?_
                                    refine J_iconst G dL_law_620 ?_
                                    refine J_iadd G dL_law_621 ?_
                                    refine J_sld G C dL_law_622 ?_
                                    refine J_aload_nX G 0 dL_law_623 rfl ?_
                                    refine J_iload_n G 3 dL_law_624 rfl ?_
                                    refine J_iconst G dL_law_625 ?_
                                    refine J_iadd G dL_law_626 ?_
                                    refine J_sld G C dL_law_627 ?_
                                    refine J_cVwL (As := [vI (scI xs (s32 (i1 + 1))), vI (scI xs (s32 (i1 + 2)))]) G (mX9_shear u (scI xs (s32 (i1 + 1))) (scI xs (s32 (i1 + 2))) m70) sg_X9_shear sv_X9_shear wm_L_77 cls_9 kd_149 rfl ⟨by decide, by decide⟩ rfl rfl (Nat.le_of_ble_eq_true rfl) dL_law_628 ?_
                                    intro r71 m72
                                    refine J_lcmp_eq 1315 G dL_law_631 dL_law_632 (by decide) ?_ ?_
                                    · refine J_iinc (lv' := [(3, vI (i1 + 5)), (0, Value.ref b), (1, vR (uB u) 0), (2, vR (uB u) 149)]) G 3 dL_law_1315 rfl (by decide) rfl ?_
                                      refine J_goto 18 G dL_law_1318 (by decide) ?_
                                      refine J_lv [1, 2, 3, 0] rfl ?_
                                      exact ih (i1 + 5) m72
                                    · exact J_none
                                  · skip
                                    refine J_split (fun hs73 => ?_) (fun hs73 => ?_)
                                    · refine J_tableIn (off := 605) 637 G dL_law_32 hs73 (by decide) (by decide) (by decide) (by decide) ?_
                                      refine J_aload_n G 1 dL_law_637 rfl ?_
                                      refine J_aload_nX G 0 dL_law_638 rfl ?_
                                      refine J_iload_n G 3 dL_law_639 rfl ?_
                                      refine J_iconst G dL_law_640 ?_
                                      refine J_iadd G dL_law_641 ?_
                                      refine J_sld G C dL_law_642 ?_
                                      refine J_aload_nX G 0 dL_law_643 rfl ?_
                                      refine J_iload_n G 3 dL_law_644 rfl ?_
                                      refine J_iconst G dL_law_645 ?_
                                      refine J_iadd G dL_law_646 ?_
                                      refine J_sld G C dL_law_647 ?_
                                      refine J_aload_nX G 0 dL_law_648 rfl ?_
                                      refine J_iload_n G 3 dL_law_649 rfl ?_
                                      refine J_iconst G dL_law_650 ?_
                                      refine J_iadd G dL_law_651 ?_
                                      refine J_sld G C dL_law_652 ?_
                                      refine J_cVwL (As := [vI (scI xs (s32 (i1 + 1))), vI (scI xs (s32 (i1 + 2))), vI (scI xs (s32 (i1 + 3)))]) G (mX8_moment u (scI xs (s32 (i1 + 1))) (scI xs (s32 (i1 + 2))) (scI xs (s32 (i1 + 3))) m2) sg_X8_moment sv_X8_moment wm_L_78 cls_8 kd_0 rfl ⟨by decide, by decide⟩ rfl rfl (Nat.le_of_ble_eq_true rfl) dL_law_653 ?_
                                      intro r74 m75
                                      refine J_aload_n G 2 dL_law_656 rfl ?_
                                      refine J_aload_nX G 0 dL_law_657 rfl ?_
                                      refine J_iload_n G 3 dL_law_658 rfl ?_
                                      refine J_iconst G dL_law_659 ?_
                                      refine J_iadd G dL_law_660 ?_
                                      refine J_sld G C dL_law_661 ?_
                                      refine J_aload_nX G 0 dL_law_662 rfl ?_
                                      refine J_iload_n G 3 dL_law_663 rfl ?_
                                      refine J_iconst G dL_law_664 ?_
                                      refine J_iadd G dL_law_665 ?_
                                      refine J_sld G C dL_law_666 ?_
                                      refine J_aload_nX G 0 dL_law_667 rfl ?_
                                      refine J_iload_n G 3 dL_law_668 rfl ?_
                                      refine J_iconst G dL_law_669 ?_
                                      refine J_iadd G dL_law_670 ?_
                                      refine J_sld G C dL_law_671 ?_
                                      refine J_cVwL (As := [vI (scI xs (s32 (i1 + 1))), vI (scI xs (s32 (i1 + 2))), vI (scI xs (s32 (i1 + 3)))]) G (mX9_moment u (scI xs (s32 (i1 + 1))) (scI xs (s32 (i1 + 2))) (scI xs (s32 (i1 + 3))) m75) sg_X9_moment sv_X9_moment wm_L_82 cls_9 kd_149 rfl ⟨by decide, by decide⟩ rfl rfl (Nat.le_of_ble_eq_true rfl) dL_law_672 ?_
                                      intro r76 m77
                                      refine J_lcmp_eq 1315 G dL_law_675 dL_law_676 (by decide) ?_ ?_
                                      · refine J_iinc (lv' := [(3, vI (i1 + 5)), (0, Value.ref b), (1, vR (uB u) 0), (2, vR (uB u) 149)]) G 3 dL_law_1315 rfl (by decide) rfl ?_
                                        refine J_goto 18 G dL_law_1318 (by decide) ?_
                                        refine J_lv [1, 2, 3, 0] rfl ?_
                                        exact ih (i1 + 5) m77
                                      · exact J_none
                                    · skip
                                      refine J_split (fun hs78 => ?_) (fun hs78 => ?_)
                                      · refine J_tableIn (off := 649) 681 G dL_law_32 hs78 (by decide) (by decide) (by decide) (by decide) ?_
                                        refine J_aload_n G 1 dL_law_681 rfl ?_
                                        refine J_aload_nX G 0 dL_law_682 rfl ?_
                                        refine J_iload_n G 3 dL_law_683 rfl ?_
                                        refine J_iconst G dL_law_684 ?_
                                        refine J_iadd G dL_law_685 ?_
                                        refine J_sld G C dL_law_686 ?_
                                        refine J_aload_nX G 0 dL_law_687 rfl ?_
                                        refine J_iload_n G 3 dL_law_688 rfl ?_
                                        refine J_iconst G dL_law_689 ?_
                                        refine J_iadd G dL_law_690 ?_
                                        refine J_sld G C dL_law_691 ?_
                                        refine J_cVwL (As := [vI (scI xs (s32 (i1 + 1))), vI (scI xs (s32 (i1 + 2)))]) G (mX8_sag u (scI xs (s32 (i1 + 1))) (scI xs (s32 (i1 + 2))) m2) sg_X8_sag sv_X8_sag wm_L_83 cls_8 kd_0 rfl ⟨by decide, by decide⟩ rfl rfl (Nat.le_of_ble_eq_true rfl) dL_law_692 ?_
                                        intro r79 m80
                                        refine J_aload_n G 2 dL_law_695 rfl ?_
                                        refine J_aload_nX G 0 dL_law_696 rfl ?_
                                        refine J_iload_n G 3 dL_law_697 rfl ?_
                                        refine J_iconst G dL_law_698 ?_
                                        refine J_iadd G dL_law_699 ?_
                                        refine J_sld G C dL_law_700 ?_
                                        refine J_aload_nX G 0 dL_law_701 rfl ?_
                                        refine J_iload_n G 3 dL_law_702 rfl ?_
                                        refine J_iconst G dL_law_703 ?_
                                        refine J_iadd G dL_law_704 ?_
                                        refine J_sld G C dL_law_705 ?_
                                        refine J_cVwL (As := [vI (scI xs (s32 (i1 + 1))), vI (scI xs (s32 (i1 + 2)))]) G (mX9_sag u (scI xs (s32 (i1 + 1))) (scI xs (s32 (i1 + 2))) m80) sg_X9_sag sv_X9_sag wm_L_86 cls_9 kd_149 rfl ⟨by decide, by decide⟩ rfl rfl (Nat.le_of_ble_eq_true rfl) dL_law_706 ?_
                                        intro r81 m82
                                        refine J_lcmp_eq 1315 G dL_law_709 dL_law_710 (by decide) ?_ ?_
                                        · refine J_iinc (lv' := [(3, vI (i1 + 5)), (0, Value.ref b), (1, vR (uB u) 0), (2, vR (uB u) 149)]) G 3 dL_law_1315 rfl (by decide) rfl ?_
                                          refine J_goto 18 G dL_law_1318 (by decide) ?_
                                          refine J_lv [1, 2, 3, 0] rfl ?_
                                          exact ih (i1 + 5) m82
                                        · exact J_none
                                      · skip
                                        refine J_split (fun hs83 => ?_) (fun hs83 => ?_)
                                        · refine J_tableIn (off := 683) 715 G dL_law_32 hs83 (by decide) (by decide) (by decide) (by decide) ?_
                                          refine J_aload_n G 1 dL_law_715 rfl ?_
                                          refine J_aload_nX G 0 dL_law_716 rfl ?_
                                          refine J_iload_n G 3 dL_law_717 rfl ?_
                                          refine J_iconst G dL_law_718 ?_
                                          refine J_iadd G dL_law_719 ?_
                                          refine J_sld G C dL_law_720 ?_
                                          refine J_aload_nX G 0 dL_law_721 rfl ?_
                                          refine J_iload_n G 3 dL_law_722 rfl ?_
                                          refine J_iconst G dL_law_723 ?_
                                          refine J_iadd G dL_law_724 ?_
                                          refine J_sld G C dL_law_725 ?_
                                          refine J_cVwL (As := [vI (scI xs (s32 (i1 + 1))), vI (scI xs (s32 (i1 + 2)))]) G (mX8_greatest u (scI xs (s32 (i1 + 1))) (scI xs (s32 (i1 + 2))) m2) sg_X8_greatest sv_X8_greatest wm_L_87 cls_8 kd_0 rfl ⟨by decide, by decide⟩ rfl rfl (Nat.le_of_ble_eq_true rfl) dL_law_726 ?_
                                          intro r84 m85
                                          refine J_aload_n G 2 dL_law_729 rfl ?_
                                          refine J_aload_nX G 0 dL_law_730 rfl ?_
                                          refine J_iload_n G 3 dL_law_731 rfl ?_
                                          refine J_iconst G dL_law_732 ?_
                                          refine J_iadd G dL_law_733 ?_
                                          refine J_sld G C dL_law_734 ?_
                                          refine J_aload_nX G 0 dL_law_735 rfl ?_
                                          refine J_iload_n G 3 dL_law_736 rfl ?_
                                          refine J_iconst G dL_law_737 ?_
                                          refine J_iadd G dL_law_738 ?_
                                          refine J_sld G C dL_law_739 ?_
                                          refine J_cVwL (As := [vI (scI xs (s32 (i1 + 1))), vI (scI xs (s32 (i1 + 2)))]) G (mX9_greatest u (scI xs (s32 (i1 + 1))) (scI xs (s32 (i1 + 2))) m85) sg_X9_greatest sv_X9_greatest wm_L_90 cls_9 kd_149 rfl ⟨by decide, by decide⟩ rfl rfl (Nat.le_of_ble_eq_true rfl) dL_law_740 ?_
                                          intro r86 m87
                                          refine J_lcmp_eq 1315 G dL_law_743 dL_law_744 (by decide) ?_ ?_
                                          · refine J_iinc (lv' := [(3, vI (i1 + 5)), (0, Value.ref b), (1, vR (uB u) 0), (2, vR (uB u) 149)]) G 3 dL_law_1315 rfl (by decide) rfl ?_
                                            refine J_goto 18 G dL_law_1318 (by decide) ?_
                                            refine J_lv [1, 2, 3, 0] rfl ?_
                                            exact ih (i1 + 5) m87
                                          · exact J_none
                                        · skip
                                          refine J_split (fun hs88 => ?_) (fun hs88 => ?_)
                                          · refine J_tableIn (off := 717) 749 G dL_law_32 hs88 (by decide) (by decide) (by decide) (by decide) ?_
                                            refine J_aload_n G 1 dL_law_749 rfl ?_
                                            refine J_cVwI (As := []) G (mX8_lowest u m2) sg_X8_lowest sv_X8_lowest wm_L_91 cls_8 kd_0 rfl ⟨by decide, by decide⟩ rfl rfl (Nat.le_of_ble_eq_true rfl) dL_law_750 ?_
                                            intro r89 m90
                                            refine J_aload_n G 2 dL_law_753 rfl ?_
                                            refine J_cVwI (As := []) G (mX9_lowest u m90) sg_X9_lowest sv_X9_lowest wm_L_94 cls_9 kd_149 rfl ⟨by decide, by decide⟩ rfl rfl (Nat.le_of_ble_eq_true rfl) dL_law_754 ?_
                                            intro r91 m92
                                            refine J_icmp_eq 1315 G dL_law_757 (by decide) ?_ ?_
                                            · refine J_iinc (lv' := [(3, vI (i1 + 5)), (0, Value.ref b), (1, vR (uB u) 0), (2, vR (uB u) 149)]) G 3 dL_law_1315 rfl (by decide) rfl ?_
                                              refine J_goto 18 G dL_law_1318 (by decide) ?_
                                              refine J_lv [1, 2, 3, 0] rfl ?_
                                              exact ih (i1 + 5) m92
                                            · exact J_none
                                          · skip
                                            refine J_split (fun hs93 => ?_) (fun hs93 => ?_)
                                            · refine J_tableIn (off := 730) 762 G dL_law_32 hs93 (by decide) (by decide) (by decide) (by decide) ?_
                                              refine J_aload_n G 1 dL_law_762 rfl ?_
                                              refine J_aload_nX G 0 dL_law_763 rfl ?_
                                              refine J_iload_n G 3 dL_law_764 rfl ?_
                                              refine J_iconst G dL_law_765 ?_
                                              refine J_iadd G dL_law_766 ?_
                                              refine J_sld G C dL_law_767 ?_
                                              refine J_cVwI (As := [vI (scI xs (s32 (i1 + 1)))]) G (mX8_times u (scI xs (s32 (i1 + 1))) m2) sg_X8_times sv_X8_times wm_L_95 cls_8 kd_0 rfl ⟨by decide, by decide⟩ rfl rfl (Nat.le_of_ble_eq_true rfl) dL_law_768 ?_
                                              intro r94 m95
                                              refine J_aload_n G 2 dL_law_771 rfl ?_
                                              refine J_aload_nX G 0 dL_law_772 rfl ?_
                                              refine J_iload_n G 3 dL_law_773 rfl ?_
                                              refine J_iconst G dL_law_774 ?_
                                              refine J_iadd G dL_law_775 ?_
                                              refine J_sld G C dL_law_776 ?_
                                              refine J_cVwI (As := [vI (scI xs (s32 (i1 + 1)))]) G (mX9_times u (scI xs (s32 (i1 + 1))) m95) sg_X9_times sv_X9_times wm_L_98 cls_9 kd_149 rfl ⟨by decide, by decide⟩ rfl rfl (Nat.le_of_ble_eq_true rfl) dL_law_777 ?_
                                              intro r96 m97
                                              refine J_icmp_eq 1315 G dL_law_780 (by decide) ?_ ?_
                                              · refine J_iinc (lv' := [(3, vI (i1 + 5)), (0, Value.ref b), (1, vR (uB u) 0), (2, vR (uB u) 149)]) G 3 dL_law_1315 rfl (by decide) rfl ?_
                                                refine J_goto 18 G dL_law_1318 (by decide) ?_
                                                refine J_lv [1, 2, 3, 0] rfl ?_
                                                exact ih (i1 + 5) m97
                                              · exact J_none
                                            · skip
                                              refine J_split (fun hs98 => ?_) (fun hs98 => ?_)
                                              · refine J_tableIn (off := 753) 785 G dL_law_32 hs98 (by decide) (by decide) (by decide) (by decide) ?_
                                                refine J_aload_n G 1 dL_law_785 rfl ?_
                                                refine J_aload_nX G 0 dL_law_786 rfl ?_
                                                refine J_iload_n G 3 dL_law_787 rfl ?_
                                                refine J_iconst G dL_law_788 ?_
                                                refine J_iadd G dL_law_789 ?_
                                                refine J_sld G C dL_law_790 ?_
                                                refine J_aload_nX G 0 dL_law_791 rfl ?_
                                                refine J_iload_n G 3 dL_law_792 rfl ?_
                                                refine J_iconst G dL_law_793 ?_
                                                refine J_iadd G dL_law_794 ?_
                                                refine J_sld G C dL_law_795 ?_
                                                refine J_cVwL (As := [vI (scI xs (s32 (i1 + 1))), vI (scI xs (s32 (i1 + 2)))]) G (mX8_rolls u (scI xs (s32 (i1 + 1))) (scI xs (s32 (i1 + 2))) m2) sg_X8_rolls sv_X8_rolls wm_L_99 cls_8 kd_0 rfl ⟨by decide, by decide⟩ rfl rfl (Nat.le_of_ble_eq_true rfl) dL_law_796 ?_
                                                intro r99 m100
                                                refine J_aload_n G 2 dL_law_799 rfl ?_
                                                refine J_aload_nX G 0 dL_law_800 rfl ?_
                                                refine J_iload_n G 3 dL_law_801 rfl ?_
                                                refine J_iconst G dL_law_802 ?_
                                                refine J_iadd G dL_law_803 ?_
                                                refine J_sld G C dL_law_804 ?_
                                                refine J_aload_nX G 0 dL_law_805 rfl ?_
                                                refine J_iload_n G 3 dL_law_806 rfl ?_
                                                refine J_iconst G dL_law_807 ?_
                                                refine J_iadd G dL_law_808 ?_
                                                refine J_sld G C dL_law_809 ?_
                                                refine J_cVwL (As := [vI (scI xs (s32 (i1 + 1))), vI (scI xs (s32 (i1 + 2)))]) G (mX9_rolls u (scI xs (s32 (i1 + 1))) (scI xs (s32 (i1 + 2))) m100) sg_X9_rolls sv_X9_rolls wm_L_102 cls_9 kd_149 rfl ⟨by decide, by decide⟩ rfl rfl (Nat.le_of_ble_eq_true rfl) dL_law_810 ?_
                                                intro r101 m102
                                                refine J_lcmp_eq 1315 G dL_law_813 dL_law_814 (by decide) ?_ ?_
                                                · refine J_iinc (lv' := [(3, vI (i1 + 5)), (0, Value.ref b), (1, vR (uB u) 0), (2, vR (uB u) 149)]) G 3 dL_law_1315 rfl (by decide) rfl ?_
                                                  refine J_goto 18 G dL_law_1318 (by decide) ?_
                                                  refine J_lv [1, 2, 3, 0] rfl ?_
                                                  exact ih (i1 + 5) m102
                                                · exact J_none
                                              · skip
                                                refine J_split (fun hs103 => ?_) (fun hs103 => ?_)
                                                · refine J_tableIn (off := 787) 819 G dL_law_32 hs103 (by decide) (by decide) (by decide) (by decide) ?_
                                                  refine J_aload_n G 1 dL_law_819 rfl ?_
                                                  refine J_aload_nX G 0 dL_law_820 rfl ?_
                                                  refine J_iload_n G 3 dL_law_821 rfl ?_
                                                  refine J_iconst G dL_law_822 ?_
                                                  refine J_iadd G dL_law_823 ?_
                                                  refine J_sld G C dL_law_824 ?_
                                                  refine J_aload_nX G 0 dL_law_825 rfl ?_
                                                  refine J_iload_n G 3 dL_law_826 rfl ?_
                                                  refine J_iconst G dL_law_827 ?_
                                                  refine J_iadd G dL_law_828 ?_
                                                  refine J_sld G C dL_law_829 ?_
                                                  refine J_cVwL (As := [vI (scI xs (s32 (i1 + 1))), vI (scI xs (s32 (i1 + 2)))]) G (mX8_presses u (scI xs (s32 (i1 + 1))) (scI xs (s32 (i1 + 2))) m2) sg_X8_presses sv_X8_presses wm_L_103 cls_8 kd_0 rfl ⟨by decide, by decide⟩ rfl rfl (Nat.le_of_ble_eq_true rfl) dL_law_830 ?_
                                                  intro r104 m105
                                                  refine J_aload_n G 2 dL_law_833 rfl ?_
                                                  refine J_aload_nX G 0 dL_law_834 rfl ?_
                                                  refine J_iload_n G 3 dL_law_835 rfl ?_
                                                  refine J_iconst G dL_law_836 ?_
                                                  refine J_iadd G dL_law_837 ?_
                                                  refine J_sld G C dL_law_838 ?_
                                                  refine J_aload_nX G 0 dL_law_839 rfl ?_
                                                  refine J_iload_n G 3 dL_law_840 rfl ?_
                                                  refine J_iconst G dL_law_841 ?_
                                                  refine J_iadd G dL_law_842 ?_
                                                  refine J_sld G C dL_law_843 ?_
                                                  refine J_cVwL (As := [vI (scI xs (s32 (i1 + 1))), vI (scI xs (s32 (i1 + 2)))]) G (mX9_presses u (scI xs (s32 (i1 + 1))) (scI xs (s32 (i1 + 2))) m105) sg_X9_presses sv_X9_presses wm_L_106 cls_9 kd_149 rfl ⟨by decide, by decide⟩ rfl rfl (Nat.le_of_ble_eq_true rfl) dL_law_844 ?_
                                                  intro r106 m107
                                                  refine J_lcmp_eq 1315 G dL_law_847 dL_law_848 (by decide) ?_ ?_
                                                  · refine J_iinc (lv' := [(3, vI (i1 + 5)), (0, Value.ref b), (1, vR (uB u) 0), (2, vR (uB u) 149)]) G 3 dL_law_1315 rfl (by decide) rfl ?_
                                                    refine J_goto 18 G dL_law_1318 (by decide) ?_
                                                    refine J_lv [1, 2, 3, 0] rfl ?_
                                                    exact ih (i1 + 5) m107
                                                  · exact J_none
                                                · skip
                                                  refine J_split (fun hs108 => ?_) (fun hs108 => ?_)
                                                  · refine J_tableIn (off := 821) 853 G dL_law_32 hs108 (by decide) (by decide) (by decide) (by decide) ?_
                                                    refine J_aload_n G 1 dL_law_853 rfl ?_
                                                    refine J_aload_nX G 0 dL_law_854 rfl ?_
                                                    refine J_iload_n G 3 dL_law_855 rfl ?_
                                                    refine J_iconst G dL_law_856 ?_
                                                    refine J_iadd G dL_law_857 ?_
                                                    refine J_sld G C dL_law_858 ?_
                                                    refine J_aload_nX G 0 dL_law_859 rfl ?_
                                                    refine J_iload_n G 3 dL_law_860 rfl ?_
                                                    refine J_iconst G dL_law_861 ?_
                                                    refine J_iadd G dL_law_862 ?_
                                                    refine J_sld G C dL_law_863 ?_
                                                    refine J_aload_nX G 0 dL_law_864 rfl ?_
                                                    refine J_iload_n G 3 dL_law_865 rfl ?_
                                                    refine J_iconst G dL_law_866 ?_
                                                    refine J_iadd G dL_law_867 ?_
                                                    refine J_sld G C dL_law_868 ?_
                                                    refine J_cVwL (As := [vI (scI xs (s32 (i1 + 1))), vI (scI xs (s32 (i1 + 2))), vI (scI xs (s32 (i1 + 3)))]) G (mX8_unit u (scI xs (s32 (i1 + 1))) (scI xs (s32 (i1 + 2))) (scI xs (s32 (i1 + 3))) m2) sg_X8_unit sv_X8_unit wm_L_107 cls_8 kd_0 rfl ⟨by decide, by decide⟩ rfl rfl (Nat.le_of_ble_eq_true rfl) dL_law_869 ?_
                                                    intro r109 m110
                                                    refine J_aload_n G 2 dL_law_872 rfl ?_
                                                    refine J_aload_nX G 0 dL_law_873 rfl ?_
                                                    refine J_iload_n G 3 dL_law_874 rfl ?_
                                                    refine J_iconst G dL_law_875 ?_
                                                    refine J_iadd G dL_law_876 ?_
                                                    refine J_sld G C dL_law_877 ?_
                                                    refine J_aload_nX G 0 dL_law_878 rfl ?_
                                                    refine J_iload_n G 3 dL_law_879 rfl ?_
                                                    refine J_iconst G dL_law_880 ?_
                                                    refine J_iadd G dL_law_881 ?_
                                                    refine J_sld G C dL_law_882 ?_
                                                    refine J_aload_nX G 0 dL_law_883 rfl ?_
                                                    refine J_iload_n G 3 dL_law_884 rfl ?_
                                                    refine J_iconst G dL_law_885 ?_
                                                    refine J_iadd G dL_law_886 ?_
                                                    refine J_sld G C dL_law_887 ?_
                                                    refine J_cVwL (As := [vI (scI xs (s32 (i1 + 1))), vI (scI xs (s32 (i1 + 2))), vI (scI xs (s32 (i1 + 3)))]) G (mX9_unit u (scI xs (s32 (i1 + 1))) (scI xs (s32 (i1 + 2))) (scI xs (s32 (i1 + 3))) m110) sg_X9_unit sv_X9_unit wm_L_110 cls_9 kd_149 rfl ⟨by decide, by decide⟩ rfl rfl (Nat.le_of_ble_eq_true rfl) dL_law_888 ?_
                                                    intro r111 m112
                                                    refine J_lcmp_eq 1315 G dL_law_891 dL_law_892 (by decide) ?_ ?_
                                                    · refine J_iinc (lv' := [(3, vI (i1 + 5)), (0, Value.ref b), (1, vR (uB u) 0), (2, vR (uB u) 149)]) G 3 dL_law_1315 rfl (by decide) rfl ?_
                                                      refine J_goto 18 G dL_law_1318 (by decide) ?_
                                                      refine J_lv [1, 2, 3, 0] rfl ?_
                                                      exact ih (i1 + 5) m112
                                                    · exact J_none
                                                  · skip
                                                    refine J_split (fun hs113 => ?_) (fun hs113 => ?_)
                                                    · refine J_tableIn (off := 865) 897 G dL_law_32 hs113 (by decide) (by decide) (by decide) (by decide) ?_
                                                      refine J_aload_n G 1 dL_law_897 rfl ?_
                                                      refine J_aload_nX G 0 dL_law_898 rfl ?_
                                                      refine J_iload_n G 3 dL_law_899 rfl ?_
                                                      refine J_iconst G dL_law_900 ?_
                                                      refine J_iadd G dL_law_901 ?_
                                                      refine J_sld G C dL_law_902 ?_
                                                      refine J_aload_nX G 0 dL_law_903 rfl ?_
                                                      refine J_iload_n G 3 dL_law_904 rfl ?_
                                                      refine J_iconst G dL_law_905 ?_
                                                      refine J_iadd G dL_law_906 ?_
                                                      refine J_sld G C dL_law_907 ?_
                                                      refine J_aload_nX G 0 dL_law_908 rfl ?_
                                                      refine J_iload_n G 3 dL_law_909 rfl ?_
                                                      refine J_iconst G dL_law_910 ?_
                                                      refine J_iadd G dL_law_911 ?_
                                                      refine J_sld G C dL_law_912 ?_
                                                      refine J_cVwL (As := [vI (scI xs (s32 (i1 + 1))), vI (scI xs (s32 (i1 + 2))), vI (scI xs (s32 (i1 + 3)))]) G (mX8_bears u (scI xs (s32 (i1 + 1))) (scI xs (s32 (i1 + 2))) (scI xs (s32 (i1 + 3))) m2) sg_X8_bears sv_X8_bears wm_L_111 cls_8 kd_0 rfl ⟨by decide, by decide⟩ rfl rfl (Nat.le_of_ble_eq_true rfl) dL_law_913 ?_
                                                      intro r114 m115
                                                      refine J_aload_n G 2 dL_law_916 rfl ?_
                                                      refine J_aload_nX G 0 dL_law_917 rfl ?_
                                                      refine J_iload_n G 3 dL_law_918 rfl ?_
                                                      refine J_iconst G dL_law_919 ?_
                                                      refine J_iadd G dL_law_920 ?_
                                                      refine J_sld G C dL_law_921 ?_
                                                      refine J_aload_nX G 0 dL_law_922 rfl ?_
                                                      refine J_iload_n G 3 dL_law_923 rfl ?_
                                                      refine J_iconst G dL_law_924 ?_
                                                      refine J_iadd G dL_law_925 ?_
                                                      refine J_sld G C dL_law_926 ?_
                                                      refine J_aload_nX G 0 dL_law_927 rfl ?_
                                                      refine J_iload_n G 3 dL_law_928 rfl ?_
                                                      refine J_iconst G dL_law_929 ?_
                                                      refine J_iadd G dL_law_930 ?_
                                                      refine J_sld G C dL_law_931 ?_
                                                      refine J_cVwL (As := [vI (scI xs (s32 (i1 + 1))), vI (scI xs (s32 (i1 + 2))), vI (scI xs (s32 (i1 + 3)))]) G (mX9_bears_ u (scI xs (s32 (i1 + 1))) (scI xs (s32 (i1 + 2))) (scI xs (s32 (i1 + 3))) m115) sg_X9_bears_ sv_X9_bears_ wm_L_114 cls_9 kd_149 rfl ⟨by decide, by decide⟩ rfl rfl (Nat.le_of_ble_eq_true rfl) dL_law_932 ?_
                                                      intro r116 m117
                                                      refine J_lcmp_eq 1315 G dL_law_935 dL_law_936 (by decide) ?_ ?_
                                                      · refine J_iinc (lv' := [(3, vI (i1 + 5)), (0, Value.ref b), (1, vR (uB u) 0), (2, vR (uB u) 149)]) G 3 dL_law_1315 rfl (by decide) rfl ?_
                                                        refine J_goto 18 G dL_law_1318 (by decide) ?_
                                                        refine J_lv [1, 2, 3, 0] rfl ?_
                                                        exact ih (i1 + 5) m117
                                                      · exact J_none
                                                    · skip
                                                      refine J_split (fun hs118 => ?_) (fun hs118 => ?_)
                                                      · refine J_tableIn (off := 909) 941 G dL_law_32 hs118 (by decide) (by decide) (by decide) (by decide) ?_
                                                        refine J_aload_n G 1 dL_law_941 rfl ?_
                                                        refine J_aload_nX G 0 dL_law_942 rfl ?_
                                                        refine J_iload_n G 3 dL_law_943 rfl ?_
                                                        refine J_iconst G dL_law_944 ?_
                                                        refine J_iadd G dL_law_945 ?_
                                                        refine J_sld G C dL_law_946 ?_
                                                        refine J_cVwI (As := [vI (scI xs (s32 (i1 + 1)))]) G (mX8_best u (scI xs (s32 (i1 + 1))) m2) sg_X8_best sv_X8_best wm_L_115 cls_8 kd_0 rfl ⟨by decide, by decide⟩ rfl rfl (Nat.le_of_ble_eq_true rfl) dL_law_947 ?_
                                                        intro r119 m120
                                                        refine J_aload_n G 2 dL_law_950 rfl ?_
                                                        refine J_aload_nX G 0 dL_law_951 rfl ?_
                                                        refine J_iload_n G 3 dL_law_952 rfl ?_
                                                        refine J_iconst G dL_law_953 ?_
                                                        refine J_iadd G dL_law_954 ?_
                                                        refine J_sld G C dL_law_955 ?_
                                                        refine J_cVwI (As := [vI (scI xs (s32 (i1 + 1)))]) G (mX9_best u (scI xs (s32 (i1 + 1))) m120) sg_X9_best sv_X9_best wm_L_118 cls_9 kd_149 rfl ⟨by decide, by decide⟩ rfl rfl (Nat.le_of_ble_eq_true rfl) dL_law_956 ?_
                                                        intro r121 m122
                                                        refine J_icmp_eq 1315 G dL_law_959 (by decide) ?_ ?_
                                                        · refine J_iinc (lv' := [(3, vI (i1 + 5)), (0, Value.ref b), (1, vR (uB u) 0), (2, vR (uB u) 149)]) G 3 dL_law_1315 rfl (by decide) rfl ?_
                                                          refine J_goto 18 G dL_law_1318 (by decide) ?_
                                                          refine J_lv [1, 2, 3, 0] rfl ?_
                                                          exact ih (i1 + 5) m122
                                                        · exact J_none
                                                      · skip
                                                        refine J_split (fun hs123 => ?_) (fun hs123 => ?_)
                                                        · refine J_tableIn (off := 932) 964 G dL_law_32 hs123 (by decide) (by decide) (by decide) (by decide) ?_
                                                          refine J_aload_n G 1 dL_law_964 rfl ?_
                                                          refine J_aload_nX G 0 dL_law_965 rfl ?_
                                                          refine J_iload_n G 3 dL_law_966 rfl ?_
                                                          refine J_iconst G dL_law_967 ?_
                                                          refine J_iadd G dL_law_968 ?_
                                                          refine J_sld G C dL_law_969 ?_
                                                          refine J_aload_nX G 0 dL_law_970 rfl ?_
                                                          refine J_iload_n G 3 dL_law_971 rfl ?_
                                                          refine J_iconst G dL_law_972 ?_
                                                          refine J_iadd G dL_law_973 ?_
                                                          refine J_sld G C dL_law_974 ?_
                                                          refine J_cVwL (As := [vI (scI xs (s32 (i1 + 1))), vI (scI xs (s32 (i1 + 2)))]) G (mX8_hinged u (scI xs (s32 (i1 + 1))) (scI xs (s32 (i1 + 2))) m2) sg_X8_hinged sv_X8_hinged wm_L_119 cls_8 kd_0 rfl ⟨by decide, by decide⟩ rfl rfl (Nat.le_of_ble_eq_true rfl) dL_law_975 ?_
                                                          intro r124 m125
                                                          refine J_aload_n G 2 dL_law_978 rfl ?_
                                                          refine J_aload_nX G 0 dL_law_979 rfl ?_
                                                          refine J_iload_n G 3 dL_law_980 rfl ?_
                                                          refine J_iconst G dL_law_981 ?_
                                                          refine J_iadd G dL_law_982 ?_
                                                          refine J_sld G C dL_law_983 ?_
                                                          refine J_aload_nX G 0 dL_law_984 rfl ?_
                                                          refine J_iload_n G 3 dL_law_985 rfl ?_
                                                          refine J_iconst G dL_law_986 ?_
                                                          refine J_iadd G dL_law_987 ?_
                                                          refine J_sld G C dL_law_988 ?_
                                                          refine J_cVwL (As := [vI (scI xs (s32 (i1 + 1))), vI (scI xs (s32 (i1 + 2)))]) G (mX9_hinged u (scI xs (s32 (i1 + 1))) (scI xs (s32 (i1 + 2))) m125) sg_X9_hinged sv_X9_hinged wm_L_122 cls_9 kd_149 rfl ⟨by decide, by decide⟩ rfl rfl (Nat.le_of_ble_eq_true rfl) dL_law_989 ?_
                                                          intro r126 m127
                                                          refine J_lcmp_eq 1315 G dL_law_992 dL_law_993 (by decide) ?_ ?_
                                                          · refine J_iinc (lv' := [(3, vI (i1 + 5)), (0, Value.ref b), (1, vR (uB u) 0), (2, vR (uB u) 149)]) G 3 dL_law_1315 rfl (by decide) rfl ?_
                                                            refine J_goto 18 G dL_law_1318 (by decide) ?_
                                                            refine J_lv [1, 2, 3, 0] rfl ?_
                                                            exact ih (i1 + 5) m127
                                                          · exact J_none
                                                        · skip
                                                          refine J_split (fun hs128 => ?_) (fun hs128 => ?_)
                                                          · refine J_tableIn (off := 966) 998 G dL_law_32 hs128 (by decide) (by decide) (by decide) (by decide) ?_
                                                            refine J_aload_n G 1 dL_law_998 rfl ?_
                                                            refine J_aload_nX G 0 dL_law_999 rfl ?_
                                                            refine J_iload_n G 3 dL_law_1000 rfl ?_
                                                            refine J_iconst G dL_law_1001 ?_
                                                            refine J_iadd G dL_law_1002 ?_
                                                            refine J_sld G C dL_law_1003 ?_
                                                            refine J_cVwI (As := [vI (scI xs (s32 (i1 + 1)))]) G (mX8_feed u (scI xs (s32 (i1 + 1))) m2) sg_X8_feed sv_X8_feed wm_L_123 cls_8 kd_0 rfl ⟨by decide, by decide⟩ rfl rfl (Nat.le_of_ble_eq_true rfl) dL_law_1004 ?_
                                                            intro r129 m130
                                                            refine J_aload_n G 2 dL_law_1007 rfl ?_
                                                            refine J_aload_nX G 0 dL_law_1008 rfl ?_
                                                            refine J_iload_n G 3 dL_law_1009 rfl ?_
                                                            refine J_iconst G dL_law_1010 ?_
                                                            refine J_iadd G dL_law_1011 ?_
                                                            refine J_sld G C dL_law_1012 ?_
                                                            refine J_cVwI (As := [vI (scI xs (s32 (i1 + 1)))]) G (mX9_feed u (scI xs (s32 (i1 + 1))) m130) sg_X9_feed sv_X9_feed wm_L_126 cls_9 kd_149 rfl ⟨by decide, by decide⟩ rfl rfl (Nat.le_of_ble_eq_true rfl) dL_law_1013 ?_
                                                            intro r131 m132
                                                            refine J_icmp_eq 1315 G dL_law_1016 (by decide) ?_ ?_
                                                            · refine J_iinc (lv' := [(3, vI (i1 + 5)), (0, Value.ref b), (1, vR (uB u) 0), (2, vR (uB u) 149)]) G 3 dL_law_1315 rfl (by decide) rfl ?_
                                                              refine J_goto 18 G dL_law_1318 (by decide) ?_
                                                              refine J_lv [1, 2, 3, 0] rfl ?_
                                                              exact ih (i1 + 5) m132
                                                            · exact J_none
                                                          · skip
                                                            refine J_split (fun hs133 => ?_) (fun hs133 => ?_)
                                                            · refine J_tableIn (off := 989) 1021 G dL_law_32 hs133 (by decide) (by decide) (by decide) (by decide) ?_
                                                              refine J_aload_n G 1 dL_law_1021 rfl ?_
                                                              refine J_cVwI (As := []) G (mX8_reads u m2) sg_X8_reads sv_X8_reads wm_L_127 cls_8 kd_0 rfl ⟨by decide, by decide⟩ rfl rfl (Nat.le_of_ble_eq_true rfl) dL_law_1022 ?_
                                                              intro r134 m135
                                                              refine J_aload_n G 2 dL_law_1025 rfl ?_
                                                              refine J_cVwI (As := []) G (mX9_reads u m135) sg_X9_reads sv_X9_reads wm_L_130 cls_9 kd_149 rfl ⟨by decide, by decide⟩ rfl rfl (Nat.le_of_ble_eq_true rfl) dL_law_1026 ?_
                                                              intro r136 m137
                                                              refine J_icmp_eq 1315 G dL_law_1029 (by decide) ?_ ?_
                                                              · refine J_iinc (lv' := [(3, vI (i1 + 5)), (0, Value.ref b), (1, vR (uB u) 0), (2, vR (uB u) 149)]) G 3 dL_law_1315 rfl (by decide) rfl ?_
                                                                refine J_goto 18 G dL_law_1318 (by decide) ?_
                                                                refine J_lv [1, 2, 3, 0] rfl ?_
                                                                exact ih (i1 + 5) m137
                                                              · exact J_none
                                                            · skip
                                                              refine J_split (fun hs138 => ?_) (fun hs138 => ?_)
                                                              · refine J_tableIn (off := 1002) 1034 G dL_law_32 hs138 (by decide) (by decide) (by decide) (by decide) ?_
                                                                refine J_aload_n G 1 dL_law_1034 rfl ?_
                                                                refine J_cVwI (As := []) G (mX8_prints u m2) sg_X8_prints sv_X8_prints wm_L_131 cls_8 kd_0 rfl ⟨by decide, by decide⟩ rfl rfl (Nat.le_of_ble_eq_true rfl) dL_law_1035 ?_
                                                                intro r139 m140
                                                                refine J_aload_n G 2 dL_law_1038 rfl ?_
                                                                refine J_cVwI (As := []) G (mX9_prints u m140) sg_X9_prints sv_X9_prints wm_L_134 cls_9 kd_149 rfl ⟨by decide, by decide⟩ rfl rfl (Nat.le_of_ble_eq_true rfl) dL_law_1039 ?_
                                                                intro r141 m142
                                                                refine J_icmp_eq 1315 G dL_law_1042 (by decide) ?_ ?_
                                                                · refine J_iinc (lv' := [(3, vI (i1 + 5)), (0, Value.ref b), (1, vR (uB u) 0), (2, vR (uB u) 149)]) G 3 dL_law_1315 rfl (by decide) rfl ?_
                                                                  refine J_goto 18 G dL_law_1318 (by decide) ?_
                                                                  refine J_lv [1, 2, 3, 0] rfl ?_
                                                                  exact ih (i1 + 5) m142
                                                                · exact J_none
                                                              · skip
                                                                refine J_split (fun hs143 => ?_) (fun hs143 => ?_)
                                                                · refine J_tableIn (off := 1015) 1047 G dL_law_32 hs143 (by decide) (by decide) (by decide) (by decide) ?_
                                                                  refine J_aload_n G 1 dL_law_1047 rfl ?_
                                                                  refine J_aload_nX G 0 dL_law_1048 rfl ?_
                                                                  refine J_iload_n G 3 dL_law_1049 rfl ?_
                                                                  refine J_iconst G dL_law_1050 ?_
                                                                  refine J_iadd G dL_law_1051 ?_
                                                                  refine J_sld G C dL_law_1052 ?_
                                                                  refine J_cVpI (As := [vI (scI xs (s32 (i1 + 1)))]) G (mX8_paper u (scI xs (s32 (i1 + 1))) m2) sg_X8_paper sv_X8_paper wm_L_135 cls_8 kd_0 rfl ⟨by decide, by decide⟩ rfl rfl (Nat.le_of_ble_eq_true rfl) dL_law_1053 ?_
                                                                  intro r144
                                                                  refine J_aload_n G 2 dL_law_1056 rfl ?_
                                                                  refine J_aload_nX G 0 dL_law_1057 rfl ?_
                                                                  refine J_iload_n G 3 dL_law_1058 rfl ?_
                                                                  refine J_iconst G dL_law_1059 ?_
                                                                  refine J_iadd G dL_law_1060 ?_
                                                                  refine J_sld G C dL_law_1061 ?_
                                                                  refine J_cVpI (As := [vI (scI xs (s32 (i1 + 1)))]) G (mX9_paper u (scI xs (s32 (i1 + 1))) m2) sg_X9_paper sv_X9_paper wm_L_138 cls_9 kd_149 rfl ⟨by decide, by decide⟩ rfl rfl (Nat.le_of_ble_eq_true rfl) dL_law_1062 ?_
                                                                  intro r145
                                                                  refine J_icmp_eq 1315 G dL_law_1065 (by decide) ?_ ?_
                                                                  · refine J_iinc (lv' := [(3, vI (i1 + 5)), (0, Value.ref b), (1, vR (uB u) 0), (2, vR (uB u) 149)]) G 3 dL_law_1315 rfl (by decide) rfl ?_
                                                                    refine J_goto 18 G dL_law_1318 (by decide) ?_
                                                                    refine J_lv [1, 2, 3, 0] rfl ?_
                                                                    exact ih (i1 + 5) m2
                                                                  · exact J_none
                                                                · skip
                                                                  refine J_split (fun hs146 => ?_) (fun hs146 => ?_)
                                                                  · refine J_tableIn (off := 1038) 1070 G dL_law_32 hs146 (by decide) (by decide) (by decide) (by decide) ?_
                                                                    refine J_aload_n G 1 dL_law_1070 rfl ?_
                                                                    refine J_aload_nX G 0 dL_law_1071 rfl ?_
                                                                    refine J_iload_n G 3 dL_law_1072 rfl ?_
                                                                    refine J_iconst G dL_law_1073 ?_
                                                                    refine J_iadd G dL_law_1074 ?_
                                                                    refine J_sld G C dL_law_1075 ?_
                                                                    refine J_aload_nX G 0 dL_law_1076 rfl ?_
                                                                    refine J_iload_n G 3 dL_law_1077 rfl ?_
                                                                    refine J_iconst G dL_law_1078 ?_
                                                                    refine J_iadd G dL_law_1079 ?_
                                                                    refine J_sld G C dL_law_1080 ?_
                                                                    refine J_cVwI (As := [vI (scI xs (s32 (i1 + 1))), vI (scI xs (s32 (i1 + 2)))]) G (mX8_list u (scI xs (s32 (i1 + 1))) (scI xs (s32 (i1 + 2))) m2) sg_X8_list sv_X8_list wm_L_139 cls_8 kd_0 rfl ⟨by decide, by decide⟩ rfl rfl (Nat.le_of_ble_eq_true rfl) dL_law_1081 ?_
                                                                    intro r147 m148
                                                                    refine J_aload_n G 2 dL_law_1084 rfl ?_
                                                                    refine J_aload_nX G 0 dL_law_1085 rfl ?_
                                                                    refine J_iload_n G 3 dL_law_1086 rfl ?_
                                                                    refine J_iconst G dL_law_1087 ?_
                                                                    refine J_iadd G dL_law_1088 ?_
                                                                    refine J_sld G C dL_law_1089 ?_
                                                                    refine J_aload_nX G 0 dL_law_1090 rfl ?_
                                                                    refine J_iload_n G 3 dL_law_1091 rfl ?_
                                                                    refine J_iconst G dL_law_1092 ?_
                                                                    refine J_iadd G dL_law_1093 ?_
                                                                    refine J_sld G C dL_law_1094 ?_
                                                                    refine J_cVwI (As := [vI (scI xs (s32 (i1 + 1))), vI (scI xs (s32 (i1 + 2)))]) G (mX9_list u (scI xs (s32 (i1 + 1))) (scI xs (s32 (i1 + 2))) m148) sg_X9_list sv_X9_list wm_L_142 cls_9 kd_149 rfl ⟨by decide, by decide⟩ rfl rfl (Nat.le_of_ble_eq_true rfl) dL_law_1095 ?_
                                                                    intro r149 m150
                                                                    refine J_icmp_eq 1315 G dL_law_1098 (by decide) ?_ ?_
                                                                    · refine J_iinc (lv' := [(3, vI (i1 + 5)), (0, Value.ref b), (1, vR (uB u) 0), (2, vR (uB u) 149)]) G 3 dL_law_1315 rfl (by decide) rfl ?_
                                                                      refine J_goto 18 G dL_law_1318 (by decide) ?_
                                                                      refine J_lv [1, 2, 3, 0] rfl ?_
                                                                      exact ih (i1 + 5) m150
                                                                    · exact J_none
                                                                  · skip
                                                                    refine J_split (fun hs151 => ?_) (fun hs151 => ?_)
                                                                    · refine J_tableIn (off := 1071) 1103 G dL_law_32 hs151 (by decide) (by decide) (by decide) (by decide) ?_
                                                                      refine J_aload_n G 1 dL_law_1103 rfl ?_
                                                                      refine J_aload_nX G 0 dL_law_1104 rfl ?_
                                                                      refine J_iload_n G 3 dL_law_1105 rfl ?_
                                                                      refine J_iconst G dL_law_1106 ?_
                                                                      refine J_iadd G dL_law_1107 ?_
                                                                      refine J_sld G C dL_law_1108 ?_
                                                                      refine J_aload_nX G 0 dL_law_1109 rfl ?_
                                                                      refine J_iload_n G 3 dL_law_1110 rfl ?_
                                                                      refine J_iconst G dL_law_1111 ?_
                                                                      refine J_iadd G dL_law_1112 ?_
                                                                      refine J_sld G C dL_law_1113 ?_
                                                                      refine J_aload_nX G 0 dL_law_1114 rfl ?_
                                                                      refine J_iload_n G 3 dL_law_1115 rfl ?_
                                                                      refine J_iconst G dL_law_1116 ?_
                                                                      refine J_iadd G dL_law_1117 ?_
                                                                      refine J_sld G C dL_law_1118 ?_
                                                                      refine J_i2l G dL_law_1119 ?_
                                                                      refine J_bipush G dL_law_1120 (by decide) ?_
                                                                      refine J_lshl G dL_law_1122 ?_
                                                                      refine J_aload_nX G 0 dL_law_1123 rfl ?_
                                                                      refine J_iload_n G 3 dL_law_1124 rfl ?_
                                                                      refine J_iconst G dL_law_1125 ?_
                                                                      refine J_iadd G dL_law_1126 ?_
                                                                      refine J_sld G C dL_law_1127 ?_
                                                                      refine J_i2l G dL_law_1128 ?_
                                                                      refine J_ldc2 (v := 4294967295) G dL_law_1129 wc_L_143 (by decide) ?_
                                                                      refine J_land G dL_law_1132 ?_
                                                                      refine J_lor G dL_law_1133 ?_
                                                                      refine J_cVwI (As := [vI (scI xs (s32 (i1 + 1))), vI (scI xs (s32 (i1 + 2))), vL (Int64.ofInt (Int64.ofInt (s32 (scI xs (s32 (i1 + 3)))) <<< ((Int32.ofInt 32).toInt64 &&& 63)).toInt ||| Int64.ofInt (Int64.ofInt (s32 (scI xs (s32 (i1 + 4)))) &&& Int64.ofInt 4294967295).toInt).toInt]) G (mX8_set u (scI xs (s32 (i1 + 1))) (scI xs (s32 (i1 + 2))) (Int64.ofInt (Int64.ofInt (s32 (scI xs (s32 (i1 + 3)))) <<< ((Int32.ofInt 32).toInt64 &&& 63)).toInt ||| Int64.ofInt (Int64.ofInt (s32 (scI xs (s32 (i1 + 4)))) &&& Int64.ofInt 4294967295).toInt).toInt m2) sg_X8_set sv_X8_set wm_L_145 cls_8 kd_0 rfl ⟨by decide, by decide⟩ rfl rfl (Nat.le_of_ble_eq_true rfl) dL_law_1134 ?_
                                                                      intro r152 m153
                                                                      refine J_aload_n G 2 dL_law_1137 rfl ?_
                                                                      refine J_aload_nX G 0 dL_law_1138 rfl ?_
                                                                      refine J_iload_n G 3 dL_law_1139 rfl ?_
                                                                      refine J_iconst G dL_law_1140 ?_
                                                                      refine J_iadd G dL_law_1141 ?_
                                                                      refine J_sld G C dL_law_1142 ?_
                                                                      refine J_aload_nX G 0 dL_law_1143 rfl ?_
                                                                      refine J_iload_n G 3 dL_law_1144 rfl ?_
                                                                      refine J_iconst G dL_law_1145 ?_
                                                                      refine J_iadd G dL_law_1146 ?_
                                                                      refine J_sld G C dL_law_1147 ?_
                                                                      refine J_aload_nX G 0 dL_law_1148 rfl ?_
                                                                      refine J_iload_n G 3 dL_law_1149 rfl ?_
                                                                      refine J_iconst G dL_law_1150 ?_
                                                                      refine J_iadd G dL_law_1151 ?_
                                                                      refine J_sld G C dL_law_1152 ?_
                                                                      refine J_i2l G dL_law_1153 ?_
                                                                      refine J_bipush G dL_law_1154 (by decide) ?_
                                                                      refine J_lshl G dL_law_1156 ?_
                                                                      refine J_aload_nX G 0 dL_law_1157 rfl ?_
                                                                      refine J_iload_n G 3 dL_law_1158 rfl ?_
                                                                      refine J_iconst G dL_law_1159 ?_
                                                                      refine J_iadd G dL_law_1160 ?_
                                                                      refine J_sld G C dL_law_1161 ?_
                                                                      refine J_i2l G dL_law_1162 ?_
                                                                      refine J_ldc2 (v := 4294967295) G dL_law_1163 wc_L_143 (by decide) ?_
                                                                      refine J_land G dL_law_1166 ?_
                                                                      refine J_lor G dL_law_1167 ?_
                                                                      refine J_cVwI (As := [vI (scI xs (s32 (i1 + 1))), vI (scI xs (s32 (i1 + 2))), vL (Int64.ofInt (Int64.ofInt (s32 (scI xs (s32 (i1 + 3)))) <<< ((Int32.ofInt 32).toInt64 &&& 63)).toInt ||| Int64.ofInt (Int64.ofInt (s32 (scI xs (s32 (i1 + 4)))) &&& Int64.ofInt 4294967295).toInt).toInt]) G (mX9_set u (scI xs (s32 (i1 + 1))) (scI xs (s32 (i1 + 2))) (Int64.ofInt (Int64.ofInt (s32 (scI xs (s32 (i1 + 3)))) <<< ((Int32.ofInt 32).toInt64 &&& 63)).toInt ||| Int64.ofInt (Int64.ofInt (s32 (scI xs (s32 (i1 + 4)))) &&& Int64.ofInt 4294967295).toInt).toInt m153) sg_X9_set sv_X9_set wm_L_149 cls_9 kd_149 rfl ⟨by decide, by decide⟩ rfl rfl (Nat.le_of_ble_eq_true rfl) dL_law_1168 ?_
                                                                      intro r154 m155
                                                                      refine J_icmp_eq 1315 G dL_law_1171 (by decide) ?_ ?_
                                                                      · refine J_iinc (lv' := [(3, vI (i1 + 5)), (0, Value.ref b), (1, vR (uB u) 0), (2, vR (uB u) 149)]) G 3 dL_law_1315 rfl (by decide) rfl ?_
                                                                        refine J_goto 18 G dL_law_1318 (by decide) ?_
                                                                        refine J_lv [1, 2, 3, 0] rfl ?_
                                                                        exact ih (i1 + 5) m155
                                                                      · exact J_none
                                                                    · skip
                                                                      refine J_split (fun hs156 => ?_) (fun hs156 => ?_)
                                                                      · refine J_tableIn (off := 1144) 1176 G dL_law_32 hs156 (by decide) (by decide) (by decide) (by decide) ?_
                                                                        refine J_aload_n G 1 dL_law_1176 rfl ?_
                                                                        refine J_aload_nX G 0 dL_law_1177 rfl ?_
                                                                        refine J_iload_n G 3 dL_law_1178 rfl ?_
                                                                        refine J_iconst G dL_law_1179 ?_
                                                                        refine J_iadd G dL_law_1180 ?_
                                                                        refine J_sld G C dL_law_1181 ?_
                                                                        refine J_aload_nX G 0 dL_law_1182 rfl ?_
                                                                        refine J_iload_n G 3 dL_law_1183 rfl ?_
                                                                        refine J_iconst G dL_law_1184 ?_
                                                                        refine J_iadd G dL_law_1185 ?_
                                                                        refine J_sld G C dL_law_1186 ?_
                                                                        refine J_cVpL (As := [vI (scI xs (s32 (i1 + 1))), vI (scI xs (s32 (i1 + 2)))]) G (mX8_get u (scI xs (s32 (i1 + 1))) (scI xs (s32 (i1 + 2))) m2) sg_X8_get sv_X8_get wm_L_150 cls_8 kd_0 rfl ⟨by decide, by decide⟩ rfl rfl (Nat.le_of_ble_eq_true rfl) dL_law_1187 ?_
                                                                        intro r157
                                                                        refine J_aload_n G 2 dL_law_1190 rfl ?_
                                                                        refine J_aload_nX G 0 dL_law_1191 rfl ?_
                                                                        refine J_iload_n G 3 dL_law_1192 rfl ?_
                                                                        refine J_iconst G dL_law_1193 ?_
                                                                        refine J_iadd G dL_law_1194 ?_
                                                                        refine J_sld G C dL_law_1195 ?_
                                                                        refine J_aload_nX G 0 dL_law_1196 rfl ?_
                                                                        refine J_iload_n G 3 dL_law_1197 rfl ?_
                                                                        refine J_iconst G dL_law_1198 ?_
                                                                        refine J_iadd G dL_law_1199 ?_
                                                                        refine J_sld G C dL_law_1200 ?_
                                                                        refine J_cVpL (As := [vI (scI xs (s32 (i1 + 1))), vI (scI xs (s32 (i1 + 2)))]) G (mX9_get u (scI xs (s32 (i1 + 1))) (scI xs (s32 (i1 + 2))) m2) sg_X9_get sv_X9_get wm_L_153 cls_9 kd_149 rfl ⟨by decide, by decide⟩ rfl rfl (Nat.le_of_ble_eq_true rfl) dL_law_1201 ?_
                                                                        intro r158
                                                                        refine J_lcmp_eq 1315 G dL_law_1204 dL_law_1205 (by decide) ?_ ?_
                                                                        · refine J_iinc (lv' := [(3, vI (i1 + 5)), (0, Value.ref b), (1, vR (uB u) 0), (2, vR (uB u) 149)]) G 3 dL_law_1315 rfl (by decide) rfl ?_
                                                                          refine J_goto 18 G dL_law_1318 (by decide) ?_
                                                                          refine J_lv [1, 2, 3, 0] rfl ?_
                                                                          exact ih (i1 + 5) m2
                                                                        · exact J_none
                                                                      · skip
                                                                        refine J_split (fun hs159 => ?_) (fun hs159 => ?_)
                                                                        · refine J_tableIn (off := 1178) 1210 G dL_law_32 hs159 (by decide) (by decide) (by decide) (by decide) ?_
                                                                          refine J_aload_n G 1 dL_law_1210 rfl ?_
                                                                          refine J_aload_nX G 0 dL_law_1211 rfl ?_
                                                                          refine J_iload_n G 3 dL_law_1212 rfl ?_
                                                                          refine J_iconst G dL_law_1213 ?_
                                                                          refine J_iadd G dL_law_1214 ?_
                                                                          refine J_sld G C dL_law_1215 ?_
                                                                          refine J_aload_nX G 0 dL_law_1216 rfl ?_
                                                                          refine J_iload_n G 3 dL_law_1217 rfl ?_
                                                                          refine J_iconst G dL_law_1218 ?_
                                                                          refine J_iadd G dL_law_1219 ?_
                                                                          refine J_sld G C dL_law_1220 ?_
                                                                          refine J_cVwI (As := [vI (scI xs (s32 (i1 + 1))), vI (scI xs (s32 (i1 + 2)))]) G (mX8_into u (scI xs (s32 (i1 + 1))) (scI xs (s32 (i1 + 2))) m2) sg_X8_into sv_X8_into wm_L_154 cls_8 kd_0 rfl ⟨by decide, by decide⟩ rfl rfl (Nat.le_of_ble_eq_true rfl) dL_law_1221 ?_
                                                                          intro r160 m161
                                                                          refine J_aload_n G 2 dL_law_1224 rfl ?_
                                                                          refine J_aload_nX G 0 dL_law_1225 rfl ?_
                                                                          refine J_iload_n G 3 dL_law_1226 rfl ?_
                                                                          refine J_iconst G dL_law_1227 ?_
                                                                          refine J_iadd G dL_law_1228 ?_
                                                                          refine J_sld G C dL_law_1229 ?_
                                                                          refine J_aload_nX G 0 dL_law_1230 rfl ?_
                                                                          refine J_iload_n G 3 dL_law_1231 rfl ?_
                                                                          refine J_iconst G dL_law_1232 ?_
                                                                          refine J_iadd G dL_law_1233 ?_
                                                                          refine J_sld G C dL_law_1234 ?_
                                                                          refine J_cVwI (As := [vI (scI xs (s32 (i1 + 1))), vI (scI xs (s32 (i1 + 2)))]) G (mX9_into u (scI xs (s32 (i1 + 1))) (scI xs (s32 (i1 + 2))) m161) sg_X9_into sv_X9_into wm_L_157 cls_9 kd_149 rfl ⟨by decide, by decide⟩ rfl rfl (Nat.le_of_ble_eq_true rfl) dL_law_1235 ?_
                                                                          intro r162 m163
                                                                          refine J_icmp_eq 1315 G dL_law_1238 (by decide) ?_ ?_
                                                                          · refine J_iinc (lv' := [(3, vI (i1 + 5)), (0, Value.ref b), (1, vR (uB u) 0), (2, vR (uB u) 149)]) G 3 dL_law_1315 rfl (by decide) rfl ?_
                                                                            refine J_goto 18 G dL_law_1318 (by decide) ?_
                                                                            refine J_lv [1, 2, 3, 0] rfl ?_
                                                                            exact ih (i1 + 5) m163
                                                                          · exact J_none
                                                                        · skip
                                                                          refine J_split (fun hs164 => ?_) (fun hs164 => ?_)
                                                                          · refine J_tableIn (off := 1211) 1243 G dL_law_32 hs164 (by decide) (by decide) (by decide) (by decide) ?_
                                                                            refine J_aload_n G 1 dL_law_1243 rfl ?_
                                                                            refine J_aload_nX G 0 dL_law_1244 rfl ?_
                                                                            refine J_iload_n G 3 dL_law_1245 rfl ?_
                                                                            refine J_iconst G dL_law_1246 ?_
                                                                            refine J_iadd G dL_law_1247 ?_
                                                                            refine J_sld G C dL_law_1248 ?_
                                                                            refine J_aload_nX G 0 dL_law_1249 rfl ?_
                                                                            refine J_iload_n G 3 dL_law_1250 rfl ?_
                                                                            refine J_iconst G dL_law_1251 ?_
                                                                            refine J_iadd G dL_law_1252 ?_
                                                                            refine J_sld G C dL_law_1253 ?_
                                                                            refine J_cVwI (As := [vI (scI xs (s32 (i1 + 1))), vI (scI xs (s32 (i1 + 2)))]) G (mX8_judge u (scI xs (s32 (i1 + 1))) (scI xs (s32 (i1 + 2))) m2) sg_X8_judge sv_X8_judge wm_L_158 cls_8 kd_0 rfl ⟨by decide, by decide⟩ rfl rfl (Nat.le_of_ble_eq_true rfl) dL_law_1254 ?_
                                                                            intro r165 m166
                                                                            refine J_aload_n G 2 dL_law_1257 rfl ?_
                                                                            refine J_aload_nX G 0 dL_law_1258 rfl ?_
                                                                            refine J_iload_n G 3 dL_law_1259 rfl ?_
                                                                            refine J_iconst G dL_law_1260 ?_
                                                                            refine J_iadd G dL_law_1261 ?_
                                                                            refine J_sld G C dL_law_1262 ?_
                                                                            refine J_aload_nX G 0 dL_law_1263 rfl ?_
                                                                            refine J_iload_n G 3 dL_law_1264 rfl ?_
                                                                            refine J_iconst G dL_law_1265 ?_
                                                                            refine J_iadd G dL_law_1266 ?_
                                                                            refine J_sld G C dL_law_1267 ?_
                                                                            refine J_cVwI (As := [vI (scI xs (s32 (i1 + 1))), vI (scI xs (s32 (i1 + 2)))]) G (mX9_judge u (scI xs (s32 (i1 + 1))) (scI xs (s32 (i1 + 2))) m166) sg_X9_judge sv_X9_judge wm_L_161 cls_9 kd_149 rfl ⟨by decide, by decide⟩ rfl rfl (Nat.le_of_ble_eq_true rfl) dL_law_1268 ?_
                                                                            intro r167 m168
                                                                            refine J_icmp_eq 1315 G dL_law_1271 (by decide) ?_ ?_
                                                                            · refine J_iinc (lv' := [(3, vI (i1 + 5)), (0, Value.ref b), (1, vR (uB u) 0), (2, vR (uB u) 149)]) G 3 dL_law_1315 rfl (by decide) rfl ?_
                                                                              refine J_goto 18 G dL_law_1318 (by decide) ?_
                                                                              refine J_lv [1, 2, 3, 0] rfl ?_
                                                                              exact ih (i1 + 5) m168
                                                                            · exact J_none
                                                                          · skip
                                                                            refine J_split (fun hs169 => ?_) (fun hs169 => ?_)
                                                                            · refine J_tableIn (off := 1244) 1276 G dL_law_32 hs169 (by decide) (by decide) (by decide) (by decide) ?_
                                                                              refine J_aload_n G 1 dL_law_1276 rfl ?_
                                                                              refine J_cVwI (As := []) G (mX8_undo u m2) sg_X8_undo sv_X8_undo wm_L_162 cls_8 kd_0 rfl ⟨by decide, by decide⟩ rfl rfl (Nat.le_of_ble_eq_true rfl) dL_law_1277 ?_
                                                                              intro r170 m171
                                                                              refine J_aload_n G 2 dL_law_1280 rfl ?_
                                                                              refine J_cVwI (As := []) G (mX9_undo u m171) sg_X9_undo sv_X9_undo wm_L_165 cls_9 kd_149 rfl ⟨by decide, by decide⟩ rfl rfl (Nat.le_of_ble_eq_true rfl) dL_law_1281 ?_
                                                                              intro r172 m173
                                                                              refine J_icmp_eq 1315 G dL_law_1284 (by decide) ?_ ?_
                                                                              · refine J_iinc (lv' := [(3, vI (i1 + 5)), (0, Value.ref b), (1, vR (uB u) 0), (2, vR (uB u) 149)]) G 3 dL_law_1315 rfl (by decide) rfl ?_
                                                                                refine J_goto 18 G dL_law_1318 (by decide) ?_
                                                                                refine J_lv [1, 2, 3, 0] rfl ?_
                                                                                exact ih (i1 + 5) m173
                                                                              · exact J_none
                                                                            · skip
                                                                              refine J_split (fun hs174 => ?_) (fun hs174 => ?_)
                                                                              · refine J_tableIn (off := 1257) 1289 G dL_law_32 hs174 (by decide) (by decide) (by decide) (by decide) ?_
                                                                                refine J_aload_n G 1 dL_law_1289 rfl ?_
                                                                                refine J_cVwI (As := []) G (mX8_image u m2) sg_X8_image sv_X8_image wm_L_166 cls_8 kd_0 rfl ⟨by decide, by decide⟩ rfl rfl (Nat.le_of_ble_eq_true rfl) dL_law_1290 ?_
                                                                                intro r175 m176
                                                                                refine J_aload_n G 2 dL_law_1293 rfl ?_
                                                                                refine J_cVwI (As := []) G (mX9_image u m176) sg_X9_image sv_X9_image wm_L_169 cls_9 kd_149 rfl ⟨by decide, by decide⟩ rfl rfl (Nat.le_of_ble_eq_true rfl) dL_law_1294 ?_
                                                                                intro r177 m178
                                                                                refine J_icmp_eq 1315 G dL_law_1297 (by decide) ?_ ?_
                                                                                · refine J_iinc (lv' := [(3, vI (i1 + 5)), (0, Value.ref b), (1, vR (uB u) 0), (2, vR (uB u) 149)]) G 3 dL_law_1315 rfl (by decide) rfl ?_
                                                                                  refine J_goto 18 G dL_law_1318 (by decide) ?_
                                                                                  refine J_lv [1, 2, 3, 0] rfl ?_
                                                                                  exact ih (i1 + 5) m178
                                                                                · exact J_none
                                                                              · skip
                                                                                refine J_split (fun hs179 => ?_) (fun hs179 => ?_)
                                                                                · refine J_tableIn (off := 1270) 1302 G dL_law_32 hs179 (by decide) (by decide) (by decide) (by decide) ?_
                                                                                  refine J_aload_n G 1 dL_law_1302 rfl ?_
                                                                                  refine J_cVwI (As := []) G (mX8_back u m2) sg_X8_back sv_X8_back wm_L_170 cls_8 kd_0 rfl ⟨by decide, by decide⟩ rfl rfl (Nat.le_of_ble_eq_true rfl) dL_law_1303 ?_
                                                                                  intro r180 m181
                                                                                  refine J_aload_n G 2 dL_law_1306 rfl ?_
                                                                                  refine J_cVwI (As := []) G (mX9_back u m181) sg_X9_back sv_X9_back wm_L_173 cls_9 kd_149 rfl ⟨by decide, by decide⟩ rfl rfl (Nat.le_of_ble_eq_true rfl) dL_law_1307 ?_
                                                                                  intro r182 m183
                                                                                  refine J_icmp_eq 1315 G dL_law_1310 (by decide) ?_ ?_
                                                                                  · refine J_iinc (lv' := [(3, vI (i1 + 5)), (0, Value.ref b), (1, vR (uB u) 0), (2, vR (uB u) 149)]) G 3 dL_law_1315 rfl (by decide) rfl ?_
                                                                                    refine J_goto 18 G dL_law_1318 (by decide) ?_
                                                                                    refine J_lv [1, 2, 3, 0] rfl ?_
                                                                                    exact ih (i1 + 5) m183
                                                                                  · exact J_none
                                                                                · skip
                                                                                  refine J_tableOut 1315 G dL_law_32 (by omega) (by decide) ?_
                                                                                  refine J_iinc (lv' := [(3, vI (i1 + 5)), (0, Value.ref b), (1, vR (uB u) 0), (2, vR (uB u) 149)]) G 3 dL_law_1315 rfl (by decide) rfl ?_
                                                                                  refine J_goto 18 G dL_law_1318 (by decide) ?_
                                                                                  refine J_lv [1, 2, 3, 0] rfl ?_
                                                                                  exact ih (i1 + 5) m2
