/-! the words of the constructors -/
theorem wcl_X1_9 : Cond.classLink RX1 9 RX0 ∈ jTW := jt_1 (i := 98) (by decide +kernel) (by decide +kernel)
theorem wcl_X4_7 : Cond.classLink RX4 7 RX2 ∈ jTW := jt_1 (i := 124) (by decide +kernel) (by decide +kernel)
theorem wcl_X5_9 : Cond.classLink RX5 9 RX0 ∈ jTW := jt_1 (i := 236) (by decide +kernel) (by decide +kernel)
theorem wcl_X7_44 : Cond.classLink RX7 44 RX4 ∈ jTW := jt_1 (i := 118) (by decide +kernel) (by decide +kernel)
theorem wcl_X7_62 : Cond.classLink RX7 62 RX2 ∈ jTW := jt_1 (i := 160) (by decide +kernel) (by decide +kernel)
theorem wcl_X8_11 : Cond.classLink RX8 11 RX0 ∈ jTW := jt_1 (i := 27) (by decide +kernel) (by decide +kernel)
theorem wcl_X8_18 : Cond.classLink RX8 18 RX1 ∈ jTW := jt_1 (i := 92) (by decide +kernel) (by decide +kernel)
theorem wcl_X8_28 : Cond.classLink RX8 28 RX7 ∈ jTW := jt_1 (i := 112) (by decide +kernel) (by decide +kernel)
theorem wcl_X8_35 : Cond.classLink RX8 35 RX2 ∈ jTW := jt_1 (i := 228) (by decide +kernel) (by decide +kernel)
theorem wcl_X8_45 : Cond.classLink RX8 45 RX5 ∈ jTW := jt_1 (i := 230) (by decide +kernel) (by decide +kernel)
theorem wcl_X8_52 : Cond.classLink RX8 52 RX3 ∈ jTW := jt_2 (i := 20) (by decide +kernel) (by decide +kernel)
theorem wcl_X8_59 : Cond.classLink RX8 59 RX6 ∈ jTW := jt_2 (i := 38) (by decide +kernel) (by decide +kernel)
theorem wm_X0_3 : Cond.methodLink RX0 3 Lib.objectInit ∈ jTW := jt_1 (i := 32) (by decide +kernel) (by decide +kernel)
theorem wm_X1_17 : Cond.methodLink RX1 17 yX0_init ∈ jTW := jt_1 (i := 100) (by decide +kernel) (by decide +kernel)
theorem wm_X1_3 : Cond.methodLink RX1 3 Lib.objectInit ∈ jTW := jt_1 (i := 97) (by decide +kernel) (by decide +kernel)
theorem wm_X2_3 : Cond.methodLink RX2 3 Lib.objectInit ∈ jTW := jt_1 (i := 129) (by decide +kernel) (by decide +kernel)
theorem wm_X3_3 : Cond.methodLink RX3 3 Lib.objectInit ∈ jTW := jt_2 (i := 25) (by decide +kernel) (by decide +kernel)
theorem wm_X4_1 : Cond.methodLink RX4 1 Lib.objectInit ∈ jTW := jt_1 (i := 123) (by decide +kernel) (by decide +kernel)
theorem wm_X4_9 : Cond.methodLink RX4 9 yX2_init ∈ jTW := jt_1 (i := 126) (by decide +kernel) (by decide +kernel)
theorem wm_X5_11 : Cond.methodLink RX5 11 yX0_init ∈ jTW := jt_1 (i := 237) (by decide +kernel) (by decide +kernel)
theorem wm_X5_3 : Cond.methodLink RX5 3 Lib.objectInit ∈ jTW := jt_1 (i := 235) (by decide +kernel) (by decide +kernel)
theorem wm_X6_19 : Cond.methodLink RX6 19 yJ7_fill_53178 ∈ jTW := jt_2 (i := 44) (by decide +kernel) (by decide +kernel)
theorem wm_X6_3 : Cond.methodLink RX6 3 Lib.objectInit ∈ jTW := jt_2 (i := 43) (by decide +kernel) (by decide +kernel)
theorem wm_X7_3 : Cond.methodLink RX7 3 Lib.objectInit ∈ jTW := jt_1 (i := 117) (by decide +kernel) (by decide +kernel)
theorem wm_X7_46 : Cond.methodLink RX7 46 yX4_init ∈ jTW := jt_1 (i := 120) (by decide +kernel) (by decide +kernel)
theorem wm_X7_64 : Cond.methodLink RX7 64 yX2_init ∈ jTW := jt_1 (i := 161) (by decide +kernel) (by decide +kernel)
theorem wm_X8_13 : Cond.methodLink RX8 13 yX0_init ∈ jTW := jt_1 (i := 29) (by decide +kernel) (by decide +kernel)
theorem wm_X8_20 : Cond.methodLink RX8 20 yX1_init ∈ jTW := jt_1 (i := 94) (by decide +kernel) (by decide +kernel)
theorem wm_X8_30 : Cond.methodLink RX8 30 yX7_init ∈ jTW := jt_1 (i := 114) (by decide +kernel) (by decide +kernel)
theorem wm_X8_37 : Cond.methodLink RX8 37 yX2_init ∈ jTW := jt_1 (i := 229) (by decide +kernel) (by decide +kernel)
theorem wm_X8_47 : Cond.methodLink RX8 47 yX5_init ∈ jTW := jt_1 (i := 232) (by decide +kernel) (by decide +kernel)
theorem wm_X8_5 : Cond.methodLink RX8 5 Lib.objectInit ∈ jTW := jt_1 (i := 24) (by decide +kernel) (by decide +kernel)
theorem wm_X8_54 : Cond.methodLink RX8 54 yX3_init ∈ jTW := jt_2 (i := 22) (by decide +kernel) (by decide +kernel)
theorem wm_X8_61 : Cond.methodLink RX8 61 yX6_init ∈ jTW := jt_2 (i := 40) (by decide +kernel) (by decide +kernel)
theorem wm_X9_3 : Cond.methodLink RX9 3 Lib.objectInit ∈ jTW := jt_5 (i := 24) (by decide +kernel) (by decide +kernel)
theorem w_arrI : Cond.arrayClass .int ∈ jTW := jt_1 (i := 91) (by decide +kernel) (by decide +kernel)
theorem w_arrL : Cond.arrayClass .long ∈ jTW := jt_1 (i := 142) (by decide +kernel) (by decide +kernel)
theorem w_arrB : Cond.arrayClass .byte ∈ jTW := jt_2 (i := 19) (by decide +kernel) (by decide +kernel)
theorem w_arrC : Cond.arrayClass .char ∈ jTW := jt_5 (i := 131) (by decide +kernel) (by decide +kernel)
theorem w_obj1 : Cond.instanceMethod Lib.objectInit ∈ jTW := jt_1 (i := 25) (by decide +kernel) (by decide +kernel)
theorem w_obj2 : Cond.code Lib.objectInit ⟨#[0xb1]⟩ 1 none ∈ jTW := jt_1 (i := 26) (by decide +kernel) (by decide +kernel)
theorem winst_0 : Cond.instantiable RX0 12 ∈ jTW := jt_1 (i := 28) (by decide +kernel) (by decide +kernel)
theorem wini_0 : Cond.initialized RX0 ∈ jTW := jt_1 (i := 2) (by decide +kernel) (by decide +kernel)
theorem kdef_0 : ∀ j, j < 12 → defaultValue (tyX0 j) = (match (jFields.getD 0 []).getD j (0, 0) with | (0, _) => Value.int 0 | (1, _) => .long 0 | _ => .null) := by decide +kernel
theorem winst_1 : Cond.instantiable RX1 3 ∈ jTW := jt_1 (i := 93) (by decide +kernel) (by decide +kernel)
theorem wini_1 : Cond.initialized RX1 ∈ jTW := jt_1 (i := 3) (by decide +kernel) (by decide +kernel)
theorem kdef_1 : ∀ j, j < 3 → defaultValue (tyX1 j) = (match (jFields.getD 1 []).getD j (0, 0) with | (0, _) => Value.int 0 | (1, _) => .long 0 | _ => .null) := by decide +kernel
theorem winst_2 : Cond.instantiable RX2 2 ∈ jTW := jt_1 (i := 125) (by decide +kernel) (by decide +kernel)
theorem wini_2 : Cond.initialized RX2 ∈ jTW := jt_1 (i := 6) (by decide +kernel) (by decide +kernel)
theorem kdef_2 : ∀ j, j < 2 → defaultValue (tyX2 j) = (match (jFields.getD 2 []).getD j (0, 0) with | (0, _) => Value.int 0 | (1, _) => .long 0 | _ => .null) := by decide +kernel
theorem winst_3 : Cond.instantiable RX3 3 ∈ jTW := jt_2 (i := 21) (by decide +kernel) (by decide +kernel)
theorem wini_3 : Cond.initialized RX3 ∈ jTW := jt_1 (i := 8) (by decide +kernel) (by decide +kernel)
theorem kdef_3 : ∀ j, j < 3 → defaultValue (tyX3 j) = (match (jFields.getD 3 []).getD j (0, 0) with | (0, _) => Value.int 0 | (1, _) => .long 0 | _ => .null) := by decide +kernel
theorem winst_4 : Cond.instantiable RX4 4 ∈ jTW := jt_1 (i := 119) (by decide +kernel) (by decide +kernel)
theorem wini_4 : Cond.initialized RX4 ∈ jTW := jt_1 (i := 5) (by decide +kernel) (by decide +kernel)
theorem kdef_4 : ∀ j, j < 4 → defaultValue (tyX4 j) = (match (jFields.getD 4 []).getD j (0, 0) with | (0, _) => Value.int 0 | (1, _) => .long 0 | _ => .null) := by decide +kernel
theorem winst_5 : Cond.instantiable RX5 6 ∈ jTW := jt_1 (i := 231) (by decide +kernel) (by decide +kernel)
theorem wini_5 : Cond.initialized RX5 ∈ jTW := jt_1 (i := 7) (by decide +kernel) (by decide +kernel)
theorem kdef_5 : ∀ j, j < 6 → defaultValue (tyX5 j) = (match (jFields.getD 5 []).getD j (0, 0) with | (0, _) => Value.int 0 | (1, _) => .long 0 | _ => .null) := by decide +kernel
theorem winst_6 : Cond.instantiable RX6 2 ∈ jTW := jt_2 (i := 39) (by decide +kernel) (by decide +kernel)
theorem wini_6 : Cond.initialized RX6 ∈ jTW := jt_1 (i := 9) (by decide +kernel) (by decide +kernel)
theorem kdef_6 : ∀ j, j < 2 → defaultValue (tyX6 j) = (match (jFields.getD 6 []).getD j (0, 0) with | (0, _) => Value.int 0 | (1, _) => .long 0 | _ => .null) := by decide +kernel
theorem winst_7 : Cond.instantiable RX7 18 ∈ jTW := jt_1 (i := 113) (by decide +kernel) (by decide +kernel)
theorem wini_7 : Cond.initialized RX7 ∈ jTW := jt_1 (i := 4) (by decide +kernel) (by decide +kernel)
theorem kdef_7 : ∀ j, j < 18 → defaultValue (tyX7 j) = (match (jFields.getD 7 []).getD j (0, 0) with | (0, _) => Value.int 0 | (1, _) => .long 0 | _ => .null) := by decide +kernel
theorem winst_8 : Cond.instantiable RX8 10 ∈ jTW := jt_1 (i := 20) (by decide +kernel) (by decide +kernel)
theorem wini_8 : Cond.initialized RX8 ∈ jTW := jt_1 (i := 1) (by decide +kernel) (by decide +kernel)
theorem kdef_8 : ∀ j, j < 10 → defaultValue (tyX8 j) = (match (jFields.getD 8 []).getD j (0, 0) with | (0, _) => Value.int 0 | (1, _) => .long 0 | _ => .null) := by decide +kernel
theorem winst_9 : Cond.instantiable RX9 35 ∈ jTW := jt_5 (i := 20) (by decide +kernel) (by decide +kernel)
theorem wini_9 : Cond.initialized RX9 ∈ jTW := jt_1 (i := 11) (by decide +kernel) (by decide +kernel)
theorem kdef_9 : ∀ j, j < 35 → defaultValue (tyX9 j) = (match (jFields.getD 9 []).getD j (0, 0) with | (0, _) => Value.int 0 | (1, _) => .long 0 | _ => .null) := by decide +kernel
theorem sg_X0_init : jSg yX0_init cX0_init 1 none 0 := ⟨jt_1 (i := 31) rfl rfl, jt_1 (i := 2) (by decide +kernel) (by decide +kernel), by decide +kernel, by decide +kernel, by decide +kernel⟩
theorem si_X0_init : Cond.instanceMethod yX0_init ∈ jTW := jt_1 (i := 30) (by decide +kernel) (by decide +kernel)
theorem sg_X2_init : jSg yX2_init cX2_init 1 none 0 := ⟨jt_1 (i := 128) rfl rfl, jt_1 (i := 6) (by decide +kernel) (by decide +kernel), by decide +kernel, by decide +kernel, by decide +kernel⟩
theorem si_X2_init : Cond.instanceMethod yX2_init ∈ jTW := jt_1 (i := 127) (by decide +kernel) (by decide +kernel)
theorem sg_X4_init : jSg yX4_init cX4_init 2 none 1 := ⟨jt_1 (i := 122) rfl rfl, jt_1 (i := 5) (by decide +kernel) (by decide +kernel), by decide +kernel, by decide +kernel, by decide +kernel⟩
theorem si_X4_init : Cond.instanceMethod yX4_init ∈ jTW := jt_1 (i := 121) (by decide +kernel) (by decide +kernel)
theorem sg_X1_init : jSg yX1_init cX1_init 2 none 0 := ⟨jt_1 (i := 96) rfl rfl, jt_1 (i := 3) (by decide +kernel) (by decide +kernel), by decide +kernel, by decide +kernel, by decide +kernel⟩
theorem si_X1_init : Cond.instanceMethod yX1_init ∈ jTW := jt_1 (i := 95) (by decide +kernel) (by decide +kernel)
theorem sg_X7_init : jSg yX7_init cX7_init 1 none 0 := ⟨jt_1 (i := 116) rfl rfl, jt_1 (i := 4) (by decide +kernel) (by decide +kernel), by decide +kernel, by decide +kernel, by decide +kernel⟩
theorem si_X7_init : Cond.instanceMethod yX7_init ∈ jTW := jt_1 (i := 115) (by decide +kernel) (by decide +kernel)
theorem sg_X5_init : jSg yX5_init cX5_init 1 none 0 := ⟨jt_1 (i := 234) rfl rfl, jt_1 (i := 7) (by decide +kernel) (by decide +kernel), by decide +kernel, by decide +kernel, by decide +kernel⟩
theorem si_X5_init : Cond.instanceMethod yX5_init ∈ jTW := jt_1 (i := 233) (by decide +kernel) (by decide +kernel)
theorem sg_X3_init : jSg yX3_init cX3_init 1 none 0 := ⟨jt_2 (i := 24) rfl rfl, jt_1 (i := 8) (by decide +kernel) (by decide +kernel), by decide +kernel, by decide +kernel, by decide +kernel⟩
theorem si_X3_init : Cond.instanceMethod yX3_init ∈ jTW := jt_2 (i := 23) (by decide +kernel) (by decide +kernel)
theorem sg_J7_fill_53178 : jSg yJ7_fill_53178 cJ7_fill_53178 4 none 2 := ⟨jt_2 (i := 46) rfl rfl, jt_1 (i := 10) (by decide +kernel) (by decide +kernel), by decide +kernel, by decide +kernel, by decide +kernel⟩
theorem ss_J7_fill_53178 : Cond.static yJ7_fill_53178 ∈ jTW := jt_2 (i := 45) (by decide +kernel) (by decide +kernel)
theorem sg_X6_init : jSg yX6_init cX6_init 1 none 0 := ⟨jt_2 (i := 42) rfl rfl, jt_1 (i := 9) (by decide +kernel) (by decide +kernel), by decide +kernel, by decide +kernel, by decide +kernel⟩
theorem si_X6_init : Cond.instanceMethod yX6_init ∈ jTW := jt_2 (i := 41) (by decide +kernel) (by decide +kernel)
theorem sg_X8_init : jSg yX8_init cX8_init 1 none 0 := ⟨jt_1 (i := 23) rfl rfl, jt_1 (i := 1) (by decide +kernel) (by decide +kernel), by decide +kernel, by decide +kernel, by decide +kernel⟩
theorem si_X8_init : Cond.instanceMethod yX8_init ∈ jTW := jt_1 (i := 22) (by decide +kernel) (by decide +kernel)
theorem sg_X9_init : jSg yX9_init cX9_init 1 none 0 := ⟨jt_5 (i := 23) rfl rfl, jt_1 (i := 11) (by decide +kernel) (by decide +kernel), by decide +kernel, by decide +kernel, by decide +kernel⟩
theorem si_X9_init : Cond.instanceMethod yX9_init ∈ jTW := jt_5 (i := 22) (by decide +kernel) (by decide +kernel)
def memX0_init (mem : Mem) (c : Nat) : Mem := (mset mem c 0 8)
def nuX0_init (nu : Nul) (c : Nat) : Nul := (nset (nset (nset (nset (nset (nset (nset (nset nu c 2) c 3) c 5) c 6) c 7) c 8) c 10) c 11)
theorem kX0_init (u : jU) (c : Nat) (ha : kd c = 0) {mem : Mem} {nu : Nul} : kMet u yX0_init cX0_init 1 (kRm 1 20 8 38) [vR (uB u) c] mem nu (c + 1) (memX0_init mem c) (nuX0_init nu c) (c + 9) := by
  refine kMet_of (by decide +kernel) (Nat.le_of_ble_eq_true rfl) (fun x G hI => ?_)
  have hI := hI rfl
  show K u x 1 _ 0 [(0, vR (uB u) c)] [] mem nu (c + 1) 0 0
  refine K_aload_n G 0 rfl dX0_init_0 ?_
  refine K_objInit G wm_X0_3 w_obj1 w_obj2 ⟨by decide, Nat.le_of_ble_eq_true rfl⟩ dX0_init_1 ?_
  refine K_aload_n G 0 rfl dX0_init_4 ?_
  refine K_bipush G (by decide) dX0_init_5 ?_
  refine K_putI (i := 0) (k := 0) (fun _ => ⟨hI, rfl⟩) G cls_0 wf_X0_9 ha (by omega) rfl rfl rfl dX0_init_7 ?_
  refine K_aload_n G 0 rfl dX0_init_10 ?_
  refine K_iconst G dX0_init_11 ?_
  refine K_newI (N := 4) (n' := (c + 2)) (c' := 1) (s' := 4) G w_arrI (bk_1 ha) (bl_1 ha) rfl (by decide) rfl rfl rfl ⟨by decide, by decide⟩ dX0_init_12 ?_
  refine K_putR (k := 2) (fun _ => ⟨hI, rfl⟩) G cls_0 wf_X0_15 ha (by omega) rfl rfl rfl rfl dX0_init_14 ?_
  refine K_aload_n G 0 rfl dX0_init_17 ?_
  refine K_iconst G dX0_init_18 ?_
  refine K_newI (N := 4) (n' := (c + 3)) (c' := 2) (s' := 8) G w_arrI (bk_2 ha) (bl_2 ha) rfl (by decide) rfl rfl rfl ⟨by decide, by decide⟩ dX0_init_19 ?_
  refine K_putR (k := 3) (fun _ => ⟨hI, rfl⟩) G cls_0 wf_X0_19 ha (by omega) rfl rfl rfl rfl dX0_init_21 ?_
  refine K_aload_n G 0 rfl dX0_init_24 ?_
  refine K_bipush G (by decide) dX0_init_25 ?_
  refine K_newI (N := 6) (n' := (c + 4)) (c' := 3) (s' := 14) G w_arrI (bk_3 ha) (bl_3 ha) rfl (by decide) rfl rfl rfl ⟨by decide, by decide⟩ dX0_init_27 ?_
  refine K_putR (k := 5) (fun _ => ⟨hI, rfl⟩) G cls_0 wf_X0_22 ha (by omega) rfl rfl rfl rfl dX0_init_29 ?_
  refine K_aload_n G 0 rfl dX0_init_32 ?_
  refine K_bipush G (by decide) dX0_init_33 ?_
  refine K_newI (N := 6) (n' := (c + 5)) (c' := 4) (s' := 20) G w_arrI (bk_4 ha) (bl_4 ha) rfl (by decide) rfl rfl rfl ⟨by decide, by decide⟩ dX0_init_35 ?_
  refine K_putR (k := 6) (fun _ => ⟨hI, rfl⟩) G cls_0 wf_X0_25 ha (by omega) rfl rfl rfl rfl dX0_init_37 ?_
  refine K_aload_n G 0 rfl dX0_init_40 ?_
  refine K_bipush G (by decide) dX0_init_41 ?_
  refine K_newI (N := 6) (n' := (c + 6)) (c' := 5) (s' := 26) G w_arrI (bk_5 ha) (bl_5 ha) rfl (by decide) rfl rfl rfl ⟨by decide, by decide⟩ dX0_init_43 ?_
  refine K_putR (k := 7) (fun _ => ⟨hI, rfl⟩) G cls_0 wf_X0_28 ha (by omega) rfl rfl rfl rfl dX0_init_45 ?_
  refine K_aload_n G 0 rfl dX0_init_48 ?_
  refine K_bipush G (by decide) dX0_init_49 ?_
  refine K_newI (N := 6) (n' := (c + 7)) (c' := 6) (s' := 32) G w_arrI (bk_6 ha) (bl_6 ha) rfl (by decide) rfl rfl rfl ⟨by decide, by decide⟩ dX0_init_51 ?_
  refine K_putR (k := 8) (fun _ => ⟨hI, rfl⟩) G cls_0 wf_X0_31 ha (by omega) rfl rfl rfl rfl dX0_init_53 ?_
  refine K_aload_n G 0 rfl dX0_init_56 ?_
  refine K_iconst G dX0_init_57 ?_
  refine K_newI (N := 3) (n' := (c + 8)) (c' := 7) (s' := 35) G w_arrI (bk_7 ha) (bl_7 ha) rfl (by decide) rfl rfl rfl ⟨by decide, by decide⟩ dX0_init_58 ?_
  refine K_putR (k := 10) (fun _ => ⟨hI, rfl⟩) G cls_0 wf_X0_34 ha (by omega) rfl rfl rfl rfl dX0_init_60 ?_
  refine K_aload_n G 0 rfl dX0_init_63 ?_
  refine K_iconst G dX0_init_64 ?_
  refine K_newI (N := 3) (n' := (c + 9)) (c' := 8) (s' := 38) G w_arrI (bk_8 ha) (bl_8 ha) rfl (by decide) rfl rfl rfl ⟨by decide, by decide⟩ dX0_init_65 ?_
  refine K_putR (k := 11) (fun _ => ⟨hI, rfl⟩) G cls_0 wf_X0_37 ha (by omega) rfl rfl rfl rfl dX0_init_67 ?_
  exact K_vret G dX0_init_70
def memX2_init (mem : Mem) (c : Nat) : Mem := (mset mem c 1 1)
def nuX2_init (nu : Nul) (c : Nat) : Nul := nu
theorem kX2_init (u : jU) (c : Nat) (ha : kd c = 2) {mem : Mem} {nu : Nul} : kMet u yX2_init cX2_init 1 (kRm 1 20 0 0) [vR (uB u) c] mem nu (c + 1) (memX2_init mem c) (nuX2_init nu c) (c + 1) := by
  refine kMet_of (by decide +kernel) (Nat.le_of_ble_eq_true rfl) (fun x G hI => ?_)
  have hI := hI rfl
  show K u x 1 _ 0 [(0, vR (uB u) c)] [] mem nu (c + 1) 0 0
  refine K_aload_n G 0 rfl dX2_init_0 ?_
  refine K_objInit G wm_X2_3 w_obj1 w_obj2 ⟨by decide, Nat.le_of_ble_eq_true rfl⟩ dX2_init_1 ?_
  refine K_aload_n G 0 rfl dX2_init_4 ?_
  refine K_lconst (v := 1) G (by decide) dX2_init_5 ?_
  refine K_putL (i := 1) (k := 1) (fun _ => ⟨hI, rfl⟩) G cls_2 wf_X2_9 ha (by omega) rfl rfl rfl dX2_init_6 ?_
  exact K_vret G dX2_init_9
def memX4_init (mem : Mem) (c : Nat) (p0 : Int) : Mem := (mset (memX2_init (memX2_init mem (c + 1)) (c + 2)) c 3 p0)
def nuX4_init (nu : Nul) (c : Nat) : Nul := (nset (nuX2_init (nset (nuX2_init nu (c + 1)) c 0) (c + 2)) c 1)
theorem kX4_init (u : jU) (c : Nat) (ha : kd c = 4) (p0 : Int) {mem : Mem} {nu : Nul} : kMet u yX4_init cX4_init 2 (kRm 2 40 2 4) [vR (uB u) c, vI p0] mem nu (c + 1) (memX4_init mem c p0) (nuX4_init nu c) (c + 3) := by
  refine kMet_of (by decide +kernel) (Nat.le_of_ble_eq_true rfl) (fun x G hI => ?_)
  have hI := hI rfl
  show K u x 2 _ 0 [(0, vR (uB u) c), (1, vI p0)] [] mem nu (c + 1) 0 0
  refine K_aload_n G 0 rfl dX4_init_0 ?_
  refine K_objInit G wm_X4_1 w_obj1 w_obj2 ⟨by decide, Nat.le_of_ble_eq_true rfl⟩ dX4_init_1 ?_
  refine K_aload_n G 0 rfl dX4_init_4 ?_
  refine K_new (n' := (c + 2)) (c' := 1) (s' := 2) G cls_2 kdef_2 wcl_X4_7 winst_2 wini_2 (pk_1 ha) rfl rfl rfl ⟨by decide, by decide⟩ dX4_init_5 ?_
  refine K_dup G rfl dX4_init_8 ?_
  refine K_init (As := []) (n' := (c + 2)) (c' := 1) (s' := 2) G (kX2_init u (c + 1) (pk_1 ha)) sg_X2_init si_X2_init rfl wm_X4_9 ⟨by decide, by decide⟩ rfl rfl (Nat.le_of_ble_eq_true rfl) rfl rfl ⟨by decide, by decide⟩ dX4_init_9 ?_
  refine K_putR (k := 0) (fun _ => ⟨hI, rfl⟩) G cls_4 wf_X4_10 ha (by omega) rfl rfl rfl rfl dX4_init_12 ?_
  refine K_aload_n G 0 rfl dX4_init_15 ?_
  refine K_new (n' := (c + 3)) (c' := 2) (s' := 4) G cls_2 kdef_2 wcl_X4_7 winst_2 wini_2 (pk_2 ha) rfl rfl rfl ⟨by decide, by decide⟩ dX4_init_16 ?_
  refine K_dup G rfl dX4_init_19 ?_
  refine K_init (As := []) (n' := (c + 3)) (c' := 2) (s' := 4) G (kX2_init u (c + 2) (pk_2 ha)) sg_X2_init si_X2_init rfl wm_X4_9 ⟨by decide, by decide⟩ rfl rfl (Nat.le_of_ble_eq_true rfl) rfl rfl ⟨by decide, by decide⟩ dX4_init_20 ?_
  refine K_putR (k := 1) (fun _ => ⟨hI, rfl⟩) G cls_4 wf_X4_16 ha (by omega) rfl rfl rfl rfl dX4_init_23 ?_
  refine K_aload_n G 0 rfl dX4_init_26 ?_
  refine K_iload_n G 1 rfl dX4_init_27 ?_
  refine K_putI (i := 3) (k := 3) (fun _ => ⟨hI, rfl⟩) G cls_4 wf_X4_19 ha (by omega) rfl rfl rfl dX4_init_28 ?_
  exact K_vret G dX4_init_31
def memX1_init (mem : Mem) : Mem := (memX0_init (memX0_init (memX0_init (memX0_init (memX0_init (memX0_init (memX0_init (memX0_init (memX0_init (memX0_init mem 12) 21) 30) 39) 48) 57) 66) 75) 84) 93)
def nuX1_init (nu : Nul) : Nul := (nset (nuX0_init (nset (nuX0_init (nset (nuX0_init (nset (nuX0_init (nset (nuX0_init (nset (nuX0_init (nset (nuX0_init (nset (nuX0_init (nset (nuX0_init (nset (nuX0_init (nset nu 10 2) 12) 11 0) 21) 11 1) 30) 11 2) 39) 11 3) 48) 11 4) 57) 11 5) 66) 11 6) 75) 11 7) 84) 11 8) 93) 11 9)
theorem kX1_init (u : jU) {mem : Mem} {nu : Nul} : kMet u yX1_init cX1_init 2 (kRm 2 40 91 510) [vR (uB u) 10] mem nu 11 (memX1_init mem) (nuX1_init nu) 102 := by
  refine kMet_of (by decide +kernel) (Nat.le_of_ble_eq_true rfl) (fun x G hI => ?_)
  have hI := hI rfl
  show K u x 2 _ 0 [(0, vR (uB u) 10)] [] mem nu 11 0 0
  refine K_aload_n G 0 rfl dX1_init_0 ?_
  refine K_objInit G wm_X1_3 w_obj1 w_obj2 ⟨by decide, Nat.le_of_ble_eq_true rfl⟩ dX1_init_1 ?_
  refine K_aload_n G 0 rfl dX1_init_4 ?_
  refine K_bipush G (by decide) dX1_init_5 ?_
  refine K_newR (n' := 12) (c' := 1) (s' := 10) G wcl_X1_9 kd_11 ln_11 rfl rfl rfl ⟨by decide, by decide⟩ dX1_init_7 ?_
  refine K_putR (k := 2) (fun _ => ⟨hI, rfl⟩) G cls_1 wf_X1_11 kd_10 (by omega) rfl rfl rfl rfl dX1_init_10 ?_
  refine K_iconst G dX1_init_13 ?_
  refine K_istore_n (lv' := [(1, vI 0), (0, vR (uB u) 10)]) G dX1_init_14 rfl (by decide) rfl ?_
  refine K_iload_n G 0 rfl dX1_init_15 ?_
  refine K_bipush G (by decide) dX1_init_16 ?_
  refine K_icmp_geF 40 G dX1_init_18 (by decide) (by decide) ?_
  refine K_aload_n G 1 rfl dX1_init_21 ?_
  refine K_getR (d := 11) (k := 2) G cls_1 wf_X1_11 kd_10 (by omega) rfl rfl (by simp [nset, nuX0_init]) dX1_init_22 ?_
  refine K_iload_n G 0 rfl dX1_init_25 ?_
  refine K_new (n' := 13) (c' := 2) (s' := 22) G cls_0 kdef_0 wcl_X1_9 winst_0 wini_0 kd_12 rfl rfl rfl ⟨by decide, by decide⟩ dX1_init_26 ?_
  refine K_dup G rfl dX1_init_29 ?_
  refine K_init (As := []) (n' := 21) (c' := 10) (s' := 60) G (kX0_init u 12 kd_12) sg_X0_init si_X0_init rfl wm_X1_17 ⟨by decide, by decide⟩ rfl rfl (Nat.le_of_ble_eq_true rfl) rfl rfl ⟨by decide, by decide⟩ dX1_init_30 ?_
  refine K_aast (k := 0) G kd_11 ln_11 (by omega) kd_12 (by omega) rfl (by decide) rfl dX1_init_33 ?_
  refine K_iinc (b := 1) (lv' := [(1, vI 1), (0, vR (uB u) 10)]) G 0 dX1_init_34 rfl (by decide) (by decide) rfl ?_
  refine K_goto 15 G dX1_init_37 (by decide) ?_
  refine K_iload_n G 0 rfl dX1_init_15 ?_
  refine K_bipush G (by decide) dX1_init_16 ?_
  refine K_icmp_geF 40 G dX1_init_18 (by decide) (by decide) ?_
  refine K_aload_n G 1 rfl dX1_init_21 ?_
  refine K_getR (d := 11) (k := 2) G cls_1 wf_X1_11 kd_10 (by omega) rfl rfl (by simp [nset, nuX0_init]) dX1_init_22 ?_
  refine K_iload_n G 0 rfl dX1_init_25 ?_
  refine K_new (n' := 22) (c' := 11) (s' := 72) G cls_0 kdef_0 wcl_X1_9 winst_0 wini_0 kd_21 rfl rfl rfl ⟨by decide, by decide⟩ dX1_init_26 ?_
  refine K_dup G rfl dX1_init_29 ?_
  refine K_init (As := []) (n' := 30) (c' := 19) (s' := 110) G (kX0_init u 21 kd_21) sg_X0_init si_X0_init rfl wm_X1_17 ⟨by decide, by decide⟩ rfl rfl (Nat.le_of_ble_eq_true rfl) rfl rfl ⟨by decide, by decide⟩ dX1_init_30 ?_
  refine K_aast (k := 1) G kd_11 ln_11 (by omega) kd_21 (by omega) rfl (by decide) rfl dX1_init_33 ?_
  refine K_iinc (b := 2) (lv' := [(1, vI 2), (0, vR (uB u) 10)]) G 0 dX1_init_34 rfl (by decide) (by decide) rfl ?_
  refine K_goto 15 G dX1_init_37 (by decide) ?_
  refine K_iload_n G 0 rfl dX1_init_15 ?_
  refine K_bipush G (by decide) dX1_init_16 ?_
  refine K_icmp_geF 40 G dX1_init_18 (by decide) (by decide) ?_
  refine K_aload_n G 1 rfl dX1_init_21 ?_
  refine K_getR (d := 11) (k := 2) G cls_1 wf_X1_11 kd_10 (by omega) rfl rfl (by simp [nset, nuX0_init]) dX1_init_22 ?_
  refine K_iload_n G 0 rfl dX1_init_25 ?_
  refine K_new (n' := 31) (c' := 20) (s' := 122) G cls_0 kdef_0 wcl_X1_9 winst_0 wini_0 kd_30 rfl rfl rfl ⟨by decide, by decide⟩ dX1_init_26 ?_
  refine K_dup G rfl dX1_init_29 ?_
  refine K_init (As := []) (n' := 39) (c' := 28) (s' := 160) G (kX0_init u 30 kd_30) sg_X0_init si_X0_init rfl wm_X1_17 ⟨by decide, by decide⟩ rfl rfl (Nat.le_of_ble_eq_true rfl) rfl rfl ⟨by decide, by decide⟩ dX1_init_30 ?_
  refine K_aast (k := 2) G kd_11 ln_11 (by omega) kd_30 (by omega) rfl (by decide) rfl dX1_init_33 ?_
  refine K_iinc (b := 3) (lv' := [(1, vI 3), (0, vR (uB u) 10)]) G 0 dX1_init_34 rfl (by decide) (by decide) rfl ?_
  refine K_goto 15 G dX1_init_37 (by decide) ?_
  refine K_iload_n G 0 rfl dX1_init_15 ?_
  refine K_bipush G (by decide) dX1_init_16 ?_
  refine K_icmp_geF 40 G dX1_init_18 (by decide) (by decide) ?_
  refine K_aload_n G 1 rfl dX1_init_21 ?_
  refine K_getR (d := 11) (k := 2) G cls_1 wf_X1_11 kd_10 (by omega) rfl rfl (by simp [nset, nuX0_init]) dX1_init_22 ?_
  refine K_iload_n G 0 rfl dX1_init_25 ?_
  refine K_new (n' := 40) (c' := 29) (s' := 172) G cls_0 kdef_0 wcl_X1_9 winst_0 wini_0 kd_39 rfl rfl rfl ⟨by decide, by decide⟩ dX1_init_26 ?_
  refine K_dup G rfl dX1_init_29 ?_
  refine K_init (As := []) (n' := 48) (c' := 37) (s' := 210) G (kX0_init u 39 kd_39) sg_X0_init si_X0_init rfl wm_X1_17 ⟨by decide, by decide⟩ rfl rfl (Nat.le_of_ble_eq_true rfl) rfl rfl ⟨by decide, by decide⟩ dX1_init_30 ?_
  refine K_aast (k := 3) G kd_11 ln_11 (by omega) kd_39 (by omega) rfl (by decide) rfl dX1_init_33 ?_
  refine K_iinc (b := 4) (lv' := [(1, vI 4), (0, vR (uB u) 10)]) G 0 dX1_init_34 rfl (by decide) (by decide) rfl ?_
  refine K_goto 15 G dX1_init_37 (by decide) ?_
  refine K_iload_n G 0 rfl dX1_init_15 ?_
  refine K_bipush G (by decide) dX1_init_16 ?_
  refine K_icmp_geF 40 G dX1_init_18 (by decide) (by decide) ?_
  refine K_aload_n G 1 rfl dX1_init_21 ?_
  refine K_getR (d := 11) (k := 2) G cls_1 wf_X1_11 kd_10 (by omega) rfl rfl (by simp [nset, nuX0_init]) dX1_init_22 ?_
  refine K_iload_n G 0 rfl dX1_init_25 ?_
  refine K_new (n' := 49) (c' := 38) (s' := 222) G cls_0 kdef_0 wcl_X1_9 winst_0 wini_0 kd_48 rfl rfl rfl ⟨by decide, by decide⟩ dX1_init_26 ?_
  refine K_dup G rfl dX1_init_29 ?_
  refine K_init (As := []) (n' := 57) (c' := 46) (s' := 260) G (kX0_init u 48 kd_48) sg_X0_init si_X0_init rfl wm_X1_17 ⟨by decide, by decide⟩ rfl rfl (Nat.le_of_ble_eq_true rfl) rfl rfl ⟨by decide, by decide⟩ dX1_init_30 ?_
  refine K_aast (k := 4) G kd_11 ln_11 (by omega) kd_48 (by omega) rfl (by decide) rfl dX1_init_33 ?_
  refine K_iinc (b := 5) (lv' := [(1, vI 5), (0, vR (uB u) 10)]) G 0 dX1_init_34 rfl (by decide) (by decide) rfl ?_
  refine K_goto 15 G dX1_init_37 (by decide) ?_
  refine K_iload_n G 0 rfl dX1_init_15 ?_
  refine K_bipush G (by decide) dX1_init_16 ?_
  refine K_icmp_geF 40 G dX1_init_18 (by decide) (by decide) ?_
  refine K_aload_n G 1 rfl dX1_init_21 ?_
  refine K_getR (d := 11) (k := 2) G cls_1 wf_X1_11 kd_10 (by omega) rfl rfl (by simp [nset, nuX0_init]) dX1_init_22 ?_
  refine K_iload_n G 0 rfl dX1_init_25 ?_
  refine K_new (n' := 58) (c' := 47) (s' := 272) G cls_0 kdef_0 wcl_X1_9 winst_0 wini_0 kd_57 rfl rfl rfl ⟨by decide, by decide⟩ dX1_init_26 ?_
  refine K_dup G rfl dX1_init_29 ?_
  refine K_init (As := []) (n' := 66) (c' := 55) (s' := 310) G (kX0_init u 57 kd_57) sg_X0_init si_X0_init rfl wm_X1_17 ⟨by decide, by decide⟩ rfl rfl (Nat.le_of_ble_eq_true rfl) rfl rfl ⟨by decide, by decide⟩ dX1_init_30 ?_
  refine K_aast (k := 5) G kd_11 ln_11 (by omega) kd_57 (by omega) rfl (by decide) rfl dX1_init_33 ?_
  refine K_iinc (b := 6) (lv' := [(1, vI 6), (0, vR (uB u) 10)]) G 0 dX1_init_34 rfl (by decide) (by decide) rfl ?_
  refine K_goto 15 G dX1_init_37 (by decide) ?_
  refine K_iload_n G 0 rfl dX1_init_15 ?_
  refine K_bipush G (by decide) dX1_init_16 ?_
  refine K_icmp_geF 40 G dX1_init_18 (by decide) (by decide) ?_
  refine K_aload_n G 1 rfl dX1_init_21 ?_
  refine K_getR (d := 11) (k := 2) G cls_1 wf_X1_11 kd_10 (by omega) rfl rfl (by simp [nset, nuX0_init]) dX1_init_22 ?_
  refine K_iload_n G 0 rfl dX1_init_25 ?_
  refine K_new (n' := 67) (c' := 56) (s' := 322) G cls_0 kdef_0 wcl_X1_9 winst_0 wini_0 kd_66 rfl rfl rfl ⟨by decide, by decide⟩ dX1_init_26 ?_
  refine K_dup G rfl dX1_init_29 ?_
  refine K_init (As := []) (n' := 75) (c' := 64) (s' := 360) G (kX0_init u 66 kd_66) sg_X0_init si_X0_init rfl wm_X1_17 ⟨by decide, by decide⟩ rfl rfl (Nat.le_of_ble_eq_true rfl) rfl rfl ⟨by decide, by decide⟩ dX1_init_30 ?_
  refine K_aast (k := 6) G kd_11 ln_11 (by omega) kd_66 (by omega) rfl (by decide) rfl dX1_init_33 ?_
  refine K_iinc (b := 7) (lv' := [(1, vI 7), (0, vR (uB u) 10)]) G 0 dX1_init_34 rfl (by decide) (by decide) rfl ?_
  refine K_goto 15 G dX1_init_37 (by decide) ?_
  refine K_iload_n G 0 rfl dX1_init_15 ?_
  refine K_bipush G (by decide) dX1_init_16 ?_
  refine K_icmp_geF 40 G dX1_init_18 (by decide) (by decide) ?_
  refine K_aload_n G 1 rfl dX1_init_21 ?_
  refine K_getR (d := 11) (k := 2) G cls_1 wf_X1_11 kd_10 (by omega) rfl rfl (by simp [nset, nuX0_init]) dX1_init_22 ?_
  refine K_iload_n G 0 rfl dX1_init_25 ?_
  refine K_new (n' := 76) (c' := 65) (s' := 372) G cls_0 kdef_0 wcl_X1_9 winst_0 wini_0 kd_75 rfl rfl rfl ⟨by decide, by decide⟩ dX1_init_26 ?_
  refine K_dup G rfl dX1_init_29 ?_
  refine K_init (As := []) (n' := 84) (c' := 73) (s' := 410) G (kX0_init u 75 kd_75) sg_X0_init si_X0_init rfl wm_X1_17 ⟨by decide, by decide⟩ rfl rfl (Nat.le_of_ble_eq_true rfl) rfl rfl ⟨by decide, by decide⟩ dX1_init_30 ?_
  refine K_aast (k := 7) G kd_11 ln_11 (by omega) kd_75 (by omega) rfl (by decide) rfl dX1_init_33 ?_
  refine K_iinc (b := 8) (lv' := [(1, vI 8), (0, vR (uB u) 10)]) G 0 dX1_init_34 rfl (by decide) (by decide) rfl ?_
  refine K_goto 15 G dX1_init_37 (by decide) ?_
  refine K_iload_n G 0 rfl dX1_init_15 ?_
  refine K_bipush G (by decide) dX1_init_16 ?_
  refine K_icmp_geF 40 G dX1_init_18 (by decide) (by decide) ?_
  refine K_aload_n G 1 rfl dX1_init_21 ?_
  refine K_getR (d := 11) (k := 2) G cls_1 wf_X1_11 kd_10 (by omega) rfl rfl (by simp [nset, nuX0_init]) dX1_init_22 ?_
  refine K_iload_n G 0 rfl dX1_init_25 ?_
  refine K_new (n' := 85) (c' := 74) (s' := 422) G cls_0 kdef_0 wcl_X1_9 winst_0 wini_0 kd_84 rfl rfl rfl ⟨by decide, by decide⟩ dX1_init_26 ?_
  refine K_dup G rfl dX1_init_29 ?_
  refine K_init (As := []) (n' := 93) (c' := 82) (s' := 460) G (kX0_init u 84 kd_84) sg_X0_init si_X0_init rfl wm_X1_17 ⟨by decide, by decide⟩ rfl rfl (Nat.le_of_ble_eq_true rfl) rfl rfl ⟨by decide, by decide⟩ dX1_init_30 ?_
  refine K_aast (k := 8) G kd_11 ln_11 (by omega) kd_84 (by omega) rfl (by decide) rfl dX1_init_33 ?_
  refine K_iinc (b := 9) (lv' := [(1, vI 9), (0, vR (uB u) 10)]) G 0 dX1_init_34 rfl (by decide) (by decide) rfl ?_
  refine K_goto 15 G dX1_init_37 (by decide) ?_
  refine K_iload_n G 0 rfl dX1_init_15 ?_
  refine K_bipush G (by decide) dX1_init_16 ?_
  refine K_icmp_geF 40 G dX1_init_18 (by decide) (by decide) ?_
  refine K_aload_n G 1 rfl dX1_init_21 ?_
  refine K_getR (d := 11) (k := 2) G cls_1 wf_X1_11 kd_10 (by omega) rfl rfl (by simp [nset, nuX0_init]) dX1_init_22 ?_
  refine K_iload_n G 0 rfl dX1_init_25 ?_
  refine K_new (n' := 94) (c' := 83) (s' := 472) G cls_0 kdef_0 wcl_X1_9 winst_0 wini_0 kd_93 rfl rfl rfl ⟨by decide, by decide⟩ dX1_init_26 ?_
  refine K_dup G rfl dX1_init_29 ?_
  refine K_init (As := []) (n' := 102) (c' := 91) (s' := 510) G (kX0_init u 93 kd_93) sg_X0_init si_X0_init rfl wm_X1_17 ⟨by decide, by decide⟩ rfl rfl (Nat.le_of_ble_eq_true rfl) rfl rfl ⟨by decide, by decide⟩ dX1_init_30 ?_
  refine K_aast (k := 9) G kd_11 ln_11 (by omega) kd_93 (by omega) rfl (by decide) rfl dX1_init_33 ?_
  refine K_iinc (b := 10) (lv' := [(1, vI 10), (0, vR (uB u) 10)]) G 0 dX1_init_34 rfl (by decide) (by decide) rfl ?_
  refine K_goto 15 G dX1_init_37 (by decide) ?_
  refine K_iload_n G 0 rfl dX1_init_15 ?_
  refine K_bipush G (by decide) dX1_init_16 ?_
  refine K_icmp_geT 40 G dX1_init_18 (by decide) (by decide) ?_
  exact K_vret G dX1_init_40
def memX7_init (mem : Mem) : Mem := (memX2_init (memX2_init (mset (memX4_init (memX4_init (mset (mset mem 111 6 1) 111 10 1) 120 1) 123 (-1)) 111 14 1) 127) 128)
def nuX7_init (nu : Nul) : Nul := (nset (nuX2_init (nset (nuX2_init (nset (nset (nuX4_init (nset (nuX4_init (nset (nset (nset (nset (nset (nset (nset (nset nu 111 2) 111 3) 111 4) 111 5) 111 7) 111 8) 111 9) 111 11) 120) 111 12) 123) 111 13) 111 15) 127) 111 16) 128) 111 17)
theorem kX7_init (u : jU) {mem : Mem} {nu : Nul} : kMet u yX7_init cX7_init 1 (kRm 3 61 17 91) [vR (uB u) 111] mem nu 112 (memX7_init mem) (nuX7_init nu) 129 := by
  refine kMet_of (by decide +kernel) (Nat.le_of_ble_eq_true rfl) (fun x G hI => ?_)
  have hI := hI rfl
  show K u x 1 _ 0 [(0, vR (uB u) 111)] [] mem nu 112 0 0
  refine K_aload_n G 0 rfl dX7_init_0 ?_
  refine K_objInit G wm_X7_3 w_obj1 w_obj2 ⟨by decide, Nat.le_of_ble_eq_true rfl⟩ dX7_init_1 ?_
  refine K_aload_n G 0 rfl dX7_init_4 ?_
  refine K_iconst G dX7_init_5 ?_
  refine K_newI (N := 4) (n' := 113) (c' := 1) (s' := 4) G w_arrI kd_112 ln_112 rfl (by decide) rfl rfl rfl ⟨by decide, by decide⟩ dX7_init_6 ?_
  refine K_putR (k := 2) (fun _ => ⟨hI, rfl⟩) G cls_7 wf_X7_9 kd_111 (by omega) rfl rfl rfl rfl dX7_init_8 ?_
  refine K_aload_n G 0 rfl dX7_init_11 ?_
  refine K_iconst G dX7_init_12 ?_
  refine K_newI (N := 4) (n' := 114) (c' := 2) (s' := 8) G w_arrI kd_113 ln_113 rfl (by decide) rfl rfl rfl ⟨by decide, by decide⟩ dX7_init_13 ?_
  refine K_putR (k := 3) (fun _ => ⟨hI, rfl⟩) G cls_7 wf_X7_15 kd_111 (by omega) rfl rfl rfl rfl dX7_init_15 ?_
  refine K_aload_n G 0 rfl dX7_init_18 ?_
  refine K_bipush G (by decide) dX7_init_19 ?_
  refine K_newL (N := 11) (n' := 115) (c' := 3) (s' := 19) G w_arrL kd_114 ln_114 rfl (by decide) rfl rfl rfl ⟨by decide, by decide⟩ dX7_init_21 ?_
  refine K_putR (k := 4) (fun _ => ⟨hI, rfl⟩) G cls_7 wf_X7_18 kd_111 (by omega) rfl rfl rfl rfl dX7_init_23 ?_
  refine K_aload_n G 0 rfl dX7_init_26 ?_
  refine K_bipush G (by decide) dX7_init_27 ?_
  refine K_newL (N := 11) (n' := 116) (c' := 4) (s' := 30) G w_arrL kd_115 ln_115 rfl (by decide) rfl rfl rfl ⟨by decide, by decide⟩ dX7_init_29 ?_
  refine K_putR (k := 5) (fun _ => ⟨hI, rfl⟩) G cls_7 wf_X7_22 kd_111 (by omega) rfl rfl rfl rfl dX7_init_31 ?_
  refine K_aload_n G 0 rfl dX7_init_34 ?_
  refine K_lconst (v := 1) G (by decide) dX7_init_35 ?_
  refine K_putL (i := 6) (k := 6) (fun _ => ⟨hI, rfl⟩) G cls_7 wf_X7_25 kd_111 (by omega) rfl rfl rfl dX7_init_36 ?_
  refine K_aload_n G 0 rfl dX7_init_39 ?_
  refine K_iconst G dX7_init_40 ?_
  refine K_newL (N := 4) (n' := 117) (c' := 5) (s' := 34) G w_arrL kd_116 ln_116 rfl (by decide) rfl rfl rfl ⟨by decide, by decide⟩ dX7_init_41 ?_
  refine K_putR (k := 7) (fun _ => ⟨hI, rfl⟩) G cls_7 wf_X7_29 kd_111 (by omega) rfl rfl rfl rfl dX7_init_43 ?_
  refine K_aload_n G 0 rfl dX7_init_46 ?_
  refine K_bipush G (by decide) dX7_init_47 ?_
  refine K_newL (N := 11) (n' := 118) (c' := 6) (s' := 45) G w_arrL kd_117 ln_117 rfl (by decide) rfl rfl rfl ⟨by decide, by decide⟩ dX7_init_49 ?_
  refine K_putR (k := 8) (fun _ => ⟨hI, rfl⟩) G cls_7 wf_X7_32 kd_111 (by omega) rfl rfl rfl rfl dX7_init_51 ?_
  refine K_aload_n G 0 rfl dX7_init_54 ?_
  refine K_bipush G (by decide) dX7_init_55 ?_
  refine K_newL (N := 11) (n' := 119) (c' := 7) (s' := 56) G w_arrL kd_118 ln_118 rfl (by decide) rfl rfl rfl ⟨by decide, by decide⟩ dX7_init_57 ?_
  refine K_putR (k := 9) (fun _ => ⟨hI, rfl⟩) G cls_7 wf_X7_35 kd_111 (by omega) rfl rfl rfl rfl dX7_init_59 ?_
  refine K_aload_n G 0 rfl dX7_init_62 ?_
  refine K_lconst (v := 1) G (by decide) dX7_init_63 ?_
  refine K_putL (i := 10) (k := 10) (fun _ => ⟨hI, rfl⟩) G cls_7 wf_X7_38 kd_111 (by omega) rfl rfl rfl dX7_init_64 ?_
  refine K_aload_n G 0 rfl dX7_init_67 ?_
  refine K_bipush G (by decide) dX7_init_68 ?_
  refine K_newL (N := 11) (n' := 120) (c' := 8) (s' := 67) G w_arrL kd_119 ln_119 rfl (by decide) rfl rfl rfl ⟨by decide, by decide⟩ dX7_init_70 ?_
  refine K_putR (k := 11) (fun _ => ⟨hI, rfl⟩) G cls_7 wf_X7_41 kd_111 (by omega) rfl rfl rfl rfl dX7_init_72 ?_
  refine K_aload_n G 0 rfl dX7_init_75 ?_
  refine K_new (n' := 121) (c' := 9) (s' := 71) G cls_4 kdef_4 wcl_X7_44 winst_4 wini_4 kd_120 rfl rfl rfl ⟨by decide, by decide⟩ dX7_init_76 ?_
  refine K_dup G rfl dX7_init_79 ?_
  refine K_iconst G dX7_init_80 ?_
  refine K_init (As := [vI 1]) (n' := 123) (c' := 11) (s' := 75) G (kX4_init u 120 kd_120 1) sg_X4_init si_X4_init rfl wm_X7_46 ⟨by decide, by decide⟩ rfl rfl (Nat.le_of_ble_eq_true rfl) rfl rfl ⟨by decide, by decide⟩ dX7_init_81 ?_
  refine K_putR (k := 12) (fun _ => ⟨hI, rfl⟩) G cls_7 wf_X7_49 kd_111 (by omega) rfl rfl rfl rfl dX7_init_84 ?_
  refine K_aload_n G 0 rfl dX7_init_87 ?_
  refine K_new (n' := 124) (c' := 12) (s' := 79) G cls_4 kdef_4 wcl_X7_44 winst_4 wini_4 kd_123 rfl rfl rfl ⟨by decide, by decide⟩ dX7_init_88 ?_
  refine K_dup G rfl dX7_init_91 ?_
  refine K_iconst G dX7_init_92 ?_
  refine K_init (As := [vI (-1)]) (n' := 126) (c' := 14) (s' := 83) G (kX4_init u 123 kd_123 (-1)) sg_X4_init si_X4_init rfl wm_X7_46 ⟨by decide, by decide⟩ rfl rfl (Nat.le_of_ble_eq_true rfl) rfl rfl ⟨by decide, by decide⟩ dX7_init_93 ?_
  refine K_putR (k := 13) (fun _ => ⟨hI, rfl⟩) G cls_7 wf_X7_53 kd_111 (by omega) rfl rfl rfl rfl dX7_init_96 ?_
  refine K_aload_n G 0 rfl dX7_init_99 ?_
  refine K_lconst (v := 1) G (by decide) dX7_init_100 ?_
  refine K_putL (i := 14) (k := 14) (fun _ => ⟨hI, rfl⟩) G cls_7 wf_X7_56 kd_111 (by omega) rfl rfl rfl dX7_init_101 ?_
  refine K_aload_n G 0 rfl dX7_init_104 ?_
  refine K_iconst G dX7_init_105 ?_
  refine K_newL (N := 4) (n' := 127) (c' := 15) (s' := 87) G w_arrL kd_126 ln_126 rfl (by decide) rfl rfl rfl ⟨by decide, by decide⟩ dX7_init_106 ?_
  refine K_putR (k := 15) (fun _ => ⟨hI, rfl⟩) G cls_7 wf_X7_59 kd_111 (by omega) rfl rfl rfl rfl dX7_init_108 ?_
  refine K_aload_n G 0 rfl dX7_init_111 ?_
  refine K_new (n' := 128) (c' := 16) (s' := 89) G cls_2 kdef_2 wcl_X7_62 winst_2 wini_2 kd_127 rfl rfl rfl ⟨by decide, by decide⟩ dX7_init_112 ?_
  refine K_dup G rfl dX7_init_115 ?_
  refine K_init (As := []) (n' := 128) (c' := 16) (s' := 89) G (kX2_init u 127 kd_127) sg_X2_init si_X2_init rfl wm_X7_64 ⟨by decide, by decide⟩ rfl rfl (Nat.le_of_ble_eq_true rfl) rfl rfl ⟨by decide, by decide⟩ dX7_init_116 ?_
  refine K_putR (k := 16) (fun _ => ⟨hI, rfl⟩) G cls_7 wf_X7_65 kd_111 (by omega) rfl rfl rfl rfl dX7_init_119 ?_
  refine K_aload_n G 0 rfl dX7_init_122 ?_
  refine K_new (n' := 129) (c' := 17) (s' := 91) G cls_2 kdef_2 wcl_X7_62 winst_2 wini_2 kd_128 rfl rfl rfl ⟨by decide, by decide⟩ dX7_init_123 ?_
  refine K_dup G rfl dX7_init_126 ?_
  refine K_init (As := []) (n' := 129) (c' := 17) (s' := 91) G (kX2_init u 128 kd_128) sg_X2_init si_X2_init rfl wm_X7_64 ⟨by decide, by decide⟩ rfl rfl (Nat.le_of_ble_eq_true rfl) rfl rfl ⟨by decide, by decide⟩ dX7_init_127 ?_
  refine K_putR (k := 17) (fun _ => ⟨hI, rfl⟩) G cls_7 wf_X7_69 kd_111 (by omega) rfl rfl rfl rfl dX7_init_130 ?_
  exact K_vret G dX7_init_133
def memX5_init (mem : Mem) : Mem := (memX0_init mem 132)
def nuX5_init (nu : Nul) : Nul := (nset (nset (nset (nuX0_init nu 132) 131 1) 131 2) 131 5)
theorem kX5_init (u : jU) {mem : Mem} {nu : Nul} : kMet u yX5_init cX5_init 1 (kRm 2 40 11 173) [vR (uB u) 131] mem nu 132 (memX5_init mem) (nuX5_init nu) 143 := by
  refine kMet_of (by decide +kernel) (Nat.le_of_ble_eq_true rfl) (fun x G hI => ?_)
  have hI := hI rfl
  show K u x 1 _ 0 [(0, vR (uB u) 131)] [] mem nu 132 0 0
  refine K_aload_n G 0 rfl dX5_init_0 ?_
  refine K_objInit G wm_X5_3 w_obj1 w_obj2 ⟨by decide, Nat.le_of_ble_eq_true rfl⟩ dX5_init_1 ?_
  refine K_aload_n G 0 rfl dX5_init_4 ?_
  refine K_new (n' := 133) (c' := 1) (s' := 12) G cls_0 kdef_0 wcl_X5_9 winst_0 wini_0 kd_132 rfl rfl rfl ⟨by decide, by decide⟩ dX5_init_5 ?_
  refine K_dup G rfl dX5_init_8 ?_
  refine K_init (As := []) (n' := 141) (c' := 9) (s' := 50) G (kX0_init u 132 kd_132) sg_X0_init si_X0_init rfl wm_X5_11 ⟨by decide, by decide⟩ rfl rfl (Nat.le_of_ble_eq_true rfl) rfl rfl ⟨by decide, by decide⟩ dX5_init_9 ?_
  refine K_putR (k := 1) (fun _ => ⟨hI, rfl⟩) G cls_5 wf_X5_12 kd_131 (by omega) rfl rfl rfl rfl dX5_init_12 ?_
  refine K_aload_n G 0 rfl dX5_init_15 ?_
  refine K_bipush G (by decide) dX5_init_16 ?_
  refine K_newB (N := 120) (n' := 142) (c' := 10) (s' := 170) G w_arrB kd_141 ln_141 rfl (by decide) rfl rfl rfl ⟨by decide, by decide⟩ dX5_init_18 ?_
  refine K_putR (k := 2) (fun _ => ⟨hI, rfl⟩) G cls_5 wf_X5_18 kd_131 (by omega) rfl rfl rfl rfl dX5_init_20 ?_
  refine K_aload_n G 0 rfl dX5_init_23 ?_
  refine K_iconst G dX5_init_24 ?_
  refine K_newI (N := 3) (n' := 143) (c' := 11) (s' := 173) G w_arrI kd_142 ln_142 rfl (by decide) rfl rfl rfl ⟨by decide, by decide⟩ dX5_init_25 ?_
  refine K_putR (k := 5) (fun _ => ⟨hI, rfl⟩) G cls_5 wf_X5_22 kd_131 (by omega) rfl rfl rfl rfl dX5_init_27 ?_
  exact K_vret G dX5_init_30
def memX3_init (mem : Mem) : Mem := mem
def nuX3_init (nu : Nul) : Nul := (nset (nset nu 143 1) 143 2)
theorem kX3_init (u : jU) {mem : Mem} {nu : Nul} : kMet u yX3_init cX3_init 1 (kRm 1 20 2 1020) [vR (uB u) 143] mem nu 144 (memX3_init mem) (nuX3_init nu) 146 := by
  refine kMet_of (by decide +kernel) (Nat.le_of_ble_eq_true rfl) (fun x G hI => ?_)
  have hI := hI rfl
  show K u x 1 _ 0 [(0, vR (uB u) 143)] [] mem nu 144 0 0
  refine K_aload_n G 0 rfl dX3_init_0 ?_
  refine K_objInit G wm_X3_3 w_obj1 w_obj2 ⟨by decide, Nat.le_of_ble_eq_true rfl⟩ dX3_init_1 ?_
  refine K_aload_n G 0 rfl dX3_init_4 ?_
  refine K_sipush G (by decide) dX3_init_5 ?_
  refine K_newB (N := 1000) (n' := 145) (c' := 1) (s' := 1000) G w_arrB kd_144 ln_144 rfl (by decide) rfl rfl rfl ⟨by decide, by decide⟩ dX3_init_8 ?_
  refine K_putR (k := 1) (fun _ => ⟨hI, rfl⟩) G cls_3 wf_X3_9 kd_143 (by omega) rfl rfl rfl rfl dX3_init_10 ?_
  refine K_aload_n G 0 rfl dX3_init_13 ?_
  refine K_bipush G (by decide) dX3_init_14 ?_
  refine K_newB (N := 20) (n' := 146) (c' := 2) (s' := 1020) G w_arrB kd_145 ln_145 rfl (by decide) rfl rfl rfl ⟨by decide, by decide⟩ dX3_init_16 ?_
  refine K_putR (k := 2) (fun _ => ⟨hI, rfl⟩) G cls_3 wf_X3_15 kd_143 (by omega) rfl rfl rfl rfl dX3_init_18 ?_
  exact K_vret G dX3_init_21
def memJ7_fill_53178 (mem : Mem) : Mem := (mset (mset (mset mem 147 0 (-1)) 147 1 (-1)) 147 2 (-1))
theorem kJ7_fill_53178 (u : jU) {mem : Mem} {nu : Nul} : kMet u yJ7_fill_53178 cJ7_fill_53178 4 (kRm 0 0 0 0) [vR (uB u) 147, vI (-1)] mem nu 149 (memJ7_fill_53178 mem) nu 149 := by
  refine kMet_of (by decide +kernel) (Nat.le_of_ble_eq_true rfl) (fun x G hI => ?_)
  show K u x 4 _ 0 [(0, vR (uB u) 147), (1, vI (-1))] [] mem nu 149 0 0
  refine K_iconst G dJ7_fill_53178_0 ?_
  refine K_istore_n (lv' := [(2, vI 0), (0, vR (uB u) 147), (1, vI (-1))]) G dJ7_fill_53178_1 rfl (by decide) rfl ?_
  refine K_aload_n G 1 rfl dJ7_fill_53178_2 ?_
  refine K_alen G kd_147 ln_147 rfl (by omega) dJ7_fill_53178_3 ?_
  refine K_istore_n (lv' := [(3, vI 3), (2, vI 0), (0, vR (uB u) 147), (1, vI (-1))]) G dJ7_fill_53178_4 rfl (by decide) rfl ?_
  refine K_iload_n G 1 rfl dJ7_fill_53178_5 ?_
  refine K_iload_n G 0 rfl dJ7_fill_53178_6 ?_
  refine K_icmp_geF 20 G dJ7_fill_53178_7 (by decide) (by decide) ?_
  refine K_aload_n G 2 rfl dJ7_fill_53178_10 ?_
  refine K_iload_n G 1 rfl dJ7_fill_53178_11 ?_
  refine K_iload_n G 3 rfl dJ7_fill_53178_12 ?_
  refine K_iast G kd_147 ln_147 (by omega) (by decide) dJ7_fill_53178_13 ?_
  refine K_iinc (b := 1) (lv' := [(2, vI 1), (3, vI 3), (0, vR (uB u) 147), (1, vI (-1))]) G 1 dJ7_fill_53178_14 rfl (by decide) (by decide) rfl ?_
  refine K_goto 5 G dJ7_fill_53178_17 (by decide) ?_
  refine K_iload_n G 0 rfl dJ7_fill_53178_5 ?_
  refine K_iload_n G 1 rfl dJ7_fill_53178_6 ?_
  refine K_icmp_geF 20 G dJ7_fill_53178_7 (by decide) (by decide) ?_
  refine K_aload_n G 2 rfl dJ7_fill_53178_10 ?_
  refine K_iload_n G 0 rfl dJ7_fill_53178_11 ?_
  refine K_iload_n G 3 rfl dJ7_fill_53178_12 ?_
  refine K_iast G kd_147 ln_147 (by omega) (by decide) dJ7_fill_53178_13 ?_
  refine K_iinc (b := 2) (lv' := [(2, vI 2), (3, vI 3), (0, vR (uB u) 147), (1, vI (-1))]) G 0 dJ7_fill_53178_14 rfl (by decide) (by decide) rfl ?_
  refine K_goto 5 G dJ7_fill_53178_17 (by decide) ?_
  refine K_iload_n G 0 rfl dJ7_fill_53178_5 ?_
  refine K_iload_n G 1 rfl dJ7_fill_53178_6 ?_
  refine K_icmp_geF 20 G dJ7_fill_53178_7 (by decide) (by decide) ?_
  refine K_aload_n G 2 rfl dJ7_fill_53178_10 ?_
  refine K_iload_n G 0 rfl dJ7_fill_53178_11 ?_
  refine K_iload_n G 3 rfl dJ7_fill_53178_12 ?_
  refine K_iast G kd_147 ln_147 (by omega) (by decide) dJ7_fill_53178_13 ?_
  refine K_iinc (b := 3) (lv' := [(2, vI 3), (3, vI 3), (0, vR (uB u) 147), (1, vI (-1))]) G 0 dJ7_fill_53178_14 rfl (by decide) (by decide) rfl ?_
  refine K_goto 5 G dJ7_fill_53178_17 (by decide) ?_
  refine K_iload_n G 0 rfl dJ7_fill_53178_5 ?_
  refine K_iload_n G 1 rfl dJ7_fill_53178_6 ?_
  refine K_icmp_geT 20 G dJ7_fill_53178_7 (by decide) (by decide) ?_
  exact K_vret G dJ7_fill_53178_20
def memX6_init (mem : Mem) : Mem := (memJ7_fill_53178 mem)
def nuX6_init (nu : Nul) : Nul := (nset (nset nu 146 0) 146 1)
theorem kX6_init (u : jU) {mem : Mem} {nu : Nul} : kMet u yX6_init cX6_init 1 (kRm 1 23 2 75) [vR (uB u) 146] mem nu 147 (memX6_init mem) (nuX6_init nu) 149 := by
  refine kMet_of (by decide +kernel) (Nat.le_of_ble_eq_true rfl) (fun x G hI => ?_)
  have hI := hI rfl
  show K u x 1 _ 0 [(0, vR (uB u) 146)] [] mem nu 147 0 0
  refine K_aload_n G 0 rfl dX6_init_0 ?_
  refine K_objInit G wm_X6_3 w_obj1 w_obj2 ⟨by decide, Nat.le_of_ble_eq_true rfl⟩ dX6_init_1 ?_
  refine K_aload_n G 0 rfl dX6_init_4 ?_
  refine K_iconst G dX6_init_5 ?_
  refine K_newI (N := 3) (n' := 148) (c' := 1) (s' := 3) G w_arrI kd_147 ln_147 rfl (by decide) rfl rfl rfl ⟨by decide, by decide⟩ dX6_init_6 ?_
  refine K_putR (k := 0) (fun _ => ⟨hI, rfl⟩) G cls_6 wf_X6_9 kd_146 (by omega) rfl rfl rfl rfl dX6_init_8 ?_
  refine K_aload_n G 0 rfl dX6_init_11 ?_
  refine K_bipush G (by decide) dX6_init_12 ?_
  refine K_newL (N := 72) (n' := 149) (c' := 2) (s' := 75) G w_arrL kd_148 ln_148 rfl (by decide) rfl rfl rfl ⟨by decide, by decide⟩ dX6_init_14 ?_
  refine K_putR (k := 1) (fun _ => ⟨hI, rfl⟩) G cls_6 wf_X6_15 kd_146 (by omega) rfl rfl rfl rfl dX6_init_16 ?_
  refine K_aload_n G 0 rfl dX6_init_19 ?_
  refine K_getR (d := 147) (k := 0) G cls_6 wf_X6_9 kd_146 (by omega) rfl rfl (by simp [nset]) dX6_init_20 ?_
  refine K_iconst G dX6_init_23 ?_
  refine K_stat (As := [vR (uB u) 147, vI (-1)]) (n' := 149) (c' := 2) (s' := 75) G (kJ7_fill_53178 u) sg_J7_fill_53178 ss_J7_fill_53178 wm_X6_19 ⟨by decide, by decide⟩ rfl rfl (Nat.le_of_ble_eq_true rfl) rfl rfl ⟨by decide, by decide⟩ dX6_init_24 ?_
  exact K_vret G dX6_init_27
def memX8_init (mem : Mem) : Mem := (memX6_init (memX3_init (memX5_init (memX2_init (memX2_init (memX7_init (memX0_init (memX1_init (memX0_init mem 1)) 102)) 129) 130))))
def nuX8_init (nu : Nul) : Nul := (nset (nuX6_init (nset (nuX3_init (nset (nuX5_init (nset (nuX2_init (nset (nuX2_init (nset (nuX7_init (nset (nuX0_init (nset (nuX1_init (nset (nuX0_init nu 1) 0 0)) 0 1) 102) 0 2)) 0 4) 129) 0 5) 130) 0 6)) 0 7)) 0 8)) 0 9)
theorem kX8_init (u : jU) {mem : Mem} {nu : Nul} : kMet u yX8_init cX8_init 1 (kRm 4 81 148 2005) [vR (uB u) 0] mem nu 1 (memX8_init mem) (nuX8_init nu) 149 := by
  refine kMet_of (by decide +kernel) (Nat.le_of_ble_eq_true rfl) (fun x G hI => ?_)
  have hI := hI rfl
  show K u x 1 _ 0 [(0, vR (uB u) 0)] [] mem nu 1 0 0
  refine K_aload_n G 0 rfl dX8_init_0 ?_
  refine K_objInit G wm_X8_5 w_obj1 w_obj2 ⟨by decide, Nat.le_of_ble_eq_true rfl⟩ dX8_init_1 ?_
  refine K_aload_n G 0 rfl dX8_init_4 ?_
  refine K_new (n' := 2) (c' := 1) (s' := 12) G cls_0 kdef_0 wcl_X8_11 winst_0 wini_0 kd_1 rfl rfl rfl ⟨by decide, by decide⟩ dX8_init_5 ?_
  refine K_dup G rfl dX8_init_8 ?_
  refine K_init (As := []) (n' := 10) (c' := 9) (s' := 50) G (kX0_init u 1 kd_1) sg_X0_init si_X0_init rfl wm_X8_13 ⟨by decide, by decide⟩ rfl rfl (Nat.le_of_ble_eq_true rfl) rfl rfl ⟨by decide, by decide⟩ dX8_init_9 ?_
  refine K_putR (k := 0) (fun _ => ⟨hI, rfl⟩) G cls_8 wf_X8_14 kd_0 (by omega) rfl rfl rfl rfl dX8_init_12 ?_
  refine K_aload_n G 0 rfl dX8_init_15 ?_
  refine K_new (n' := 11) (c' := 10) (s' := 53) G cls_1 kdef_1 wcl_X8_18 winst_1 wini_1 kd_10 rfl rfl rfl ⟨by decide, by decide⟩ dX8_init_16 ?_
  refine K_dup G rfl dX8_init_19 ?_
  refine K_init (As := []) (n' := 102) (c' := 101) (s' := 563) G (kX1_init u) sg_X1_init si_X1_init rfl wm_X8_20 ⟨by decide, by decide⟩ rfl rfl (Nat.le_of_ble_eq_true rfl) rfl rfl ⟨by decide, by decide⟩ dX8_init_20 ?_
  refine K_putR (k := 1) (fun _ => ⟨hI, rfl⟩) G cls_8 wf_X8_21 kd_0 (by omega) rfl rfl rfl rfl dX8_init_23 ?_
  refine K_aload_n G 0 rfl dX8_init_26 ?_
  refine K_new (n' := 103) (c' := 102) (s' := 575) G cls_0 kdef_0 wcl_X8_11 winst_0 wini_0 kd_102 rfl rfl rfl ⟨by decide, by decide⟩ dX8_init_27 ?_
  refine K_dup G rfl dX8_init_30 ?_
  refine K_init (As := []) (n' := 111) (c' := 110) (s' := 613) G (kX0_init u 102 kd_102) sg_X0_init si_X0_init rfl wm_X8_13 ⟨by decide, by decide⟩ rfl rfl (Nat.le_of_ble_eq_true rfl) rfl rfl ⟨by decide, by decide⟩ dX8_init_31 ?_
  refine K_putR (k := 2) (fun _ => ⟨hI, rfl⟩) G cls_8 wf_X8_25 kd_0 (by omega) rfl rfl rfl rfl dX8_init_34 ?_
  refine K_aload_n G 0 rfl dX8_init_37 ?_
  refine K_new (n' := 112) (c' := 111) (s' := 631) G cls_7 kdef_7 wcl_X8_28 winst_7 wini_7 kd_111 rfl rfl rfl ⟨by decide, by decide⟩ dX8_init_38 ?_
  refine K_dup G rfl dX8_init_41 ?_
  refine K_init (As := []) (n' := 129) (c' := 128) (s' := 722) G (kX7_init u) sg_X7_init si_X7_init rfl wm_X8_30 ⟨by decide, by decide⟩ rfl rfl (Nat.le_of_ble_eq_true rfl) rfl rfl ⟨by decide, by decide⟩ dX8_init_42 ?_
  refine K_putR (k := 4) (fun _ => ⟨hI, rfl⟩) G cls_8 wf_X8_31 kd_0 (by omega) rfl rfl rfl rfl dX8_init_45 ?_
  refine K_aload_n G 0 rfl dX8_init_48 ?_
  refine K_new (n' := 130) (c' := 129) (s' := 724) G cls_2 kdef_2 wcl_X8_35 winst_2 wini_2 kd_129 rfl rfl rfl ⟨by decide, by decide⟩ dX8_init_49 ?_
  refine K_dup G rfl dX8_init_52 ?_
  refine K_init (As := []) (n' := 130) (c' := 129) (s' := 724) G (kX2_init u 129 kd_129) sg_X2_init si_X2_init rfl wm_X8_37 ⟨by decide, by decide⟩ rfl rfl (Nat.le_of_ble_eq_true rfl) rfl rfl ⟨by decide, by decide⟩ dX8_init_53 ?_
  refine K_putR (k := 5) (fun _ => ⟨hI, rfl⟩) G cls_8 wf_X8_38 kd_0 (by omega) rfl rfl rfl rfl dX8_init_56 ?_
  refine K_aload_n G 0 rfl dX8_init_59 ?_
  refine K_new (n' := 131) (c' := 130) (s' := 726) G cls_2 kdef_2 wcl_X8_35 winst_2 wini_2 kd_130 rfl rfl rfl ⟨by decide, by decide⟩ dX8_init_60 ?_
  refine K_dup G rfl dX8_init_63 ?_
  refine K_init (As := []) (n' := 131) (c' := 130) (s' := 726) G (kX2_init u 130 kd_130) sg_X2_init si_X2_init rfl wm_X8_37 ⟨by decide, by decide⟩ rfl rfl (Nat.le_of_ble_eq_true rfl) rfl rfl ⟨by decide, by decide⟩ dX8_init_64 ?_
  refine K_putR (k := 6) (fun _ => ⟨hI, rfl⟩) G cls_8 wf_X8_42 kd_0 (by omega) rfl rfl rfl rfl dX8_init_67 ?_
  refine K_aload_n G 0 rfl dX8_init_70 ?_
  refine K_new (n' := 132) (c' := 131) (s' := 732) G cls_5 kdef_5 wcl_X8_45 winst_5 wini_5 kd_131 rfl rfl rfl ⟨by decide, by decide⟩ dX8_init_71 ?_
  refine K_dup G rfl dX8_init_74 ?_
  refine K_init (As := []) (n' := 143) (c' := 142) (s' := 905) G (kX5_init u) sg_X5_init si_X5_init rfl wm_X8_47 ⟨by decide, by decide⟩ rfl rfl (Nat.le_of_ble_eq_true rfl) rfl rfl ⟨by decide, by decide⟩ dX8_init_75 ?_
  refine K_putR (k := 7) (fun _ => ⟨hI, rfl⟩) G cls_8 wf_X8_48 kd_0 (by omega) rfl rfl rfl rfl dX8_init_78 ?_
  refine K_aload_n G 0 rfl dX8_init_81 ?_
  refine K_new (n' := 144) (c' := 143) (s' := 908) G cls_3 kdef_3 wcl_X8_52 winst_3 wini_3 kd_143 rfl rfl rfl ⟨by decide, by decide⟩ dX8_init_82 ?_
  refine K_dup G rfl dX8_init_85 ?_
  refine K_init (As := []) (n' := 146) (c' := 145) (s' := 1928) G (kX3_init u) sg_X3_init si_X3_init rfl wm_X8_54 ⟨by decide, by decide⟩ rfl rfl (Nat.le_of_ble_eq_true rfl) rfl rfl ⟨by decide, by decide⟩ dX8_init_86 ?_
  refine K_putR (k := 8) (fun _ => ⟨hI, rfl⟩) G cls_8 wf_X8_55 kd_0 (by omega) rfl rfl rfl rfl dX8_init_89 ?_
  refine K_aload_n G 0 rfl dX8_init_92 ?_
  refine K_new (n' := 147) (c' := 146) (s' := 1930) G cls_6 kdef_6 wcl_X8_59 winst_6 wini_6 kd_146 rfl rfl rfl ⟨by decide, by decide⟩ dX8_init_93 ?_
  refine K_dup G rfl dX8_init_96 ?_
  refine K_init (As := []) (n' := 149) (c' := 148) (s' := 2005) G (kX6_init u) sg_X6_init si_X6_init rfl wm_X8_61 ⟨by decide, by decide⟩ rfl rfl (Nat.le_of_ble_eq_true rfl) rfl rfl ⟨by decide, by decide⟩ dX8_init_97 ?_
  refine K_putR (k := 9) (fun _ => ⟨hI, rfl⟩) G cls_8 wf_X8_62 kd_0 (by omega) rfl rfl rfl rfl dX8_init_100 ?_
  exact K_vret G dX8_init_103
def memX9_init (mem : Mem) : Mem := (mset (mset (mset (mset (mset (mset (mset (mset (mset (mset (mset (mset (mset (mset (mset (mset (mset (mset (mset (mset (mset (mset (mset (mset (mset (mset (mset (mset (mset (mset (mset (mset (mset (mset (mset (mset (mset (mset (mset (mset (mset (mset (mset (mset (mset (mset (mset (mset (mset mem 149 6 1) 162 0 98) 162 1 101) 162 2 97) 162 3 109) 162 4 115) 162 5 117) 162 6 112) 162 7 112) 162 8 111) 162 9 114) 162 10 116) 162 11 104) 162 12 105) 162 13 110) 162 14 103) 162 15 101) 162 16 112) 162 17 111) 162 18 105) 162 19 110) 162 20 116) 162 21 115) 162 22 112) 162 23 114) 162 24 101) 162 25 97) 162 26 100) 162 27 97) 162 28 120) 162 29 108) 162 30 101) 163 0 0) 163 1 4) 163 2 11) 163 3 16) 163 4 21) 163 5 27) 163 6 31) 164 0 1) 164 1 1) 164 2 1) 164 3 2) 164 4 3) 164 5 2) 169 0 (-1)) 169 1 (-1)) 169 2 (-1)) 150 0 8)
def nuX9_init (nu : Nul) : Nul := (nset (nset (nset (nset (nset (nset (nset (nset (nset (nset (nset (nset (nset (nset (nset (nset (nset (nset (nset (nset nu 149 0) 149 1) 149 3) 149 7) 149 8) 149 9) 149 10) 149 11) 149 12) 149 14) 149 21) 149 22) 149 24) 149 25) 149 26) 149 27) 149 30) 149 31) 149 33) 149 34)
theorem kX9_init (u : jU) {mem : Mem} {nu : Nul} : kMet u yX9_init cX9_init 1 (kRm 1 20 20 2101) [vR (uB u) 149] mem nu 150 (memX9_init mem) (nuX9_init nu) 170 := by
  refine kMet_of (by decide +kernel) (Nat.le_of_ble_eq_true rfl) (fun x G hI => ?_)
  have hI := hI rfl
  show K u x 1 _ 0 [(0, vR (uB u) 149)] [] mem nu 150 0 0
  refine K_aload_n G 0 rfl dX9_init_0 ?_
  refine K_objInit G wm_X9_3 w_obj1 w_obj2 ⟨by decide, Nat.le_of_ble_eq_true rfl⟩ dX9_init_1 ?_
  refine K_aload_n G 0 rfl dX9_init_4 ?_
  refine K_bipush G (by decide) dX9_init_5 ?_
  refine K_newI (N := 36) (n' := 151) (c' := 1) (s' := 36) G w_arrI kd_150 ln_150 rfl (by decide) rfl rfl rfl ⟨by decide, by decide⟩ dX9_init_7 ?_
  refine K_putR (k := 0) (fun _ => ⟨hI, rfl⟩) G cls_9 wf_X9_11 kd_149 (by omega) rfl rfl rfl rfl dX9_init_9 ?_
  refine K_aload_n G 0 rfl dX9_init_12 ?_
  refine K_bipush G (by decide) dX9_init_13 ?_
  refine K_newI (N := 36) (n' := 152) (c' := 2) (s' := 72) G w_arrI kd_151 ln_151 rfl (by decide) rfl rfl rfl ⟨by decide, by decide⟩ dX9_init_15 ?_
  refine K_putR (k := 1) (fun _ => ⟨hI, rfl⟩) G cls_9 wf_X9_15 kd_149 (by omega) rfl rfl rfl rfl dX9_init_17 ?_
  refine K_aload_n G 0 rfl dX9_init_20 ?_
  refine K_sipush G (by decide) dX9_init_21 ?_
  refine K_newI (N := 360) (n' := 153) (c' := 3) (s' := 432) G w_arrI kd_152 ln_152 rfl (by decide) rfl rfl rfl ⟨by decide, by decide⟩ dX9_init_24 ?_
  refine K_putR (k := 3) (fun _ => ⟨hI, rfl⟩) G cls_9 wf_X9_18 kd_149 (by omega) rfl rfl rfl rfl dX9_init_26 ?_
  refine K_aload_n G 0 rfl dX9_init_29 ?_
  refine K_lconst (v := 1) G (by decide) dX9_init_30 ?_
  refine K_putL (i := 6) (k := 6) (fun _ => ⟨hI, rfl⟩) G cls_9 wf_X9_21 kd_149 (by omega) rfl rfl rfl dX9_init_31 ?_
  refine K_aload_n G 0 rfl dX9_init_34 ?_
  refine K_iconst G dX9_init_35 ?_
  refine K_newL (N := 4) (n' := 154) (c' := 4) (s' := 436) G w_arrL kd_153 ln_153 rfl (by decide) rfl rfl rfl ⟨by decide, by decide⟩ dX9_init_36 ?_
  refine K_putR (k := 7) (fun _ => ⟨hI, rfl⟩) G cls_9 wf_X9_25 kd_149 (by omega) rfl rfl rfl rfl dX9_init_38 ?_
  refine K_aload_n G 0 rfl dX9_init_41 ?_
  refine K_iconst G dX9_init_42 ?_
  refine K_newL (N := 4) (n' := 155) (c' := 5) (s' := 440) G w_arrL kd_154 ln_154 rfl (by decide) rfl rfl rfl ⟨by decide, by decide⟩ dX9_init_43 ?_
  refine K_putR (k := 8) (fun _ => ⟨hI, rfl⟩) G cls_9 wf_X9_29 kd_149 (by omega) rfl rfl rfl rfl dX9_init_45 ?_
  refine K_aload_n G 0 rfl dX9_init_48 ?_
  refine K_iconst G dX9_init_49 ?_
  refine K_newL (N := 2) (n' := 156) (c' := 6) (s' := 442) G w_arrL kd_155 ln_155 rfl (by decide) rfl rfl rfl ⟨by decide, by decide⟩ dX9_init_50 ?_
  refine K_putR (k := 9) (fun _ => ⟨hI, rfl⟩) G cls_9 wf_X9_32 kd_149 (by omega) rfl rfl rfl rfl dX9_init_52 ?_
  refine K_aload_n G 0 rfl dX9_init_55 ?_
  refine K_iconst G dX9_init_56 ?_
  refine K_newL (N := 2) (n' := 157) (c' := 7) (s' := 444) G w_arrL kd_156 ln_156 rfl (by decide) rfl rfl rfl ⟨by decide, by decide⟩ dX9_init_57 ?_
  refine K_putR (k := 10) (fun _ => ⟨hI, rfl⟩) G cls_9 wf_X9_35 kd_149 (by omega) rfl rfl rfl rfl dX9_init_59 ?_
  refine K_aload_n G 0 rfl dX9_init_62 ?_
  refine K_iconst G dX9_init_63 ?_
  refine K_newL (N := 4) (n' := 158) (c' := 8) (s' := 448) G w_arrL kd_157 ln_157 rfl (by decide) rfl rfl rfl ⟨by decide, by decide⟩ dX9_init_64 ?_
  refine K_putR (k := 11) (fun _ => ⟨hI, rfl⟩) G cls_9 wf_X9_38 kd_149 (by omega) rfl rfl rfl rfl dX9_init_66 ?_
  refine K_aload_n G 0 rfl dX9_init_69 ?_
  refine K_iconst G dX9_init_70 ?_
  refine K_newL (N := 4) (n' := 159) (c' := 9) (s' := 452) G w_arrL kd_158 ln_158 rfl (by decide) rfl rfl rfl ⟨by decide, by decide⟩ dX9_init_71 ?_
  refine K_putR (k := 12) (fun _ => ⟨hI, rfl⟩) G cls_9 wf_X9_41 kd_149 (by omega) rfl rfl rfl rfl dX9_init_73 ?_
  refine K_aload_n G 0 rfl dX9_init_76 ?_
  refine K_bipush G (by decide) dX9_init_77 ?_
  refine K_newL (N := 11) (n' := 160) (c' := 10) (s' := 463) G w_arrL kd_159 ln_159 rfl (by decide) rfl rfl rfl ⟨by decide, by decide⟩ dX9_init_79 ?_
  refine K_putR (k := 14) (fun _ => ⟨hI, rfl⟩) G cls_9 wf_X9_44 kd_149 (by omega) rfl rfl rfl rfl dX9_init_81 ?_
  refine K_aload_n G 0 rfl dX9_init_84 ?_
  refine K_bipush G (by decide) dX9_init_85 ?_
  refine K_newI (N := 36) (n' := 161) (c' := 11) (s' := 499) G w_arrI kd_160 ln_160 rfl (by decide) rfl rfl rfl ⟨by decide, by decide⟩ dX9_init_87 ?_
  refine K_putR (k := 21) (fun _ => ⟨hI, rfl⟩) G cls_9 wf_X9_47 kd_149 (by omega) rfl rfl rfl rfl dX9_init_89 ?_
  refine K_aload_n G 0 rfl dX9_init_92 ?_
  refine K_bipush G (by decide) dX9_init_93 ?_
  refine K_newI (N := 120) (n' := 162) (c' := 12) (s' := 619) G w_arrI kd_161 ln_161 rfl (by decide) rfl rfl rfl ⟨by decide, by decide⟩ dX9_init_95 ?_
  refine K_putR (k := 22) (fun _ => ⟨hI, rfl⟩) G cls_9 wf_X9_50 kd_149 (by omega) rfl rfl rfl rfl dX9_init_97 ?_
  refine K_aload_n G 0 rfl dX9_init_100 ?_
  refine K_bipush G (by decide) dX9_init_101 ?_
  refine K_newC (N := 31) (n' := 163) (c' := 13) (s' := 650) G w_arrC kd_162 ln_162 rfl (by decide) rfl rfl rfl ⟨by decide, by decide⟩ dX9_init_103 ?_
  refine K_dup G rfl dX9_init_105 ?_
  refine K_iconst G dX9_init_106 ?_
  refine K_bipush G (by decide) dX9_init_107 ?_
  refine K_cast G kd_162 ln_162 (by omega) (by decide) (by decide) dX9_init_109 ?_
  refine K_dup G rfl dX9_init_110 ?_
  refine K_iconst G dX9_init_111 ?_
  refine K_bipush G (by decide) dX9_init_112 ?_
  refine K_cast G kd_162 ln_162 (by omega) (by decide) (by decide) dX9_init_114 ?_
  refine K_dup G rfl dX9_init_115 ?_
  refine K_iconst G dX9_init_116 ?_
  refine K_bipush G (by decide) dX9_init_117 ?_
  refine K_cast G kd_162 ln_162 (by omega) (by decide) (by decide) dX9_init_119 ?_
  refine K_dup G rfl dX9_init_120 ?_
  refine K_iconst G dX9_init_121 ?_
  refine K_bipush G (by decide) dX9_init_122 ?_
  refine K_cast G kd_162 ln_162 (by omega) (by decide) (by decide) dX9_init_124 ?_
  refine K_dup G rfl dX9_init_125 ?_
  refine K_iconst G dX9_init_126 ?_
  refine K_bipush G (by decide) dX9_init_127 ?_
  refine K_cast G kd_162 ln_162 (by omega) (by decide) (by decide) dX9_init_129 ?_
  refine K_dup G rfl dX9_init_130 ?_
  refine K_iconst G dX9_init_131 ?_
  refine K_bipush G (by decide) dX9_init_132 ?_
  refine K_cast G kd_162 ln_162 (by omega) (by decide) (by decide) dX9_init_134 ?_
  refine K_dup G rfl dX9_init_135 ?_
  refine K_bipush G (by decide) dX9_init_136 ?_
  refine K_bipush G (by decide) dX9_init_138 ?_
  refine K_cast G kd_162 ln_162 (by omega) (by decide) (by decide) dX9_init_140 ?_
  refine K_dup G rfl dX9_init_141 ?_
  refine K_bipush G (by decide) dX9_init_142 ?_
  refine K_bipush G (by decide) dX9_init_144 ?_
  refine K_cast G kd_162 ln_162 (by omega) (by decide) (by decide) dX9_init_146 ?_
  refine K_dup G rfl dX9_init_147 ?_
  refine K_bipush G (by decide) dX9_init_148 ?_
  refine K_bipush G (by decide) dX9_init_150 ?_
  refine K_cast G kd_162 ln_162 (by omega) (by decide) (by decide) dX9_init_152 ?_
  refine K_dup G rfl dX9_init_153 ?_
  refine K_bipush G (by decide) dX9_init_154 ?_
  refine K_bipush G (by decide) dX9_init_156 ?_
  refine K_cast G kd_162 ln_162 (by omega) (by decide) (by decide) dX9_init_158 ?_
  refine K_dup G rfl dX9_init_159 ?_
  refine K_bipush G (by decide) dX9_init_160 ?_
  refine K_bipush G (by decide) dX9_init_162 ?_
  refine K_cast G kd_162 ln_162 (by omega) (by decide) (by decide) dX9_init_164 ?_
  refine K_dup G rfl dX9_init_165 ?_
  refine K_bipush G (by decide) dX9_init_166 ?_
  refine K_bipush G (by decide) dX9_init_168 ?_
  refine K_cast G kd_162 ln_162 (by omega) (by decide) (by decide) dX9_init_170 ?_
  refine K_dup G rfl dX9_init_171 ?_
  refine K_bipush G (by decide) dX9_init_172 ?_
  refine K_bipush G (by decide) dX9_init_174 ?_
  refine K_cast G kd_162 ln_162 (by omega) (by decide) (by decide) dX9_init_176 ?_
  refine K_dup G rfl dX9_init_177 ?_
  refine K_bipush G (by decide) dX9_init_178 ?_
  refine K_bipush G (by decide) dX9_init_180 ?_
  refine K_cast G kd_162 ln_162 (by omega) (by decide) (by decide) dX9_init_182 ?_
  refine K_dup G rfl dX9_init_183 ?_
  refine K_bipush G (by decide) dX9_init_184 ?_
  refine K_bipush G (by decide) dX9_init_186 ?_
  refine K_cast G kd_162 ln_162 (by omega) (by decide) (by decide) dX9_init_188 ?_
  refine K_dup G rfl dX9_init_189 ?_
  refine K_bipush G (by decide) dX9_init_190 ?_
  refine K_bipush G (by decide) dX9_init_192 ?_
  refine K_cast G kd_162 ln_162 (by omega) (by decide) (by decide) dX9_init_194 ?_
  refine K_dup G rfl dX9_init_195 ?_
  refine K_bipush G (by decide) dX9_init_196 ?_
  refine K_bipush G (by decide) dX9_init_198 ?_
  refine K_cast G kd_162 ln_162 (by omega) (by decide) (by decide) dX9_init_200 ?_
  refine K_dup G rfl dX9_init_201 ?_
  refine K_bipush G (by decide) dX9_init_202 ?_
  refine K_bipush G (by decide) dX9_init_204 ?_
  refine K_cast G kd_162 ln_162 (by omega) (by decide) (by decide) dX9_init_206 ?_
  refine K_dup G rfl dX9_init_207 ?_
  refine K_bipush G (by decide) dX9_init_208 ?_
  refine K_bipush G (by decide) dX9_init_210 ?_
  refine K_cast G kd_162 ln_162 (by omega) (by decide) (by decide) dX9_init_212 ?_
  refine K_dup G rfl dX9_init_213 ?_
  refine K_bipush G (by decide) dX9_init_214 ?_
  refine K_bipush G (by decide) dX9_init_216 ?_
  refine K_cast G kd_162 ln_162 (by omega) (by decide) (by decide) dX9_init_218 ?_
  refine K_dup G rfl dX9_init_219 ?_
  refine K_bipush G (by decide) dX9_init_220 ?_
  refine K_bipush G (by decide) dX9_init_222 ?_
  refine K_cast G kd_162 ln_162 (by omega) (by decide) (by decide) dX9_init_224 ?_
  refine K_dup G rfl dX9_init_225 ?_
  refine K_bipush G (by decide) dX9_init_226 ?_
  refine K_bipush G (by decide) dX9_init_228 ?_
  refine K_cast G kd_162 ln_162 (by omega) (by decide) (by decide) dX9_init_230 ?_
  refine K_dup G rfl dX9_init_231 ?_
  refine K_bipush G (by decide) dX9_init_232 ?_
  refine K_bipush G (by decide) dX9_init_234 ?_
  refine K_cast G kd_162 ln_162 (by omega) (by decide) (by decide) dX9_init_236 ?_
  refine K_dup G rfl dX9_init_237 ?_
  refine K_bipush G (by decide) dX9_init_238 ?_
  refine K_bipush G (by decide) dX9_init_240 ?_
  refine K_cast G kd_162 ln_162 (by omega) (by decide) (by decide) dX9_init_242 ?_
  refine K_dup G rfl dX9_init_243 ?_
  refine K_bipush G (by decide) dX9_init_244 ?_
  refine K_bipush G (by decide) dX9_init_246 ?_
  refine K_cast G kd_162 ln_162 (by omega) (by decide) (by decide) dX9_init_248 ?_
  refine K_dup G rfl dX9_init_249 ?_
  refine K_bipush G (by decide) dX9_init_250 ?_
  refine K_bipush G (by decide) dX9_init_252 ?_
  refine K_cast G kd_162 ln_162 (by omega) (by decide) (by decide) dX9_init_254 ?_
  refine K_dup G rfl dX9_init_255 ?_
  refine K_bipush G (by decide) dX9_init_256 ?_
  refine K_bipush G (by decide) dX9_init_258 ?_
  refine K_cast G kd_162 ln_162 (by omega) (by decide) (by decide) dX9_init_260 ?_
  refine K_dup G rfl dX9_init_261 ?_
  refine K_bipush G (by decide) dX9_init_262 ?_
  refine K_bipush G (by decide) dX9_init_264 ?_
  refine K_cast G kd_162 ln_162 (by omega) (by decide) (by decide) dX9_init_266 ?_
  refine K_dup G rfl dX9_init_267 ?_
  refine K_bipush G (by decide) dX9_init_268 ?_
  refine K_bipush G (by decide) dX9_init_270 ?_
  refine K_cast G kd_162 ln_162 (by omega) (by decide) (by decide) dX9_init_272 ?_
  refine K_dup G rfl dX9_init_273 ?_
  refine K_bipush G (by decide) dX9_init_274 ?_
  refine K_bipush G (by decide) dX9_init_276 ?_
  refine K_cast G kd_162 ln_162 (by omega) (by decide) (by decide) dX9_init_278 ?_
  refine K_dup G rfl dX9_init_279 ?_
  refine K_bipush G (by decide) dX9_init_280 ?_
  refine K_bipush G (by decide) dX9_init_282 ?_
  refine K_cast G kd_162 ln_162 (by omega) (by decide) (by decide) dX9_init_284 ?_
  refine K_putR (k := 24) (fun _ => ⟨hI, rfl⟩) G cls_9 wf_X9_53 kd_149 (by omega) rfl rfl rfl rfl dX9_init_285 ?_
  refine K_aload_n G 0 rfl dX9_init_288 ?_
  refine K_bipush G (by decide) dX9_init_289 ?_
  refine K_newI (N := 7) (n' := 164) (c' := 14) (s' := 657) G w_arrI kd_163 ln_163 rfl (by decide) rfl rfl rfl ⟨by decide, by decide⟩ dX9_init_291 ?_
  refine K_dup G rfl dX9_init_293 ?_
  refine K_iconst G dX9_init_294 ?_
  refine K_iconst G dX9_init_295 ?_
  refine K_iast G kd_163 ln_163 (by omega) (by decide) dX9_init_296 ?_
  refine K_dup G rfl dX9_init_297 ?_
  refine K_iconst G dX9_init_298 ?_
  refine K_iconst G dX9_init_299 ?_
  refine K_iast G kd_163 ln_163 (by omega) (by decide) dX9_init_300 ?_
  refine K_dup G rfl dX9_init_301 ?_
  refine K_iconst G dX9_init_302 ?_
  refine K_bipush G (by decide) dX9_init_303 ?_
  refine K_iast G kd_163 ln_163 (by omega) (by decide) dX9_init_305 ?_
  refine K_dup G rfl dX9_init_306 ?_
  refine K_iconst G dX9_init_307 ?_
  refine K_bipush G (by decide) dX9_init_308 ?_
  refine K_iast G kd_163 ln_163 (by omega) (by decide) dX9_init_310 ?_
  refine K_dup G rfl dX9_init_311 ?_
  refine K_iconst G dX9_init_312 ?_
  refine K_bipush G (by decide) dX9_init_313 ?_
  refine K_iast G kd_163 ln_163 (by omega) (by decide) dX9_init_315 ?_
  refine K_dup G rfl dX9_init_316 ?_
  refine K_iconst G dX9_init_317 ?_
  refine K_bipush G (by decide) dX9_init_318 ?_
  refine K_iast G kd_163 ln_163 (by omega) (by decide) dX9_init_320 ?_
  refine K_dup G rfl dX9_init_321 ?_
  refine K_bipush G (by decide) dX9_init_322 ?_
  refine K_bipush G (by decide) dX9_init_324 ?_
  refine K_iast G kd_163 ln_163 (by omega) (by decide) dX9_init_326 ?_
  refine K_putR (k := 25) (fun _ => ⟨hI, rfl⟩) G cls_9 wf_X9_57 kd_149 (by omega) rfl rfl rfl rfl dX9_init_327 ?_
  refine K_aload_n G 0 rfl dX9_init_330 ?_
  refine K_bipush G (by decide) dX9_init_331 ?_
  refine K_newI (N := 6) (n' := 165) (c' := 15) (s' := 663) G w_arrI kd_164 ln_164 rfl (by decide) rfl rfl rfl ⟨by decide, by decide⟩ dX9_init_333 ?_
  refine K_dup G rfl dX9_init_335 ?_
  refine K_iconst G dX9_init_336 ?_
  refine K_iconst G dX9_init_337 ?_
  refine K_iast G kd_164 ln_164 (by omega) (by decide) dX9_init_338 ?_
  refine K_dup G rfl dX9_init_339 ?_
  refine K_iconst G dX9_init_340 ?_
  refine K_iconst G dX9_init_341 ?_
  refine K_iast G kd_164 ln_164 (by omega) (by decide) dX9_init_342 ?_
  refine K_dup G rfl dX9_init_343 ?_
  refine K_iconst G dX9_init_344 ?_
  refine K_iconst G dX9_init_345 ?_
  refine K_iast G kd_164 ln_164 (by omega) (by decide) dX9_init_346 ?_
  refine K_dup G rfl dX9_init_347 ?_
  refine K_iconst G dX9_init_348 ?_
  refine K_iconst G dX9_init_349 ?_
  refine K_iast G kd_164 ln_164 (by omega) (by decide) dX9_init_350 ?_
  refine K_dup G rfl dX9_init_351 ?_
  refine K_iconst G dX9_init_352 ?_
  refine K_iconst G dX9_init_353 ?_
  refine K_iast G kd_164 ln_164 (by omega) (by decide) dX9_init_354 ?_
  refine K_dup G rfl dX9_init_355 ?_
  refine K_iconst G dX9_init_356 ?_
  refine K_iconst G dX9_init_357 ?_
  refine K_iast G kd_164 ln_164 (by omega) (by decide) dX9_init_358 ?_
  refine K_putR (k := 26) (fun _ => ⟨hI, rfl⟩) G cls_9 wf_X9_60 kd_149 (by omega) rfl rfl rfl rfl dX9_init_359 ?_
  refine K_aload_n G 0 rfl dX9_init_362 ?_
  refine K_iconst G dX9_init_363 ?_
  refine K_newI (N := 3) (n' := 166) (c' := 16) (s' := 666) G w_arrI kd_165 ln_165 rfl (by decide) rfl rfl rfl ⟨by decide, by decide⟩ dX9_init_364 ?_
  refine K_putR (k := 27) (fun _ => ⟨hI, rfl⟩) G cls_9 wf_X9_63 kd_149 (by omega) rfl rfl rfl rfl dX9_init_366 ?_
  refine K_aload_n G 0 rfl dX9_init_369 ?_
  refine K_sipush G (by decide) dX9_init_370 ?_
  refine K_newI (N := 360) (n' := 167) (c' := 17) (s' := 1026) G w_arrI kd_166 ln_166 rfl (by decide) rfl rfl rfl ⟨by decide, by decide⟩ dX9_init_373 ?_
  refine K_putR (k := 30) (fun _ => ⟨hI, rfl⟩) G cls_9 wf_X9_66 kd_149 (by omega) rfl rfl rfl rfl dX9_init_375 ?_
  refine K_aload_n G 0 rfl dX9_init_378 ?_
  refine K_sipush G (by decide) dX9_init_379 ?_
  refine K_newI (N := 1000) (n' := 168) (c' := 18) (s' := 2026) G w_arrI kd_167 ln_167 rfl (by decide) rfl rfl rfl ⟨by decide, by decide⟩ dX9_init_382 ?_
  refine K_putR (k := 31) (fun _ => ⟨hI, rfl⟩) G cls_9 wf_X9_69 kd_149 (by omega) rfl rfl rfl rfl dX9_init_384 ?_
  refine K_aload_n G 0 rfl dX9_init_387 ?_
  refine K_bipush G (by decide) dX9_init_388 ?_
  refine K_newL (N := 72) (n' := 169) (c' := 19) (s' := 2098) G w_arrL kd_168 ln_168 rfl (by decide) rfl rfl rfl ⟨by decide, by decide⟩ dX9_init_390 ?_
  refine K_putR (k := 33) (fun _ => ⟨hI, rfl⟩) G cls_9 wf_X9_72 kd_149 (by omega) rfl rfl rfl rfl dX9_init_392 ?_
  refine K_aload_n G 0 rfl dX9_init_395 ?_
  refine K_iconst G dX9_init_396 ?_
  refine K_newI (N := 3) (n' := 170) (c' := 20) (s' := 2101) G w_arrI kd_169 ln_169 rfl (by decide) rfl rfl rfl ⟨by decide, by decide⟩ dX9_init_397 ?_
  refine K_dup G rfl dX9_init_399 ?_
  refine K_iconst G dX9_init_400 ?_
  refine K_iconst G dX9_init_401 ?_
  refine K_iast G kd_169 ln_169 (by omega) (by decide) dX9_init_402 ?_
  refine K_dup G rfl dX9_init_403 ?_
  refine K_iconst G dX9_init_404 ?_
  refine K_iconst G dX9_init_405 ?_
  refine K_iast G kd_169 ln_169 (by omega) (by decide) dX9_init_406 ?_
  refine K_dup G rfl dX9_init_407 ?_
  refine K_iconst G dX9_init_408 ?_
  refine K_iconst G dX9_init_409 ?_
  refine K_iast G kd_169 ln_169 (by omega) (by decide) dX9_init_410 ?_
  refine K_putR (k := 34) (fun _ => ⟨hI, rfl⟩) G cls_9 wf_X9_75 kd_149 (by omega) rfl rfl rfl rfl dX9_init_411 ?_
  refine K_aload_n G 0 rfl dX9_init_414 ?_
  refine K_getR (d := 150) (k := 0) G cls_9 wf_X9_11 kd_149 (by omega) rfl rfl (by simp [nset]) dX9_init_415 ?_
  refine K_iconst G dX9_init_418 ?_
  refine K_bipush G (by decide) dX9_init_419 ?_
  refine K_iast G kd_150 ln_150 (by omega) (by decide) dX9_init_421 ?_
  exact K_vret G dX9_init_422
