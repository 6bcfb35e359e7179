theorem jPap_putTerm_L32 {u : jU} {x : jX} (G : jG u x cX3_putTerm RX3 4 none (jRm 3 70)) (p1 : Int) : ∀ (n : Nat) (i3 : Int) (m4 : Mem), J u x 4 (jQ u x EwV) 32 [(0, vR (uB u) 143), (2, vI p1), (3, vI i3)] [] m4 (Pap_putTerm_L32 p1 n i3 m4) := by
  intro n
  induction n with
  | zero => intro i3 m4; exact J_none
  | succ n ih =>
    intro i3 m4
    rw [Pap_putTerm_L32]
    refine J_iload_n G 2 dX3_putTerm_32 rfl ?_
    refine J_iload_n G 1 dX3_putTerm_33 rfl ?_
    refine J_icmp_ge 49 G dX3_putTerm_34 (by decide) ?_ ?_
    · exact J_vret G dX3_putTerm_49 rfl
    · refine J_aload_n G 0 dX3_putTerm_37 rfl ?_
      refine J_bipush G dX3_putTerm_38 (by decide) ?_
      refine J_cVwV (As := [vI 120]) G (mX3_put u 120 m4) sg_X3_put sv_X3_put wm_X3_22 cls_3 kd_143 rfl ⟨by decide, by decide⟩ rfl rfl (Nat.le_of_ble_eq_true rfl) dX3_putTerm_40 ?_
      intro m5
      refine J_iinc (lv' := [(3, vI (i3 + 1)), (0, vR (uB u) 143), (2, vI p1)]) G 2 dX3_putTerm_43 rfl (by decide) rfl ?_
      refine J_goto 32 G dX3_putTerm_46 (by decide) ?_
      refine J_lv [1, 2, 0] rfl ?_
      exact ih (i3 + 1) m5
theorem mX3_putTerm (u : jU) (p1 : Int) (mem : Mem) : jMet u yX3_putTerm cX3_putTerm 4 none (jRm 3 70) [vR (uB u) 143, vR (uB u) 129, vI p1] mem EwV (Pap_putTerm p1 mem) := by
  refine jMet_of (by decide +kernel) (Nat.le_of_ble_eq_true rfl) (fun x G => ?_)
  show J u x 4 (jQ u x EwV) 0 [(0, vR (uB u) 143), (1, vR (uB u) 129), (2, vI p1)] [] mem _
  unfold Pap_putTerm
  refine J_aload_n G 1 dX3_putTerm_0 rfl ?_
  refine J_getL (i := 0) (k := 0) G cls_2 wf_X3_36 kd_129 rfl rfl dX3_putTerm_1 ?_
  refine J_lconst (v := 0) G dX3_putTerm_4 (by decide) ?_
  refine J_lcmp_ne 10 G dX3_putTerm_5 dX3_putTerm_6 (by decide) ?_ ?_
  · refine J_aload_n G 1 dX3_putTerm_10 rfl ?_
    refine J_getL (i := 0) (k := 0) G cls_2 wf_X3_36 kd_129 rfl rfl dX3_putTerm_11 ?_
    refine J_lconst (v := 0) G dX3_putTerm_14 (by decide) ?_
    refine J_jn (fun g => ∀ m1, J u x 4 (jQ u x EwV) 25 [(0, vR (uB u) 143), (1, vR (uB u) 129), (2, vI p1)] [] m1 (g m1)) ?_ ?_
    · intro m1
      refine J_aload_n G 0 dX3_putTerm_25 rfl ?_
      refine J_aload_n G 1 dX3_putTerm_26 rfl ?_
      refine J_cVwV (As := [vR (uB u) 129]) G (mX3_putFraction u m1) sg_X3_putFraction sv_X3_putFraction wm_X3_49 cls_3 kd_143 rfl ⟨by decide, by decide⟩ rfl rfl (Nat.le_of_ble_eq_true rfl) dX3_putTerm_27 ?_
      intro m2
      refine J_iconst G dX3_putTerm_30 ?_
      refine J_istore_n (lv' := [(3, vI 0), (0, vR (uB u) 143), (1, vR (uB u) 129), (2, vI p1)]) G dX3_putTerm_31 rfl (by decide) rfl ?_
      refine J_lv [1, 3, 0] rfl ?_
      exact jPap_putTerm_L32 G p1 2000 0 m2
    · intro k25 hk25
      refine J_lcmp_le 25 G dX3_putTerm_15 dX3_putTerm_16 (by decide) ?_ ?_
      · exact hk25 mem
      · refine J_aload_n G 0 dX3_putTerm_19 rfl ?_
        refine J_bipush G dX3_putTerm_20 (by decide) ?_
        refine J_cVwV (As := [vI 43]) G (mX3_put u 43 mem) sg_X3_put sv_X3_put wm_X3_22 cls_3 kd_143 rfl ⟨by decide, by decide⟩ rfl rfl (Nat.le_of_ble_eq_true rfl) dX3_putTerm_22 ?_
        intro m6
        exact hk25 m6
  · exact J_vret G dX3_putTerm_9 rfl
theorem mX8_printPiece (u : jU) (p0 : Int) (mem : Mem) : jMet u yX8_printPiece cX8_printPiece 2 none (jRm 4 93) [vR (uB u) 0, vI p0] mem EwV (BP_printPiece p0 mem) := by
  refine jMet_of (by decide +kernel) (Nat.le_of_ble_eq_true rfl) (fun x G => ?_)
  show J u x 2 (jQ u x EwV) 0 [(0, vR (uB u) 0), (1, vI p0)] [] mem _
  unfold BP_printPiece
  refine J_aload_n G 0 dX8_printPiece_0 rfl ?_
  refine J_getR (d := 143) (k := 8) G cls_8 wf_X8_55 kd_0 rfl rfl dX8_printPiece_1 ?_
  refine J_iload_n G 1 dX8_printPiece_4 rfl ?_
  refine J_i2l G dX8_printPiece_5 ?_
  refine J_cVwV (As := [vL (s32 p0)]) G (mX3_putNumber u (s32 p0) mem) sg_X3_putNumber sv_X3_putNumber wm_X8_356 cls_3 kd_143 rfl ⟨by decide, by decide⟩ rfl rfl (Nat.le_of_ble_eq_true rfl) dX8_printPiece_6 ?_
  intro m1
  refine J_aload_n G 0 dX8_printPiece_9 rfl ?_
  refine J_getR (d := 143) (k := 8) G cls_8 wf_X8_55 kd_0 rfl rfl dX8_printPiece_10 ?_
  refine J_bipush G dX8_printPiece_13 (by decide) ?_
  refine J_cVwV (As := [vI 58]) G (mX3_put u 58 m1) sg_X3_put sv_X3_put wm_X8_360 cls_3 kd_143 rfl ⟨by decide, by decide⟩ rfl rfl (Nat.le_of_ble_eq_true rfl) dX8_printPiece_15 ?_
  intro m2
  refine J_aload_n G 0 dX8_printPiece_18 rfl ?_
  refine J_getR (d := 143) (k := 8) G cls_8 wf_X8_55 kd_0 rfl rfl dX8_printPiece_19 ?_
  refine J_bipush G dX8_printPiece_22 (by decide) ?_
  refine J_cVwV (As := [vI 32]) G (mX3_put u 32 m2) sg_X3_put sv_X3_put wm_X8_360 cls_3 kd_143 rfl ⟨by decide, by decide⟩ rfl rfl (Nat.le_of_ble_eq_true rfl) dX8_printPiece_24 ?_
  intro m3
  refine J_aload_n G 0 dX8_printPiece_27 rfl ?_
  refine J_getR (d := 129) (k := 5) G cls_8 wf_X8_38 kd_0 rfl rfl dX8_printPiece_28 ?_
  refine J_aload_n G 0 dX8_printPiece_31 rfl ?_
  refine J_getR (d := 111) (k := 4) G cls_8 wf_X8_31 kd_0 rfl rfl dX8_printPiece_32 ?_
  refine J_getR (d := 118) (k := 9) G cls_7 wf_X8_252 kd_111 rfl rfl dX8_printPiece_35 ?_
  refine J_iload_n G 1 dX8_printPiece_38 rfl ?_
  refine J_lald G kd_118 ln_118 dX8_printPiece_39 ?_
  refine J_aload_n G 0 dX8_printPiece_40 rfl ?_
  refine J_getR (d := 111) (k := 4) G cls_8 wf_X8_31 kd_0 rfl rfl dX8_printPiece_41 ?_
  refine J_getL (i := 6) (k := 6) G cls_7 wf_X8_187 kd_111 rfl rfl dX8_printPiece_44 ?_
  refine J_cVwV (As := [vL (m3 118 (s32 p0)), vL (m3 111 6)]) G (mX2_become u 129 kd_129 (m3 118 (s32 p0)) (m3 111 6) m3) sg_X2_become sv_X2_become wm_X8_341 cls_2 kd_129 rfl ⟨by decide, by decide⟩ rfl rfl (Nat.le_of_ble_eq_true rfl) dX8_printPiece_47 ?_
  intro m4
  refine J_aload_n G 0 dX8_printPiece_50 rfl ?_
  refine J_getR (d := 143) (k := 8) G cls_8 wf_X8_55 kd_0 rfl rfl dX8_printPiece_51 ?_
  refine J_aload_n G 0 dX8_printPiece_54 rfl ?_
  refine J_getR (d := 129) (k := 5) G cls_8 wf_X8_38 kd_0 rfl rfl dX8_printPiece_55 ?_
  refine J_cVwV (As := [vR (uB u) 129]) G (mX3_putFraction u m4) sg_X3_putFraction sv_X3_putFraction wm_X8_362 cls_3 kd_143 rfl ⟨by decide, by decide⟩ rfl rfl (Nat.le_of_ble_eq_true rfl) dX8_printPiece_58 ?_
  intro m5
  refine J_aload_n G 0 dX8_printPiece_61 rfl ?_
  refine J_getR (d := 129) (k := 5) G cls_8 wf_X8_38 kd_0 rfl rfl dX8_printPiece_62 ?_
  refine J_aload_n G 0 dX8_printPiece_65 rfl ?_
  refine J_getR (d := 111) (k := 4) G cls_8 wf_X8_31 kd_0 rfl rfl dX8_printPiece_66 ?_
  refine J_getR (d := 117) (k := 8) G cls_7 wf_X8_198 kd_111 rfl rfl dX8_printPiece_69 ?_
  refine J_iload_n G 1 dX8_printPiece_72 rfl ?_
  refine J_lald G kd_117 ln_117 dX8_printPiece_73 ?_
  refine J_aload_n G 0 dX8_printPiece_74 rfl ?_
  refine J_getR (d := 111) (k := 4) G cls_8 wf_X8_31 kd_0 rfl rfl dX8_printPiece_75 ?_
  refine J_getL (i := 6) (k := 6) G cls_7 wf_X8_187 kd_111 rfl rfl dX8_printPiece_78 ?_
  refine J_cVwV (As := [vL (m5 117 (s32 p0)), vL (m5 111 6)]) G (mX2_become u 129 kd_129 (m5 117 (s32 p0)) (m5 111 6) m5) sg_X2_become sv_X2_become wm_X8_341 cls_2 kd_129 rfl ⟨by decide, by decide⟩ rfl rfl (Nat.le_of_ble_eq_true rfl) dX8_printPiece_81 ?_
  intro m6
  refine J_aload_n G 0 dX8_printPiece_84 rfl ?_
  refine J_getR (d := 143) (k := 8) G cls_8 wf_X8_55 kd_0 rfl rfl dX8_printPiece_85 ?_
  refine J_aload_n G 0 dX8_printPiece_88 rfl ?_
  refine J_getR (d := 129) (k := 5) G cls_8 wf_X8_38 kd_0 rfl rfl dX8_printPiece_89 ?_
  refine J_iconst G dX8_printPiece_92 ?_
  refine J_cVwV (As := [vR (uB u) 129, vI 1]) G (mX3_putTerm u 1 m6) sg_X3_putTerm sv_X3_putTerm wm_X8_365 cls_3 kd_143 rfl ⟨by decide, by decide⟩ rfl rfl (Nat.le_of_ble_eq_true rfl) dX8_printPiece_93 ?_
  intro m7
  refine J_aload_n G 0 dX8_printPiece_96 rfl ?_
  refine J_getR (d := 129) (k := 5) G cls_8 wf_X8_38 kd_0 rfl rfl dX8_printPiece_97 ?_
  refine J_aload_n G 0 dX8_printPiece_100 rfl ?_
  refine J_getR (d := 111) (k := 4) G cls_8 wf_X8_31 kd_0 rfl rfl dX8_printPiece_101 ?_
  refine J_getR (d := 115) (k := 5) G cls_7 wf_X8_369 kd_111 rfl rfl dX8_printPiece_104 ?_
  refine J_iload_n G 1 dX8_printPiece_107 rfl ?_
  refine J_lald G kd_115 ln_115 dX8_printPiece_108 ?_
  refine J_lneg G dX8_printPiece_109 ?_
  refine J_ldc2 (v := 2) G dX8_printPiece_110 wc_X8_372 (by decide) ?_
  refine J_cVwV (As := [vL (-(m7 115 (s32 p0))), vL 2]) G (mX2_become u 129 kd_129 (-(m7 115 (s32 p0))) 2 m7) sg_X2_become sv_X2_become wm_X8_341 cls_2 kd_129 rfl ⟨by decide, by decide⟩ rfl rfl (Nat.le_of_ble_eq_true rfl) dX8_printPiece_113 ?_
  intro m8
  refine J_aload_n G 0 dX8_printPiece_116 rfl ?_
  refine J_getR (d := 143) (k := 8) G cls_8 wf_X8_55 kd_0 rfl rfl dX8_printPiece_117 ?_
  refine J_aload_n G 0 dX8_printPiece_120 rfl ?_
  refine J_getR (d := 129) (k := 5) G cls_8 wf_X8_38 kd_0 rfl rfl dX8_printPiece_121 ?_
  refine J_iconst G dX8_printPiece_124 ?_
  refine J_cVwV (As := [vR (uB u) 129, vI 2]) G (mX3_putTerm u 2 m8) sg_X3_putTerm sv_X3_putTerm wm_X8_365 cls_3 kd_143 rfl ⟨by decide, by decide⟩ rfl rfl (Nat.le_of_ble_eq_true rfl) dX8_printPiece_125 ?_
  intro m9
  refine J_aload_n G 0 dX8_printPiece_128 rfl ?_
  refine J_getR (d := 143) (k := 8) G cls_8 wf_X8_55 kd_0 rfl rfl dX8_printPiece_129 ?_
  refine J_bipush G dX8_printPiece_132 (by decide) ?_
  refine J_cVwV (As := [vI 59]) G (mX3_put u 59 m9) sg_X3_put sv_X3_put wm_X8_360 cls_3 kd_143 rfl ⟨by decide, by decide⟩ rfl rfl (Nat.le_of_ble_eq_true rfl) dX8_printPiece_134 ?_
  intro m10
  exact J_vret G dX8_printPiece_137 rfl
theorem jBP_prints_L27 {u : jU} {x : jX} (G : jG u x cX8_prints RX8 2 (some .int) (jRm 6 148)) : ∀ (n : Nat) (i4 : Int) (m5 : Mem), J u x 2 (jQ u x EwI) 27 [(0, vR (uB u) 0), (1, vI i4)] [] m5 (BP_prints_L27 n i4 m5) := by
  intro n
  induction n with
  | zero => intro i4 m5; exact J_none
  | succ n ih =>
    intro i4 m5
    rw [BP_prints_L27]
    refine J_iload_n G 1 dX8_prints_27 rfl ?_
    refine J_aload_n G 0 dX8_prints_28 rfl ?_
    refine J_getR (d := 1) (k := 0) G cls_8 wf_X8_14 kd_0 rfl rfl dX8_prints_29 ?_
    refine J_getI (i := 0) (k := 0) G cls_0 wf_X8_70 kd_1 rfl rfl dX8_prints_32 ?_
    refine J_icmp_ge 49 G dX8_prints_35 (by decide) ?_ ?_
    · refine J_aload_n G 0 dX8_prints_49 rfl ?_
      refine J_getR (d := 143) (k := 8) G cls_8 wf_X8_55 kd_0 rfl rfl dX8_prints_50 ?_
      refine J_getI (i := 0) (k := 0) G cls_3 wf_X8_166 kd_143 rfl rfl dX8_prints_53 ?_
      exact J_iret G dX8_prints_56 rfl
    · refine J_aload_n G 0 dX8_prints_38 rfl ?_
      refine J_iload_n G 1 dX8_prints_39 rfl ?_
      refine J_cVwV (As := [vI i4]) G (mX8_printPiece u i4 m5) sg_X8_printPiece sv_X8_printPiece wm_X8_293 cls_8 kd_0 rfl ⟨by decide, by decide⟩ rfl rfl (Nat.le_of_ble_eq_true rfl) dX8_prints_40 ?_
      intro m6
      refine J_iinc (lv' := [(1, vI (i4 + 1)), (0, vR (uB u) 0)]) G 1 dX8_prints_43 rfl (by decide) rfl ?_
      refine J_goto 27 G dX8_prints_46 (by decide) ?_
      refine J_lv [1, 0] rfl ?_
      exact ih (i4 + 1) m6
theorem mX8_prints (u : jU) (mem : Mem) : jMet u yX8_prints cX8_prints 2 (some .int) (jRm 6 148) [vR (uB u) 0] mem EwI (BP_prints mem) := by
  refine jMet_of (by decide +kernel) (Nat.le_of_ble_eq_true rfl) (fun x G => ?_)
  show J u x 2 (jQ u x EwI) 0 [(0, vR (uB u) 0)] [] mem _
  unfold BP_prints
  refine J_aload_n G 0 dX8_prints_0 rfl ?_
  refine J_getR (d := 1) (k := 0) G cls_8 wf_X8_14 kd_0 rfl rfl dX8_prints_1 ?_
  refine J_cVpI (As := []) G (mX0_stands u 1 kd_1 mem) sg_X0_stands sv_X0_stands wm_X8_171 cls_0 kd_1 rfl ⟨by decide, by decide⟩ rfl rfl (Nat.le_of_ble_eq_true rfl) dX8_prints_4 ?_
  intro r1
  refine J_if_ne 13 G dX8_prints_7 (by decide) ?_ ?_
  · refine J_aload_n G 0 dX8_prints_13 rfl ?_
    refine J_cVwV (As := []) G (mX8_solveAsItIs u mem) sg_X8_solveAsItIs sv_X8_solveAsItIs wm_X8_180 cls_8 kd_0 rfl ⟨by decide, by decide⟩ rfl rfl (Nat.le_of_ble_eq_true rfl) dX8_prints_14 ?_
    intro m2
    refine J_aload_n G 0 dX8_prints_17 rfl ?_
    refine J_getR (d := 143) (k := 8) G cls_8 wf_X8_55 kd_0 rfl rfl dX8_prints_18 ?_
    refine J_iconst G dX8_prints_21 ?_
    refine J_putI (i := 0) (k := 0) G cls_3 wf_X8_166 kd_143 rfl rfl rfl rfl dX8_prints_22 ?_
    refine J_ltM (fun m3 => ?_)
    refine J_iconst G dX8_prints_25 ?_
    refine J_istore_n (lv' := [(1, vI 0), (0, vR (uB u) 0)]) G dX8_prints_26 rfl (by decide) rfl ?_
    refine J_lv [1, 0] rfl ?_
    exact jBP_prints_L27 G 2000 0 m3
  · refine J_bipush G dX8_prints_10 (by decide) ?_
    exact J_iret G dX8_prints_12 rfl
theorem mX8_paper (u : jU) (p0 : Int) (mem : Mem) : jMet u yX8_paper cX8_paper 2 (some .int) (jRm 0 0) [vR (uB u) 0, vI p0] mem (EpI mem) (BP_paper p0 mem) := by
  refine jMet_of (by decide +kernel) (Nat.le_of_ble_eq_true rfl) (fun x G => ?_)
  show J u x 2 (jQ u x (EpI mem)) 0 [(0, vR (uB u) 0), (1, vI p0)] [] mem _
  unfold BP_paper
  refine J_iload_n G 1 dX8_paper_0 rfl ?_
  refine J_if_ge 6 G dX8_paper_1 (by decide) ?_ ?_
  · refine J_iload_n G 1 dX8_paper_6 rfl ?_
    refine J_aload_n G 0 dX8_paper_7 rfl ?_
    refine J_getR (d := 143) (k := 8) G cls_8 wf_X8_55 kd_0 rfl rfl dX8_paper_8 ?_
    refine J_getI (i := 0) (k := 0) G cls_3 wf_X8_166 kd_143 rfl rfl dX8_paper_11 ?_
    refine J_icmp_ge 29 G dX8_paper_14 (by decide) ?_ ?_
    · refine J_bipush G dX8_paper_29 (by decide) ?_
      exact J_iret G dX8_paper_31 rfl
    · refine J_aload_n G 0 dX8_paper_17 rfl ?_
      refine J_getR (d := 143) (k := 8) G cls_8 wf_X8_55 kd_0 rfl rfl dX8_paper_18 ?_
      refine J_getR (d := 144) (k := 1) G cls_3 wf_X8_296 kd_143 rfl rfl dX8_paper_21 ?_
      refine J_iload_n G 1 dX8_paper_24 rfl ?_
      refine J_bald G kd_144 ln_144 dX8_paper_25 ?_
      refine J_goto 31 G dX8_paper_26 (by decide) ?_
      exact J_iret G dX8_paper_31 rfl
  · refine J_iconst G dX8_paper_4 ?_
    exact J_iret G dX8_paper_5 rfl
theorem mX8_isList (u : jU) (p0 : Int) (mem : Mem) : jMet u yX8_isList cX8_isList 1 (some .boolean) (jRm 0 0) [vI p0] mem (EpI mem) (BP_isList p0 mem) := by
  refine jMet_of (by decide +kernel) (Nat.le_of_ble_eq_true rfl) (fun x G => ?_)
  show J u x 1 (jQ u x (EpI mem)) 0 [(0, vI p0)] [] mem _
  unfold BP_isList
  refine J_iload_n G 0 dX8_isList_0 rfl ?_
  refine J_if_lt 13 G dX8_isList_1 (by decide) ?_ ?_
  · refine J_iconst G dX8_isList_13 ?_
    exact J_zret G dX8_isList_14 (by decide) rfl
  · refine J_iload_n G 0 dX8_isList_4 rfl ?_
    refine J_iconst G dX8_isList_5 ?_
    refine J_icmp_ge 13 G dX8_isList_6 (by decide) ?_ ?_
    · refine J_iconst G dX8_isList_13 ?_
      exact J_zret G dX8_isList_14 (by decide) rfl
    · refine J_iconst G dX8_isList_9 ?_
      refine J_goto 14 G dX8_isList_10 (by decide) ?_
      exact J_zret G dX8_isList_14 (by decide) rfl
theorem jRows_begin_L27 {u : jU} {x : jX} (G : jG u x cX6_begin RX6 4 none (jRm 1 20)) (p0 : Int) (p1 : Int) : ∀ (n : Nat) (i3 : Int) (m4 : Mem), J u x 4 (jQ u x EwV) 27 [(0, vR (uB u) 146), (1, vI p0), (2, vI p1), (3, vI i3)] [] m4 (Rows_begin_L27 p0 p1 n i3 m4) := by
  intro n
  induction n with
  | zero => intro i3 m4; exact J_none
  | succ n ih =>
    intro i3 m4
    rw [Rows_begin_L27]
    refine J_iload_n G 3 dX6_begin_27 rfl ?_
    refine J_iload_n G 2 dX6_begin_28 rfl ?_
    refine J_icmp_ge 50 G dX6_begin_29 (by decide) ?_ ?_
    · exact J_vret G dX6_begin_50 rfl
    · refine J_aload_n G 0 dX6_begin_32 rfl ?_
      refine J_getR (d := 148) (k := 1) G cls_6 wf_X6_15 kd_146 rfl rfl dX6_begin_33 ?_
      refine J_iload_n G 1 dX6_begin_36 rfl ?_
      refine J_bipush G dX6_begin_37 (by decide) ?_
      refine J_imul G dX6_begin_39 ?_
      refine J_iload_n G 3 dX6_begin_40 rfl ?_
      refine J_iadd G dX6_begin_41 ?_
      refine J_lconst (v := 0) G dX6_begin_42 (by decide) ?_
      refine J_last G kd_148 ln_148 dX6_begin_43 ?_
      refine J_ltM (fun m5 => ?_)
      refine J_iinc (lv' := [(3, vI (i3 + 1)), (0, vR (uB u) 146), (1, vI p0), (2, vI p1)]) G 3 dX6_begin_44 rfl (by decide) rfl ?_
      refine J_goto 27 G dX6_begin_47 (by decide) ?_
      refine J_lv [1, 2, 3, 0] rfl ?_
      exact ih (i3 + 1) m5
theorem mX6_begin (u : jU) (p0 : Int) (p1 : Int) (mem : Mem) : jMet u yX6_begin cX6_begin 4 none (jRm 1 20) [vR (uB u) 146, vI p0, vI p1] mem EwV (Rows_begin p0 p1 mem) := by
  refine jMet_of (by decide +kernel) (Nat.le_of_ble_eq_true rfl) (fun x G => ?_)
  show J u x 4 (jQ u x EwV) 0 [(0, vR (uB u) 146), (1, vI p0), (2, vI p1)] [] mem _
  unfold Rows_begin
  refine J_iload_n G 1 dX6_begin_0 rfl ?_
  refine J_cNpI (As := [vI p0]) G (mX8_isList u p0 mem) sg_X8_isList ss_X8_isList (fun U h => h.2.2.2.2.1) ⟨by decide, by decide⟩ rfl rfl (Nat.le_of_ble_eq_true rfl) dX6_begin_1 ?_
  intro r1
  refine J_if_eq 17 G dX6_begin_4 (by decide) ?_ ?_
  · exact J_vret G dX6_begin_17 rfl
  · refine J_iload_n G 2 dX6_begin_7 rfl ?_
    refine J_if_lt 17 G dX6_begin_8 (by decide) ?_ ?_
    · exact J_vret G dX6_begin_17 rfl
    · refine J_iload_n G 2 dX6_begin_11 rfl ?_
      refine J_bipush G dX6_begin_12 (by decide) ?_
      refine J_icmp_le 18 G dX6_begin_14 (by decide) ?_ ?_
      · refine J_aload_n G 0 dX6_begin_18 rfl ?_
        refine J_getR (d := 147) (k := 0) G cls_6 wf_X6_9 kd_146 rfl rfl dX6_begin_19 ?_
        refine J_iload_n G 1 dX6_begin_22 rfl ?_
        refine J_iload_n G 2 dX6_begin_23 rfl ?_
        refine J_iast G kd_147 ln_147 dX6_begin_24 ?_
        refine J_ltM (fun m2 => ?_)
        refine J_iconst G dX6_begin_25 ?_
        refine J_istore_n (lv' := [(3, vI 0), (0, vR (uB u) 146), (1, vI p0), (2, vI p1)]) G dX6_begin_26 rfl (by decide) rfl ?_
        refine J_lv [1, 2, 3, 0] rfl ?_
        exact jRows_begin_L27 G p0 p1 2000 0 m2
      · exact J_vret G dX6_begin_17 rfl
theorem mX8_list (u : jU) (p0 : Int) (p1 : Int) (mem : Mem) : jMet u yX8_list cX8_list 3 (some .int) (jRm 2 43) [vR (uB u) 0, vI p0, vI p1] mem EwI (BP_list p0 p1 mem) := by
  refine jMet_of (by decide +kernel) (Nat.le_of_ble_eq_true rfl) (fun x G => ?_)
  show J u x 3 (jQ u x EwI) 0 [(0, vR (uB u) 0), (1, vI p0), (2, vI p1)] [] mem _
  unfold BP_list
  refine J_iload_n G 1 dX8_list_0 rfl ?_
  refine J_cSpI (As := [vI p0]) G (mX8_isList u p0 mem) sg_X8_isList ss_X8_isList wm_X8_300 ⟨by decide, by decide⟩ rfl rfl (Nat.le_of_ble_eq_true rfl) dX8_list_1 ?_
  intro r1
  refine J_if_eq 13 G dX8_list_4 (by decide) ?_ ?_
  · refine J_iconst G dX8_list_13 ?_
    exact J_iret G dX8_list_14 rfl
  · refine J_iload_n G 2 dX8_list_7 rfl ?_
    refine J_bipush G dX8_list_8 (by decide) ?_
    refine J_icmp_le 15 G dX8_list_10 (by decide) ?_ ?_
    · refine J_iload_n G 2 dX8_list_15 rfl ?_
      refine J_if_ge 22 G dX8_list_16 (by decide) ?_ ?_
      · refine J_aload_n G 0 dX8_list_22 rfl ?_
        refine J_getR (d := 146) (k := 9) G cls_8 wf_X8_62 kd_0 rfl rfl dX8_list_23 ?_
        refine J_iload_n G 1 dX8_list_26 rfl ?_
        refine J_iload_n G 2 dX8_list_27 rfl ?_
        refine J_cVwV (As := [vI p0, vI p1]) G (mX6_begin u p0 p1 mem) sg_X6_begin sv_X6_begin wm_X8_303 cls_6 kd_146 rfl ⟨by decide, by decide⟩ rfl rfl (Nat.le_of_ble_eq_true rfl) dX8_list_28 ?_
        intro m2
        refine J_iconst G dX8_list_31 ?_
        exact J_iret G dX8_list_32 rfl
      · refine J_bipush G dX8_list_19 (by decide) ?_
        exact J_iret G dX8_list_21 rfl
    · refine J_iconst G dX8_list_13 ?_
      exact J_iret G dX8_list_14 rfl
theorem mX6_isThere (u : jU) (p0 : Int) (mem : Mem) : jMet u yX6_isThere cX6_isThere 2 (some .boolean) (jRm 1 20) [vR (uB u) 146, vI p0] mem (EpI mem) (Rows_isThere p0 mem) := by
  refine jMet_of (by decide +kernel) (Nat.le_of_ble_eq_true rfl) (fun x G => ?_)
  show J u x 2 (jQ u x (EpI mem)) 0 [(0, vR (uB u) 146), (1, vI p0)] [] mem _
  unfold Rows_isThere
  refine J_iload_n G 1 dX6_isThere_0 rfl ?_
  refine J_cNpI (As := [vI p0]) G (mX8_isList u p0 mem) sg_X8_isList ss_X8_isList (fun U h => h.2.2.2.2.1) ⟨by decide, by decide⟩ rfl rfl (Nat.le_of_ble_eq_true rfl) dX6_isThere_1 ?_
  intro r1
  refine J_if_eq 20 G dX6_isThere_4 (by decide) ?_ ?_
  · refine J_iconst G dX6_isThere_20 ?_
    exact J_zret G dX6_isThere_21 (by decide) rfl
  · refine J_aload_n G 0 dX6_isThere_7 rfl ?_
    refine J_getR (d := 147) (k := 0) G cls_6 wf_X6_9 kd_146 rfl rfl dX6_isThere_8 ?_
    refine J_iload_n G 1 dX6_isThere_11 rfl ?_
    refine J_iald G kd_147 ln_147 dX6_isThere_12 ?_
    refine J_if_lt 20 G dX6_isThere_13 (by decide) ?_ ?_
    · refine J_iconst G dX6_isThere_20 ?_
      exact J_zret G dX6_isThere_21 (by decide) rfl
    · refine J_iconst G dX6_isThere_16 ?_
      refine J_goto 21 G dX6_isThere_17 (by decide) ?_
      exact J_zret G dX6_isThere_21 (by decide) rfl
theorem mX6_has (u : jU) (p0 : Int) (p1 : Int) (mem : Mem) : jMet u yX6_has cX6_has 3 (some .boolean) (jRm 1 20) [vR (uB u) 146, vI p0, vI p1] mem (EpI mem) (Rows_has p0 p1 mem) := by
  refine jMet_of (by decide +kernel) (Nat.le_of_ble_eq_true rfl) (fun x G => ?_)
  show J u x 3 (jQ u x (EpI mem)) 0 [(0, vR (uB u) 146), (1, vI p0), (2, vI p1)] [] mem _
  unfold Rows_has
  refine J_iload_n G 1 dX6_has_0 rfl ?_
  refine J_cNpI (As := [vI p0]) G (mX8_isList u p0 mem) sg_X8_isList ss_X8_isList (fun U h => h.2.2.2.2.1) ⟨by decide, by decide⟩ rfl rfl (Nat.le_of_ble_eq_true rfl) dX6_has_1 ?_
  intro r1
  refine J_if_eq 25 G dX6_has_4 (by decide) ?_ ?_
  · refine J_iconst G dX6_has_25 ?_
    exact J_zret G dX6_has_26 (by decide) rfl
  · refine J_iload_n G 2 dX6_has_7 rfl ?_
    refine J_if_lt 25 G dX6_has_8 (by decide) ?_ ?_
    · refine J_iconst G dX6_has_25 ?_
      exact J_zret G dX6_has_26 (by decide) rfl
    · refine J_iload_n G 2 dX6_has_11 rfl ?_
      refine J_aload_n G 0 dX6_has_12 rfl ?_
      refine J_getR (d := 147) (k := 0) G cls_6 wf_X6_9 kd_146 rfl rfl dX6_has_13 ?_
      refine J_iload_n G 1 dX6_has_16 rfl ?_
      refine J_iald G kd_147 ln_147 dX6_has_17 ?_
      refine J_icmp_ge 25 G dX6_has_18 (by decide) ?_ ?_
      · refine J_iconst G dX6_has_25 ?_
        exact J_zret G dX6_has_26 (by decide) rfl
      · refine J_iconst G dX6_has_21 ?_
        refine J_goto 26 G dX6_has_22 (by decide) ?_
        exact J_zret G dX6_has_26 (by decide) rfl
theorem mX6_put (u : jU) (p0 : Int) (p1 : Int) (p2 : Int) (mem : Mem) : jMet u yX6_put cX6_put 5 none (jRm 2 42) [vR (uB u) 146, vI p0, vI p1, vL p2] mem EwV (Rows_put p0 p1 p2 mem) := by
  refine jMet_of (by decide +kernel) (Nat.le_of_ble_eq_true rfl) (fun x G => ?_)
  show J u x 5 (jQ u x EwV) 0 [(0, vR (uB u) 146), (1, vI p0), (2, vI p1), (3, vL p2)] [] mem _
  unfold Rows_put
  refine J_aload_n G 0 dX6_put_0 rfl ?_
  refine J_iload_n G 1 dX6_put_1 rfl ?_
  refine J_iload_n G 2 dX6_put_2 rfl ?_
  refine J_cVpI (As := [vI p0, vI p1]) G (mX6_has u p0 p1 mem) sg_X6_has sv_X6_has wm_X6_29 cls_6 kd_146 rfl ⟨by decide, by decide⟩ rfl rfl (Nat.le_of_ble_eq_true rfl) dX6_put_3 ?_
  intro r1
  refine J_if_eq 21 G dX6_put_6 (by decide) ?_ ?_
  · exact J_vret G dX6_put_21 rfl
  · refine J_aload_n G 0 dX6_put_9 rfl ?_
    refine J_getR (d := 148) (k := 1) G cls_6 wf_X6_15 kd_146 rfl rfl dX6_put_10 ?_
    refine J_iload_n G 1 dX6_put_13 rfl ?_
    refine J_bipush G dX6_put_14 (by decide) ?_
    refine J_imul G dX6_put_16 ?_
    refine J_iload_n G 2 dX6_put_17 rfl ?_
    refine J_iadd G dX6_put_18 ?_
    refine J_lload_n G 3 dX6_put_19 rfl ?_
    refine J_last G kd_148 ln_148 dX6_put_20 ?_
    refine J_ltM (fun m2 => ?_)
    exact J_vret G dX6_put_21 rfl
theorem mX8_set (u : jU) (p0 : Int) (p1 : Int) (p2 : Int) (mem : Mem) : jMet u yX8_set cX8_set 5 (some .int) (jRm 3 66) [vR (uB u) 0, vI p0, vI p1, vL p2] mem EwI (BP_set p0 p1 p2 mem) := by
  refine jMet_of (by decide +kernel) (Nat.le_of_ble_eq_true rfl) (fun x G => ?_)
  show J u x 5 (jQ u x EwI) 0 [(0, vR (uB u) 0), (1, vI p0), (2, vI p1), (3, vL p2)] [] mem _
  unfold BP_set
  refine J_iload_n G 1 dX8_set_0 rfl ?_
  refine J_cSpI (As := [vI p0]) G (mX8_isList u p0 mem) sg_X8_isList ss_X8_isList wm_X8_300 ⟨by decide, by decide⟩ rfl rfl (Nat.le_of_ble_eq_true rfl) dX8_set_1 ?_
  intro r1
  refine J_if_ne 9 G dX8_set_4 (by decide) ?_ ?_
  · refine J_aload_n G 0 dX8_set_9 rfl ?_
    refine J_getR (d := 146) (k := 9) G cls_8 wf_X8_62 kd_0 rfl rfl dX8_set_10 ?_
    refine J_iload_n G 1 dX8_set_13 rfl ?_
    refine J_cVpI (As := [vI p0]) G (mX6_isThere u p0 mem) sg_X6_isThere sv_X6_isThere wm_X8_307 cls_6 kd_146 rfl ⟨by decide, by decide⟩ rfl rfl (Nat.le_of_ble_eq_true rfl) dX8_set_14 ?_
    intro r2
    refine J_if_ne 23 G dX8_set_17 (by decide) ?_ ?_
    · refine J_aload_n G 0 dX8_set_23 rfl ?_
      refine J_getR (d := 146) (k := 9) G cls_8 wf_X8_62 kd_0 rfl rfl dX8_set_24 ?_
      refine J_iload_n G 1 dX8_set_27 rfl ?_
      refine J_iload_n G 2 dX8_set_28 rfl ?_
      refine J_cVpI (As := [vI p0, vI p1]) G (mX6_has u p0 p1 mem) sg_X6_has sv_X6_has wm_X8_310 cls_6 kd_146 rfl ⟨by decide, by decide⟩ rfl rfl (Nat.le_of_ble_eq_true rfl) dX8_set_29 ?_
      intro r3
      refine J_if_ne 38 G dX8_set_32 (by decide) ?_ ?_
      · refine J_aload_n G 0 dX8_set_38 rfl ?_
        refine J_getR (d := 146) (k := 9) G cls_8 wf_X8_62 kd_0 rfl rfl dX8_set_39 ?_
        refine J_iload_n G 1 dX8_set_42 rfl ?_
        refine J_iload_n G 2 dX8_set_43 rfl ?_
        refine J_lload_n G 3 dX8_set_44 rfl ?_
        refine J_cVwV (As := [vI p0, vI p1, vL p2]) G (mX6_put u p0 p1 p2 mem) sg_X6_put sv_X6_put wm_X8_314 cls_6 kd_146 rfl ⟨by decide, by decide⟩ rfl rfl (Nat.le_of_ble_eq_true rfl) dX8_set_45 ?_
        intro m4
        refine J_iconst G dX8_set_48 ?_
        exact J_iret G dX8_set_49 rfl
      · refine J_bipush G dX8_set_35 (by decide) ?_
        exact J_iret G dX8_set_37 rfl
    · refine J_bipush G dX8_set_20 (by decide) ?_
      exact J_iret G dX8_set_22 rfl
  · refine J_iconst G dX8_set_7 ?_
    exact J_iret G dX8_set_8 rfl
theorem mX6_at (u : jU) (p0 : Int) (p1 : Int) (mem : Mem) : jMet u yX6_at cX6_at 3 (some .long) (jRm 2 42) [vR (uB u) 146, vI p0, vI p1] mem (EpL mem) (Rows_at p0 p1 mem) := by
  refine jMet_of (by decide +kernel) (Nat.le_of_ble_eq_true rfl) (fun x G => ?_)
  show J u x 3 (jQ u x (EpL mem)) 0 [(0, vR (uB u) 146), (1, vI p0), (2, vI p1)] [] mem _
  unfold Rows_at
  refine J_aload_n G 0 dX6_at_0 rfl ?_
  refine J_iload_n G 1 dX6_at_1 rfl ?_
  refine J_iload_n G 2 dX6_at_2 rfl ?_
  refine J_cVpI (As := [vI p0, vI p1]) G (mX6_has u p0 p1 mem) sg_X6_has sv_X6_has wm_X6_29 cls_6 kd_146 rfl ⟨by decide, by decide⟩ rfl rfl (Nat.le_of_ble_eq_true rfl) dX6_at_3 ?_
  intro r1
  refine J_if_eq 23 G dX6_at_6 (by decide) ?_ ?_
  · refine J_ldc2 (v := (-9223372036854775808)) G dX6_at_23 wc_X6_33 (by decide) ?_
    exact J_lret G dX6_at_26 rfl
  · refine J_aload_n G 0 dX6_at_9 rfl ?_
    refine J_getR (d := 148) (k := 1) G cls_6 wf_X6_15 kd_146 rfl rfl dX6_at_10 ?_
    refine J_iload_n G 1 dX6_at_13 rfl ?_
    refine J_bipush G dX6_at_14 (by decide) ?_
    refine J_imul G dX6_at_16 ?_
    refine J_iload_n G 2 dX6_at_17 rfl ?_
    refine J_iadd G dX6_at_18 ?_
    refine J_lald G kd_148 ln_148 dX6_at_19 ?_
    refine J_goto 26 G dX6_at_20 (by decide) ?_
    exact J_lret G dX6_at_26 rfl
theorem mX8_get (u : jU) (p0 : Int) (p1 : Int) (mem : Mem) : jMet u yX8_get cX8_get 3 (some .long) (jRm 3 64) [vR (uB u) 0, vI p0, vI p1] mem (EpL mem) (BP_get p0 p1 mem) := by
  refine jMet_of (by decide +kernel) (Nat.le_of_ble_eq_true rfl) (fun x G => ?_)
  show J u x 3 (jQ u x (EpL mem)) 0 [(0, vR (uB u) 0), (1, vI p0), (2, vI p1)] [] mem _
  unfold BP_get
  refine J_aload_n G 0 dX8_get_0 rfl ?_
  refine J_getR (d := 146) (k := 9) G cls_8 wf_X8_62 kd_0 rfl rfl dX8_get_1 ?_
  refine J_iload_n G 1 dX8_get_4 rfl ?_
  refine J_iload_n G 2 dX8_get_5 rfl ?_
  refine J_cVpL (As := [vI p0, vI p1]) G (mX6_at u p0 p1 mem) sg_X6_at sv_X6_at wm_X8_318 cls_6 kd_146 rfl ⟨by decide, by decide⟩ rfl rfl (Nat.le_of_ble_eq_true rfl) dX8_get_6 ?_
  intro r1
  exact J_lret G dX8_get_9 rfl
theorem mX8_numbersInAll (u : jU) (mem : Mem) : jMet u yX8_numbersInAll cX8_numbersInAll 1 (some .int) (jRm 0 0) [vR (uB u) 0] mem (EpI mem) (BP_numbersInAll mem) := by
  refine jMet_of (by decide +kernel) (Nat.le_of_ble_eq_true rfl) (fun x G => ?_)
  show J u x 1 (jQ u x (EpI mem)) 0 [(0, vR (uB u) 0)] [] mem _
  unfold BP_numbersInAll
  refine J_iconst G dX8_numbersInAll_0 ?_
  refine J_aload_n G 0 dX8_numbersInAll_1 rfl ?_
  refine J_getR (d := 1) (k := 0) G cls_8 wf_X8_14 kd_0 rfl rfl dX8_numbersInAll_2 ?_
  refine J_getI (i := 0) (k := 0) G cls_0 wf_X8_70 kd_1 rfl rfl dX8_numbersInAll_5 ?_
  refine J_iconst G dX8_numbersInAll_8 ?_
  refine J_iadd G dX8_numbersInAll_9 ?_
  refine J_imul G dX8_numbersInAll_10 ?_
  exact J_iret G dX8_numbersInAll_11 rfl
theorem mX8_numberOfMoments (u : jU) (p0 : Int) (mem : Mem) : jMet u yX8_numberOfMoments cX8_numberOfMoments 2 (some .long) (jRm 4 106) [vR (uB u) 0, vI p0] mem EwL (BP_numberOfMoments p0 mem) := by
  refine jMet_of (by decide +kernel) (Nat.le_of_ble_eq_true rfl) (fun x G => ?_)
  show J u x 2 (jQ u x EwL) 0 [(0, vR (uB u) 0), (1, vI p0)] [] mem _
  unfold BP_numberOfMoments
  refine J_aload_n G 0 dX8_numberOfMoments_0 rfl ?_
  refine J_aload_n G 0 dX8_numberOfMoments_1 rfl ?_
  refine J_getR (d := 111) (k := 4) G cls_8 wf_X8_31 kd_0 rfl rfl dX8_numberOfMoments_2 ?_
  refine J_getR (d := 118) (k := 9) G cls_7 wf_X8_252 kd_111 rfl rfl dX8_numberOfMoments_5 ?_
  refine J_iload_n G 1 dX8_numberOfMoments_8 rfl ?_
  refine J_iconst G dX8_numberOfMoments_9 ?_
  refine J_idivC G dX8_numberOfMoments_10 (by decide) ?_
  refine J_lald G kd_118 ln_118 dX8_numberOfMoments_11 ?_
  refine J_aload_n G 0 dX8_numberOfMoments_12 rfl ?_
  refine J_getR (d := 111) (k := 4) G cls_8 wf_X8_31 kd_0 rfl rfl dX8_numberOfMoments_13 ?_
  refine J_getL (i := 6) (k := 6) G cls_7 wf_X8_187 kd_111 rfl rfl dX8_numberOfMoments_16 ?_
  refine J_iload_n G 1 dX8_numberOfMoments_19 rfl ?_
  refine J_iconst G dX8_numberOfMoments_20 ?_
  refine J_iremC G dX8_numberOfMoments_21 (by decide) ?_
  refine J_cVwL (As := [vL (mem 118 (s32 ((s32 p0).tdiv (s32 2)))), vL (mem 111 6), vI ((s32 p0).tmod (s32 2))]) G (mX8_inLowest u (mem 118 (s32 ((s32 p0).tdiv (s32 2)))) (mem 111 6) ((s32 p0).tmod (s32 2)) mem) sg_X8_inLowest sv_X8_inLowest wm_X8_191 cls_8 kd_0 rfl ⟨by decide, by decide⟩ rfl rfl (Nat.le_of_ble_eq_true rfl) dX8_numberOfMoments_22 ?_
  intro r1 m2
  exact J_lret G dX8_numberOfMoments_25 rfl
theorem jBP_into_L52 {u : jU} {x : jX} (G : jG u x cX8_into RX8 5 (some .int) (jRm 6 148)) (p0 : Int) : ∀ (n : Nat) (i5 : Int) (i6 : Int) (m7 : Mem), J u x 5 (jQ u x EwI) 52 [(0, vR (uB u) 0), (1, vI p0), (3, vI i5), (4, vI i6)] [] m7 (BP_into_L52 p0 n i5 i6 m7) := by
  intro n
  induction n with
  | zero => intro i5 i6 m7; exact J_none
  | succ n ih =>
    intro i5 i6 m7
    rw [BP_into_L52]
    refine J_aload_n G 0 dX8_into_52 rfl ?_
    refine J_getR (d := 146) (k := 9) G cls_8 wf_X8_62 kd_0 rfl rfl dX8_into_53 ?_
    refine J_iload_n G 1 dX8_into_56 rfl ?_
    refine J_iload G 3 dX8_into_57 rfl ?_
    refine J_cVpI (As := [vI p0, vI i6]) G (mX6_has u p0 i6 m7) sg_X6_has sv_X6_has wm_X8_310 cls_6 kd_146 rfl ⟨by decide, by decide⟩ rfl rfl (Nat.le_of_ble_eq_true rfl) dX8_into_59 ?_
    intro r8
    refine J_if_eq 97 G dX8_into_62 (by decide) ?_ ?_
    · refine J_iload_n G 2 dX8_into_97 rfl ?_
      exact J_iret G dX8_into_98 rfl
    · refine J_iload_n G 2 dX8_into_65 rfl ?_
      refine J_aload_n G 0 dX8_into_66 rfl ?_
      refine J_cVpI (As := []) G (mX8_numbersInAll u m7) sg_X8_numbersInAll sv_X8_numbersInAll wm_X8_322 cls_8 kd_0 rfl ⟨by decide, by decide⟩ rfl rfl (Nat.le_of_ble_eq_true rfl) dX8_into_67 ?_
      intro r9
      refine J_icmp_ge 97 G dX8_into_70 (by decide) ?_ ?_
      · refine J_iload_n G 2 dX8_into_97 rfl ?_
        exact J_iret G dX8_into_98 rfl
      · refine J_aload_n G 0 dX8_into_73 rfl ?_
        refine J_getR (d := 146) (k := 9) G cls_8 wf_X8_62 kd_0 rfl rfl dX8_into_74 ?_
        refine J_iload_n G 1 dX8_into_77 rfl ?_
        refine J_iload G 3 dX8_into_78 rfl ?_
        refine J_aload_n G 0 dX8_into_80 rfl ?_
        refine J_iload_n G 2 dX8_into_81 rfl ?_
        refine J_cVwL (As := [vI i5]) G (mX8_numberOfMoments u i5 m7) sg_X8_numberOfMoments sv_X8_numberOfMoments wm_X8_325 cls_8 kd_0 rfl ⟨by decide, by decide⟩ rfl rfl (Nat.le_of_ble_eq_true rfl) dX8_into_82 ?_
        intro r10 m11
        refine J_cVwV (As := [vI p0, vI i6, vL r10]) G (mX6_put u p0 i6 r10 m11) sg_X6_put sv_X6_put wm_X8_314 cls_6 kd_146 rfl ⟨by decide, by decide⟩ rfl rfl (Nat.le_of_ble_eq_true rfl) dX8_into_85 ?_
        intro m12
        refine J_iinc (lv' := [(3, vI (i5 + 1)), (0, vR (uB u) 0), (1, vI p0), (4, vI i6)]) G 2 dX8_into_88 rfl (by decide) rfl ?_
        refine J_iinc (lv' := [(4, vI (i6 + 1)), (3, vI (i5 + 1)), (0, vR (uB u) 0), (1, vI p0)]) G 3 dX8_into_91 rfl (by decide) rfl ?_
        refine J_goto 52 G dX8_into_94 (by decide) ?_
        refine J_lv [2, 3, 1, 0] rfl ?_
        exact ih (i5 + 1) (i6 + 1) m12
theorem mX8_into (u : jU) (p0 : Int) (p1 : Int) (mem : Mem) : jMet u yX8_into cX8_into 5 (some .int) (jRm 6 148) [vR (uB u) 0, vI p0, vI p1] mem EwI (BP_into p0 p1 mem) := by
  refine jMet_of (by decide +kernel) (Nat.le_of_ble_eq_true rfl) (fun x G => ?_)
  show J u x 5 (jQ u x EwI) 0 [(0, vR (uB u) 0), (1, vI p0), (2, vI p1)] [] mem _
  unfold BP_into
  refine J_iload_n G 1 dX8_into_0 rfl ?_
  refine J_cSpI (As := [vI p0]) G (mX8_isList u p0 mem) sg_X8_isList ss_X8_isList wm_X8_300 ⟨by decide, by decide⟩ rfl rfl (Nat.le_of_ble_eq_true rfl) dX8_into_1 ?_
  intro r1
  refine J_if_ne 9 G dX8_into_4 (by decide) ?_ ?_
  · refine J_aload_n G 0 dX8_into_9 rfl ?_
    refine J_getR (d := 1) (k := 0) G cls_8 wf_X8_14 kd_0 rfl rfl dX8_into_10 ?_
    refine J_cVpI (As := []) G (mX0_stands u 1 kd_1 mem) sg_X0_stands sv_X0_stands wm_X8_171 cls_0 kd_1 rfl ⟨by decide, by decide⟩ rfl rfl (Nat.le_of_ble_eq_true rfl) dX8_into_13 ?_
    intro r2
    refine J_if_ne 22 G dX8_into_16 (by decide) ?_ ?_
    · refine J_aload_n G 0 dX8_into_22 rfl ?_
      refine J_getR (d := 146) (k := 9) G cls_8 wf_X8_62 kd_0 rfl rfl dX8_into_23 ?_
      refine J_iload_n G 1 dX8_into_26 rfl ?_
      refine J_cVpI (As := [vI p0]) G (mX6_isThere u p0 mem) sg_X6_isThere sv_X6_isThere wm_X8_307 cls_6 kd_146 rfl ⟨by decide, by decide⟩ rfl rfl (Nat.le_of_ble_eq_true rfl) dX8_into_27 ?_
      intro r3
      refine J_if_ne 36 G dX8_into_30 (by decide) ?_ ?_
      · refine J_iload_n G 2 dX8_into_36 rfl ?_
        refine J_if_ge 43 G dX8_into_37 (by decide) ?_ ?_
        · refine J_aload_n G 0 dX8_into_43 rfl ?_
          refine J_cVwV (As := []) G (mX8_solveAsItIs u mem) sg_X8_solveAsItIs sv_X8_solveAsItIs wm_X8_180 cls_8 kd_0 rfl ⟨by decide, by decide⟩ rfl rfl (Nat.le_of_ble_eq_true rfl) dX8_into_44 ?_
          intro m4
          refine J_iconst G dX8_into_47 ?_
          refine J_istore_n (lv' := [(3, vI 0), (0, vR (uB u) 0), (1, vI p0), (2, vI p1)]) G dX8_into_48 rfl (by decide) rfl ?_
          refine J_iload_n G 3 dX8_into_49 rfl ?_
          refine J_istore (lv' := [(4, vI p1), (3, vI 0), (0, vR (uB u) 0), (1, vI p0), (2, vI p1)]) G dX8_into_50 (by decide) rfl ?_
          refine J_lv [2, 3, 1, 0] rfl ?_
          exact jBP_into_L52 G p0 2000 0 p1 m4
        · refine J_bipush G dX8_into_40 (by decide) ?_
          exact J_iret G dX8_into_42 rfl
      · refine J_bipush G dX8_into_33 (by decide) ?_
        exact J_iret G dX8_into_35 rfl
    · refine J_bipush G dX8_into_19 (by decide) ?_
      exact J_iret G dX8_into_21 rfl
  · refine J_iconst G dX8_into_7 ?_
    exact J_iret G dX8_into_8 rfl
theorem jBP_judge_L49 {u : jU} {x : jX} (G : jG u x cX8_judge RX8 5 (some .int) (jRm 6 148)) (p0 : Int) (k102 : Int → Mem → Option (Int × Mem)) (hk102 : (fun g => ∀ x5 m6, J u x 5 (jQ u x EwI) 102 [(0, vR (uB u) 0), (3, vI x5)] [] m6 (g x5 m6)) k102) : ∀ (n : Nat) (i8 : Int) (i9 : Int) (m10 : Mem), J u x 5 (jQ u x EwI) 49 [(0, vR (uB u) 0), (1, vI p0), (3, vI i8), (4, vI i9)] [] m10 (BP_judge_L49 p0 k102 n i8 i9 m10) := by
  intro n
  induction n with
  | zero => intro i8 i9 m10; exact J_none
  | succ n ih =>
    intro i8 i9 m10
    rw [BP_judge_L49]
    refine J_aload_n G 0 dX8_judge_49 rfl ?_
    refine J_getR (d := 146) (k := 9) G cls_8 wf_X8_62 kd_0 rfl rfl dX8_judge_50 ?_
    refine J_iload_n G 1 dX8_judge_53 rfl ?_
    refine J_iload G 3 dX8_judge_54 rfl ?_
    refine J_cVpI (As := [vI p0, vI i9]) G (mX6_has u p0 i9 m10) sg_X6_has sv_X6_has wm_X8_310 cls_6 kd_146 rfl ⟨by decide, by decide⟩ rfl rfl (Nat.le_of_ble_eq_true rfl) dX8_judge_56 ?_
    intro r11
    refine J_if_eq 102 G dX8_judge_59 (by decide) ?_ ?_
    · refine J_lv [0, 2] rfl ?_
      exact hk102 i8 m10
    · refine J_iload_n G 2 dX8_judge_62 rfl ?_
      refine J_aload_n G 0 dX8_judge_63 rfl ?_
      refine J_cVpI (As := []) G (mX8_numbersInAll u m10) sg_X8_numbersInAll sv_X8_numbersInAll wm_X8_322 cls_8 kd_0 rfl ⟨by decide, by decide⟩ rfl rfl (Nat.le_of_ble_eq_true rfl) dX8_judge_64 ?_
      intro r12
      refine J_icmp_ge 102 G dX8_judge_67 (by decide) ?_ ?_
      · refine J_lv [0, 2] rfl ?_
        exact hk102 i8 m10
      · refine J_aload_n G 0 dX8_judge_70 rfl ?_
        refine J_getR (d := 146) (k := 9) G cls_8 wf_X8_62 kd_0 rfl rfl dX8_judge_71 ?_
        refine J_iload_n G 1 dX8_judge_74 rfl ?_
        refine J_iload G 3 dX8_judge_75 rfl ?_
        refine J_cVpL (As := [vI p0, vI i9]) G (mX6_at u p0 i9 m10) sg_X6_at sv_X6_at wm_X8_318 cls_6 kd_146 rfl ⟨by decide, by decide⟩ rfl rfl (Nat.le_of_ble_eq_true rfl) dX8_judge_77 ?_
        intro r13
        refine J_aload_n G 0 dX8_judge_80 rfl ?_
        refine J_iload_n G 2 dX8_judge_81 rfl ?_
        refine J_cVwL (As := [vI i8]) G (mX8_numberOfMoments u i8 m10) sg_X8_numberOfMoments sv_X8_numberOfMoments wm_X8_325 cls_8 kd_0 rfl ⟨by decide, by decide⟩ rfl rfl (Nat.le_of_ble_eq_true rfl) dX8_judge_82 ?_
        intro r14 m15
        refine J_lcmp_eq 93 G dX8_judge_85 dX8_judge_86 (by decide) ?_ ?_
        · refine J_iinc (lv' := [(3, vI (i8 + 1)), (0, vR (uB u) 0), (1, vI p0), (4, vI i9)]) G 2 dX8_judge_93 rfl (by decide) rfl ?_
          refine J_iinc (lv' := [(4, vI (i9 + 1)), (3, vI (i8 + 1)), (0, vR (uB u) 0), (1, vI p0)]) G 3 dX8_judge_96 rfl (by decide) rfl ?_
          refine J_goto 49 G dX8_judge_99 (by decide) ?_
          refine J_lv [2, 3, 1, 0] rfl ?_
          exact ih (i8 + 1) (i9 + 1) m15
        · refine J_iload_n G 2 dX8_judge_89 rfl ?_
          refine J_iconst G dX8_judge_90 ?_
          refine J_idivC G dX8_judge_91 (by decide) ?_
          exact J_iret G dX8_judge_92 rfl
theorem mX8_judge (u : jU) (p0 : Int) (p1 : Int) (mem : Mem) : jMet u yX8_judge cX8_judge 5 (some .int) (jRm 6 148) [vR (uB u) 0, vI p0, vI p1] mem EwI (BP_judge p0 p1 mem) := by
  refine jMet_of (by decide +kernel) (Nat.le_of_ble_eq_true rfl) (fun x G => ?_)
  show J u x 5 (jQ u x EwI) 0 [(0, vR (uB u) 0), (1, vI p0), (2, vI p1)] [] mem _
  unfold BP_judge
  refine J_iload_n G 1 dX8_judge_0 rfl ?_
  refine J_cSpI (As := [vI p0]) G (mX8_isList u p0 mem) sg_X8_isList ss_X8_isList wm_X8_300 ⟨by decide, by decide⟩ rfl rfl (Nat.le_of_ble_eq_true rfl) dX8_judge_1 ?_
  intro r1
  refine J_if_eq 11 G dX8_judge_4 (by decide) ?_ ?_
  · refine J_iconst G dX8_judge_11 ?_
    exact J_iret G dX8_judge_12 rfl
  · refine J_iload_n G 2 dX8_judge_7 rfl ?_
    refine J_if_ge 13 G dX8_judge_8 (by decide) ?_ ?_
    · refine J_aload_n G 0 dX8_judge_13 rfl ?_
      refine J_getR (d := 1) (k := 0) G cls_8 wf_X8_14 kd_0 rfl rfl dX8_judge_14 ?_
      refine J_cVpI (As := []) G (mX0_stands u 1 kd_1 mem) sg_X0_stands sv_X0_stands wm_X8_171 cls_0 kd_1 rfl ⟨by decide, by decide⟩ rfl rfl (Nat.le_of_ble_eq_true rfl) dX8_judge_17 ?_
      intro r2
      refine J_if_ne 26 G dX8_judge_20 (by decide) ?_ ?_
      · refine J_aload_n G 0 dX8_judge_26 rfl ?_
        refine J_getR (d := 146) (k := 9) G cls_8 wf_X8_62 kd_0 rfl rfl dX8_judge_27 ?_
        refine J_iload_n G 1 dX8_judge_30 rfl ?_
        refine J_cVpI (As := [vI p0]) G (mX6_isThere u p0 mem) sg_X6_isThere sv_X6_isThere wm_X8_307 cls_6 kd_146 rfl ⟨by decide, by decide⟩ rfl rfl (Nat.le_of_ble_eq_true rfl) dX8_judge_31 ?_
        intro r3
        refine J_if_ne 40 G dX8_judge_34 (by decide) ?_ ?_
        · refine J_aload_n G 0 dX8_judge_40 rfl ?_
          refine J_cVwV (As := []) G (mX8_solveAsItIs u mem) sg_X8_solveAsItIs sv_X8_solveAsItIs wm_X8_180 cls_8 kd_0 rfl ⟨by decide, by decide⟩ rfl rfl (Nat.le_of_ble_eq_true rfl) dX8_judge_41 ?_
          intro m4
          refine J_iconst G dX8_judge_44 ?_
          refine J_istore_n (lv' := [(3, vI 0), (0, vR (uB u) 0), (1, vI p0), (2, vI p1)]) G dX8_judge_45 rfl (by decide) rfl ?_
          refine J_iload_n G 3 dX8_judge_46 rfl ?_
          refine J_istore (lv' := [(4, vI p1), (3, vI 0), (0, vR (uB u) 0), (1, vI p0), (2, vI p1)]) G dX8_judge_47 (by decide) rfl ?_
          refine J_jn (fun g => ∀ x5 m6, J u x 5 (jQ u x EwI) 102 [(0, vR (uB u) 0), (3, vI x5)] [] m6 (g x5 m6)) ?_ ?_
          · intro x5 m6
            refine J_iload_n G 1 dX8_judge_102 rfl ?_
            refine J_aload_n G 0 dX8_judge_103 rfl ?_
            refine J_cVpI (As := []) G (mX8_numbersInAll u m6) sg_X8_numbersInAll sv_X8_numbersInAll wm_X8_322 cls_8 kd_0 rfl ⟨by decide, by decide⟩ rfl rfl (Nat.le_of_ble_eq_true rfl) dX8_judge_104 ?_
            intro r7
            refine J_icmp_ne 115 G dX8_judge_107 (by decide) ?_ ?_
            · refine J_bipush G dX8_judge_115 (by decide) ?_
              refine J_iload_n G 1 dX8_judge_117 rfl ?_
              refine J_iconst G dX8_judge_118 ?_
              refine J_idivC G dX8_judge_119 (by decide) ?_
              refine J_iadd G dX8_judge_120 ?_
              exact J_iret G dX8_judge_121 rfl
            · refine J_bipush G dX8_judge_110 (by decide) ?_
              refine J_goto 121 G dX8_judge_112 (by decide) ?_
              exact J_iret G dX8_judge_121 rfl
          · intro k102 hk102
            refine J_lv [2, 3, 1, 0] rfl ?_
            exact jBP_judge_L49 G p0 k102 hk102 2000 0 p1 m4
        · refine J_bipush G dX8_judge_37 (by decide) ?_
          exact J_iret G dX8_judge_39 rfl
      · refine J_bipush G dX8_judge_23 (by decide) ?_
        exact J_iret G dX8_judge_25 rfl
    · refine J_iconst G dX8_judge_11 ?_
      exact J_iret G dX8_judge_12 rfl
theorem mX1_layBack (u : jU) (mem : Mem) : jMet u yX1_layBack cX1_layBack 3 none (jRm 2 69) [vR (uB u) 10, vR (uB u) 1] mem EwV (Chg_layBack mem) := by
  refine jMet_of (by decide +kernel) (Nat.le_of_ble_eq_true rfl) (fun x G => ?_)
  show J u x 3 (jQ u x EwV) 0 [(0, vR (uB u) 10), (1, vR (uB u) 1)] [] mem _
  unfold Chg_layBack
  refine J_aload_n G 0 dX1_layBack_0 rfl ?_
  refine J_aload_n G 0 dX1_layBack_1 rfl ?_
  refine J_getI (i := 1) (k := 1) G cls_1 wf_X1_18 kd_10 rfl rfl dX1_layBack_2 ?_
  refine J_jn (fun g => ∀ x1, J u x 3 (jQ u x EwV) 19 [(0, vR (uB u) 10), (1, vR (uB u) 1)] [vI x1, vR (uB u) 10] mem (g x1)) ?_ ?_
  · intro x1
    refine J_putI (i := 1) (k := 1) G cls_1 wf_X1_18 kd_10 rfl rfl rfl rfl dX1_layBack_19 ?_
    refine J_ltM (fun m2 => ?_)
    refine J_aload_n G 0 dX1_layBack_22 rfl ?_
    refine J_aload_n G 0 dX1_layBack_23 rfl ?_
    refine J_getI (i := 0) (k := 0) G cls_1 wf_X1_26 kd_10 rfl rfl dX1_layBack_24 ?_
    refine J_iconst G dX1_layBack_27 ?_
    refine J_isub G dX1_layBack_28 ?_
    refine J_iconst G dX1_layBack_29 ?_
    refine J_imax G wm_X1_35 w_imax1 w_math w_imax2 ⟨by decide, Nat.le_of_ble_eq_true rfl⟩ dX1_layBack_30 ?_
    refine J_putI (i := 0) (k := 0) G cls_1 wf_X1_26 kd_10 rfl rfl rfl rfl dX1_layBack_33 ?_
    refine J_ltM (fun m3 => ?_)
    refine J_aload_n G 0 dX1_layBack_36 rfl ?_
    refine J_getR (d := 11) (k := 2) G cls_1 wf_X1_11 kd_10 rfl rfl dX1_layBack_37 ?_
    refine J_aload_n G 0 dX1_layBack_40 rfl ?_
    refine J_getI (i := 1) (k := 1) G cls_1 wf_X1_18 kd_10 rfl rfl dX1_layBack_41 ?_
    refine J_olds G dX1_layBack_44 (fun q4 hq4 => ?_)
    refine J_astore_n (lv' := [(2, vR (uB u) q4), (0, vR (uB u) 10), (1, vR (uB u) 1)]) G dX1_layBack_45 rfl (by decide) rfl ?_
    refine J_aload_n G 0 dX1_layBack_46 rfl ?_
    refine J_ifnull G dX1_layBack_47 ?_
    refine J_aload_n G 2 dX1_layBack_50 rfl ?_
    refine J_aload_n G 0 dX1_layBack_51 rfl ?_
    refine J_cVwV (As := [vR (uB u) q4]) G (mX0_become u 1 q4 kd_1 hq4 m3) sg_X0_become sv_X0_become wm_X1_22 cls_0 kd_1 rfl ⟨by decide, by decide⟩ rfl rfl (Nat.le_of_ble_eq_true rfl) dX1_layBack_52 ?_
    intro m5
    exact J_vret G dX1_layBack_55 rfl
  · intro k19 hk19
    refine J_if_ne 13 G dX1_layBack_5 (by decide) ?_ ?_
    · refine J_aload_n G 0 dX1_layBack_13 rfl ?_
      refine J_getI (i := 1) (k := 1) G cls_1 wf_X1_18 kd_10 rfl rfl dX1_layBack_14 ?_
      refine J_iconst G dX1_layBack_17 ?_
      refine J_isub G dX1_layBack_18 ?_
      exact hk19 ((mem 10 1) - 1)
    · refine J_bipush G dX1_layBack_8 (by decide) ?_
      refine J_goto 19 G dX1_layBack_10 (by decide) ?_
      exact hk19 9
theorem mX8_undo (u : jU) (mem : Mem) : jMet u yX8_undo cX8_undo 1 (some .int) (jRm 3 91) [vR (uB u) 0] mem EwI (BP_undo mem) := by
  refine jMet_of (by decide +kernel) (Nat.le_of_ble_eq_true rfl) (fun x G => ?_)
  show J u x 1 (jQ u x EwI) 0 [(0, vR (uB u) 0)] [] mem _
  unfold BP_undo
  refine J_aload_n G 0 dX8_undo_0 rfl ?_
  refine J_getR (d := 10) (k := 1) G cls_8 wf_X8_21 kd_0 rfl rfl dX8_undo_1 ?_
  refine J_getI (i := 0) (k := 0) G cls_1 wf_X8_162 kd_10 rfl rfl dX8_undo_4 ?_
  refine J_if_ne 13 G dX8_undo_7 (by decide) ?_ ?_
  · refine J_aload_n G 0 dX8_undo_13 rfl ?_
    refine J_getR (d := 10) (k := 1) G cls_8 wf_X8_21 kd_0 rfl rfl dX8_undo_14 ?_
    refine J_aload_n G 0 dX8_undo_17 rfl ?_
    refine J_getR (d := 1) (k := 0) G cls_8 wf_X8_14 kd_0 rfl rfl dX8_undo_18 ?_
    refine J_cVwV (As := [vR (uB u) 1]) G (mX1_layBack u mem) sg_X1_layBack sv_X1_layBack wm_X8_328 cls_1 kd_10 rfl ⟨by decide, by decide⟩ rfl rfl (Nat.le_of_ble_eq_true rfl) dX8_undo_21 ?_
    intro m1
    refine J_aload_n G 0 dX8_undo_24 rfl ?_
    refine J_getR (d := 10) (k := 1) G cls_8 wf_X8_21 kd_0 rfl rfl dX8_undo_25 ?_
    refine J_getI (i := 0) (k := 0) G cls_1 wf_X8_162 kd_10 rfl rfl dX8_undo_28 ?_
    exact J_iret G dX8_undo_31 rfl
  · refine J_bipush G dX8_undo_10 (by decide) ?_
    exact J_iret G dX8_undo_12 rfl
theorem mX8_image (u : jU) (mem : Mem) : jMet u yX8_image cX8_image 1 (some .int) (jRm 2 69) [vR (uB u) 0] mem EwI (BP_image mem) := by
  refine jMet_of (by decide +kernel) (Nat.le_of_ble_eq_true rfl) (fun x G => ?_)
  show J u x 1 (jQ u x EwI) 0 [(0, vR (uB u) 0)] [] mem _
  unfold BP_image
  refine J_aload_n G 0 dX8_image_0 rfl ?_
  refine J_getR (d := 102) (k := 2) G cls_8 wf_X8_25 kd_0 rfl rfl dX8_image_1 ?_
  refine J_aload_n G 0 dX8_image_4 rfl ?_
  refine J_getR (d := 1) (k := 0) G cls_8 wf_X8_14 kd_0 rfl rfl dX8_image_5 ?_
  refine J_cVwV (As := [vR (uB u) 1]) G (mX0_become u 102 1 kd_102 kd_1 mem) sg_X0_become sv_X0_become wm_X8_290 cls_0 kd_102 rfl ⟨by decide, by decide⟩ rfl rfl (Nat.le_of_ble_eq_true rfl) dX8_image_8 ?_
  intro m1
  refine J_aload_n G 0 dX8_image_11 rfl ?_
  refine J_iconst G dX8_image_12 ?_
  refine J_putZ (i := 3) (k := 3) G cls_8 wf_X8_331 kd_0 rfl rfl rfl rfl (by decide) (by decide) dX8_image_13 ?_
  refine J_ltM (fun m2 => ?_)
  refine J_aload_n G 0 dX8_image_16 rfl ?_
  refine J_getR (d := 1) (k := 0) G cls_8 wf_X8_14 kd_0 rfl rfl dX8_image_17 ?_
  refine J_getI (i := 0) (k := 0) G cls_0 wf_X8_70 kd_1 rfl rfl dX8_image_20 ?_
  exact J_iret G dX8_image_23 rfl
theorem mX8_back (u : jU) (mem : Mem) : jMet u yX8_back cX8_back 1 (some .int) (jRm 2 69) [vR (uB u) 0] mem EwI (BP_back mem) := by
  refine jMet_of (by decide +kernel) (Nat.le_of_ble_eq_true rfl) (fun x G => ?_)
  show J u x 1 (jQ u x EwI) 0 [(0, vR (uB u) 0)] [] mem _
  unfold BP_back
  refine J_aload_n G 0 dX8_back_0 rfl ?_
  refine J_getI (i := 3) (k := 3) G cls_8 wf_X8_331 kd_0 rfl rfl dX8_back_1 ?_
  refine J_if_ne 10 G dX8_back_4 (by decide) ?_ ?_
  · refine J_aload_n G 0 dX8_back_10 rfl ?_
    refine J_getR (d := 1) (k := 0) G cls_8 wf_X8_14 kd_0 rfl rfl dX8_back_11 ?_
    refine J_aload_n G 0 dX8_back_14 rfl ?_
    refine J_getR (d := 102) (k := 2) G cls_8 wf_X8_25 kd_0 rfl rfl dX8_back_15 ?_
    refine J_cVwV (As := [vR (uB u) 102]) G (mX0_become u 1 102 kd_1 kd_102 mem) sg_X0_become sv_X0_become wm_X8_290 cls_0 kd_1 rfl ⟨by decide, by decide⟩ rfl rfl (Nat.le_of_ble_eq_true rfl) dX8_back_18 ?_
    intro m1
    refine J_aload_n G 0 dX8_back_21 rfl ?_
    refine J_getR (d := 10) (k := 1) G cls_8 wf_X8_21 kd_0 rfl rfl dX8_back_22 ?_
    refine J_cVwV (As := []) G (mX1_forget u m1) sg_X1_forget sv_X1_forget wm_X8_78 cls_1 kd_10 rfl ⟨by decide, by decide⟩ rfl rfl (Nat.le_of_ble_eq_true rfl) dX8_back_25 ?_
    intro m2
    refine J_aload_n G 0 dX8_back_28 rfl ?_
    refine J_getR (d := 1) (k := 0) G cls_8 wf_X8_14 kd_0 rfl rfl dX8_back_29 ?_
    refine J_getI (i := 0) (k := 0) G cls_0 wf_X8_70 kd_1 rfl rfl dX8_back_32 ?_
    exact J_iret G dX8_back_35 rfl
  · refine J_bipush G dX8_back_7 (by decide) ?_
    exact J_iret G dX8_back_9 rfl
theorem mX9_in (u : jU) (p0 : Int) (p1 : Int) (p2 : Int) (mem : Mem) : jMet u yX9_in cX9_in 6 (some .boolean) (jRm 0 0) [vL p0, vL p1, vL p2] mem (EpI mem) (Mo_in p0 p1 p2 mem) := by
  refine jMet_of (by decide +kernel) (Nat.le_of_ble_eq_true rfl) (fun x G => ?_)
  show J u x 6 (jQ u x (EpI mem)) 0 [(0, vL p0), (2, vL p1), (4, vL p2)] [] mem _
  unfold Mo_in
  refine J_lload_n G 0 dX9_in_0 rfl ?_
  refine J_lload_n G 1 dX9_in_1 rfl ?_
  refine J_lcmp_lt 17 G dX9_in_2 dX9_in_3 (by decide) ?_ ?_
  · refine J_iconst G dX9_in_17 ?_
    exact J_zret G dX9_in_18 (by decide) rfl
  · refine J_lload_n G 0 dX9_in_6 rfl ?_
    refine J_lload G 2 dX9_in_7 rfl ?_
    refine J_lcmp_gt 17 G dX9_in_9 dX9_in_10 (by decide) ?_ ?_
    · refine J_iconst G dX9_in_17 ?_
      exact J_zret G dX9_in_18 (by decide) rfl
    · refine J_iconst G dX9_in_13 ?_
      refine J_goto 18 G dX9_in_14 (by decide) ?_
      exact J_zret G dX9_in_18 (by decide) rfl
theorem jMo_copies_L2 {u : jU} {x : jX} (G : jG u x cX9_copies RX9 3 none (jRm 0 0)) (b : Nat) (c : Nat) (hb : kd b = 20) (hc : kd c = 20) : ∀ (n : Nat) (i1 : Int) (m2 : Mem), J u x 3 (jQ u x EwV) 2 [(0, vR (uB u) b), (1, vR (uB u) c), (2, vI i1)] [] m2 (Mo_copies_L2 b c n i1 m2) := by
  intro n
  induction n with
  | zero => intro i1 m2; exact J_none
  | succ n ih =>
    intro i1 m2
    rw [Mo_copies_L2]
    refine J_iload_n G 2 dX9_copies_2 rfl ?_
    refine J_bipush G dX9_copies_3 (by decide) ?_
    refine J_icmp_ge 20 G dX9_copies_5 (by decide) ?_ ?_
    · exact J_vret G dX9_copies_20 rfl
    · refine J_aload_n G 1 dX9_copies_8 rfl ?_
      refine J_iload_n G 2 dX9_copies_9 rfl ?_
      refine J_aload_n G 0 dX9_copies_10 rfl ?_
      refine J_iload_n G 2 dX9_copies_11 rfl ?_
      refine J_iald G hb rfl dX9_copies_12 ?_
      refine J_iast G hc rfl dX9_copies_13 ?_
      refine J_ltM (fun m3 => ?_)
      refine J_iinc (lv' := [(2, vI (i1 + 1)), (0, vR (uB u) b), (1, vR (uB u) c)]) G 2 dX9_copies_14 rfl (by decide) rfl ?_
      refine J_goto 2 G dX9_copies_17 (by decide) ?_
      refine J_lv [1, 2, 0] rfl ?_
      exact ih (i1 + 1) m3
theorem mX9_copies (u : jU) (b : Nat) (c : Nat) (hb : kd b = 20) (hc : kd c = 20) (mem : Mem) : jMet u yX9_copies cX9_copies 3 none (jRm 0 0) [vR (uB u) b, vR (uB u) c] mem EwV (Mo_copies b c mem) := by
  refine jMet_of (by decide +kernel) (Nat.le_of_ble_eq_true rfl) (fun x G => ?_)
  show J u x 3 (jQ u x EwV) 0 [(0, vR (uB u) b), (1, vR (uB u) c)] [] mem _
  unfold Mo_copies
  refine J_iconst G dX9_copies_0 ?_
  refine J_istore_n (lv' := [(2, vI 0), (0, vR (uB u) b), (1, vR (uB u) c)]) G dX9_copies_1 rfl (by decide) rfl ?_
  refine J_lv [1, 2, 0] rfl ?_
  exact jMo_copies_L2 G b c hb hc 2000 0 mem
theorem jMo_changes_L51 {u : jU} {x : jX} (G : jG u x cX9_changes RX9 2 none (jRm 0 0)) (k83 : Mem → Option Mem) (hk83 : (fun g => ∀ m2, J u x 2 (jQ u x EwV) 83 [(0, vR (uB u) 149)] [] m2 (g m2)) k83) : ∀ (n : Nat) (i4 : Int) (m5 : Mem), J u x 2 (jQ u x EwV) 51 [(0, vR (uB u) 149), (1, vI i4)] [] m5 (Mo_changes_L51 k83 n i4 m5) := by
  intro n
  induction n with
  | zero => intro i4 m5; exact J_none
  | succ n ih =>
    intro i4 m5
    rw [Mo_changes_L51]
    refine J_iload_n G 1 dX9_changes_51 rfl ?_
    refine J_bipush G dX9_changes_52 (by decide) ?_
    refine J_icmp_ge 83 G dX9_changes_54 (by decide) ?_ ?_
    · refine J_lv [0] rfl ?_
      exact hk83 m5
    · refine J_aload_n G 0 dX9_changes_57 rfl ?_
      refine J_getR (d := 152) (k := 3) G cls_9 wf_X9_18 kd_149 rfl rfl dX9_changes_58 ?_
      refine J_aload_n G 0 dX9_changes_61 rfl ?_
      refine J_getI (i := 4) (k := 4) G cls_9 wf_X9_78 kd_149 rfl rfl dX9_changes_62 ?_
      refine J_bipush G dX9_changes_65 (by decide) ?_
      refine J_imul G dX9_changes_67 ?_
      refine J_iload_n G 1 dX9_changes_68 rfl ?_
      refine J_iadd G dX9_changes_69 ?_
      refine J_aload_n G 0 dX9_changes_70 rfl ?_
      refine J_getR (d := 150) (k := 0) G cls_9 wf_X9_11 kd_149 rfl rfl dX9_changes_71 ?_
      refine J_iload_n G 1 dX9_changes_74 rfl ?_
      refine J_iald G kd_150 ln_150 dX9_changes_75 ?_
      refine J_iast G kd_152 ln_152 dX9_changes_76 ?_
      refine J_ltM (fun m6 => ?_)
      refine J_iinc (lv' := [(1, vI (i4 + 1)), (0, vR (uB u) 149)]) G 1 dX9_changes_77 rfl (by decide) rfl ?_
      refine J_goto 51 G dX9_changes_80 (by decide) ?_
      refine J_lv [1, 0] rfl ?_
      exact ih (i4 + 1) m6
theorem jMo_changes_L11 {u : jU} {x : jX} (G : jG u x cX9_changes RX9 2 none (jRm 0 0)) (k39 : Mem → Option Mem) (hk39 : (fun g => ∀ m7, J u x 2 (jQ u x EwV) 39 [(0, vR (uB u) 149)] [] m7 (g m7)) k39) : ∀ (n : Nat) (i9 : Int) (m10 : Mem), J u x 2 (jQ u x EwV) 11 [(0, vR (uB u) 149), (1, vI i9)] [] m10 (Mo_changes_L11 k39 n i9 m10) := by
  intro n
  induction n with
  | zero => intro i9 m10; exact J_none
  | succ n ih =>
    intro i9 m10
    rw [Mo_changes_L11]
    refine J_iload_n G 1 dX9_changes_11 rfl ?_
    refine J_sipush G dX9_changes_12 (by decide) ?_
    refine J_icmp_ge 39 G dX9_changes_15 (by decide) ?_ ?_
    · refine J_lv [0] rfl ?_
      exact hk39 m10
    · refine J_aload_n G 0 dX9_changes_18 rfl ?_
      refine J_getR (d := 152) (k := 3) G cls_9 wf_X9_18 kd_149 rfl rfl dX9_changes_19 ?_
      refine J_iload_n G 1 dX9_changes_22 rfl ?_
      refine J_aload_n G 0 dX9_changes_23 rfl ?_
      refine J_getR (d := 152) (k := 3) G cls_9 wf_X9_18 kd_149 rfl rfl dX9_changes_24 ?_
      refine J_iload_n G 1 dX9_changes_27 rfl ?_
      refine J_bipush G dX9_changes_28 (by decide) ?_
      refine J_iadd G dX9_changes_30 ?_
      refine J_iald G kd_152 ln_152 dX9_changes_31 ?_
      refine J_iast G kd_152 ln_152 dX9_changes_32 ?_
      refine J_ltM (fun m11 => ?_)
      refine J_iinc (lv' := [(1, vI (i9 + 1)), (0, vR (uB u) 149)]) G 1 dX9_changes_33 rfl (by decide) rfl ?_
      refine J_goto 11 G dX9_changes_36 (by decide) ?_
      refine J_lv [1, 0] rfl ?_
      exact ih (i9 + 1) m11
theorem mX9_changes (u : jU) (mem : Mem) : jMet u yX9_changes cX9_changes 2 none (jRm 0 0) [vR (uB u) 149] mem EwV (Mo_changes mem) := by
  refine jMet_of (by decide +kernel) (Nat.le_of_ble_eq_true rfl) (fun x G => ?_)
  show J u x 2 (jQ u x EwV) 0 [(0, vR (uB u) 149)] [] mem _
  unfold Mo_changes
  refine J_aload_n G 0 dX9_changes_0 rfl ?_
  refine J_getI (i := 4) (k := 4) G cls_9 wf_X9_78 kd_149 rfl rfl dX9_changes_1 ?_
  refine J_bipush G dX9_changes_4 (by decide) ?_
  refine J_jn (fun g => ∀ m1, J u x 2 (jQ u x EwV) 49 [(0, vR (uB u) 149)] [] m1 (g m1)) ?_ ?_
  · intro m1
    refine J_iconst G dX9_changes_49 ?_
    refine J_istore_n (lv' := [(1, vI 0), (0, vR (uB u) 149)]) G dX9_changes_50 rfl (by decide) rfl ?_
    refine J_jn (fun g => ∀ m2, J u x 2 (jQ u x EwV) 83 [(0, vR (uB u) 149)] [] m2 (g m2)) ?_ ?_
    · intro m2
      refine J_aload_n G 0 dX9_changes_83 rfl ?_
      refine J_dup G dX9_changes_84 rfl ?_
      refine J_getI (i := 4) (k := 4) G cls_9 wf_X9_78 kd_149 rfl rfl dX9_changes_85 ?_
      refine J_iconst G dX9_changes_88 ?_
      refine J_iadd G dX9_changes_89 ?_
      refine J_putI (i := 4) (k := 4) G cls_9 wf_X9_78 kd_149 rfl rfl rfl rfl dX9_changes_90 ?_
      refine J_ltM (fun m3 => ?_)
      exact J_vret G dX9_changes_93 rfl
    · intro k83 hk83
      refine J_lv [1, 0] rfl ?_
      exact jMo_changes_L51 G k83 hk83 2000 0 m1
  · intro k49 hk49
    refine J_icmp_ne 49 G dX9_changes_6 (by decide) ?_ ?_
    · exact hk49 mem
    · refine J_iconst G dX9_changes_9 ?_
      refine J_istore_n (lv' := [(1, vI 0), (0, vR (uB u) 149)]) G dX9_changes_10 rfl (by decide) rfl ?_
      refine J_jn (fun g => ∀ m7, J u x 2 (jQ u x EwV) 39 [(0, vR (uB u) 149)] [] m7 (g m7)) ?_ ?_
      · intro m7
        refine J_aload_n G 0 dX9_changes_39 rfl ?_
        refine J_dup G dX9_changes_40 rfl ?_
        refine J_getI (i := 4) (k := 4) G cls_9 wf_X9_78 kd_149 rfl rfl dX9_changes_41 ?_
        refine J_iconst G dX9_changes_44 ?_
        refine J_isub G dX9_changes_45 ?_
        refine J_putI (i := 4) (k := 4) G cls_9 wf_X9_78 kd_149 rfl rfl rfl rfl dX9_changes_46 ?_
        refine J_ltM (fun m8 => ?_)
        exact hk49 m8
      · intro k39 hk39
        refine J_lv [1, 0] rfl ?_
        exact jMo_changes_L11 G k39 hk39 2000 0 mem
theorem mX9_isPlace (u : jU) (p0 : Int) (mem : Mem) : jMet u yX9_isPlace cX9_isPlace 2 (some .boolean) (jRm 1 25) [vR (uB u) 149, vI p0] mem (EpI mem) (Mo_isPlace p0 mem) := by
  refine jMet_of (by decide +kernel) (Nat.le_of_ble_eq_true rfl) (fun x G => ?_)
  show J u x 2 (jQ u x (EpI mem)) 0 [(0, vR (uB u) 149), (1, vI p0)] [] mem _
  unfold Mo_isPlace
  refine J_iload_n G 1 dX9_isPlace_0 rfl ?_
  refine J_i2l G dX9_isPlace_1 ?_
  refine J_lconst (v := 0) G dX9_isPlace_2 (by decide) ?_
  refine J_aload_n G 0 dX9_isPlace_3 rfl ?_
  refine J_getR (d := 150) (k := 0) G cls_9 wf_X9_11 kd_149 rfl rfl dX9_isPlace_4 ?_
  refine J_iconst G dX9_isPlace_7 ?_
  refine J_ialdC G kd_150 ln_150 (by decide) dX9_isPlace_8 ?_
  refine J_i2l G dX9_isPlace_9 ?_
  refine J_cSpI (As := [vL (s32 p0), vL 0, vL (s32 (mem 150 0))]) G (mX9_in u (s32 p0) 0 (s32 (mem 150 0)) mem) sg_X9_in ss_X9_in wm_X9_82 ⟨by decide, by decide⟩ rfl rfl (Nat.le_of_ble_eq_true rfl) dX9_isPlace_10 ?_
  intro r1
  exact J_zretB G dX9_isPlace_13 rfl
theorem mX9_isSupport (u : jU) (p0 : Int) (mem : Mem) : jMet u yX9_isSupport cX9_isSupport 2 (some .boolean) (jRm 1 25) [vR (uB u) 149, vI p0] mem (EpI mem) (Mo_isSupport p0 mem) := by
  refine jMet_of (by decide +kernel) (Nat.le_of_ble_eq_true rfl) (fun x G => ?_)
  show J u x 2 (jQ u x (EpI mem)) 0 [(0, vR (uB u) 149), (1, vI p0)] [] mem _
  unfold Mo_isSupport
  refine J_iload_n G 1 dX9_isSupport_0 rfl ?_
  refine J_i2l G dX9_isSupport_1 ?_
  refine J_lconst (v := 0) G dX9_isSupport_2 (by decide) ?_
  refine J_aload_n G 0 dX9_isSupport_3 rfl ?_
  refine J_getR (d := 150) (k := 0) G cls_9 wf_X9_11 kd_149 rfl rfl dX9_isSupport_4 ?_
  refine J_iconst G dX9_isSupport_7 ?_
  refine J_ialdC G kd_150 ln_150 (by decide) dX9_isSupport_8 ?_
  refine J_iconst G dX9_isSupport_9 ?_
  refine J_isub G dX9_isSupport_10 ?_
  refine J_i2l G dX9_isSupport_11 ?_
  refine J_cSpI (As := [vL (s32 p0), vL 0, vL (s32 ((mem 150 1) - 1))]) G (mX9_in u (s32 p0) 0 (s32 ((mem 150 1) - 1)) mem) sg_X9_in ss_X9_in wm_X9_82 ⟨by decide, by decide⟩ rfl rfl (Nat.le_of_ble_eq_true rfl) dX9_isSupport_12 ?_
  intro r1
  exact J_zretB G dX9_isSupport_15 rfl
theorem mX9_isLoad (u : jU) (p0 : Int) (mem : Mem) : jMet u yX9_isLoad cX9_isLoad 2 (some .boolean) (jRm 1 25) [vR (uB u) 149, vI p0] mem (EpI mem) (Mo_isLoad p0 mem) := by
  refine jMet_of (by decide +kernel) (Nat.le_of_ble_eq_true rfl) (fun x G => ?_)
  show J u x 2 (jQ u x (EpI mem)) 0 [(0, vR (uB u) 149), (1, vI p0)] [] mem _
  unfold Mo_isLoad
  refine J_iload_n G 1 dX9_isLoad_0 rfl ?_
  refine J_i2l G dX9_isLoad_1 ?_
  refine J_lconst (v := 0) G dX9_isLoad_2 (by decide) ?_
  refine J_aload_n G 0 dX9_isLoad_3 rfl ?_
  refine J_getR (d := 150) (k := 0) G cls_9 wf_X9_11 kd_149 rfl rfl dX9_isLoad_4 ?_
  refine J_bipush G dX9_isLoad_7 (by decide) ?_
  refine J_ialdC G kd_150 ln_150 (by decide) dX9_isLoad_9 ?_
  refine J_iconst G dX9_isLoad_10 ?_
  refine J_isub G dX9_isLoad_11 ?_
  refine J_i2l G dX9_isLoad_12 ?_
  refine J_cSpI (As := [vL (s32 p0), vL 0, vL (s32 ((mem 150 10) - 1))]) G (mX9_in u (s32 p0) 0 (s32 ((mem 150 10) - 1)) mem) sg_X9_in ss_X9_in wm_X9_82 ⟨by decide, by decide⟩ rfl rfl (Nat.le_of_ble_eq_true rfl) dX9_isLoad_13 ?_
  intro r1
  exact J_zretB G dX9_isLoad_16 rfl
theorem jMo_supportAt_L2 {u : jU} {x : jX} (G : jG u x cX9_supportAt RX9 3 (some .int) (jRm 0 0)) (p0 : Int) (mem : Mem) : ∀ (n : Nat) (i1 : Int), J u x 3 (jQ u x (EpI mem)) 2 [(0, vR (uB u) 149), (1, vI p0), (2, vI i1)] [] mem (Mo_supportAt_L2 p0 mem n i1) := by
  intro n
  induction n with
  | zero => intro i1; exact J_none
  | succ n ih =>
    intro i1
    rw [Mo_supportAt_L2]
    refine J_iload_n G 2 dX9_supportAt_2 rfl ?_
    refine J_aload_n G 0 dX9_supportAt_3 rfl ?_
    refine J_getR (d := 150) (k := 0) G cls_9 wf_X9_11 kd_149 rfl rfl dX9_supportAt_4 ?_
    refine J_iconst G dX9_supportAt_7 ?_
    refine J_ialdC G kd_150 ln_150 (by decide) dX9_supportAt_8 ?_
    refine J_icmp_ge 32 G dX9_supportAt_9 (by decide) ?_ ?_
    · refine J_iconst G dX9_supportAt_32 ?_
      exact J_iret G dX9_supportAt_33 rfl
    · refine J_aload_n G 0 dX9_supportAt_12 rfl ?_
      refine J_getR (d := 150) (k := 0) G cls_9 wf_X9_11 kd_149 rfl rfl dX9_supportAt_13 ?_
      refine J_iconst G dX9_supportAt_16 ?_
      refine J_iload_n G 2 dX9_supportAt_17 rfl ?_
      refine J_iadd G dX9_supportAt_18 ?_
      refine J_iald G kd_150 ln_150 dX9_supportAt_19 ?_
      refine J_iload_n G 1 dX9_supportAt_20 rfl ?_
      refine J_icmp_ne 26 G dX9_supportAt_21 (by decide) ?_ ?_
      · refine J_iinc (lv' := [(2, vI (i1 + 1)), (0, vR (uB u) 149), (1, vI p0)]) G 2 dX9_supportAt_26 rfl (by decide) rfl ?_
        refine J_goto 2 G dX9_supportAt_29 (by decide) ?_
        refine J_lv [1, 2, 0] rfl ?_
        exact ih (i1 + 1)
      · refine J_iload_n G 2 dX9_supportAt_24 rfl ?_
        exact J_iret G dX9_supportAt_25 rfl
theorem mX9_supportAt (u : jU) (p0 : Int) (mem : Mem) : jMet u yX9_supportAt cX9_supportAt 3 (some .int) (jRm 0 0) [vR (uB u) 149, vI p0] mem (EpI mem) (Mo_supportAt p0 mem) := by
  refine jMet_of (by decide +kernel) (Nat.le_of_ble_eq_true rfl) (fun x G => ?_)
  show J u x 3 (jQ u x (EpI mem)) 0 [(0, vR (uB u) 149), (1, vI p0)] [] mem _
  unfold Mo_supportAt
  refine J_iconst G dX9_supportAt_0 ?_
  refine J_istore_n (lv' := [(2, vI 0), (0, vR (uB u) 149), (1, vI p0)]) G dX9_supportAt_1 rfl (by decide) rfl ?_
  refine J_lv [1, 2, 0] rfl ?_
  exact jMo_supportAt_L2 G p0 mem 2000 0
theorem jMo_beam_L25 {u : jU} {x : jX} (G : jG u x cX9_beam RX9 4 (some .int) (jRm 1 25)) (p0 : Int) (x2 : Int) (k44 : Mem → Option (Int × Mem)) (hk44 : (fun g => ∀ m3, J u x 4 (jQ u x EwI) 44 [(0, vR (uB u) 149), (1, vI p0), (2, vI x2)] [] m3 (g m3)) k44) : ∀ (n : Nat) (i6 : Int) (m7 : Mem), J u x 4 (jQ u x EwI) 25 [(0, vR (uB u) 149), (1, vI p0), (2, vI x2), (3, vI i6)] [] m7 (Mo_beam_L25 k44 n i6 m7) := by
  intro n
  induction n with
  | zero => intro i6 m7; exact J_none
  | succ n ih =>
    intro i6 m7
    rw [Mo_beam_L25]
    refine J_iload_n G 3 dX9_beam_25 rfl ?_
    refine J_bipush G dX9_beam_26 (by decide) ?_
    refine J_icmp_ge 44 G dX9_beam_28 (by decide) ?_ ?_
    · refine J_lv [0, 1, 2] rfl ?_
      exact hk44 m7
    · refine J_aload_n G 0 dX9_beam_31 rfl ?_
      refine J_getR (d := 150) (k := 0) G cls_9 wf_X9_11 kd_149 rfl rfl dX9_beam_32 ?_
      refine J_iload_n G 3 dX9_beam_35 rfl ?_
      refine J_iconst G dX9_beam_36 ?_
      refine J_iast G kd_150 ln_150 dX9_beam_37 ?_
      refine J_ltM (fun m8 => ?_)
      refine J_iinc (lv' := [(3, vI (i6 + 1)), (0, vR (uB u) 149), (1, vI p0), (2, vI x2)]) G 3 dX9_beam_38 rfl (by decide) rfl ?_
      refine J_goto 25 G dX9_beam_41 (by decide) ?_
      refine J_lv [1, 2, 3, 0] rfl ?_
      exact ih (i6 + 1) m8
theorem mX9_beam (u : jU) (p0 : Int) (mem : Mem) : jMet u yX9_beam cX9_beam 4 (some .int) (jRm 1 25) [vR (uB u) 149, vI p0] mem EwI (Mo_beam p0 mem) := by
  refine jMet_of (by decide +kernel) (Nat.le_of_ble_eq_true rfl) (fun x G => ?_)
  show J u x 4 (jQ u x EwI) 0 [(0, vR (uB u) 149), (1, vI p0)] [] mem _
  unfold Mo_beam
  refine J_iload_n G 1 dX9_beam_0 rfl ?_
  refine J_i2l G dX9_beam_1 ?_
  refine J_ldc2 (v := 2) G dX9_beam_2 wc_X9_86 (by decide) ?_
  refine J_ldc2 (v := 10) G dX9_beam_5 wc_X9_88 (by decide) ?_
  refine J_cSpI (As := [vL (s32 p0), vL 2, vL 10]) G (mX9_in u (s32 p0) 2 10 mem) sg_X9_in ss_X9_in wm_X9_82 ⟨by decide, by decide⟩ rfl rfl (Nat.le_of_ble_eq_true rfl) dX9_beam_8 ?_
  intro r1
  refine J_if_ne 16 G dX9_beam_11 (by decide) ?_ ?_
  · refine J_aload_n G 0 dX9_beam_16 rfl ?_
    refine J_getR (d := 150) (k := 0) G cls_9 wf_X9_11 kd_149 rfl rfl dX9_beam_17 ?_
    refine J_iconst G dX9_beam_20 ?_
    refine J_ialdC G kd_150 ln_150 (by decide) dX9_beam_21 ?_
    refine J_ltI (fun x2 => ?_)
    refine J_istore_n (lv' := [(2, vI x2), (0, vR (uB u) 149), (1, vI p0)]) G dX9_beam_22 rfl (by decide) rfl ?_
    refine J_iconst G dX9_beam_23 ?_
    refine J_istore_n (lv' := [(3, vI 0), (2, vI x2), (0, vR (uB u) 149), (1, vI p0)]) G dX9_beam_24 rfl (by decide) rfl ?_
    refine J_jn (fun g => ∀ m3, J u x 4 (jQ u x EwI) 44 [(0, vR (uB u) 149), (1, vI p0), (2, vI x2)] [] m3 (g m3)) ?_ ?_
    · intro m3
      refine J_aload_n G 0 dX9_beam_44 rfl ?_
      refine J_getR (d := 150) (k := 0) G cls_9 wf_X9_11 kd_149 rfl rfl dX9_beam_45 ?_
      refine J_iconst G dX9_beam_48 ?_
      refine J_iload_n G 1 dX9_beam_49 rfl ?_
      refine J_iastC G kd_150 ln_150 (by decide) dX9_beam_50 ?_
      refine J_ltM (fun m4 => ?_)
      refine J_aload_n G 0 dX9_beam_51 rfl ?_
      refine J_iconst G dX9_beam_52 ?_
      refine J_putI (i := 4) (k := 4) G cls_9 wf_X9_78 kd_149 rfl rfl rfl rfl dX9_beam_53 ?_
      refine J_ltM (fun m5 => ?_)
      refine J_iload_n G 2 dX9_beam_56 rfl ?_
      exact J_iret G dX9_beam_57 rfl
    · intro k44 hk44
      refine J_lv [2, 3, 1, 0] rfl ?_
      exact jMo_beam_L25 G p0 x2 k44 hk44 2000 0 mem
  · refine J_iconst G dX9_beam_14 ?_
    exact J_iret G dX9_beam_15 rfl
theorem jMo_support_L45 {u : jU} {x : jX} (G : jG u x cX9_support RX9 3 (some .int) (jRm 2 46)) (p0 : Int) (k107 : Int → Mem → Option (Int × Mem)) (hk107 : (fun g => ∀ x5 m6, J u x 3 (jQ u x EwI) 107 [(0, vR (uB u) 149), (1, vI p0), (2, vI x5)] [] m6 (g x5 m6)) k107) : ∀ (n : Nat) (i10 : Int) (m11 : Mem), J u x 3 (jQ u x EwI) 45 [(0, vR (uB u) 149), (1, vI p0), (2, vI i10)] [] m11 (Mo_support_L45 p0 k107 n i10 m11) := by
  intro n
  induction n with
  | zero => intro i10 m11; exact J_none
  | succ n ih =>
    intro i10 m11
    rw [Mo_support_L45]
    refine J_iload_n G 2 dX9_support_45 rfl ?_
    refine J_if_le 107 G dX9_support_46 (by decide) ?_ ?_
    · exact hk107 i10 m11
    · refine J_aload_n G 0 dX9_support_49 rfl ?_
      refine J_getR (d := 150) (k := 0) G cls_9 wf_X9_11 kd_149 rfl rfl dX9_support_50 ?_
      refine J_iconst G dX9_support_53 ?_
      refine J_iload_n G 2 dX9_support_54 rfl ?_
      refine J_iadd G dX9_support_55 ?_
      refine J_iconst G dX9_support_56 ?_
      refine J_isub G dX9_support_57 ?_
      refine J_iald G kd_150 ln_150 dX9_support_58 ?_
      refine J_iload_n G 1 dX9_support_59 rfl ?_
      refine J_icmp_le 107 G dX9_support_60 (by decide) ?_ ?_
      · exact hk107 i10 m11
      · refine J_aload_n G 0 dX9_support_63 rfl ?_
        refine J_getR (d := 150) (k := 0) G cls_9 wf_X9_11 kd_149 rfl rfl dX9_support_64 ?_
        refine J_iconst G dX9_support_67 ?_
        refine J_iload_n G 2 dX9_support_68 rfl ?_
        refine J_iadd G dX9_support_69 ?_
        refine J_aload_n G 0 dX9_support_70 rfl ?_
        refine J_getR (d := 150) (k := 0) G cls_9 wf_X9_11 kd_149 rfl rfl dX9_support_71 ?_
        refine J_iconst G dX9_support_74 ?_
        refine J_iload_n G 2 dX9_support_75 rfl ?_
        refine J_iadd G dX9_support_76 ?_
        refine J_iconst G dX9_support_77 ?_
        refine J_isub G dX9_support_78 ?_
        refine J_iald G kd_150 ln_150 dX9_support_79 ?_
        refine J_iast G kd_150 ln_150 dX9_support_80 ?_
        refine J_ltM (fun m12 => ?_)
        refine J_aload_n G 0 dX9_support_81 rfl ?_
        refine J_getR (d := 150) (k := 0) G cls_9 wf_X9_11 kd_149 rfl rfl dX9_support_82 ?_
        refine J_bipush G dX9_support_85 (by decide) ?_
        refine J_iload_n G 2 dX9_support_87 rfl ?_
        refine J_iadd G dX9_support_88 ?_
        refine J_aload_n G 0 dX9_support_89 rfl ?_
        refine J_getR (d := 150) (k := 0) G cls_9 wf_X9_11 kd_149 rfl rfl dX9_support_90 ?_
        refine J_bipush G dX9_support_93 (by decide) ?_
        refine J_iload_n G 2 dX9_support_95 rfl ?_
        refine J_iadd G dX9_support_96 ?_
        refine J_iconst G dX9_support_97 ?_
        refine J_isub G dX9_support_98 ?_
        refine J_iald G kd_150 ln_150 dX9_support_99 ?_
        refine J_iast G kd_150 ln_150 dX9_support_100 ?_
        refine J_ltM (fun m13 => ?_)
        refine J_iinc (lv' := [(2, vI (i10 + -1)), (0, vR (uB u) 149), (1, vI p0)]) G 2 dX9_support_101 rfl (by decide) rfl ?_
        refine J_goto 45 G dX9_support_104 (by decide) ?_
        refine J_lv [1, 2, 0] rfl ?_
        exact ih (i10 + -1) m13
theorem mX9_support (u : jU) (p0 : Int) (mem : Mem) : jMet u yX9_support cX9_support 3 (some .int) (jRm 2 46) [vR (uB u) 149, vI p0] mem EwI (Mo_support p0 mem) := by
  refine jMet_of (by decide +kernel) (Nat.le_of_ble_eq_true rfl) (fun x G => ?_)
  show J u x 3 (jQ u x EwI) 0 [(0, vR (uB u) 149), (1, vI p0)] [] mem _
  unfold Mo_support
  refine J_aload_n G 0 dX9_support_0 rfl ?_
  refine J_iload_n G 1 dX9_support_1 rfl ?_
  refine J_cVpI (As := [vI p0]) G (mX9_isPlace u p0 mem) sg_X9_isPlace sv_X9_isPlace wm_X9_90 cls_9 kd_149 rfl ⟨by decide, by decide⟩ rfl rfl (Nat.le_of_ble_eq_true rfl) dX9_support_2 ?_
  intro r1
  refine J_if_ne 10 G dX9_support_5 (by decide) ?_ ?_
  · refine J_aload_n G 0 dX9_support_10 rfl ?_
    refine J_iload_n G 1 dX9_support_11 rfl ?_
    refine J_cVpI (As := [vI p0]) G (mX9_supportAt u p0 mem) sg_X9_supportAt sv_X9_supportAt wm_X9_94 cls_9 kd_149 rfl ⟨by decide, by decide⟩ rfl rfl (Nat.le_of_ble_eq_true rfl) dX9_support_12 ?_
    intro r2
    refine J_if_lt 21 G dX9_support_15 (by decide) ?_ ?_
    · refine J_aload_n G 0 dX9_support_21 rfl ?_
      refine J_getR (d := 150) (k := 0) G cls_9 wf_X9_11 kd_149 rfl rfl dX9_support_22 ?_
      refine J_iconst G dX9_support_25 ?_
      refine J_ialdC G kd_150 ln_150 (by decide) dX9_support_26 ?_
      refine J_iconst G dX9_support_27 ?_
      refine J_icmp_ne 34 G dX9_support_28 (by decide) ?_ ?_
      · refine J_aload_n G 0 dX9_support_34 rfl ?_
        refine J_cVwV (As := []) G (mX9_changes u mem) sg_X9_changes sv_X9_changes wm_X9_98 cls_9 kd_149 rfl ⟨by decide, by decide⟩ rfl rfl (Nat.le_of_ble_eq_true rfl) dX9_support_35 ?_
        intro m3
        refine J_aload_n G 0 dX9_support_38 rfl ?_
        refine J_getR (d := 150) (k := 0) G cls_9 wf_X9_11 kd_149 rfl rfl dX9_support_39 ?_
        refine J_iconst G dX9_support_42 ?_
        refine J_ialdC G kd_150 ln_150 (by decide) dX9_support_43 ?_
        refine J_ltI (fun x4 => ?_)
        refine J_istore_n (lv' := [(2, vI x4), (0, vR (uB u) 149), (1, vI p0)]) G dX9_support_44 rfl (by decide) rfl ?_
        refine J_jn (fun g => ∀ x5 m6, J u x 3 (jQ u x EwI) 107 [(0, vR (uB u) 149), (1, vI p0), (2, vI x5)] [] m6 (g x5 m6)) ?_ ?_
        · intro x5 m6
          refine J_aload_n G 0 dX9_support_107 rfl ?_
          refine J_getR (d := 150) (k := 0) G cls_9 wf_X9_11 kd_149 rfl rfl dX9_support_108 ?_
          refine J_iconst G dX9_support_111 ?_
          refine J_iload_n G 2 dX9_support_112 rfl ?_
          refine J_iadd G dX9_support_113 ?_
          refine J_iload_n G 1 dX9_support_114 rfl ?_
          refine J_iast G kd_150 ln_150 dX9_support_115 ?_
          refine J_ltM (fun m7 => ?_)
          refine J_aload_n G 0 dX9_support_116 rfl ?_
          refine J_getR (d := 150) (k := 0) G cls_9 wf_X9_11 kd_149 rfl rfl dX9_support_117 ?_
          refine J_bipush G dX9_support_120 (by decide) ?_
          refine J_iload_n G 2 dX9_support_122 rfl ?_
          refine J_iadd G dX9_support_123 ?_
          refine J_iconst G dX9_support_124 ?_
          refine J_iast G kd_150 ln_150 dX9_support_125 ?_
          refine J_ltM (fun m8 => ?_)
          refine J_aload_n G 0 dX9_support_126 rfl ?_
          refine J_getR (d := 150) (k := 0) G cls_9 wf_X9_11 kd_149 rfl rfl dX9_support_127 ?_
          refine J_iconst G dX9_support_130 ?_
          refine J_dup2 G dX9_support_131 rfl rfl ?_
          refine J_ialdC G kd_150 ln_150 (by decide) dX9_support_132 ?_
          refine J_iconst G dX9_support_133 ?_
          refine J_iadd G dX9_support_134 ?_
          refine J_iastC G kd_150 ln_150 (by decide) dX9_support_135 ?_
          refine J_ltM (fun m9 => ?_)
          refine J_iload_n G 2 dX9_support_136 rfl ?_
          exact J_iret G dX9_support_137 rfl
        · intro k107 hk107
          refine J_lv [1, 2, 0] rfl ?_
          exact jMo_support_L45 G p0 k107 hk107 2000 x4 m3
      · refine J_bipush G dX9_support_31 (by decide) ?_
        exact J_iret G dX9_support_33 rfl
    · refine J_bipush G dX9_support_18 (by decide) ?_
      exact J_iret G dX9_support_20 rfl
  · refine J_iconst G dX9_support_8 ?_
    exact J_iret G dX9_support_9 rfl
theorem jMo_drop_L39 {u : jU} {x : jX} (G : jG u x cX9_drop RX9 4 (some .int) (jRm 2 46)) : ∀ (n : Nat) (i5 : Int) (m6 : Mem), J u x 4 (jQ u x EwI) 39 [(0, vR (uB u) 149), (3, vI i5)] [] m6 (Mo_drop_L39 n i5 m6) := by
  intro n
  induction n with
  | zero => intro i5 m6; exact J_none
  | succ n ih =>
    intro i5 m6
    rw [Mo_drop_L39]
    refine J_iload_n G 1 dX9_drop_39 rfl ?_
    refine J_aload_n G 0 dX9_drop_40 rfl ?_
    refine J_getR (d := 150) (k := 0) G cls_9 wf_X9_11 kd_149 rfl rfl dX9_drop_41 ?_
    refine J_iconst G dX9_drop_44 ?_
    refine J_ialdC G kd_150 ln_150 (by decide) dX9_drop_45 ?_
    refine J_icmp_ge 93 G dX9_drop_46 (by decide) ?_ ?_
    · refine J_aload_n G 0 dX9_drop_93 rfl ?_
      refine J_getR (d := 150) (k := 0) G cls_9 wf_X9_11 kd_149 rfl rfl dX9_drop_94 ?_
      refine J_iconst G dX9_drop_97 ?_
      refine J_ialdC G kd_150 ln_150 (by decide) dX9_drop_98 ?_
      exact J_iret G dX9_drop_99 rfl
    · refine J_aload_n G 0 dX9_drop_49 rfl ?_
      refine J_getR (d := 150) (k := 0) G cls_9 wf_X9_11 kd_149 rfl rfl dX9_drop_50 ?_
      refine J_iconst G dX9_drop_53 ?_
      refine J_iload_n G 1 dX9_drop_54 rfl ?_
      refine J_iadd G dX9_drop_55 ?_
      refine J_aload_n G 0 dX9_drop_56 rfl ?_
      refine J_getR (d := 150) (k := 0) G cls_9 wf_X9_11 kd_149 rfl rfl dX9_drop_57 ?_
      refine J_iconst G dX9_drop_60 ?_
      refine J_iload_n G 1 dX9_drop_61 rfl ?_
      refine J_iadd G dX9_drop_62 ?_
      refine J_iconst G dX9_drop_63 ?_
      refine J_iadd G dX9_drop_64 ?_
      refine J_iald G kd_150 ln_150 dX9_drop_65 ?_
      refine J_iast G kd_150 ln_150 dX9_drop_66 ?_
      refine J_ltM (fun m7 => ?_)
      refine J_aload_n G 0 dX9_drop_67 rfl ?_
      refine J_getR (d := 150) (k := 0) G cls_9 wf_X9_11 kd_149 rfl rfl dX9_drop_68 ?_
      refine J_bipush G dX9_drop_71 (by decide) ?_
      refine J_iload_n G 1 dX9_drop_73 rfl ?_
      refine J_iadd G dX9_drop_74 ?_
      refine J_aload_n G 0 dX9_drop_75 rfl ?_
      refine J_getR (d := 150) (k := 0) G cls_9 wf_X9_11 kd_149 rfl rfl dX9_drop_76 ?_
      refine J_bipush G dX9_drop_79 (by decide) ?_
      refine J_iload_n G 1 dX9_drop_81 rfl ?_
      refine J_iadd G dX9_drop_82 ?_
      refine J_iconst G dX9_drop_83 ?_
      refine J_iadd G dX9_drop_84 ?_
      refine J_iald G kd_150 ln_150 dX9_drop_85 ?_
      refine J_iast G kd_150 ln_150 dX9_drop_86 ?_
      refine J_ltM (fun m8 => ?_)
      refine J_iinc (lv' := [(3, vI (i5 + 1)), (0, vR (uB u) 149)]) G 1 dX9_drop_87 rfl (by decide) rfl ?_
      refine J_goto 39 G dX9_drop_90 (by decide) ?_
      refine J_lv [1, 0] rfl ?_
      exact ih (i5 + 1) m8
theorem mX9_drop (u : jU) (p0 : Int) (mem : Mem) : jMet u yX9_drop cX9_drop 4 (some .int) (jRm 2 46) [vR (uB u) 149, vI p0] mem EwI (Mo_drop p0 mem) := by
  refine jMet_of (by decide +kernel) (Nat.le_of_ble_eq_true rfl) (fun x G => ?_)
  show J u x 4 (jQ u x EwI) 0 [(0, vR (uB u) 149), (1, vI p0)] [] mem _
  unfold Mo_drop
  refine J_aload_n G 0 dX9_drop_0 rfl ?_
  refine J_iload_n G 1 dX9_drop_1 rfl ?_
  refine J_cVpI (As := [vI p0]) G (mX9_isPlace u p0 mem) sg_X9_isPlace sv_X9_isPlace wm_X9_90 cls_9 kd_149 rfl ⟨by decide, by decide⟩ rfl rfl (Nat.le_of_ble_eq_true rfl) dX9_drop_2 ?_
  intro r1
  refine J_if_ne 10 G dX9_drop_5 (by decide) ?_ ?_
  · refine J_aload_n G 0 dX9_drop_10 rfl ?_
    refine J_iload_n G 1 dX9_drop_11 rfl ?_
    refine J_cVpI (As := [vI p0]) G (mX9_supportAt u p0 mem) sg_X9_supportAt sv_X9_supportAt wm_X9_94 cls_9 kd_149 rfl ⟨by decide, by decide⟩ rfl rfl (Nat.le_of_ble_eq_true rfl) dX9_drop_12 ?_
    intro r2
    refine J_istore_n (lv' := [(2, vI r2), (0, vR (uB u) 149), (1, vI p0)]) G dX9_drop_15 rfl (by decide) rfl ?_
    refine J_iload_n G 0 dX9_drop_16 rfl ?_
    refine J_if_ge 23 G dX9_drop_17 (by decide) ?_ ?_
    · refine J_aload_n G 1 dX9_drop_23 rfl ?_
      refine J_cVwV (As := []) G (mX9_changes u mem) sg_X9_changes sv_X9_changes wm_X9_98 cls_9 kd_149 rfl ⟨by decide, by decide⟩ rfl rfl (Nat.le_of_ble_eq_true rfl) dX9_drop_24 ?_
      intro m3
      refine J_aload_n G 1 dX9_drop_27 rfl ?_
      refine J_getR (d := 150) (k := 0) G cls_9 wf_X9_11 kd_149 rfl rfl dX9_drop_28 ?_
      refine J_iconst G dX9_drop_31 ?_
      refine J_dup2 G dX9_drop_32 rfl rfl ?_
      refine J_ialdC G kd_150 ln_150 (by decide) dX9_drop_33 ?_
      refine J_iconst G dX9_drop_34 ?_
      refine J_isub G dX9_drop_35 ?_
      refine J_iastC G kd_150 ln_150 (by decide) dX9_drop_36 ?_
      refine J_ltM (fun m4 => ?_)
      refine J_iload_n G 0 dX9_drop_37 rfl ?_
      refine J_istore_n (lv' := [(3, vI r2), (2, vI r2), (0, vR (uB u) 149), (1, vI p0)]) G dX9_drop_38 rfl (by decide) rfl ?_
      refine J_lv [2, 0] rfl ?_
      exact jMo_drop_L39 G 2000 r2 m4
    · refine J_bipush G dX9_drop_20 (by decide) ?_
      exact J_iret G dX9_drop_22 rfl
  · refine J_iconst G dX9_drop_8 ?_
    exact J_iret G dX9_drop_9 rfl
theorem mX9_hinge (u : jU) (p0 : Int) (p1 : Int) (mem : Mem) : jMet u yX9_hinge cX9_hinge 5 (some .int) (jRm 2 46) [vR (uB u) 149, vI p0, vI p1] mem EwI (Mo_hinge p0 p1 mem) := by
  refine jMet_of (by decide +kernel) (Nat.le_of_ble_eq_true rfl) (fun x G => ?_)
  show J u x 5 (jQ u x EwI) 0 [(0, vR (uB u) 149), (1, vI p0), (2, vI p1)] [] mem _
  unfold Mo_hinge
  refine J_aload_n G 0 dX9_hinge_0 rfl ?_
  refine J_iload_n G 1 dX9_hinge_1 rfl ?_
  refine J_cVpI (As := [vI p0]) G (mX9_isPlace u p0 mem) sg_X9_isPlace sv_X9_isPlace wm_X9_90 cls_9 kd_149 rfl ⟨by decide, by decide⟩ rfl rfl (Nat.le_of_ble_eq_true rfl) dX9_hinge_2 ?_
  intro r1
  refine J_if_eq 18 G dX9_hinge_5 (by decide) ?_ ?_
  · refine J_iconst G dX9_hinge_18 ?_
    exact J_iret G dX9_hinge_19 rfl
  · refine J_iload_n G 2 dX9_hinge_8 rfl ?_
    refine J_i2l G dX9_hinge_9 ?_
    refine J_lconst (v := 0) G dX9_hinge_10 (by decide) ?_
    refine J_lconst (v := 1) G dX9_hinge_11 (by decide) ?_
    refine J_cSpI (As := [vL (s32 p1), vL 0, vL 1]) G (mX9_in u (s32 p1) 0 1 mem) sg_X9_in ss_X9_in wm_X9_82 ⟨by decide, by decide⟩ rfl rfl (Nat.le_of_ble_eq_true rfl) dX9_hinge_12 ?_
    intro r2
    refine J_if_ne 20 G dX9_hinge_15 (by decide) ?_ ?_
    · refine J_aload_n G 0 dX9_hinge_20 rfl ?_
      refine J_iload_n G 1 dX9_hinge_21 rfl ?_
      refine J_cVpI (As := [vI p0]) G (mX9_supportAt u p0 mem) sg_X9_supportAt sv_X9_supportAt wm_X9_94 cls_9 kd_149 rfl ⟨by decide, by decide⟩ rfl rfl (Nat.le_of_ble_eq_true rfl) dX9_hinge_22 ?_
      intro r3
      refine J_istore_n (lv' := [(3, vI r3), (0, vR (uB u) 149), (1, vI p0), (2, vI p1)]) G dX9_hinge_25 rfl (by decide) rfl ?_
      refine J_iload_n G 0 dX9_hinge_26 rfl ?_
      refine J_if_ge 33 G dX9_hinge_27 (by decide) ?_ ?_
      · refine J_aload_n G 1 dX9_hinge_33 rfl ?_
        refine J_getR (d := 150) (k := 0) G cls_9 wf_X9_11 kd_149 rfl rfl dX9_hinge_34 ?_
        refine J_bipush G dX9_hinge_37 (by decide) ?_
        refine J_iload_n G 0 dX9_hinge_39 rfl ?_
        refine J_iadd G dX9_hinge_40 ?_
        refine J_iald G kd_150 ln_150 dX9_hinge_41 ?_
        refine J_ltI (fun x4 => ?_)
        refine J_istore (lv' := [(4, vI x4), (3, vI r3), (0, vR (uB u) 149), (1, vI p0), (2, vI p1)]) G dX9_hinge_42 (by decide) rfl ?_
        refine J_aload_n G 2 dX9_hinge_44 rfl ?_
        refine J_cVwV (As := []) G (mX9_changes u mem) sg_X9_changes sv_X9_changes wm_X9_98 cls_9 kd_149 rfl ⟨by decide, by decide⟩ rfl rfl (Nat.le_of_ble_eq_true rfl) dX9_hinge_45 ?_
        intro m5
        refine J_aload_n G 2 dX9_hinge_48 rfl ?_
        refine J_getR (d := 150) (k := 0) G cls_9 wf_X9_11 kd_149 rfl rfl dX9_hinge_49 ?_
        refine J_bipush G dX9_hinge_52 (by decide) ?_
        refine J_iload_n G 1 dX9_hinge_54 rfl ?_
        refine J_iadd G dX9_hinge_55 ?_
        refine J_iload_n G 4 dX9_hinge_56 rfl ?_
        refine J_iast G kd_150 ln_150 dX9_hinge_57 ?_
        refine J_ltM (fun m6 => ?_)
        refine J_iload G 0 dX9_hinge_58 rfl ?_
        exact J_iret G dX9_hinge_60 rfl
      · refine J_bipush G dX9_hinge_30 (by decide) ?_
        exact J_iret G dX9_hinge_32 rfl
    · refine J_iconst G dX9_hinge_18 ?_
      exact J_iret G dX9_hinge_19 rfl
theorem mX9_comes (u : jU) (p0 : Int) (p1 : Int) (p2 : Int) (mem : Mem) : jMet u yX9_comes cX9_comes 5 (some .int) (jRm 1 21) [vR (uB u) 149, vI p0, vI p1, vI p2] mem EwI (Mo_comes p0 p1 p2 mem) := by
  refine jMet_of (by decide +kernel) (Nat.le_of_ble_eq_true rfl) (fun x G => ?_)
  show J u x 5 (jQ u x EwI) 0 [(0, vR (uB u) 149), (1, vI p0), (2, vI p1), (3, vI p2)] [] mem _
  unfold Mo_comes
  refine J_aload_n G 0 dX9_comes_0 rfl ?_
  refine J_getR (d := 150) (k := 0) G cls_9 wf_X9_11 kd_149 rfl rfl dX9_comes_1 ?_
  refine J_bipush G dX9_comes_4 (by decide) ?_
  refine J_ialdC G kd_150 ln_150 (by decide) dX9_comes_6 ?_
  refine J_bipush G dX9_comes_7 (by decide) ?_
  refine J_icmp_ne 15 G dX9_comes_9 (by decide) ?_ ?_
  · refine J_aload_n G 0 dX9_comes_15 rfl ?_
    refine J_cVwV (As := []) G (mX9_changes u mem) sg_X9_changes sv_X9_changes wm_X9_98 cls_9 kd_149 rfl ⟨by decide, by decide⟩ rfl rfl (Nat.le_of_ble_eq_true rfl) dX9_comes_16 ?_
    intro m1
    refine J_aload_n G 0 dX9_comes_19 rfl ?_
    refine J_getR (d := 150) (k := 0) G cls_9 wf_X9_11 kd_149 rfl rfl dX9_comes_20 ?_
    refine J_bipush G dX9_comes_23 (by decide) ?_
    refine J_ialdC G kd_150 ln_150 (by decide) dX9_comes_25 ?_
    refine J_ltI (fun x2 => ?_)
    refine J_istore (lv' := [(4, vI x2), (0, vR (uB u) 149), (1, vI p0), (2, vI p1), (3, vI p2)]) G dX9_comes_26 (by decide) rfl ?_
    refine J_aload_n G 1 dX9_comes_28 rfl ?_
    refine J_getR (d := 150) (k := 0) G cls_9 wf_X9_11 kd_149 rfl rfl dX9_comes_29 ?_
    refine J_bipush G dX9_comes_32 (by decide) ?_
    refine J_iload G 0 dX9_comes_34 rfl ?_
    refine J_iadd G dX9_comes_36 ?_
    refine J_iload_n G 2 dX9_comes_37 rfl ?_
    refine J_iast G kd_150 ln_150 dX9_comes_38 ?_
    refine J_ltM (fun m3 => ?_)
    refine J_aload_n G 1 dX9_comes_39 rfl ?_
    refine J_getR (d := 150) (k := 0) G cls_9 wf_X9_11 kd_149 rfl rfl dX9_comes_40 ?_
    refine J_bipush G dX9_comes_43 (by decide) ?_
    refine J_iload G 0 dX9_comes_45 rfl ?_
    refine J_iadd G dX9_comes_47 ?_
    refine J_iload_n G 3 dX9_comes_48 rfl ?_
    refine J_iast G kd_150 ln_150 dX9_comes_49 ?_
    refine J_ltM (fun m4 => ?_)
    refine J_aload_n G 1 dX9_comes_50 rfl ?_
    refine J_getR (d := 150) (k := 0) G cls_9 wf_X9_11 kd_149 rfl rfl dX9_comes_51 ?_
    refine J_bipush G dX9_comes_54 (by decide) ?_
    refine J_iload G 0 dX9_comes_56 rfl ?_
    refine J_iadd G dX9_comes_58 ?_
    refine J_iload_n G 4 dX9_comes_59 rfl ?_
    refine J_iast G kd_150 ln_150 dX9_comes_60 ?_
    refine J_ltM (fun m5 => ?_)
    refine J_aload_n G 1 dX9_comes_61 rfl ?_
    refine J_getR (d := 150) (k := 0) G cls_9 wf_X9_11 kd_149 rfl rfl dX9_comes_62 ?_
    refine J_bipush G dX9_comes_65 (by decide) ?_
    refine J_dup2 G dX9_comes_67 rfl rfl ?_
    refine J_ialdC G kd_150 ln_150 (by decide) dX9_comes_68 ?_
    refine J_iconst G dX9_comes_69 ?_
    refine J_iadd G dX9_comes_70 ?_
    refine J_iastC G kd_150 ln_150 (by decide) dX9_comes_71 ?_
    refine J_ltM (fun m6 => ?_)
    refine J_iload G 0 dX9_comes_72 rfl ?_
    exact J_iret G dX9_comes_74 rfl
  · refine J_bipush G dX9_comes_12 (by decide) ?_
    exact J_iret G dX9_comes_14 rfl
theorem mX9_point (u : jU) (p0 : Int) (p1 : Int) (mem : Mem) : jMet u yX9_point cX9_point 3 (some .int) (jRm 2 46) [vR (uB u) 149, vI p0, vI p1] mem EwI (Mo_point p0 p1 mem) := by
  refine jMet_of (by decide +kernel) (Nat.le_of_ble_eq_true rfl) (fun x G => ?_)
  show J u x 3 (jQ u x EwI) 0 [(0, vR (uB u) 149), (1, vI p0), (2, vI p1)] [] mem _
  unfold Mo_point
  refine J_aload_n G 0 dX9_point_0 rfl ?_
  refine J_iload_n G 1 dX9_point_1 rfl ?_
  refine J_cVpI (As := [vI p0]) G (mX9_isPlace u p0 mem) sg_X9_isPlace sv_X9_isPlace wm_X9_90 cls_9 kd_149 rfl ⟨by decide, by decide⟩ rfl rfl (Nat.le_of_ble_eq_true rfl) dX9_point_2 ?_
  intro r1
  refine J_if_eq 32 G dX9_point_5 (by decide) ?_ ?_
  · refine J_iconst G dX9_point_32 ?_
    exact J_iret G dX9_point_33 rfl
  · refine J_iload_n G 2 dX9_point_8 rfl ?_
    refine J_i2l G dX9_point_9 ?_
    refine J_ldc2 (v := (-9)) G dX9_point_10 wc_X9_100 (by decide) ?_
    refine J_ldc2 (v := 9) G dX9_point_13 wc_X9_102 (by decide) ?_
    refine J_cSpI (As := [vL (s32 p1), vL (-9), vL 9]) G (mX9_in u (s32 p1) (-9) 9 mem) sg_X9_in ss_X9_in wm_X9_82 ⟨by decide, by decide⟩ rfl rfl (Nat.le_of_ble_eq_true rfl) dX9_point_16 ?_
    intro r2
    refine J_if_eq 32 G dX9_point_19 (by decide) ?_ ?_
    · refine J_iconst G dX9_point_32 ?_
      exact J_iret G dX9_point_33 rfl
    · refine J_aload_n G 0 dX9_point_22 rfl ?_
      refine J_iload_n G 1 dX9_point_23 rfl ?_
      refine J_iload_n G 1 dX9_point_24 rfl ?_
      refine J_iload_n G 2 dX9_point_25 rfl ?_
      refine J_cVwI (As := [vI p0, vI p0, vI p1]) G (mX9_comes u p0 p0 p1 mem) sg_X9_comes sv_X9_comes wm_X9_104 cls_9 kd_149 rfl ⟨by decide, by decide⟩ rfl rfl (Nat.le_of_ble_eq_true rfl) dX9_point_26 ?_
      intro r3 m4
      refine J_goto 33 G dX9_point_29 (by decide) ?_
      exact J_iret G dX9_point_33 rfl
theorem mX9_spread (u : jU) (p0 : Int) (p1 : Int) (p2 : Int) (mem : Mem) : jMet u yX9_spread cX9_spread 4 (some .int) (jRm 2 46) [vR (uB u) 149, vI p0, vI p1, vI p2] mem EwI (Mo_spread p0 p1 p2 mem) := by
  refine jMet_of (by decide +kernel) (Nat.le_of_ble_eq_true rfl) (fun x G => ?_)
  show J u x 4 (jQ u x EwI) 0 [(0, vR (uB u) 149), (1, vI p0), (2, vI p1), (3, vI p2)] [] mem _
  unfold Mo_spread
  refine J_aload_n G 0 dX9_spread_0 rfl ?_
  refine J_iload_n G 1 dX9_spread_1 rfl ?_
  refine J_cVpI (As := [vI p0]) G (mX9_isPlace u p0 mem) sg_X9_isPlace sv_X9_isPlace wm_X9_90 cls_9 kd_149 rfl ⟨by decide, by decide⟩ rfl rfl (Nat.le_of_ble_eq_true rfl) dX9_spread_2 ?_
  intro r1
  refine J_if_eq 45 G dX9_spread_5 (by decide) ?_ ?_
  · refine J_iconst G dX9_spread_45 ?_
    exact J_iret G dX9_spread_46 rfl
  · refine J_aload_n G 0 dX9_spread_8 rfl ?_
    refine J_iload_n G 2 dX9_spread_9 rfl ?_
    refine J_cVpI (As := [vI p1]) G (mX9_isPlace u p1 mem) sg_X9_isPlace sv_X9_isPlace wm_X9_90 cls_9 kd_149 rfl ⟨by decide, by decide⟩ rfl rfl (Nat.le_of_ble_eq_true rfl) dX9_spread_10 ?_
    intro r2
    refine J_if_eq 45 G dX9_spread_13 (by decide) ?_ ?_
    · refine J_iconst G dX9_spread_45 ?_
      exact J_iret G dX9_spread_46 rfl
    · refine J_iload_n G 1 dX9_spread_16 rfl ?_
      refine J_iload_n G 2 dX9_spread_17 rfl ?_
      refine J_icmp_ge 45 G dX9_spread_18 (by decide) ?_ ?_
      · refine J_iconst G dX9_spread_45 ?_
        exact J_iret G dX9_spread_46 rfl
      · refine J_iload_n G 3 dX9_spread_21 rfl ?_
        refine J_i2l G dX9_spread_22 ?_
        refine J_ldc2 (v := (-9)) G dX9_spread_23 wc_X9_100 (by decide) ?_
        refine J_ldc2 (v := 9) G dX9_spread_26 wc_X9_102 (by decide) ?_
        refine J_cSpI (As := [vL (s32 p2), vL (-9), vL 9]) G (mX9_in u (s32 p2) (-9) 9 mem) sg_X9_in ss_X9_in wm_X9_82 ⟨by decide, by decide⟩ rfl rfl (Nat.le_of_ble_eq_true rfl) dX9_spread_29 ?_
        intro r3
        refine J_if_eq 45 G dX9_spread_32 (by decide) ?_ ?_
        · refine J_iconst G dX9_spread_45 ?_
          exact J_iret G dX9_spread_46 rfl
        · refine J_aload_n G 0 dX9_spread_35 rfl ?_
          refine J_iload_n G 1 dX9_spread_36 rfl ?_
          refine J_iload_n G 2 dX9_spread_37 rfl ?_
          refine J_iload_n G 3 dX9_spread_38 rfl ?_
          refine J_cVwI (As := [vI p0, vI p1, vI p2]) G (mX9_comes u p0 p1 p2 mem) sg_X9_comes sv_X9_comes wm_X9_104 cls_9 kd_149 rfl ⟨by decide, by decide⟩ rfl rfl (Nat.le_of_ble_eq_true rfl) dX9_spread_39 ?_
          intro r4 m5
          refine J_goto 46 G dX9_spread_42 (by decide) ?_
          exact J_iret G dX9_spread_46 rfl
theorem mX9_heavier (u : jU) (p0 : Int) (p1 : Int) (mem : Mem) : jMet u yX9_heavier cX9_heavier 4 (some .int) (jRm 2 46) [vR (uB u) 149, vI p0, vI p1] mem EwI (Mo_heavier p0 p1 mem) := by
  refine jMet_of (by decide +kernel) (Nat.le_of_ble_eq_true rfl) (fun x G => ?_)
  show J u x 4 (jQ u x EwI) 0 [(0, vR (uB u) 149), (1, vI p0), (2, vI p1)] [] mem _
  unfold Mo_heavier
  refine J_aload_n G 0 dX9_heavier_0 rfl ?_
  refine J_iload_n G 1 dX9_heavier_1 rfl ?_
  refine J_cVpI (As := [vI p0]) G (mX9_isLoad u p0 mem) sg_X9_isLoad sv_X9_isLoad wm_X9_108 cls_9 kd_149 rfl ⟨by decide, by decide⟩ rfl rfl (Nat.le_of_ble_eq_true rfl) dX9_heavier_2 ?_
  intro r1
  refine J_if_eq 22 G dX9_heavier_5 (by decide) ?_ ?_
  · refine J_iconst G dX9_heavier_22 ?_
    exact J_iret G dX9_heavier_23 rfl
  · refine J_iload_n G 2 dX9_heavier_8 rfl ?_
    refine J_i2l G dX9_heavier_9 ?_
    refine J_ldc2 (v := (-9)) G dX9_heavier_10 wc_X9_100 (by decide) ?_
    refine J_ldc2 (v := 9) G dX9_heavier_13 wc_X9_102 (by decide) ?_
    refine J_cSpI (As := [vL (s32 p1), vL (-9), vL 9]) G (mX9_in u (s32 p1) (-9) 9 mem) sg_X9_in ss_X9_in wm_X9_82 ⟨by decide, by decide⟩ rfl rfl (Nat.le_of_ble_eq_true rfl) dX9_heavier_16 ?_
    intro r2
    refine J_if_ne 24 G dX9_heavier_19 (by decide) ?_ ?_
    · refine J_aload_n G 0 dX9_heavier_24 rfl ?_
      refine J_getR (d := 150) (k := 0) G cls_9 wf_X9_11 kd_149 rfl rfl dX9_heavier_25 ?_
      refine J_bipush G dX9_heavier_28 (by decide) ?_
      refine J_iload_n G 1 dX9_heavier_30 rfl ?_
      refine J_iadd G dX9_heavier_31 ?_
      refine J_iald G kd_150 ln_150 dX9_heavier_32 ?_
      refine J_ltI (fun x3 => ?_)
      refine J_istore_n (lv' := [(3, vI x3), (0, vR (uB u) 149), (1, vI p0), (2, vI p1)]) G dX9_heavier_33 rfl (by decide) rfl ?_
      refine J_aload_n G 1 dX9_heavier_34 rfl ?_
      refine J_cVwV (As := []) G (mX9_changes u mem) sg_X9_changes sv_X9_changes wm_X9_98 cls_9 kd_149 rfl ⟨by decide, by decide⟩ rfl rfl (Nat.le_of_ble_eq_true rfl) dX9_heavier_35 ?_
      intro m4
      refine J_aload_n G 1 dX9_heavier_38 rfl ?_
      refine J_getR (d := 150) (k := 0) G cls_9 wf_X9_11 kd_149 rfl rfl dX9_heavier_39 ?_
      refine J_bipush G dX9_heavier_42 (by decide) ?_
      refine J_iload_n G 2 dX9_heavier_44 rfl ?_
      refine J_iadd G dX9_heavier_45 ?_
      refine J_iload_n G 3 dX9_heavier_46 rfl ?_
      refine J_iast G kd_150 ln_150 dX9_heavier_47 ?_
      refine J_ltM (fun m5 => ?_)
      refine J_iload_n G 0 dX9_heavier_48 rfl ?_
      exact J_iret G dX9_heavier_49 rfl
    · refine J_iconst G dX9_heavier_22 ?_
      exact J_iret G dX9_heavier_23 rfl
theorem jMo_lift_L27 {u : jU} {x : jX} (G : jG u x cX9_lift RX9 3 (some .int) (jRm 2 46)) : ∀ (n : Nat) (i4 : Int) (m5 : Mem), J u x 3 (jQ u x EwI) 27 [(0, vR (uB u) 149), (2, vI i4)] [] m5 (Mo_lift_L27 n i4 m5) := by
  intro n
  induction n with
  | zero => intro i4 m5; exact J_none
  | succ n ih =>
    intro i4 m5
    rw [Mo_lift_L27]
    refine J_iload_n G 1 dX9_lift_27 rfl ?_
    refine J_aload_n G 0 dX9_lift_28 rfl ?_
    refine J_getR (d := 150) (k := 0) G cls_9 wf_X9_11 kd_149 rfl rfl dX9_lift_29 ?_
    refine J_bipush G dX9_lift_32 (by decide) ?_
    refine J_ialdC G kd_150 ln_150 (by decide) dX9_lift_34 ?_
    refine J_icmp_ge 104 G dX9_lift_35 (by decide) ?_ ?_
    · refine J_aload_n G 0 dX9_lift_104 rfl ?_
      refine J_getR (d := 150) (k := 0) G cls_9 wf_X9_11 kd_149 rfl rfl dX9_lift_105 ?_
      refine J_bipush G dX9_lift_108 (by decide) ?_
      refine J_ialdC G kd_150 ln_150 (by decide) dX9_lift_110 ?_
      exact J_iret G dX9_lift_111 rfl
    · refine J_aload_n G 0 dX9_lift_38 rfl ?_
      refine J_getR (d := 150) (k := 0) G cls_9 wf_X9_11 kd_149 rfl rfl dX9_lift_39 ?_
      refine J_bipush G dX9_lift_42 (by decide) ?_
      refine J_iload_n G 1 dX9_lift_44 rfl ?_
      refine J_iadd G dX9_lift_45 ?_
      refine J_aload_n G 0 dX9_lift_46 rfl ?_
      refine J_getR (d := 150) (k := 0) G cls_9 wf_X9_11 kd_149 rfl rfl dX9_lift_47 ?_
      refine J_bipush G dX9_lift_50 (by decide) ?_
      refine J_iload_n G 1 dX9_lift_52 rfl ?_
      refine J_iadd G dX9_lift_53 ?_
      refine J_iconst G dX9_lift_54 ?_
      refine J_iadd G dX9_lift_55 ?_
      refine J_iald G kd_150 ln_150 dX9_lift_56 ?_
      refine J_iast G kd_150 ln_150 dX9_lift_57 ?_
      refine J_ltM (fun m6 => ?_)
      refine J_aload_n G 0 dX9_lift_58 rfl ?_
      refine J_getR (d := 150) (k := 0) G cls_9 wf_X9_11 kd_149 rfl rfl dX9_lift_59 ?_
      refine J_bipush G dX9_lift_62 (by decide) ?_
      refine J_iload_n G 1 dX9_lift_64 rfl ?_
      refine J_iadd G dX9_lift_65 ?_
      refine J_aload_n G 0 dX9_lift_66 rfl ?_
      refine J_getR (d := 150) (k := 0) G cls_9 wf_X9_11 kd_149 rfl rfl dX9_lift_67 ?_
      refine J_bipush G dX9_lift_70 (by decide) ?_
      refine J_iload_n G 1 dX9_lift_72 rfl ?_
      refine J_iadd G dX9_lift_73 ?_
      refine J_iconst G dX9_lift_74 ?_
      refine J_iadd G dX9_lift_75 ?_
      refine J_iald G kd_150 ln_150 dX9_lift_76 ?_
      refine J_iast G kd_150 ln_150 dX9_lift_77 ?_
      refine J_ltM (fun m7 => ?_)
      refine J_aload_n G 0 dX9_lift_78 rfl ?_
      refine J_getR (d := 150) (k := 0) G cls_9 wf_X9_11 kd_149 rfl rfl dX9_lift_79 ?_
      refine J_bipush G dX9_lift_82 (by decide) ?_
      refine J_iload_n G 1 dX9_lift_84 rfl ?_
      refine J_iadd G dX9_lift_85 ?_
      refine J_aload_n G 0 dX9_lift_86 rfl ?_
      refine J_getR (d := 150) (k := 0) G cls_9 wf_X9_11 kd_149 rfl rfl dX9_lift_87 ?_
      refine J_bipush G dX9_lift_90 (by decide) ?_
      refine J_iload_n G 1 dX9_lift_92 rfl ?_
      refine J_iadd G dX9_lift_93 ?_
      refine J_iconst G dX9_lift_94 ?_
      refine J_iadd G dX9_lift_95 ?_
      refine J_iald G kd_150 ln_150 dX9_lift_96 ?_
      refine J_iast G kd_150 ln_150 dX9_lift_97 ?_
      refine J_ltM (fun m8 => ?_)
      refine J_iinc (lv' := [(2, vI (i4 + 1)), (0, vR (uB u) 149)]) G 1 dX9_lift_98 rfl (by decide) rfl ?_
      refine J_goto 27 G dX9_lift_101 (by decide) ?_
      refine J_lv [1, 0] rfl ?_
      exact ih (i4 + 1) m8
theorem mX9_lift (u : jU) (p0 : Int) (mem : Mem) : jMet u yX9_lift cX9_lift 3 (some .int) (jRm 2 46) [vR (uB u) 149, vI p0] mem EwI (Mo_lift p0 mem) := by
  refine jMet_of (by decide +kernel) (Nat.le_of_ble_eq_true rfl) (fun x G => ?_)
  show J u x 3 (jQ u x EwI) 0 [(0, vR (uB u) 149), (1, vI p0)] [] mem _
  unfold Mo_lift
  refine J_aload_n G 0 dX9_lift_0 rfl ?_
  refine J_iload_n G 1 dX9_lift_1 rfl ?_
  refine J_cVpI (As := [vI p0]) G (mX9_isLoad u p0 mem) sg_X9_isLoad sv_X9_isLoad wm_X9_108 cls_9 kd_149 rfl ⟨by decide, by decide⟩ rfl rfl (Nat.le_of_ble_eq_true rfl) dX9_lift_2 ?_
  intro r1
  refine J_if_ne 10 G dX9_lift_5 (by decide) ?_ ?_
  · refine J_aload_n G 0 dX9_lift_10 rfl ?_
    refine J_cVwV (As := []) G (mX9_changes u mem) sg_X9_changes sv_X9_changes wm_X9_98 cls_9 kd_149 rfl ⟨by decide, by decide⟩ rfl rfl (Nat.le_of_ble_eq_true rfl) dX9_lift_11 ?_
    intro m2
    refine J_aload_n G 0 dX9_lift_14 rfl ?_
    refine J_getR (d := 150) (k := 0) G cls_9 wf_X9_11 kd_149 rfl rfl dX9_lift_15 ?_
    refine J_bipush G dX9_lift_18 (by decide) ?_
    refine J_dup2 G dX9_lift_20 rfl rfl ?_
    refine J_ialdC G kd_150 ln_150 (by decide) dX9_lift_21 ?_
    refine J_iconst G dX9_lift_22 ?_
    refine J_isub G dX9_lift_23 ?_
    refine J_iastC G kd_150 ln_150 (by decide) dX9_lift_24 ?_
    refine J_ltM (fun m3 => ?_)
    refine J_iload_n G 1 dX9_lift_25 rfl ?_
    refine J_istore_n (lv' := [(2, vI p0), (0, vR (uB u) 149), (1, vI p0)]) G dX9_lift_26 rfl (by decide) rfl ?_
    refine J_lv [1, 0] rfl ?_
    exact jMo_lift_L27 G 2000 p0 m3
  · refine J_iconst G dX9_lift_8 ?_
    exact J_iret G dX9_lift_9 rfl
theorem mX9_axle (u : jU) (p0 : Int) (p1 : Int) (mem : Mem) : jMet u yX9_axle cX9_axle 3 (some .int) (jRm 1 25) [vR (uB u) 149, vI p0, vI p1] mem EwI (Mo_axle p0 p1 mem) := by
  refine jMet_of (by decide +kernel) (Nat.le_of_ble_eq_true rfl) (fun x G => ?_)
  show J u x 3 (jQ u x EwI) 0 [(0, vR (uB u) 149), (1, vI p0), (2, vI p1)] [] mem _
  unfold Mo_axle
  refine J_iload_n G 1 dX9_axle_0 rfl ?_
  refine J_i2l G dX9_axle_1 ?_
  refine J_lconst (v := 0) G dX9_axle_2 (by decide) ?_
  refine J_ldc2 (v := 9) G dX9_axle_3 wc_X9_102 (by decide) ?_
  refine J_cSpI (As := [vL (s32 p0), vL 0, vL 9]) G (mX9_in u (s32 p0) 0 9 mem) sg_X9_in ss_X9_in wm_X9_82 ⟨by decide, by decide⟩ rfl rfl (Nat.le_of_ble_eq_true rfl) dX9_axle_6 ?_
  intro r1
  refine J_if_eq 24 G dX9_axle_9 (by decide) ?_ ?_
  · refine J_iconst G dX9_axle_24 ?_
    exact J_iret G dX9_axle_25 rfl
  · refine J_iload_n G 2 dX9_axle_12 rfl ?_
    refine J_i2l G dX9_axle_13 ?_
    refine J_lconst (v := 1) G dX9_axle_14 (by decide) ?_
    refine J_ldc2 (v := 9) G dX9_axle_15 wc_X9_102 (by decide) ?_
    refine J_cSpI (As := [vL (s32 p1), vL 1, vL 9]) G (mX9_in u (s32 p1) 1 9 mem) sg_X9_in ss_X9_in wm_X9_82 ⟨by decide, by decide⟩ rfl rfl (Nat.le_of_ble_eq_true rfl) dX9_axle_18 ?_
    intro r2
    refine J_if_ne 26 G dX9_axle_21 (by decide) ?_ ?_
    · refine J_aload_n G 0 dX9_axle_26 rfl ?_
      refine J_getR (d := 150) (k := 0) G cls_9 wf_X9_11 kd_149 rfl rfl dX9_axle_27 ?_
      refine J_bipush G dX9_axle_30 (by decide) ?_
      refine J_ialdC G kd_150 ln_150 (by decide) dX9_axle_32 ?_
      refine J_iconst G dX9_axle_33 ?_
      refine J_icmp_ne 40 G dX9_axle_34 (by decide) ?_ ?_
      · refine J_aload_n G 0 dX9_axle_40 rfl ?_
        refine J_cVwV (As := []) G (mX9_changes u mem) sg_X9_changes sv_X9_changes wm_X9_98 cls_9 kd_149 rfl ⟨by decide, by decide⟩ rfl rfl (Nat.le_of_ble_eq_true rfl) dX9_axle_41 ?_
        intro m3
        refine J_aload_n G 0 dX9_axle_44 rfl ?_
        refine J_getR (d := 150) (k := 0) G cls_9 wf_X9_11 kd_149 rfl rfl dX9_axle_45 ?_
        refine J_bipush G dX9_axle_48 (by decide) ?_
        refine J_aload_n G 0 dX9_axle_50 rfl ?_
        refine J_getR (d := 150) (k := 0) G cls_9 wf_X9_11 kd_149 rfl rfl dX9_axle_51 ?_
        refine J_bipush G dX9_axle_54 (by decide) ?_
        refine J_ialdC G kd_150 ln_150 (by decide) dX9_axle_56 ?_
        refine J_iadd G dX9_axle_57 ?_
        refine J_iload_n G 1 dX9_axle_58 rfl ?_
        refine J_iast G kd_150 ln_150 dX9_axle_59 ?_
        refine J_ltM (fun m4 => ?_)
        refine J_aload_n G 0 dX9_axle_60 rfl ?_
        refine J_getR (d := 150) (k := 0) G cls_9 wf_X9_11 kd_149 rfl rfl dX9_axle_61 ?_
        refine J_bipush G dX9_axle_64 (by decide) ?_
        refine J_aload_n G 0 dX9_axle_66 rfl ?_
        refine J_getR (d := 150) (k := 0) G cls_9 wf_X9_11 kd_149 rfl rfl dX9_axle_67 ?_
        refine J_bipush G dX9_axle_70 (by decide) ?_
        refine J_ialdC G kd_150 ln_150 (by decide) dX9_axle_72 ?_
        refine J_iadd G dX9_axle_73 ?_
        refine J_iload_n G 2 dX9_axle_74 rfl ?_
        refine J_iast G kd_150 ln_150 dX9_axle_75 ?_
        refine J_ltM (fun m5 => ?_)
        refine J_aload_n G 0 dX9_axle_76 rfl ?_
        refine J_getR (d := 150) (k := 0) G cls_9 wf_X9_11 kd_149 rfl rfl dX9_axle_77 ?_
        refine J_bipush G dX9_axle_80 (by decide) ?_
        refine J_dup2 G dX9_axle_82 rfl rfl ?_
        refine J_ialdC G kd_150 ln_150 (by decide) dX9_axle_83 ?_
        refine J_iconst G dX9_axle_84 ?_
        refine J_iadd G dX9_axle_85 ?_
        refine J_iastC G kd_150 ln_150 (by decide) dX9_axle_86 ?_
        refine J_ltM (fun m6 => ?_)
        refine J_aload_n G 0 dX9_axle_87 rfl ?_
        refine J_getR (d := 150) (k := 0) G cls_9 wf_X9_11 kd_149 rfl rfl dX9_axle_88 ?_
        refine J_bipush G dX9_axle_91 (by decide) ?_
        refine J_ialdC G kd_150 ln_150 (by decide) dX9_axle_93 ?_
        exact J_iret G dX9_axle_94 rfl
      · refine J_bipush G dX9_axle_37 (by decide) ?_
        exact J_iret G dX9_axle_39 rfl
    · refine J_iconst G dX9_axle_24 ?_
      exact J_iret G dX9_axle_25 rfl
theorem mX9_unhitch (u : jU) (mem : Mem) : jMet u yX9_unhitch cX9_unhitch 2 (some .int) (jRm 1 21) [vR (uB u) 149] mem EwI (Mo_unhitch mem) := by
  refine jMet_of (by decide +kernel) (Nat.le_of_ble_eq_true rfl) (fun x G => ?_)
  show J u x 2 (jQ u x EwI) 0 [(0, vR (uB u) 149)] [] mem _
  unfold Mo_unhitch
  refine J_aload_n G 0 dX9_unhitch_0 rfl ?_
  refine J_getR (d := 150) (k := 0) G cls_9 wf_X9_11 kd_149 rfl rfl dX9_unhitch_1 ?_
  refine J_bipush G dX9_unhitch_4 (by decide) ?_
  refine J_ialdC G kd_150 ln_150 (by decide) dX9_unhitch_6 ?_
  refine J_ltI (fun x1 => ?_)
  refine J_istore_n (lv' := [(1, vI x1), (0, vR (uB u) 149)]) G dX9_unhitch_7 rfl (by decide) rfl ?_
  refine J_aload_n G 1 dX9_unhitch_8 rfl ?_
  refine J_cVwV (As := []) G (mX9_changes u mem) sg_X9_changes sv_X9_changes wm_X9_98 cls_9 kd_149 rfl ⟨by decide, by decide⟩ rfl rfl (Nat.le_of_ble_eq_true rfl) dX9_unhitch_9 ?_
  intro m2
  refine J_aload_n G 1 dX9_unhitch_12 rfl ?_
  refine J_getR (d := 150) (k := 0) G cls_9 wf_X9_11 kd_149 rfl rfl dX9_unhitch_13 ?_
  refine J_bipush G dX9_unhitch_16 (by decide) ?_
  refine J_iconst G dX9_unhitch_18 ?_
  refine J_iastC G kd_150 ln_150 (by decide) dX9_unhitch_19 ?_
  refine J_ltM (fun m3 => ?_)
  refine J_iload_n G 0 dX9_unhitch_20 rfl ?_
  exact J_iret G dX9_unhitch_21 rfl
theorem mX9_loadOf (u : jU) (p0 : Int) (p1 : Int) (mem : Mem) : jMet u yX9_loadOf cX9_loadOf 5 (some .int) (jRm 2 46) [vR (uB u) 149, vI p0, vI p1] mem (EpI mem) (Mo_loadOf p0 p1 mem) := by
  refine jMet_of (by decide +kernel) (Nat.le_of_ble_eq_true rfl) (fun x G => ?_)
  show J u x 5 (jQ u x (EpI mem)) 0 [(0, vR (uB u) 149), (1, vI p0), (2, vI p1)] [] mem _
  unfold Mo_loadOf
  refine J_aload_n G 0 dX9_loadOf_0 rfl ?_
  refine J_iload_n G 1 dX9_loadOf_1 rfl ?_
  refine J_cVpI (As := [vI p0]) G (mX9_isLoad u p0 mem) sg_X9_isLoad sv_X9_isLoad wm_X9_108 cls_9 kd_149 rfl ⟨by decide, by decide⟩ rfl rfl (Nat.le_of_ble_eq_true rfl) dX9_loadOf_2 ?_
  intro r1
  refine J_if_eq 20 G dX9_loadOf_5 (by decide) ?_ ?_
  · refine J_iconst G dX9_loadOf_20 ?_
    exact J_iret G dX9_loadOf_21 rfl
  · refine J_iload_n G 2 dX9_loadOf_8 rfl ?_
    refine J_i2l G dX9_loadOf_9 ?_
    refine J_lconst (v := 0) G dX9_loadOf_10 (by decide) ?_
    refine J_ldc2 (v := 3) G dX9_loadOf_11 wc_X9_111 (by decide) ?_
    refine J_cSpI (As := [vL (s32 p1), vL 0, vL 3]) G (mX9_in u (s32 p1) 0 3 mem) sg_X9_in ss_X9_in wm_X9_82 ⟨by decide, by decide⟩ rfl rfl (Nat.le_of_ble_eq_true rfl) dX9_loadOf_14 ?_
    intro r2
    refine J_if_ne 22 G dX9_loadOf_17 (by decide) ?_ ?_
    · refine J_aload_n G 0 dX9_loadOf_22 rfl ?_
      refine J_getR (d := 150) (k := 0) G cls_9 wf_X9_11 kd_149 rfl rfl dX9_loadOf_23 ?_
      refine J_bipush G dX9_loadOf_26 (by decide) ?_
      refine J_iload_n G 1 dX9_loadOf_28 rfl ?_
      refine J_iadd G dX9_loadOf_29 ?_
      refine J_iald G kd_150 ln_150 dX9_loadOf_30 ?_
      refine J_ltI (fun x3 => ?_)
      refine J_istore_n (lv' := [(3, vI x3), (0, vR (uB u) 149), (1, vI p0), (2, vI p1)]) G dX9_loadOf_31 rfl (by decide) rfl ?_
      refine J_aload_n G 1 dX9_loadOf_32 rfl ?_
      refine J_getR (d := 150) (k := 0) G cls_9 wf_X9_11 kd_149 rfl rfl dX9_loadOf_33 ?_
      refine J_bipush G dX9_loadOf_36 (by decide) ?_
      refine J_iload_n G 2 dX9_loadOf_38 rfl ?_
      refine J_iadd G dX9_loadOf_39 ?_
      refine J_iald G kd_150 ln_150 dX9_loadOf_40 ?_
      refine J_ltI (fun x4 => ?_)
      refine J_istore (lv' := [(4, vI x4), (3, vI x3), (0, vR (uB u) 149), (1, vI p0), (2, vI p1)]) G dX9_loadOf_41 (by decide) rfl ?_
      refine J_iload_n G 4 dX9_loadOf_43 rfl ?_
      refine J_if_ne 51 G dX9_loadOf_44 (by decide) ?_ ?_
      · refine J_iload_n G 4 dX9_loadOf_51 rfl ?_
        refine J_iconst G dX9_loadOf_52 ?_
        refine J_icmp_ne 61 G dX9_loadOf_53 (by decide) ?_ ?_
        · refine J_iload_n G 4 dX9_loadOf_61 rfl ?_
          refine J_iconst G dX9_loadOf_62 ?_
          refine J_icmp_ne 78 G dX9_loadOf_63 (by decide) ?_ ?_
          · refine J_iload_n G 1 dX9_loadOf_78 rfl ?_
            refine J_iload G 0 dX9_loadOf_79 rfl ?_
            refine J_icmp_ne 88 G dX9_loadOf_81 (by decide) ?_ ?_
            · refine J_iconst G dX9_loadOf_88 ?_
              exact J_iret G dX9_loadOf_89 rfl
            · refine J_iconst G dX9_loadOf_84 ?_
              refine J_goto 89 G dX9_loadOf_85 (by decide) ?_
              exact J_iret G dX9_loadOf_89 rfl
          · refine J_aload_n G 2 dX9_loadOf_66 rfl ?_
            refine J_getR (d := 150) (k := 0) G cls_9 wf_X9_11 kd_149 rfl rfl dX9_loadOf_67 ?_
            refine J_bipush G dX9_loadOf_70 (by decide) ?_
            refine J_iload_n G 3 dX9_loadOf_72 rfl ?_
            refine J_iadd G dX9_loadOf_73 ?_
            refine J_iald G kd_150 ln_150 dX9_loadOf_74 ?_
            refine J_goto 89 G dX9_loadOf_75 (by decide) ?_
            exact J_iret G dX9_loadOf_89 rfl
        · refine J_iload G 0 dX9_loadOf_56 rfl ?_
          refine J_goto 89 G dX9_loadOf_58 (by decide) ?_
          exact J_iret G dX9_loadOf_89 rfl
      · refine J_iload_n G 1 dX9_loadOf_47 rfl ?_
        refine J_goto 89 G dX9_loadOf_48 (by decide) ?_
        exact J_iret G dX9_loadOf_89 rfl
    · refine J_iconst G dX9_loadOf_20 ?_
      exact J_iret G dX9_loadOf_21 rfl
theorem mX9_supportOf (u : jU) (p0 : Int) (p1 : Int) (mem : Mem) : jMet u yX9_supportOf cX9_supportOf 3 (some .int) (jRm 2 46) [vR (uB u) 149, vI p0, vI p1] mem (EpI mem) (Mo_supportOf p0 p1 mem) := by
  refine jMet_of (by decide +kernel) (Nat.le_of_ble_eq_true rfl) (fun x G => ?_)
  show J u x 3 (jQ u x (EpI mem)) 0 [(0, vR (uB u) 149), (1, vI p0), (2, vI p1)] [] mem _
  unfold Mo_supportOf
  refine J_aload_n G 0 dX9_supportOf_0 rfl ?_
  refine J_iload_n G 1 dX9_supportOf_1 rfl ?_
  refine J_cVpI (As := [vI p0]) G (mX9_isSupport u p0 mem) sg_X9_isSupport sv_X9_isSupport wm_X9_113 cls_9 kd_149 rfl ⟨by decide, by decide⟩ rfl rfl (Nat.le_of_ble_eq_true rfl) dX9_supportOf_2 ?_
  intro r1
  refine J_if_eq 18 G dX9_supportOf_5 (by decide) ?_ ?_
  · refine J_iconst G dX9_supportOf_18 ?_
    exact J_iret G dX9_supportOf_19 rfl
  · refine J_iload_n G 2 dX9_supportOf_8 rfl ?_
    refine J_i2l G dX9_supportOf_9 ?_
    refine J_lconst (v := 0) G dX9_supportOf_10 (by decide) ?_
    refine J_lconst (v := 1) G dX9_supportOf_11 (by decide) ?_
    refine J_cSpI (As := [vL (s32 p1), vL 0, vL 1]) G (mX9_in u (s32 p1) 0 1 mem) sg_X9_in ss_X9_in wm_X9_82 ⟨by decide, by decide⟩ rfl rfl (Nat.le_of_ble_eq_true rfl) dX9_supportOf_12 ?_
    intro r2
    refine J_if_ne 20 G dX9_supportOf_15 (by decide) ?_ ?_
    · refine J_iload_n G 2 dX9_supportOf_20 rfl ?_
      refine J_if_ne 35 G dX9_supportOf_21 (by decide) ?_ ?_
      · refine J_aload_n G 0 dX9_supportOf_35 rfl ?_
        refine J_getR (d := 150) (k := 0) G cls_9 wf_X9_11 kd_149 rfl rfl dX9_supportOf_36 ?_
        refine J_bipush G dX9_supportOf_39 (by decide) ?_
        refine J_iload_n G 1 dX9_supportOf_41 rfl ?_
        refine J_iadd G dX9_supportOf_42 ?_
        refine J_iald G kd_150 ln_150 dX9_supportOf_43 ?_
        exact J_iret G dX9_supportOf_44 rfl
      · refine J_aload_n G 0 dX9_supportOf_24 rfl ?_
        refine J_getR (d := 150) (k := 0) G cls_9 wf_X9_11 kd_149 rfl rfl dX9_supportOf_25 ?_
        refine J_iconst G dX9_supportOf_28 ?_
        refine J_iload_n G 1 dX9_supportOf_29 rfl ?_
        refine J_iadd G dX9_supportOf_30 ?_
        refine J_iald G kd_150 ln_150 dX9_supportOf_31 ?_
        refine J_goto 44 G dX9_supportOf_32 (by decide) ?_
        exact J_iret G dX9_supportOf_44 rfl
    · refine J_iconst G dX9_supportOf_18 ?_
      exact J_iret G dX9_supportOf_19 rfl
theorem jMo_allLoads_L4 {u : jU} {x : jX} (G : jG u x cX9_allLoads RX9 4 (some .int) (jRm 0 0)) (mem : Mem) : ∀ (n : Nat) (i1 : Int) (i2 : Int), J u x 4 (jQ u x (EpI mem)) 4 [(0, vR (uB u) 149), (1, vI i1), (2, vI i2)] [] mem (Mo_allLoads_L4 mem n i1 i2) := by
  intro n
  induction n with
  | zero => intro i1 i2; exact J_none
  | succ n ih =>
    intro i1 i2
    rw [Mo_allLoads_L4]
    refine J_iload_n G 2 dX9_allLoads_4 rfl ?_
    refine J_aload_n G 0 dX9_allLoads_5 rfl ?_
    refine J_getR (d := 150) (k := 0) G cls_9 wf_X9_11 kd_149 rfl rfl dX9_allLoads_6 ?_
    refine J_bipush G dX9_allLoads_9 (by decide) ?_
    refine J_ialdC G kd_150 ln_150 (by decide) dX9_allLoads_11 ?_
    refine J_icmp_ge 63 G dX9_allLoads_12 (by decide) ?_ ?_
    · refine J_iload_n G 1 dX9_allLoads_63 rfl ?_
      exact J_iret G dX9_allLoads_64 rfl
    · refine J_aload_n G 0 dX9_allLoads_15 rfl ?_
      refine J_getR (d := 150) (k := 0) G cls_9 wf_X9_11 kd_149 rfl rfl dX9_allLoads_16 ?_
      refine J_bipush G dX9_allLoads_19 (by decide) ?_
      refine J_iload_n G 2 dX9_allLoads_21 rfl ?_
      refine J_iadd G dX9_allLoads_22 ?_
      refine J_iald G kd_150 ln_150 dX9_allLoads_23 ?_
      refine J_aload_n G 0 dX9_allLoads_24 rfl ?_
      refine J_getR (d := 150) (k := 0) G cls_9 wf_X9_11 kd_149 rfl rfl dX9_allLoads_25 ?_
      refine J_bipush G dX9_allLoads_28 (by decide) ?_
      refine J_iload_n G 2 dX9_allLoads_30 rfl ?_
      refine J_iadd G dX9_allLoads_31 ?_
      refine J_iald G kd_150 ln_150 dX9_allLoads_32 ?_
      refine J_isub G dX9_allLoads_33 ?_
      refine J_ltI (fun x3 => ?_)
      refine J_istore_n (lv' := [(3, vI x3), (0, vR (uB u) 149), (1, vI i1), (2, vI i2)]) G dX9_allLoads_34 rfl (by decide) rfl ?_
      refine J_iload_n G 2 dX9_allLoads_35 rfl ?_
      refine J_aload_n G 1 dX9_allLoads_36 rfl ?_
      refine J_getR (d := 150) (k := 0) G cls_9 wf_X9_11 kd_149 rfl rfl dX9_allLoads_37 ?_
      refine J_bipush G dX9_allLoads_40 (by decide) ?_
      refine J_iload_n G 3 dX9_allLoads_42 rfl ?_
      refine J_iadd G dX9_allLoads_43 ?_
      refine J_iald G kd_150 ln_150 dX9_allLoads_44 ?_
      refine J_iload_n G 0 dX9_allLoads_45 rfl ?_
      refine J_jn (fun g => ∀ x4, J u x 4 (jQ u x (EpI mem)) 54 [(0, vR (uB u) 149), (2, vI i2)] [vI x4, vI (mem 150 (s32 (23 + i2))), vI i1] mem (g x4)) ?_ ?_
      · intro x4
        refine J_imul G dX9_allLoads_54 ?_
        refine J_iadd G dX9_allLoads_55 ?_
        refine J_ltI (fun x5 => ?_)
        refine J_istore_n (lv' := [(1, vI x5), (0, vR (uB u) 149), (2, vI i2)]) G dX9_allLoads_56 rfl (by decide) rfl ?_
        refine J_iinc (lv' := [(2, vI (i2 + 1)), (1, vI x5), (0, vR (uB u) 149)]) G 2 dX9_allLoads_57 rfl (by decide) rfl ?_
        refine J_goto 4 G dX9_allLoads_60 (by decide) ?_
        refine J_lv [2, 1, 0] rfl ?_
        exact ih x5 (i2 + 1)
      · intro k54 hk54
        refine J_if_ne 53 G dX9_allLoads_46 (by decide) ?_ ?_
        · refine J_iload_n G 0 dX9_allLoads_53 rfl ?_
          refine J_lv [1, 3] rfl ?_
          exact hk54 x3
        · refine J_iconst G dX9_allLoads_49 ?_
          refine J_goto 54 G dX9_allLoads_50 (by decide) ?_
          refine J_lv [1, 3] rfl ?_
          exact hk54 1
theorem mX9_allLoads (u : jU) (mem : Mem) : jMet u yX9_allLoads cX9_allLoads 4 (some .int) (jRm 0 0) [vR (uB u) 149] mem (EpI mem) (Mo_allLoads mem) := by
  refine jMet_of (by decide +kernel) (Nat.le_of_ble_eq_true rfl) (fun x G => ?_)
  show J u x 4 (jQ u x (EpI mem)) 0 [(0, vR (uB u) 149)] [] mem _
  unfold Mo_allLoads
  refine J_iconst G dX9_allLoads_0 ?_
  refine J_istore_n (lv' := [(1, vI 0), (0, vR (uB u) 149)]) G dX9_allLoads_1 rfl (by decide) rfl ?_
  refine J_iconst G dX9_allLoads_2 ?_
  refine J_istore_n (lv' := [(2, vI 0), (1, vI 0), (0, vR (uB u) 149)]) G dX9_allLoads_3 rfl (by decide) rfl ?_
  refine J_lv [2, 1, 0] rfl ?_
  exact jMo_allLoads_L4 G mem 2000 0 0
theorem mX9_count (u : jU) (p0 : Int) (mem : Mem) : jMet u yX9_count cX9_count 2 (some .int) (jRm 1 23) [vR (uB u) 149, vI p0] mem (EpI mem) (Mo_count p0 mem) := by
  refine jMet_of (by decide +kernel) (Nat.le_of_ble_eq_true rfl) (fun x G => ?_)
  show J u x 2 (jQ u x (EpI mem)) 0 [(0, vR (uB u) 149), (1, vI p0)] [] mem _
  unfold Mo_count
  refine J_iload_n G 1 dX9_count_0 rfl ?_
  refine J_split (fun hs1 => ?_) (fun hs1 => ?_)
  · refine J_tableIn (off := 47) 48 G dX9_count_1 hs1 (by decide) (by decide) (by decide) (by decide) ?_
    refine J_aload_n G 0 dX9_count_48 rfl ?_
    refine J_getR (d := 150) (k := 0) G cls_9 wf_X9_11 kd_149 rfl rfl dX9_count_49 ?_
    refine J_iconst G dX9_count_52 ?_
    refine J_ialdC G kd_150 ln_150 (by decide) dX9_count_53 ?_
    exact J_iret G dX9_count_54 rfl
  · skip
    refine J_split (fun hs2 => ?_) (fun hs2 => ?_)
    · refine J_tableIn (off := 54) 55 G dX9_count_1 hs2 (by decide) (by decide) (by decide) (by decide) ?_
      refine J_aload_n G 0 dX9_count_55 rfl ?_
      refine J_getR (d := 150) (k := 0) G cls_9 wf_X9_11 kd_149 rfl rfl dX9_count_56 ?_
      refine J_iconst G dX9_count_59 ?_
      refine J_ialdC G kd_150 ln_150 (by decide) dX9_count_60 ?_
      exact J_iret G dX9_count_61 rfl
    · skip
      refine J_split (fun hs3 => ?_) (fun hs3 => ?_)
      · refine J_tableIn (off := 61) 62 G dX9_count_1 hs3 (by decide) (by decide) (by decide) (by decide) ?_
        refine J_aload_n G 0 dX9_count_62 rfl ?_
        refine J_getR (d := 150) (k := 0) G cls_9 wf_X9_11 kd_149 rfl rfl dX9_count_63 ?_
        refine J_bipush G dX9_count_66 (by decide) ?_
        refine J_ialdC G kd_150 ln_150 (by decide) dX9_count_68 ?_
        exact J_iret G dX9_count_69 rfl
      · skip
        refine J_split (fun hs4 => ?_) (fun hs4 => ?_)
        · refine J_tableIn (off := 69) 70 G dX9_count_1 hs4 (by decide) (by decide) (by decide) (by decide) ?_
          refine J_aload_n G 0 dX9_count_70 rfl ?_
          refine J_getR (d := 150) (k := 0) G cls_9 wf_X9_11 kd_149 rfl rfl dX9_count_71 ?_
          refine J_bipush G dX9_count_74 (by decide) ?_
          refine J_ialdC G kd_150 ln_150 (by decide) dX9_count_76 ?_
          exact J_iret G dX9_count_77 rfl
        · skip
          refine J_split (fun hs5 => ?_) (fun hs5 => ?_)
          · refine J_tableIn (off := 77) 78 G dX9_count_1 hs5 (by decide) (by decide) (by decide) (by decide) ?_
            refine J_aload_n G 0 dX9_count_78 rfl ?_
            refine J_getI (i := 4) (k := 4) G cls_9 wf_X9_78 kd_149 rfl rfl dX9_count_79 ?_
            exact J_iret G dX9_count_82 rfl
          · skip
            refine J_split (fun hs6 => ?_) (fun hs6 => ?_)
            · refine J_tableIn (off := 82) 83 G dX9_count_1 hs6 (by decide) (by decide) (by decide) (by decide) ?_
              refine J_aload_n G 0 dX9_count_83 rfl ?_
              refine J_getI (i := 23) (k := 23) G cls_9 wf_X9_116 kd_149 rfl rfl dX9_count_84 ?_
              exact J_iret G dX9_count_87 rfl
            · skip
              refine J_split (fun hs7 => ?_) (fun hs7 => ?_)
              · refine J_tableIn (off := 87) 88 G dX9_count_1 hs7 (by decide) (by decide) (by decide) (by decide) ?_
                refine J_aload_n G 0 dX9_count_88 rfl ?_
                refine J_getI (i := 32) (k := 32) G cls_9 wf_X9_119 kd_149 rfl rfl dX9_count_89 ?_
                exact J_iret G dX9_count_92 rfl
              · skip
                refine J_split (fun hs8 => ?_) (fun hs8 => ?_)
                · refine J_tableIn (off := 92) 93 G dX9_count_1 hs8 (by decide) (by decide) (by decide) (by decide) ?_
                  refine J_aload_n G 0 dX9_count_93 rfl ?_
                  refine J_cVpI (As := []) G (mX9_allLoads u mem) sg_X9_allLoads sv_X9_allLoads wm_X9_122 cls_9 kd_149 rfl ⟨by decide, by decide⟩ rfl rfl (Nat.le_of_ble_eq_true rfl) dX9_count_94 ?_
                  intro r9
                  exact J_iret G dX9_count_97 rfl
                · skip
                  refine J_tableOut 98 G dX9_count_1 (by omega) (by decide) ?_
                  refine J_iconst G dX9_count_98 ?_
                  exact J_iret G dX9_count_99 rfl
theorem jMo_divisor_L17 {u : jU} {x : jX} (G : jG u x cX9_divisor RX9 10 (some .long) (jRm 0 0)) (mem : Mem) : ∀ (n : Nat) (i2 : Int) (i3 : Int), J u x 10 (jQ u x (EpL mem)) 17 [(4, vL i2), (6, vL i3)] [] mem (Mo_divisor_L17 n i2 i3) := by
  intro n
  induction n with
  | zero => intro i2 i3; exact J_none
  | succ n ih =>
    intro i2 i3
    rw [Mo_divisor_L17]
    refine J_lload G 1 dX9_divisor_17 rfl ?_
    refine J_lconst (v := 0) G dX9_divisor_19 (by decide) ?_
    refine J_lcmp_eq 42 G dX9_divisor_20 dX9_divisor_21 (by decide) ?_ ?_
    · refine J_lload G 0 dX9_divisor_42 rfl ?_
      exact J_lret G dX9_divisor_44 rfl
    · refine J_lload G 0 dX9_divisor_24 rfl ?_
      refine J_lload G 1 dX9_divisor_26 rfl ?_
      refine J_lrem G dX9_divisor_28 ?_
      refine J_ltL (fun x4 => ?_)
      refine J_lstore (lv' := [(8, vL x4), (4, vL i2), (6, vL i3)]) G dX9_divisor_29 (by decide) rfl ?_
      refine J_lload G 2 dX9_divisor_31 rfl ?_
      refine J_lstore (lv' := [(4, vL i3), (8, vL x4), (6, vL i3)]) G dX9_divisor_33 (by decide) rfl ?_
      refine J_lload G 1 dX9_divisor_35 rfl ?_
      refine J_lstore (lv' := [(6, vL x4), (4, vL i3), (8, vL x4)]) G dX9_divisor_37 (by decide) rfl ?_
      refine J_goto 17 G dX9_divisor_39 (by decide) ?_
      refine J_lv [1, 0] rfl ?_
      exact ih i3 x4
theorem mX9_divisor (u : jU) (p0 : Int) (p1 : Int) (mem : Mem) : jMet u yX9_divisor cX9_divisor 10 (some .long) (jRm 0 0) [vL p0, vL p1] mem (EpL mem) (Mo_divisor p0 p1 mem) := by
  refine jMet_of (by decide +kernel) (Nat.le_of_ble_eq_true rfl) (fun x G => ?_)
  show J u x 10 (jQ u x (EpL mem)) 0 [(0, vL p0), (2, vL p1)] [] mem _
  unfold Mo_divisor
  refine J_lload_n G 0 dX9_divisor_0 rfl ?_
  refine J_lconst (v := 0) G dX9_divisor_1 (by decide) ?_
  refine J_jn (fun g => ∀ x1, J u x 10 (jQ u x (EpL mem)) 12 [(2, vL p1)] [vL x1] mem (g x1)) ?_ ?_
  · intro x1
    refine J_lstore (lv' := [(4, vL x1), (2, vL p1)]) G dX9_divisor_12 (by decide) rfl ?_
    refine J_lload_n G 1 dX9_divisor_14 rfl ?_
    refine J_lstore (lv' := [(6, vL p1), (4, vL x1), (2, vL p1)]) G dX9_divisor_15 (by decide) rfl ?_
    refine J_lv [1, 0] rfl ?_
    exact jMo_divisor_L17 G mem 2000 x1 p1
  · intro k12 hk12
    refine J_lcmp_ge 11 G dX9_divisor_2 dX9_divisor_3 (by decide) ?_ ?_
    · refine J_lload_n G 0 dX9_divisor_11 rfl ?_
      refine J_lv [1] rfl ?_
      exact hk12 p0
    · refine J_lload_n G 0 dX9_divisor_6 rfl ?_
      refine J_lneg G dX9_divisor_7 ?_
      refine J_goto 12 G dX9_divisor_8 (by decide) ?_
      refine J_lv [1] rfl ?_
      exact hk12 (-p0)
theorem mX9_is (u : jU) (p0 : Int) (p1 : Int) (mem : Mem) : jMet u yX9_is cX9_is 7 none (jRm 1 29) [vR (uB u) 149, vL p0, vL p1] mem EwV (Mo_is p0 p1 mem) := by
  refine jMet_of (by decide +kernel) (Nat.le_of_ble_eq_true rfl) (fun x G => ?_)
  show J u x 7 (jQ u x EwV) 0 [(0, vR (uB u) 149), (1, vL p0), (3, vL p1)] [] mem _
  unfold Mo_is
  refine J_lload_n G 1 dX9_is_0 rfl ?_
  refine J_lload_n G 2 dX9_is_1 rfl ?_
  refine J_cSpL (As := [vL p0, vL p1]) G (mX9_divisor u p0 p1 mem) sg_X9_divisor ss_X9_divisor wm_X9_126 ⟨by decide, by decide⟩ rfl rfl (Nat.le_of_ble_eq_true rfl) dX9_is_2 ?_
  intro r1
  refine J_lstore (lv' := [(5, vL r1), (0, vR (uB u) 149), (1, vL p0), (3, vL p1)]) G dX9_is_5 (by decide) rfl ?_
  refine J_aload_n G 1 dX9_is_7 rfl ?_
  refine J_lload_n G 2 dX9_is_8 rfl ?_
  refine J_lload G 0 dX9_is_9 rfl ?_
  refine J_ldiv G dX9_is_11 ?_
  refine J_putL (i := 5) (k := 5) G cls_9 wf_X9_130 kd_149 rfl rfl rfl rfl dX9_is_12 ?_
  refine J_ltM (fun m2 => ?_)
  refine J_aload_n G 1 dX9_is_15 rfl ?_
  refine J_lload_n G 3 dX9_is_16 rfl ?_
  refine J_lload G 0 dX9_is_17 rfl ?_
  refine J_ldiv G dX9_is_19 ?_
  refine J_putL (i := 6) (k := 6) G cls_9 wf_X9_21 kd_149 rfl rfl rfl rfl dX9_is_20 ?_
  refine J_ltM (fun m3 => ?_)
  exact J_vret G dX9_is_23 rfl
theorem mX9_plus (u : jU) (p0 : Int) (p1 : Int) (mem : Mem) : jMet u yX9_plus cX9_plus 7 none (jRm 2 55) [vR (uB u) 149, vL p0, vL p1] mem EwV (Mo_plus p0 p1 mem) := by
  refine jMet_of (by decide +kernel) (Nat.le_of_ble_eq_true rfl) (fun x G => ?_)
  show J u x 7 (jQ u x EwV) 0 [(0, vR (uB u) 149), (1, vL p0), (3, vL p1)] [] mem _
  unfold Mo_plus
  refine J_aload_n G 0 dX9_plus_0 rfl ?_
  refine J_getL (i := 6) (k := 6) G cls_9 wf_X9_21 kd_149 rfl rfl dX9_plus_1 ?_
  refine J_lload_n G 2 dX9_plus_4 rfl ?_
  refine J_cSpL (As := [vL (mem 149 6), vL p1]) G (mX9_divisor u (mem 149 6) p1 mem) sg_X9_divisor ss_X9_divisor wm_X9_126 ⟨by decide, by decide⟩ rfl rfl (Nat.le_of_ble_eq_true rfl) dX9_plus_5 ?_
  intro r1
  refine J_lstore (lv' := [(5, vL r1), (0, vR (uB u) 149), (1, vL p0), (3, vL p1)]) G dX9_plus_8 (by decide) rfl ?_
  refine J_aload_n G 1 dX9_plus_10 rfl ?_
  refine J_aload_n G 1 dX9_plus_11 rfl ?_
  refine J_getL (i := 5) (k := 5) G cls_9 wf_X9_130 kd_149 rfl rfl dX9_plus_12 ?_
  refine J_lload_n G 3 dX9_plus_15 rfl ?_
  refine J_lload G 0 dX9_plus_16 rfl ?_
  refine J_ldiv G dX9_plus_18 ?_
  refine J_lmul G dX9_plus_19 ?_
  refine J_lload_n G 2 dX9_plus_20 rfl ?_
  refine J_aload_n G 1 dX9_plus_21 rfl ?_
  refine J_getL (i := 6) (k := 6) G cls_9 wf_X9_21 kd_149 rfl rfl dX9_plus_22 ?_
  refine J_lload G 0 dX9_plus_25 rfl ?_
  refine J_ldiv G dX9_plus_27 ?_
  refine J_lmul G dX9_plus_28 ?_
  refine J_ladd G dX9_plus_29 ?_
  refine J_aload_n G 1 dX9_plus_30 rfl ?_
  refine J_getL (i := 6) (k := 6) G cls_9 wf_X9_21 kd_149 rfl rfl dX9_plus_31 ?_
  refine J_lload G 0 dX9_plus_34 rfl ?_
  refine J_ldiv G dX9_plus_36 ?_
  refine J_lload_n G 3 dX9_plus_37 rfl ?_
  refine J_lmul G dX9_plus_38 ?_
  refine J_cVwV (As := [vL (((mem 149 5) * ((s64 p1).tdiv (s64 r1))) + (p0 * ((s64 (mem 149 6)).tdiv (s64 r1)))), vL (((s64 (mem 149 6)).tdiv (s64 r1)) * p1)]) G (mX9_is u (((mem 149 5) * ((s64 p1).tdiv (s64 r1))) + (p0 * ((s64 (mem 149 6)).tdiv (s64 r1)))) (((s64 (mem 149 6)).tdiv (s64 r1)) * p1) mem) sg_X9_is sv_X9_is wm_X9_133 cls_9 kd_149 rfl ⟨by decide, by decide⟩ rfl rfl (Nat.le_of_ble_eq_true rfl) dX9_plus_39 ?_
  intro m2
  exact J_vret G dX9_plus_42 rfl
