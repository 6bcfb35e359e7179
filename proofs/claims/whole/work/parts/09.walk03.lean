theorem mX8_greatest (u : jU) (p0 : Int) (p1 : Int) (mem : Mem) : jMet u yX8_greatest cX8_greatest 4 (some .long) (jRm 6 148) [vR (uB u) 0, vI p0, vI p1] mem EwL (BP_greatest p0 p1 mem) := by
  refine jMet_of (by decide +kernel) (Nat.le_of_ble_eq_true rfl) (fun x G => ?_)
  show J u x 4 (jQ u x EwL) 0 [(0, vR (uB u) 0), (1, vI p0), (2, vI p1)] [] mem _
  unfold BP_greatest
  refine J_aload_n G 0 dX8_greatest_0 rfl ?_
  refine J_getR (d := 1) (k := 0) G cls_8 wf_X8_14 kd_0 rfl rfl dX8_greatest_1 ?_
  refine J_cVpI (As := []) G (mX0_stands u 1 kd_1 mem) sg_X0_stands sv_X0_stands wm_X8_171 cls_0 kd_1 rfl ⟨by decide, by decide⟩ rfl rfl (Nat.le_of_ble_eq_true rfl) dX8_greatest_4 ?_
  intro r1
  refine J_if_eq 28 G dX8_greatest_7 (by decide) ?_ ?_
  · refine J_ldc2 (v := (-9223372036854775808)) G dX8_greatest_28 wc_X8_178 (by decide) ?_
    exact J_lret G dX8_greatest_31 rfl
  · refine J_iload_n G 1 dX8_greatest_10 rfl ?_
    refine J_jn (fun g => J u x 4 (jQ u x EwL) 19 [(0, vR (uB u) 0), (1, vI p0), (2, vI p1)] [] mem (g)) ?_ ?_
    · skip
      refine J_iload_n G 2 dX8_greatest_19 rfl ?_
      refine J_if_lt 28 G dX8_greatest_20 (by decide) ?_ ?_
      · refine J_ldc2 (v := (-9223372036854775808)) G dX8_greatest_28 wc_X8_178 (by decide) ?_
        exact J_lret G dX8_greatest_31 rfl
      · refine J_iload_n G 2 dX8_greatest_23 rfl ?_
        refine J_iconst G dX8_greatest_24 ?_
        refine J_icmp_le 32 G dX8_greatest_25 (by decide) ?_ ?_
        · refine J_aload_n G 0 dX8_greatest_32 rfl ?_
          refine J_cVwV (As := []) G (mX8_solveAsItIs u mem) sg_X8_solveAsItIs sv_X8_solveAsItIs wm_X8_180 cls_8 kd_0 rfl ⟨by decide, by decide⟩ rfl rfl (Nat.le_of_ble_eq_true rfl) dX8_greatest_33 ?_
          intro m2
          refine J_aload_n G 0 dX8_greatest_36 rfl ?_
          refine J_getR (d := 111) (k := 4) G cls_8 wf_X8_31 kd_0 rfl rfl dX8_greatest_37 ?_
          refine J_cVwV (As := []) G (mX7_findPeaks u m2) sg_X7_findPeaks sv_X7_findPeaks wm_X8_218 cls_7 kd_111 rfl ⟨by decide, by decide⟩ rfl rfl (Nat.le_of_ble_eq_true rfl) dX8_greatest_40 ?_
          intro m3
          refine J_iload_n G 1 dX8_greatest_43 rfl ?_
          refine J_if_ne 57 G dX8_greatest_44 (by decide) ?_ ?_
          · refine J_aload_n G 0 dX8_greatest_57 rfl ?_
            refine J_getR (d := 111) (k := 4) G cls_8 wf_X8_31 kd_0 rfl rfl dX8_greatest_58 ?_
            refine J_getR (d := 123) (k := 13) G cls_7 wf_X8_225 kd_111 rfl rfl dX8_greatest_61 ?_
            refine J_astore_n (lv' := [(3, vR (uB u) 123), (0, vR (uB u) 0), (1, vI p0), (2, vI p1)]) G dX8_greatest_64 rfl (by decide) rfl ?_
            refine J_iload_n G 3 dX8_greatest_65 rfl ?_
            refine J_iconst G dX8_greatest_66 ?_
            refine J_icmp_ge 81 G dX8_greatest_67 (by decide) ?_ ?_
            · refine J_aload_n G 0 dX8_greatest_81 rfl ?_
              refine J_getR (d := 125) (k := 1) G cls_4 wf_X8_233 kd_123 rfl rfl dX8_greatest_82 ?_
              refine J_iload_n G 3 dX8_greatest_85 rfl ?_
              refine J_iconst G dX8_greatest_86 ?_
              refine J_isub G dX8_greatest_87 ?_
              refine J_cVpL (As := [vI (p1 - 2)]) G (mX2_told u 125 kd_125 (p1 - 2) m3) sg_X2_told sv_X2_told wm_X8_205 cls_2 kd_125 rfl ⟨by decide, by decide⟩ rfl rfl (Nat.le_of_ble_eq_true rfl) dX8_greatest_88 ?_
              intro r4
              exact J_lret G dX8_greatest_91 rfl
            · refine J_aload_n G 0 dX8_greatest_70 rfl ?_
              refine J_getR (d := 124) (k := 0) G cls_4 wf_X8_228 kd_123 rfl rfl dX8_greatest_71 ?_
              refine J_iload_n G 3 dX8_greatest_74 rfl ?_
              refine J_cVpL (As := [vI p1]) G (mX2_told u 124 kd_124 p1 m3) sg_X2_told sv_X2_told wm_X8_205 cls_2 kd_124 rfl ⟨by decide, by decide⟩ rfl rfl (Nat.le_of_ble_eq_true rfl) dX8_greatest_75 ?_
              intro r5
              refine J_goto 91 G dX8_greatest_78 (by decide) ?_
              exact J_lret G dX8_greatest_91 rfl
          · refine J_aload_n G 0 dX8_greatest_47 rfl ?_
            refine J_getR (d := 111) (k := 4) G cls_8 wf_X8_31 kd_0 rfl rfl dX8_greatest_48 ?_
            refine J_getR (d := 120) (k := 12) G cls_7 wf_X8_221 kd_111 rfl rfl dX8_greatest_51 ?_
            refine J_goto 64 G dX8_greatest_54 (by decide) ?_
            refine J_astore_n (lv' := [(3, vR (uB u) 120), (0, vR (uB u) 0), (1, vI p0), (2, vI p1)]) G dX8_greatest_64 rfl (by decide) rfl ?_
            refine J_iload_n G 3 dX8_greatest_65 rfl ?_
            refine J_iconst G dX8_greatest_66 ?_
            refine J_icmp_ge 81 G dX8_greatest_67 (by decide) ?_ ?_
            · refine J_aload_n G 0 dX8_greatest_81 rfl ?_
              refine J_getR (d := 122) (k := 1) G cls_4 wf_X8_233 kd_120 rfl rfl dX8_greatest_82 ?_
              refine J_iload_n G 3 dX8_greatest_85 rfl ?_
              refine J_iconst G dX8_greatest_86 ?_
              refine J_isub G dX8_greatest_87 ?_
              refine J_cVpL (As := [vI (p1 - 2)]) G (mX2_told u 122 kd_122 (p1 - 2) m3) sg_X2_told sv_X2_told wm_X8_205 cls_2 kd_122 rfl ⟨by decide, by decide⟩ rfl rfl (Nat.le_of_ble_eq_true rfl) dX8_greatest_88 ?_
              intro r6
              exact J_lret G dX8_greatest_91 rfl
            · refine J_aload_n G 0 dX8_greatest_70 rfl ?_
              refine J_getR (d := 121) (k := 0) G cls_4 wf_X8_228 kd_120 rfl rfl dX8_greatest_71 ?_
              refine J_iload_n G 3 dX8_greatest_74 rfl ?_
              refine J_cVpL (As := [vI p1]) G (mX2_told u 121 kd_121 p1 m3) sg_X2_told sv_X2_told wm_X8_205 cls_2 kd_121 rfl ⟨by decide, by decide⟩ rfl rfl (Nat.le_of_ble_eq_true rfl) dX8_greatest_75 ?_
              intro r7
              refine J_goto 91 G dX8_greatest_78 (by decide) ?_
              exact J_lret G dX8_greatest_91 rfl
        · refine J_ldc2 (v := (-9223372036854775808)) G dX8_greatest_28 wc_X8_178 (by decide) ?_
          exact J_lret G dX8_greatest_31 rfl
    · intro k19 hk19
      refine J_if_eq 19 G dX8_greatest_11 (by decide) ?_ ?_
      · exact hk19
      · refine J_iload_n G 1 dX8_greatest_14 rfl ?_
        refine J_iconst G dX8_greatest_15 ?_
        refine J_icmp_ne 28 G dX8_greatest_16 (by decide) ?_ ?_
        · refine J_ldc2 (v := (-9223372036854775808)) G dX8_greatest_28 wc_X8_178 (by decide) ?_
          exact J_lret G dX8_greatest_31 rfl
        · exact hk19
theorem jSta_placeOfMostSag_L4 {u : jU} {x : jX} (G : jG u x cX7_placeOfMostSag RX7 3 (some .int) (jRm 0 0)) (mem : Mem) : ∀ (n : Nat) (i1 : Int) (i2 : Int), J u x 3 (jQ u x (EpI mem)) 4 [(0, vR (uB u) 111), (1, vI i1), (2, vI i2)] [] mem (Sta_placeOfMostSag_L4 mem n i1 i2) := by
  intro n
  induction n with
  | zero => intro i1 i2; exact J_none
  | succ n ih =>
    intro i1 i2
    rw [Sta_placeOfMostSag_L4]
    refine J_iload_n G 2 dX7_placeOfMostSag_4 rfl ?_
    refine J_aload_n G 0 dX7_placeOfMostSag_5 rfl ?_
    refine J_getI (i := 0) (k := 0) G cls_7 wf_X7_78 kd_111 rfl rfl dX7_placeOfMostSag_6 ?_
    refine J_icmp_gt 36 G dX7_placeOfMostSag_9 (by decide) ?_ ?_
    · refine J_iload_n G 1 dX7_placeOfMostSag_36 rfl ?_
      exact J_iret G dX7_placeOfMostSag_37 rfl
    · refine J_aload_n G 0 dX7_placeOfMostSag_12 rfl ?_
      refine J_getR (d := 119) (k := 11) G cls_7 wf_X7_41 kd_111 rfl rfl dX7_placeOfMostSag_13 ?_
      refine J_iload_n G 2 dX7_placeOfMostSag_16 rfl ?_
      refine J_lald G kd_119 ln_119 dX7_placeOfMostSag_17 ?_
      refine J_aload_n G 0 dX7_placeOfMostSag_18 rfl ?_
      refine J_getR (d := 119) (k := 11) G cls_7 wf_X7_41 kd_111 rfl rfl dX7_placeOfMostSag_19 ?_
      refine J_iload_n G 1 dX7_placeOfMostSag_22 rfl ?_
      refine J_lald G kd_119 ln_119 dX7_placeOfMostSag_23 ?_
      refine J_lcmp_le 30 G dX7_placeOfMostSag_24 dX7_placeOfMostSag_25 (by decide) ?_ ?_
      · refine J_iinc (lv' := [(2, vI (i2 + 1)), (0, vR (uB u) 111), (1, vI i1)]) G 2 dX7_placeOfMostSag_30 rfl (by decide) rfl ?_
        refine J_goto 4 G dX7_placeOfMostSag_33 (by decide) ?_
        refine J_lv [1, 2, 0] rfl ?_
        exact ih i1 (i2 + 1)
      · refine J_iload_n G 2 dX7_placeOfMostSag_28 rfl ?_
        refine J_istore_n (lv' := [(1, vI i2), (0, vR (uB u) 111), (2, vI i2)]) G dX7_placeOfMostSag_29 rfl (by decide) rfl ?_
        refine J_iinc (lv' := [(2, vI (i2 + 1)), (1, vI i2), (0, vR (uB u) 111)]) G 2 dX7_placeOfMostSag_30 rfl (by decide) rfl ?_
        refine J_goto 4 G dX7_placeOfMostSag_33 (by decide) ?_
        refine J_lv [2, 1, 0] rfl ?_
        exact ih i2 (i2 + 1)
theorem mX7_placeOfMostSag (u : jU) (mem : Mem) : jMet u yX7_placeOfMostSag cX7_placeOfMostSag 3 (some .int) (jRm 0 0) [vR (uB u) 111] mem (EpI mem) (Sta_placeOfMostSag mem) := by
  refine jMet_of (by decide +kernel) (Nat.le_of_ble_eq_true rfl) (fun x G => ?_)
  show J u x 3 (jQ u x (EpI mem)) 0 [(0, vR (uB u) 111)] [] mem _
  unfold Sta_placeOfMostSag
  refine J_iconst G dX7_placeOfMostSag_0 ?_
  refine J_istore_n (lv' := [(1, vI 0), (0, vR (uB u) 111)]) G dX7_placeOfMostSag_1 rfl (by decide) rfl ?_
  refine J_iconst G dX7_placeOfMostSag_2 ?_
  refine J_istore_n (lv' := [(2, vI 1), (1, vI 0), (0, vR (uB u) 111)]) G dX7_placeOfMostSag_3 rfl (by decide) rfl ?_
  refine J_lv [2, 1, 0] rfl ?_
  exact jSta_placeOfMostSag_L4 G mem 2000 0 1
theorem mX8_lowest (u : jU) (mem : Mem) : jMet u yX8_lowest cX8_lowest 1 (some .int) (jRm 6 148) [vR (uB u) 0] mem EwI (BP_lowest mem) := by
  refine jMet_of (by decide +kernel) (Nat.le_of_ble_eq_true rfl) (fun x G => ?_)
  show J u x 1 (jQ u x EwI) 0 [(0, vR (uB u) 0)] [] mem _
  unfold BP_lowest
  refine J_aload_n G 0 dX8_lowest_0 rfl ?_
  refine J_getR (d := 1) (k := 0) G cls_8 wf_X8_14 kd_0 rfl rfl dX8_lowest_1 ?_
  refine J_cVpI (As := []) G (mX0_stands u 1 kd_1 mem) sg_X0_stands sv_X0_stands wm_X8_171 cls_0 kd_1 rfl ⟨by decide, by decide⟩ rfl rfl (Nat.le_of_ble_eq_true rfl) dX8_lowest_4 ?_
  intro r1
  refine J_if_ne 13 G dX8_lowest_7 (by decide) ?_ ?_
  · refine J_aload_n G 0 dX8_lowest_13 rfl ?_
    refine J_cVwV (As := []) G (mX8_solveAsItIs u mem) sg_X8_solveAsItIs sv_X8_solveAsItIs wm_X8_180 cls_8 kd_0 rfl ⟨by decide, by decide⟩ rfl rfl (Nat.le_of_ble_eq_true rfl) dX8_lowest_14 ?_
    intro m2
    refine J_aload_n G 0 dX8_lowest_17 rfl ?_
    refine J_getR (d := 111) (k := 4) G cls_8 wf_X8_31 kd_0 rfl rfl dX8_lowest_18 ?_
    refine J_cVwV (As := []) G (mX7_findSags u m2) sg_X7_findSags sv_X7_findSags wm_X8_209 cls_7 kd_111 rfl ⟨by decide, by decide⟩ rfl rfl (Nat.le_of_ble_eq_true rfl) dX8_lowest_21 ?_
    intro m3
    refine J_aload_n G 0 dX8_lowest_24 rfl ?_
    refine J_getR (d := 111) (k := 4) G cls_8 wf_X8_31 kd_0 rfl rfl dX8_lowest_25 ?_
    refine J_cVpI (As := []) G (mX7_placeOfMostSag u m3) sg_X7_placeOfMostSag sv_X7_placeOfMostSag wm_X8_236 cls_7 kd_111 rfl ⟨by decide, by decide⟩ rfl rfl (Nat.le_of_ble_eq_true rfl) dX8_lowest_28 ?_
    intro r4
    exact J_iret G dX8_lowest_31 rfl
  · refine J_bipush G dX8_lowest_10 (by decide) ?_
    exact J_iret G dX8_lowest_12 rfl
theorem mX7_tellSpan (u : jU) (mem : Mem) : jMet u yX7_tellSpan cX7_tellSpan 2 none (jRm 5 128) [vR (uB u) 111, vR (uB u) 129] mem EwV (Sta_tellSpan mem) := by
  refine jMet_of (by decide +kernel) (Nat.le_of_ble_eq_true rfl) (fun x G => ?_)
  show J u x 2 (jQ u x EwV) 0 [(0, vR (uB u) 111), (1, vR (uB u) 129)] [] mem _
  unfold Sta_tellSpan
  refine J_aload_n G 0 dX7_tellSpan_0 rfl ?_
  refine J_cVwV (As := []) G (mX7_findPeaks u mem) sg_X7_findPeaks sv_X7_findPeaks wm_X7_195 cls_7 kd_111 rfl ⟨by decide, by decide⟩ rfl rfl (Nat.le_of_ble_eq_true rfl) dX7_tellSpan_1 ?_
  intro m1
  refine J_aload_n G 1 dX7_tellSpan_4 rfl ?_
  refine J_aload_n G 0 dX7_tellSpan_5 rfl ?_
  refine J_getR (d := 123) (k := 13) G cls_7 wf_X7_53 kd_111 rfl rfl dX7_tellSpan_6 ?_
  refine J_getR (d := 124) (k := 0) G cls_4 wf_X7_198 kd_123 rfl rfl dX7_tellSpan_9 ?_
  refine J_getL (i := 0) (k := 0) G cls_2 wf_X7_199 kd_124 rfl rfl dX7_tellSpan_12 ?_
  refine J_lneg G dX7_tellSpan_15 ?_
  refine J_aload_n G 0 dX7_tellSpan_16 rfl ?_
  refine J_getR (d := 123) (k := 13) G cls_7 wf_X7_53 kd_111 rfl rfl dX7_tellSpan_17 ?_
  refine J_getR (d := 124) (k := 0) G cls_4 wf_X7_198 kd_123 rfl rfl dX7_tellSpan_20 ?_
  refine J_getL (i := 1) (k := 1) G cls_2 wf_X7_202 kd_124 rfl rfl dX7_tellSpan_23 ?_
  refine J_cVwV (As := [vL (-(m1 124 0)), vL (m1 124 1)]) G (mX2_become u 129 kd_129 (-(m1 124 0)) (m1 124 1) m1) sg_X2_become sv_X2_become wm_X7_177 cls_2 kd_129 rfl ⟨by decide, by decide⟩ rfl rfl (Nat.le_of_ble_eq_true rfl) dX7_tellSpan_26 ?_
  intro m2
  refine J_aload_n G 0 dX7_tellSpan_29 rfl ?_
  refine J_getR (d := 120) (k := 12) G cls_7 wf_X7_49 kd_111 rfl rfl dX7_tellSpan_30 ?_
  refine J_getR (d := 121) (k := 0) G cls_4 wf_X7_198 kd_120 rfl rfl dX7_tellSpan_33 ?_
  refine J_aload_n G 1 dX7_tellSpan_36 rfl ?_
  refine J_cVpI (As := [vR (uB u) 129]) G (mX2_against u 121 129 kd_121 kd_129 m2) sg_X2_against sv_X2_against wm_X7_203 cls_2 kd_121 rfl ⟨by decide, by decide⟩ rfl rfl (Nat.le_of_ble_eq_true rfl) dX7_tellSpan_37 ?_
  intro r3
  refine J_if_le 54 G dX7_tellSpan_40 (by decide) ?_ ?_
  · exact J_vret G dX7_tellSpan_54 rfl
  · refine J_aload_n G 1 dX7_tellSpan_43 rfl ?_
    refine J_aload_n G 0 dX7_tellSpan_44 rfl ?_
    refine J_getR (d := 120) (k := 12) G cls_7 wf_X7_49 kd_111 rfl rfl dX7_tellSpan_45 ?_
    refine J_getR (d := 121) (k := 0) G cls_4 wf_X7_198 kd_120 rfl rfl dX7_tellSpan_48 ?_
    refine J_cVwV (As := [vR (uB u) 121]) G (mX2_copy u 129 121 kd_129 kd_121 m2) sg_X2_copy sv_X2_copy wm_X7_207 cls_2 kd_129 rfl ⟨by decide, by decide⟩ rfl rfl (Nat.le_of_ble_eq_true rfl) dX7_tellSpan_51 ?_
    intro m4
    exact J_vret G dX7_tellSpan_54 rfl
theorem jBP_timesWithin_L3 {u : jU} {x : jX} (G : jG u x cX8_timesWithin RX8 3 (some .int) (jRm 3 81)) (p0 : Int) : ∀ (n : Nat) (i1 : Int) (m2 : Mem), J u x 3 (jQ u x EwI) 3 [(0, vR (uB u) 0), (1, vI p0), (2, vI i1)] [] m2 (BP_timesWithin_L3 p0 n i1 m2) := by
  intro n
  induction n with
  | zero => intro i1 m2; exact J_none
  | succ n ih =>
    intro i1 m2
    rw [BP_timesWithin_L3]
    refine J_iload_n G 2 dX8_timesWithin_3 rfl ?_
    refine J_if_le 40 G dX8_timesWithin_4 (by decide) ?_ ?_
    · refine J_iconst G dX8_timesWithin_40 ?_
      exact J_iret G dX8_timesWithin_41 rfl
    · refine J_aload_n G 0 dX8_timesWithin_7 rfl ?_
      refine J_getR (d := 130) (k := 6) G cls_8 wf_X8_42 kd_0 rfl rfl dX8_timesWithin_8 ?_
      refine J_iload_n G 1 dX8_timesWithin_11 rfl ?_
      refine J_i2l G dX8_timesWithin_12 ?_
      refine J_iload_n G 2 dX8_timesWithin_13 rfl ?_
      refine J_i2l G dX8_timesWithin_14 ?_
      refine J_cVwV (As := [vL (s32 p0), vL (s32 i1)]) G (mX2_become u 130 kd_130 (s32 p0) (s32 i1) m2) sg_X2_become sv_X2_become wm_X8_341 cls_2 kd_130 rfl ⟨by decide, by decide⟩ rfl rfl (Nat.le_of_ble_eq_true rfl) dX8_timesWithin_15 ?_
      intro m3
      refine J_aload_n G 0 dX8_timesWithin_18 rfl ?_
      refine J_getR (d := 129) (k := 5) G cls_8 wf_X8_38 kd_0 rfl rfl dX8_timesWithin_19 ?_
      refine J_aload_n G 0 dX8_timesWithin_22 rfl ?_
      refine J_getR (d := 130) (k := 6) G cls_8 wf_X8_42 kd_0 rfl rfl dX8_timesWithin_23 ?_
      refine J_cVpI (As := [vR (uB u) 130]) G (mX2_against u 129 130 kd_129 kd_130 m3) sg_X2_against sv_X2_against wm_X8_272 cls_2 kd_129 rfl ⟨by decide, by decide⟩ rfl rfl (Nat.le_of_ble_eq_true rfl) dX8_timesWithin_26 ?_
      intro r4
      refine J_if_gt 34 G dX8_timesWithin_29 (by decide) ?_ ?_
      · refine J_iinc (lv' := [(2, vI (i1 + -1)), (0, vR (uB u) 0), (1, vI p0)]) G 2 dX8_timesWithin_34 rfl (by decide) rfl ?_
        refine J_goto 3 G dX8_timesWithin_37 (by decide) ?_
        refine J_lv [1, 2, 0] rfl ?_
        exact ih (i1 + -1) m3
      · refine J_iload_n G 2 dX8_timesWithin_32 rfl ?_
        exact J_iret G dX8_timesWithin_33 rfl
theorem mX8_timesWithin (u : jU) (p0 : Int) (mem : Mem) : jMet u yX8_timesWithin cX8_timesWithin 3 (some .int) (jRm 3 81) [vR (uB u) 0, vI p0] mem EwI (BP_timesWithin p0 mem) := by
  refine jMet_of (by decide +kernel) (Nat.le_of_ble_eq_true rfl) (fun x G => ?_)
  show J u x 3 (jQ u x EwI) 0 [(0, vR (uB u) 0), (1, vI p0)] [] mem _
  unfold BP_timesWithin
  refine J_bipush G dX8_timesWithin_0 (by decide) ?_
  refine J_istore_n (lv' := [(2, vI 99), (0, vR (uB u) 0), (1, vI p0)]) G dX8_timesWithin_2 rfl (by decide) rfl ?_
  refine J_lv [1, 2, 0] rfl ?_
  exact jBP_timesWithin_L3 G p0 2000 99 mem
theorem mX8_times (u : jU) (p0 : Int) (mem : Mem) : jMet u yX8_times cX8_times 2 (some .int) (jRm 6 149) [vR (uB u) 0, vI p0] mem EwI (BP_times p0 mem) := by
  refine jMet_of (by decide +kernel) (Nat.le_of_ble_eq_true rfl) (fun x G => ?_)
  show J u x 2 (jQ u x EwI) 0 [(0, vR (uB u) 0), (1, vI p0)] [] mem _
  unfold BP_times
  refine J_iload_n G 1 dX8_times_0 rfl ?_
  refine J_if_lt 11 G dX8_times_1 (by decide) ?_ ?_
  · refine J_iconst G dX8_times_11 ?_
    exact J_iret G dX8_times_12 rfl
  · refine J_iload_n G 1 dX8_times_4 rfl ?_
    refine J_sipush G dX8_times_5 (by decide) ?_
    refine J_icmp_le 13 G dX8_times_8 (by decide) ?_ ?_
    · refine J_aload_n G 0 dX8_times_13 rfl ?_
      refine J_getR (d := 1) (k := 0) G cls_8 wf_X8_14 kd_0 rfl rfl dX8_times_14 ?_
      refine J_cVpI (As := []) G (mX0_stands u 1 kd_1 mem) sg_X0_stands sv_X0_stands wm_X8_171 cls_0 kd_1 rfl ⟨by decide, by decide⟩ rfl rfl (Nat.le_of_ble_eq_true rfl) dX8_times_17 ?_
      intro r1
      refine J_if_ne 26 G dX8_times_20 (by decide) ?_ ?_
      · refine J_aload_n G 0 dX8_times_26 rfl ?_
        refine J_cVwV (As := []) G (mX8_solveAsItIs u mem) sg_X8_solveAsItIs sv_X8_solveAsItIs wm_X8_180 cls_8 kd_0 rfl ⟨by decide, by decide⟩ rfl rfl (Nat.le_of_ble_eq_true rfl) dX8_times_27 ?_
        intro m2
        refine J_aload_n G 0 dX8_times_30 rfl ?_
        refine J_getR (d := 111) (k := 4) G cls_8 wf_X8_31 kd_0 rfl rfl dX8_times_31 ?_
        refine J_aload_n G 0 dX8_times_34 rfl ?_
        refine J_getR (d := 129) (k := 5) G cls_8 wf_X8_38 kd_0 rfl rfl dX8_times_35 ?_
        refine J_cVwV (As := [vR (uB u) 129]) G (mX7_tellSpan u m2) sg_X7_tellSpan sv_X7_tellSpan wm_X8_239 cls_7 kd_111 rfl ⟨by decide, by decide⟩ rfl rfl (Nat.le_of_ble_eq_true rfl) dX8_times_38 ?_
        intro m3
        refine J_aload_n G 0 dX8_times_41 rfl ?_
        refine J_getR (d := 129) (k := 5) G cls_8 wf_X8_38 kd_0 rfl rfl dX8_times_42 ?_
        refine J_getL (i := 0) (k := 0) G cls_2 wf_X8_243 kd_129 rfl rfl dX8_times_45 ?_
        refine J_lconst (v := 0) G dX8_times_48 (by decide) ?_
        refine J_lcmp_ne 58 G dX8_times_49 dX8_times_50 (by decide) ?_ ?_
        · refine J_aload_n G 0 dX8_times_58 rfl ?_
          refine J_iload_n G 1 dX8_times_59 rfl ?_
          refine J_cVwI (As := [vI p0]) G (mX8_timesWithin u p0 m3) sg_X8_timesWithin sv_X8_timesWithin wm_X8_246 cls_8 kd_0 rfl ⟨by decide, by decide⟩ rfl rfl (Nat.le_of_ble_eq_true rfl) dX8_times_60 ?_
          intro r4 m5
          exact J_iret G dX8_times_63 rfl
        · refine J_bipush G dX8_times_53 (by decide) ?_
          refine J_goto 63 G dX8_times_55 (by decide) ?_
          exact J_iret G dX8_times_63 rfl
      · refine J_bipush G dX8_times_23 (by decide) ?_
        exact J_iret G dX8_times_25 rfl
    · refine J_iconst G dX8_times_11 ?_
      exact J_iret G dX8_times_12 rfl
theorem mX8_canRoll (u : jU) (p0 : Int) (mem : Mem) : jMet u yX8_canRoll cX8_canRoll 2 (some .boolean) (jRm 1 20) [vR (uB u) 0, vI p0] mem (EpI mem) (BP_canRoll p0 mem) := by
  refine jMet_of (by decide +kernel) (Nat.le_of_ble_eq_true rfl) (fun x G => ?_)
  show J u x 2 (jQ u x (EpI mem)) 0 [(0, vR (uB u) 0), (1, vI p0)] [] mem _
  unfold BP_canRoll
  refine J_aload_n G 0 dX8_canRoll_0 rfl ?_
  refine J_getR (d := 1) (k := 0) G cls_8 wf_X8_14 kd_0 rfl rfl dX8_canRoll_1 ?_
  refine J_cVpI (As := []) G (mX0_stands u 1 kd_1 mem) sg_X0_stands sv_X0_stands wm_X8_171 cls_0 kd_1 rfl ⟨by decide, by decide⟩ rfl rfl (Nat.le_of_ble_eq_true rfl) dX8_canRoll_4 ?_
  intro r1
  refine J_if_eq 33 G dX8_canRoll_7 (by decide) ?_ ?_
  · refine J_iconst G dX8_canRoll_33 ?_
    exact J_zret G dX8_canRoll_34 (by decide) rfl
  · refine J_aload_n G 0 dX8_canRoll_10 rfl ?_
    refine J_getR (d := 1) (k := 0) G cls_8 wf_X8_14 kd_0 rfl rfl dX8_canRoll_11 ?_
    refine J_getI (i := 9) (k := 9) G cls_0 wf_X8_135 kd_1 rfl rfl dX8_canRoll_14 ?_
    refine J_if_le 33 G dX8_canRoll_17 (by decide) ?_ ?_
    · refine J_iconst G dX8_canRoll_33 ?_
      exact J_zret G dX8_canRoll_34 (by decide) rfl
    · refine J_iload_n G 1 dX8_canRoll_20 rfl ?_
      refine J_if_lt 33 G dX8_canRoll_21 (by decide) ?_ ?_
      · refine J_iconst G dX8_canRoll_33 ?_
        exact J_zret G dX8_canRoll_34 (by decide) rfl
      · refine J_iload_n G 1 dX8_canRoll_24 rfl ?_
        refine J_iconst G dX8_canRoll_25 ?_
        refine J_icmp_gt 33 G dX8_canRoll_26 (by decide) ?_ ?_
        · refine J_iconst G dX8_canRoll_33 ?_
          exact J_zret G dX8_canRoll_34 (by decide) rfl
        · refine J_iconst G dX8_canRoll_29 ?_
          refine J_goto 34 G dX8_canRoll_30 (by decide) ?_
          exact J_zret G dX8_canRoll_34 (by decide) rfl
theorem jBP_solveRolling_L13 {u : jU} {x : jX} (G : jG u x cX8_solveRolling RX8 3 none (jRm 5 128)) (p0 : Int) (k57 : Mem → Option Mem) (hk57 : (fun g => ∀ m2, J u x 3 (jQ u x EwV) 57 [(0, vR (uB u) 0)] [] m2 (g m2)) k57) : ∀ (n : Nat) (i4 : Int) (m5 : Mem), J u x 3 (jQ u x EwV) 13 [(0, vR (uB u) 0), (1, vI p0), (2, vI i4)] [] m5 (BP_solveRolling_L13 p0 k57 n i4 m5) := by
  intro n
  induction n with
  | zero => intro i4 m5; exact J_none
  | succ n ih =>
    intro i4 m5
    rw [BP_solveRolling_L13]
    refine J_iload_n G 2 dX8_solveRolling_13 rfl ?_
    refine J_aload_n G 0 dX8_solveRolling_14 rfl ?_
    refine J_getR (d := 1) (k := 0) G cls_8 wf_X8_14 kd_0 rfl rfl dX8_solveRolling_15 ?_
    refine J_getI (i := 9) (k := 9) G cls_0 wf_X8_135 kd_1 rfl rfl dX8_solveRolling_18 ?_
    refine J_icmp_ge 57 G dX8_solveRolling_21 (by decide) ?_ ?_
    · refine J_lv [0] rfl ?_
      exact hk57 m5
    · refine J_aload_n G 0 dX8_solveRolling_24 rfl ?_
      refine J_getR (d := 111) (k := 4) G cls_8 wf_X8_31 kd_0 rfl rfl dX8_solveRolling_25 ?_
      refine J_iload_n G 1 dX8_solveRolling_28 rfl ?_
      refine J_aload_n G 0 dX8_solveRolling_29 rfl ?_
      refine J_getR (d := 1) (k := 0) G cls_8 wf_X8_14 kd_0 rfl rfl dX8_solveRolling_30 ?_
      refine J_getR (d := 8) (k := 10) G cls_0 wf_X8_347 kd_1 rfl rfl dX8_solveRolling_33 ?_
      refine J_iload_n G 2 dX8_solveRolling_36 rfl ?_
      refine J_iald G kd_8 ln_8 dX8_solveRolling_37 ?_
      refine J_isub G dX8_solveRolling_38 ?_
      refine J_aload_n G 0 dX8_solveRolling_39 rfl ?_
      refine J_getR (d := 1) (k := 0) G cls_8 wf_X8_14 kd_0 rfl rfl dX8_solveRolling_40 ?_
      refine J_getR (d := 9) (k := 11) G cls_0 wf_X8_350 kd_1 rfl rfl dX8_solveRolling_43 ?_
      refine J_iload_n G 2 dX8_solveRolling_46 rfl ?_
      refine J_iald G kd_9 ln_9 dX8_solveRolling_47 ?_
      refine J_cVwV (As := [vI (p0 - (m5 8 (s32 i4))), vI (m5 9 (s32 i4))]) G (mX7_bearPoint u (p0 - (m5 8 (s32 i4))) (m5 9 (s32 i4)) m5) sg_X7_bearPoint sv_X7_bearPoint wm_X8_344 cls_7 kd_111 rfl ⟨by decide, by decide⟩ rfl rfl (Nat.le_of_ble_eq_true rfl) dX8_solveRolling_48 ?_
      intro m6
      refine J_iinc (lv' := [(2, vI (i4 + 1)), (0, vR (uB u) 0), (1, vI p0)]) G 2 dX8_solveRolling_51 rfl (by decide) rfl ?_
      refine J_goto 13 G dX8_solveRolling_54 (by decide) ?_
      refine J_lv [1, 2, 0] rfl ?_
      exact ih (i4 + 1) m6
theorem mX8_solveRolling (u : jU) (p0 : Int) (mem : Mem) : jMet u yX8_solveRolling cX8_solveRolling 3 none (jRm 5 128) [vR (uB u) 0, vI p0] mem EwV (BP_solveRolling p0 mem) := by
  refine jMet_of (by decide +kernel) (Nat.le_of_ble_eq_true rfl) (fun x G => ?_)
  show J u x 3 (jQ u x EwV) 0 [(0, vR (uB u) 0), (1, vI p0)] [] mem _
  unfold BP_solveRolling
  refine J_aload_n G 0 dX8_solveRolling_0 rfl ?_
  refine J_getR (d := 111) (k := 4) G cls_8 wf_X8_31 kd_0 rfl rfl dX8_solveRolling_1 ?_
  refine J_aload_n G 0 dX8_solveRolling_4 rfl ?_
  refine J_getR (d := 1) (k := 0) G cls_8 wf_X8_14 kd_0 rfl rfl dX8_solveRolling_5 ?_
  refine J_cVwV (As := [vR (uB u) 1]) G (mX7_frame u mem) sg_X7_frame sv_X7_frame wm_X8_262 cls_7 kd_111 rfl ⟨by decide, by decide⟩ rfl rfl (Nat.le_of_ble_eq_true rfl) dX8_solveRolling_8 ?_
  intro m1
  refine J_iconst G dX8_solveRolling_11 ?_
  refine J_istore_n (lv' := [(2, vI 0), (0, vR (uB u) 0), (1, vI p0)]) G dX8_solveRolling_12 rfl (by decide) rfl ?_
  refine J_jn (fun g => ∀ m2, J u x 3 (jQ u x EwV) 57 [(0, vR (uB u) 0)] [] m2 (g m2)) ?_ ?_
  · intro m2
    refine J_aload_n G 0 dX8_solveRolling_57 rfl ?_
    refine J_getR (d := 111) (k := 4) G cls_8 wf_X8_31 kd_0 rfl rfl dX8_solveRolling_58 ?_
    refine J_cVwV (As := []) G (mX7_solve u m2) sg_X7_solve sv_X7_solve wm_X8_269 cls_7 kd_111 rfl ⟨by decide, by decide⟩ rfl rfl (Nat.le_of_ble_eq_true rfl) dX8_solveRolling_61 ?_
    intro m3
    exact J_vret G dX8_solveRolling_64 rfl
  · intro k57 hk57
    refine J_lv [1, 2, 0] rfl ?_
    exact jBP_solveRolling_L13 G p0 k57 hk57 2000 0 m1
theorem jBP_mostByRolling_L6 {u : jU} {x : jX} (G : jG u x cX8_mostByRolling RX8 6 (some .long) (jRm 6 150)) (b : Nat) (p1 : Int) (p2 : Int) (k76 : Int → Mem → Option (Int × Mem)) (hb : kd b = 21) (hk76 : (fun g => ∀ x1 m2, J u x 6 (jQ u x EwL) 76 [(0, vR (uB u) 0), (3, vI p2), (4, vI x1)] [] m2 (g x1 m2)) k76) : ∀ (n : Nat) (i4 : Int) (i5 : Int) (m6 : Mem), J u x 6 (jQ u x EwL) 6 [(0, vR (uB u) 0), (1, vR (uB u) b), (2, vI p1), (3, vI p2), (4, vI i4), (5, vI i5)] [] m6 (BP_mostByRolling_L6 b p1 k76 n i4 i5 m6) := by
  intro n
  induction n with
  | zero => intro i4 i5 m6; exact J_none
  | succ n ih =>
    intro i4 i5 m6
    rw [BP_mostByRolling_L6]
    refine J_iload G 5 dX8_mostByRolling_6 rfl ?_
    refine J_bipush G dX8_mostByRolling_8 (by decide) ?_
    refine J_icmp_gt 76 G dX8_mostByRolling_10 (by decide) ?_ ?_
    · refine J_lv [0, 3, 4] rfl ?_
      exact hk76 i4 m6
    · refine J_aload_n G 0 dX8_mostByRolling_13 rfl ?_
      refine J_iload G 5 dX8_mostByRolling_14 rfl ?_
      refine J_cVwV (As := [vI i5]) G (mX8_solveRolling u i5 m6) sg_X8_solveRolling sv_X8_solveRolling wm_X8_353 cls_8 kd_0 rfl ⟨by decide, by decide⟩ rfl rfl (Nat.le_of_ble_eq_true rfl) dX8_mostByRolling_16 ?_
      intro m7
      refine J_aload_n G 0 dX8_mostByRolling_19 rfl ?_
      refine J_getR (d := 130) (k := 6) G cls_8 wf_X8_42 kd_0 rfl rfl dX8_mostByRolling_20 ?_
      refine J_aload_n G 1 dX8_mostByRolling_23 rfl ?_
      refine J_iload_n G 2 dX8_mostByRolling_24 rfl ?_
      refine J_lald G hb rfl dX8_mostByRolling_25 ?_
      refine J_aload_n G 0 dX8_mostByRolling_26 rfl ?_
      refine J_getR (d := 111) (k := 4) G cls_8 wf_X8_31 kd_0 rfl rfl dX8_mostByRolling_27 ?_
      refine J_getL (i := 6) (k := 6) G cls_7 wf_X8_187 kd_111 rfl rfl dX8_mostByRolling_30 ?_
      refine J_cVwV (As := [vL (m7 b (s32 p1)), vL (m7 111 6)]) G (mX2_become u 130 kd_130 (m7 b (s32 p1)) (m7 111 6) m7) sg_X2_become sv_X2_become wm_X8_341 cls_2 kd_130 rfl ⟨by decide, by decide⟩ rfl rfl (Nat.le_of_ble_eq_true rfl) dX8_mostByRolling_33 ?_
      intro m8
      refine J_iload G 5 dX8_mostByRolling_36 rfl ?_
      refine J_jn (fun g => J u x 6 (jQ u x EwL) 55 [(0, vR (uB u) 0), (1, vR (uB u) b), (2, vI p1), (3, vI p2), (5, vI i5)] [] m8 (g)) ?_ ?_
      · skip
        refine J_aload_n G 0 dX8_mostByRolling_55 rfl ?_
        refine J_getR (d := 129) (k := 5) G cls_8 wf_X8_38 kd_0 rfl rfl dX8_mostByRolling_56 ?_
        refine J_aload_n G 0 dX8_mostByRolling_59 rfl ?_
        refine J_getR (d := 130) (k := 6) G cls_8 wf_X8_42 kd_0 rfl rfl dX8_mostByRolling_60 ?_
        refine J_cVwV (As := [vR (uB u) 130]) G (mX2_copy u 129 130 kd_129 kd_130 m8) sg_X2_copy sv_X2_copy wm_X8_276 cls_2 kd_129 rfl ⟨by decide, by decide⟩ rfl rfl (Nat.le_of_ble_eq_true rfl) dX8_mostByRolling_63 ?_
        intro m9
        refine J_iload G 4 dX8_mostByRolling_66 rfl ?_
        refine J_istore (lv' := [(4, vI i5), (0, vR (uB u) 0), (1, vR (uB u) b), (2, vI p1), (3, vI p2), (5, vI i5)]) G dX8_mostByRolling_68 (by decide) rfl ?_
        refine J_iinc (lv' := [(5, vI (i5 + 1)), (4, vI i5), (0, vR (uB u) 0), (1, vR (uB u) b), (2, vI p1), (3, vI p2)]) G 5 dX8_mostByRolling_70 rfl (by decide) rfl ?_
        refine J_goto 6 G dX8_mostByRolling_73 (by decide) ?_
        refine J_lv [2, 3, 4, 5, 1, 0] rfl ?_
        exact ih i5 (i5 + 1) m9
      · intro k55 hk55
        refine J_if_eq 55 G dX8_mostByRolling_38 (by decide) ?_ ?_
        · refine J_lv [0, 1, 2, 3, 5] rfl ?_
          exact hk55
        · refine J_aload_n G 0 dX8_mostByRolling_41 rfl ?_
          refine J_getR (d := 130) (k := 6) G cls_8 wf_X8_42 kd_0 rfl rfl dX8_mostByRolling_42 ?_
          refine J_aload_n G 0 dX8_mostByRolling_45 rfl ?_
          refine J_getR (d := 129) (k := 5) G cls_8 wf_X8_38 kd_0 rfl rfl dX8_mostByRolling_46 ?_
          refine J_cVpI (As := [vR (uB u) 129]) G (mX2_against u 130 129 kd_130 kd_129 m8) sg_X2_against sv_X2_against wm_X8_272 cls_2 kd_130 rfl ⟨by decide, by decide⟩ rfl rfl (Nat.le_of_ble_eq_true rfl) dX8_mostByRolling_49 ?_
          intro r10
          refine J_if_le 70 G dX8_mostByRolling_52 (by decide) ?_ ?_
          · refine J_iinc (lv' := [(5, vI (i5 + 1)), (0, vR (uB u) 0), (1, vR (uB u) b), (2, vI p1), (3, vI p2), (4, vI i4)]) G 5 dX8_mostByRolling_70 rfl (by decide) rfl ?_
            refine J_goto 6 G dX8_mostByRolling_73 (by decide) ?_
            refine J_lv [1, 2, 3, 4, 5, 0] rfl ?_
            exact ih i4 (i5 + 1) m8
          · refine J_lv [0, 1, 2, 3, 5] rfl ?_
            exact hk55
theorem mX8_mostByRolling (u : jU) (b : Nat) (hb : kd b = 21) (p1 : Int) (p2 : Int) (mem : Mem) : jMet u yX8_mostByRolling cX8_mostByRolling 6 (some .long) (jRm 6 150) [vR (uB u) 0, vR (uB u) b, vI p1, vI p2] mem EwL (BP_mostByRolling b p1 p2 mem) := by
  refine jMet_of (by decide +kernel) (Nat.le_of_ble_eq_true rfl) (fun x G => ?_)
  show J u x 6 (jQ u x EwL) 0 [(0, vR (uB u) 0), (1, vR (uB u) b), (2, vI p1), (3, vI p2)] [] mem _
  unfold BP_mostByRolling
  refine J_iconst G dX8_mostByRolling_0 ?_
  refine J_istore (lv' := [(4, vI 0), (0, vR (uB u) 0), (1, vR (uB u) b), (2, vI p1), (3, vI p2)]) G dX8_mostByRolling_1 (by decide) rfl ?_
  refine J_iconst G dX8_mostByRolling_3 ?_
  refine J_istore (lv' := [(5, vI 0), (4, vI 0), (0, vR (uB u) 0), (1, vR (uB u) b), (2, vI p1), (3, vI p2)]) G dX8_mostByRolling_4 (by decide) rfl ?_
  refine J_jn (fun g => ∀ x1 m2, J u x 6 (jQ u x EwL) 76 [(0, vR (uB u) 0), (3, vI p2), (4, vI x1)] [] m2 (g x1 m2)) ?_ ?_
  · intro x1 m2
    refine J_iload_n G 1 dX8_mostByRolling_76 rfl ?_
    refine J_iconst G dX8_mostByRolling_77 ?_
    refine J_icmp_ne 87 G dX8_mostByRolling_78 (by decide) ?_ ?_
    · refine J_aload_n G 0 dX8_mostByRolling_87 rfl ?_
      refine J_getR (d := 129) (k := 5) G cls_8 wf_X8_38 kd_0 rfl rfl dX8_mostByRolling_88 ?_
      refine J_iload_n G 1 dX8_mostByRolling_91 rfl ?_
      refine J_cVpL (As := [vI p2]) G (mX2_told u 129 kd_129 p2 m2) sg_X2_told sv_X2_told wm_X8_205 cls_2 kd_129 rfl ⟨by decide, by decide⟩ rfl rfl (Nat.le_of_ble_eq_true rfl) dX8_mostByRolling_92 ?_
      intro r3
      exact J_lret G dX8_mostByRolling_95 rfl
    · refine J_iload G 2 dX8_mostByRolling_81 rfl ?_
      refine J_i2l G dX8_mostByRolling_83 ?_
      refine J_goto 95 G dX8_mostByRolling_84 (by decide) ?_
      exact J_lret G dX8_mostByRolling_95 rfl
  · intro k76 hk76
    refine J_lv [2, 3, 4, 5, 1, 0] rfl ?_
    exact jBP_mostByRolling_L6 G b p1 p2 k76 hb hk76 2000 0 0 mem
theorem mX8_rolls (u : jU) (p0 : Int) (p1 : Int) (mem : Mem) : jMet u yX8_rolls cX8_rolls 3 (some .long) (jRm 7 175) [vR (uB u) 0, vI p0, vI p1] mem EwL (BP_rolls p0 p1 mem) := by
  refine jMet_of (by decide +kernel) (Nat.le_of_ble_eq_true rfl) (fun x G => ?_)
  show J u x 3 (jQ u x EwL) 0 [(0, vR (uB u) 0), (1, vI p0), (2, vI p1)] [] mem _
  unfold BP_rolls
  refine J_aload_n G 0 dX8_rolls_0 rfl ?_
  refine J_iload_n G 2 dX8_rolls_1 rfl ?_
  refine J_cVpI (As := [vI p1]) G (mX8_canRoll u p1 mem) sg_X8_canRoll sv_X8_canRoll wm_X8_249 cls_8 kd_0 rfl ⟨by decide, by decide⟩ rfl rfl (Nat.le_of_ble_eq_true rfl) dX8_rolls_2 ?_
  intro r1
  refine J_if_eq 19 G dX8_rolls_5 (by decide) ?_ ?_
  · refine J_ldc2 (v := (-9223372036854775808)) G dX8_rolls_19 wc_X8_178 (by decide) ?_
    exact J_lret G dX8_rolls_22 rfl
  · refine J_aload_n G 0 dX8_rolls_8 rfl ?_
    refine J_getR (d := 1) (k := 0) G cls_8 wf_X8_14 kd_0 rfl rfl dX8_rolls_9 ?_
    refine J_iload_n G 1 dX8_rolls_12 rfl ?_
    refine J_cVpI (As := [vI p0]) G (mX0_isPlace u 1 kd_1 p0 mem) sg_X0_isPlace sv_X0_isPlace wm_X8_195 cls_0 kd_1 rfl ⟨by decide, by decide⟩ rfl rfl (Nat.le_of_ble_eq_true rfl) dX8_rolls_13 ?_
    intro r2
    refine J_if_ne 23 G dX8_rolls_16 (by decide) ?_ ?_
    · refine J_aload_n G 0 dX8_rolls_23 rfl ?_
      refine J_aload_n G 0 dX8_rolls_24 rfl ?_
      refine J_getR (d := 111) (k := 4) G cls_8 wf_X8_31 kd_0 rfl rfl dX8_rolls_25 ?_
      refine J_getR (d := 118) (k := 9) G cls_7 wf_X8_252 kd_111 rfl rfl dX8_rolls_28 ?_
      refine J_iload_n G 1 dX8_rolls_31 rfl ?_
      refine J_iload_n G 2 dX8_rolls_32 rfl ?_
      refine J_cVwL (As := [vR (uB u) 118, vI p0, vI p1]) G (mX8_mostByRolling u 118 kd_118 p0 p1 mem) sg_X8_mostByRolling sv_X8_mostByRolling wm_X8_255 cls_8 kd_0 rfl ⟨by decide, by decide⟩ rfl rfl (Nat.le_of_ble_eq_true rfl) dX8_rolls_33 ?_
      intro r3 m4
      exact J_lret G dX8_rolls_36 rfl
    · refine J_ldc2 (v := (-9223372036854775808)) G dX8_rolls_19 wc_X8_178 (by decide) ?_
      exact J_lret G dX8_rolls_22 rfl
theorem mX8_presses (u : jU) (p0 : Int) (p1 : Int) (mem : Mem) : jMet u yX8_presses cX8_presses 3 (some .long) (jRm 7 175) [vR (uB u) 0, vI p0, vI p1] mem EwL (BP_presses p0 p1 mem) := by
  refine jMet_of (by decide +kernel) (Nat.le_of_ble_eq_true rfl) (fun x G => ?_)
  show J u x 3 (jQ u x EwL) 0 [(0, vR (uB u) 0), (1, vI p0), (2, vI p1)] [] mem _
  unfold BP_presses
  refine J_aload_n G 0 dX8_presses_0 rfl ?_
  refine J_iload_n G 2 dX8_presses_1 rfl ?_
  refine J_cVpI (As := [vI p1]) G (mX8_canRoll u p1 mem) sg_X8_canRoll sv_X8_canRoll wm_X8_249 cls_8 kd_0 rfl ⟨by decide, by decide⟩ rfl rfl (Nat.le_of_ble_eq_true rfl) dX8_presses_2 ?_
  intro r1
  refine J_if_eq 19 G dX8_presses_5 (by decide) ?_ ?_
  · refine J_ldc2 (v := (-9223372036854775808)) G dX8_presses_19 wc_X8_178 (by decide) ?_
    exact J_lret G dX8_presses_22 rfl
  · refine J_aload_n G 0 dX8_presses_8 rfl ?_
    refine J_getR (d := 1) (k := 0) G cls_8 wf_X8_14 kd_0 rfl rfl dX8_presses_9 ?_
    refine J_iload_n G 1 dX8_presses_12 rfl ?_
    refine J_cVpI (As := [vI p0]) G (mX0_isSupport u 1 kd_1 p0 mem) sg_X0_isSupport sv_X0_isSupport wm_X8_147 cls_0 kd_1 rfl ⟨by decide, by decide⟩ rfl rfl (Nat.le_of_ble_eq_true rfl) dX8_presses_13 ?_
    intro r2
    refine J_if_ne 23 G dX8_presses_16 (by decide) ?_ ?_
    · refine J_aload_n G 0 dX8_presses_23 rfl ?_
      refine J_aload_n G 0 dX8_presses_24 rfl ?_
      refine J_getR (d := 111) (k := 4) G cls_8 wf_X8_31 kd_0 rfl rfl dX8_presses_25 ?_
      refine J_getR (d := 116) (k := 7) G cls_7 wf_X8_183 kd_111 rfl rfl dX8_presses_28 ?_
      refine J_iload_n G 1 dX8_presses_31 rfl ?_
      refine J_iload_n G 2 dX8_presses_32 rfl ?_
      refine J_cVwL (As := [vR (uB u) 116, vI p0, vI p1]) G (mX8_mostByRolling u 116 kd_116 p0 p1 mem) sg_X8_mostByRolling sv_X8_mostByRolling wm_X8_255 cls_8 kd_0 rfl ⟨by decide, by decide⟩ rfl rfl (Nat.le_of_ble_eq_true rfl) dX8_presses_33 ?_
      intro r3 m4
      exact J_lret G dX8_presses_36 rfl
    · refine J_ldc2 (v := (-9223372036854775808)) G dX8_presses_19 wc_X8_178 (by decide) ?_
      exact J_lret G dX8_presses_22 rfl
theorem mX8_solveUnit (u : jU) (p0 : Int) (mem : Mem) : jMet u yX8_solveUnit cX8_solveUnit 2 none (jRm 5 128) [vR (uB u) 0, vI p0] mem EwV (BP_solveUnit p0 mem) := by
  refine jMet_of (by decide +kernel) (Nat.le_of_ble_eq_true rfl) (fun x G => ?_)
  show J u x 2 (jQ u x EwV) 0 [(0, vR (uB u) 0), (1, vI p0)] [] mem _
  unfold BP_solveUnit
  refine J_aload_n G 0 dX8_solveUnit_0 rfl ?_
  refine J_getR (d := 111) (k := 4) G cls_8 wf_X8_31 kd_0 rfl rfl dX8_solveUnit_1 ?_
  refine J_aload_n G 0 dX8_solveUnit_4 rfl ?_
  refine J_getR (d := 1) (k := 0) G cls_8 wf_X8_14 kd_0 rfl rfl dX8_solveUnit_5 ?_
  refine J_cVwV (As := [vR (uB u) 1]) G (mX7_frame u mem) sg_X7_frame sv_X7_frame wm_X8_262 cls_7 kd_111 rfl ⟨by decide, by decide⟩ rfl rfl (Nat.le_of_ble_eq_true rfl) dX8_solveUnit_8 ?_
  intro m1
  refine J_aload_n G 0 dX8_solveUnit_11 rfl ?_
  refine J_getR (d := 111) (k := 4) G cls_8 wf_X8_31 kd_0 rfl rfl dX8_solveUnit_12 ?_
  refine J_iload_n G 1 dX8_solveUnit_15 rfl ?_
  refine J_iconst G dX8_solveUnit_16 ?_
  refine J_cVwV (As := [vI p0, vI 1]) G (mX7_bearPoint u p0 1 m1) sg_X7_bearPoint sv_X7_bearPoint wm_X8_344 cls_7 kd_111 rfl ⟨by decide, by decide⟩ rfl rfl (Nat.le_of_ble_eq_true rfl) dX8_solveUnit_17 ?_
  intro m2
  refine J_aload_n G 0 dX8_solveUnit_20 rfl ?_
  refine J_getR (d := 111) (k := 4) G cls_8 wf_X8_31 kd_0 rfl rfl dX8_solveUnit_21 ?_
  refine J_cVwV (As := []) G (mX7_solve u m2) sg_X7_solve sv_X7_solve wm_X8_269 cls_7 kd_111 rfl ⟨by decide, by decide⟩ rfl rfl (Nat.le_of_ble_eq_true rfl) dX8_solveUnit_24 ?_
  intro m3
  exact J_vret G dX8_solveUnit_27 rfl
theorem mX8_unit (u : jU) (p0 : Int) (p1 : Int) (p2 : Int) (mem : Mem) : jMet u yX8_unit cX8_unit 4 (some .long) (jRm 6 149) [vR (uB u) 0, vI p0, vI p1, vI p2] mem EwL (BP_unit p0 p1 p2 mem) := by
  refine jMet_of (by decide +kernel) (Nat.le_of_ble_eq_true rfl) (fun x G => ?_)
  show J u x 4 (jQ u x EwL) 0 [(0, vR (uB u) 0), (1, vI p0), (2, vI p1), (3, vI p2)] [] mem _
  unfold BP_unit
  refine J_aload_n G 0 dX8_unit_0 rfl ?_
  refine J_getR (d := 1) (k := 0) G cls_8 wf_X8_14 kd_0 rfl rfl dX8_unit_1 ?_
  refine J_cVpI (As := []) G (mX0_stands u 1 kd_1 mem) sg_X0_stands sv_X0_stands wm_X8_171 cls_0 kd_1 rfl ⟨by decide, by decide⟩ rfl rfl (Nat.le_of_ble_eq_true rfl) dX8_unit_4 ?_
  intro r1
  refine J_if_eq 39 G dX8_unit_7 (by decide) ?_ ?_
  · refine J_ldc2 (v := (-9223372036854775808)) G dX8_unit_39 wc_X8_178 (by decide) ?_
    exact J_lret G dX8_unit_42 rfl
  · refine J_aload_n G 0 dX8_unit_10 rfl ?_
    refine J_getR (d := 1) (k := 0) G cls_8 wf_X8_14 kd_0 rfl rfl dX8_unit_11 ?_
    refine J_iload_n G 1 dX8_unit_14 rfl ?_
    refine J_cVpI (As := [vI p0]) G (mX0_isPlace u 1 kd_1 p0 mem) sg_X0_isPlace sv_X0_isPlace wm_X8_195 cls_0 kd_1 rfl ⟨by decide, by decide⟩ rfl rfl (Nat.le_of_ble_eq_true rfl) dX8_unit_15 ?_
    intro r2
    refine J_if_eq 39 G dX8_unit_18 (by decide) ?_ ?_
    · refine J_ldc2 (v := (-9223372036854775808)) G dX8_unit_39 wc_X8_178 (by decide) ?_
      exact J_lret G dX8_unit_42 rfl
    · refine J_aload_n G 0 dX8_unit_21 rfl ?_
      refine J_getR (d := 1) (k := 0) G cls_8 wf_X8_14 kd_0 rfl rfl dX8_unit_22 ?_
      refine J_iload_n G 2 dX8_unit_25 rfl ?_
      refine J_cVpI (As := [vI p1]) G (mX0_isPlace u 1 kd_1 p1 mem) sg_X0_isPlace sv_X0_isPlace wm_X8_195 cls_0 kd_1 rfl ⟨by decide, by decide⟩ rfl rfl (Nat.le_of_ble_eq_true rfl) dX8_unit_26 ?_
      intro r3
      refine J_if_eq 39 G dX8_unit_29 (by decide) ?_ ?_
      · refine J_ldc2 (v := (-9223372036854775808)) G dX8_unit_39 wc_X8_178 (by decide) ?_
        exact J_lret G dX8_unit_42 rfl
      · refine J_iload_n G 3 dX8_unit_32 rfl ?_
        refine J_cSpI (As := [vI p2]) G (mX8_isPart u p2 mem) sg_X8_isPart ss_X8_isPart wm_X8_175 ⟨by decide, by decide⟩ rfl rfl (Nat.le_of_ble_eq_true rfl) dX8_unit_33 ?_
        intro r4
        refine J_if_ne 43 G dX8_unit_36 (by decide) ?_ ?_
        · refine J_aload_n G 0 dX8_unit_43 rfl ?_
          refine J_iload_n G 1 dX8_unit_44 rfl ?_
          refine J_cVwV (As := [vI p0]) G (mX8_solveUnit u p0 mem) sg_X8_solveUnit sv_X8_solveUnit wm_X8_259 cls_8 kd_0 rfl ⟨by decide, by decide⟩ rfl rfl (Nat.le_of_ble_eq_true rfl) dX8_unit_45 ?_
          intro m5
          refine J_aload_n G 0 dX8_unit_48 rfl ?_
          refine J_aload_n G 0 dX8_unit_49 rfl ?_
          refine J_getR (d := 111) (k := 4) G cls_8 wf_X8_31 kd_0 rfl rfl dX8_unit_50 ?_
          refine J_getR (d := 118) (k := 9) G cls_7 wf_X8_252 kd_111 rfl rfl dX8_unit_53 ?_
          refine J_iload_n G 2 dX8_unit_56 rfl ?_
          refine J_lald G kd_118 ln_118 dX8_unit_57 ?_
          refine J_aload_n G 0 dX8_unit_58 rfl ?_
          refine J_getR (d := 111) (k := 4) G cls_8 wf_X8_31 kd_0 rfl rfl dX8_unit_59 ?_
          refine J_getL (i := 6) (k := 6) G cls_7 wf_X8_187 kd_111 rfl rfl dX8_unit_62 ?_
          refine J_iload_n G 3 dX8_unit_65 rfl ?_
          refine J_cVwL (As := [vL (m5 118 (s32 p1)), vL (m5 111 6), vI p2]) G (mX8_inLowest u (m5 118 (s32 p1)) (m5 111 6) p2 m5) sg_X8_inLowest sv_X8_inLowest wm_X8_191 cls_8 kd_0 rfl ⟨by decide, by decide⟩ rfl rfl (Nat.le_of_ble_eq_true rfl) dX8_unit_66 ?_
          intro r6 m7
          exact J_lret G dX8_unit_69 rfl
        · refine J_ldc2 (v := (-9223372036854775808)) G dX8_unit_39 wc_X8_178 (by decide) ?_
          exact J_lret G dX8_unit_42 rfl
theorem mX8_bears (u : jU) (p0 : Int) (p1 : Int) (p2 : Int) (mem : Mem) : jMet u yX8_bears cX8_bears 4 (some .long) (jRm 6 149) [vR (uB u) 0, vI p0, vI p1, vI p2] mem EwL (BP_bears p0 p1 p2 mem) := by
  refine jMet_of (by decide +kernel) (Nat.le_of_ble_eq_true rfl) (fun x G => ?_)
  show J u x 4 (jQ u x EwL) 0 [(0, vR (uB u) 0), (1, vI p0), (2, vI p1), (3, vI p2)] [] mem _
  unfold BP_bears
  refine J_aload_n G 0 dX8_bears_0 rfl ?_
  refine J_getR (d := 1) (k := 0) G cls_8 wf_X8_14 kd_0 rfl rfl dX8_bears_1 ?_
  refine J_cVpI (As := []) G (mX0_stands u 1 kd_1 mem) sg_X0_stands sv_X0_stands wm_X8_171 cls_0 kd_1 rfl ⟨by decide, by decide⟩ rfl rfl (Nat.le_of_ble_eq_true rfl) dX8_bears_4 ?_
  intro r1
  refine J_if_eq 39 G dX8_bears_7 (by decide) ?_ ?_
  · refine J_ldc2 (v := (-9223372036854775808)) G dX8_bears_39 wc_X8_178 (by decide) ?_
    exact J_lret G dX8_bears_42 rfl
  · refine J_aload_n G 0 dX8_bears_10 rfl ?_
    refine J_getR (d := 1) (k := 0) G cls_8 wf_X8_14 kd_0 rfl rfl dX8_bears_11 ?_
    refine J_iload_n G 1 dX8_bears_14 rfl ?_
    refine J_cVpI (As := [vI p0]) G (mX0_isPlace u 1 kd_1 p0 mem) sg_X0_isPlace sv_X0_isPlace wm_X8_195 cls_0 kd_1 rfl ⟨by decide, by decide⟩ rfl rfl (Nat.le_of_ble_eq_true rfl) dX8_bears_15 ?_
    intro r2
    refine J_if_eq 39 G dX8_bears_18 (by decide) ?_ ?_
    · refine J_ldc2 (v := (-9223372036854775808)) G dX8_bears_39 wc_X8_178 (by decide) ?_
      exact J_lret G dX8_bears_42 rfl
    · refine J_aload_n G 0 dX8_bears_21 rfl ?_
      refine J_getR (d := 1) (k := 0) G cls_8 wf_X8_14 kd_0 rfl rfl dX8_bears_22 ?_
      refine J_iload_n G 2 dX8_bears_25 rfl ?_
      refine J_cVpI (As := [vI p1]) G (mX0_isSupport u 1 kd_1 p1 mem) sg_X0_isSupport sv_X0_isSupport wm_X8_147 cls_0 kd_1 rfl ⟨by decide, by decide⟩ rfl rfl (Nat.le_of_ble_eq_true rfl) dX8_bears_26 ?_
      intro r3
      refine J_if_eq 39 G dX8_bears_29 (by decide) ?_ ?_
      · refine J_ldc2 (v := (-9223372036854775808)) G dX8_bears_39 wc_X8_178 (by decide) ?_
        exact J_lret G dX8_bears_42 rfl
      · refine J_iload_n G 3 dX8_bears_32 rfl ?_
        refine J_cSpI (As := [vI p2]) G (mX8_isPart u p2 mem) sg_X8_isPart ss_X8_isPart wm_X8_175 ⟨by decide, by decide⟩ rfl rfl (Nat.le_of_ble_eq_true rfl) dX8_bears_33 ?_
        intro r4
        refine J_if_ne 43 G dX8_bears_36 (by decide) ?_ ?_
        · refine J_aload_n G 0 dX8_bears_43 rfl ?_
          refine J_iload_n G 1 dX8_bears_44 rfl ?_
          refine J_cVwV (As := [vI p0]) G (mX8_solveUnit u p0 mem) sg_X8_solveUnit sv_X8_solveUnit wm_X8_259 cls_8 kd_0 rfl ⟨by decide, by decide⟩ rfl rfl (Nat.le_of_ble_eq_true rfl) dX8_bears_45 ?_
          intro m5
          refine J_aload_n G 0 dX8_bears_48 rfl ?_
          refine J_aload_n G 0 dX8_bears_49 rfl ?_
          refine J_getR (d := 111) (k := 4) G cls_8 wf_X8_31 kd_0 rfl rfl dX8_bears_50 ?_
          refine J_getR (d := 116) (k := 7) G cls_7 wf_X8_183 kd_111 rfl rfl dX8_bears_53 ?_
          refine J_iload_n G 2 dX8_bears_56 rfl ?_
          refine J_lald G kd_116 ln_116 dX8_bears_57 ?_
          refine J_aload_n G 0 dX8_bears_58 rfl ?_
          refine J_getR (d := 111) (k := 4) G cls_8 wf_X8_31 kd_0 rfl rfl dX8_bears_59 ?_
          refine J_getL (i := 6) (k := 6) G cls_7 wf_X8_187 kd_111 rfl rfl dX8_bears_62 ?_
          refine J_iload_n G 3 dX8_bears_65 rfl ?_
          refine J_cVwL (As := [vL (m5 116 (s32 p1)), vL (m5 111 6), vI p2]) G (mX8_inLowest u (m5 116 (s32 p1)) (m5 111 6) p2 m5) sg_X8_inLowest sv_X8_inLowest wm_X8_191 cls_8 kd_0 rfl ⟨by decide, by decide⟩ rfl rfl (Nat.le_of_ble_eq_true rfl) dX8_bears_66 ?_
          intro r6 m7
          exact J_lret G dX8_bears_69 rfl
        · refine J_ldc2 (v := (-9223372036854775808)) G dX8_bears_39 wc_X8_178 (by decide) ?_
          exact J_lret G dX8_bears_42 rfl
theorem jBP_best_L91 {u : jU} {x : jX} (G : jG u x cX8_best RX8 6 (some .int) (jRm 6 149)) (p0 : Int) (x3 : Int) (x4 : Int) : ∀ (n : Nat) (i5 : Int) (i6 : Int) (m7 : Mem), J u x 6 (jQ u x EwI) 91 [(0, vR (uB u) 0), (1, vI p0), (2, vI x3), (3, vI x4), (4, vI i5), (5, vI i6)] [] m7 (BP_best_L91 p0 x3 x4 n i5 i6 m7) := by
  intro n
  induction n with
  | zero => intro i5 i6 m7; exact J_none
  | succ n ih =>
    intro i5 i6 m7
    rw [BP_best_L91]
    refine J_iload G 5 dX8_best_91 rfl ?_
    refine J_iload_n G 3 dX8_best_93 rfl ?_
    refine J_icmp_gt 189 G dX8_best_94 (by decide) ?_ ?_
    · refine J_iload G 4 dX8_best_189 rfl ?_
      exact J_iret G dX8_best_191 rfl
    · refine J_aload_n G 0 dX8_best_97 rfl ?_
      refine J_getR (d := 111) (k := 4) G cls_8 wf_X8_31 kd_0 rfl rfl dX8_best_98 ?_
      refine J_aload_n G 0 dX8_best_101 rfl ?_
      refine J_getR (d := 1) (k := 0) G cls_8 wf_X8_14 kd_0 rfl rfl dX8_best_102 ?_
      refine J_cVwV (As := [vR (uB u) 1]) G (mX7_frame u m7) sg_X7_frame sv_X7_frame wm_X8_262 cls_7 kd_111 rfl ⟨by decide, by decide⟩ rfl rfl (Nat.le_of_ble_eq_true rfl) dX8_best_105 ?_
      intro m8
      refine J_aload_n G 0 dX8_best_108 rfl ?_
      refine J_getR (d := 111) (k := 4) G cls_8 wf_X8_31 kd_0 rfl rfl dX8_best_109 ?_
      refine J_getR (d := 112) (k := 2) G cls_7 wf_X8_265 kd_111 rfl rfl dX8_best_112 ?_
      refine J_iload_n G 1 dX8_best_115 rfl ?_
      refine J_iload G 5 dX8_best_116 rfl ?_
      refine J_iast G kd_112 ln_112 dX8_best_118 ?_
      refine J_ltM (fun m9 => ?_)
      refine J_aload_n G 0 dX8_best_119 rfl ?_
      refine J_getR (d := 111) (k := 4) G cls_8 wf_X8_31 kd_0 rfl rfl dX8_best_120 ?_
      refine J_aload_n G 0 dX8_best_123 rfl ?_
      refine J_getR (d := 1) (k := 0) G cls_8 wf_X8_14 kd_0 rfl rfl dX8_best_124 ?_
      refine J_cVwV (As := [vR (uB u) 1]) G (mX7_bearLoads u m9) sg_X7_bearLoads sv_X7_bearLoads wm_X8_266 cls_7 kd_111 rfl ⟨by decide, by decide⟩ rfl rfl (Nat.le_of_ble_eq_true rfl) dX8_best_127 ?_
      intro m10
      refine J_aload_n G 0 dX8_best_130 rfl ?_
      refine J_getR (d := 111) (k := 4) G cls_8 wf_X8_31 kd_0 rfl rfl dX8_best_131 ?_
      refine J_cVwV (As := []) G (mX7_solve u m10) sg_X7_solve sv_X7_solve wm_X8_269 cls_7 kd_111 rfl ⟨by decide, by decide⟩ rfl rfl (Nat.le_of_ble_eq_true rfl) dX8_best_134 ?_
      intro m11
      refine J_aload_n G 0 dX8_best_137 rfl ?_
      refine J_getR (d := 111) (k := 4) G cls_8 wf_X8_31 kd_0 rfl rfl dX8_best_138 ?_
      refine J_aload_n G 0 dX8_best_141 rfl ?_
      refine J_getR (d := 129) (k := 5) G cls_8 wf_X8_38 kd_0 rfl rfl dX8_best_142 ?_
      refine J_cVwV (As := [vR (uB u) 129]) G (mX7_tellSpan u m11) sg_X7_tellSpan sv_X7_tellSpan wm_X8_239 cls_7 kd_111 rfl ⟨by decide, by decide⟩ rfl rfl (Nat.le_of_ble_eq_true rfl) dX8_best_145 ?_
      intro m12
      refine J_iload G 5 dX8_best_148 rfl ?_
      refine J_iload_n G 2 dX8_best_150 rfl ?_
      refine J_jn (fun g => J u x 6 (jQ u x EwI) 168 [(0, vR (uB u) 0), (1, vI p0), (2, vI x3), (3, vI x4), (5, vI i6)] [] m12 (g)) ?_ ?_
      · skip
        refine J_aload_n G 0 dX8_best_168 rfl ?_
        refine J_getR (d := 130) (k := 6) G cls_8 wf_X8_42 kd_0 rfl rfl dX8_best_169 ?_
        refine J_aload_n G 0 dX8_best_172 rfl ?_
        refine J_getR (d := 129) (k := 5) G cls_8 wf_X8_38 kd_0 rfl rfl dX8_best_173 ?_
        refine J_cVwV (As := [vR (uB u) 129]) G (mX2_copy u 130 129 kd_130 kd_129 m12) sg_X2_copy sv_X2_copy wm_X8_276 cls_2 kd_130 rfl ⟨by decide, by decide⟩ rfl rfl (Nat.le_of_ble_eq_true rfl) dX8_best_176 ?_
        intro m13
        refine J_iload G 4 dX8_best_179 rfl ?_
        refine J_istore (lv' := [(4, vI i6), (0, vR (uB u) 0), (1, vI p0), (2, vI x3), (3, vI x4), (5, vI i6)]) G dX8_best_181 (by decide) rfl ?_
        refine J_iinc (lv' := [(5, vI (i6 + 1)), (4, vI i6), (0, vR (uB u) 0), (1, vI p0), (2, vI x3), (3, vI x4)]) G 5 dX8_best_183 rfl (by decide) rfl ?_
        refine J_goto 91 G dX8_best_186 (by decide) ?_
        refine J_lv [2, 3, 4, 5, 1, 0] rfl ?_
        exact ih i6 (i6 + 1) m13
      · intro k168 hk168
        refine J_icmp_eq 168 G dX8_best_151 (by decide) ?_ ?_
        · refine J_lv [0, 1, 2, 3, 5] rfl ?_
          exact hk168
        · refine J_aload_n G 0 dX8_best_154 rfl ?_
          refine J_getR (d := 129) (k := 5) G cls_8 wf_X8_38 kd_0 rfl rfl dX8_best_155 ?_
          refine J_aload_n G 0 dX8_best_158 rfl ?_
          refine J_getR (d := 130) (k := 6) G cls_8 wf_X8_42 kd_0 rfl rfl dX8_best_159 ?_
          refine J_cVpI (As := [vR (uB u) 130]) G (mX2_against u 129 130 kd_129 kd_130 m12) sg_X2_against sv_X2_against wm_X8_272 cls_2 kd_129 rfl ⟨by decide, by decide⟩ rfl rfl (Nat.le_of_ble_eq_true rfl) dX8_best_162 ?_
          intro r14
          refine J_if_ge 183 G dX8_best_165 (by decide) ?_ ?_
          · refine J_iinc (lv' := [(5, vI (i6 + 1)), (0, vR (uB u) 0), (1, vI p0), (2, vI x3), (3, vI x4), (4, vI i5)]) G 5 dX8_best_183 rfl (by decide) rfl ?_
            refine J_goto 91 G dX8_best_186 (by decide) ?_
            refine J_lv [1, 2, 3, 4, 5, 0] rfl ?_
            exact ih i5 (i6 + 1) m12
          · refine J_lv [0, 1, 2, 3, 5] rfl ?_
            exact hk168
theorem mX8_best (u : jU) (p0 : Int) (mem : Mem) : jMet u yX8_best cX8_best 6 (some .int) (jRm 6 149) [vR (uB u) 0, vI p0] mem EwI (BP_best p0 mem) := by
  refine jMet_of (by decide +kernel) (Nat.le_of_ble_eq_true rfl) (fun x G => ?_)
  show J u x 6 (jQ u x EwI) 0 [(0, vR (uB u) 0), (1, vI p0)] [] mem _
  unfold BP_best
  refine J_aload_n G 0 dX8_best_0 rfl ?_
  refine J_getR (d := 1) (k := 0) G cls_8 wf_X8_14 kd_0 rfl rfl dX8_best_1 ?_
  refine J_iload_n G 1 dX8_best_4 rfl ?_
  refine J_cVpI (As := [vI p0]) G (mX0_isSupport u 1 kd_1 p0 mem) sg_X0_isSupport sv_X0_isSupport wm_X8_147 cls_0 kd_1 rfl ⟨by decide, by decide⟩ rfl rfl (Nat.le_of_ble_eq_true rfl) dX8_best_5 ?_
  intro r1
  refine J_if_ne 13 G dX8_best_8 (by decide) ?_ ?_
  · refine J_aload_n G 0 dX8_best_13 rfl ?_
    refine J_getR (d := 1) (k := 0) G cls_8 wf_X8_14 kd_0 rfl rfl dX8_best_14 ?_
    refine J_cVpI (As := []) G (mX0_stands u 1 kd_1 mem) sg_X0_stands sv_X0_stands wm_X8_171 cls_0 kd_1 rfl ⟨by decide, by decide⟩ rfl rfl (Nat.le_of_ble_eq_true rfl) dX8_best_17 ?_
    intro r2
    refine J_if_ne 26 G dX8_best_20 (by decide) ?_ ?_
    · refine J_iload_n G 1 dX8_best_26 rfl ?_
      refine J_jn (fun g => ∀ x3, J u x 6 (jQ u x EwI) 47 [(0, vR (uB u) 0), (1, vI p0)] [vI x3] mem (g x3)) ?_ ?_
      · intro x3
        refine J_istore_n (lv' := [(2, vI x3), (0, vR (uB u) 0), (1, vI p0)]) G dX8_best_47 rfl (by decide) rfl ?_
        refine J_iload_n G 2 dX8_best_48 rfl ?_
        refine J_aload_n G 1 dX8_best_49 rfl ?_
        refine J_getR (d := 1) (k := 0) G cls_8 wf_X8_14 kd_0 rfl rfl dX8_best_50 ?_
        refine J_getI (i := 1) (k := 1) G cls_0 wf_X8_156 kd_1 rfl rfl dX8_best_53 ?_
        refine J_iconst G dX8_best_56 ?_
        refine J_isub G dX8_best_57 ?_
        refine J_jn (fun g => ∀ x4, J u x 6 (jQ u x EwI) 84 [(0, vR (uB u) 0), (1, vI p0), (2, vI x3)] [vI x4] mem (g x4)) ?_ ?_
        · intro x4
          refine J_istore_n (lv' := [(3, vI x4), (0, vR (uB u) 0), (1, vI p0), (2, vI x3)]) G dX8_best_84 rfl (by decide) rfl ?_
          refine J_iload_n G 3 dX8_best_85 rfl ?_
          refine J_istore (lv' := [(4, vI x3), (3, vI x4), (0, vR (uB u) 0), (1, vI p0), (2, vI x3)]) G dX8_best_86 (by decide) rfl ?_
          refine J_iload_n G 4 dX8_best_88 rfl ?_
          refine J_istore (lv' := [(5, vI x3), (4, vI x3), (3, vI x4), (0, vR (uB u) 0), (1, vI p0), (2, vI x3)]) G dX8_best_89 (by decide) rfl ?_
          refine J_lv [3, 4, 5, 2, 1, 0] rfl ?_
          exact jBP_best_L91 G p0 x3 x4 2000 x3 x3 mem
        · intro k84 hk84
          refine J_icmp_ne 71 G dX8_best_58 (by decide) ?_ ?_
          · refine J_aload_n G 1 dX8_best_71 rfl ?_
            refine J_getR (d := 1) (k := 0) G cls_8 wf_X8_14 kd_0 rfl rfl dX8_best_72 ?_
            refine J_getR (d := 2) (k := 2) G cls_0 wf_X8_150 kd_1 rfl rfl dX8_best_75 ?_
            refine J_iload_n G 2 dX8_best_78 rfl ?_
            refine J_iconst G dX8_best_79 ?_
            refine J_iadd G dX8_best_80 ?_
            refine J_iald G kd_2 ln_2 dX8_best_81 ?_
            refine J_iconst G dX8_best_82 ?_
            refine J_isub G dX8_best_83 ?_
            refine J_lv [1, 2, 0] rfl ?_
            exact hk84 ((mem 2 (s32 (p0 + 1))) - 1)
          · refine J_aload_n G 1 dX8_best_61 rfl ?_
            refine J_getR (d := 1) (k := 0) G cls_8 wf_X8_14 kd_0 rfl rfl dX8_best_62 ?_
            refine J_getI (i := 0) (k := 0) G cls_0 wf_X8_70 kd_1 rfl rfl dX8_best_65 ?_
            refine J_goto 84 G dX8_best_68 (by decide) ?_
            refine J_lv [1, 2, 0] rfl ?_
            exact hk84 (mem 1 0)
      · intro k47 hk47
        refine J_if_ne 34 G dX8_best_27 (by decide) ?_ ?_
        · refine J_aload_n G 0 dX8_best_34 rfl ?_
          refine J_getR (d := 1) (k := 0) G cls_8 wf_X8_14 kd_0 rfl rfl dX8_best_35 ?_
          refine J_getR (d := 2) (k := 2) G cls_0 wf_X8_150 kd_1 rfl rfl dX8_best_38 ?_
          refine J_iload_n G 1 dX8_best_41 rfl ?_
          refine J_iconst G dX8_best_42 ?_
          refine J_isub G dX8_best_43 ?_
          refine J_iald G kd_2 ln_2 dX8_best_44 ?_
          refine J_iconst G dX8_best_45 ?_
          refine J_iadd G dX8_best_46 ?_
          exact hk47 ((mem 2 (s32 (p0 - 1))) + 1)
        · refine J_iconst G dX8_best_30 ?_
          refine J_goto 47 G dX8_best_31 (by decide) ?_
          exact hk47 0
    · refine J_bipush G dX8_best_23 (by decide) ?_
      exact J_iret G dX8_best_25 rfl
  · refine J_iconst G dX8_best_11 ?_
    exact J_iret G dX8_best_12 rfl
theorem mX8_hinged (u : jU) (p0 : Int) (p1 : Int) (mem : Mem) : jMet u yX8_hinged cX8_hinged 3 (some .long) (jRm 6 149) [vR (uB u) 0, vI p0, vI p1] mem EwL (BP_hinged p0 p1 mem) := by
  refine jMet_of (by decide +kernel) (Nat.le_of_ble_eq_true rfl) (fun x G => ?_)
  show J u x 3 (jQ u x EwL) 0 [(0, vR (uB u) 0), (1, vI p0), (2, vI p1)] [] mem _
  unfold BP_hinged
  refine J_aload_n G 0 dX8_hinged_0 rfl ?_
  refine J_getR (d := 1) (k := 0) G cls_8 wf_X8_14 kd_0 rfl rfl dX8_hinged_1 ?_
  refine J_cVpI (As := []) G (mX0_stands u 1 kd_1 mem) sg_X0_stands sv_X0_stands wm_X8_171 cls_0 kd_1 rfl ⟨by decide, by decide⟩ rfl rfl (Nat.le_of_ble_eq_true rfl) dX8_hinged_4 ?_
  intro r1
  refine J_if_eq 46 G dX8_hinged_7 (by decide) ?_ ?_
  · refine J_ldc2 (v := (-9223372036854775808)) G dX8_hinged_46 wc_X8_178 (by decide) ?_
    exact J_lret G dX8_hinged_49 rfl
  · refine J_iload_n G 2 dX8_hinged_10 rfl ?_
    refine J_cSpI (As := [vI p1]) G (mX8_isPart u p1 mem) sg_X8_isPart ss_X8_isPart wm_X8_175 ⟨by decide, by decide⟩ rfl rfl (Nat.le_of_ble_eq_true rfl) dX8_hinged_11 ?_
    intro r2
    refine J_if_eq 46 G dX8_hinged_14 (by decide) ?_ ?_
    · refine J_ldc2 (v := (-9223372036854775808)) G dX8_hinged_46 wc_X8_178 (by decide) ?_
      exact J_lret G dX8_hinged_49 rfl
    · refine J_iload_n G 1 dX8_hinged_17 rfl ?_
      refine J_if_le 46 G dX8_hinged_18 (by decide) ?_ ?_
      · refine J_ldc2 (v := (-9223372036854775808)) G dX8_hinged_46 wc_X8_178 (by decide) ?_
        exact J_lret G dX8_hinged_49 rfl
      · refine J_iload_n G 1 dX8_hinged_21 rfl ?_
        refine J_aload_n G 0 dX8_hinged_22 rfl ?_
        refine J_getR (d := 1) (k := 0) G cls_8 wf_X8_14 kd_0 rfl rfl dX8_hinged_23 ?_
        refine J_getI (i := 1) (k := 1) G cls_0 wf_X8_156 kd_1 rfl rfl dX8_hinged_26 ?_
        refine J_iconst G dX8_hinged_29 ?_
        refine J_isub G dX8_hinged_30 ?_
        refine J_icmp_ge 46 G dX8_hinged_31 (by decide) ?_ ?_
        · refine J_ldc2 (v := (-9223372036854775808)) G dX8_hinged_46 wc_X8_178 (by decide) ?_
          exact J_lret G dX8_hinged_49 rfl
        · refine J_aload_n G 0 dX8_hinged_34 rfl ?_
          refine J_getR (d := 1) (k := 0) G cls_8 wf_X8_14 kd_0 rfl rfl dX8_hinged_35 ?_
          refine J_getR (d := 3) (k := 3) G cls_0 wf_X8_153 kd_1 rfl rfl dX8_hinged_38 ?_
          refine J_iload_n G 1 dX8_hinged_41 rfl ?_
          refine J_iald G kd_3 ln_3 dX8_hinged_42 ?_
          refine J_if_eq 50 G dX8_hinged_43 (by decide) ?_ ?_
          · refine J_aload_n G 0 dX8_hinged_50 rfl ?_
            refine J_getR (d := 111) (k := 4) G cls_8 wf_X8_31 kd_0 rfl rfl dX8_hinged_51 ?_
            refine J_aload_n G 0 dX8_hinged_54 rfl ?_
            refine J_getR (d := 1) (k := 0) G cls_8 wf_X8_14 kd_0 rfl rfl dX8_hinged_55 ?_
            refine J_cVwV (As := [vR (uB u) 1]) G (mX7_frame u mem) sg_X7_frame sv_X7_frame wm_X8_262 cls_7 kd_111 rfl ⟨by decide, by decide⟩ rfl rfl (Nat.le_of_ble_eq_true rfl) dX8_hinged_58 ?_
            intro m3
            refine J_aload_n G 0 dX8_hinged_61 rfl ?_
            refine J_getR (d := 111) (k := 4) G cls_8 wf_X8_31 kd_0 rfl rfl dX8_hinged_62 ?_
            refine J_getR (d := 113) (k := 3) G cls_7 wf_X8_279 kd_111 rfl rfl dX8_hinged_65 ?_
            refine J_iload_n G 1 dX8_hinged_68 rfl ?_
            refine J_iconst G dX8_hinged_69 ?_
            refine J_iast G kd_113 ln_113 dX8_hinged_70 ?_
            refine J_ltM (fun m4 => ?_)
            refine J_aload_n G 0 dX8_hinged_71 rfl ?_
            refine J_getR (d := 111) (k := 4) G cls_8 wf_X8_31 kd_0 rfl rfl dX8_hinged_72 ?_
            refine J_aload_n G 0 dX8_hinged_75 rfl ?_
            refine J_getR (d := 1) (k := 0) G cls_8 wf_X8_14 kd_0 rfl rfl dX8_hinged_76 ?_
            refine J_cVwV (As := [vR (uB u) 1]) G (mX7_bearLoads u m4) sg_X7_bearLoads sv_X7_bearLoads wm_X8_266 cls_7 kd_111 rfl ⟨by decide, by decide⟩ rfl rfl (Nat.le_of_ble_eq_true rfl) dX8_hinged_79 ?_
            intro m5
            refine J_aload_n G 0 dX8_hinged_82 rfl ?_
            refine J_getR (d := 111) (k := 4) G cls_8 wf_X8_31 kd_0 rfl rfl dX8_hinged_83 ?_
            refine J_cVwV (As := []) G (mX7_solve u m5) sg_X7_solve sv_X7_solve wm_X8_269 cls_7 kd_111 rfl ⟨by decide, by decide⟩ rfl rfl (Nat.le_of_ble_eq_true rfl) dX8_hinged_86 ?_
            intro m6
            refine J_aload_n G 0 dX8_hinged_89 rfl ?_
            refine J_getR (d := 111) (k := 4) G cls_8 wf_X8_31 kd_0 rfl rfl dX8_hinged_90 ?_
            refine J_aload_n G 0 dX8_hinged_93 rfl ?_
            refine J_getR (d := 129) (k := 5) G cls_8 wf_X8_38 kd_0 rfl rfl dX8_hinged_94 ?_
            refine J_cVwV (As := [vR (uB u) 129]) G (mX7_tellSpan u m6) sg_X7_tellSpan sv_X7_tellSpan wm_X8_239 cls_7 kd_111 rfl ⟨by decide, by decide⟩ rfl rfl (Nat.le_of_ble_eq_true rfl) dX8_hinged_97 ?_
            intro m7
            refine J_aload_n G 0 dX8_hinged_100 rfl ?_
            refine J_getR (d := 129) (k := 5) G cls_8 wf_X8_38 kd_0 rfl rfl dX8_hinged_101 ?_
            refine J_iload_n G 2 dX8_hinged_104 rfl ?_
            refine J_cVpL (As := [vI p1]) G (mX2_told u 129 kd_129 p1 m7) sg_X2_told sv_X2_told wm_X8_205 cls_2 kd_129 rfl ⟨by decide, by decide⟩ rfl rfl (Nat.le_of_ble_eq_true rfl) dX8_hinged_105 ?_
            intro r8
            exact J_lret G dX8_hinged_108 rfl
          · refine J_ldc2 (v := (-9223372036854775808)) G dX8_hinged_46 wc_X8_178 (by decide) ?_
            exact J_lret G dX8_hinged_49 rfl
theorem mX5_take (u : jU) (p0 : Int) (mem : Mem) : jMet u yX5_take cX5_take 2 (some .int) (jRm 0 0) [vR (uB u) 131, vI p0] mem EwI (Rd_take p0 mem) := by
  refine jMet_of (by decide +kernel) (Nat.le_of_ble_eq_true rfl) (fun x G => ?_)
  show J u x 2 (jQ u x EwI) 0 [(0, vR (uB u) 131), (1, vI p0)] [] mem _
  unfold Rd_take
  refine J_aload_n G 0 dX5_take_0 rfl ?_
  refine J_getI (i := 0) (k := 0) G cls_5 wf_X5_26 kd_131 rfl rfl dX5_take_1 ?_
  refine J_bipush G dX5_take_4 (by decide) ?_
  refine J_icmp_lt 12 G dX5_take_6 (by decide) ?_ ?_
  · refine J_aload_n G 0 dX5_take_12 rfl ?_
    refine J_getR (d := 141) (k := 2) G cls_5 wf_X5_18 kd_131 rfl rfl dX5_take_13 ?_
    refine J_aload_n G 0 dX5_take_16 rfl ?_
    refine J_getI (i := 0) (k := 0) G cls_5 wf_X5_26 kd_131 rfl rfl dX5_take_17 ?_
    refine J_iload_n G 1 dX5_take_20 rfl ?_
    refine J_i2b G dX5_take_21 ?_
    refine J_bast G kd_141 ln_141 dX5_take_22 ?_
    refine J_ltM (fun m1 => ?_)
    refine J_aload_n G 0 dX5_take_23 rfl ?_
    refine J_dup G dX5_take_24 rfl ?_
    refine J_getI (i := 0) (k := 0) G cls_5 wf_X5_26 kd_131 rfl rfl dX5_take_25 ?_
    refine J_iconst G dX5_take_28 ?_
    refine J_iadd G dX5_take_29 ?_
    refine J_putI (i := 0) (k := 0) G cls_5 wf_X5_26 kd_131 rfl rfl rfl rfl dX5_take_30 ?_
    refine J_ltM (fun m2 => ?_)
    refine J_aload_n G 0 dX5_take_33 rfl ?_
    refine J_getI (i := 0) (k := 0) G cls_5 wf_X5_26 kd_131 rfl rfl dX5_take_34 ?_
    exact J_iret G dX5_take_37 rfl
  · refine J_bipush G dX5_take_9 (by decide) ?_
    exact J_iret G dX5_take_11 rfl
theorem mX8_feed (u : jU) (p0 : Int) (mem : Mem) : jMet u yX8_feed cX8_feed 2 (some .int) (jRm 1 21) [vR (uB u) 0, vI p0] mem EwI (BP_feed p0 mem) := by
  refine jMet_of (by decide +kernel) (Nat.le_of_ble_eq_true rfl) (fun x G => ?_)
  show J u x 2 (jQ u x EwI) 0 [(0, vR (uB u) 0), (1, vI p0)] [] mem _
  unfold BP_feed
  refine J_iload_n G 1 dX8_feed_0 rfl ?_
  refine J_iconst G dX8_feed_1 ?_
  refine J_icmp_lt 11 G dX8_feed_2 (by decide) ?_ ?_
  · refine J_iconst G dX8_feed_11 ?_
    exact J_iret G dX8_feed_12 rfl
  · refine J_iload_n G 1 dX8_feed_5 rfl ?_
    refine J_bipush G dX8_feed_6 (by decide) ?_
    refine J_icmp_le 13 G dX8_feed_8 (by decide) ?_ ?_
    · refine J_aload_n G 0 dX8_feed_13 rfl ?_
      refine J_getR (d := 131) (k := 7) G cls_8 wf_X8_48 kd_0 rfl rfl dX8_feed_14 ?_
      refine J_iload_n G 1 dX8_feed_17 rfl ?_
      refine J_cVwI (As := [vI p0]) G (mX5_take u p0 mem) sg_X5_take sv_X5_take wm_X8_280 cls_5 kd_131 rfl ⟨by decide, by decide⟩ rfl rfl (Nat.le_of_ble_eq_true rfl) dX8_feed_18 ?_
      intro r1 m2
      exact J_iret G dX8_feed_21 rfl
    · refine J_iconst G dX8_feed_11 ?_
      exact J_iret G dX8_feed_12 rfl
theorem mX5_isLetter (u : jU) (p0 : Int) (mem : Mem) : jMet u yX5_isLetter cX5_isLetter 1 (some .boolean) (jRm 0 0) [vI p0] mem (EpI mem) (Rd_isLetter p0 mem) := by
  refine jMet_of (by decide +kernel) (Nat.le_of_ble_eq_true rfl) (fun x G => ?_)
  show J u x 1 (jQ u x (EpI mem)) 0 [(0, vI p0)] [] mem _
  unfold Rd_isLetter
  refine J_iload_n G 0 dX5_isLetter_0 rfl ?_
  refine J_bipush G dX5_isLetter_1 (by decide) ?_
  refine J_icmp_lt 16 G dX5_isLetter_3 (by decide) ?_ ?_
  · refine J_iconst G dX5_isLetter_16 ?_
    exact J_zret G dX5_isLetter_17 (by decide) rfl
  · refine J_iload_n G 0 dX5_isLetter_6 rfl ?_
    refine J_bipush G dX5_isLetter_7 (by decide) ?_
    refine J_icmp_gt 16 G dX5_isLetter_9 (by decide) ?_ ?_
    · refine J_iconst G dX5_isLetter_16 ?_
      exact J_zret G dX5_isLetter_17 (by decide) rfl
    · refine J_iconst G dX5_isLetter_12 ?_
      refine J_goto 17 G dX5_isLetter_13 (by decide) ?_
      exact J_zret G dX5_isLetter_17 (by decide) rfl
theorem mX5_isNext (u : jU) (p0 : Int) (mem : Mem) : jMet u yX5_isNext cX5_isNext 2 (some .boolean) (jRm 0 0) [vR (uB u) 131, vI p0] mem (EpI mem) (Rd_isNext p0 mem) := by
  refine jMet_of (by decide +kernel) (Nat.le_of_ble_eq_true rfl) (fun x G => ?_)
  show J u x 2 (jQ u x (EpI mem)) 0 [(0, vR (uB u) 131), (1, vI p0)] [] mem _
  unfold Rd_isNext
  refine J_aload_n G 0 dX5_isNext_0 rfl ?_
  refine J_getI (i := 3) (k := 3) G cls_5 wf_X5_38 kd_131 rfl rfl dX5_isNext_1 ?_
  refine J_aload_n G 0 dX5_isNext_4 rfl ?_
  refine J_getI (i := 0) (k := 0) G cls_5 wf_X5_26 kd_131 rfl rfl dX5_isNext_5 ?_
  refine J_icmp_ge 28 G dX5_isNext_8 (by decide) ?_ ?_
  · refine J_iconst G dX5_isNext_28 ?_
    exact J_zret G dX5_isNext_29 (by decide) rfl
  · refine J_aload_n G 0 dX5_isNext_11 rfl ?_
    refine J_getR (d := 141) (k := 2) G cls_5 wf_X5_18 kd_131 rfl rfl dX5_isNext_12 ?_
    refine J_aload_n G 0 dX5_isNext_15 rfl ?_
    refine J_getI (i := 3) (k := 3) G cls_5 wf_X5_38 kd_131 rfl rfl dX5_isNext_16 ?_
    refine J_bald G kd_141 ln_141 dX5_isNext_19 ?_
    refine J_iload_n G 1 dX5_isNext_20 rfl ?_
    refine J_icmp_ne 28 G dX5_isNext_21 (by decide) ?_ ?_
    · refine J_iconst G dX5_isNext_28 ?_
      exact J_zret G dX5_isNext_29 (by decide) rfl
    · refine J_iconst G dX5_isNext_24 ?_
      refine J_goto 29 G dX5_isNext_25 (by decide) ?_
      exact J_zret G dX5_isNext_29 (by decide) rfl
theorem mX5_isFigureNext (u : jU) (mem : Mem) : jMet u yX5_isFigureNext cX5_isFigureNext 1 (some .boolean) (jRm 0 0) [vR (uB u) 131] mem (EpI mem) (Rd_isFigureNext mem) := by
  refine jMet_of (by decide +kernel) (Nat.le_of_ble_eq_true rfl) (fun x G => ?_)
  show J u x 1 (jQ u x (EpI mem)) 0 [(0, vR (uB u) 131)] [] mem _
  unfold Rd_isFigureNext
  refine J_aload_n G 0 dX5_isFigureNext_0 rfl ?_
  refine J_getI (i := 3) (k := 3) G cls_5 wf_X5_38 kd_131 rfl rfl dX5_isFigureNext_1 ?_
  refine J_aload_n G 0 dX5_isFigureNext_4 rfl ?_
  refine J_getI (i := 0) (k := 0) G cls_5 wf_X5_26 kd_131 rfl rfl dX5_isFigureNext_5 ?_
  refine J_icmp_ge 43 G dX5_isFigureNext_8 (by decide) ?_ ?_
  · refine J_iconst G dX5_isFigureNext_43 ?_
    exact J_zret G dX5_isFigureNext_44 (by decide) rfl
  · refine J_aload_n G 0 dX5_isFigureNext_11 rfl ?_
    refine J_getR (d := 141) (k := 2) G cls_5 wf_X5_18 kd_131 rfl rfl dX5_isFigureNext_12 ?_
    refine J_aload_n G 0 dX5_isFigureNext_15 rfl ?_
    refine J_getI (i := 3) (k := 3) G cls_5 wf_X5_38 kd_131 rfl rfl dX5_isFigureNext_16 ?_
    refine J_bald G kd_141 ln_141 dX5_isFigureNext_19 ?_
    refine J_bipush G dX5_isFigureNext_20 (by decide) ?_
    refine J_icmp_lt 43 G dX5_isFigureNext_22 (by decide) ?_ ?_
    · refine J_iconst G dX5_isFigureNext_43 ?_
      exact J_zret G dX5_isFigureNext_44 (by decide) rfl
    · refine J_aload_n G 0 dX5_isFigureNext_25 rfl ?_
      refine J_getR (d := 141) (k := 2) G cls_5 wf_X5_18 kd_131 rfl rfl dX5_isFigureNext_26 ?_
      refine J_aload_n G 0 dX5_isFigureNext_29 rfl ?_
      refine J_getI (i := 3) (k := 3) G cls_5 wf_X5_38 kd_131 rfl rfl dX5_isFigureNext_30 ?_
      refine J_bald G kd_141 ln_141 dX5_isFigureNext_33 ?_
      refine J_bipush G dX5_isFigureNext_34 (by decide) ?_
      refine J_icmp_gt 43 G dX5_isFigureNext_36 (by decide) ?_ ?_
      · refine J_iconst G dX5_isFigureNext_43 ?_
        exact J_zret G dX5_isFigureNext_44 (by decide) rfl
      · refine J_iconst G dX5_isFigureNext_39 ?_
        refine J_goto 44 G dX5_isFigureNext_40 (by decide) ?_
        exact J_zret G dX5_isFigureNext_44 (by decide) rfl
theorem mX5_readNumber (u : jU) (p0 : Int) (p1 : Int) (mem : Mem) : jMet u yX5_readNumber cX5_readNumber 5 (some .boolean) (jRm 1 21) [vR (uB u) 131, vI p0, vI p1] mem EwI (Rd_readNumber p0 p1 mem) := by
  refine jMet_of (by decide +kernel) (Nat.le_of_ble_eq_true rfl) (fun x G => ?_)
  show J u x 5 (jQ u x EwI) 0 [(0, vR (uB u) 131), (1, vI p0), (2, vI p1)] [] mem _
  unfold Rd_readNumber
  refine J_aload_n G 0 dX5_readNumber_0 rfl ?_
  refine J_bipush G dX5_readNumber_1 (by decide) ?_
  refine J_cVpI (As := [vI 32]) G (mX5_isNext u 32 mem) sg_X5_isNext sv_X5_isNext wm_X5_69 cls_5 kd_131 rfl ⟨by decide, by decide⟩ rfl rfl (Nat.le_of_ble_eq_true rfl) dX5_readNumber_3 ?_
  intro r1
  refine J_if_ne 11 G dX5_readNumber_6 (by decide) ?_ ?_
  · refine J_aload_n G 0 dX5_readNumber_11 rfl ?_
    refine J_dup G dX5_readNumber_12 rfl ?_
    refine J_getI (i := 3) (k := 3) G cls_5 wf_X5_38 kd_131 rfl rfl dX5_readNumber_13 ?_
    refine J_iconst G dX5_readNumber_16 ?_
    refine J_iadd G dX5_readNumber_17 ?_
    refine J_putI (i := 3) (k := 3) G cls_5 wf_X5_38 kd_131 rfl rfl rfl rfl dX5_readNumber_18 ?_
    refine J_ltM (fun m2 => ?_)
    refine J_iload_n G 2 dX5_readNumber_21 rfl ?_
    refine J_jn (fun g => ∀ x3, J u x 5 (jQ u x EwI) 39 [(0, vR (uB u) 131), (1, vI p0)] [vI x3] m2 (g x3)) ?_ ?_
    · intro x3
      refine J_istore_n (lv' := [(3, vI x3), (0, vR (uB u) 131), (1, vI p0)]) G dX5_readNumber_39 rfl (by decide) rfl ?_
      refine J_iload_n G 0 dX5_readNumber_40 rfl ?_
      refine J_jn (fun g => ∀ m4, J u x 5 (jQ u x EwI) 54 [(0, vR (uB u) 131), (1, vI p0), (3, vI x3)] [] m4 (g m4)) ?_ ?_
      · intro m4
        refine J_aload_n G 0 dX5_readNumber_54 rfl ?_
        refine J_cVpI (As := []) G (mX5_isFigureNext u m4) sg_X5_isFigureNext sv_X5_isFigureNext wm_X5_72 cls_5 kd_131 rfl ⟨by decide, by decide⟩ rfl rfl (Nat.le_of_ble_eq_true rfl) dX5_readNumber_55 ?_
        intro r5
        refine J_if_ne 63 G dX5_readNumber_58 (by decide) ?_ ?_
        · refine J_aload_n G 0 dX5_readNumber_63 rfl ?_
          refine J_getR (d := 141) (k := 2) G cls_5 wf_X5_18 kd_131 rfl rfl dX5_readNumber_64 ?_
          refine J_aload_n G 0 dX5_readNumber_67 rfl ?_
          refine J_getI (i := 3) (k := 3) G cls_5 wf_X5_38 kd_131 rfl rfl dX5_readNumber_68 ?_
          refine J_bald G kd_141 ln_141 dX5_readNumber_71 ?_
          refine J_bipush G dX5_readNumber_72 (by decide) ?_
          refine J_isub G dX5_readNumber_74 ?_
          refine J_ltI (fun x6 => ?_)
          refine J_istore (lv' := [(4, vI x6), (0, vR (uB u) 131), (1, vI p0), (3, vI x3)]) G dX5_readNumber_75 (by decide) rfl ?_
          refine J_aload_n G 1 dX5_readNumber_77 rfl ?_
          refine J_dup G dX5_readNumber_78 rfl ?_
          refine J_getI (i := 3) (k := 3) G cls_5 wf_X5_38 kd_131 rfl rfl dX5_readNumber_79 ?_
          refine J_iconst G dX5_readNumber_82 ?_
          refine J_iadd G dX5_readNumber_83 ?_
          refine J_putI (i := 3) (k := 3) G cls_5 wf_X5_38 kd_131 rfl rfl rfl rfl dX5_readNumber_84 ?_
          refine J_ltM (fun m7 => ?_)
          refine J_aload_n G 1 dX5_readNumber_87 rfl ?_
          refine J_cVpI (As := []) G (mX5_isFigureNext u m7) sg_X5_isFigureNext sv_X5_isFigureNext wm_X5_72 cls_5 kd_131 rfl ⟨by decide, by decide⟩ rfl rfl (Nat.le_of_ble_eq_true rfl) dX5_readNumber_88 ?_
          intro r8
          refine J_jn (fun g => ∀ x9 m10, J u x 5 (jQ u x EwI) 124 [(0, vR (uB u) 131), (1, vI p0), (3, vI x3), (4, vI x9)] [] m10 (g x9 m10)) ?_ ?_
          · intro x9 m10
            refine J_aload_n G 0 dX5_readNumber_124 rfl ?_
            refine J_getR (d := 142) (k := 5) G cls_5 wf_X5_22 kd_131 rfl rfl dX5_readNumber_125 ?_
            refine J_iload_n G 1 dX5_readNumber_128 rfl ?_
            refine J_iload_n G 2 dX5_readNumber_129 rfl ?_
            refine J_jn (fun g => ∀ x11, J u x 5 (jQ u x EwI) 141 [] [vI x11, vI p0, vR (uB u) 142] m10 (g x11)) ?_ ?_
            · intro x11
              refine J_iast G kd_142 ln_142 dX5_readNumber_141 ?_
              refine J_ltM (fun m12 => ?_)
              refine J_iconst G dX5_readNumber_142 ?_
              exact J_zret G dX5_readNumber_143 (by decide) rfl
            · intro k141 hk141
              refine J_if_eq 139 G dX5_readNumber_130 (by decide) ?_ ?_
              · refine J_iload G 3 dX5_readNumber_139 rfl ?_
                refine J_lv [] rfl ?_
                exact hk141 x9
              · refine J_iload G 3 dX5_readNumber_133 rfl ?_
                refine J_ineg G dX5_readNumber_135 ?_
                refine J_goto 141 G dX5_readNumber_136 (by decide) ?_
                refine J_lv [] rfl ?_
                exact hk141 (-x9)
          · intro k124 hk124
            refine J_if_eq 124 G dX5_readNumber_91 (by decide) ?_ ?_
            · refine J_lv [1, 2, 3, 0] rfl ?_
              exact hk124 x6 m7
            · refine J_bipush G dX5_readNumber_94 (by decide) ?_
              refine J_iload G 0 dX5_readNumber_96 rfl ?_
              refine J_imul G dX5_readNumber_98 ?_
              refine J_aload_n G 1 dX5_readNumber_99 rfl ?_
              refine J_getR (d := 141) (k := 2) G cls_5 wf_X5_18 kd_131 rfl rfl dX5_readNumber_100 ?_
              refine J_aload_n G 1 dX5_readNumber_103 rfl ?_
              refine J_getI (i := 3) (k := 3) G cls_5 wf_X5_38 kd_131 rfl rfl dX5_readNumber_104 ?_
              refine J_bald G kd_141 ln_141 dX5_readNumber_107 ?_
              refine J_iadd G dX5_readNumber_108 ?_
              refine J_bipush G dX5_readNumber_109 (by decide) ?_
              refine J_isub G dX5_readNumber_111 ?_
              refine J_ltI (fun x13 => ?_)
              refine J_istore (lv' := [(4, vI x13), (0, vR (uB u) 131), (1, vI p0), (3, vI x3)]) G dX5_readNumber_112 (by decide) rfl ?_
              refine J_aload_n G 1 dX5_readNumber_114 rfl ?_
              refine J_dup G dX5_readNumber_115 rfl ?_
              refine J_getI (i := 3) (k := 3) G cls_5 wf_X5_38 kd_131 rfl rfl dX5_readNumber_116 ?_
              refine J_iconst G dX5_readNumber_119 ?_
              refine J_iadd G dX5_readNumber_120 ?_
              refine J_putI (i := 3) (k := 3) G cls_5 wf_X5_38 kd_131 rfl rfl rfl rfl dX5_readNumber_121 ?_
              refine J_ltM (fun m14 => ?_)
              refine J_lv [1, 2, 3, 0] rfl ?_
              exact hk124 x13 m14
        · refine J_iconst G dX5_readNumber_61 ?_
          exact J_zret G dX5_readNumber_62 (by decide) rfl
      · intro k54 hk54
        refine J_if_eq 54 G dX5_readNumber_41 (by decide) ?_ ?_
        · refine J_lv [1, 2, 0] rfl ?_
          exact hk54 m2
        · refine J_aload_n G 1 dX5_readNumber_44 rfl ?_
          refine J_dup G dX5_readNumber_45 rfl ?_
          refine J_getI (i := 3) (k := 3) G cls_5 wf_X5_38 kd_131 rfl rfl dX5_readNumber_46 ?_
          refine J_iconst G dX5_readNumber_49 ?_
          refine J_iadd G dX5_readNumber_50 ?_
          refine J_putI (i := 3) (k := 3) G cls_5 wf_X5_38 kd_131 rfl rfl rfl rfl dX5_readNumber_51 ?_
          refine J_ltM (fun m15 => ?_)
          refine J_lv [1, 2, 0] rfl ?_
          exact hk54 m15
    · intro k39 hk39
      refine J_jn (fun g => J u x 5 (jQ u x EwI) 38 [(0, vR (uB u) 131), (1, vI p0)] [] m2 (g)) ?_ ?_
      · skip
        refine J_iconst G dX5_readNumber_38 ?_
        exact hk39 0
      · intro k38 hk38
        refine J_if_eq 38 G dX5_readNumber_22 (by decide) ?_ ?_
        · refine J_lv [0, 1] rfl ?_
          exact hk38
        · refine J_aload_n G 0 dX5_readNumber_25 rfl ?_
          refine J_bipush G dX5_readNumber_26 (by decide) ?_
          refine J_cVpI (As := [vI 45]) G (mX5_isNext u 45 m2) sg_X5_isNext sv_X5_isNext wm_X5_69 cls_5 kd_131 rfl ⟨by decide, by decide⟩ rfl rfl (Nat.le_of_ble_eq_true rfl) dX5_readNumber_28 ?_
          intro r16
          refine J_if_eq 38 G dX5_readNumber_31 (by decide) ?_ ?_
          · refine J_lv [0, 1] rfl ?_
            exact hk38
          · refine J_iconst G dX5_readNumber_34 ?_
            refine J_goto 39 G dX5_readNumber_35 (by decide) ?_
            refine J_lv [0, 1] rfl ?_
            exact hk39 1
  · refine J_iconst G dX5_readNumber_9 ?_
    exact J_zret G dX5_readNumber_10 (by decide) rfl
theorem jRd_readStatement_L60 {u : jU} {x : jX} (G : jG u x cX5_readStatement RX5 4 (some .boolean) (jRm 6 187)) : ∀ (n : Nat) (i6 : Int) (m7 : Mem), J u x 4 (jQ u x EwI) 60 [(0, vR (uB u) 131), (2, vI i6)] [] m7 (Rd_readStatement_L60 n i6 m7) := by
  intro n
  induction n with
  | zero => intro i6 m7; exact J_none
  | succ n ih =>
    intro i6 m7
    rw [Rd_readStatement_L60]
    refine J_iload_n G 1 dX5_readStatement_60 rfl ?_
    refine J_getNums G wf_X5_62 dX5_readStatement_61 ?_
    refine J_aload_n G 0 dX5_readStatement_64 rfl ?_
    refine J_getI (i := 4) (k := 4) G cls_5 wf_X5_59 kd_131 rfl rfl dX5_readStatement_65 ?_
    refine J_nums G dX5_readStatement_68 ?_
    refine J_icmp_ge 125 G dX5_readStatement_69 (by decide) ?_ ?_
    · refine J_iconst G dX5_readStatement_125 ?_
      exact J_zret G dX5_readStatement_126 (by decide) rfl
    · refine J_iload_n G 1 dX5_readStatement_72 rfl ?_
      refine J_getNums G wf_X5_62 dX5_readStatement_73 ?_
      refine J_aload_n G 0 dX5_readStatement_76 rfl ?_
      refine J_getI (i := 4) (k := 4) G cls_5 wf_X5_59 kd_131 rfl rfl dX5_readStatement_77 ?_
      refine J_nums G dX5_readStatement_80 ?_
      refine J_iconst G dX5_readStatement_81 ?_
      refine J_isub G dX5_readStatement_82 ?_
      refine J_jn (fun g => ∀ x8, J u x 4 (jQ u x EwI) 107 [(0, vR (uB u) 131), (2, vI i6)] [vI x8] m7 (g x8)) ?_ ?_
      · intro x8
        refine J_istore_n (lv' := [(3, vI x8), (0, vR (uB u) 131), (2, vI i6)]) G dX5_readStatement_107 rfl (by decide) rfl ?_
        refine J_aload_n G 1 dX5_readStatement_108 rfl ?_
        refine J_iload_n G 2 dX5_readStatement_109 rfl ?_
        refine J_iload_n G 0 dX5_readStatement_110 rfl ?_
        refine J_cVwI (As := [vI i6, vI x8]) G (mX5_readNumber u i6 x8 m7) sg_X5_readNumber sv_X5_readNumber wm_X5_65 cls_5 kd_131 rfl ⟨by decide, by decide⟩ rfl rfl (Nat.le_of_ble_eq_true rfl) dX5_readStatement_111 ?_
        intro r9 m10
        refine J_if_ne 119 G dX5_readStatement_114 (by decide) ?_ ?_
        · refine J_iinc (lv' := [(2, vI (i6 + 1)), (3, vI x8), (0, vR (uB u) 131)]) G 2 dX5_readStatement_119 rfl (by decide) rfl ?_
          refine J_goto 60 G dX5_readStatement_122 (by decide) ?_
          refine J_lv [2, 0] rfl ?_
          exact ih (i6 + 1) m10
        · refine J_iconst G dX5_readStatement_117 ?_
          exact J_zret G dX5_readStatement_118 (by decide) rfl
      · intro k107 hk107
        refine J_jn (fun g => J u x 4 (jQ u x EwI) 106 [(0, vR (uB u) 131), (2, vI i6)] [] m7 (g)) ?_ ?_
        · skip
          refine J_iconst G dX5_readStatement_106 ?_
          exact hk107 0
        · intro k106 hk106
          refine J_icmp_ne 106 G dX5_readStatement_83 (by decide) ?_ ?_
          · exact hk106
          · refine J_aload_n G 0 dX5_readStatement_86 rfl ?_
            refine J_getI (i := 4) (k := 4) G cls_5 wf_X5_59 kd_131 rfl rfl dX5_readStatement_87 ?_
            refine J_iconst G dX5_readStatement_90 ?_
            refine J_jn (fun g => J u x 4 (jQ u x EwI) 102 [(0, vR (uB u) 131), (2, vI i6)] [] m7 (g)) ?_ ?_
            · skip
              refine J_iconst G dX5_readStatement_102 ?_
              refine J_goto 107 G dX5_readStatement_103 (by decide) ?_
              exact hk107 1
            · intro k102 hk102
              refine J_icmp_eq 102 G dX5_readStatement_91 (by decide) ?_ ?_
              · exact hk102
              · refine J_aload_n G 0 dX5_readStatement_94 rfl ?_
                refine J_getI (i := 4) (k := 4) G cls_5 wf_X5_59 kd_131 rfl rfl dX5_readStatement_95 ?_
                refine J_iconst G dX5_readStatement_98 ?_
                refine J_icmp_ne 106 G dX5_readStatement_99 (by decide) ?_ ?_
                · exact hk106
                · exact hk102
theorem jRd_readStatement_L5 {u : jU} {x : jX} (G : jG u x cX5_readStatement RX5 4 (some .boolean) (jRm 6 187)) (mem : Mem) (k31 : Int → Option (Int × Mem)) (hk31 : (fun g => ∀ x2, J u x 4 (jQ u x EwI) 31 [(0, vR (uB u) 131), (1, vI x2)] [] mem (g x2)) k31) : ∀ (n : Nat) (i11 : Int), J u x 4 (jQ u x EwI) 5 [(0, vR (uB u) 131), (1, vI i11)] [] mem (Rd_readStatement_L5 mem k31 n i11) := by
  intro n
  induction n with
  | zero => intro i11; exact J_none
  | succ n ih =>
    intro i11
    rw [Rd_readStatement_L5]
    refine J_iload_n G 1 dX5_readStatement_5 rfl ?_
    refine J_aload_n G 0 dX5_readStatement_6 rfl ?_
    refine J_getI (i := 0) (k := 0) G cls_5 wf_X5_26 kd_131 rfl rfl dX5_readStatement_7 ?_
    refine J_icmp_ge 31 G dX5_readStatement_10 (by decide) ?_ ?_
    · exact hk31 i11
    · refine J_aload_n G 0 dX5_readStatement_13 rfl ?_
      refine J_getR (d := 141) (k := 2) G cls_5 wf_X5_18 kd_131 rfl rfl dX5_readStatement_14 ?_
      refine J_iload_n G 1 dX5_readStatement_17 rfl ?_
      refine J_bald G kd_141 ln_141 dX5_readStatement_18 ?_
      refine J_cSpI (As := [vI (mem 141 (s32 i11))]) G (mX5_isLetter u (mem 141 (s32 i11)) mem) sg_X5_isLetter ss_X5_isLetter wm_X5_51 ⟨by decide, by decide⟩ rfl rfl (Nat.le_of_ble_eq_true rfl) dX5_readStatement_19 ?_
      intro r12
      refine J_if_eq 31 G dX5_readStatement_22 (by decide) ?_ ?_
      · exact hk31 i11
      · refine J_iinc (lv' := [(1, vI (i11 + 1)), (0, vR (uB u) 131)]) G 1 dX5_readStatement_25 rfl (by decide) rfl ?_
        refine J_goto 5 G dX5_readStatement_28 (by decide) ?_
        refine J_lv [1, 0] rfl ?_
        exact ih (i11 + 1)
theorem mX5_readStatement (u : jU) (mem : Mem) : jMet u yX5_readStatement cX5_readStatement 4 (some .boolean) (jRm 6 187) [vR (uB u) 131] mem EwI (Rd_readStatement mem) := by
  refine jMet_of (by decide +kernel) (Nat.le_of_ble_eq_true rfl) (fun x G => ?_)
  show J u x 4 (jQ u x EwI) 0 [(0, vR (uB u) 131)] [] mem _
  unfold Rd_readStatement
  refine J_aload_n G 0 dX5_readStatement_0 rfl ?_
  refine J_getI (i := 3) (k := 3) G cls_5 wf_X5_38 kd_131 rfl rfl dX5_readStatement_1 ?_
  refine J_ltI (fun x1 => ?_)
  refine J_istore_n (lv' := [(1, vI x1), (0, vR (uB u) 131)]) G dX5_readStatement_4 rfl (by decide) rfl ?_
  refine J_jn (fun g => ∀ x2, J u x 4 (jQ u x EwI) 31 [(0, vR (uB u) 131), (1, vI x2)] [] mem (g x2)) ?_ ?_
  · intro x2
    refine J_aload_n G 0 dX5_readStatement_31 rfl ?_
    refine J_aload_n G 0 dX5_readStatement_32 rfl ?_
    refine J_aload_n G 0 dX5_readStatement_33 rfl ?_
    refine J_getI (i := 3) (k := 3) G cls_5 wf_X5_38 kd_131 rfl rfl dX5_readStatement_34 ?_
    refine J_iload_n G 1 dX5_readStatement_37 rfl ?_
    refine J_cVpI (As := [vI (mem 131 3), vI x2]) G (mX5_wordWithin u (mem 131 3) x2 mem) sg_X5_wordWithin sv_X5_wordWithin wm_X5_55 cls_5 kd_131 rfl ⟨by decide, by decide⟩ rfl rfl (Nat.le_of_ble_eq_true rfl) dX5_readStatement_38 ?_
    intro r3
    refine J_putI (i := 4) (k := 4) G cls_5 wf_X5_59 kd_131 rfl rfl rfl rfl dX5_readStatement_41 ?_
    refine J_ltM (fun m4 => ?_)
    refine J_aload_n G 0 dX5_readStatement_44 rfl ?_
    refine J_getI (i := 4) (k := 4) G cls_5 wf_X5_59 kd_131 rfl rfl dX5_readStatement_45 ?_
    refine J_if_ge 53 G dX5_readStatement_48 (by decide) ?_ ?_
    · refine J_aload_n G 0 dX5_readStatement_53 rfl ?_
      refine J_iload_n G 1 dX5_readStatement_54 rfl ?_
      refine J_putI (i := 3) (k := 3) G cls_5 wf_X5_38 kd_131 rfl rfl rfl rfl dX5_readStatement_55 ?_
      refine J_ltM (fun m5 => ?_)
      refine J_iconst G dX5_readStatement_58 ?_
      refine J_istore_n (lv' := [(2, vI 0), (0, vR (uB u) 131), (1, vI x2)]) G dX5_readStatement_59 rfl (by decide) rfl ?_
      refine J_lv [1, 0] rfl ?_
      exact jRd_readStatement_L60 G 2000 0 m5
    · refine J_iconst G dX5_readStatement_51 ?_
      exact J_zret G dX5_readStatement_52 (by decide) rfl
  · intro k31 hk31
    refine J_lv [1, 0] rfl ?_
    exact jRd_readStatement_L5 G mem k31 hk31 2000 x1
theorem jRd_placeOfNoText_L7 {u : jU} {x : jX} (G : jG u x cX5_placeOfNoText RX5 2 (some .int) (jRm 7 210)) : ∀ (n : Nat) (i2 : Int) (m3 : Mem), J u x 2 (jQ u x EwI) 7 [(0, vR (uB u) 131), (1, vI i2)] [] m3 (Rd_placeOfNoText_L7 n i2 m3) := by
  intro n
  induction n with
  | zero => intro i2 m3; exact J_none
  | succ n ih =>
    intro i2 m3
    rw [Rd_placeOfNoText_L7]
    refine J_iload_n G 1 dX5_placeOfNoText_7 rfl ?_
    refine J_bipush G dX5_placeOfNoText_8 (by decide) ?_
    refine J_icmp_gt 73 G dX5_placeOfNoText_10 (by decide) ?_ ?_
    · refine J_aload_n G 0 dX5_placeOfNoText_73 rfl ?_
      refine J_getI (i := 3) (k := 3) G cls_5 wf_X5_38 kd_131 rfl rfl dX5_placeOfNoText_74 ?_
      exact J_iret G dX5_placeOfNoText_77 rfl
    · refine J_aload_n G 0 dX5_placeOfNoText_13 rfl ?_
      refine J_cVwI (As := []) G (mX5_readStatement u m3) sg_X5_readStatement sv_X5_readStatement wm_X5_41 cls_5 kd_131 rfl ⟨by decide, by decide⟩ rfl rfl (Nat.le_of_ble_eq_true rfl) dX5_placeOfNoText_14 ?_
      intro r4 m5
      refine J_if_ne 25 G dX5_placeOfNoText_17 (by decide) ?_ ?_
      · refine J_aload_n G 0 dX5_placeOfNoText_25 rfl ?_
        refine J_getI (i := 3) (k := 3) G cls_5 wf_X5_38 kd_131 rfl rfl dX5_placeOfNoText_26 ?_
        refine J_aload_n G 0 dX5_placeOfNoText_29 rfl ?_
        refine J_getI (i := 0) (k := 0) G cls_5 wf_X5_26 kd_131 rfl rfl dX5_placeOfNoText_30 ?_
        refine J_icmp_lt 38 G dX5_placeOfNoText_33 (by decide) ?_ ?_
        · refine J_aload_n G 0 dX5_placeOfNoText_38 rfl ?_
          refine J_getR (d := 141) (k := 2) G cls_5 wf_X5_18 kd_131 rfl rfl dX5_placeOfNoText_39 ?_
          refine J_aload_n G 0 dX5_placeOfNoText_42 rfl ?_
          refine J_getI (i := 3) (k := 3) G cls_5 wf_X5_38 kd_131 rfl rfl dX5_placeOfNoText_43 ?_
          refine J_bald G kd_141 ln_141 dX5_placeOfNoText_46 ?_
          refine J_bipush G dX5_placeOfNoText_47 (by decide) ?_
          refine J_icmp_eq 57 G dX5_placeOfNoText_49 (by decide) ?_ ?_
          · refine J_aload_n G 0 dX5_placeOfNoText_57 rfl ?_
            refine J_dup G dX5_placeOfNoText_58 rfl ?_
            refine J_getI (i := 3) (k := 3) G cls_5 wf_X5_38 kd_131 rfl rfl dX5_placeOfNoText_59 ?_
            refine J_iconst G dX5_placeOfNoText_62 ?_
            refine J_iadd G dX5_placeOfNoText_63 ?_
            refine J_putI (i := 3) (k := 3) G cls_5 wf_X5_38 kd_131 rfl rfl rfl rfl dX5_placeOfNoText_64 ?_
            refine J_ltM (fun m6 => ?_)
            refine J_iinc (lv' := [(1, vI (i2 + 1)), (0, vR (uB u) 131)]) G 1 dX5_placeOfNoText_67 rfl (by decide) rfl ?_
            refine J_goto 7 G dX5_placeOfNoText_70 (by decide) ?_
            refine J_lv [1, 0] rfl ?_
            exact ih (i2 + 1) m6
          · refine J_aload_n G 0 dX5_placeOfNoText_52 rfl ?_
            refine J_getI (i := 3) (k := 3) G cls_5 wf_X5_38 kd_131 rfl rfl dX5_placeOfNoText_53 ?_
            exact J_iret G dX5_placeOfNoText_56 rfl
        · refine J_iconst G dX5_placeOfNoText_36 ?_
          exact J_iret G dX5_placeOfNoText_37 rfl
      · refine J_aload_n G 0 dX5_placeOfNoText_20 rfl ?_
        refine J_getI (i := 3) (k := 3) G cls_5 wf_X5_38 kd_131 rfl rfl dX5_placeOfNoText_21 ?_
        exact J_iret G dX5_placeOfNoText_24 rfl
theorem mX5_placeOfNoText (u : jU) (mem : Mem) : jMet u yX5_placeOfNoText cX5_placeOfNoText 2 (some .int) (jRm 7 210) [vR (uB u) 131] mem EwI (Rd_placeOfNoText mem) := by
  refine jMet_of (by decide +kernel) (Nat.le_of_ble_eq_true rfl) (fun x G => ?_)
  show J u x 2 (jQ u x EwI) 0 [(0, vR (uB u) 131)] [] mem _
  unfold Rd_placeOfNoText
  refine J_aload_n G 0 dX5_placeOfNoText_0 rfl ?_
  refine J_iconst G dX5_placeOfNoText_1 ?_
  refine J_putI (i := 3) (k := 3) G cls_5 wf_X5_38 kd_131 rfl rfl rfl rfl dX5_placeOfNoText_2 ?_
  refine J_ltM (fun m1 => ?_)
  refine J_iconst G dX5_placeOfNoText_5 ?_
  refine J_istore_n (lv' := [(1, vI 0), (0, vR (uB u) 131)]) G dX5_placeOfNoText_6 rfl (by decide) rfl ?_
  refine J_lv [1, 0] rfl ?_
  exact jRd_placeOfNoText_L7 G 2000 0 m1
theorem mX5_whyNotStatement (u : jU) (mem : Mem) : jMet u yX5_whyNotStatement cX5_whyNotStatement 1 (some .int) (jRm 2 44) [vR (uB u) 131] mem (EpI mem) (Rd_whyNotStatement mem) := by
  refine jMet_of (by decide +kernel) (Nat.le_of_ble_eq_true rfl) (fun x G => ?_)
  show J u x 1 (jQ u x (EpI mem)) 0 [(0, vR (uB u) 131)] [] mem _
  unfold Rd_whyNotStatement
  refine J_aload_n G 0 dX5_whyNotStatement_0 rfl ?_
  refine J_getI (i := 4) (k := 4) G cls_5 wf_X5_59 kd_131 rfl rfl dX5_whyNotStatement_1 ?_
  refine J_split (fun hs1 => ?_) (fun hs1 => ?_)
  · refine J_tableIn (off := 36) 40 G dX5_whyNotStatement_4 hs1 (by decide) (by decide) (by decide) (by decide) ?_
    refine J_aload_n G 0 dX5_whyNotStatement_40 rfl ?_
    refine J_getR (d := 132) (k := 1) G cls_5 wf_X5_12 kd_131 rfl rfl dX5_whyNotStatement_41 ?_
    refine J_aload_n G 0 dX5_whyNotStatement_44 rfl ?_
    refine J_getR (d := 142) (k := 5) G cls_5 wf_X5_22 kd_131 rfl rfl dX5_whyNotStatement_45 ?_
    refine J_iconst G dX5_whyNotStatement_48 ?_
    refine J_ialdC G kd_142 ln_142 (by decide) dX5_whyNotStatement_49 ?_
    refine J_cVpI (As := [vI (mem 142 0)]) G (mX0_whyNotLength u 132 kd_132 (mem 142 0) mem) sg_X0_whyNotLength sv_X0_whyNotLength wm_X5_104 cls_0 kd_132 rfl ⟨by decide, by decide⟩ rfl rfl (Nat.le_of_ble_eq_true rfl) dX5_whyNotStatement_50 ?_
    intro r2
    exact J_iret G dX5_whyNotStatement_53 rfl
  · skip
    refine J_split (fun hs3 => ?_) (fun hs3 => ?_)
    · refine J_tableIn (off := 50) 54 G dX5_whyNotStatement_4 hs3 (by decide) (by decide) (by decide) (by decide) ?_
      refine J_aload_n G 0 dX5_whyNotStatement_54 rfl ?_
      refine J_getR (d := 132) (k := 1) G cls_5 wf_X5_12 kd_131 rfl rfl dX5_whyNotStatement_55 ?_
      refine J_aload_n G 0 dX5_whyNotStatement_58 rfl ?_
      refine J_getR (d := 142) (k := 5) G cls_5 wf_X5_22 kd_131 rfl rfl dX5_whyNotStatement_59 ?_
      refine J_iconst G dX5_whyNotStatement_62 ?_
      refine J_ialdC G kd_142 ln_142 (by decide) dX5_whyNotStatement_63 ?_
      refine J_cVpI (As := [vI (mem 142 0)]) G (mX0_whyNotSupport u 132 kd_132 (mem 142 0) mem) sg_X0_whyNotSupport sv_X0_whyNotSupport wm_X5_108 cls_0 kd_132 rfl ⟨by decide, by decide⟩ rfl rfl (Nat.le_of_ble_eq_true rfl) dX5_whyNotStatement_64 ?_
      intro r4
      exact J_iret G dX5_whyNotStatement_67 rfl
    · skip
      refine J_split (fun hs5 => ?_) (fun hs5 => ?_)
      · refine J_tableIn (off := 64) 68 G dX5_whyNotStatement_4 hs5 (by decide) (by decide) (by decide) (by decide) ?_
        refine J_aload_n G 0 dX5_whyNotStatement_68 rfl ?_
        refine J_getR (d := 132) (k := 1) G cls_5 wf_X5_12 kd_131 rfl rfl dX5_whyNotStatement_69 ?_
        refine J_aload_n G 0 dX5_whyNotStatement_72 rfl ?_
        refine J_getR (d := 142) (k := 5) G cls_5 wf_X5_22 kd_131 rfl rfl dX5_whyNotStatement_73 ?_
        refine J_iconst G dX5_whyNotStatement_76 ?_
        refine J_ialdC G kd_142 ln_142 (by decide) dX5_whyNotStatement_77 ?_
        refine J_cVpI (As := [vI (mem 142 0)]) G (mX0_whyNotAtSupport u 132 kd_132 (mem 142 0) mem) sg_X0_whyNotAtSupport sv_X0_whyNotAtSupport wm_X5_111 cls_0 kd_132 rfl ⟨by decide, by decide⟩ rfl rfl (Nat.le_of_ble_eq_true rfl) dX5_whyNotStatement_78 ?_
        intro r6
        exact J_iret G dX5_whyNotStatement_81 rfl
      · skip
        refine J_split (fun hs7 => ?_) (fun hs7 => ?_)
        · refine J_tableIn (off := 78) 82 G dX5_whyNotStatement_4 hs7 (by decide) (by decide) (by decide) (by decide) ?_
          refine J_aload_n G 0 dX5_whyNotStatement_82 rfl ?_
          refine J_getR (d := 132) (k := 1) G cls_5 wf_X5_12 kd_131 rfl rfl dX5_whyNotStatement_83 ?_
          refine J_aload_n G 0 dX5_whyNotStatement_86 rfl ?_
          refine J_getR (d := 142) (k := 5) G cls_5 wf_X5_22 kd_131 rfl rfl dX5_whyNotStatement_87 ?_
          refine J_iconst G dX5_whyNotStatement_90 ?_
          refine J_ialdC G kd_142 ln_142 (by decide) dX5_whyNotStatement_91 ?_
          refine J_aload_n G 0 dX5_whyNotStatement_92 rfl ?_
          refine J_getR (d := 142) (k := 5) G cls_5 wf_X5_22 kd_131 rfl rfl dX5_whyNotStatement_93 ?_
          refine J_iconst G dX5_whyNotStatement_96 ?_
          refine J_ialdC G kd_142 ln_142 (by decide) dX5_whyNotStatement_97 ?_
          refine J_cVpI (As := [vI (mem 142 0), vI (mem 142 1)]) G (mX0_whyNotPoint u 132 kd_132 (mem 142 0) (mem 142 1) mem) sg_X0_whyNotPoint sv_X0_whyNotPoint wm_X5_114 cls_0 kd_132 rfl ⟨by decide, by decide⟩ rfl rfl (Nat.le_of_ble_eq_true rfl) dX5_whyNotStatement_98 ?_
          intro r8
          exact J_iret G dX5_whyNotStatement_101 rfl
        · skip
          refine J_split (fun hs9 => ?_) (fun hs9 => ?_)
          · refine J_tableIn (off := 98) 102 G dX5_whyNotStatement_4 hs9 (by decide) (by decide) (by decide) (by decide) ?_
            refine J_aload_n G 0 dX5_whyNotStatement_102 rfl ?_
            refine J_getR (d := 132) (k := 1) G cls_5 wf_X5_12 kd_131 rfl rfl dX5_whyNotStatement_103 ?_
            refine J_aload_n G 0 dX5_whyNotStatement_106 rfl ?_
            refine J_getR (d := 142) (k := 5) G cls_5 wf_X5_22 kd_131 rfl rfl dX5_whyNotStatement_107 ?_
            refine J_iconst G dX5_whyNotStatement_110 ?_
            refine J_ialdC G kd_142 ln_142 (by decide) dX5_whyNotStatement_111 ?_
            refine J_aload_n G 0 dX5_whyNotStatement_112 rfl ?_
            refine J_getR (d := 142) (k := 5) G cls_5 wf_X5_22 kd_131 rfl rfl dX5_whyNotStatement_113 ?_
            refine J_iconst G dX5_whyNotStatement_116 ?_
            refine J_ialdC G kd_142 ln_142 (by decide) dX5_whyNotStatement_117 ?_
            refine J_aload_n G 0 dX5_whyNotStatement_118 rfl ?_
            refine J_getR (d := 142) (k := 5) G cls_5 wf_X5_22 kd_131 rfl rfl dX5_whyNotStatement_119 ?_
            refine J_iconst G dX5_whyNotStatement_122 ?_
            refine J_ialdC G kd_142 ln_142 (by decide) dX5_whyNotStatement_123 ?_
            refine J_cVpI (As := [vI (mem 142 0), vI (mem 142 1), vI (mem 142 2)]) G (mX0_whyNotSpread u 132 kd_132 (mem 142 0) (mem 142 1) (mem 142 2) mem) sg_X0_whyNotSpread sv_X0_whyNotSpread wm_X5_117 cls_0 kd_132 rfl ⟨by decide, by decide⟩ rfl rfl (Nat.le_of_ble_eq_true rfl) dX5_whyNotStatement_124 ?_
            intro r10
            exact J_iret G dX5_whyNotStatement_127 rfl
          · skip
            refine J_tableOut 128 G dX5_whyNotStatement_4 (by omega) (by decide) ?_
            refine J_aload_n G 0 dX5_whyNotStatement_128 rfl ?_
            refine J_getR (d := 132) (k := 1) G cls_5 wf_X5_12 kd_131 rfl rfl dX5_whyNotStatement_129 ?_
            refine J_aload_n G 0 dX5_whyNotStatement_132 rfl ?_
            refine J_getR (d := 142) (k := 5) G cls_5 wf_X5_22 kd_131 rfl rfl dX5_whyNotStatement_133 ?_
            refine J_iconst G dX5_whyNotStatement_136 ?_
            refine J_ialdC G kd_142 ln_142 (by decide) dX5_whyNotStatement_137 ?_
            refine J_aload_n G 0 dX5_whyNotStatement_138 rfl ?_
            refine J_getR (d := 142) (k := 5) G cls_5 wf_X5_22 kd_131 rfl rfl dX5_whyNotStatement_139 ?_
            refine J_iconst G dX5_whyNotStatement_142 ?_
            refine J_ialdC G kd_142 ln_142 (by decide) dX5_whyNotStatement_143 ?_
            refine J_cVpI (As := [vI (mem 142 0), vI (mem 142 1)]) G (mX0_whyNotAxle u 132 kd_132 (mem 142 0) (mem 142 1) mem) sg_X0_whyNotAxle sv_X0_whyNotAxle wm_X5_121 cls_0 kd_132 rfl ⟨by decide, by decide⟩ rfl rfl (Nat.le_of_ble_eq_true rfl) dX5_whyNotStatement_144 ?_
            intro r11
            exact J_iret G dX5_whyNotStatement_147 rfl
theorem mX5_takeStatement (u : jU) (mem : Mem) : jMet u yX5_takeStatement cX5_takeStatement 1 none (jRm 2 44) [vR (uB u) 131] mem EwV (Rd_takeStatement mem) := by
  refine jMet_of (by decide +kernel) (Nat.le_of_ble_eq_true rfl) (fun x G => ?_)
  show J u x 1 (jQ u x EwV) 0 [(0, vR (uB u) 131)] [] mem _
  unfold Rd_takeStatement
  refine J_aload_n G 0 dX5_takeStatement_0 rfl ?_
  refine J_getI (i := 4) (k := 4) G cls_5 wf_X5_59 kd_131 rfl rfl dX5_takeStatement_1 ?_
  refine J_split (fun hs1 => ?_) (fun hs1 => ?_)
  · refine J_tableIn (off := 36) 40 G dX5_takeStatement_4 hs1 (by decide) (by decide) (by decide) (by decide) ?_
    refine J_aload_n G 0 dX5_takeStatement_40 rfl ?_
    refine J_getR (d := 132) (k := 1) G cls_5 wf_X5_12 kd_131 rfl rfl dX5_takeStatement_41 ?_
    refine J_aload_n G 0 dX5_takeStatement_44 rfl ?_
    refine J_getR (d := 142) (k := 5) G cls_5 wf_X5_22 kd_131 rfl rfl dX5_takeStatement_45 ?_
    refine J_iconst G dX5_takeStatement_48 ?_
    refine J_ialdC G kd_142 ln_142 (by decide) dX5_takeStatement_49 ?_
    refine J_cVwV (As := [vI (mem 142 0)]) G (mX0_clear u 132 kd_132 (mem 142 0) mem) sg_X0_clear sv_X0_clear wm_X5_124 cls_0 kd_132 rfl ⟨by decide, by decide⟩ rfl rfl (Nat.le_of_ble_eq_true rfl) dX5_takeStatement_50 ?_
    intro m2
    refine J_goto 178 G dX5_takeStatement_53 (by decide) ?_
    exact J_vret G dX5_takeStatement_178 rfl
  · skip
    refine J_split (fun hs3 => ?_) (fun hs3 => ?_)
    · refine J_tableIn (off := 52) 56 G dX5_takeStatement_4 hs3 (by decide) (by decide) (by decide) (by decide) ?_
      refine J_aload_n G 0 dX5_takeStatement_56 rfl ?_
      refine J_getR (d := 132) (k := 1) G cls_5 wf_X5_12 kd_131 rfl rfl dX5_takeStatement_57 ?_
      refine J_aload_n G 0 dX5_takeStatement_60 rfl ?_
      refine J_getR (d := 142) (k := 5) G cls_5 wf_X5_22 kd_131 rfl rfl dX5_takeStatement_61 ?_
      refine J_iconst G dX5_takeStatement_64 ?_
      refine J_ialdC G kd_142 ln_142 (by decide) dX5_takeStatement_65 ?_
      refine J_cVwI (As := [vI (mem 142 0)]) G (mX0_putSupport u 132 kd_132 (mem 142 0) mem) sg_X0_putSupport sv_X0_putSupport wm_X5_128 cls_0 kd_132 rfl ⟨by decide, by decide⟩ rfl rfl (Nat.le_of_ble_eq_true rfl) dX5_takeStatement_66 ?_
      intro r4 m5
      refine J_pop G dX5_takeStatement_69 rfl ?_
      refine J_goto 178 G dX5_takeStatement_70 (by decide) ?_
      exact J_vret G dX5_takeStatement_178 rfl
    · skip
      refine J_split (fun hs6 => ?_) (fun hs6 => ?_)
      · refine J_tableIn (off := 69) 73 G dX5_takeStatement_4 hs6 (by decide) (by decide) (by decide) (by decide) ?_
        refine J_aload_n G 0 dX5_takeStatement_73 rfl ?_
        refine J_getR (d := 132) (k := 1) G cls_5 wf_X5_12 kd_131 rfl rfl dX5_takeStatement_74 ?_
        refine J_aload_n G 0 dX5_takeStatement_77 rfl ?_
        refine J_getR (d := 132) (k := 1) G cls_5 wf_X5_12 kd_131 rfl rfl dX5_takeStatement_78 ?_
        refine J_aload_n G 0 dX5_takeStatement_81 rfl ?_
        refine J_getR (d := 142) (k := 5) G cls_5 wf_X5_22 kd_131 rfl rfl dX5_takeStatement_82 ?_
        refine J_iconst G dX5_takeStatement_85 ?_
        refine J_ialdC G kd_142 ln_142 (by decide) dX5_takeStatement_86 ?_
        refine J_cVpI (As := [vI (mem 142 0)]) G (mX0_numberAt u 132 kd_132 (mem 142 0) mem) sg_X0_numberAt sv_X0_numberAt wm_X5_131 cls_0 kd_132 rfl ⟨by decide, by decide⟩ rfl rfl (Nat.le_of_ble_eq_true rfl) dX5_takeStatement_87 ?_
        intro r7
        refine J_iconst G dX5_takeStatement_90 ?_
        refine J_cVwI (As := [vI r7, vI 1]) G (mX0_putHinge u 132 kd_132 r7 1 mem) sg_X0_putHinge sv_X0_putHinge wm_X5_134 cls_0 kd_132 rfl ⟨by decide, by decide⟩ rfl rfl (Nat.le_of_ble_eq_true rfl) dX5_takeStatement_91 ?_
        intro r8 m9
        refine J_pop G dX5_takeStatement_94 rfl ?_
        refine J_goto 178 G dX5_takeStatement_95 (by decide) ?_
        exact J_vret G dX5_takeStatement_178 rfl
      · skip
        refine J_split (fun hs10 => ?_) (fun hs10 => ?_)
        · refine J_tableIn (off := 94) 98 G dX5_takeStatement_4 hs10 (by decide) (by decide) (by decide) (by decide) ?_
          refine J_aload_n G 0 dX5_takeStatement_98 rfl ?_
          refine J_getR (d := 132) (k := 1) G cls_5 wf_X5_12 kd_131 rfl rfl dX5_takeStatement_99 ?_
          refine J_aload_n G 0 dX5_takeStatement_102 rfl ?_
          refine J_getR (d := 142) (k := 5) G cls_5 wf_X5_22 kd_131 rfl rfl dX5_takeStatement_103 ?_
          refine J_iconst G dX5_takeStatement_106 ?_
          refine J_ialdC G kd_142 ln_142 (by decide) dX5_takeStatement_107 ?_
          refine J_aload_n G 0 dX5_takeStatement_108 rfl ?_
          refine J_getR (d := 142) (k := 5) G cls_5 wf_X5_22 kd_131 rfl rfl dX5_takeStatement_109 ?_
          refine J_iconst G dX5_takeStatement_112 ?_
          refine J_ialdC G kd_142 ln_142 (by decide) dX5_takeStatement_113 ?_
          refine J_aload_n G 0 dX5_takeStatement_114 rfl ?_
          refine J_getR (d := 142) (k := 5) G cls_5 wf_X5_22 kd_131 rfl rfl dX5_takeStatement_115 ?_
          refine J_iconst G dX5_takeStatement_118 ?_
          refine J_ialdC G kd_142 ln_142 (by decide) dX5_takeStatement_119 ?_
          refine J_iconst G dX5_takeStatement_120 ?_
          refine J_cVwI (As := [vI (mem 142 0), vI (mem 142 0), vI (mem 142 1), vI 1]) G (mX0_putLoad u 132 kd_132 (mem 142 0) (mem 142 0) (mem 142 1) 1 mem) sg_X0_putLoad sv_X0_putLoad wm_X5_137 cls_0 kd_132 rfl ⟨by decide, by decide⟩ rfl rfl (Nat.le_of_ble_eq_true rfl) dX5_takeStatement_121 ?_
          intro r11 m12
          refine J_pop G dX5_takeStatement_124 rfl ?_
          refine J_goto 178 G dX5_takeStatement_125 (by decide) ?_
          exact J_vret G dX5_takeStatement_178 rfl
        · skip
          refine J_split (fun hs13 => ?_) (fun hs13 => ?_)
          · refine J_tableIn (off := 124) 128 G dX5_takeStatement_4 hs13 (by decide) (by decide) (by decide) (by decide) ?_
            refine J_aload_n G 0 dX5_takeStatement_128 rfl ?_
            refine J_getR (d := 132) (k := 1) G cls_5 wf_X5_12 kd_131 rfl rfl dX5_takeStatement_129 ?_
            refine J_aload_n G 0 dX5_takeStatement_132 rfl ?_
            refine J_getR (d := 142) (k := 5) G cls_5 wf_X5_22 kd_131 rfl rfl dX5_takeStatement_133 ?_
            refine J_iconst G dX5_takeStatement_136 ?_
            refine J_ialdC G kd_142 ln_142 (by decide) dX5_takeStatement_137 ?_
            refine J_aload_n G 0 dX5_takeStatement_138 rfl ?_
            refine J_getR (d := 142) (k := 5) G cls_5 wf_X5_22 kd_131 rfl rfl dX5_takeStatement_139 ?_
            refine J_iconst G dX5_takeStatement_142 ?_
            refine J_ialdC G kd_142 ln_142 (by decide) dX5_takeStatement_143 ?_
            refine J_aload_n G 0 dX5_takeStatement_144 rfl ?_
            refine J_getR (d := 142) (k := 5) G cls_5 wf_X5_22 kd_131 rfl rfl dX5_takeStatement_145 ?_
            refine J_iconst G dX5_takeStatement_148 ?_
            refine J_ialdC G kd_142 ln_142 (by decide) dX5_takeStatement_149 ?_
            refine J_iconst G dX5_takeStatement_150 ?_
            refine J_cVwI (As := [vI (mem 142 0), vI (mem 142 1), vI (mem 142 2), vI 0]) G (mX0_putLoad u 132 kd_132 (mem 142 0) (mem 142 1) (mem 142 2) 0 mem) sg_X0_putLoad sv_X0_putLoad wm_X5_137 cls_0 kd_132 rfl ⟨by decide, by decide⟩ rfl rfl (Nat.le_of_ble_eq_true rfl) dX5_takeStatement_151 ?_
            intro r14 m15
            refine J_pop G dX5_takeStatement_154 rfl ?_
            refine J_goto 178 G dX5_takeStatement_155 (by decide) ?_
            exact J_vret G dX5_takeStatement_178 rfl
          · skip
            refine J_tableOut 158 G dX5_takeStatement_4 (by omega) (by decide) ?_
            refine J_aload_n G 0 dX5_takeStatement_158 rfl ?_
            refine J_getR (d := 132) (k := 1) G cls_5 wf_X5_12 kd_131 rfl rfl dX5_takeStatement_159 ?_
            refine J_aload_n G 0 dX5_takeStatement_162 rfl ?_
            refine J_getR (d := 142) (k := 5) G cls_5 wf_X5_22 kd_131 rfl rfl dX5_takeStatement_163 ?_
            refine J_iconst G dX5_takeStatement_166 ?_
            refine J_ialdC G kd_142 ln_142 (by decide) dX5_takeStatement_167 ?_
            refine J_aload_n G 0 dX5_takeStatement_168 rfl ?_
            refine J_getR (d := 142) (k := 5) G cls_5 wf_X5_22 kd_131 rfl rfl dX5_takeStatement_169 ?_
            refine J_iconst G dX5_takeStatement_172 ?_
            refine J_ialdC G kd_142 ln_142 (by decide) dX5_takeStatement_173 ?_
            refine J_cVwI (As := [vI (mem 142 0), vI (mem 142 1)]) G (mX0_putAxle u 132 kd_132 (mem 142 0) (mem 142 1) mem) sg_X0_putAxle sv_X0_putAxle wm_X5_141 cls_0 kd_132 rfl ⟨by decide, by decide⟩ rfl rfl (Nat.le_of_ble_eq_true rfl) dX5_takeStatement_174 ?_
            intro r16 m17
            refine J_pop G dX5_takeStatement_177 rfl ?_
            exact J_vret G dX5_takeStatement_178 rfl
theorem jRd_readOnto_L33 {u : jU} {x : jX} (G : jG u x cX5_readOnto RX5 6 (some .int) (jRm 8 231)) : ∀ (n : Nat) (i5 : Int) (i6 : Int) (m7 : Mem), J u x 6 (jQ u x EwI) 33 [(0, vR (uB u) 131), (3, vI i5), (4, vI i6)] [] m7 (Rd_readOnto_L33 n i5 i6 m7) := by
  intro n
  induction n with
  | zero => intro i5 i6 m7; exact J_none
  | succ n ih =>
    intro i5 i6 m7
    rw [Rd_readOnto_L33]
    refine J_iload G 2 dX5_readOnto_33 rfl ?_
    refine J_bipush G dX5_readOnto_35 (by decide) ?_
    refine J_icmp_ge 99 G dX5_readOnto_37 (by decide) ?_ ?_
    · refine J_iload_n G 1 dX5_readOnto_99 rfl ?_
      exact J_iret G dX5_readOnto_100 rfl
    · refine J_aload_n G 0 dX5_readOnto_40 rfl ?_
      refine J_getI (i := 3) (k := 3) G cls_5 wf_X5_38 kd_131 rfl rfl dX5_readOnto_41 ?_
      refine J_aload_n G 0 dX5_readOnto_44 rfl ?_
      refine J_getI (i := 0) (k := 0) G cls_5 wf_X5_26 kd_131 rfl rfl dX5_readOnto_45 ?_
      refine J_icmp_ge 99 G dX5_readOnto_48 (by decide) ?_ ?_
      · refine J_iload_n G 1 dX5_readOnto_99 rfl ?_
        exact J_iret G dX5_readOnto_100 rfl
      · refine J_aload_n G 0 dX5_readOnto_51 rfl ?_
        refine J_getI (i := 3) (k := 3) G cls_5 wf_X5_38 kd_131 rfl rfl dX5_readOnto_52 ?_
        refine J_ltI (fun x8 => ?_)
        refine J_istore (lv' := [(5, vI x8), (0, vR (uB u) 131), (3, vI i5), (4, vI i6)]) G dX5_readOnto_55 (by decide) rfl ?_
        refine J_aload_n G 1 dX5_readOnto_57 rfl ?_
        refine J_cVwI (As := []) G (mX5_readStatement u m7) sg_X5_readStatement sv_X5_readStatement wm_X5_41 cls_5 kd_131 rfl ⟨by decide, by decide⟩ rfl rfl (Nat.le_of_ble_eq_true rfl) dX5_readOnto_58 ?_
        intro r9 m10
        refine J_pop G dX5_readOnto_61 rfl ?_
        refine J_aload_n G 1 dX5_readOnto_62 rfl ?_
        refine J_cVpI (As := []) G (mX5_whyNotStatement u m10) sg_X5_whyNotStatement sv_X5_whyNotStatement wm_X5_45 cls_5 kd_131 rfl ⟨by decide, by decide⟩ rfl rfl (Nat.le_of_ble_eq_true rfl) dX5_readOnto_63 ?_
        intro r11
        refine J_if_eq 76 G dX5_readOnto_66 (by decide) ?_ ?_
        · refine J_aload_n G 1 dX5_readOnto_76 rfl ?_
          refine J_cVwV (As := []) G (mX5_takeStatement u m10) sg_X5_takeStatement sv_X5_takeStatement wm_X5_48 cls_5 kd_131 rfl ⟨by decide, by decide⟩ rfl rfl (Nat.le_of_ble_eq_true rfl) dX5_readOnto_77 ?_
          intro m12
          refine J_iinc (lv' := [(3, vI (i5 + 1)), (5, vI x8), (0, vR (uB u) 131), (4, vI i6)]) G 2 dX5_readOnto_80 rfl (by decide) rfl ?_
          refine J_aload_n G 2 dX5_readOnto_83 rfl ?_
          refine J_dup G dX5_readOnto_84 rfl ?_
          refine J_getI (i := 3) (k := 3) G cls_5 wf_X5_38 kd_131 rfl rfl dX5_readOnto_85 ?_
          refine J_iconst G dX5_readOnto_88 ?_
          refine J_iadd G dX5_readOnto_89 ?_
          refine J_putI (i := 3) (k := 3) G cls_5 wf_X5_38 kd_131 rfl rfl rfl rfl dX5_readOnto_90 ?_
          refine J_ltM (fun m13 => ?_)
          refine J_iinc (lv' := [(4, vI (i6 + 1)), (3, vI (i5 + 1)), (5, vI x8), (0, vR (uB u) 131)]) G 3 dX5_readOnto_93 rfl (by decide) rfl ?_
          refine J_goto 33 G dX5_readOnto_96 (by decide) ?_
          refine J_lv [3, 1, 0] rfl ?_
          exact ih (i5 + 1) (i6 + 1) m13
        · refine J_sipush G dX5_readOnto_69 (by decide) ?_
          refine J_iload G 0 dX5_readOnto_72 rfl ?_
          refine J_isub G dX5_readOnto_74 ?_
          exact J_iret G dX5_readOnto_75 rfl
theorem mX5_readOnto (u : jU) (mem : Mem) : jMet u yX5_readOnto cX5_readOnto 6 (some .int) (jRm 8 231) [vR (uB u) 131, vR (uB u) 1] mem EwI (Rd_readOnto mem) := by
  refine jMet_of (by decide +kernel) (Nat.le_of_ble_eq_true rfl) (fun x G => ?_)
  show J u x 6 (jQ u x EwI) 0 [(0, vR (uB u) 131), (1, vR (uB u) 1)] [] mem _
  unfold Rd_readOnto
  refine J_aload_n G 0 dX5_readOnto_0 rfl ?_
  refine J_cVwI (As := []) G (mX5_placeOfNoText u mem) sg_X5_placeOfNoText sv_X5_placeOfNoText wm_X5_30 cls_5 kd_131 rfl ⟨by decide, by decide⟩ rfl rfl (Nat.le_of_ble_eq_true rfl) dX5_readOnto_1 ?_
  intro r1 m2
  refine J_istore_n (lv' := [(2, vI r1), (0, vR (uB u) 131), (1, vR (uB u) 1)]) G dX5_readOnto_4 rfl (by decide) rfl ?_
  refine J_iload_n G 0 dX5_readOnto_5 rfl ?_
  refine J_if_lt 15 G dX5_readOnto_6 (by decide) ?_ ?_
  · refine J_aload_n G 1 dX5_readOnto_15 rfl ?_
    refine J_getR (d := 132) (k := 1) G cls_5 wf_X5_12 kd_131 rfl rfl dX5_readOnto_16 ?_
    refine J_aload_n G 2 dX5_readOnto_19 rfl ?_
    refine J_cVwV (As := [vR (uB u) 1]) G (mX0_become u 132 1 kd_132 kd_1 m2) sg_X0_become sv_X0_become wm_X5_34 cls_0 kd_132 rfl ⟨by decide, by decide⟩ rfl rfl (Nat.le_of_ble_eq_true rfl) dX5_readOnto_20 ?_
    intro m3
    refine J_iconst G dX5_readOnto_23 ?_
    refine J_istore_n (lv' := [(3, vI 0), (2, vI r1), (0, vR (uB u) 131), (1, vR (uB u) 1)]) G dX5_readOnto_24 rfl (by decide) rfl ?_
    refine J_aload_n G 2 dX5_readOnto_25 rfl ?_
    refine J_iconst G dX5_readOnto_26 ?_
    refine J_putI (i := 3) (k := 3) G cls_5 wf_X5_38 kd_131 rfl rfl rfl rfl dX5_readOnto_27 ?_
    refine J_ltM (fun m4 => ?_)
    refine J_iconst G dX5_readOnto_30 ?_
    refine J_istore (lv' := [(4, vI 0), (3, vI 0), (2, vI r1), (0, vR (uB u) 131), (1, vR (uB u) 1)]) G dX5_readOnto_31 (by decide) rfl ?_
    refine J_lv [3, 1, 0] rfl ?_
    exact jRd_readOnto_L33 G 2000 0 0 m4
  · refine J_sipush G dX5_readOnto_9 (by decide) ?_
    refine J_iload_n G 0 dX5_readOnto_12 rfl ?_
    refine J_isub G dX5_readOnto_13 ?_
    exact J_iret G dX5_readOnto_14 rfl
theorem mX8_reads (u : jU) (mem : Mem) : jMet u yX8_reads cX8_reads 2 (some .int) (jRm 9 256) [vR (uB u) 0] mem EwI (BP_reads mem) := by
  refine jMet_of (by decide +kernel) (Nat.le_of_ble_eq_true rfl) (fun x G => ?_)
  show J u x 2 (jQ u x EwI) 0 [(0, vR (uB u) 0)] [] mem _
  unfold BP_reads
  refine J_aload_n G 0 dX8_reads_0 rfl ?_
  refine J_getR (d := 131) (k := 7) G cls_8 wf_X8_48 kd_0 rfl rfl dX8_reads_1 ?_
  refine J_aload_n G 0 dX8_reads_4 rfl ?_
  refine J_getR (d := 1) (k := 0) G cls_8 wf_X8_14 kd_0 rfl rfl dX8_reads_5 ?_
  refine J_cVwI (As := [vR (uB u) 1]) G (mX5_readOnto u mem) sg_X5_readOnto sv_X5_readOnto wm_X8_283 cls_5 kd_131 rfl ⟨by decide, by decide⟩ rfl rfl (Nat.le_of_ble_eq_true rfl) dX8_reads_8 ?_
  intro r1 m2
  refine J_istore_n (lv' := [(1, vI r1), (0, vR (uB u) 0)]) G dX8_reads_11 rfl (by decide) rfl ?_
  refine J_iload_n G 0 dX8_reads_12 rfl ?_
  refine J_jn (fun g => ∀ m3, J u x 2 (jQ u x EwI) 37 [(0, vR (uB u) 0), (1, vI r1)] [] m3 (g m3)) ?_ ?_
  · intro m3
    refine J_aload_n G 0 dX8_reads_37 rfl ?_
    refine J_getR (d := 131) (k := 7) G cls_8 wf_X8_48 kd_0 rfl rfl dX8_reads_38 ?_
    refine J_iconst G dX8_reads_41 ?_
    refine J_putI (i := 0) (k := 0) G cls_5 wf_X8_165 kd_131 rfl rfl rfl rfl dX8_reads_42 ?_
    refine J_ltM (fun m4 => ?_)
    refine J_iload_n G 1 dX8_reads_45 rfl ?_
    exact J_iret G dX8_reads_46 rfl
  · intro k37 hk37
    refine J_if_lt 37 G dX8_reads_13 (by decide) ?_ ?_
    · refine J_lv [1, 0] rfl ?_
      exact hk37 m2
    · refine J_aload_n G 1 dX8_reads_16 rfl ?_
      refine J_getR (d := 1) (k := 0) G cls_8 wf_X8_14 kd_0 rfl rfl dX8_reads_17 ?_
      refine J_aload_n G 1 dX8_reads_20 rfl ?_
      refine J_getR (d := 131) (k := 7) G cls_8 wf_X8_48 kd_0 rfl rfl dX8_reads_21 ?_
      refine J_getR (d := 132) (k := 1) G cls_5 wf_X8_287 kd_131 rfl rfl dX8_reads_24 ?_
      refine J_cVwV (As := [vR (uB u) 132]) G (mX0_become u 1 132 kd_1 kd_132 m2) sg_X0_become sv_X0_become wm_X8_290 cls_0 kd_1 rfl ⟨by decide, by decide⟩ rfl rfl (Nat.le_of_ble_eq_true rfl) dX8_reads_27 ?_
      intro m5
      refine J_aload_n G 1 dX8_reads_30 rfl ?_
      refine J_getR (d := 10) (k := 1) G cls_8 wf_X8_21 kd_0 rfl rfl dX8_reads_31 ?_
      refine J_cVwV (As := []) G (mX1_forget u m5) sg_X1_forget sv_X1_forget wm_X8_78 cls_1 kd_10 rfl ⟨by decide, by decide⟩ rfl rfl (Nat.le_of_ble_eq_true rfl) dX8_reads_34 ?_
      intro m6
      refine J_lv [1, 0] rfl ?_
      exact hk37 m6
theorem mX3_put (u : jU) (p0 : Int) (mem : Mem) : jMet u yX3_put cX3_put 2 none (jRm 0 0) [vR (uB u) 143, vI p0] mem EwV (Pap_put p0 mem) := by
  refine jMet_of (by decide +kernel) (Nat.le_of_ble_eq_true rfl) (fun x G => ?_)
  show J u x 2 (jQ u x EwV) 0 [(0, vR (uB u) 143), (1, vI p0)] [] mem _
  unfold Pap_put
  refine J_aload_n G 0 dX3_put_0 rfl ?_
  refine J_getI (i := 0) (k := 0) G cls_3 wf_X3_18 kd_143 rfl rfl dX3_put_1 ?_
  refine J_sipush G dX3_put_4 (by decide) ?_
  refine J_icmp_ge 31 G dX3_put_7 (by decide) ?_ ?_
  · exact J_vret G dX3_put_31 rfl
  · refine J_aload_n G 0 dX3_put_10 rfl ?_
    refine J_getR (d := 144) (k := 1) G cls_3 wf_X3_9 kd_143 rfl rfl dX3_put_11 ?_
    refine J_aload_n G 0 dX3_put_14 rfl ?_
    refine J_getI (i := 0) (k := 0) G cls_3 wf_X3_18 kd_143 rfl rfl dX3_put_15 ?_
    refine J_iload_n G 1 dX3_put_18 rfl ?_
    refine J_i2b G dX3_put_19 ?_
    refine J_bast G kd_144 ln_144 dX3_put_20 ?_
    refine J_ltM (fun m1 => ?_)
    refine J_aload_n G 0 dX3_put_21 rfl ?_
    refine J_dup G dX3_put_22 rfl ?_
    refine J_getI (i := 0) (k := 0) G cls_3 wf_X3_18 kd_143 rfl rfl dX3_put_23 ?_
    refine J_iconst G dX3_put_26 ?_
    refine J_iadd G dX3_put_27 ?_
    refine J_putI (i := 0) (k := 0) G cls_3 wf_X3_18 kd_143 rfl rfl rfl rfl dX3_put_28 ?_
    refine J_ltM (fun m2 => ?_)
    exact J_vret G dX3_put_31 rfl
theorem jPap_putNumber_L80 {u : jU} {x : jX} (G : jG u x cX3_putNumber RX3 7 none (jRm 1 23)) : ∀ (n : Nat) (i6 : Int) (m7 : Mem), J u x 7 (jQ u x EwV) 80 [(0, vR (uB u) 143), (6, vI i6)] [] m7 (Pap_putNumber_L80 n i6 m7) := by
  intro n
  induction n with
  | zero => intro i6 m7; exact J_none
  | succ n ih =>
    intro i6 m7
    rw [Pap_putNumber_L80]
    refine J_iload G 1 dX3_putNumber_80 rfl ?_
    refine J_if_lt 102 G dX3_putNumber_82 (by decide) ?_ ?_
    · exact J_vret G dX3_putNumber_102 rfl
    · refine J_aload_n G 0 dX3_putNumber_85 rfl ?_
      refine J_aload_n G 0 dX3_putNumber_86 rfl ?_
      refine J_getR (d := 145) (k := 2) G cls_3 wf_X3_15 kd_143 rfl rfl dX3_putNumber_87 ?_
      refine J_iload G 1 dX3_putNumber_90 rfl ?_
      refine J_bald G kd_145 ln_145 dX3_putNumber_92 ?_
      refine J_cVwV (As := [vI (m7 145 (s32 i6))]) G (mX3_put u (m7 145 (s32 i6)) m7) sg_X3_put sv_X3_put wm_X3_22 cls_3 kd_143 rfl ⟨by decide, by decide⟩ rfl rfl (Nat.le_of_ble_eq_true rfl) dX3_putNumber_93 ?_
      intro m8
      refine J_iinc (lv' := [(6, vI (i6 + -1)), (0, vR (uB u) 143)]) G 1 dX3_putNumber_96 rfl (by decide) rfl ?_
      refine J_goto 80 G dX3_putNumber_99 (by decide) ?_
      refine J_lv [1, 0] rfl ?_
      exact ih (i6 + -1) m8
theorem jPap_putNumber_L23 {u : jU} {x : jX} (G : jG u x cX3_putNumber RX3 7 none (jRm 1 23)) (k74 : Int → Mem → Option Mem) (hk74 : (fun g => ∀ x3 m4, J u x 7 (jQ u x EwV) 74 [(0, vR (uB u) 143), (5, vI x3)] [] m4 (g x3 m4)) k74) : ∀ (n : Nat) (i9 : Int) (i10 : Int) (i11 : Int) (m12 : Mem), J u x 7 (jQ u x EwV) 23 [(0, vR (uB u) 143), (3, vL i9), (5, vI i10), (6, vI i11)] [] m12 (Pap_putNumber_L23 k74 n i9 i10 i11 m12) := by
  intro n
  induction n with
  | zero => intro i9 i10 i11 m12; exact J_none
  | succ n ih =>
    intro i9 i10 i11 m12
    rw [Pap_putNumber_L23]
    refine J_iload G 3 dX3_putNumber_23 rfl ?_
    refine J_bipush G dX3_putNumber_25 (by decide) ?_
    refine J_icmp_ge 74 G dX3_putNumber_27 (by decide) ?_ ?_
    · refine J_lv [0, 2] rfl ?_
      exact hk74 i10 m12
    · refine J_iload G 3 dX3_putNumber_30 rfl ?_
      refine J_jn (fun g => J u x 7 (jQ u x EwV) 41 [(0, vR (uB u) 143), (3, vL i9), (5, vI i10), (6, vI i11)] [] m12 (g)) ?_ ?_
      · skip
        refine J_aload_n G 0 dX3_putNumber_41 rfl ?_
        refine J_getR (d := 145) (k := 2) G cls_3 wf_X3_15 kd_143 rfl rfl dX3_putNumber_42 ?_
        refine J_iload G 3 dX3_putNumber_45 rfl ?_
        refine J_ldc2 (v := 48) G dX3_putNumber_47 wc_X3_32 (by decide) ?_
        refine J_lload_n G 1 dX3_putNumber_50 rfl ?_
        refine J_ldc2 (v := 10) G dX3_putNumber_51 wc_X3_34 (by decide) ?_
        refine J_lremC G dX3_putNumber_54 (by decide) ?_
        refine J_ladd G dX3_putNumber_55 ?_
        refine J_l2i G dX3_putNumber_56 ?_
        refine J_i2b G dX3_putNumber_57 ?_
        refine J_bast G kd_145 ln_145 dX3_putNumber_58 ?_
        refine J_ltM (fun m13 => ?_)
        refine J_lload_n G 1 dX3_putNumber_59 rfl ?_
        refine J_ldc2 (v := 10) G dX3_putNumber_60 wc_X3_34 (by decide) ?_
        refine J_ldivC G dX3_putNumber_63 (by decide) ?_
        refine J_ltL (fun x14 => ?_)
        refine J_lstore_n (lv' := [(3, vL x14), (0, vR (uB u) 143), (5, vI i10), (6, vI i11)]) G dX3_putNumber_64 rfl (by decide) rfl ?_
        refine J_iinc (lv' := [(5, vI (i10 + 1)), (3, vL x14), (0, vR (uB u) 143), (6, vI i11)]) G 2 dX3_putNumber_65 rfl (by decide) rfl ?_
        refine J_iinc (lv' := [(6, vI (i11 + 1)), (5, vI (i10 + 1)), (3, vL x14), (0, vR (uB u) 143)]) G 3 dX3_putNumber_68 rfl (by decide) rfl ?_
        refine J_goto 23 G dX3_putNumber_71 (by decide) ?_
        refine J_lv [3, 2, 1, 0] rfl ?_
        exact ih x14 (i10 + 1) (i11 + 1) m13
      · intro k41 hk41
        refine J_if_eq 41 G dX3_putNumber_32 (by decide) ?_ ?_
        · exact hk41
        · refine J_lload_n G 1 dX3_putNumber_35 rfl ?_
          refine J_lconst (v := 0) G dX3_putNumber_36 (by decide) ?_
          refine J_lcmp_le 74 G dX3_putNumber_37 dX3_putNumber_38 (by decide) ?_ ?_
          · refine J_lv [0, 2] rfl ?_
            exact hk74 i10 m12
          · exact hk41
theorem mX3_putNumber (u : jU) (p0 : Int) (mem : Mem) : jMet u yX3_putNumber cX3_putNumber 7 none (jRm 1 23) [vR (uB u) 143, vL p0] mem EwV (Pap_putNumber p0 mem) := by
  refine jMet_of (by decide +kernel) (Nat.le_of_ble_eq_true rfl) (fun x G => ?_)
  show J u x 7 (jQ u x EwV) 0 [(0, vR (uB u) 143), (1, vL p0)] [] mem _
  unfold Pap_putNumber
  refine J_lload_n G 1 dX3_putNumber_0 rfl ?_
  refine J_lconst (v := 0) G dX3_putNumber_1 (by decide) ?_
  refine J_jn (fun g => ∀ m1, J u x 7 (jQ u x EwV) 12 [(0, vR (uB u) 143), (1, vL p0)] [] m1 (g m1)) ?_ ?_
  · intro m1
    refine J_lload_n G 1 dX3_putNumber_12 rfl ?_
    refine J_labs G wm_X3_26 w_labs1 w_math w_labs2 ⟨by decide, Nat.le_of_ble_eq_true rfl⟩ dX3_putNumber_13 ?_
    refine J_ltL (fun x2 => ?_)
    refine J_lstore_n (lv' := [(3, vL x2), (0, vR (uB u) 143), (1, vL p0)]) G dX3_putNumber_16 rfl (by decide) rfl ?_
    refine J_iconst G dX3_putNumber_17 ?_
    refine J_istore (lv' := [(5, vI 0), (3, vL x2), (0, vR (uB u) 143), (1, vL p0)]) G dX3_putNumber_18 (by decide) rfl ?_
    refine J_iconst G dX3_putNumber_20 ?_
    refine J_istore (lv' := [(6, vI 0), (5, vI 0), (3, vL x2), (0, vR (uB u) 143), (1, vL p0)]) G dX3_putNumber_21 (by decide) rfl ?_
    refine J_jn (fun g => ∀ x3 m4, J u x 7 (jQ u x EwV) 74 [(0, vR (uB u) 143), (5, vI x3)] [] m4 (g x3 m4)) ?_ ?_
    · intro x3 m4
      refine J_iload G 1 dX3_putNumber_74 rfl ?_
      refine J_iconst G dX3_putNumber_76 ?_
      refine J_isub G dX3_putNumber_77 ?_
      refine J_ltI (fun x5 => ?_)
      refine J_istore (lv' := [(6, vI x5), (0, vR (uB u) 143), (5, vI x3)]) G dX3_putNumber_78 (by decide) rfl ?_
      refine J_lv [1, 0] rfl ?_
      exact jPap_putNumber_L80 G 2000 x5 m4
    · intro k74 hk74
      refine J_lv [3, 2, 1, 0] rfl ?_
      exact jPap_putNumber_L23 G k74 hk74 2000 x2 0 0 m1
  · intro k12 hk12
    refine J_lcmp_ge 12 G dX3_putNumber_2 dX3_putNumber_3 (by decide) ?_ ?_
    · exact hk12 mem
    · refine J_aload_n G 0 dX3_putNumber_6 rfl ?_
      refine J_bipush G dX3_putNumber_7 (by decide) ?_
      refine J_cVwV (As := [vI 45]) G (mX3_put u 45 mem) sg_X3_put sv_X3_put wm_X3_22 cls_3 kd_143 rfl ⟨by decide, by decide⟩ rfl rfl (Nat.le_of_ble_eq_true rfl) dX3_putNumber_9 ?_
      intro m15
      exact hk12 m15
theorem mX3_putFraction (u : jU) (mem : Mem) : jMet u yX3_putFraction cX3_putFraction 2 none (jRm 2 49) [vR (uB u) 143, vR (uB u) 129] mem EwV (Pap_putFraction mem) := by
  refine jMet_of (by decide +kernel) (Nat.le_of_ble_eq_true rfl) (fun x G => ?_)
  show J u x 2 (jQ u x EwV) 0 [(0, vR (uB u) 143), (1, vR (uB u) 129)] [] mem _
  unfold Pap_putFraction
  refine J_aload_n G 0 dX3_putFraction_0 rfl ?_
  refine J_aload_n G 1 dX3_putFraction_1 rfl ?_
  refine J_getL (i := 0) (k := 0) G cls_2 wf_X3_36 kd_129 rfl rfl dX3_putFraction_2 ?_
  refine J_cVwV (As := [vL (mem 129 0)]) G (mX3_putNumber u (mem 129 0) mem) sg_X3_putNumber sv_X3_putNumber wm_X3_42 cls_3 kd_143 rfl ⟨by decide, by decide⟩ rfl rfl (Nat.le_of_ble_eq_true rfl) dX3_putFraction_5 ?_
  intro m1
  refine J_aload_n G 1 dX3_putFraction_8 rfl ?_
  refine J_getL (i := 1) (k := 1) G cls_2 wf_X3_46 kd_129 rfl rfl dX3_putFraction_9 ?_
  refine J_lconst (v := 1) G dX3_putFraction_12 (by decide) ?_
  refine J_lcmp_eq 31 G dX3_putFraction_13 dX3_putFraction_14 (by decide) ?_ ?_
  · exact J_vret G dX3_putFraction_31 rfl
  · refine J_aload_n G 0 dX3_putFraction_17 rfl ?_
    refine J_bipush G dX3_putFraction_18 (by decide) ?_
    refine J_cVwV (As := [vI 47]) G (mX3_put u 47 m1) sg_X3_put sv_X3_put wm_X3_22 cls_3 kd_143 rfl ⟨by decide, by decide⟩ rfl rfl (Nat.le_of_ble_eq_true rfl) dX3_putFraction_20 ?_
    intro m2
    refine J_aload_n G 0 dX3_putFraction_23 rfl ?_
    refine J_aload_n G 1 dX3_putFraction_24 rfl ?_
    refine J_getL (i := 1) (k := 1) G cls_2 wf_X3_46 kd_129 rfl rfl dX3_putFraction_25 ?_
    refine J_cVwV (As := [vL (m2 129 1)]) G (mX3_putNumber u (m2 129 1) m2) sg_X3_putNumber sv_X3_putNumber wm_X3_42 cls_3 kd_143 rfl ⟨by decide, by decide⟩ rfl rfl (Nat.le_of_ble_eq_true rfl) dX3_putFraction_28 ?_
    intro m3
    exact J_vret G dX3_putFraction_31 rfl
