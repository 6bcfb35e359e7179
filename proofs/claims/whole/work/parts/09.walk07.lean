theorem mX9_hinged (u : jU) (p0 : Int) (p1 : Int) (mem : Mem) : jMet u yX9_hinged cX9_hinged 3 (some .long) (jRm 7 182) [vR (uB u) 149, vI p0, vI p1] mem EwL (Mo_hinged p0 p1 mem) := by
  refine jMet_of (by decide +kernel) (Nat.le_of_ble_eq_true rfl) (fun x G => ?_)
  show J u x 3 (jQ u x EwL) 0 [(0, vR (uB u) 149), (1, vI p0), (2, vI p1)] [] mem _
  unfold Mo_hinged
  refine J_iload_n G 1 dX9_hinged_0 rfl ?_
  refine J_i2l G dX9_hinged_1 ?_
  refine J_lconst (v := 1) G dX9_hinged_2 (by decide) ?_
  refine J_aload_n G 0 dX9_hinged_3 rfl ?_
  refine J_getR (d := 150) (k := 0) G cls_9 wf_X9_11 kd_149 rfl rfl dX9_hinged_4 ?_
  refine J_iconst G dX9_hinged_7 ?_
  refine J_ialdC G kd_150 ln_150 (by decide) dX9_hinged_8 ?_
  refine J_iconst G dX9_hinged_9 ?_
  refine J_isub G dX9_hinged_10 ?_
  refine J_i2l G dX9_hinged_11 ?_
  refine J_cSpI (As := [vL (s32 p0), vL 1, vL (s32 ((mem 150 1) - 2))]) G (mX9_in u (s32 p0) 1 (s32 ((mem 150 1) - 2)) mem) sg_X9_in ss_X9_in wm_X9_82 ⟨by decide, by decide⟩ rfl rfl (Nat.le_of_ble_eq_true rfl) dX9_hinged_12 ?_
  intro r1
  refine J_if_eq 41 G dX9_hinged_15 (by decide) ?_ ?_
  · refine J_ldc2 (v := (-9223372036854775808)) G dX9_hinged_41 wc_X9_200 (by decide) ?_
    exact J_lret G dX9_hinged_44 rfl
  · refine J_aload_n G 0 dX9_hinged_18 rfl ?_
    refine J_getR (d := 150) (k := 0) G cls_9 wf_X9_11 kd_149 rfl rfl dX9_hinged_19 ?_
    refine J_bipush G dX9_hinged_22 (by decide) ?_
    refine J_iload_n G 1 dX9_hinged_24 rfl ?_
    refine J_iadd G dX9_hinged_25 ?_
    refine J_iald G kd_150 ln_150 dX9_hinged_26 ?_
    refine J_iconst G dX9_hinged_27 ?_
    refine J_icmp_eq 41 G dX9_hinged_28 (by decide) ?_ ?_
    · refine J_ldc2 (v := (-9223372036854775808)) G dX9_hinged_41 wc_X9_200 (by decide) ?_
      exact J_lret G dX9_hinged_44 rfl
    · refine J_iload_n G 2 dX9_hinged_31 rfl ?_
      refine J_i2l G dX9_hinged_32 ?_
      refine J_lconst (v := 0) G dX9_hinged_33 (by decide) ?_
      refine J_lconst (v := 1) G dX9_hinged_34 (by decide) ?_
      refine J_cSpI (As := [vL (s32 p1), vL 0, vL 1]) G (mX9_in u (s32 p1) 0 1 mem) sg_X9_in ss_X9_in wm_X9_82 ⟨by decide, by decide⟩ rfl rfl (Nat.le_of_ble_eq_true rfl) dX9_hinged_35 ?_
      intro r2
      refine J_if_ne 45 G dX9_hinged_38 (by decide) ?_ ?_
      · refine J_aload_n G 0 dX9_hinged_45 rfl ?_
        refine J_getR (d := 150) (k := 0) G cls_9 wf_X9_11 kd_149 rfl rfl dX9_hinged_46 ?_
        refine J_bipush G dX9_hinged_49 (by decide) ?_
        refine J_iload_n G 1 dX9_hinged_51 rfl ?_
        refine J_iadd G dX9_hinged_52 ?_
        refine J_iconst G dX9_hinged_53 ?_
        refine J_iast G kd_150 ln_150 dX9_hinged_54 ?_
        refine J_ltM (fun m3 => ?_)
        refine J_aload_n G 0 dX9_hinged_55 rfl ?_
        refine J_cVwV (As := []) G (mX9_span u m3) sg_X9_span sv_X9_span wm_X9_259 cls_9 kd_149 rfl ⟨by decide, by decide⟩ rfl rfl (Nat.le_of_ble_eq_true rfl) dX9_hinged_56 ?_
        intro m4
        refine J_aload_n G 0 dX9_hinged_59 rfl ?_
        refine J_getR (d := 150) (k := 0) G cls_9 wf_X9_11 kd_149 rfl rfl dX9_hinged_60 ?_
        refine J_bipush G dX9_hinged_63 (by decide) ?_
        refine J_iload_n G 1 dX9_hinged_65 rfl ?_
        refine J_iadd G dX9_hinged_66 ?_
        refine J_iconst G dX9_hinged_67 ?_
        refine J_iast G kd_150 ln_150 dX9_hinged_68 ?_
        refine J_ltM (fun m5 => ?_)
        refine J_iload_n G 2 dX9_hinged_69 rfl ?_
        refine J_if_ne 80 G dX9_hinged_70 (by decide) ?_ ?_
        · refine J_aload_n G 0 dX9_hinged_80 rfl ?_
          refine J_getL (i := 20) (k := 20) G cls_9 wf_X9_254 kd_149 rfl rfl dX9_hinged_81 ?_
          exact J_lret G dX9_hinged_84 rfl
        · refine J_aload_n G 0 dX9_hinged_73 rfl ?_
          refine J_getL (i := 19) (k := 19) G cls_9 wf_X9_251 kd_149 rfl rfl dX9_hinged_74 ?_
          refine J_goto 84 G dX9_hinged_77 (by decide) ?_
          exact J_lret G dX9_hinged_84 rfl
      · refine J_ldc2 (v := (-9223372036854775808)) G dX9_hinged_41 wc_X9_200 (by decide) ?_
        exact J_lret G dX9_hinged_44 rfl
theorem mX9_feed (u : jU) (p0 : Int) (mem : Mem) : jMet u yX9_feed cX9_feed 2 (some .int) (jRm 1 25) [vR (uB u) 149, vI p0] mem EwI (Mo_feed p0 mem) := by
  refine jMet_of (by decide +kernel) (Nat.le_of_ble_eq_true rfl) (fun x G => ?_)
  show J u x 2 (jQ u x EwI) 0 [(0, vR (uB u) 149), (1, vI p0)] [] mem _
  unfold Mo_feed
  refine J_iload_n G 1 dX9_feed_0 rfl ?_
  refine J_i2l G dX9_feed_1 ?_
  refine J_lconst (v := 1) G dX9_feed_2 (by decide) ?_
  refine J_ldc2 (v := 127) G dX9_feed_3 wc_X9_286 (by decide) ?_
  refine J_cSpI (As := [vL (s32 p0), vL 1, vL 127]) G (mX9_in u (s32 p0) 1 127 mem) sg_X9_in ss_X9_in wm_X9_82 ⟨by decide, by decide⟩ rfl rfl (Nat.le_of_ble_eq_true rfl) dX9_feed_6 ?_
  intro r1
  refine J_if_ne 14 G dX9_feed_9 (by decide) ?_ ?_
  · refine J_aload_n G 0 dX9_feed_14 rfl ?_
    refine J_getI (i := 23) (k := 23) G cls_9 wf_X9_116 kd_149 rfl rfl dX9_feed_15 ?_
    refine J_bipush G dX9_feed_18 (by decide) ?_
    refine J_icmp_ne 26 G dX9_feed_20 (by decide) ?_ ?_
    · refine J_aload_n G 0 dX9_feed_26 rfl ?_
      refine J_getR (d := 161) (k := 22) G cls_9 wf_X9_50 kd_149 rfl rfl dX9_feed_27 ?_
      refine J_aload_n G 0 dX9_feed_30 rfl ?_
      refine J_getI (i := 23) (k := 23) G cls_9 wf_X9_116 kd_149 rfl rfl dX9_feed_31 ?_
      refine J_iload_n G 1 dX9_feed_34 rfl ?_
      refine J_iast G kd_161 ln_161 dX9_feed_35 ?_
      refine J_ltM (fun m2 => ?_)
      refine J_aload_n G 0 dX9_feed_36 rfl ?_
      refine J_dup G dX9_feed_37 rfl ?_
      refine J_getI (i := 23) (k := 23) G cls_9 wf_X9_116 kd_149 rfl rfl dX9_feed_38 ?_
      refine J_iconst G dX9_feed_41 ?_
      refine J_iadd G dX9_feed_42 ?_
      refine J_putI (i := 23) (k := 23) G cls_9 wf_X9_116 kd_149 rfl rfl rfl rfl dX9_feed_43 ?_
      refine J_ltM (fun m3 => ?_)
      refine J_aload_n G 0 dX9_feed_46 rfl ?_
      refine J_getI (i := 23) (k := 23) G cls_9 wf_X9_116 kd_149 rfl rfl dX9_feed_47 ?_
      exact J_iret G dX9_feed_50 rfl
    · refine J_bipush G dX9_feed_23 (by decide) ?_
      exact J_iret G dX9_feed_25 rfl
  · refine J_iconst G dX9_feed_12 ?_
    exact J_iret G dX9_feed_13 rfl
theorem mX9_here (u : jU) (mem : Mem) : jMet u yX9_here cX9_here 1 (some .int) (jRm 0 0) [vR (uB u) 149] mem (EpI mem) (Mo_here mem) := by
  refine jMet_of (by decide +kernel) (Nat.le_of_ble_eq_true rfl) (fun x G => ?_)
  show J u x 1 (jQ u x (EpI mem)) 0 [(0, vR (uB u) 149)] [] mem _
  unfold Mo_here
  refine J_aload_n G 0 dX9_here_0 rfl ?_
  refine J_getI (i := 28) (k := 28) G cls_9 wf_X9_288 kd_149 rfl rfl dX9_here_1 ?_
  refine J_aload_n G 0 dX9_here_4 rfl ?_
  refine J_getI (i := 23) (k := 23) G cls_9 wf_X9_116 kd_149 rfl rfl dX9_here_5 ?_
  refine J_icmp_ge 23 G dX9_here_8 (by decide) ?_ ?_
  · refine J_iconst G dX9_here_23 ?_
    exact J_iret G dX9_here_24 rfl
  · refine J_aload_n G 0 dX9_here_11 rfl ?_
    refine J_getR (d := 161) (k := 22) G cls_9 wf_X9_50 kd_149 rfl rfl dX9_here_12 ?_
    refine J_aload_n G 0 dX9_here_15 rfl ?_
    refine J_getI (i := 28) (k := 28) G cls_9 wf_X9_288 kd_149 rfl rfl dX9_here_16 ?_
    refine J_iald G kd_161 ln_161 dX9_here_19 ?_
    refine J_goto 24 G dX9_here_20 (by decide) ?_
    exact J_iret G dX9_here_24 rfl
theorem jMo_word_L79 {u : jU} {x : jX} (G : jG u x cX9_word RX9 5 (some .int) (jRm 1 25)) (mem : Mem) (x2 : Int) (i5 : Int) (k135 : Int → Option (Int × Mem)) (hk135 : (fun g => ∀ x7, J u x 5 (jQ u x EwI) 135 [(0, vR (uB u) 149), (1, vI x2), (2, vI i5), (3, vI x7)] [] mem (g x7)) k135) : ∀ (n : Nat) (i8 : Int) (i9 : Int), J u x 5 (jQ u x EwI) 79 [(0, vR (uB u) 149), (1, vI x2), (2, vI i5), (3, vI i8), (4, vI i9)] [] mem (Mo_word_L79 mem x2 i5 k135 n i8 i9) := by
  intro n
  induction n with
  | zero => intro i8 i9; exact J_none
  | succ n ih =>
    intro i8 i9
    rw [Mo_word_L79]
    refine J_iload G 4 dX9_word_79 rfl ?_
    refine J_iload_n G 1 dX9_word_81 rfl ?_
    refine J_aload_n G 0 dX9_word_82 rfl ?_
    refine J_getI (i := 28) (k := 28) G cls_9 wf_X9_288 kd_149 rfl rfl dX9_word_83 ?_
    refine J_isub G dX9_word_86 ?_
    refine J_icmp_ge 135 G dX9_word_87 (by decide) ?_ ?_
    · refine J_lv [0, 1, 2, 3] rfl ?_
      exact hk135 i8
    · refine J_iload_n G 3 dX9_word_90 rfl ?_
      refine J_if_eq 135 G dX9_word_91 (by decide) ?_ ?_
      · refine J_lv [0, 1, 2, 3] rfl ?_
        exact hk135 i8
      · refine J_aload_n G 0 dX9_word_94 rfl ?_
        refine J_getR (d := 161) (k := 22) G cls_9 wf_X9_50 kd_149 rfl rfl dX9_word_95 ?_
        refine J_aload_n G 0 dX9_word_98 rfl ?_
        refine J_getI (i := 28) (k := 28) G cls_9 wf_X9_288 kd_149 rfl rfl dX9_word_99 ?_
        refine J_iload G 4 dX9_word_102 rfl ?_
        refine J_iadd G dX9_word_104 ?_
        refine J_iald G kd_161 ln_161 dX9_word_105 ?_
        refine J_aload_n G 0 dX9_word_106 rfl ?_
        refine J_getR (d := 162) (k := 24) G cls_9 wf_X9_53 kd_149 rfl rfl dX9_word_107 ?_
        refine J_aload_n G 0 dX9_word_110 rfl ?_
        refine J_getR (d := 163) (k := 25) G cls_9 wf_X9_57 kd_149 rfl rfl dX9_word_111 ?_
        refine J_iload_n G 2 dX9_word_114 rfl ?_
        refine J_iald G kd_163 ln_163 dX9_word_115 ?_
        refine J_iload G 4 dX9_word_116 rfl ?_
        refine J_iadd G dX9_word_118 ?_
        refine J_cald G kd_162 ln_162 dX9_word_119 ?_
        refine J_jn (fun g => ∀ x10, J u x 5 (jQ u x EwI) 128 [(0, vR (uB u) 149), (1, vI x2), (2, vI i5), (4, vI i9)] [vI x10] mem (g x10)) ?_ ?_
        · intro x10
          refine J_istore_n (lv' := [(3, vI x10), (0, vR (uB u) 149), (1, vI x2), (2, vI i5), (4, vI i9)]) G dX9_word_128 rfl (by decide) rfl ?_
          refine J_iinc (lv' := [(4, vI (i9 + 1)), (3, vI x10), (0, vR (uB u) 149), (1, vI x2), (2, vI i5)]) G 4 dX9_word_129 rfl (by decide) rfl ?_
          refine J_goto 79 G dX9_word_132 (by decide) ?_
          refine J_lv [2, 3, 4, 1, 0] rfl ?_
          exact ih x10 (i9 + 1)
        · intro k128 hk128
          refine J_icmp_ne 127 G dX9_word_120 (by decide) ?_ ?_
          · refine J_iconst G dX9_word_127 ?_
            refine J_lv [0, 1, 2, 4] rfl ?_
            exact hk128 0
          · refine J_iconst G dX9_word_123 ?_
            refine J_goto 128 G dX9_word_124 (by decide) ?_
            refine J_lv [0, 1, 2, 4] rfl ?_
            exact hk128 1
theorem jMo_word_L40 {u : jU} {x : jX} (G : jG u x cX9_word RX9 5 (some .int) (jRm 1 25)) (mem : Mem) (x2 : Int) (k139 : Int → Option (Int × Mem)) (hk139 : (fun g => ∀ x3, J u x 5 (jQ u x EwI) 139 [(0, vR (uB u) 149), (1, vI x2), (2, vI x3)] [] mem (g x3)) k139) : ∀ (n : Nat) (i5 : Int), J u x 5 (jQ u x EwI) 40 [(0, vR (uB u) 149), (1, vI x2), (2, vI i5)] [] mem (Mo_word_L40 mem x2 k139 n i5) := by
  intro n
  induction n with
  | zero => intro i5; exact J_none
  | succ n ih =>
    intro i5
    rw [Mo_word_L40]
    refine J_iload_n G 2 dX9_word_40 rfl ?_
    refine J_bipush G dX9_word_41 (by decide) ?_
    refine J_icmp_ge 152 G dX9_word_43 (by decide) ?_ ?_
    · refine J_iconst G dX9_word_152 ?_
      exact J_iret G dX9_word_153 rfl
    · refine J_iload_n G 1 dX9_word_46 rfl ?_
      refine J_aload_n G 0 dX9_word_47 rfl ?_
      refine J_getI (i := 28) (k := 28) G cls_9 wf_X9_288 kd_149 rfl rfl dX9_word_48 ?_
      refine J_isub G dX9_word_51 ?_
      refine J_aload_n G 0 dX9_word_52 rfl ?_
      refine J_getR (d := 163) (k := 25) G cls_9 wf_X9_57 kd_149 rfl rfl dX9_word_53 ?_
      refine J_iload_n G 2 dX9_word_56 rfl ?_
      refine J_iconst G dX9_word_57 ?_
      refine J_iadd G dX9_word_58 ?_
      refine J_iald G kd_163 ln_163 dX9_word_59 ?_
      refine J_aload_n G 0 dX9_word_60 rfl ?_
      refine J_getR (d := 163) (k := 25) G cls_9 wf_X9_57 kd_149 rfl rfl dX9_word_61 ?_
      refine J_iload_n G 2 dX9_word_64 rfl ?_
      refine J_iald G kd_163 ln_163 dX9_word_65 ?_
      refine J_isub G dX9_word_66 ?_
      refine J_jn (fun g => ∀ x6, J u x 5 (jQ u x EwI) 75 [(0, vR (uB u) 149), (1, vI x2), (2, vI i5)] [vI x6] mem (g x6)) ?_ ?_
      · intro x6
        refine J_istore_n (lv' := [(3, vI x6), (0, vR (uB u) 149), (1, vI x2), (2, vI i5)]) G dX9_word_75 rfl (by decide) rfl ?_
        refine J_iconst G dX9_word_76 ?_
        refine J_istore (lv' := [(4, vI 0), (3, vI x6), (0, vR (uB u) 149), (1, vI x2), (2, vI i5)]) G dX9_word_77 (by decide) rfl ?_
        refine J_jn (fun g => ∀ x7, J u x 5 (jQ u x EwI) 135 [(0, vR (uB u) 149), (1, vI x2), (2, vI i5), (3, vI x7)] [] mem (g x7)) ?_ ?_
        · intro x7
          refine J_iload_n G 3 dX9_word_135 rfl ?_
          refine J_if_eq 146 G dX9_word_136 (by decide) ?_ ?_
          · refine J_iinc (lv' := [(2, vI (i5 + 1)), (0, vR (uB u) 149), (1, vI x2), (3, vI x7)]) G 2 dX9_word_146 rfl (by decide) rfl ?_
            refine J_goto 40 G dX9_word_149 (by decide) ?_
            refine J_lv [1, 2, 0] rfl ?_
            exact ih (i5 + 1)
          · refine J_lv [0, 1, 2] rfl ?_
            exact hk139 i5
        · intro k135 hk135
          refine J_lv [2, 3, 4, 1, 0] rfl ?_
          exact jMo_word_L79 G mem x2 i5 k135 hk135 2000 x6 0
      · intro k75 hk75
        refine J_icmp_ne 74 G dX9_word_67 (by decide) ?_ ?_
        · refine J_iconst G dX9_word_74 ?_
          exact hk75 0
        · refine J_iconst G dX9_word_70 ?_
          refine J_goto 75 G dX9_word_71 (by decide) ?_
          exact hk75 1
theorem jMo_word_L5 {u : jU} {x : jX} (G : jG u x cX9_word RX9 5 (some .int) (jRm 1 25)) (mem : Mem) (k38 : Int → Option (Int × Mem)) (hk38 : (fun g => ∀ x2, J u x 5 (jQ u x EwI) 38 [(0, vR (uB u) 149), (1, vI x2)] [] mem (g x2)) k38) : ∀ (n : Nat) (i11 : Int), J u x 5 (jQ u x EwI) 5 [(0, vR (uB u) 149), (1, vI i11)] [] mem (Mo_word_L5 mem k38 n i11) := by
  intro n
  induction n with
  | zero => intro i11; exact J_none
  | succ n ih =>
    intro i11
    rw [Mo_word_L5]
    refine J_iload_n G 1 dX9_word_5 rfl ?_
    refine J_aload_n G 0 dX9_word_6 rfl ?_
    refine J_getI (i := 23) (k := 23) G cls_9 wf_X9_116 kd_149 rfl rfl dX9_word_7 ?_
    refine J_icmp_ge 38 G dX9_word_10 (by decide) ?_ ?_
    · exact hk38 i11
    · refine J_aload_n G 0 dX9_word_13 rfl ?_
      refine J_getR (d := 161) (k := 22) G cls_9 wf_X9_50 kd_149 rfl rfl dX9_word_14 ?_
      refine J_iload_n G 1 dX9_word_17 rfl ?_
      refine J_iald G kd_161 ln_161 dX9_word_18 ?_
      refine J_i2l G dX9_word_19 ?_
      refine J_ldc2 (v := 97) G dX9_word_20 wc_X9_291 (by decide) ?_
      refine J_ldc2 (v := 122) G dX9_word_23 wc_X9_293 (by decide) ?_
      refine J_cSpI (As := [vL (s32 (mem 161 (s32 i11))), vL 97, vL 122]) G (mX9_in u (s32 (mem 161 (s32 i11))) 97 122 mem) sg_X9_in ss_X9_in wm_X9_82 ⟨by decide, by decide⟩ rfl rfl (Nat.le_of_ble_eq_true rfl) dX9_word_26 ?_
      intro r12
      refine J_if_eq 38 G dX9_word_29 (by decide) ?_ ?_
      · exact hk38 i11
      · refine J_iinc (lv' := [(1, vI (i11 + 1)), (0, vR (uB u) 149)]) G 1 dX9_word_32 rfl (by decide) rfl ?_
        refine J_goto 5 G dX9_word_35 (by decide) ?_
        refine J_lv [1, 0] rfl ?_
        exact ih (i11 + 1)
theorem mX9_word (u : jU) (mem : Mem) : jMet u yX9_word cX9_word 5 (some .int) (jRm 1 25) [vR (uB u) 149] mem EwI (Mo_word mem) := by
  refine jMet_of (by decide +kernel) (Nat.le_of_ble_eq_true rfl) (fun x G => ?_)
  show J u x 5 (jQ u x EwI) 0 [(0, vR (uB u) 149)] [] mem _
  unfold Mo_word
  refine J_aload_n G 0 dX9_word_0 rfl ?_
  refine J_getI (i := 28) (k := 28) G cls_9 wf_X9_288 kd_149 rfl rfl dX9_word_1 ?_
  refine J_ltI (fun x1 => ?_)
  refine J_istore_n (lv' := [(1, vI x1), (0, vR (uB u) 149)]) G dX9_word_4 rfl (by decide) rfl ?_
  refine J_jn (fun g => ∀ x2, J u x 5 (jQ u x EwI) 38 [(0, vR (uB u) 149), (1, vI x2)] [] mem (g x2)) ?_ ?_
  · intro x2
    refine J_iconst G dX9_word_38 ?_
    refine J_istore_n (lv' := [(2, vI 0), (0, vR (uB u) 149), (1, vI x2)]) G dX9_word_39 rfl (by decide) rfl ?_
    refine J_jn (fun g => ∀ x3, J u x 5 (jQ u x EwI) 139 [(0, vR (uB u) 149), (1, vI x2), (2, vI x3)] [] mem (g x3)) ?_ ?_
    · intro x3
      refine J_aload_n G 0 dX9_word_139 rfl ?_
      refine J_iload_n G 1 dX9_word_140 rfl ?_
      refine J_putI (i := 28) (k := 28) G cls_9 wf_X9_288 kd_149 rfl rfl rfl rfl dX9_word_141 ?_
      refine J_ltM (fun m4 => ?_)
      refine J_iload_n G 2 dX9_word_144 rfl ?_
      exact J_iret G dX9_word_145 rfl
    · intro k139 hk139
      refine J_lv [1, 2, 0] rfl ?_
      exact jMo_word_L40 G mem x2 k139 hk139 2000 0
  · intro k38 hk38
    refine J_lv [1, 0] rfl ?_
    exact jMo_word_L5 G mem k38 hk38 2000 x1
theorem jMo_takes_L64 {u : jU} {x : jX} (G : jG u x cX9_takes RX9 6 (some .boolean) (jRm 1 25)) (p0 : Int) (x3 : Int) (k118 : Int → Int → Mem → Option (Int × Mem)) (hk118 : (fun g => ∀ x6 x7 m8, J u x 6 (jQ u x EwI) 118 [(0, vR (uB u) 149), (1, vI p0), (3, vI x3), (4, vI x6), (5, vI x7)] [] m8 (g x6 x7 m8)) k118) : ∀ (n : Nat) (i11 : Int) (i12 : Int) (m13 : Mem), J u x 6 (jQ u x EwI) 64 [(0, vR (uB u) 149), (1, vI p0), (3, vI x3), (4, vI i11), (5, vI i12)] [] m13 (Mo_takes_L64 k118 n i11 i12 m13) := by
  intro n
  induction n with
  | zero => intro i11 i12 m13; exact J_none
  | succ n ih =>
    intro i11 i12 m13
    rw [Mo_takes_L64]
    refine J_iload G 3 dX9_takes_64 rfl ?_
    refine J_iconst G dX9_takes_66 ?_
    refine J_icmp_ge 118 G dX9_takes_67 (by decide) ?_ ?_
    · exact hk118 i11 i12 m13
    · refine J_aload_n G 0 dX9_takes_70 rfl ?_
      refine J_cVpI (As := []) G (mX9_here u m13) sg_X9_here sv_X9_here wm_X9_295 cls_9 kd_149 rfl ⟨by decide, by decide⟩ rfl rfl (Nat.le_of_ble_eq_true rfl) dX9_takes_71 ?_
      intro r14
      refine J_i2l G dX9_takes_74 ?_
      refine J_ldc2 (v := 48) G dX9_takes_75 wc_X9_298 (by decide) ?_
      refine J_ldc2 (v := 57) G dX9_takes_78 wc_X9_300 (by decide) ?_
      refine J_cSpI (As := [vL (s32 r14), vL 48, vL 57]) G (mX9_in u (s32 r14) 48 57 m13) sg_X9_in ss_X9_in wm_X9_82 ⟨by decide, by decide⟩ rfl rfl (Nat.le_of_ble_eq_true rfl) dX9_takes_81 ?_
      intro r15
      refine J_if_eq 118 G dX9_takes_84 (by decide) ?_ ?_
      · exact hk118 i11 i12 m13
      · refine J_bipush G dX9_takes_87 (by decide) ?_
        refine J_iload G 4 dX9_takes_89 rfl ?_
        refine J_imul G dX9_takes_91 ?_
        refine J_aload_n G 0 dX9_takes_92 rfl ?_
        refine J_cVpI (As := []) G (mX9_here u m13) sg_X9_here sv_X9_here wm_X9_295 cls_9 kd_149 rfl ⟨by decide, by decide⟩ rfl rfl (Nat.le_of_ble_eq_true rfl) dX9_takes_93 ?_
        intro r16
        refine J_iadd G dX9_takes_96 ?_
        refine J_bipush G dX9_takes_97 (by decide) ?_
        refine J_isub G dX9_takes_99 ?_
        refine J_ltI (fun x17 => ?_)
        refine J_istore (lv' := [(5, vI x17), (0, vR (uB u) 149), (1, vI p0), (3, vI x3), (4, vI i11)]) G dX9_takes_100 (by decide) rfl ?_
        refine J_iinc (lv' := [(4, vI (i11 + 1)), (5, vI x17), (0, vR (uB u) 149), (1, vI p0), (3, vI x3)]) G 4 dX9_takes_102 rfl (by decide) rfl ?_
        refine J_aload_n G 2 dX9_takes_105 rfl ?_
        refine J_dup G dX9_takes_106 rfl ?_
        refine J_getI (i := 28) (k := 28) G cls_9 wf_X9_288 kd_149 rfl rfl dX9_takes_107 ?_
        refine J_iconst G dX9_takes_110 ?_
        refine J_iadd G dX9_takes_111 ?_
        refine J_putI (i := 28) (k := 28) G cls_9 wf_X9_288 kd_149 rfl rfl rfl rfl dX9_takes_112 ?_
        refine J_ltM (fun m18 => ?_)
        refine J_goto 64 G dX9_takes_115 (by decide) ?_
        refine J_lv [2, 3, 4, 0, 1] rfl ?_
        exact ih (i11 + 1) x17 m18
theorem mX9_takes (u : jU) (p0 : Int) (p1 : Int) (mem : Mem) : jMet u yX9_takes cX9_takes 6 (some .boolean) (jRm 1 25) [vR (uB u) 149, vI p0, vI p1] mem EwI (Mo_takes p0 p1 mem) := by
  refine jMet_of (by decide +kernel) (Nat.le_of_ble_eq_true rfl) (fun x G => ?_)
  show J u x 6 (jQ u x EwI) 0 [(0, vR (uB u) 149), (1, vI p0), (2, vI p1)] [] mem _
  unfold Mo_takes
  refine J_aload_n G 0 dX9_takes_0 rfl ?_
  refine J_cVpI (As := []) G (mX9_here u mem) sg_X9_here sv_X9_here wm_X9_295 cls_9 kd_149 rfl ⟨by decide, by decide⟩ rfl rfl (Nat.le_of_ble_eq_true rfl) dX9_takes_1 ?_
  intro r1
  refine J_bipush G dX9_takes_4 (by decide) ?_
  refine J_icmp_eq 11 G dX9_takes_6 (by decide) ?_ ?_
  · refine J_aload_n G 0 dX9_takes_11 rfl ?_
    refine J_dup G dX9_takes_12 rfl ?_
    refine J_getI (i := 28) (k := 28) G cls_9 wf_X9_288 kd_149 rfl rfl dX9_takes_13 ?_
    refine J_iconst G dX9_takes_16 ?_
    refine J_iadd G dX9_takes_17 ?_
    refine J_putI (i := 28) (k := 28) G cls_9 wf_X9_288 kd_149 rfl rfl rfl rfl dX9_takes_18 ?_
    refine J_ltM (fun m2 => ?_)
    refine J_iload_n G 2 dX9_takes_21 rfl ?_
    refine J_jn (fun g => ∀ x3, J u x 6 (jQ u x EwI) 39 [(0, vR (uB u) 149), (1, vI p0)] [vI x3] m2 (g x3)) ?_ ?_
    · intro x3
      refine J_istore_n (lv' := [(3, vI x3), (0, vR (uB u) 149), (1, vI p0)]) G dX9_takes_39 rfl (by decide) rfl ?_
      refine J_aload_n G 1 dX9_takes_40 rfl ?_
      refine J_dup G dX9_takes_41 rfl ?_
      refine J_getI (i := 28) (k := 28) G cls_9 wf_X9_288 kd_149 rfl rfl dX9_takes_42 ?_
      refine J_iload_n G 0 dX9_takes_45 rfl ?_
      refine J_jn (fun g => ∀ x4, J u x 6 (jQ u x EwI) 54 [(0, vR (uB u) 149), (1, vI p0), (3, vI x3)] [vI x4, vI (m2 149 28), vR (uB u) 149] m2 (g x4)) ?_ ?_
      · intro x4
        refine J_iadd G dX9_takes_54 ?_
        refine J_putI (i := 28) (k := 28) G cls_9 wf_X9_288 kd_149 rfl rfl rfl rfl dX9_takes_55 ?_
        refine J_ltM (fun m5 => ?_)
        refine J_iconst G dX9_takes_58 ?_
        refine J_istore (lv' := [(4, vI 0), (0, vR (uB u) 149), (1, vI p0), (3, vI x3)]) G dX9_takes_59 (by decide) rfl ?_
        refine J_iconst G dX9_takes_61 ?_
        refine J_istore (lv' := [(5, vI 0), (4, vI 0), (0, vR (uB u) 149), (1, vI p0), (3, vI x3)]) G dX9_takes_62 (by decide) rfl ?_
        refine J_jn (fun g => ∀ x6 x7 m8, J u x 6 (jQ u x EwI) 118 [(0, vR (uB u) 149), (1, vI p0), (3, vI x3), (4, vI x6), (5, vI x7)] [] m8 (g x6 x7 m8)) ?_ ?_
        · intro x6 x7 m8
          refine J_aload_n G 0 dX9_takes_118 rfl ?_
          refine J_getR (d := 165) (k := 27) G cls_9 wf_X9_63 kd_149 rfl rfl dX9_takes_119 ?_
          refine J_iload_n G 1 dX9_takes_122 rfl ?_
          refine J_iload_n G 2 dX9_takes_123 rfl ?_
          refine J_jn (fun g => ∀ x9, J u x 6 (jQ u x EwI) 135 [(4, vI x6)] [vI x9, vI p0, vR (uB u) 165] m8 (g x9)) ?_ ?_
          · intro x9
            refine J_iast G kd_165 ln_165 dX9_takes_135 ?_
            refine J_ltM (fun m10 => ?_)
            refine J_iload G 0 dX9_takes_136 rfl ?_
            refine J_if_le 145 G dX9_takes_138 (by decide) ?_ ?_
            · refine J_iconst G dX9_takes_145 ?_
              exact J_zret G dX9_takes_146 (by decide) rfl
            · refine J_iconst G dX9_takes_141 ?_
              refine J_goto 146 G dX9_takes_142 (by decide) ?_
              exact J_zret G dX9_takes_146 (by decide) rfl
          · intro k135 hk135
            refine J_if_eq 133 G dX9_takes_124 (by decide) ?_ ?_
            · refine J_iload G 4 dX9_takes_133 rfl ?_
              refine J_lv [3] rfl ?_
              exact hk135 x7
            · refine J_iload G 4 dX9_takes_127 rfl ?_
              refine J_ineg G dX9_takes_129 ?_
              refine J_goto 135 G dX9_takes_130 (by decide) ?_
              refine J_lv [3] rfl ?_
              exact hk135 (-x7)
        · intro k118 hk118
          refine J_lv [2, 3, 4, 1, 0] rfl ?_
          exact jMo_takes_L64 G p0 x3 k118 hk118 2000 0 0 m5
      · intro k54 hk54
        refine J_if_eq 53 G dX9_takes_46 (by decide) ?_ ?_
        · refine J_iconst G dX9_takes_53 ?_
          refine J_lv [1, 2, 0] rfl ?_
          exact hk54 0
        · refine J_iconst G dX9_takes_49 ?_
          refine J_goto 54 G dX9_takes_50 (by decide) ?_
          refine J_lv [1, 2, 0] rfl ?_
          exact hk54 1
    · intro k39 hk39
      refine J_jn (fun g => J u x 6 (jQ u x EwI) 38 [(0, vR (uB u) 149), (1, vI p0)] [] m2 (g)) ?_ ?_
      · skip
        refine J_iconst G dX9_takes_38 ?_
        exact hk39 0
      · intro k38 hk38
        refine J_if_eq 38 G dX9_takes_22 (by decide) ?_ ?_
        · refine J_lv [0, 1] rfl ?_
          exact hk38
        · refine J_aload_n G 0 dX9_takes_25 rfl ?_
          refine J_cVpI (As := []) G (mX9_here u m2) sg_X9_here sv_X9_here wm_X9_295 cls_9 kd_149 rfl ⟨by decide, by decide⟩ rfl rfl (Nat.le_of_ble_eq_true rfl) dX9_takes_26 ?_
          intro r19
          refine J_bipush G dX9_takes_29 (by decide) ?_
          refine J_icmp_ne 38 G dX9_takes_31 (by decide) ?_ ?_
          · refine J_lv [0, 1] rfl ?_
            exact hk38
          · refine J_iconst G dX9_takes_34 ?_
            refine J_goto 39 G dX9_takes_35 (by decide) ?_
            refine J_lv [0, 1] rfl ?_
            exact hk39 1
  · refine J_iconst G dX9_takes_9 ?_
    exact J_zret G dX9_takes_10 (by decide) rfl
theorem mX9_does (u : jU) (p0 : Int) (mem : Mem) : jMet u yX9_does cX9_does 4 (some .int) (jRm 3 70) [vR (uB u) 149, vI p0] mem EwI (Mo_does p0 mem) := by
  refine jMet_of (by decide +kernel) (Nat.le_of_ble_eq_true rfl) (fun x G => ?_)
  show J u x 4 (jQ u x EwI) 0 [(0, vR (uB u) 149), (1, vI p0)] [] mem _
  unfold Mo_does
  refine J_aload_n G 0 dX9_does_0 rfl ?_
  refine J_getR (d := 165) (k := 27) G cls_9 wf_X9_63 kd_149 rfl rfl dX9_does_1 ?_
  refine J_iconst G dX9_does_4 ?_
  refine J_ialdC G kd_165 ln_165 (by decide) dX9_does_5 ?_
  refine J_ltI (fun x1 => ?_)
  refine J_istore_n (lv' := [(2, vI x1), (0, vR (uB u) 149), (1, vI p0)]) G dX9_does_6 rfl (by decide) rfl ?_
  refine J_aload_n G 1 dX9_does_7 rfl ?_
  refine J_getR (d := 165) (k := 27) G cls_9 wf_X9_63 kd_149 rfl rfl dX9_does_8 ?_
  refine J_iconst G dX9_does_11 ?_
  refine J_ialdC G kd_165 ln_165 (by decide) dX9_does_12 ?_
  refine J_ltI (fun x2 => ?_)
  refine J_istore_n (lv' := [(3, vI x2), (2, vI x1), (0, vR (uB u) 149), (1, vI p0)]) G dX9_does_13 rfl (by decide) rfl ?_
  refine J_iload_n G 3 dX9_does_14 rfl ?_
  refine J_split (fun hs3 => ?_) (fun hs3 => ?_)
  · refine J_tableIn (off := 33) 48 G dX9_does_15 hs3 (by decide) (by decide) (by decide) (by decide) ?_
    refine J_aload_n G 2 dX9_does_48 rfl ?_
    refine J_iload_n G 1 dX9_does_49 rfl ?_
    refine J_cVwI (As := [vI x1]) G (mX9_beam u x1 mem) sg_X9_beam sv_X9_beam wm_X9_302 cls_9 kd_149 rfl ⟨by decide, by decide⟩ rfl rfl (Nat.le_of_ble_eq_true rfl) dX9_does_50 ?_
    intro r4 m5
    exact J_iret G dX9_does_53 rfl
  · skip
    refine J_split (fun hs6 => ?_) (fun hs6 => ?_)
    · refine J_tableIn (off := 39) 54 G dX9_does_15 hs6 (by decide) (by decide) (by decide) (by decide) ?_
      refine J_aload_n G 2 dX9_does_54 rfl ?_
      refine J_iload_n G 1 dX9_does_55 rfl ?_
      refine J_cVwI (As := [vI x1]) G (mX9_support u x1 mem) sg_X9_support sv_X9_support wm_X9_305 cls_9 kd_149 rfl ⟨by decide, by decide⟩ rfl rfl (Nat.le_of_ble_eq_true rfl) dX9_does_56 ?_
      intro r7 m8
      exact J_iret G dX9_does_59 rfl
    · skip
      refine J_split (fun hs9 => ?_) (fun hs9 => ?_)
      · refine J_tableIn (off := 45) 60 G dX9_does_15 hs9 (by decide) (by decide) (by decide) (by decide) ?_
        refine J_aload_n G 2 dX9_does_60 rfl ?_
        refine J_iload_n G 1 dX9_does_61 rfl ?_
        refine J_iconst G dX9_does_62 ?_
        refine J_cVwI (As := [vI x1, vI 1]) G (mX9_hinge u x1 1 mem) sg_X9_hinge sv_X9_hinge wm_X9_308 cls_9 kd_149 rfl ⟨by decide, by decide⟩ rfl rfl (Nat.le_of_ble_eq_true rfl) dX9_does_63 ?_
        intro r10 m11
        exact J_iret G dX9_does_66 rfl
      · skip
        refine J_split (fun hs12 => ?_) (fun hs12 => ?_)
        · refine J_tableIn (off := 52) 67 G dX9_does_15 hs12 (by decide) (by decide) (by decide) (by decide) ?_
          refine J_aload_n G 2 dX9_does_67 rfl ?_
          refine J_iload_n G 1 dX9_does_68 rfl ?_
          refine J_iload_n G 0 dX9_does_69 rfl ?_
          refine J_cVwI (As := [vI x1, vI x2]) G (mX9_point u x1 x2 mem) sg_X9_point sv_X9_point wm_X9_311 cls_9 kd_149 rfl ⟨by decide, by decide⟩ rfl rfl (Nat.le_of_ble_eq_true rfl) dX9_does_70 ?_
          intro r13 m14
          exact J_iret G dX9_does_73 rfl
        · skip
          refine J_split (fun hs15 => ?_) (fun hs15 => ?_)
          · refine J_tableIn (off := 59) 74 G dX9_does_15 hs15 (by decide) (by decide) (by decide) (by decide) ?_
            refine J_aload_n G 2 dX9_does_74 rfl ?_
            refine J_iload_n G 1 dX9_does_75 rfl ?_
            refine J_iload_n G 0 dX9_does_76 rfl ?_
            refine J_aload_n G 2 dX9_does_77 rfl ?_
            refine J_getR (d := 165) (k := 27) G cls_9 wf_X9_63 kd_149 rfl rfl dX9_does_78 ?_
            refine J_iconst G dX9_does_81 ?_
            refine J_ialdC G kd_165 ln_165 (by decide) dX9_does_82 ?_
            refine J_cVwI (As := [vI x1, vI x2, vI (mem 165 2)]) G (mX9_spread u x1 x2 (mem 165 2) mem) sg_X9_spread sv_X9_spread wm_X9_314 cls_9 kd_149 rfl ⟨by decide, by decide⟩ rfl rfl (Nat.le_of_ble_eq_true rfl) dX9_does_83 ?_
            intro r16 m17
            exact J_iret G dX9_does_86 rfl
          · skip
            refine J_tableOut 87 G dX9_does_15 (by omega) (by decide) ?_
            refine J_aload_n G 2 dX9_does_87 rfl ?_
            refine J_iload_n G 1 dX9_does_88 rfl ?_
            refine J_iload_n G 0 dX9_does_89 rfl ?_
            refine J_cVwI (As := [vI x1, vI x2]) G (mX9_axle u x1 x2 mem) sg_X9_axle sv_X9_axle wm_X9_317 cls_9 kd_149 rfl ⟨by decide, by decide⟩ rfl rfl (Nat.le_of_ble_eq_true rfl) dX9_does_90 ?_
            intro r18 m19
            exact J_iret G dX9_does_93 rfl
theorem jMo_takesOne_L18 {u : jU} {x : jX} (G : jG u x cX9_takesOne RX9 4 (some .boolean) (jRm 4 93)) (x1 : Int) (r2 : Int) (k69 : Mem → Option (Int × Mem)) (hk69 : (fun g => ∀ m4, J u x 4 (jQ u x EwI) 69 [(0, vR (uB u) 149), (1, vI x1), (2, vI r2)] [] m4 (g m4)) k69) : ∀ (n : Nat) (i9 : Int) (m10 : Mem), J u x 4 (jQ u x EwI) 18 [(0, vR (uB u) 149), (1, vI x1), (2, vI r2), (3, vI i9)] [] m10 (Mo_takesOne_L18 r2 k69 n i9 m10) := by
  intro n
  induction n with
  | zero => intro i9 m10; exact J_none
  | succ n ih =>
    intro i9 m10
    rw [Mo_takesOne_L18]
    refine J_iload_n G 3 dX9_takesOne_18 rfl ?_
    refine J_aload_n G 0 dX9_takesOne_19 rfl ?_
    refine J_getR (d := 164) (k := 26) G cls_9 wf_X9_60 kd_149 rfl rfl dX9_takesOne_20 ?_
    refine J_iload_n G 2 dX9_takesOne_23 rfl ?_
    refine J_iald G kd_164 ln_164 dX9_takesOne_24 ?_
    refine J_icmp_ge 69 G dX9_takesOne_25 (by decide) ?_ ?_
    · refine J_lv [0, 1, 2] rfl ?_
      exact hk69 m10
    · refine J_aload_n G 0 dX9_takesOne_28 rfl ?_
      refine J_iload_n G 3 dX9_takesOne_29 rfl ?_
      refine J_iload_n G 2 dX9_takesOne_30 rfl ?_
      refine J_iconst G dX9_takesOne_31 ?_
      refine J_jn (fun g => ∀ x11, J u x 4 (jQ u x EwI) 55 [(0, vR (uB u) 149), (1, vI x1), (2, vI r2), (3, vI i9)] [vI x11, vI i9, vR (uB u) 149] m10 (g x11)) ?_ ?_
      · intro x11
        refine J_cVwI (As := [vI i9, vI x11]) G (mX9_takes u i9 x11 m10) sg_X9_takes sv_X9_takes wm_X9_323 cls_9 kd_149 rfl ⟨by decide, by decide⟩ rfl rfl (Nat.le_of_ble_eq_true rfl) dX9_takesOne_55 ?_
        intro r12 m13
        refine J_if_ne 63 G dX9_takesOne_58 (by decide) ?_ ?_
        · refine J_iinc (lv' := [(3, vI (i9 + 1)), (0, vR (uB u) 149), (1, vI x1), (2, vI r2)]) G 3 dX9_takesOne_63 rfl (by decide) rfl ?_
          refine J_goto 18 G dX9_takesOne_66 (by decide) ?_
          refine J_lv [1, 2, 3, 0] rfl ?_
          exact ih (i9 + 1) m13
        · refine J_iconst G dX9_takesOne_61 ?_
          exact J_zret G dX9_takesOne_62 (by decide) rfl
      · intro k55 hk55
        refine J_jn (fun g => J u x 4 (jQ u x EwI) 50 [(0, vR (uB u) 149), (1, vI x1), (2, vI r2), (3, vI i9)] [vI i9, vR (uB u) 149] m10 (g)) ?_ ?_
        · skip
          refine J_iconst G dX9_takesOne_50 ?_
          refine J_goto 55 G dX9_takesOne_51 (by decide) ?_
          exact hk55 1
        · intro k50 hk50
          refine J_jn (fun g => J u x 4 (jQ u x EwI) 40 [(0, vR (uB u) 149), (1, vI x1), (2, vI r2), (3, vI i9)] [vI i9, vR (uB u) 149] m10 (g)) ?_ ?_
          · skip
            refine J_iload_n G 2 dX9_takesOne_40 rfl ?_
            refine J_iconst G dX9_takesOne_41 ?_
            refine J_jn (fun g => J u x 4 (jQ u x EwI) 54 [(0, vR (uB u) 149), (1, vI x1), (2, vI r2), (3, vI i9)] [vI i9, vR (uB u) 149] m10 (g)) ?_ ?_
            · skip
              refine J_iconst G dX9_takesOne_54 ?_
              exact hk55 0
            · intro k54 hk54
              refine J_icmp_ne 54 G dX9_takesOne_42 (by decide) ?_ ?_
              · exact hk54
              · refine J_iload_n G 3 dX9_takesOne_45 rfl ?_
                refine J_iconst G dX9_takesOne_46 ?_
                refine J_icmp_ne 54 G dX9_takesOne_47 (by decide) ?_ ?_
                · exact hk54
                · exact hk50
          · intro k40 hk40
            refine J_icmp_ne 40 G dX9_takesOne_32 (by decide) ?_ ?_
            · exact hk40
            · refine J_iload_n G 3 dX9_takesOne_35 rfl ?_
              refine J_iconst G dX9_takesOne_36 ?_
              refine J_icmp_eq 50 G dX9_takesOne_37 (by decide) ?_ ?_
              · exact hk50
              · exact hk40
theorem mX9_takesOne (u : jU) (mem : Mem) : jMet u yX9_takesOne cX9_takesOne 4 (some .boolean) (jRm 4 93) [vR (uB u) 149] mem EwI (Mo_takesOne mem) := by
  refine jMet_of (by decide +kernel) (Nat.le_of_ble_eq_true rfl) (fun x G => ?_)
  show J u x 4 (jQ u x EwI) 0 [(0, vR (uB u) 149)] [] mem _
  unfold Mo_takesOne
  refine J_aload_n G 0 dX9_takesOne_0 rfl ?_
  refine J_getI (i := 28) (k := 28) G cls_9 wf_X9_288 kd_149 rfl rfl dX9_takesOne_1 ?_
  refine J_ltI (fun x1 => ?_)
  refine J_istore_n (lv' := [(1, vI x1), (0, vR (uB u) 149)]) G dX9_takesOne_4 rfl (by decide) rfl ?_
  refine J_aload_n G 1 dX9_takesOne_5 rfl ?_
  refine J_cVwI (As := []) G (mX9_word u mem) sg_X9_word sv_X9_word wm_X9_320 cls_9 kd_149 rfl ⟨by decide, by decide⟩ rfl rfl (Nat.le_of_ble_eq_true rfl) dX9_takesOne_6 ?_
  intro r2 m3
  refine J_istore_n (lv' := [(2, vI r2), (1, vI x1), (0, vR (uB u) 149)]) G dX9_takesOne_9 rfl (by decide) rfl ?_
  refine J_iload_n G 0 dX9_takesOne_10 rfl ?_
  refine J_if_ge 16 G dX9_takesOne_11 (by decide) ?_ ?_
  · refine J_iconst G dX9_takesOne_16 ?_
    refine J_istore_n (lv' := [(3, vI 0), (2, vI r2), (1, vI x1), (0, vR (uB u) 149)]) G dX9_takesOne_17 rfl (by decide) rfl ?_
    refine J_jn (fun g => ∀ m4, J u x 4 (jQ u x EwI) 69 [(0, vR (uB u) 149), (1, vI x1), (2, vI r2)] [] m4 (g m4)) ?_ ?_
    · intro m4
      refine J_aload_n G 0 dX9_takesOne_69 rfl ?_
      refine J_cVpI (As := []) G (mX9_here u m4) sg_X9_here sv_X9_here wm_X9_295 cls_9 kd_149 rfl ⟨by decide, by decide⟩ rfl rfl (Nat.le_of_ble_eq_true rfl) dX9_takesOne_70 ?_
      intro r5
      refine J_bipush G dX9_takesOne_73 (by decide) ?_
      refine J_jn (fun g => J u x 4 (jQ u x EwI) 91 [(0, vR (uB u) 149), (1, vI x1), (2, vI r2)] [] m4 (g)) ?_ ?_
      · skip
        refine J_aload_n G 0 dX9_takesOne_91 rfl ?_
        refine J_getI (i := 29) (k := 29) G cls_9 wf_X9_327 kd_149 rfl rfl dX9_takesOne_92 ?_
        refine J_if_ge 111 G dX9_takesOne_95 (by decide) ?_ ?_
        · refine J_iconst G dX9_takesOne_111 ?_
          exact J_zret G dX9_takesOne_112 (by decide) rfl
        · refine J_aload_n G 0 dX9_takesOne_98 rfl ?_
          refine J_iload_n G 2 dX9_takesOne_99 rfl ?_
          refine J_cVwI (As := [vI r2]) G (mX9_does u r2 m4) sg_X9_does sv_X9_does wm_X9_330 cls_9 kd_149 rfl ⟨by decide, by decide⟩ rfl rfl (Nat.le_of_ble_eq_true rfl) dX9_takesOne_100 ?_
          intro r6 m7
          refine J_if_ge 111 G dX9_takesOne_103 (by decide) ?_ ?_
          · refine J_iconst G dX9_takesOne_111 ?_
            exact J_zret G dX9_takesOne_112 (by decide) rfl
          · refine J_aload_n G 0 dX9_takesOne_106 rfl ?_
            refine J_iload_n G 1 dX9_takesOne_107 rfl ?_
            refine J_putI (i := 29) (k := 29) G cls_9 wf_X9_327 kd_149 rfl rfl rfl rfl dX9_takesOne_108 ?_
            refine J_ltM (fun m8 => ?_)
            refine J_iconst G dX9_takesOne_111 ?_
            exact J_zret G dX9_takesOne_112 (by decide) rfl
      · intro k91 hk91
        refine J_icmp_eq 91 G dX9_takesOne_75 (by decide) ?_ ?_
        · exact hk91
        · refine J_aload_n G 0 dX9_takesOne_78 rfl ?_
          refine J_getI (i := 28) (k := 28) G cls_9 wf_X9_288 kd_149 rfl rfl dX9_takesOne_79 ?_
          refine J_aload_n G 0 dX9_takesOne_82 rfl ?_
          refine J_getI (i := 23) (k := 23) G cls_9 wf_X9_116 kd_149 rfl rfl dX9_takesOne_83 ?_
          refine J_icmp_ge 91 G dX9_takesOne_86 (by decide) ?_ ?_
          · exact hk91
          · refine J_iconst G dX9_takesOne_89 ?_
            exact J_zret G dX9_takesOne_90 (by decide) rfl
    · intro k69 hk69
      refine J_lv [3, 2, 1, 0] rfl ?_
      exact jMo_takesOne_L18 G x1 r2 k69 hk69 2000 0 m3
  · refine J_iconst G dX9_takesOne_14 ?_
    exact J_zret G dX9_takesOne_15 (by decide) rfl
theorem jMo_takesAll_L12 {u : jU} {x : jX} (G : jG u x cX9_takesAll RX9 2 (some .int) (jRm 5 116)) : ∀ (n : Nat) (i3 : Int) (m4 : Mem), J u x 2 (jQ u x EwI) 12 [(0, vR (uB u) 149), (1, vI i3)] [] m4 (Mo_takesAll_L12 n i3 m4) := by
  intro n
  induction n with
  | zero => intro i3 m4; exact J_none
  | succ n ih =>
    intro i3 m4
    rw [Mo_takesAll_L12]
    refine J_aload_n G 0 dX9_takesAll_12 rfl ?_
    refine J_cVwI (As := []) G (mX9_takesOne u m4) sg_X9_takesOne sv_X9_takesOne wm_X9_333 cls_9 kd_149 rfl ⟨by decide, by decide⟩ rfl rfl (Nat.le_of_ble_eq_true rfl) dX9_takesAll_13 ?_
    intro r5 m6
    refine J_if_ne 28 G dX9_takesAll_16 (by decide) ?_ ?_
    · refine J_iinc (lv' := [(1, vI (i3 + 1)), (0, vR (uB u) 149)]) G 1 dX9_takesAll_28 rfl (by decide) rfl ?_
      refine J_aload_n G 1 dX9_takesAll_31 rfl ?_
      refine J_getI (i := 28) (k := 28) G cls_9 wf_X9_288 kd_149 rfl rfl dX9_takesAll_32 ?_
      refine J_aload_n G 1 dX9_takesAll_35 rfl ?_
      refine J_getI (i := 23) (k := 23) G cls_9 wf_X9_116 kd_149 rfl rfl dX9_takesAll_36 ?_
      refine J_icmp_ne 44 G dX9_takesAll_39 (by decide) ?_ ?_
      · refine J_aload_n G 1 dX9_takesAll_44 rfl ?_
        refine J_dup G dX9_takesAll_45 rfl ?_
        refine J_getI (i := 28) (k := 28) G cls_9 wf_X9_288 kd_149 rfl rfl dX9_takesAll_46 ?_
        refine J_iconst G dX9_takesAll_49 ?_
        refine J_iadd G dX9_takesAll_50 ?_
        refine J_putI (i := 28) (k := 28) G cls_9 wf_X9_288 kd_149 rfl rfl rfl rfl dX9_takesAll_51 ?_
        refine J_ltM (fun m7 => ?_)
        refine J_goto 12 G dX9_takesAll_54 (by decide) ?_
        refine J_lv [1, 0] rfl ?_
        exact ih (i3 + 1) m7
      · refine J_iload_n G 0 dX9_takesAll_42 rfl ?_
        exact J_iret G dX9_takesAll_43 rfl
    · refine J_sipush G dX9_takesAll_19 (by decide) ?_
      refine J_aload_n G 0 dX9_takesAll_22 rfl ?_
      refine J_getI (i := 28) (k := 28) G cls_9 wf_X9_288 kd_149 rfl rfl dX9_takesAll_23 ?_
      refine J_isub G dX9_takesAll_26 ?_
      exact J_iret G dX9_takesAll_27 rfl
theorem mX9_takesAll (u : jU) (mem : Mem) : jMet u yX9_takesAll cX9_takesAll 2 (some .int) (jRm 5 116) [vR (uB u) 149] mem EwI (Mo_takesAll mem) := by
  refine jMet_of (by decide +kernel) (Nat.le_of_ble_eq_true rfl) (fun x G => ?_)
  show J u x 2 (jQ u x EwI) 0 [(0, vR (uB u) 149)] [] mem _
  unfold Mo_takesAll
  refine J_aload_n G 0 dX9_takesAll_0 rfl ?_
  refine J_iconst G dX9_takesAll_1 ?_
  refine J_putI (i := 28) (k := 28) G cls_9 wf_X9_288 kd_149 rfl rfl rfl rfl dX9_takesAll_2 ?_
  refine J_ltM (fun m1 => ?_)
  refine J_aload_n G 0 dX9_takesAll_5 rfl ?_
  refine J_iconst G dX9_takesAll_6 ?_
  refine J_putI (i := 29) (k := 29) G cls_9 wf_X9_327 kd_149 rfl rfl rfl rfl dX9_takesAll_7 ?_
  refine J_ltM (fun m2 => ?_)
  refine J_iconst G dX9_takesAll_10 ?_
  refine J_istore_n (lv' := [(1, vI 0), (0, vR (uB u) 149)]) G dX9_takesAll_11 rfl (by decide) rfl ?_
  refine J_lv [1, 0] rfl ?_
  exact jMo_takesAll_L12 G 2000 0 m2
theorem jMo_reads_L75 {u : jU} {x : jX} (G : jG u x cX9_reads RX9 4 (some .int) (jRm 6 137)) (r4 : Int) (k100 : Mem → Option (Int × Mem)) (hk100 : (fun g => ∀ m9, J u x 4 (jQ u x EwI) 100 [(0, vR (uB u) 149), (2, vI r4)] [] m9 (g m9)) k100) : ∀ (n : Nat) (i10 : Int) (m11 : Mem), J u x 4 (jQ u x EwI) 75 [(0, vR (uB u) 149), (2, vI r4), (3, vI i10)] [] m11 (Mo_reads_L75 k100 n i10 m11) := by
  intro n
  induction n with
  | zero => intro i10 m11; exact J_none
  | succ n ih =>
    intro i10 m11
    rw [Mo_reads_L75]
    refine J_iload_n G 2 dX9_reads_75 rfl ?_
    refine J_sipush G dX9_reads_76 (by decide) ?_
    refine J_icmp_ge 100 G dX9_reads_79 (by decide) ?_ ?_
    · refine J_lv [0, 1] rfl ?_
      exact hk100 m11
    · refine J_aload_n G 0 dX9_reads_82 rfl ?_
      refine J_getR (d := 152) (k := 3) G cls_9 wf_X9_18 kd_149 rfl rfl dX9_reads_83 ?_
      refine J_iload_n G 2 dX9_reads_86 rfl ?_
      refine J_aload_n G 0 dX9_reads_87 rfl ?_
      refine J_getR (d := 166) (k := 30) G cls_9 wf_X9_66 kd_149 rfl rfl dX9_reads_88 ?_
      refine J_iload_n G 2 dX9_reads_91 rfl ?_
      refine J_iald G kd_166 ln_166 dX9_reads_92 ?_
      refine J_iast G kd_152 ln_152 dX9_reads_93 ?_
      refine J_ltM (fun m12 => ?_)
      refine J_iinc (lv' := [(3, vI (i10 + 1)), (0, vR (uB u) 149), (2, vI r4)]) G 2 dX9_reads_94 rfl (by decide) rfl ?_
      refine J_goto 75 G dX9_reads_97 (by decide) ?_
      refine J_lv [1, 2, 0] rfl ?_
      exact ih (i10 + 1) m12
theorem jMo_reads_L7 {u : jU} {x : jX} (G : jG u x cX9_reads RX9 4 (some .int) (jRm 6 137)) (x1 : Int) (k32 : Mem → Option (Int × Mem)) (hk32 : (fun g => ∀ m2, J u x 4 (jQ u x EwI) 32 [(0, vR (uB u) 149), (1, vI x1)] [] m2 (g m2)) k32) : ∀ (n : Nat) (i14 : Int) (m15 : Mem), J u x 4 (jQ u x EwI) 7 [(0, vR (uB u) 149), (1, vI x1), (2, vI i14)] [] m15 (Mo_reads_L7 k32 n i14 m15) := by
  intro n
  induction n with
  | zero => intro i14 m15; exact J_none
  | succ n ih =>
    intro i14 m15
    rw [Mo_reads_L7]
    refine J_iload_n G 2 dX9_reads_7 rfl ?_
    refine J_sipush G dX9_reads_8 (by decide) ?_
    refine J_icmp_ge 32 G dX9_reads_11 (by decide) ?_ ?_
    · refine J_lv [0, 1] rfl ?_
      exact hk32 m15
    · refine J_aload_n G 0 dX9_reads_14 rfl ?_
      refine J_getR (d := 166) (k := 30) G cls_9 wf_X9_66 kd_149 rfl rfl dX9_reads_15 ?_
      refine J_iload_n G 2 dX9_reads_18 rfl ?_
      refine J_aload_n G 0 dX9_reads_19 rfl ?_
      refine J_getR (d := 152) (k := 3) G cls_9 wf_X9_18 kd_149 rfl rfl dX9_reads_20 ?_
      refine J_iload_n G 2 dX9_reads_23 rfl ?_
      refine J_iald G kd_152 ln_152 dX9_reads_24 ?_
      refine J_iast G kd_166 ln_166 dX9_reads_25 ?_
      refine J_ltM (fun m16 => ?_)
      refine J_iinc (lv' := [(2, vI (i14 + 1)), (0, vR (uB u) 149), (1, vI x1)]) G 2 dX9_reads_26 rfl (by decide) rfl ?_
      refine J_goto 7 G dX9_reads_29 (by decide) ?_
      refine J_lv [1, 2, 0] rfl ?_
      exact ih (i14 + 1) m16
theorem mX9_reads (u : jU) (mem : Mem) : jMet u yX9_reads cX9_reads 4 (some .int) (jRm 6 137) [vR (uB u) 149] mem EwI (Mo_reads mem) := by
  refine jMet_of (by decide +kernel) (Nat.le_of_ble_eq_true rfl) (fun x G => ?_)
  show J u x 4 (jQ u x EwI) 0 [(0, vR (uB u) 149)] [] mem _
  unfold Mo_reads
  refine J_aload_n G 0 dX9_reads_0 rfl ?_
  refine J_getI (i := 4) (k := 4) G cls_9 wf_X9_78 kd_149 rfl rfl dX9_reads_1 ?_
  refine J_ltI (fun x1 => ?_)
  refine J_istore_n (lv' := [(1, vI x1), (0, vR (uB u) 149)]) G dX9_reads_4 rfl (by decide) rfl ?_
  refine J_iconst G dX9_reads_5 ?_
  refine J_istore_n (lv' := [(2, vI 0), (1, vI x1), (0, vR (uB u) 149)]) G dX9_reads_6 rfl (by decide) rfl ?_
  refine J_jn (fun g => ∀ m2, J u x 4 (jQ u x EwI) 32 [(0, vR (uB u) 149), (1, vI x1)] [] m2 (g m2)) ?_ ?_
  · intro m2
    refine J_aload_n G 0 dX9_reads_32 rfl ?_
    refine J_cVwV (As := []) G (mX9_thinks u m2) sg_X9_thinks sv_X9_thinks wm_X9_266 cls_9 kd_149 rfl ⟨by decide, by decide⟩ rfl rfl (Nat.le_of_ble_eq_true rfl) dX9_reads_33 ?_
    intro m3
    refine J_aload_n G 0 dX9_reads_36 rfl ?_
    refine J_cVwI (As := []) G (mX9_takesAll u m3) sg_X9_takesAll sv_X9_takesAll wm_X9_336 cls_9 kd_149 rfl ⟨by decide, by decide⟩ rfl rfl (Nat.le_of_ble_eq_true rfl) dX9_reads_37 ?_
    intro r4 m5
    refine J_istore_n (lv' := [(2, vI r4), (0, vR (uB u) 149), (1, vI x1)]) G dX9_reads_40 rfl (by decide) rfl ?_
    refine J_aload_n G 1 dX9_reads_41 rfl ?_
    refine J_iconst G dX9_reads_42 ?_
    refine J_putI (i := 23) (k := 23) G cls_9 wf_X9_116 kd_149 rfl rfl rfl rfl dX9_reads_43 ?_
    refine J_ltM (fun m6 => ?_)
    refine J_iload_n G 0 dX9_reads_46 rfl ?_
    refine J_jn (fun g => J u x 4 (jQ u x EwI) 64 [(0, vR (uB u) 149), (1, vI x1), (2, vI r4)] [] m6 (g)) ?_ ?_
    · skip
      refine J_aload_n G 0 dX9_reads_64 rfl ?_
      refine J_cVwV (As := []) G (mX9_laysBack u m6) sg_X9_laysBack sv_X9_laysBack wm_X9_275 cls_9 kd_149 rfl ⟨by decide, by decide⟩ rfl rfl (Nat.le_of_ble_eq_true rfl) dX9_reads_65 ?_
      intro m7
      refine J_aload_n G 0 dX9_reads_68 rfl ?_
      refine J_iload_n G 1 dX9_reads_69 rfl ?_
      refine J_putI (i := 4) (k := 4) G cls_9 wf_X9_78 kd_149 rfl rfl rfl rfl dX9_reads_70 ?_
      refine J_ltM (fun m8 => ?_)
      refine J_iconst G dX9_reads_73 ?_
      refine J_istore_n (lv' := [(3, vI 0), (0, vR (uB u) 149), (1, vI x1), (2, vI r4)]) G dX9_reads_74 rfl (by decide) rfl ?_
      refine J_jn (fun g => ∀ m9, J u x 4 (jQ u x EwI) 100 [(0, vR (uB u) 149), (2, vI r4)] [] m9 (g m9)) ?_ ?_
      · intro m9
        refine J_iload_n G 1 dX9_reads_100 rfl ?_
        refine J_if_ge 108 G dX9_reads_101 (by decide) ?_ ?_
        · refine J_sipush G dX9_reads_108 (by decide) ?_
          refine J_aload_n G 0 dX9_reads_111 rfl ?_
          refine J_getI (i := 29) (k := 29) G cls_9 wf_X9_327 kd_149 rfl rfl dX9_reads_112 ?_
          refine J_isub G dX9_reads_115 ?_
          exact J_iret G dX9_reads_116 rfl
        · refine J_iload_n G 1 dX9_reads_104 rfl ?_
          refine J_goto 116 G dX9_reads_105 (by decide) ?_
          exact J_iret G dX9_reads_116 rfl
      · intro k100 hk100
        refine J_lv [1, 3, 0] rfl ?_
        exact jMo_reads_L75 G r4 k100 hk100 2000 0 m8
    · intro k64 hk64
      refine J_if_lt 64 G dX9_reads_47 (by decide) ?_ ?_
      · refine J_lv [1, 2, 0] rfl ?_
        exact hk64
      · refine J_aload_n G 1 dX9_reads_50 rfl ?_
        refine J_getI (i := 29) (k := 29) G cls_9 wf_X9_327 kd_149 rfl rfl dX9_reads_51 ?_
        refine J_if_ge 64 G dX9_reads_54 (by decide) ?_ ?_
        · refine J_lv [1, 2, 0] rfl ?_
          exact hk64
        · refine J_aload_n G 1 dX9_reads_57 rfl ?_
          refine J_iconst G dX9_reads_58 ?_
          refine J_putI (i := 4) (k := 4) G cls_9 wf_X9_78 kd_149 rfl rfl rfl rfl dX9_reads_59 ?_
          refine J_ltM (fun m13 => ?_)
          refine J_iload_n G 0 dX9_reads_62 rfl ?_
          exact J_iret G dX9_reads_63 rfl
  · intro k32 hk32
    refine J_lv [2, 1, 0] rfl ?_
    exact jMo_reads_L7 G x1 k32 hk32 2000 0 mem
theorem mX9_sign (u : jU) (p0 : Int) (mem : Mem) : jMet u yX9_sign cX9_sign 2 none (jRm 0 0) [vR (uB u) 149, vI p0] mem EwV (Mo_sign p0 mem) := by
  refine jMet_of (by decide +kernel) (Nat.le_of_ble_eq_true rfl) (fun x G => ?_)
  show J u x 2 (jQ u x EwV) 0 [(0, vR (uB u) 149), (1, vI p0)] [] mem _
  unfold Mo_sign
  refine J_aload_n G 0 dX9_sign_0 rfl ?_
  refine J_getR (d := 167) (k := 31) G cls_9 wf_X9_69 kd_149 rfl rfl dX9_sign_1 ?_
  refine J_aload_n G 0 dX9_sign_4 rfl ?_
  refine J_getI (i := 32) (k := 32) G cls_9 wf_X9_119 kd_149 rfl rfl dX9_sign_5 ?_
  refine J_iload_n G 1 dX9_sign_8 rfl ?_
  refine J_iast G kd_167 ln_167 dX9_sign_9 ?_
  refine J_ltM (fun m1 => ?_)
  refine J_aload_n G 0 dX9_sign_10 rfl ?_
  refine J_dup G dX9_sign_11 rfl ?_
  refine J_getI (i := 32) (k := 32) G cls_9 wf_X9_119 kd_149 rfl rfl dX9_sign_12 ?_
  refine J_iconst G dX9_sign_15 ?_
  refine J_iadd G dX9_sign_16 ?_
  refine J_putI (i := 32) (k := 32) G cls_9 wf_X9_119 kd_149 rfl rfl rfl rfl dX9_sign_17 ?_
  refine J_ltM (fun m2 => ?_)
  exact J_vret G dX9_sign_20 rfl
theorem jMo_number_L21 {u : jU} {x : jX} (G : jG u x cX9_number RX9 5 none (jRm 1 21)) (p0 : Int) : ∀ (n : Nat) (i2 : Int) (m3 : Mem), J u x 5 (jQ u x EwV) 21 [(0, vR (uB u) 149), (1, vL p0), (3, vL i2)] [] m3 (Mo_number_L21 p0 n i2 m3) := by
  intro n
  induction n with
  | zero => intro i2 m3; exact J_none
  | succ n ih =>
    intro i2 m3
    rw [Mo_number_L21]
    refine J_lload_n G 2 dX9_number_21 rfl ?_
    refine J_lconst (v := 0) G dX9_number_22 (by decide) ?_
    refine J_lcmp_le 51 G dX9_number_23 dX9_number_24 (by decide) ?_ ?_
    · exact J_vret G dX9_number_51 rfl
    · refine J_aload_n G 0 dX9_number_27 rfl ?_
      refine J_bipush G dX9_number_28 (by decide) ?_
      refine J_lload_n G 1 dX9_number_30 rfl ?_
      refine J_lload_n G 2 dX9_number_31 rfl ?_
      refine J_ldiv G dX9_number_32 ?_
      refine J_ldc2 (v := 10) G dX9_number_33 wc_X9_88 (by decide) ?_
      refine J_lremC G dX9_number_36 (by decide) ?_
      refine J_l2i G dX9_number_37 ?_
      refine J_iadd G dX9_number_38 ?_
      refine J_cVwV (As := [vI (48 + ((s64 ((s64 p0).tdiv (s64 i2))).tmod (s64 10)))]) G (mX9_sign u (48 + ((s64 ((s64 p0).tdiv (s64 i2))).tmod (s64 10))) m3) sg_X9_sign sv_X9_sign wm_X9_339 cls_9 kd_149 rfl ⟨by decide, by decide⟩ rfl rfl (Nat.le_of_ble_eq_true rfl) dX9_number_39 ?_
      intro m4
      refine J_lload_n G 2 dX9_number_42 rfl ?_
      refine J_ldc2 (v := 10) G dX9_number_43 wc_X9_88 (by decide) ?_
      refine J_ldivC G dX9_number_46 (by decide) ?_
      refine J_ltL (fun x5 => ?_)
      refine J_lstore_n (lv' := [(3, vL x5), (0, vR (uB u) 149), (1, vL p0)]) G dX9_number_47 rfl (by decide) rfl ?_
      refine J_goto 21 G dX9_number_48 (by decide) ?_
      refine J_lv [1, 2, 0] rfl ?_
      exact ih x5 m4
theorem jMo_number_L2 {u : jU} {x : jX} (G : jG u x cX9_number RX9 5 none (jRm 1 21)) (p0 : Int) (mem : Mem) (k21 : Int → Option Mem) (hk21 : (fun g => ∀ x1, J u x 5 (jQ u x EwV) 21 [(0, vR (uB u) 149), (1, vL p0), (3, vL x1)] [] mem (g x1)) k21) : ∀ (n : Nat) (i6 : Int), J u x 5 (jQ u x EwV) 2 [(0, vR (uB u) 149), (1, vL p0), (3, vL i6)] [] mem (Mo_number_L2 p0 k21 n i6) := by
  intro n
  induction n with
  | zero => intro i6; exact J_none
  | succ n ih =>
    intro i6
    rw [Mo_number_L2]
    refine J_lload_n G 2 dX9_number_2 rfl ?_
    refine J_ldc2 (v := 10) G dX9_number_3 wc_X9_88 (by decide) ?_
    refine J_lmul G dX9_number_6 ?_
    refine J_lload_n G 1 dX9_number_7 rfl ?_
    refine J_lcmp_gt 21 G dX9_number_8 dX9_number_9 (by decide) ?_ ?_
    · exact hk21 i6
    · refine J_lload_n G 2 dX9_number_12 rfl ?_
      refine J_ldc2 (v := 10) G dX9_number_13 wc_X9_88 (by decide) ?_
      refine J_lmul G dX9_number_16 ?_
      refine J_ltL (fun x7 => ?_)
      refine J_lstore_n (lv' := [(3, vL x7), (0, vR (uB u) 149), (1, vL p0)]) G dX9_number_17 rfl (by decide) rfl ?_
      refine J_goto 2 G dX9_number_18 (by decide) ?_
      refine J_lv [1, 2, 0] rfl ?_
      exact ih x7
theorem mX9_number (u : jU) (p0 : Int) (mem : Mem) : jMet u yX9_number cX9_number 5 none (jRm 1 21) [vR (uB u) 149, vL p0] mem EwV (Mo_number p0 mem) := by
  refine jMet_of (by decide +kernel) (Nat.le_of_ble_eq_true rfl) (fun x G => ?_)
  show J u x 5 (jQ u x EwV) 0 [(0, vR (uB u) 149), (1, vL p0)] [] mem _
  unfold Mo_number
  refine J_lconst (v := 1) G dX9_number_0 (by decide) ?_
  refine J_lstore_n (lv' := [(3, vL 1), (0, vR (uB u) 149), (1, vL p0)]) G dX9_number_1 rfl (by decide) rfl ?_
  refine J_jn (fun g => ∀ x1, J u x 5 (jQ u x EwV) 21 [(0, vR (uB u) 149), (1, vL p0), (3, vL x1)] [] mem (g x1)) ?_ ?_
  · intro x1
    exact jMo_number_L21 G p0 2000 x1 mem
  · intro k21 hk21
    refine J_lv [1, 2, 0] rfl ?_
    exact jMo_number_L2 G p0 mem k21 hk21 2000 1
theorem mX9_fraction (u : jU) (p0 : Int) (p1 : Int) (p2 : Int) (mem : Mem) : jMet u yX9_fraction cX9_fraction 6 none (jRm 2 55) [vR (uB u) 149, vL p0, vL p1, vI p2] mem EwV (Mo_fraction p0 p1 p2 mem) := by
  refine jMet_of (by decide +kernel) (Nat.le_of_ble_eq_true rfl) (fun x G => ?_)
  show J u x 6 (jQ u x EwV) 0 [(0, vR (uB u) 149), (1, vL p0), (3, vL p1), (5, vI p2)] [] mem _
  unfold Mo_fraction
  refine J_aload_n G 0 dX9_fraction_0 rfl ?_
  refine J_lload_n G 1 dX9_fraction_1 rfl ?_
  refine J_lload_n G 2 dX9_fraction_2 rfl ?_
  refine J_cVwV (As := [vL p0, vL p1]) G (mX9_is u p0 p1 mem) sg_X9_is sv_X9_is wm_X9_133 cls_9 kd_149 rfl ⟨by decide, by decide⟩ rfl rfl (Nat.le_of_ble_eq_true rfl) dX9_fraction_3 ?_
  intro m1
  refine J_aload_n G 0 dX9_fraction_6 rfl ?_
  refine J_getL (i := 5) (k := 5) G cls_9 wf_X9_130 kd_149 rfl rfl dX9_fraction_7 ?_
  refine J_lconst (v := 0) G dX9_fraction_10 (by decide) ?_
  refine J_jn (fun g => ∀ m2, J u x 6 (jQ u x EwV) 35 [(0, vR (uB u) 149)] [] m2 (g m2)) ?_ ?_
  · intro m2
    refine J_aload_n G 0 dX9_fraction_35 rfl ?_
    refine J_aload_n G 0 dX9_fraction_36 rfl ?_
    refine J_getL (i := 5) (k := 5) G cls_9 wf_X9_130 kd_149 rfl rfl dX9_fraction_37 ?_
    refine J_lconst (v := 0) G dX9_fraction_40 (by decide) ?_
    refine J_jn (fun g => ∀ x3, J u x 6 (jQ u x EwV) 57 [(0, vR (uB u) 149)] [vL x3, vR (uB u) 149] m2 (g x3)) ?_ ?_
    · intro x3
      refine J_cVwV (As := [vL x3]) G (mX9_number u x3 m2) sg_X9_number sv_X9_number wm_X9_342 cls_9 kd_149 rfl ⟨by decide, by decide⟩ rfl rfl (Nat.le_of_ble_eq_true rfl) dX9_fraction_57 ?_
      intro m4
      refine J_aload_n G 0 dX9_fraction_60 rfl ?_
      refine J_getL (i := 6) (k := 6) G cls_9 wf_X9_21 kd_149 rfl rfl dX9_fraction_61 ?_
      refine J_lconst (v := 1) G dX9_fraction_64 (by decide) ?_
      refine J_lcmp_le 83 G dX9_fraction_65 dX9_fraction_66 (by decide) ?_ ?_
      · exact J_vret G dX9_fraction_83 rfl
      · refine J_aload_n G 0 dX9_fraction_69 rfl ?_
        refine J_bipush G dX9_fraction_70 (by decide) ?_
        refine J_cVwV (As := [vI 47]) G (mX9_sign u 47 m4) sg_X9_sign sv_X9_sign wm_X9_339 cls_9 kd_149 rfl ⟨by decide, by decide⟩ rfl rfl (Nat.le_of_ble_eq_true rfl) dX9_fraction_72 ?_
        intro m5
        refine J_aload_n G 0 dX9_fraction_75 rfl ?_
        refine J_aload_n G 0 dX9_fraction_76 rfl ?_
        refine J_getL (i := 6) (k := 6) G cls_9 wf_X9_21 kd_149 rfl rfl dX9_fraction_77 ?_
        refine J_cVwV (As := [vL (m5 149 6)]) G (mX9_number u (m5 149 6) m5) sg_X9_number sv_X9_number wm_X9_342 cls_9 kd_149 rfl ⟨by decide, by decide⟩ rfl rfl (Nat.le_of_ble_eq_true rfl) dX9_fraction_80 ?_
        intro m6
        exact J_vret G dX9_fraction_83 rfl
    · intro k57 hk57
      refine J_lcmp_ge 53 G dX9_fraction_41 dX9_fraction_42 (by decide) ?_ ?_
      · refine J_aload_n G 0 dX9_fraction_53 rfl ?_
        refine J_getL (i := 5) (k := 5) G cls_9 wf_X9_130 kd_149 rfl rfl dX9_fraction_54 ?_
        exact hk57 (m2 149 5)
      · refine J_aload_n G 0 dX9_fraction_45 rfl ?_
        refine J_getL (i := 5) (k := 5) G cls_9 wf_X9_130 kd_149 rfl rfl dX9_fraction_46 ?_
        refine J_lneg G dX9_fraction_49 ?_
        refine J_goto 57 G dX9_fraction_50 (by decide) ?_
        exact hk57 (-(m2 149 5))
  · intro k35 hk35
    refine J_lcmp_ge 24 G dX9_fraction_11 dX9_fraction_12 (by decide) ?_ ?_
    · refine J_iload G 3 dX9_fraction_24 rfl ?_
      refine J_if_eq 35 G dX9_fraction_26 (by decide) ?_ ?_
      · refine J_lv [0] rfl ?_
        exact hk35 m1
      · refine J_aload_n G 0 dX9_fraction_29 rfl ?_
        refine J_bipush G dX9_fraction_30 (by decide) ?_
        refine J_cVwV (As := [vI 43]) G (mX9_sign u 43 m1) sg_X9_sign sv_X9_sign wm_X9_339 cls_9 kd_149 rfl ⟨by decide, by decide⟩ rfl rfl (Nat.le_of_ble_eq_true rfl) dX9_fraction_32 ?_
        intro m7
        refine J_lv [0] rfl ?_
        exact hk35 m7
    · refine J_aload_n G 0 dX9_fraction_15 rfl ?_
      refine J_bipush G dX9_fraction_16 (by decide) ?_
      refine J_cVwV (As := [vI 45]) G (mX9_sign u 45 m1) sg_X9_sign sv_X9_sign wm_X9_339 cls_9 kd_149 rfl ⟨by decide, by decide⟩ rfl rfl (Nat.le_of_ble_eq_true rfl) dX9_fraction_18 ?_
      intro m8
      refine J_goto 35 G dX9_fraction_21 (by decide) ?_
      refine J_lv [0] rfl ?_
      exact hk35 m8
theorem jMo_prints_L21 {u : jU} {x : jX} (G : jG u x cX9_prints RX9 5 (some .int) (jRm 6 157)) : ∀ (n : Nat) (i4 : Int) (m5 : Mem), J u x 5 (jQ u x EwI) 21 [(0, vR (uB u) 149), (1, vI i4)] [] m5 (Mo_prints_L21 n i4 m5) := by
  intro n
  induction n with
  | zero => intro i4 m5; exact J_none
  | succ n ih =>
    intro i4 m5
    rw [Mo_prints_L21]
    refine J_iload_n G 1 dX9_prints_21 rfl ?_
    refine J_aload_n G 0 dX9_prints_22 rfl ?_
    refine J_getR (d := 150) (k := 0) G cls_9 wf_X9_11 kd_149 rfl rfl dX9_prints_23 ?_
    refine J_iconst G dX9_prints_26 ?_
    refine J_ialdC G kd_150 ln_150 (by decide) dX9_prints_27 ?_
    refine J_icmp_ge 145 G dX9_prints_28 (by decide) ?_ ?_
    · refine J_aload_n G 0 dX9_prints_145 rfl ?_
      refine J_getI (i := 32) (k := 32) G cls_9 wf_X9_119 kd_149 rfl rfl dX9_prints_146 ?_
      exact J_iret G dX9_prints_149 rfl
    · refine J_aload_n G 0 dX9_prints_31 rfl ?_
      refine J_iload_n G 1 dX9_prints_32 rfl ?_
      refine J_i2l G dX9_prints_33 ?_
      refine J_cVwV (As := [vL (s32 i4)]) G (mX9_number u (s32 i4) m5) sg_X9_number sv_X9_number wm_X9_342 cls_9 kd_149 rfl ⟨by decide, by decide⟩ rfl rfl (Nat.le_of_ble_eq_true rfl) dX9_prints_34 ?_
      intro m6
      refine J_aload_n G 0 dX9_prints_37 rfl ?_
      refine J_bipush G dX9_prints_38 (by decide) ?_
      refine J_cVwV (As := [vI 58]) G (mX9_sign u 58 m6) sg_X9_sign sv_X9_sign wm_X9_339 cls_9 kd_149 rfl ⟨by decide, by decide⟩ rfl rfl (Nat.le_of_ble_eq_true rfl) dX9_prints_40 ?_
      intro m7
      refine J_aload_n G 0 dX9_prints_43 rfl ?_
      refine J_bipush G dX9_prints_44 (by decide) ?_
      refine J_cVwV (As := [vI 32]) G (mX9_sign u 32 m7) sg_X9_sign sv_X9_sign wm_X9_339 cls_9 kd_149 rfl ⟨by decide, by decide⟩ rfl rfl (Nat.le_of_ble_eq_true rfl) dX9_prints_46 ?_
      intro m8
      refine J_aload_n G 0 dX9_prints_49 rfl ?_
      refine J_aload_n G 0 dX9_prints_50 rfl ?_
      refine J_iload_n G 1 dX9_prints_51 rfl ?_
      refine J_i2l G dX9_prints_52 ?_
      refine J_lconst (v := 1) G dX9_prints_53 (by decide) ?_
      refine J_cVpL (As := [vL (s32 i4), vL 1]) G (mX9_momentAt u (s32 i4) 1 m8) sg_X9_momentAt sv_X9_momentAt wm_X9_210 cls_9 kd_149 rfl ⟨by decide, by decide⟩ rfl rfl (Nat.le_of_ble_eq_true rfl) dX9_prints_54 ?_
      intro r9
      refine J_ldc2 (v := 2) G dX9_prints_57 wc_X9_86 (by decide) ?_
      refine J_aload_n G 0 dX9_prints_60 rfl ?_
      refine J_getL (i := 13) (k := 13) G cls_9 wf_X9_182 kd_149 rfl rfl dX9_prints_61 ?_
      refine J_lmul G dX9_prints_64 ?_
      refine J_iconst G dX9_prints_65 ?_
      refine J_cVwV (As := [vL r9, vL (2 * (m8 149 13)), vI 0]) G (mX9_fraction u r9 (2 * (m8 149 13)) 0 m8) sg_X9_fraction sv_X9_fraction wm_X9_346 cls_9 kd_149 rfl ⟨by decide, by decide⟩ rfl rfl (Nat.le_of_ble_eq_true rfl) dX9_prints_66 ?_
      intro m10
      refine J_aload_n G 0 dX9_prints_69 rfl ?_
      refine J_iload_n G 1 dX9_prints_70 rfl ?_
      refine J_cVpL (As := [vI i4]) G (mX9_shearBehind u i4 m10) sg_X9_shearBehind sv_X9_shearBehind wm_X9_205 cls_9 kd_149 rfl ⟨by decide, by decide⟩ rfl rfl (Nat.le_of_ble_eq_true rfl) dX9_prints_71 ?_
      intro r11
      refine J_lstore_n (lv' := [(2, vL r11), (0, vR (uB u) 149), (1, vI i4)]) G dX9_prints_74 rfl (by decide) rfl ?_
      refine J_lload_n G 0 dX9_prints_75 rfl ?_
      refine J_lconst (v := 0) G dX9_prints_76 (by decide) ?_
      refine J_jn (fun g => ∀ m12, J u x 5 (jQ u x EwI) 97 [(0, vR (uB u) 149), (1, vI i4)] [] m12 (g m12)) ?_ ?_
      · intro m12
        refine J_aload_n G 0 dX9_prints_97 rfl ?_
        refine J_iload_n G 1 dX9_prints_98 rfl ?_
        refine J_cVpI (As := [vI i4]) G (mX9_spreadOn u i4 m12) sg_X9_spreadOn sv_X9_spreadOn wm_X9_213 cls_9 kd_149 rfl ⟨by decide, by decide⟩ rfl rfl (Nat.le_of_ble_eq_true rfl) dX9_prints_99 ?_
        intro r13
        refine J_istore (lv' := [(4, vI r13), (0, vR (uB u) 149), (1, vI i4)]) G dX9_prints_102 (by decide) rfl ?_
        refine J_iload G 0 dX9_prints_104 rfl ?_
        refine J_jn (fun g => ∀ m14, J u x 5 (jQ u x EwI) 133 [(0, vR (uB u) 149), (1, vI i4)] [] m14 (g m14)) ?_ ?_
        · intro m14
          refine J_aload_n G 0 dX9_prints_133 rfl ?_
          refine J_bipush G dX9_prints_134 (by decide) ?_
          refine J_cVwV (As := [vI 59]) G (mX9_sign u 59 m14) sg_X9_sign sv_X9_sign wm_X9_339 cls_9 kd_149 rfl ⟨by decide, by decide⟩ rfl rfl (Nat.le_of_ble_eq_true rfl) dX9_prints_136 ?_
          intro m15
          refine J_iinc (lv' := [(1, vI (i4 + 1)), (0, vR (uB u) 149)]) G 1 dX9_prints_139 rfl (by decide) rfl ?_
          refine J_goto 21 G dX9_prints_142 (by decide) ?_
          refine J_lv [1, 0] rfl ?_
          exact ih (i4 + 1) m15
        · intro k133 hk133
          refine J_if_eq 133 G dX9_prints_106 (by decide) ?_ ?_
          · refine J_lv [1, 2] rfl ?_
            exact hk133 m12
          · refine J_aload_n G 1 dX9_prints_109 rfl ?_
            refine J_iload G 0 dX9_prints_110 rfl ?_
            refine J_ineg G dX9_prints_112 ?_
            refine J_i2l G dX9_prints_113 ?_
            refine J_ldc2 (v := 2) G dX9_prints_114 wc_X9_86 (by decide) ?_
            refine J_iconst G dX9_prints_117 ?_
            refine J_cVwV (As := [vL (s32 (-r13)), vL 2, vI 1]) G (mX9_fraction u (s32 (-r13)) 2 1 m12) sg_X9_fraction sv_X9_fraction wm_X9_346 cls_9 kd_149 rfl ⟨by decide, by decide⟩ rfl rfl (Nat.le_of_ble_eq_true rfl) dX9_prints_118 ?_
            intro m16
            refine J_aload_n G 1 dX9_prints_121 rfl ?_
            refine J_bipush G dX9_prints_122 (by decide) ?_
            refine J_cVwV (As := [vI 120]) G (mX9_sign u 120 m16) sg_X9_sign sv_X9_sign wm_X9_339 cls_9 kd_149 rfl ⟨by decide, by decide⟩ rfl rfl (Nat.le_of_ble_eq_true rfl) dX9_prints_124 ?_
            intro m17
            refine J_aload_n G 1 dX9_prints_127 rfl ?_
            refine J_bipush G dX9_prints_128 (by decide) ?_
            refine J_cVwV (As := [vI 120]) G (mX9_sign u 120 m17) sg_X9_sign sv_X9_sign wm_X9_339 cls_9 kd_149 rfl ⟨by decide, by decide⟩ rfl rfl (Nat.le_of_ble_eq_true rfl) dX9_prints_130 ?_
            intro m18
            refine J_lv [1, 2] rfl ?_
            exact hk133 m18
      · intro k97 hk97
        refine J_lcmp_eq 97 G dX9_prints_77 dX9_prints_78 (by decide) ?_ ?_
        · refine J_lv [1, 2] rfl ?_
          exact hk97 m10
        · refine J_aload_n G 1 dX9_prints_81 rfl ?_
          refine J_lload_n G 0 dX9_prints_82 rfl ?_
          refine J_aload_n G 1 dX9_prints_83 rfl ?_
          refine J_getL (i := 13) (k := 13) G cls_9 wf_X9_182 kd_149 rfl rfl dX9_prints_84 ?_
          refine J_iconst G dX9_prints_87 ?_
          refine J_cVwV (As := [vL r11, vL (m10 149 13), vI 1]) G (mX9_fraction u r11 (m10 149 13) 1 m10) sg_X9_fraction sv_X9_fraction wm_X9_346 cls_9 kd_149 rfl ⟨by decide, by decide⟩ rfl rfl (Nat.le_of_ble_eq_true rfl) dX9_prints_88 ?_
          intro m19
          refine J_aload_n G 1 dX9_prints_91 rfl ?_
          refine J_bipush G dX9_prints_92 (by decide) ?_
          refine J_cVwV (As := [vI 120]) G (mX9_sign u 120 m19) sg_X9_sign sv_X9_sign wm_X9_339 cls_9 kd_149 rfl ⟨by decide, by decide⟩ rfl rfl (Nat.le_of_ble_eq_true rfl) dX9_prints_94 ?_
          intro m20
          refine J_lv [1, 2] rfl ?_
          exact hk97 m20
theorem mX9_prints (u : jU) (mem : Mem) : jMet u yX9_prints cX9_prints 5 (some .int) (jRm 6 157) [vR (uB u) 149] mem EwI (Mo_prints mem) := by
  refine jMet_of (by decide +kernel) (Nat.le_of_ble_eq_true rfl) (fun x G => ?_)
  show J u x 5 (jQ u x EwI) 0 [(0, vR (uB u) 149)] [] mem _
  unfold Mo_prints
  refine J_aload_n G 0 dX9_prints_0 rfl ?_
  refine J_cVpI (As := []) G (mX9_stands u mem) sg_X9_stands sv_X9_stands wm_X9_196 cls_9 kd_149 rfl ⟨by decide, by decide⟩ rfl rfl (Nat.le_of_ble_eq_true rfl) dX9_prints_1 ?_
  intro r1
  refine J_if_ne 10 G dX9_prints_4 (by decide) ?_ ?_
  · refine J_aload_n G 0 dX9_prints_10 rfl ?_
    refine J_cVwV (As := []) G (mX9_reactions u mem) sg_X9_reactions sv_X9_reactions wm_X9_202 cls_9 kd_149 rfl ⟨by decide, by decide⟩ rfl rfl (Nat.le_of_ble_eq_true rfl) dX9_prints_11 ?_
    intro m2
    refine J_aload_n G 0 dX9_prints_14 rfl ?_
    refine J_iconst G dX9_prints_15 ?_
    refine J_putI (i := 32) (k := 32) G cls_9 wf_X9_119 kd_149 rfl rfl rfl rfl dX9_prints_16 ?_
    refine J_ltM (fun m3 => ?_)
    refine J_iconst G dX9_prints_19 ?_
    refine J_istore_n (lv' := [(1, vI 0), (0, vR (uB u) 149)]) G dX9_prints_20 rfl (by decide) rfl ?_
    refine J_lv [1, 0] rfl ?_
    exact jMo_prints_L21 G 2000 0 m3
  · refine J_bipush G dX9_prints_7 (by decide) ?_
    exact J_iret G dX9_prints_9 rfl
theorem mX9_paper (u : jU) (p0 : Int) (mem : Mem) : jMet u yX9_paper cX9_paper 2 (some .int) (jRm 0 0) [vR (uB u) 149, vI p0] mem (EpI mem) (Mo_paper p0 mem) := by
  refine jMet_of (by decide +kernel) (Nat.le_of_ble_eq_true rfl) (fun x G => ?_)
  show J u x 2 (jQ u x (EpI mem)) 0 [(0, vR (uB u) 149), (1, vI p0)] [] mem _
  unfold Mo_paper
  refine J_iload_n G 1 dX9_paper_0 rfl ?_
  refine J_if_ge 8 G dX9_paper_1 (by decide) ?_ ?_
  · refine J_iload_n G 1 dX9_paper_8 rfl ?_
    refine J_aload_n G 0 dX9_paper_9 rfl ?_
    refine J_getI (i := 32) (k := 32) G cls_9 wf_X9_119 kd_149 rfl rfl dX9_paper_10 ?_
    refine J_icmp_ge 25 G dX9_paper_13 (by decide) ?_ ?_
    · refine J_bipush G dX9_paper_25 (by decide) ?_
      exact J_iret G dX9_paper_27 rfl
    · refine J_aload_n G 0 dX9_paper_16 rfl ?_
      refine J_getR (d := 167) (k := 31) G cls_9 wf_X9_69 kd_149 rfl rfl dX9_paper_17 ?_
      refine J_iload_n G 1 dX9_paper_20 rfl ?_
      refine J_iald G kd_167 ln_167 dX9_paper_21 ?_
      refine J_goto 27 G dX9_paper_22 (by decide) ?_
      exact J_iret G dX9_paper_27 rfl
  · refine J_iconst G dX9_paper_4 ?_
    refine J_goto 27 G dX9_paper_5 (by decide) ?_
    exact J_iret G dX9_paper_27 rfl
theorem mX9_isList (u : jU) (p0 : Int) (mem : Mem) : jMet u yX9_isList cX9_isList 1 (some .boolean) (jRm 1 25) [vI p0] mem (EpI mem) (Mo_isList p0 mem) := by
  refine jMet_of (by decide +kernel) (Nat.le_of_ble_eq_true rfl) (fun x G => ?_)
  show J u x 1 (jQ u x (EpI mem)) 0 [(0, vI p0)] [] mem _
  unfold Mo_isList
  refine J_iload_n G 0 dX9_isList_0 rfl ?_
  refine J_i2l G dX9_isList_1 ?_
  refine J_lconst (v := 0) G dX9_isList_2 (by decide) ?_
  refine J_ldc2 (v := 2) G dX9_isList_3 wc_X9_86 (by decide) ?_
  refine J_cSpI (As := [vL (s32 p0), vL 0, vL 2]) G (mX9_in u (s32 p0) 0 2 mem) sg_X9_in ss_X9_in wm_X9_82 ⟨by decide, by decide⟩ rfl rfl (Nat.le_of_ble_eq_true rfl) dX9_isList_6 ?_
  intro r1
  exact J_zretB G dX9_isList_9 rfl
theorem jMo_list_L31 {u : jU} {x : jX} (G : jG u x cX9_list RX9 4 (some .int) (jRm 2 45)) (p0 : Int) : ∀ (n : Nat) (i3 : Int) (m4 : Mem), J u x 4 (jQ u x EwI) 31 [(0, vR (uB u) 149), (1, vI p0), (3, vI i3)] [] m4 (Mo_list_L31 p0 n i3 m4) := by
  intro n
  induction n with
  | zero => intro i3 m4; exact J_none
  | succ n ih =>
    intro i3 m4
    rw [Mo_list_L31]
    refine J_iload_n G 2 dX9_list_31 rfl ?_
    refine J_bipush G dX9_list_32 (by decide) ?_
    refine J_icmp_ge 55 G dX9_list_34 (by decide) ?_ ?_
    · refine J_iconst G dX9_list_55 ?_
      exact J_iret G dX9_list_56 rfl
    · refine J_aload_n G 0 dX9_list_37 rfl ?_
      refine J_getR (d := 168) (k := 33) G cls_9 wf_X9_72 kd_149 rfl rfl dX9_list_38 ?_
      refine J_bipush G dX9_list_41 (by decide) ?_
      refine J_iload_n G 1 dX9_list_43 rfl ?_
      refine J_imul G dX9_list_44 ?_
      refine J_iload_n G 2 dX9_list_45 rfl ?_
      refine J_iadd G dX9_list_46 ?_
      refine J_lconst (v := 0) G dX9_list_47 (by decide) ?_
      refine J_last G kd_168 ln_168 dX9_list_48 ?_
      refine J_ltM (fun m5 => ?_)
      refine J_iinc (lv' := [(3, vI (i3 + 1)), (0, vR (uB u) 149), (1, vI p0)]) G 2 dX9_list_49 rfl (by decide) rfl ?_
      refine J_goto 31 G dX9_list_52 (by decide) ?_
      refine J_lv [1, 2, 0] rfl ?_
      exact ih (i3 + 1) m5
theorem mX9_list (u : jU) (p0 : Int) (p1 : Int) (mem : Mem) : jMet u yX9_list cX9_list 4 (some .int) (jRm 2 45) [vR (uB u) 149, vI p0, vI p1] mem EwI (Mo_list p0 p1 mem) := by
  refine jMet_of (by decide +kernel) (Nat.le_of_ble_eq_true rfl) (fun x G => ?_)
  show J u x 4 (jQ u x EwI) 0 [(0, vR (uB u) 149), (1, vI p0), (2, vI p1)] [] mem _
  unfold Mo_list
  refine J_iload_n G 1 dX9_list_0 rfl ?_
  refine J_cSpI (As := [vI p0]) G (mX9_isList u p0 mem) sg_X9_isList ss_X9_isList wm_X9_350 ⟨by decide, by decide⟩ rfl rfl (Nat.le_of_ble_eq_true rfl) dX9_list_1 ?_
  intro r1
  refine J_if_eq 13 G dX9_list_4 (by decide) ?_ ?_
  · refine J_iconst G dX9_list_13 ?_
    exact J_iret G dX9_list_14 rfl
  · refine J_iload_n G 2 dX9_list_7 rfl ?_
    refine J_bipush G dX9_list_8 (by decide) ?_
    refine J_icmp_le 15 G dX9_list_10 (by decide) ?_ ?_
    · refine J_iload_n G 2 dX9_list_15 rfl ?_
      refine J_if_ge 22 G dX9_list_16 (by decide) ?_ ?_
      · refine J_aload_n G 0 dX9_list_22 rfl ?_
        refine J_getR (d := 169) (k := 34) G cls_9 wf_X9_75 kd_149 rfl rfl dX9_list_23 ?_
        refine J_iload_n G 1 dX9_list_26 rfl ?_
        refine J_iload_n G 2 dX9_list_27 rfl ?_
        refine J_iast G kd_169 ln_169 dX9_list_28 ?_
        refine J_ltM (fun m2 => ?_)
        refine J_iconst G dX9_list_29 ?_
        refine J_istore_n (lv' := [(3, vI 0), (0, vR (uB u) 149), (1, vI p0), (2, vI p1)]) G dX9_list_30 rfl (by decide) rfl ?_
        refine J_lv [1, 2, 0] rfl ?_
        exact jMo_list_L31 G p0 2000 0 m2
      · refine J_bipush G dX9_list_19 (by decide) ?_
        exact J_iret G dX9_list_21 rfl
    · refine J_iconst G dX9_list_13 ?_
      exact J_iret G dX9_list_14 rfl
theorem mX9_set (u : jU) (p0 : Int) (p1 : Int) (p2 : Int) (mem : Mem) : jMet u yX9_set cX9_set 5 (some .int) (jRm 2 45) [vR (uB u) 149, vI p0, vI p1, vL p2] mem EwI (Mo_set p0 p1 p2 mem) := by
  refine jMet_of (by decide +kernel) (Nat.le_of_ble_eq_true rfl) (fun x G => ?_)
  show J u x 5 (jQ u x EwI) 0 [(0, vR (uB u) 149), (1, vI p0), (2, vI p1), (3, vL p2)] [] mem _
  unfold Mo_set
  refine J_iload_n G 1 dX9_set_0 rfl ?_
  refine J_cSpI (As := [vI p0]) G (mX9_isList u p0 mem) sg_X9_isList ss_X9_isList wm_X9_350 ⟨by decide, by decide⟩ rfl rfl (Nat.le_of_ble_eq_true rfl) dX9_set_1 ?_
  intro r1
  refine J_if_ne 9 G dX9_set_4 (by decide) ?_ ?_
  · refine J_aload_n G 0 dX9_set_9 rfl ?_
    refine J_getR (d := 169) (k := 34) G cls_9 wf_X9_75 kd_149 rfl rfl dX9_set_10 ?_
    refine J_iload_n G 1 dX9_set_13 rfl ?_
    refine J_iald G kd_169 ln_169 dX9_set_14 ?_
    refine J_if_ge 21 G dX9_set_15 (by decide) ?_ ?_
    · refine J_iload_n G 2 dX9_set_21 rfl ?_
      refine J_i2l G dX9_set_22 ?_
      refine J_lconst (v := 0) G dX9_set_23 (by decide) ?_
      refine J_aload_n G 0 dX9_set_24 rfl ?_
      refine J_getR (d := 169) (k := 34) G cls_9 wf_X9_75 kd_149 rfl rfl dX9_set_25 ?_
      refine J_iload_n G 1 dX9_set_28 rfl ?_
      refine J_iald G kd_169 ln_169 dX9_set_29 ?_
      refine J_iconst G dX9_set_30 ?_
      refine J_isub G dX9_set_31 ?_
      refine J_i2l G dX9_set_32 ?_
      refine J_cSpI (As := [vL (s32 p1), vL 0, vL (s32 ((mem 169 (s32 p0)) - 1))]) G (mX9_in u (s32 p1) 0 (s32 ((mem 169 (s32 p0)) - 1)) mem) sg_X9_in ss_X9_in wm_X9_82 ⟨by decide, by decide⟩ rfl rfl (Nat.le_of_ble_eq_true rfl) dX9_set_33 ?_
      intro r2
      refine J_if_ne 42 G dX9_set_36 (by decide) ?_ ?_
      · refine J_aload_n G 0 dX9_set_42 rfl ?_
        refine J_getR (d := 168) (k := 33) G cls_9 wf_X9_72 kd_149 rfl rfl dX9_set_43 ?_
        refine J_bipush G dX9_set_46 (by decide) ?_
        refine J_iload_n G 1 dX9_set_48 rfl ?_
        refine J_imul G dX9_set_49 ?_
        refine J_iload_n G 2 dX9_set_50 rfl ?_
        refine J_iadd G dX9_set_51 ?_
        refine J_lload_n G 3 dX9_set_52 rfl ?_
        refine J_last G kd_168 ln_168 dX9_set_53 ?_
        refine J_ltM (fun m3 => ?_)
        refine J_iconst G dX9_set_54 ?_
        exact J_iret G dX9_set_55 rfl
      · refine J_bipush G dX9_set_39 (by decide) ?_
        exact J_iret G dX9_set_41 rfl
    · refine J_bipush G dX9_set_18 (by decide) ?_
      exact J_iret G dX9_set_20 rfl
  · refine J_iconst G dX9_set_7 ?_
    exact J_iret G dX9_set_8 rfl
theorem mX9_get (u : jU) (p0 : Int) (p1 : Int) (mem : Mem) : jMet u yX9_get cX9_get 3 (some .long) (jRm 2 45) [vR (uB u) 149, vI p0, vI p1] mem (EpL mem) (Mo_get p0 p1 mem) := by
  refine jMet_of (by decide +kernel) (Nat.le_of_ble_eq_true rfl) (fun x G => ?_)
  show J u x 3 (jQ u x (EpL mem)) 0 [(0, vR (uB u) 149), (1, vI p0), (2, vI p1)] [] mem _
  unfold Mo_get
  refine J_iload_n G 1 dX9_get_0 rfl ?_
  refine J_cSpI (As := [vI p0]) G (mX9_isList u p0 mem) sg_X9_isList ss_X9_isList wm_X9_350 ⟨by decide, by decide⟩ rfl rfl (Nat.le_of_ble_eq_true rfl) dX9_get_1 ?_
  intro r1
  refine J_if_eq 39 G dX9_get_4 (by decide) ?_ ?_
  · refine J_ldc2 (v := (-9223372036854775808)) G dX9_get_39 wc_X9_200 (by decide) ?_
    exact J_lret G dX9_get_42 rfl
  · refine J_iload_n G 2 dX9_get_7 rfl ?_
    refine J_i2l G dX9_get_8 ?_
    refine J_lconst (v := 0) G dX9_get_9 (by decide) ?_
    refine J_aload_n G 0 dX9_get_10 rfl ?_
    refine J_getR (d := 169) (k := 34) G cls_9 wf_X9_75 kd_149 rfl rfl dX9_get_11 ?_
    refine J_iload_n G 1 dX9_get_14 rfl ?_
    refine J_iald G kd_169 ln_169 dX9_get_15 ?_
    refine J_iconst G dX9_get_16 ?_
    refine J_isub G dX9_get_17 ?_
    refine J_i2l G dX9_get_18 ?_
    refine J_cSpI (As := [vL (s32 p1), vL 0, vL (s32 ((mem 169 (s32 p0)) - 1))]) G (mX9_in u (s32 p1) 0 (s32 ((mem 169 (s32 p0)) - 1)) mem) sg_X9_in ss_X9_in wm_X9_82 ⟨by decide, by decide⟩ rfl rfl (Nat.le_of_ble_eq_true rfl) dX9_get_19 ?_
    intro r2
    refine J_if_eq 39 G dX9_get_22 (by decide) ?_ ?_
    · refine J_ldc2 (v := (-9223372036854775808)) G dX9_get_39 wc_X9_200 (by decide) ?_
      exact J_lret G dX9_get_42 rfl
    · refine J_aload_n G 0 dX9_get_25 rfl ?_
      refine J_getR (d := 168) (k := 33) G cls_9 wf_X9_72 kd_149 rfl rfl dX9_get_26 ?_
      refine J_bipush G dX9_get_29 (by decide) ?_
      refine J_iload_n G 1 dX9_get_31 rfl ?_
      refine J_imul G dX9_get_32 ?_
      refine J_iload_n G 2 dX9_get_33 rfl ?_
      refine J_iadd G dX9_get_34 ?_
      refine J_lald G kd_168 ln_168 dX9_get_35 ?_
      refine J_goto 42 G dX9_get_36 (by decide) ?_
      exact J_lret G dX9_get_42 rfl
theorem jMo_into_L48 {u : jU} {x : jX} (G : jG u x cX9_into RX9 6 (some .int) (jRm 6 157)) (p0 : Int) : ∀ (n : Nat) (i5 : Int) (i6 : Int) (m7 : Mem), J u x 6 (jQ u x EwI) 48 [(0, vR (uB u) 149), (1, vI p0), (3, vI i5), (4, vL i6)] [] m7 (Mo_into_L48 p0 n i5 i6 m7) := by
  intro n
  induction n with
  | zero => intro i5 i6 m7; exact J_none
  | succ n ih =>
    intro i5 i6 m7
    rw [Mo_into_L48]
    refine J_lload G 3 dX9_into_48 rfl ?_
    refine J_aload_n G 0 dX9_into_50 rfl ?_
    refine J_getR (d := 169) (k := 34) G cls_9 wf_X9_75 kd_149 rfl rfl dX9_into_51 ?_
    refine J_iload_n G 1 dX9_into_54 rfl ?_
    refine J_iald G kd_169 ln_169 dX9_into_55 ?_
    refine J_i2l G dX9_into_56 ?_
    refine J_lcmp_ge 138 G dX9_into_57 dX9_into_58 (by decide) ?_ ?_
    · refine J_iload_n G 2 dX9_into_138 rfl ?_
      exact J_iret G dX9_into_139 rfl
    · refine J_iload_n G 2 dX9_into_61 rfl ?_
      refine J_iconst G dX9_into_62 ?_
      refine J_aload_n G 0 dX9_into_63 rfl ?_
      refine J_getR (d := 150) (k := 0) G cls_9 wf_X9_11 kd_149 rfl rfl dX9_into_64 ?_
      refine J_iconst G dX9_into_67 ?_
      refine J_ialdC G kd_150 ln_150 (by decide) dX9_into_68 ?_
      refine J_imul G dX9_into_69 ?_
      refine J_iconst G dX9_into_70 ?_
      refine J_iadd G dX9_into_71 ?_
      refine J_icmp_ge 138 G dX9_into_72 (by decide) ?_ ?_
      · refine J_iload_n G 2 dX9_into_138 rfl ?_
        exact J_iret G dX9_into_139 rfl
      · refine J_aload_n G 0 dX9_into_75 rfl ?_
        refine J_aload_n G 0 dX9_into_76 rfl ?_
        refine J_iload_n G 2 dX9_into_77 rfl ?_
        refine J_iconst G dX9_into_78 ?_
        refine J_idivC G dX9_into_79 (by decide) ?_
        refine J_i2l G dX9_into_80 ?_
        refine J_lconst (v := 1) G dX9_into_81 (by decide) ?_
        refine J_cVpL (As := [vL (s32 ((s32 i5).tdiv (s32 2))), vL 1]) G (mX9_momentAt u (s32 ((s32 i5).tdiv (s32 2))) 1 m7) sg_X9_momentAt sv_X9_momentAt wm_X9_210 cls_9 kd_149 rfl ⟨by decide, by decide⟩ rfl rfl (Nat.le_of_ble_eq_true rfl) dX9_into_82 ?_
        intro r8
        refine J_ldc2 (v := 2) G dX9_into_85 wc_X9_86 (by decide) ?_
        refine J_aload_n G 0 dX9_into_88 rfl ?_
        refine J_getL (i := 13) (k := 13) G cls_9 wf_X9_182 kd_149 rfl rfl dX9_into_89 ?_
        refine J_lmul G dX9_into_92 ?_
        refine J_cVwV (As := [vL r8, vL (2 * (m7 149 13))]) G (mX9_is u r8 (2 * (m7 149 13)) m7) sg_X9_is sv_X9_is wm_X9_133 cls_9 kd_149 rfl ⟨by decide, by decide⟩ rfl rfl (Nat.le_of_ble_eq_true rfl) dX9_into_93 ?_
        intro m9
        refine J_aload_n G 0 dX9_into_96 rfl ?_
        refine J_getR (d := 168) (k := 33) G cls_9 wf_X9_72 kd_149 rfl rfl dX9_into_97 ?_
        refine J_bipush G dX9_into_100 (by decide) ?_
        refine J_iload_n G 1 dX9_into_102 rfl ?_
        refine J_imul G dX9_into_103 ?_
        refine J_lload G 3 dX9_into_104 rfl ?_
        refine J_l2i G dX9_into_106 ?_
        refine J_iadd G dX9_into_107 ?_
        refine J_iload_n G 2 dX9_into_108 rfl ?_
        refine J_iconst G dX9_into_109 ?_
        refine J_iremC G dX9_into_110 (by decide) ?_
        refine J_jn (fun g => ∀ x10, J u x 6 (jQ u x EwI) 125 [(0, vR (uB u) 149), (1, vI p0), (3, vI i5), (4, vL i6)] [vL x10, vI ((24 * p0) + i6), vR (uB u) 168] m9 (g x10)) ?_ ?_
        · intro x10
          refine J_last G kd_168 ln_168 dX9_into_125 ?_
          refine J_ltM (fun m11 => ?_)
          refine J_iinc (lv' := [(3, vI (i5 + 1)), (0, vR (uB u) 149), (1, vI p0), (4, vL i6)]) G 2 dX9_into_126 rfl (by decide) rfl ?_
          refine J_lload G 3 dX9_into_129 rfl ?_
          refine J_lconst (v := 1) G dX9_into_131 (by decide) ?_
          refine J_ladd G dX9_into_132 ?_
          refine J_ltL (fun x12 => ?_)
          refine J_lstore (lv' := [(4, vL x12), (3, vI (i5 + 1)), (0, vR (uB u) 149), (1, vI p0)]) G dX9_into_133 (by decide) rfl ?_
          refine J_goto 48 G dX9_into_135 (by decide) ?_
          refine J_lv [2, 3, 1, 0] rfl ?_
          exact ih (i5 + 1) x12 m11
        · intro k125 hk125
          refine J_if_ne 121 G dX9_into_111 (by decide) ?_ ?_
          · refine J_aload_n G 0 dX9_into_121 rfl ?_
            refine J_getL (i := 6) (k := 6) G cls_9 wf_X9_21 kd_149 rfl rfl dX9_into_122 ?_
            exact hk125 (m9 149 6)
          · refine J_aload_n G 0 dX9_into_114 rfl ?_
            refine J_getL (i := 5) (k := 5) G cls_9 wf_X9_130 kd_149 rfl rfl dX9_into_115 ?_
            refine J_goto 125 G dX9_into_118 (by decide) ?_
            exact hk125 (m9 149 5)
theorem mX9_into (u : jU) (p0 : Int) (p1 : Int) (mem : Mem) : jMet u yX9_into cX9_into 6 (some .int) (jRm 6 157) [vR (uB u) 149, vI p0, vI p1] mem EwI (Mo_into p0 p1 mem) := by
  refine jMet_of (by decide +kernel) (Nat.le_of_ble_eq_true rfl) (fun x G => ?_)
  show J u x 6 (jQ u x EwI) 0 [(0, vR (uB u) 149), (1, vI p0), (2, vI p1)] [] mem _
  unfold Mo_into
  refine J_iload_n G 1 dX9_into_0 rfl ?_
  refine J_cSpI (As := [vI p0]) G (mX9_isList u p0 mem) sg_X9_isList ss_X9_isList wm_X9_350 ⟨by decide, by decide⟩ rfl rfl (Nat.le_of_ble_eq_true rfl) dX9_into_1 ?_
  intro r1
  refine J_if_ne 9 G dX9_into_4 (by decide) ?_ ?_
  · refine J_aload_n G 0 dX9_into_9 rfl ?_
    refine J_cVpI (As := []) G (mX9_stands u mem) sg_X9_stands sv_X9_stands wm_X9_196 cls_9 kd_149 rfl ⟨by decide, by decide⟩ rfl rfl (Nat.le_of_ble_eq_true rfl) dX9_into_10 ?_
    intro r2
    refine J_if_ne 19 G dX9_into_13 (by decide) ?_ ?_
    · refine J_aload_n G 0 dX9_into_19 rfl ?_
      refine J_getR (d := 169) (k := 34) G cls_9 wf_X9_75 kd_149 rfl rfl dX9_into_20 ?_
      refine J_iload_n G 1 dX9_into_23 rfl ?_
      refine J_iald G kd_169 ln_169 dX9_into_24 ?_
      refine J_if_ge 31 G dX9_into_25 (by decide) ?_ ?_
      · refine J_iload_n G 2 dX9_into_31 rfl ?_
        refine J_if_ge 38 G dX9_into_32 (by decide) ?_ ?_
        · refine J_aload_n G 0 dX9_into_38 rfl ?_
          refine J_cVwV (As := []) G (mX9_reactions u mem) sg_X9_reactions sv_X9_reactions wm_X9_202 cls_9 kd_149 rfl ⟨by decide, by decide⟩ rfl rfl (Nat.le_of_ble_eq_true rfl) dX9_into_39 ?_
          intro m3
          refine J_iconst G dX9_into_42 ?_
          refine J_istore_n (lv' := [(3, vI 0), (0, vR (uB u) 149), (1, vI p0), (2, vI p1)]) G dX9_into_43 rfl (by decide) rfl ?_
          refine J_iload_n G 3 dX9_into_44 rfl ?_
          refine J_i2l G dX9_into_45 ?_
          refine J_ltL (fun x4 => ?_)
          refine J_lstore (lv' := [(4, vL x4), (3, vI 0), (0, vR (uB u) 149), (1, vI p0), (2, vI p1)]) G dX9_into_46 (by decide) rfl ?_
          refine J_lv [2, 3, 1, 0] rfl ?_
          exact jMo_into_L48 G p0 2000 0 x4 m3
        · refine J_bipush G dX9_into_35 (by decide) ?_
          exact J_iret G dX9_into_37 rfl
      · refine J_bipush G dX9_into_28 (by decide) ?_
        exact J_iret G dX9_into_30 rfl
    · refine J_bipush G dX9_into_16 (by decide) ?_
      exact J_iret G dX9_into_18 rfl
  · refine J_iconst G dX9_into_7 ?_
    exact J_iret G dX9_into_8 rfl
theorem jMo_judge_L41 {u : jU} {x : jX} (G : jG u x cX9_judge RX9 4 (some .int) (jRm 6 157)) (p0 : Int) (p1 : Int) (k71 : Int → Mem → Option (Int × Mem)) (hk71 : (fun g => ∀ x4 m5, J u x 4 (jQ u x EwI) 71 [(3, vI x4)] [] m5 (g x4 m5)) k71) : ∀ (n : Nat) (i6 : Int) (m7 : Mem), J u x 4 (jQ u x EwI) 41 [(0, vR (uB u) 149), (1, vI p0), (2, vI p1), (3, vI i6)] [] m7 (Mo_judge_L41 p0 p1 k71 n i6 m7) := by
  intro n
  induction n with
  | zero => intro i6 m7; exact J_none
  | succ n ih =>
    intro i6 m7
    rw [Mo_judge_L41]
    refine J_iload_n G 3 dX9_judge_41 rfl ?_
    refine J_iconst G dX9_judge_42 ?_
    refine J_aload_n G 0 dX9_judge_43 rfl ?_
    refine J_getR (d := 150) (k := 0) G cls_9 wf_X9_11 kd_149 rfl rfl dX9_judge_44 ?_
    refine J_iconst G dX9_judge_47 ?_
    refine J_ialdC G kd_150 ln_150 (by decide) dX9_judge_48 ?_
    refine J_imul G dX9_judge_49 ?_
    refine J_iconst G dX9_judge_50 ?_
    refine J_iadd G dX9_judge_51 ?_
    refine J_icmp_ge 143 G dX9_judge_52 (by decide) ?_ ?_
    · refine J_bipush G dX9_judge_143 (by decide) ?_
      exact J_iret G dX9_judge_145 rfl
    · refine J_iload_n G 2 dX9_judge_55 rfl ?_
      refine J_i2l G dX9_judge_56 ?_
      refine J_iload_n G 3 dX9_judge_57 rfl ?_
      refine J_i2l G dX9_judge_58 ?_
      refine J_ladd G dX9_judge_59 ?_
      refine J_aload_n G 0 dX9_judge_60 rfl ?_
      refine J_getR (d := 169) (k := 34) G cls_9 wf_X9_75 kd_149 rfl rfl dX9_judge_61 ?_
      refine J_iload_n G 1 dX9_judge_64 rfl ?_
      refine J_iald G kd_169 ln_169 dX9_judge_65 ?_
      refine J_i2l G dX9_judge_66 ?_
      refine J_lcmp_lt 78 G dX9_judge_67 dX9_judge_68 (by decide) ?_ ?_
      · refine J_aload_n G 0 dX9_judge_78 rfl ?_
        refine J_aload_n G 0 dX9_judge_79 rfl ?_
        refine J_iload_n G 3 dX9_judge_80 rfl ?_
        refine J_iconst G dX9_judge_81 ?_
        refine J_idivC G dX9_judge_82 (by decide) ?_
        refine J_i2l G dX9_judge_83 ?_
        refine J_lconst (v := 1) G dX9_judge_84 (by decide) ?_
        refine J_cVpL (As := [vL (s32 ((s32 i6).tdiv (s32 2))), vL 1]) G (mX9_momentAt u (s32 ((s32 i6).tdiv (s32 2))) 1 m7) sg_X9_momentAt sv_X9_momentAt wm_X9_210 cls_9 kd_149 rfl ⟨by decide, by decide⟩ rfl rfl (Nat.le_of_ble_eq_true rfl) dX9_judge_85 ?_
        intro r8
        refine J_ldc2 (v := 2) G dX9_judge_88 wc_X9_86 (by decide) ?_
        refine J_aload_n G 0 dX9_judge_91 rfl ?_
        refine J_getL (i := 13) (k := 13) G cls_9 wf_X9_182 kd_149 rfl rfl dX9_judge_92 ?_
        refine J_lmul G dX9_judge_95 ?_
        refine J_cVwV (As := [vL r8, vL (2 * (m7 149 13))]) G (mX9_is u r8 (2 * (m7 149 13)) m7) sg_X9_is sv_X9_is wm_X9_133 cls_9 kd_149 rfl ⟨by decide, by decide⟩ rfl rfl (Nat.le_of_ble_eq_true rfl) dX9_judge_96 ?_
        intro m9
        refine J_aload_n G 0 dX9_judge_99 rfl ?_
        refine J_getR (d := 168) (k := 33) G cls_9 wf_X9_72 kd_149 rfl rfl dX9_judge_100 ?_
        refine J_bipush G dX9_judge_103 (by decide) ?_
        refine J_iload_n G 1 dX9_judge_105 rfl ?_
        refine J_imul G dX9_judge_106 ?_
        refine J_iload_n G 2 dX9_judge_107 rfl ?_
        refine J_iadd G dX9_judge_108 ?_
        refine J_iload_n G 3 dX9_judge_109 rfl ?_
        refine J_iadd G dX9_judge_110 ?_
        refine J_lald G kd_168 ln_168 dX9_judge_111 ?_
        refine J_iload_n G 3 dX9_judge_112 rfl ?_
        refine J_iconst G dX9_judge_113 ?_
        refine J_iremC G dX9_judge_114 (by decide) ?_
        refine J_jn (fun g => ∀ x10, J u x 4 (jQ u x EwI) 129 [(0, vR (uB u) 149), (1, vI p0), (2, vI p1), (3, vI i6)] [vL x10, vL (m9 168 (s32 (((24 * p0) + p1) + i6)))] m9 (g x10)) ?_ ?_
        · intro x10
          refine J_lcmp_eq 137 G dX9_judge_129 dX9_judge_130 (by decide) ?_ ?_
          · refine J_iinc (lv' := [(3, vI (i6 + 1)), (0, vR (uB u) 149), (1, vI p0), (2, vI p1)]) G 3 dX9_judge_137 rfl (by decide) rfl ?_
            refine J_goto 41 G dX9_judge_140 (by decide) ?_
            refine J_lv [1, 2, 3, 0] rfl ?_
            exact ih (i6 + 1) m9
          · refine J_iload_n G 3 dX9_judge_133 rfl ?_
            refine J_iconst G dX9_judge_134 ?_
            refine J_idivC G dX9_judge_135 (by decide) ?_
            exact J_iret G dX9_judge_136 rfl
        · intro k129 hk129
          refine J_if_ne 125 G dX9_judge_115 (by decide) ?_ ?_
          · refine J_aload_n G 0 dX9_judge_125 rfl ?_
            refine J_getL (i := 6) (k := 6) G cls_9 wf_X9_21 kd_149 rfl rfl dX9_judge_126 ?_
            exact hk129 (m9 149 6)
          · refine J_aload_n G 0 dX9_judge_118 rfl ?_
            refine J_getL (i := 5) (k := 5) G cls_9 wf_X9_130 kd_149 rfl rfl dX9_judge_119 ?_
            refine J_goto 129 G dX9_judge_122 (by decide) ?_
            exact hk129 (m9 149 5)
      · refine J_lv [3] rfl ?_
        exact hk71 i6 m7
theorem mX9_judge (u : jU) (p0 : Int) (p1 : Int) (mem : Mem) : jMet u yX9_judge cX9_judge 4 (some .int) (jRm 6 157) [vR (uB u) 149, vI p0, vI p1] mem EwI (Mo_judge p0 p1 mem) := by
  refine jMet_of (by decide +kernel) (Nat.le_of_ble_eq_true rfl) (fun x G => ?_)
  show J u x 4 (jQ u x EwI) 0 [(0, vR (uB u) 149), (1, vI p0), (2, vI p1)] [] mem _
  unfold Mo_judge
  refine J_iload_n G 1 dX9_judge_0 rfl ?_
  refine J_cSpI (As := [vI p0]) G (mX9_isList u p0 mem) sg_X9_isList ss_X9_isList wm_X9_350 ⟨by decide, by decide⟩ rfl rfl (Nat.le_of_ble_eq_true rfl) dX9_judge_1 ?_
  intro r1
  refine J_if_eq 11 G dX9_judge_4 (by decide) ?_ ?_
  · refine J_iconst G dX9_judge_11 ?_
    exact J_iret G dX9_judge_12 rfl
  · refine J_iload_n G 2 dX9_judge_7 rfl ?_
    refine J_if_ge 13 G dX9_judge_8 (by decide) ?_ ?_
    · refine J_aload_n G 0 dX9_judge_13 rfl ?_
      refine J_cVpI (As := []) G (mX9_stands u mem) sg_X9_stands sv_X9_stands wm_X9_196 cls_9 kd_149 rfl ⟨by decide, by decide⟩ rfl rfl (Nat.le_of_ble_eq_true rfl) dX9_judge_14 ?_
      intro r2
      refine J_if_ne 23 G dX9_judge_17 (by decide) ?_ ?_
      · refine J_aload_n G 0 dX9_judge_23 rfl ?_
        refine J_getR (d := 169) (k := 34) G cls_9 wf_X9_75 kd_149 rfl rfl dX9_judge_24 ?_
        refine J_iload_n G 1 dX9_judge_27 rfl ?_
        refine J_iald G kd_169 ln_169 dX9_judge_28 ?_
        refine J_if_ge 35 G dX9_judge_29 (by decide) ?_ ?_
        · refine J_aload_n G 0 dX9_judge_35 rfl ?_
          refine J_cVwV (As := []) G (mX9_reactions u mem) sg_X9_reactions sv_X9_reactions wm_X9_202 cls_9 kd_149 rfl ⟨by decide, by decide⟩ rfl rfl (Nat.le_of_ble_eq_true rfl) dX9_judge_36 ?_
          intro m3
          refine J_iconst G dX9_judge_39 ?_
          refine J_istore_n (lv' := [(3, vI 0), (0, vR (uB u) 149), (1, vI p0), (2, vI p1)]) G dX9_judge_40 rfl (by decide) rfl ?_
          refine J_jn (fun g => ∀ x4 m5, J u x 4 (jQ u x EwI) 71 [(3, vI x4)] [] m5 (g x4 m5)) ?_ ?_
          · intro x4 m5
            refine J_bipush G dX9_judge_71 (by decide) ?_
            refine J_iload_n G 0 dX9_judge_73 rfl ?_
            refine J_iconst G dX9_judge_74 ?_
            refine J_idivC G dX9_judge_75 (by decide) ?_
            refine J_iadd G dX9_judge_76 ?_
            exact J_iret G dX9_judge_77 rfl
          · intro k71 hk71
            refine J_lv [1, 2, 3, 0] rfl ?_
            exact jMo_judge_L41 G p0 p1 k71 hk71 2000 0 m3
        · refine J_bipush G dX9_judge_32 (by decide) ?_
          exact J_iret G dX9_judge_34 rfl
      · refine J_bipush G dX9_judge_20 (by decide) ?_
        exact J_iret G dX9_judge_22 rfl
    · refine J_iconst G dX9_judge_11 ?_
      exact J_iret G dX9_judge_12 rfl
theorem jMo_undo_L22 {u : jU} {x : jX} (G : jG u x cX9_undo RX9 2 (some .int) (jRm 0 0)) : ∀ (n : Nat) (i2 : Int) (m3 : Mem), J u x 2 (jQ u x EwI) 22 [(0, vR (uB u) 149), (1, vI i2)] [] m3 (Mo_undo_L22 n i2 m3) := by
  intro n
  induction n with
  | zero => intro i2 m3; exact J_none
  | succ n ih =>
    intro i2 m3
    rw [Mo_undo_L22]
    refine J_iload_n G 1 dX9_undo_22 rfl ?_
    refine J_bipush G dX9_undo_23 (by decide) ?_
    refine J_icmp_ge 54 G dX9_undo_25 (by decide) ?_ ?_
    · refine J_aload_n G 0 dX9_undo_54 rfl ?_
      refine J_getI (i := 4) (k := 4) G cls_9 wf_X9_78 kd_149 rfl rfl dX9_undo_55 ?_
      exact J_iret G dX9_undo_58 rfl
    · refine J_aload_n G 0 dX9_undo_28 rfl ?_
      refine J_getR (d := 150) (k := 0) G cls_9 wf_X9_11 kd_149 rfl rfl dX9_undo_29 ?_
      refine J_iload_n G 1 dX9_undo_32 rfl ?_
      refine J_aload_n G 0 dX9_undo_33 rfl ?_
      refine J_getR (d := 152) (k := 3) G cls_9 wf_X9_18 kd_149 rfl rfl dX9_undo_34 ?_
      refine J_aload_n G 0 dX9_undo_37 rfl ?_
      refine J_getI (i := 4) (k := 4) G cls_9 wf_X9_78 kd_149 rfl rfl dX9_undo_38 ?_
      refine J_bipush G dX9_undo_41 (by decide) ?_
      refine J_imul G dX9_undo_43 ?_
      refine J_iload_n G 1 dX9_undo_44 rfl ?_
      refine J_iadd G dX9_undo_45 ?_
      refine J_iald G kd_152 ln_152 dX9_undo_46 ?_
      refine J_iast G kd_150 ln_150 dX9_undo_47 ?_
      refine J_ltM (fun m4 => ?_)
      refine J_iinc (lv' := [(1, vI (i2 + 1)), (0, vR (uB u) 149)]) G 1 dX9_undo_48 rfl (by decide) rfl ?_
      refine J_goto 22 G dX9_undo_51 (by decide) ?_
      refine J_lv [1, 0] rfl ?_
      exact ih (i2 + 1) m4
theorem mX9_undo (u : jU) (mem : Mem) : jMet u yX9_undo cX9_undo 2 (some .int) (jRm 0 0) [vR (uB u) 149] mem EwI (Mo_undo mem) := by
  refine jMet_of (by decide +kernel) (Nat.le_of_ble_eq_true rfl) (fun x G => ?_)
  show J u x 2 (jQ u x EwI) 0 [(0, vR (uB u) 149)] [] mem _
  unfold Mo_undo
  refine J_aload_n G 0 dX9_undo_0 rfl ?_
  refine J_getI (i := 4) (k := 4) G cls_9 wf_X9_78 kd_149 rfl rfl dX9_undo_1 ?_
  refine J_if_ne 10 G dX9_undo_4 (by decide) ?_ ?_
  · refine J_aload_n G 0 dX9_undo_10 rfl ?_
    refine J_dup G dX9_undo_11 rfl ?_
    refine J_getI (i := 4) (k := 4) G cls_9 wf_X9_78 kd_149 rfl rfl dX9_undo_12 ?_
    refine J_iconst G dX9_undo_15 ?_
    refine J_isub G dX9_undo_16 ?_
    refine J_putI (i := 4) (k := 4) G cls_9 wf_X9_78 kd_149 rfl rfl rfl rfl dX9_undo_17 ?_
    refine J_ltM (fun m1 => ?_)
    refine J_iconst G dX9_undo_20 ?_
    refine J_istore_n (lv' := [(1, vI 0), (0, vR (uB u) 149)]) G dX9_undo_21 rfl (by decide) rfl ?_
    refine J_lv [1, 0] rfl ?_
    exact jMo_undo_L22 G 2000 0 m1
  · refine J_bipush G dX9_undo_7 (by decide) ?_
    exact J_iret G dX9_undo_9 rfl
theorem mX9_image (u : jU) (mem : Mem) : jMet u yX9_image cX9_image 1 (some .int) (jRm 1 22) [vR (uB u) 149] mem EwI (Mo_image mem) := by
  refine jMet_of (by decide +kernel) (Nat.le_of_ble_eq_true rfl) (fun x G => ?_)
  show J u x 1 (jQ u x EwI) 0 [(0, vR (uB u) 149)] [] mem _
  unfold Mo_image
  refine J_aload_n G 0 dX9_image_0 rfl ?_
  refine J_iconst G dX9_image_1 ?_
  refine J_putZ (i := 2) (k := 2) G cls_9 wf_X9_353 kd_149 rfl rfl rfl rfl (by decide) (by decide) dX9_image_2 ?_
  refine J_ltM (fun m1 => ?_)
  refine J_aload_n G 0 dX9_image_5 rfl ?_
  refine J_getR (d := 150) (k := 0) G cls_9 wf_X9_11 kd_149 rfl rfl dX9_image_6 ?_
  refine J_aload_n G 0 dX9_image_9 rfl ?_
  refine J_getR (d := 151) (k := 1) G cls_9 wf_X9_15 kd_149 rfl rfl dX9_image_10 ?_
  refine J_cSwV (As := [vR (uB u) 150, vR (uB u) 151]) G (mX9_copies u 150 151 kd_150 kd_151 m1) sg_X9_copies ss_X9_copies wm_X9_262 ⟨by decide, by decide⟩ rfl rfl (Nat.le_of_ble_eq_true rfl) dX9_image_13 ?_
  intro m2
  refine J_aload_n G 0 dX9_image_16 rfl ?_
  refine J_getR (d := 150) (k := 0) G cls_9 wf_X9_11 kd_149 rfl rfl dX9_image_17 ?_
  refine J_iconst G dX9_image_20 ?_
  refine J_ialdC G kd_150 ln_150 (by decide) dX9_image_21 ?_
  exact J_iret G dX9_image_22 rfl
theorem mX9_back (u : jU) (mem : Mem) : jMet u yX9_back cX9_back 1 (some .int) (jRm 1 22) [vR (uB u) 149] mem EwI (Mo_back mem) := by
  refine jMet_of (by decide +kernel) (Nat.le_of_ble_eq_true rfl) (fun x G => ?_)
  show J u x 1 (jQ u x EwI) 0 [(0, vR (uB u) 149)] [] mem _
  unfold Mo_back
  refine J_aload_n G 0 dX9_back_0 rfl ?_
  refine J_getI (i := 2) (k := 2) G cls_9 wf_X9_353 kd_149 rfl rfl dX9_back_1 ?_
  refine J_if_ne 10 G dX9_back_4 (by decide) ?_ ?_
  · refine J_aload_n G 0 dX9_back_10 rfl ?_
    refine J_getR (d := 151) (k := 1) G cls_9 wf_X9_15 kd_149 rfl rfl dX9_back_11 ?_
    refine J_aload_n G 0 dX9_back_14 rfl ?_
    refine J_getR (d := 150) (k := 0) G cls_9 wf_X9_11 kd_149 rfl rfl dX9_back_15 ?_
    refine J_cSwV (As := [vR (uB u) 151, vR (uB u) 150]) G (mX9_copies u 151 150 kd_151 kd_150 mem) sg_X9_copies ss_X9_copies wm_X9_262 ⟨by decide, by decide⟩ rfl rfl (Nat.le_of_ble_eq_true rfl) dX9_back_18 ?_
    intro m1
    refine J_aload_n G 0 dX9_back_21 rfl ?_
    refine J_iconst G dX9_back_22 ?_
    refine J_putI (i := 4) (k := 4) G cls_9 wf_X9_78 kd_149 rfl rfl rfl rfl dX9_back_23 ?_
    refine J_ltM (fun m2 => ?_)
    refine J_aload_n G 0 dX9_back_26 rfl ?_
    refine J_getR (d := 150) (k := 0) G cls_9 wf_X9_11 kd_149 rfl rfl dX9_back_27 ?_
    refine J_iconst G dX9_back_30 ?_
    refine J_ialdC G kd_150 ln_150 (by decide) dX9_back_31 ?_
    exact J_iret G dX9_back_32 rfl
  · refine J_bipush G dX9_back_7 (by decide) ?_
    exact J_iret G dX9_back_9 rfl
