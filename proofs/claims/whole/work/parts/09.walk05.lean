theorem jMo_isLess_L17 {u : jU} {x : jX} (G : jG u x cX9_isLess RX9 25 (some .boolean) (jRm 0 0)) (mem : Mem) (k140 : Int → Int → Int → Option Int) (k91 : Int → Int → Int → Option Int) (hk140 : (fun g => ∀ x1 x2 x3, J u x 25 (jQ u x (EpI mem)) 140 [(16, vI x1), (21, vL x2), (23, vL x3)] [] mem (g x1 x2 x3)) k140) (hk91 : (fun g => ∀ x4 x5 x6, J u x 25 (jQ u x (EpI mem)) 91 [(16, vI x4), (17, vL x5), (19, vL x6)] [] mem (g x4 x5 x6)) k91) : ∀ (n : Nat) (i7 : Int) (i8 : Int) (i9 : Int) (i10 : Int) (i11 : Int), J u x 25 (jQ u x (EpI mem)) 17 [(8, vL i7), (10, vL i8), (12, vL i9), (14, vL i10), (16, vI i11)] [] mem (Mo_isLess_L17 k140 k91 n i7 i8 i9 i10 i11) := by
  intro n
  induction n with
  | zero => intro i7 i8 i9 i10 i11; exact J_none
  | succ n ih =>
    intro i7 i8 i9 i10 i11
    rw [Mo_isLess_L17]
    refine J_lload G 0 dX9_isLess_17 rfl ?_
    refine J_lload G 1 dX9_isLess_19 rfl ?_
    refine J_ldiv G dX9_isLess_21 ?_
    refine J_lload G 0 dX9_isLess_22 rfl ?_
    refine J_lload G 1 dX9_isLess_24 rfl ?_
    refine J_lrem G dX9_isLess_26 ?_
    refine J_lconst (v := 0) G dX9_isLess_27 (by decide) ?_
    refine J_jn (fun g => ∀ x12, J u x 25 (jQ u x (EpI mem)) 37 [(8, vL i7), (10, vL i8), (12, vL i9), (14, vL i10), (16, vI i11)] [vL x12, vL ((s64 i7).tdiv (s64 i8))] mem (g x12)) ?_ ?_
    · intro x12
      refine J_lsub G dX9_isLess_37 ?_
      refine J_ltL (fun x13 => ?_)
      refine J_lstore (lv' := [(17, vL x13), (8, vL i7), (10, vL i8), (12, vL i9), (14, vL i10), (16, vI i11)]) G dX9_isLess_38 (by decide) rfl ?_
      refine J_lload G 3 dX9_isLess_40 rfl ?_
      refine J_lload G 4 dX9_isLess_42 rfl ?_
      refine J_ldiv G dX9_isLess_44 ?_
      refine J_lload G 3 dX9_isLess_45 rfl ?_
      refine J_lload G 4 dX9_isLess_47 rfl ?_
      refine J_lrem G dX9_isLess_49 ?_
      refine J_lconst (v := 0) G dX9_isLess_50 (by decide) ?_
      refine J_jn (fun g => ∀ x14, J u x 25 (jQ u x (EpI mem)) 60 [(8, vL i7), (10, vL i8), (12, vL i9), (14, vL i10), (16, vI i11), (17, vL x13)] [vL x14, vL ((s64 i9).tdiv (s64 i10))] mem (g x14)) ?_ ?_
      · intro x14
        refine J_lsub G dX9_isLess_60 ?_
        refine J_ltL (fun x15 => ?_)
        refine J_lstore (lv' := [(19, vL x15), (8, vL i7), (10, vL i8), (12, vL i9), (14, vL i10), (16, vI i11), (17, vL x13)]) G dX9_isLess_61 (by decide) rfl ?_
        refine J_lload G 1 dX9_isLess_63 rfl ?_
        refine J_lload G 6 dX9_isLess_65 rfl ?_
        refine J_lload G 2 dX9_isLess_67 rfl ?_
        refine J_lmul G dX9_isLess_69 ?_
        refine J_lsub G dX9_isLess_70 ?_
        refine J_ltL (fun x16 => ?_)
        refine J_lstore (lv' := [(21, vL x16), (19, vL x15), (8, vL i7), (10, vL i8), (12, vL i9), (14, vL i10), (16, vI i11), (17, vL x13)]) G dX9_isLess_71 (by decide) rfl ?_
        refine J_lload G 4 dX9_isLess_73 rfl ?_
        refine J_lload G 1 dX9_isLess_75 rfl ?_
        refine J_lload G 5 dX9_isLess_77 rfl ?_
        refine J_lmul G dX9_isLess_79 ?_
        refine J_lsub G dX9_isLess_80 ?_
        refine J_ltL (fun x17 => ?_)
        refine J_lstore (lv' := [(23, vL x17), (21, vL x16), (19, vL x15), (8, vL i7), (10, vL i8), (12, vL i9), (14, vL i10), (16, vI i11), (17, vL x13)]) G dX9_isLess_81 (by decide) rfl ?_
        refine J_lload G 8 dX9_isLess_83 rfl ?_
        refine J_lload G 2 dX9_isLess_85 rfl ?_
        refine J_lcmp_eq 126 G dX9_isLess_87 dX9_isLess_88 (by decide) ?_ ?_
        · refine J_lload G 1 dX9_isLess_126 rfl ?_
          refine J_lconst (v := 0) G dX9_isLess_128 (by decide) ?_
          refine J_lcmp_eq 140 G dX9_isLess_129 dX9_isLess_130 (by decide) ?_ ?_
          · refine J_lv [7, 1, 0] rfl ?_
            exact hk140 i11 x16 x17
          · refine J_lload G 0 dX9_isLess_133 rfl ?_
            refine J_lconst (v := 0) G dX9_isLess_135 (by decide) ?_
            refine J_lcmp_ne 187 G dX9_isLess_136 dX9_isLess_137 (by decide) ?_ ?_
            · refine J_lload G 4 dX9_isLess_187 rfl ?_
              refine J_lstore (lv' := [(8, vL i8), (23, vL x17), (21, vL x16), (19, vL x15), (10, vL i8), (12, vL i9), (14, vL i10), (16, vI i11), (17, vL x13)]) G dX9_isLess_189 (by decide) rfl ?_
              refine J_lload G 2 dX9_isLess_191 rfl ?_
              refine J_lstore (lv' := [(10, vL x16), (8, vL i8), (23, vL x17), (21, vL x16), (19, vL x15), (12, vL i9), (14, vL i10), (16, vI i11), (17, vL x13)]) G dX9_isLess_193 (by decide) rfl ?_
              refine J_lload G 6 dX9_isLess_195 rfl ?_
              refine J_lstore (lv' := [(12, vL i10), (10, vL x16), (8, vL i8), (23, vL x17), (21, vL x16), (19, vL x15), (14, vL i10), (16, vI i11), (17, vL x13)]) G dX9_isLess_197 (by decide) rfl ?_
              refine J_lload G 3 dX9_isLess_199 rfl ?_
              refine J_lstore (lv' := [(14, vL x17), (12, vL i10), (10, vL x16), (8, vL i8), (23, vL x17), (21, vL x16), (19, vL x15), (16, vI i11), (17, vL x13)]) G dX9_isLess_201 (by decide) rfl ?_
              refine J_iload G 7 dX9_isLess_203 rfl ?_
              refine J_if_ne 212 G dX9_isLess_205 (by decide) ?_ ?_
              · refine J_iconst G dX9_isLess_212 ?_
                refine J_istore (lv' := [(16, vI 0), (14, vL x17), (12, vL i10), (10, vL x16), (8, vL i8), (23, vL x17), (21, vL x16), (19, vL x15), (17, vL x13)]) G dX9_isLess_213 (by decide) rfl ?_
                refine J_goto 17 G dX9_isLess_215 (by decide) ?_
                refine J_lv [4, 3, 2, 1, 0] rfl ?_
                exact ih i8 x16 i10 x17 0
              · refine J_iconst G dX9_isLess_208 ?_
                refine J_goto 213 G dX9_isLess_209 (by decide) ?_
                refine J_istore (lv' := [(16, vI 1), (14, vL x17), (12, vL i10), (10, vL x16), (8, vL i8), (23, vL x17), (21, vL x16), (19, vL x15), (17, vL x13)]) G dX9_isLess_213 (by decide) rfl ?_
                refine J_goto 17 G dX9_isLess_215 (by decide) ?_
                refine J_lv [4, 3, 2, 1, 0] rfl ?_
                exact ih i8 x16 i10 x17 1
            · refine J_lv [7, 1, 0] rfl ?_
              exact hk140 i11 x16 x17
        · refine J_lv [7, 8, 2] rfl ?_
          exact hk91 i11 x13 x15
      · intro k60 hk60
        refine J_lcmp_ge 59 G dX9_isLess_51 dX9_isLess_52 (by decide) ?_ ?_
        · refine J_lconst (v := 0) G dX9_isLess_59 (by decide) ?_
          refine J_lv [1, 2, 3, 4, 5, 0] rfl ?_
          exact hk60 0
        · refine J_lconst (v := 1) G dX9_isLess_55 (by decide) ?_
          refine J_goto 60 G dX9_isLess_56 (by decide) ?_
          refine J_lv [1, 2, 3, 4, 5, 0] rfl ?_
          exact hk60 1
    · intro k37 hk37
      refine J_lcmp_ge 36 G dX9_isLess_28 dX9_isLess_29 (by decide) ?_ ?_
      · refine J_lconst (v := 0) G dX9_isLess_36 (by decide) ?_
        exact hk37 0
      · refine J_lconst (v := 1) G dX9_isLess_32 (by decide) ?_
        refine J_goto 37 G dX9_isLess_33 (by decide) ?_
        exact hk37 1
theorem mX9_isLess (u : jU) (p0 : Int) (p1 : Int) (p2 : Int) (p3 : Int) (mem : Mem) : jMet u yX9_isLess cX9_isLess 25 (some .boolean) (jRm 0 0) [vL p0, vL p1, vL p2, vL p3] mem (EpI mem) (Mo_isLess p0 p1 p2 p3 mem) := by
  refine jMet_of (by decide +kernel) (Nat.le_of_ble_eq_true rfl) (fun x G => ?_)
  show J u x 25 (jQ u x (EpI mem)) 0 [(0, vL p0), (2, vL p1), (4, vL p2), (6, vL p3)] [] mem _
  unfold Mo_isLess
  refine J_lload_n G 0 dX9_isLess_0 rfl ?_
  refine J_lstore (lv' := [(8, vL p0), (0, vL p0), (2, vL p1), (4, vL p2), (6, vL p3)]) G dX9_isLess_1 (by decide) rfl ?_
  refine J_lload_n G 2 dX9_isLess_3 rfl ?_
  refine J_lstore (lv' := [(10, vL p1), (8, vL p0), (0, vL p0), (2, vL p1), (4, vL p2), (6, vL p3)]) G dX9_isLess_4 (by decide) rfl ?_
  refine J_lload G 4 dX9_isLess_6 rfl ?_
  refine J_lstore (lv' := [(12, vL p2), (10, vL p1), (8, vL p0), (0, vL p0), (2, vL p1), (4, vL p2), (6, vL p3)]) G dX9_isLess_8 (by decide) rfl ?_
  refine J_lload G 6 dX9_isLess_10 rfl ?_
  refine J_lstore (lv' := [(14, vL p3), (12, vL p2), (10, vL p1), (8, vL p0), (0, vL p0), (2, vL p1), (4, vL p2), (6, vL p3)]) G dX9_isLess_12 (by decide) rfl ?_
  refine J_iconst G dX9_isLess_14 ?_
  refine J_istore (lv' := [(16, vI 0), (14, vL p3), (12, vL p2), (10, vL p1), (8, vL p0), (0, vL p0), (2, vL p1), (4, vL p2), (6, vL p3)]) G dX9_isLess_15 (by decide) rfl ?_
  refine J_jn (fun g => ∀ x1 x2 x3, J u x 25 (jQ u x (EpI mem)) 140 [(16, vI x1), (21, vL x2), (23, vL x3)] [] mem (g x1 x2 x3)) ?_ ?_
  · intro x1 x2 x3
    refine J_iload G 0 dX9_isLess_140 rfl ?_
    refine J_if_eq 167 G dX9_isLess_142 (by decide) ?_ ?_
    · refine J_lload G 1 dX9_isLess_167 rfl ?_
      refine J_lconst (v := 0) G dX9_isLess_169 (by decide) ?_
      refine J_lcmp_ne 185 G dX9_isLess_170 dX9_isLess_171 (by decide) ?_ ?_
      · refine J_iconst G dX9_isLess_185 ?_
        exact J_zret G dX9_isLess_186 (by decide) rfl
      · refine J_lload G 2 dX9_isLess_174 rfl ?_
        refine J_lconst (v := 0) G dX9_isLess_176 (by decide) ?_
        refine J_lcmp_eq 185 G dX9_isLess_177 dX9_isLess_178 (by decide) ?_ ?_
        · refine J_iconst G dX9_isLess_185 ?_
          exact J_zret G dX9_isLess_186 (by decide) rfl
        · refine J_iconst G dX9_isLess_181 ?_
          refine J_goto 186 G dX9_isLess_182 (by decide) ?_
          exact J_zret G dX9_isLess_186 (by decide) rfl
    · refine J_lload G 2 dX9_isLess_145 rfl ?_
      refine J_lconst (v := 0) G dX9_isLess_147 (by decide) ?_
      refine J_lcmp_ne 163 G dX9_isLess_148 dX9_isLess_149 (by decide) ?_ ?_
      · refine J_iconst G dX9_isLess_163 ?_
        refine J_goto 186 G dX9_isLess_164 (by decide) ?_
        exact J_zret G dX9_isLess_186 (by decide) rfl
      · refine J_lload G 1 dX9_isLess_152 rfl ?_
        refine J_lconst (v := 0) G dX9_isLess_154 (by decide) ?_
        refine J_lcmp_eq 163 G dX9_isLess_155 dX9_isLess_156 (by decide) ?_ ?_
        · refine J_iconst G dX9_isLess_163 ?_
          refine J_goto 186 G dX9_isLess_164 (by decide) ?_
          exact J_zret G dX9_isLess_186 (by decide) rfl
        · refine J_iconst G dX9_isLess_159 ?_
          refine J_goto 186 G dX9_isLess_160 (by decide) ?_
          exact J_zret G dX9_isLess_186 (by decide) rfl
  · intro k140 hk140
    refine J_jn (fun g => ∀ x4 x5 x6, J u x 25 (jQ u x (EpI mem)) 91 [(16, vI x4), (17, vL x5), (19, vL x6)] [] mem (g x4 x5 x6)) ?_ ?_
    · intro x4 x5 x6
      refine J_iload G 0 dX9_isLess_91 rfl ?_
      refine J_if_eq 112 G dX9_isLess_93 (by decide) ?_ ?_
      · refine J_lload G 1 dX9_isLess_112 rfl ?_
        refine J_lload G 2 dX9_isLess_114 rfl ?_
        refine J_lcmp_ge 124 G dX9_isLess_116 dX9_isLess_117 (by decide) ?_ ?_
        · refine J_iconst G dX9_isLess_124 ?_
          exact J_zret G dX9_isLess_125 (by decide) rfl
        · refine J_iconst G dX9_isLess_120 ?_
          refine J_goto 125 G dX9_isLess_121 (by decide) ?_
          exact J_zret G dX9_isLess_125 (by decide) rfl
      · refine J_lload G 1 dX9_isLess_96 rfl ?_
        refine J_lload G 2 dX9_isLess_98 rfl ?_
        refine J_lcmp_le 108 G dX9_isLess_100 dX9_isLess_101 (by decide) ?_ ?_
        · refine J_iconst G dX9_isLess_108 ?_
          refine J_goto 125 G dX9_isLess_109 (by decide) ?_
          exact J_zret G dX9_isLess_125 (by decide) rfl
        · refine J_iconst G dX9_isLess_104 ?_
          refine J_goto 125 G dX9_isLess_105 (by decide) ?_
          exact J_zret G dX9_isLess_125 (by decide) rfl
    · intro k91 hk91
      refine J_lv [4, 3, 2, 1, 0] rfl ?_
      exact jMo_isLess_L17 G mem k140 k91 hk140 hk91 2000 p0 p1 p2 p3 0
theorem mX9_spanOf (u : jU) (p0 : Int) (mem : Mem) : jMet u yX9_spanOf cX9_spanOf 2 (some .int) (jRm 0 0) [vR (uB u) 149, vI p0] mem (EpI mem) (Mo_spanOf p0 mem) := by
  refine jMet_of (by decide +kernel) (Nat.le_of_ble_eq_true rfl) (fun x G => ?_)
  show J u x 2 (jQ u x (EpI mem)) 0 [(0, vR (uB u) 149), (1, vI p0)] [] mem _
  unfold Mo_spanOf
  refine J_aload_n G 0 dX9_spanOf_0 rfl ?_
  refine J_getR (d := 150) (k := 0) G cls_9 wf_X9_11 kd_149 rfl rfl dX9_spanOf_1 ?_
  refine J_iconst G dX9_spanOf_4 ?_
  refine J_iload_n G 1 dX9_spanOf_5 rfl ?_
  refine J_iadd G dX9_spanOf_6 ?_
  refine J_iconst G dX9_spanOf_7 ?_
  refine J_iadd G dX9_spanOf_8 ?_
  refine J_iald G kd_150 ln_150 dX9_spanOf_9 ?_
  refine J_aload_n G 0 dX9_spanOf_10 rfl ?_
  refine J_getR (d := 150) (k := 0) G cls_9 wf_X9_11 kd_149 rfl rfl dX9_spanOf_11 ?_
  refine J_iconst G dX9_spanOf_14 ?_
  refine J_iload_n G 1 dX9_spanOf_15 rfl ?_
  refine J_iadd G dX9_spanOf_16 ?_
  refine J_iald G kd_150 ln_150 dX9_spanOf_17 ?_
  refine J_isub G dX9_spanOf_18 ?_
  exact J_iret G dX9_spanOf_19 rfl
theorem mX9_isSpread (u : jU) (p0 : Int) (mem : Mem) : jMet u yX9_isSpread cX9_isSpread 2 (some .boolean) (jRm 0 0) [vR (uB u) 149, vI p0] mem (EpI mem) (Mo_isSpread p0 mem) := by
  refine jMet_of (by decide +kernel) (Nat.le_of_ble_eq_true rfl) (fun x G => ?_)
  show J u x 2 (jQ u x (EpI mem)) 0 [(0, vR (uB u) 149), (1, vI p0)] [] mem _
  unfold Mo_isSpread
  refine J_aload_n G 0 dX9_isSpread_0 rfl ?_
  refine J_getR (d := 150) (k := 0) G cls_9 wf_X9_11 kd_149 rfl rfl dX9_isSpread_1 ?_
  refine J_bipush G dX9_isSpread_4 (by decide) ?_
  refine J_iload_n G 1 dX9_isSpread_6 rfl ?_
  refine J_iadd G dX9_isSpread_7 ?_
  refine J_iald G kd_150 ln_150 dX9_isSpread_8 ?_
  refine J_aload_n G 0 dX9_isSpread_9 rfl ?_
  refine J_getR (d := 150) (k := 0) G cls_9 wf_X9_11 kd_149 rfl rfl dX9_isSpread_10 ?_
  refine J_bipush G dX9_isSpread_13 (by decide) ?_
  refine J_iload_n G 1 dX9_isSpread_15 rfl ?_
  refine J_iadd G dX9_isSpread_16 ?_
  refine J_iald G kd_150 ln_150 dX9_isSpread_17 ?_
  refine J_icmp_ge 25 G dX9_isSpread_18 (by decide) ?_ ?_
  · refine J_iconst G dX9_isSpread_25 ?_
    exact J_zret G dX9_isSpread_26 (by decide) rfl
  · refine J_iconst G dX9_isSpread_21 ?_
    refine J_goto 26 G dX9_isSpread_22 (by decide) ?_
    exact J_zret G dX9_isSpread_26 (by decide) rfl
theorem mX9_less (u : jU) (p0 : Int) (p1 : Int) (mem : Mem) : jMet u yX9_less cX9_less 2 (some .int) (jRm 0 0) [vI p0, vI p1] mem (EpI mem) (Mo_less p0 p1 mem) := by
  refine jMet_of (by decide +kernel) (Nat.le_of_ble_eq_true rfl) (fun x G => ?_)
  show J u x 2 (jQ u x (EpI mem)) 0 [(0, vI p0), (1, vI p1)] [] mem _
  unfold Mo_less
  refine J_iload_n G 0 dX9_less_0 rfl ?_
  refine J_iload_n G 1 dX9_less_1 rfl ?_
  refine J_icmp_ge 9 G dX9_less_2 (by decide) ?_ ?_
  · refine J_iload_n G 1 dX9_less_9 rfl ?_
    exact J_iret G dX9_less_10 rfl
  · refine J_iload_n G 0 dX9_less_5 rfl ?_
    refine J_goto 10 G dX9_less_6 (by decide) ?_
    exact J_iret G dX9_less_10 rfl
theorem mX9_more (u : jU) (p0 : Int) (p1 : Int) (mem : Mem) : jMet u yX9_more cX9_more 2 (some .int) (jRm 0 0) [vI p0, vI p1] mem (EpI mem) (Mo_more p0 p1 mem) := by
  refine jMet_of (by decide +kernel) (Nat.le_of_ble_eq_true rfl) (fun x G => ?_)
  show J u x 2 (jQ u x (EpI mem)) 0 [(0, vI p0), (1, vI p1)] [] mem _
  unfold Mo_more
  refine J_iload_n G 0 dX9_more_0 rfl ?_
  refine J_iload_n G 1 dX9_more_1 rfl ?_
  refine J_icmp_le 9 G dX9_more_2 (by decide) ?_ ?_
  · refine J_iload_n G 1 dX9_more_9 rfl ?_
    exact J_iret G dX9_more_10 rfl
  · refine J_iload_n G 0 dX9_more_5 rfl ?_
    refine J_goto 10 G dX9_more_6 (by decide) ?_
    exact J_iret G dX9_more_10 rfl
theorem mX9_whole (u : jU) (p0 : Int) (p1 : Int) (mem : Mem) : jMet u yX9_whole cX9_whole 4 (some .long) (jRm 0 0) [vL p0, vL p1] mem (EpL mem) (Mo_whole p0 p1 mem) := by
  refine jMet_of (by decide +kernel) (Nat.le_of_ble_eq_true rfl) (fun x G => ?_)
  show J u x 4 (jQ u x (EpL mem)) 0 [(0, vL p0), (2, vL p1)] [] mem _
  unfold Mo_whole
  refine J_ldc2 (v := 2) G dX9_whole_0 wc_X9_86 (by decide) ?_
  refine J_lload_n G 0 dX9_whole_3 rfl ?_
  refine J_lmul G dX9_whole_4 ?_
  refine J_lload_n G 0 dX9_whole_5 rfl ?_
  refine J_lmul G dX9_whole_6 ?_
  refine J_lload_n G 1 dX9_whole_7 rfl ?_
  refine J_lmul G dX9_whole_8 ?_
  refine J_lload_n G 1 dX9_whole_9 rfl ?_
  refine J_lmul G dX9_whole_10 ?_
  refine J_lload_n G 1 dX9_whole_11 rfl ?_
  refine J_lload_n G 1 dX9_whole_12 rfl ?_
  refine J_lmul G dX9_whole_13 ?_
  refine J_lload_n G 1 dX9_whole_14 rfl ?_
  refine J_lmul G dX9_whole_15 ?_
  refine J_lload_n G 1 dX9_whole_16 rfl ?_
  refine J_lmul G dX9_whole_17 ?_
  refine J_lsub G dX9_whole_18 ?_
  exact J_lret G dX9_whole_19 rfl
theorem jMo_sums_L12 {u : jU} {x : jX} (G : jG u x cX9_sums RX9 15 (some .long) (jRm 1 23)) (p0 : Int) (p1 : Int) (p2 : Int) (mem : Mem) (x1 : Int) : ∀ (n : Nat) (i2 : Int) (i3 : Int), J u x 15 (jQ u x (EpL mem)) 12 [(0, vR (uB u) 149), (1, vI p0), (2, vI p1), (3, vI p2), (4, vL x1), (6, vL i2), (8, vI i3)] [] mem (Mo_sums_L12 p0 p1 p2 mem x1 n i2 i3) := by
  intro n
  induction n with
  | zero => intro i2 i3; exact J_none
  | succ n ih =>
    intro i2 i3
    rw [Mo_sums_L12]
    refine J_iload G 6 dX9_sums_12 rfl ?_
    refine J_aload_n G 0 dX9_sums_14 rfl ?_
    refine J_getR (d := 150) (k := 0) G cls_9 wf_X9_11 kd_149 rfl rfl dX9_sums_15 ?_
    refine J_bipush G dX9_sums_18 (by decide) ?_
    refine J_ialdC G kd_150 ln_150 (by decide) dX9_sums_20 ?_
    refine J_icmp_ge 252 G dX9_sums_21 (by decide) ?_ ?_
    · refine J_lload G 5 dX9_sums_252 rfl ?_
      exact J_lret G dX9_sums_254 rfl
    · refine J_aload_n G 0 dX9_sums_24 rfl ?_
      refine J_getR (d := 150) (k := 0) G cls_9 wf_X9_11 kd_149 rfl rfl dX9_sums_25 ?_
      refine J_bipush G dX9_sums_28 (by decide) ?_
      refine J_iload G 6 dX9_sums_30 rfl ?_
      refine J_iadd G dX9_sums_32 ?_
      refine J_iald G kd_150 ln_150 dX9_sums_33 ?_
      refine J_iload_n G 1 dX9_sums_34 rfl ?_
      refine J_cSpI (As := [vI (mem 150 (s32 (11 + i3))), vI p0]) G (mX9_more u (mem 150 (s32 (11 + i3))) p0 mem) sg_X9_more ss_X9_more wm_X9_137 ⟨by decide, by decide⟩ rfl rfl (Nat.le_of_ble_eq_true rfl) dX9_sums_35 ?_
      intro r4
      refine J_istore (lv' := [(9, vI r4), (0, vR (uB u) 149), (1, vI p0), (2, vI p1), (3, vI p2), (4, vL x1), (6, vL i2), (8, vI i3)]) G dX9_sums_38 (by decide) rfl ?_
      refine J_aload_n G 1 dX9_sums_40 rfl ?_
      refine J_getR (d := 150) (k := 0) G cls_9 wf_X9_11 kd_149 rfl rfl dX9_sums_41 ?_
      refine J_bipush G dX9_sums_44 (by decide) ?_
      refine J_iload G 7 dX9_sums_46 rfl ?_
      refine J_iadd G dX9_sums_48 ?_
      refine J_iald G kd_150 ln_150 dX9_sums_49 ?_
      refine J_iload_n G 3 dX9_sums_50 rfl ?_
      refine J_cSpI (As := [vI (mem 150 (s32 (17 + i3))), vI p1]) G (mX9_less u (mem 150 (s32 (17 + i3))) p1 mem) sg_X9_less ss_X9_less wm_X9_141 ⟨by decide, by decide⟩ rfl rfl (Nat.le_of_ble_eq_true rfl) dX9_sums_51 ?_
      intro r5
      refine J_istore (lv' := [(10, vI r5), (9, vI r4), (0, vR (uB u) 149), (1, vI p0), (2, vI p1), (3, vI p2), (4, vL x1), (6, vL i2), (8, vI i3)]) G dX9_sums_54 (by decide) rfl ?_
      refine J_aload_n G 2 dX9_sums_56 rfl ?_
      refine J_getR (d := 150) (k := 0) G cls_9 wf_X9_11 kd_149 rfl rfl dX9_sums_57 ?_
      refine J_bipush G dX9_sums_60 (by decide) ?_
      refine J_iload G 8 dX9_sums_62 rfl ?_
      refine J_iadd G dX9_sums_64 ?_
      refine J_iald G kd_150 ln_150 dX9_sums_65 ?_
      refine J_i2l G dX9_sums_66 ?_
      refine J_ltL (fun x6 => ?_)
      refine J_lstore (lv' := [(11, vL x6), (10, vI r5), (9, vI r4), (0, vR (uB u) 149), (1, vI p0), (2, vI p1), (3, vI p2), (4, vL x1), (6, vL i2), (8, vI i3)]) G dX9_sums_67 (by decide) rfl ?_
      refine J_aload_n G 3 dX9_sums_69 rfl ?_
      refine J_iload G 9 dX9_sums_70 rfl ?_
      refine J_cVpI (As := [vI i3]) G (mX9_isSpread u i3 mem) sg_X9_isSpread sv_X9_isSpread wm_X9_144 cls_9 kd_149 rfl ⟨by decide, by decide⟩ rfl rfl (Nat.le_of_ble_eq_true rfl) dX9_sums_72 ?_
      intro r7
      refine J_jn (fun g => J u x 15 (jQ u x (EpL mem)) 148 [(0, vR (uB u) 149), (1, vI p0), (2, vI p1), (3, vI p2), (4, vL x1), (6, vL i2), (8, vI i3), (11, vL x6)] [] mem (g)) ?_ ?_
      · skip
        refine J_aload_n G 0 dX9_sums_148 rfl ?_
        refine J_iload G 6 dX9_sums_149 rfl ?_
        refine J_cVpI (As := [vI i3]) G (mX9_isSpread u i3 mem) sg_X9_isSpread sv_X9_isSpread wm_X9_144 cls_9 kd_149 rfl ⟨by decide, by decide⟩ rfl rfl (Nat.le_of_ble_eq_true rfl) dX9_sums_151 ?_
        intro r8
        refine J_if_ne 246 G dX9_sums_154 (by decide) ?_ ?_
        · refine J_iinc (lv' := [(8, vI (i3 + 1)), (0, vR (uB u) 149), (1, vI p0), (2, vI p1), (3, vI p2), (4, vL x1), (6, vL i2), (11, vL x6)]) G 6 dX9_sums_246 rfl (by decide) rfl ?_
          refine J_goto 12 G dX9_sums_249 (by decide) ?_
          refine J_lv [1, 2, 3, 4, 5, 6, 0] rfl ?_
          exact ih i2 (i3 + 1)
        · refine J_aload_n G 0 dX9_sums_157 rfl ?_
          refine J_getR (d := 150) (k := 0) G cls_9 wf_X9_11 kd_149 rfl rfl dX9_sums_158 ?_
          refine J_bipush G dX9_sums_161 (by decide) ?_
          refine J_iload G 6 dX9_sums_163 rfl ?_
          refine J_iadd G dX9_sums_165 ?_
          refine J_iald G kd_150 ln_150 dX9_sums_166 ?_
          refine J_iload_n G 1 dX9_sums_167 rfl ?_
          refine J_icmp_le 246 G dX9_sums_168 (by decide) ?_ ?_
          · refine J_iinc (lv' := [(8, vI (i3 + 1)), (0, vR (uB u) 149), (1, vI p0), (2, vI p1), (3, vI p2), (4, vL x1), (6, vL i2), (11, vL x6)]) G 6 dX9_sums_246 rfl (by decide) rfl ?_
            refine J_goto 12 G dX9_sums_249 (by decide) ?_
            refine J_lv [1, 2, 3, 4, 5, 6, 0] rfl ?_
            exact ih i2 (i3 + 1)
          · refine J_aload_n G 0 dX9_sums_171 rfl ?_
            refine J_getR (d := 150) (k := 0) G cls_9 wf_X9_11 kd_149 rfl rfl dX9_sums_172 ?_
            refine J_bipush G dX9_sums_175 (by decide) ?_
            refine J_iload G 6 dX9_sums_177 rfl ?_
            refine J_iadd G dX9_sums_179 ?_
            refine J_iald G kd_150 ln_150 dX9_sums_180 ?_
            refine J_iload_n G 2 dX9_sums_181 rfl ?_
            refine J_icmp_ge 246 G dX9_sums_182 (by decide) ?_ ?_
            · refine J_iinc (lv' := [(8, vI (i3 + 1)), (0, vR (uB u) 149), (1, vI p0), (2, vI p1), (3, vI p2), (4, vL x1), (6, vL i2), (11, vL x6)]) G 6 dX9_sums_246 rfl (by decide) rfl ?_
              refine J_goto 12 G dX9_sums_249 (by decide) ?_
              refine J_lv [1, 2, 3, 4, 5, 6, 0] rfl ?_
              exact ih i2 (i3 + 1)
            · refine J_iload_n G 3 dX9_sums_185 rfl ?_
              refine J_jn (fun g => ∀ x9, J u x 15 (jQ u x (EpL mem)) 218 [(0, vR (uB u) 149), (1, vI p0), (2, vI p1), (3, vI p2), (4, vL x1), (6, vL i2), (8, vI i3), (11, vL x6)] [vL x9] mem (g x9)) ?_ ?_
              · intro x9
                refine J_lstore (lv' := [(13, vL x9), (0, vR (uB u) 149), (1, vI p0), (2, vI p1), (3, vI p2), (4, vL x1), (6, vL i2), (8, vI i3), (11, vL x6)]) G dX9_sums_218 (by decide) rfl ?_
                refine J_lload G 6 dX9_sums_220 rfl ?_
                refine J_ldc2 (v := 4) G dX9_sums_222 wc_X9_150 (by decide) ?_
                refine J_lload G 8 dX9_sums_225 rfl ?_
                refine J_lmul G dX9_sums_227 ?_
                refine J_lload G 0 dX9_sums_228 rfl ?_
                refine J_lmul G dX9_sums_230 ?_
                refine J_lload G 5 dX9_sums_231 rfl ?_
                refine J_lload G 5 dX9_sums_233 rfl ?_
                refine J_lmul G dX9_sums_235 ?_
                refine J_lload G 0 dX9_sums_236 rfl ?_
                refine J_lload G 0 dX9_sums_238 rfl ?_
                refine J_lmul G dX9_sums_240 ?_
                refine J_lsub G dX9_sums_241 ?_
                refine J_lmul G dX9_sums_242 ?_
                refine J_ladd G dX9_sums_243 ?_
                refine J_ltL (fun x10 => ?_)
                refine J_lstore (lv' := [(6, vL x10), (13, vL x9), (0, vR (uB u) 149), (1, vI p0), (2, vI p1), (3, vI p2), (4, vL x1), (8, vI i3), (11, vL x6)]) G dX9_sums_244 (by decide) rfl ?_
                refine J_iinc (lv' := [(8, vI (i3 + 1)), (6, vL x10), (13, vL x9), (0, vR (uB u) 149), (1, vI p0), (2, vI p1), (3, vI p2), (4, vL x1), (11, vL x6)]) G 7 dX9_sums_246 rfl (by decide) rfl ?_
                refine J_goto 12 G dX9_sums_249 (by decide) ?_
                refine J_lv [3, 4, 5, 6, 7, 1, 0] rfl ?_
                exact ih x10 (i3 + 1)
              · intro k218 hk218
                refine J_if_eq 205 G dX9_sums_186 (by decide) ?_ ?_
                · refine J_aload_n G 0 dX9_sums_205 rfl ?_
                  refine J_getR (d := 150) (k := 0) G cls_9 wf_X9_11 kd_149 rfl rfl dX9_sums_206 ?_
                  refine J_bipush G dX9_sums_209 (by decide) ?_
                  refine J_iload G 6 dX9_sums_211 rfl ?_
                  refine J_iadd G dX9_sums_213 ?_
                  refine J_iald G kd_150 ln_150 dX9_sums_214 ?_
                  refine J_iload_n G 1 dX9_sums_215 rfl ?_
                  refine J_isub G dX9_sums_216 ?_
                  refine J_i2l G dX9_sums_217 ?_
                  exact hk218 (s32 ((mem 150 (s32 (11 + i3))) - p0))
                · refine J_iload_n G 2 dX9_sums_189 rfl ?_
                  refine J_aload_n G 0 dX9_sums_190 rfl ?_
                  refine J_getR (d := 150) (k := 0) G cls_9 wf_X9_11 kd_149 rfl rfl dX9_sums_191 ?_
                  refine J_bipush G dX9_sums_194 (by decide) ?_
                  refine J_iload G 6 dX9_sums_196 rfl ?_
                  refine J_iadd G dX9_sums_198 ?_
                  refine J_iald G kd_150 ln_150 dX9_sums_199 ?_
                  refine J_isub G dX9_sums_200 ?_
                  refine J_i2l G dX9_sums_201 ?_
                  refine J_goto 218 G dX9_sums_202 (by decide) ?_
                  exact hk218 (s32 (p1 - (mem 150 (s32 (11 + i3)))))
      · intro k148 hk148
        refine J_if_eq 148 G dX9_sums_75 (by decide) ?_ ?_
        · refine J_lv [3, 4, 5, 6, 7, 8, 9, 0] rfl ?_
          exact hk148
        · refine J_iload G 2 dX9_sums_78 rfl ?_
          refine J_iload G 1 dX9_sums_80 rfl ?_
          refine J_icmp_ge 148 G dX9_sums_82 (by decide) ?_ ?_
          · refine J_lv [3, 4, 5, 6, 7, 8, 9, 0] rfl ?_
            exact hk148
          · refine J_lload G 8 dX9_sums_85 rfl ?_
            refine J_iload_n G 6 dX9_sums_87 rfl ?_
            refine J_jn (fun g => ∀ x11, J u x 15 (jQ u x (EpL mem)) 142 [(0, vR (uB u) 149), (1, vI p0), (2, vI p1), (3, vI p2), (4, vL x1), (8, vI i3)] [vL x11, vL i2] mem (g x11)) ?_ ?_
            · intro x11
              refine J_ladd G dX9_sums_142 ?_
              refine J_ltL (fun x12 => ?_)
              refine J_lstore (lv' := [(6, vL x12), (0, vR (uB u) 149), (1, vI p0), (2, vI p1), (3, vI p2), (4, vL x1), (8, vI i3)]) G dX9_sums_143 (by decide) rfl ?_
              refine J_goto 246 G dX9_sums_145 (by decide) ?_
              refine J_iinc (lv' := [(8, vI (i3 + 1)), (6, vL x12), (0, vR (uB u) 149), (1, vI p0), (2, vI p1), (3, vI p2), (4, vL x1)]) G 6 dX9_sums_246 rfl (by decide) rfl ?_
              refine J_goto 12 G dX9_sums_249 (by decide) ?_
              refine J_lv [2, 3, 4, 5, 6, 1, 0] rfl ?_
              exact ih x12 (i3 + 1)
            · intro k142 hk142
              refine J_if_eq 118 G dX9_sums_88 (by decide) ?_ ?_
              · refine J_lload G 0 dX9_sums_118 rfl ?_
                refine J_lload G 7 dX9_sums_120 rfl ?_
                refine J_iload G 1 dX9_sums_122 rfl ?_
                refine J_iload_n G 4 dX9_sums_124 rfl ?_
                refine J_isub G dX9_sums_125 ?_
                refine J_i2l G dX9_sums_126 ?_
                refine J_cSpL (As := [vL x1, vL (s32 (r5 - p0))]) G (mX9_whole u x1 (s32 (r5 - p0)) mem) sg_X9_whole ss_X9_whole wm_X9_147 ⟨by decide, by decide⟩ rfl rfl (Nat.le_of_ble_eq_true rfl) dX9_sums_127 ?_
                intro r13
                refine J_lload G 7 dX9_sums_130 rfl ?_
                refine J_iload G 2 dX9_sums_132 rfl ?_
                refine J_iload_n G 4 dX9_sums_134 rfl ?_
                refine J_isub G dX9_sums_135 ?_
                refine J_i2l G dX9_sums_136 ?_
                refine J_cSpL (As := [vL x1, vL (s32 (r4 - p0))]) G (mX9_whole u x1 (s32 (r4 - p0)) mem) sg_X9_whole ss_X9_whole wm_X9_147 ⟨by decide, by decide⟩ rfl rfl (Nat.le_of_ble_eq_true rfl) dX9_sums_137 ?_
                intro r14
                refine J_lsub G dX9_sums_140 ?_
                refine J_lmul G dX9_sums_141 ?_
                refine J_lv [3, 4, 5, 6, 7, 9] rfl ?_
                exact hk142 (x6 * (r13 - r14))
              · refine J_lload G 0 dX9_sums_91 rfl ?_
                refine J_lload G 7 dX9_sums_93 rfl ?_
                refine J_iload_n G 5 dX9_sums_95 rfl ?_
                refine J_iload G 2 dX9_sums_96 rfl ?_
                refine J_isub G dX9_sums_98 ?_
                refine J_i2l G dX9_sums_99 ?_
                refine J_cSpL (As := [vL x1, vL (s32 (p1 - r4))]) G (mX9_whole u x1 (s32 (p1 - r4)) mem) sg_X9_whole ss_X9_whole wm_X9_147 ⟨by decide, by decide⟩ rfl rfl (Nat.le_of_ble_eq_true rfl) dX9_sums_100 ?_
                intro r15
                refine J_lload G 7 dX9_sums_103 rfl ?_
                refine J_iload_n G 5 dX9_sums_105 rfl ?_
                refine J_iload G 1 dX9_sums_106 rfl ?_
                refine J_isub G dX9_sums_108 ?_
                refine J_i2l G dX9_sums_109 ?_
                refine J_cSpL (As := [vL x1, vL (s32 (p1 - r5))]) G (mX9_whole u x1 (s32 (p1 - r5)) mem) sg_X9_whole ss_X9_whole wm_X9_147 ⟨by decide, by decide⟩ rfl rfl (Nat.le_of_ble_eq_true rfl) dX9_sums_110 ?_
                intro r16
                refine J_lsub G dX9_sums_113 ?_
                refine J_lmul G dX9_sums_114 ?_
                refine J_goto 142 G dX9_sums_115 (by decide) ?_
                refine J_lv [3, 4, 5, 6, 7, 9] rfl ?_
                exact hk142 (x6 * (r15 - r16))
theorem mX9_sums (u : jU) (p0 : Int) (p1 : Int) (p2 : Int) (mem : Mem) : jMet u yX9_sums cX9_sums 15 (some .long) (jRm 1 23) [vR (uB u) 149, vI p0, vI p1, vI p2] mem (EpL mem) (Mo_sums p0 p1 p2 mem) := by
  refine jMet_of (by decide +kernel) (Nat.le_of_ble_eq_true rfl) (fun x G => ?_)
  show J u x 15 (jQ u x (EpL mem)) 0 [(0, vR (uB u) 149), (1, vI p0), (2, vI p1), (3, vI p2)] [] mem _
  unfold Mo_sums
  refine J_iload_n G 2 dX9_sums_0 rfl ?_
  refine J_iload_n G 1 dX9_sums_1 rfl ?_
  refine J_isub G dX9_sums_2 ?_
  refine J_i2l G dX9_sums_3 ?_
  refine J_ltL (fun x1 => ?_)
  refine J_lstore (lv' := [(4, vL x1), (0, vR (uB u) 149), (1, vI p0), (2, vI p1), (3, vI p2)]) G dX9_sums_4 (by decide) rfl ?_
  refine J_lconst (v := 0) G dX9_sums_6 (by decide) ?_
  refine J_lstore (lv' := [(6, vL 0), (4, vL x1), (0, vR (uB u) 149), (1, vI p0), (2, vI p1), (3, vI p2)]) G dX9_sums_7 (by decide) rfl ?_
  refine J_iconst G dX9_sums_9 ?_
  refine J_istore (lv' := [(8, vI 0), (6, vL 0), (4, vL x1), (0, vR (uB u) 149), (1, vI p0), (2, vI p1), (3, vI p2)]) G dX9_sums_10 (by decide) rfl ?_
  refine J_lv [3, 4, 5, 6, 2, 1, 0] rfl ?_
  exact jMo_sums_L12 G p0 p1 p2 mem x1 2000 0 0
theorem jMo_beyond_L5 {u : jU} {x : jX} (G : jG u x cX9_beyond RX9 12 (some .long) (jRm 1 21)) (p0 : Int) (p1 : Int) (mem : Mem) : ∀ (n : Nat) (i1 : Int) (i2 : Int), J u x 12 (jQ u x (EpL mem)) 5 [(0, vR (uB u) 149), (1, vI p0), (2, vI p1), (3, vL i1), (5, vI i2)] [] mem (Mo_beyond_L5 p0 p1 mem n i1 i2) := by
  intro n
  induction n with
  | zero => intro i1 i2; exact J_none
  | succ n ih =>
    intro i1 i2
    rw [Mo_beyond_L5]
    refine J_iload G 4 dX9_beyond_5 rfl ?_
    refine J_aload_n G 0 dX9_beyond_7 rfl ?_
    refine J_getR (d := 150) (k := 0) G cls_9 wf_X9_11 kd_149 rfl rfl dX9_beyond_8 ?_
    refine J_bipush G dX9_beyond_11 (by decide) ?_
    refine J_ialdC G kd_150 ln_150 (by decide) dX9_beyond_13 ?_
    refine J_icmp_ge 154 G dX9_beyond_14 (by decide) ?_ ?_
    · refine J_lload_n G 3 dX9_beyond_154 rfl ?_
      exact J_lret G dX9_beyond_155 rfl
    · refine J_aload_n G 0 dX9_beyond_17 rfl ?_
      refine J_getR (d := 150) (k := 0) G cls_9 wf_X9_11 kd_149 rfl rfl dX9_beyond_18 ?_
      refine J_bipush G dX9_beyond_21 (by decide) ?_
      refine J_iload G 4 dX9_beyond_23 rfl ?_
      refine J_iadd G dX9_beyond_25 ?_
      refine J_iald G kd_150 ln_150 dX9_beyond_26 ?_
      refine J_i2l G dX9_beyond_27 ?_
      refine J_ltL (fun x3 => ?_)
      refine J_lstore (lv' := [(6, vL x3), (0, vR (uB u) 149), (1, vI p0), (2, vI p1), (3, vL i1), (5, vI i2)]) G dX9_beyond_28 (by decide) rfl ?_
      refine J_iload_n G 3 dX9_beyond_30 rfl ?_
      refine J_jn (fun g => ∀ x4, J u x 12 (jQ u x (EpL mem)) 63 [(0, vR (uB u) 149), (1, vI p0), (2, vI p1), (3, vL i1), (5, vI i2), (6, vL x3)] [vL x4] mem (g x4)) ?_ ?_
      · intro x4
        refine J_lstore (lv' := [(8, vL x4), (0, vR (uB u) 149), (1, vI p0), (2, vI p1), (3, vL i1), (5, vI i2), (6, vL x3)]) G dX9_beyond_63 (by decide) rfl ?_
        refine J_iconst G dX9_beyond_65 ?_
        refine J_iload_n G 3 dX9_beyond_66 rfl ?_
        refine J_jn (fun g => ∀ x5, J u x 12 (jQ u x (EpL mem)) 97 [(0, vR (uB u) 149), (1, vI p0), (2, vI p1), (3, vL i1), (5, vI i2), (6, vL x3), (8, vL x4)] [vI x5, vI 0] mem (g x5)) ?_ ?_
        · intro x5
          refine J_cSpI (As := [vI 0, vI x5]) G (mX9_more u 0 x5 mem) sg_X9_more ss_X9_more wm_X9_137 ⟨by decide, by decide⟩ rfl rfl (Nat.le_of_ble_eq_true rfl) dX9_beyond_97 ?_
          intro r6
          refine J_i2l G dX9_beyond_100 ?_
          refine J_ltL (fun x7 => ?_)
          refine J_lstore (lv' := [(10, vL x7), (0, vR (uB u) 149), (1, vI p0), (2, vI p1), (3, vL i1), (5, vI i2), (6, vL x3), (8, vL x4)]) G dX9_beyond_101 (by decide) rfl ?_
          refine J_lload G 7 dX9_beyond_103 rfl ?_
          refine J_lconst (v := 0) G dX9_beyond_105 (by decide) ?_
          refine J_lcmp_le 148 G dX9_beyond_106 dX9_beyond_107 (by decide) ?_ ?_
          · refine J_iinc (lv' := [(5, vI (i2 + 1)), (10, vL x7), (0, vR (uB u) 149), (1, vI p0), (2, vI p1), (3, vL i1), (6, vL x3), (8, vL x4)]) G 5 dX9_beyond_148 rfl (by decide) rfl ?_
            refine J_goto 5 G dX9_beyond_151 (by decide) ?_
            refine J_lv [2, 3, 4, 5, 0] rfl ?_
            exact ih i1 (i2 + 1)
          · refine J_lload_n G 4 dX9_beyond_110 rfl ?_
            refine J_aload_n G 1 dX9_beyond_111 rfl ?_
            refine J_iload G 5 dX9_beyond_112 rfl ?_
            refine J_cVpI (As := [vI i2]) G (mX9_isSpread u i2 mem) sg_X9_isSpread sv_X9_isSpread wm_X9_144 cls_9 kd_149 rfl ⟨by decide, by decide⟩ rfl rfl (Nat.le_of_ble_eq_true rfl) dX9_beyond_114 ?_
            intro r8
            refine J_jn (fun g => ∀ x9, J u x 12 (jQ u x (EpL mem)) 146 [(0, vR (uB u) 149), (1, vI p0), (2, vI p1), (5, vI i2)] [vL x9, vL i1] mem (g x9)) ?_ ?_
            · intro x9
              refine J_lsub G dX9_beyond_146 ?_
              refine J_ltL (fun x10 => ?_)
              refine J_lstore_n (lv' := [(3, vL x10), (0, vR (uB u) 149), (1, vI p0), (2, vI p1), (5, vI i2)]) G dX9_beyond_147 rfl (by decide) rfl ?_
              refine J_iinc (lv' := [(5, vI (i2 + 1)), (3, vL x10), (0, vR (uB u) 149), (1, vI p0), (2, vI p1)]) G 4 dX9_beyond_148 rfl (by decide) rfl ?_
              refine J_goto 5 G dX9_beyond_151 (by decide) ?_
              refine J_lv [2, 3, 4, 1, 0] rfl ?_
              exact ih x10 (i2 + 1)
            · intro k146 hk146
              refine J_if_eq 137 G dX9_beyond_117 (by decide) ?_ ?_
              · refine J_ldc2 (v := 2) G dX9_beyond_137 wc_X9_86 (by decide) ?_
                refine J_lload G 6 dX9_beyond_140 rfl ?_
                refine J_lmul G dX9_beyond_142 ?_
                refine J_lload G 7 dX9_beyond_143 rfl ?_
                refine J_lmul G dX9_beyond_145 ?_
                refine J_lv [1, 2, 3, 5] rfl ?_
                exact hk146 ((2 * x3) * x4)
              · refine J_lload G 6 dX9_beyond_120 rfl ?_
                refine J_lload G 7 dX9_beyond_122 rfl ?_
                refine J_lload G 7 dX9_beyond_124 rfl ?_
                refine J_lmul G dX9_beyond_126 ?_
                refine J_lload G 0 dX9_beyond_127 rfl ?_
                refine J_lload G 0 dX9_beyond_129 rfl ?_
                refine J_lmul G dX9_beyond_131 ?_
                refine J_lsub G dX9_beyond_132 ?_
                refine J_lmul G dX9_beyond_133 ?_
                refine J_goto 146 G dX9_beyond_134 (by decide) ?_
                refine J_lv [1, 2, 3, 5] rfl ?_
                exact hk146 (x3 * ((x4 * x4) - (x7 * x7)))
        · intro k97 hk97
          refine J_if_eq 85 G dX9_beyond_67 (by decide) ?_ ?_
          · refine J_aload_n G 1 dX9_beyond_85 rfl ?_
            refine J_getR (d := 150) (k := 0) G cls_9 wf_X9_11 kd_149 rfl rfl dX9_beyond_86 ?_
            refine J_bipush G dX9_beyond_89 (by decide) ?_
            refine J_iload G 5 dX9_beyond_91 rfl ?_
            refine J_iadd G dX9_beyond_93 ?_
            refine J_iald G kd_150 ln_150 dX9_beyond_94 ?_
            refine J_iload_n G 2 dX9_beyond_95 rfl ?_
            refine J_isub G dX9_beyond_96 ?_
            refine J_lv [1, 2, 3, 4, 5, 6, 0] rfl ?_
            exact hk97 ((mem 150 (s32 (11 + i2))) - p0)
          · refine J_iload_n G 2 dX9_beyond_70 rfl ?_
            refine J_aload_n G 1 dX9_beyond_71 rfl ?_
            refine J_getR (d := 150) (k := 0) G cls_9 wf_X9_11 kd_149 rfl rfl dX9_beyond_72 ?_
            refine J_bipush G dX9_beyond_75 (by decide) ?_
            refine J_iload G 5 dX9_beyond_77 rfl ?_
            refine J_iadd G dX9_beyond_79 ?_
            refine J_iald G kd_150 ln_150 dX9_beyond_80 ?_
            refine J_isub G dX9_beyond_81 ?_
            refine J_goto 97 G dX9_beyond_82 (by decide) ?_
            refine J_lv [1, 2, 3, 4, 5, 6, 0] rfl ?_
            exact hk97 (p0 - (mem 150 (s32 (17 + i2))))
      · intro k63 hk63
        refine J_if_eq 50 G dX9_beyond_31 (by decide) ?_ ?_
        · refine J_aload_n G 1 dX9_beyond_50 rfl ?_
          refine J_getR (d := 150) (k := 0) G cls_9 wf_X9_11 kd_149 rfl rfl dX9_beyond_51 ?_
          refine J_bipush G dX9_beyond_54 (by decide) ?_
          refine J_iload G 5 dX9_beyond_56 rfl ?_
          refine J_iadd G dX9_beyond_58 ?_
          refine J_iald G kd_150 ln_150 dX9_beyond_59 ?_
          refine J_iload_n G 2 dX9_beyond_60 rfl ?_
          refine J_isub G dX9_beyond_61 ?_
          refine J_i2l G dX9_beyond_62 ?_
          refine J_lv [1, 2, 3, 4, 5, 0] rfl ?_
          exact hk63 (s32 ((mem 150 (s32 (17 + i2))) - p0))
        · refine J_iload_n G 2 dX9_beyond_34 rfl ?_
          refine J_aload_n G 1 dX9_beyond_35 rfl ?_
          refine J_getR (d := 150) (k := 0) G cls_9 wf_X9_11 kd_149 rfl rfl dX9_beyond_36 ?_
          refine J_bipush G dX9_beyond_39 (by decide) ?_
          refine J_iload G 5 dX9_beyond_41 rfl ?_
          refine J_iadd G dX9_beyond_43 ?_
          refine J_iald G kd_150 ln_150 dX9_beyond_44 ?_
          refine J_isub G dX9_beyond_45 ?_
          refine J_i2l G dX9_beyond_46 ?_
          refine J_goto 63 G dX9_beyond_47 (by decide) ?_
          refine J_lv [1, 2, 3, 4, 5, 0] rfl ?_
          exact hk63 (s32 (p0 - (mem 150 (s32 (11 + i2)))))
theorem mX9_beyond (u : jU) (p0 : Int) (p1 : Int) (mem : Mem) : jMet u yX9_beyond cX9_beyond 12 (some .long) (jRm 1 21) [vR (uB u) 149, vI p0, vI p1] mem (EpL mem) (Mo_beyond p0 p1 mem) := by
  refine jMet_of (by decide +kernel) (Nat.le_of_ble_eq_true rfl) (fun x G => ?_)
  show J u x 12 (jQ u x (EpL mem)) 0 [(0, vR (uB u) 149), (1, vI p0), (2, vI p1)] [] mem _
  unfold Mo_beyond
  refine J_lconst (v := 0) G dX9_beyond_0 (by decide) ?_
  refine J_lstore_n (lv' := [(3, vL 0), (0, vR (uB u) 149), (1, vI p0), (2, vI p1)]) G dX9_beyond_1 rfl (by decide) rfl ?_
  refine J_iconst G dX9_beyond_2 ?_
  refine J_istore (lv' := [(5, vI 0), (3, vL 0), (0, vR (uB u) 149), (1, vI p0), (2, vI p1)]) G dX9_beyond_3 (by decide) rfl ?_
  refine J_lv [2, 3, 4, 1, 0] rfl ?_
  exact jMo_beyond_L5 G p0 p1 mem 2000 0 0
theorem mX9_gives (u : jU) (p0 : Int) (mem : Mem) : jMet u yX9_gives cX9_gives 4 none (jRm 3 81) [vR (uB u) 149, vI p0] mem EwV (Mo_gives p0 mem) := by
  refine jMet_of (by decide +kernel) (Nat.le_of_ble_eq_true rfl) (fun x G => ?_)
  show J u x 4 (jQ u x EwV) 0 [(0, vR (uB u) 149), (1, vI p0)] [] mem _
  unfold Mo_gives
  refine J_aload_n G 0 dX9_gives_0 rfl ?_
  refine J_iload_n G 1 dX9_gives_1 rfl ?_
  refine J_iconst G dX9_gives_2 ?_
  refine J_isub G dX9_gives_3 ?_
  refine J_cVpI (As := [vI (p0 - 1)]) G (mX9_spanOf u (p0 - 1) mem) sg_X9_spanOf sv_X9_spanOf wm_X9_152 cls_9 kd_149 rfl ⟨by decide, by decide⟩ rfl rfl (Nat.le_of_ble_eq_true rfl) dX9_gives_4 ?_
  intro r1
  refine J_istore_n (lv' := [(2, vI r1), (0, vR (uB u) 149), (1, vI p0)]) G dX9_gives_7 rfl (by decide) rfl ?_
  refine J_aload_n G 1 dX9_gives_8 rfl ?_
  refine J_iload_n G 2 dX9_gives_9 rfl ?_
  refine J_cVpI (As := [vI p0]) G (mX9_spanOf u p0 mem) sg_X9_spanOf sv_X9_spanOf wm_X9_152 cls_9 kd_149 rfl ⟨by decide, by decide⟩ rfl rfl (Nat.le_of_ble_eq_true rfl) dX9_gives_10 ?_
  intro r2
  refine J_istore_n (lv' := [(3, vI r2), (2, vI r1), (0, vR (uB u) 149), (1, vI p0)]) G dX9_gives_13 rfl (by decide) rfl ?_
  refine J_aload_n G 2 dX9_gives_14 rfl ?_
  refine J_aload_n G 2 dX9_gives_15 rfl ?_
  refine J_aload_n G 2 dX9_gives_16 rfl ?_
  refine J_getR (d := 150) (k := 0) G cls_9 wf_X9_11 kd_149 rfl rfl dX9_gives_17 ?_
  refine J_iconst G dX9_gives_20 ?_
  refine J_iload_n G 3 dX9_gives_21 rfl ?_
  refine J_iadd G dX9_gives_22 ?_
  refine J_iconst G dX9_gives_23 ?_
  refine J_isub G dX9_gives_24 ?_
  refine J_iald G kd_150 ln_150 dX9_gives_25 ?_
  refine J_aload_n G 2 dX9_gives_26 rfl ?_
  refine J_getR (d := 150) (k := 0) G cls_9 wf_X9_11 kd_149 rfl rfl dX9_gives_27 ?_
  refine J_iconst G dX9_gives_30 ?_
  refine J_iload_n G 3 dX9_gives_31 rfl ?_
  refine J_iadd G dX9_gives_32 ?_
  refine J_iald G kd_150 ln_150 dX9_gives_33 ?_
  refine J_iconst G dX9_gives_34 ?_
  refine J_cVpL (As := [vI (mem 150 (s32 ((2 + p0) - 1))), vI (mem 150 (s32 (2 + p0))), vI 0]) G (mX9_sums u (mem 150 (s32 ((2 + p0) - 1))) (mem 150 (s32 (2 + p0))) 0 mem) sg_X9_sums sv_X9_sums wm_X9_155 cls_9 kd_149 rfl ⟨by decide, by decide⟩ rfl rfl (Nat.le_of_ble_eq_true rfl) dX9_gives_35 ?_
  intro r3
  refine J_lneg G dX9_gives_38 ?_
  refine J_ldc2 (v := 4) G dX9_gives_39 wc_X9_150 (by decide) ?_
  refine J_iload_n G 1 dX9_gives_42 rfl ?_
  refine J_i2l G dX9_gives_43 ?_
  refine J_lmul G dX9_gives_44 ?_
  refine J_cVwV (As := [vL (-r3), vL (4 * (s32 r1))]) G (mX9_is u (-r3) (4 * (s32 r1)) mem) sg_X9_is sv_X9_is wm_X9_133 cls_9 kd_149 rfl ⟨by decide, by decide⟩ rfl rfl (Nat.le_of_ble_eq_true rfl) dX9_gives_45 ?_
  intro m4
  refine J_aload_n G 2 dX9_gives_48 rfl ?_
  refine J_aload_n G 2 dX9_gives_49 rfl ?_
  refine J_aload_n G 2 dX9_gives_50 rfl ?_
  refine J_getR (d := 150) (k := 0) G cls_9 wf_X9_11 kd_149 rfl rfl dX9_gives_51 ?_
  refine J_iconst G dX9_gives_54 ?_
  refine J_iload_n G 3 dX9_gives_55 rfl ?_
  refine J_iadd G dX9_gives_56 ?_
  refine J_iald G kd_150 ln_150 dX9_gives_57 ?_
  refine J_aload_n G 2 dX9_gives_58 rfl ?_
  refine J_getR (d := 150) (k := 0) G cls_9 wf_X9_11 kd_149 rfl rfl dX9_gives_59 ?_
  refine J_iconst G dX9_gives_62 ?_
  refine J_iload_n G 3 dX9_gives_63 rfl ?_
  refine J_iadd G dX9_gives_64 ?_
  refine J_iconst G dX9_gives_65 ?_
  refine J_iadd G dX9_gives_66 ?_
  refine J_iald G kd_150 ln_150 dX9_gives_67 ?_
  refine J_iconst G dX9_gives_68 ?_
  refine J_cVpL (As := [vI (m4 150 (s32 (2 + p0))), vI (m4 150 (s32 ((2 + p0) + 1))), vI 1]) G (mX9_sums u (m4 150 (s32 (2 + p0))) (m4 150 (s32 ((2 + p0) + 1))) 1 m4) sg_X9_sums sv_X9_sums wm_X9_155 cls_9 kd_149 rfl ⟨by decide, by decide⟩ rfl rfl (Nat.le_of_ble_eq_true rfl) dX9_gives_69 ?_
  intro r5
  refine J_lneg G dX9_gives_72 ?_
  refine J_ldc2 (v := 4) G dX9_gives_73 wc_X9_150 (by decide) ?_
  refine J_iload_n G 0 dX9_gives_76 rfl ?_
  refine J_i2l G dX9_gives_77 ?_
  refine J_lmul G dX9_gives_78 ?_
  refine J_cVwV (As := [vL (-r5), vL (4 * (s32 r2))]) G (mX9_plus u (-r5) (4 * (s32 r2)) m4) sg_X9_plus sv_X9_plus wm_X9_159 cls_9 kd_149 rfl ⟨by decide, by decide⟩ rfl rfl (Nat.le_of_ble_eq_true rfl) dX9_gives_79 ?_
  intro m6
  refine J_iload_n G 3 dX9_gives_82 rfl ?_
  refine J_iconst G dX9_gives_83 ?_
  refine J_jn (fun g => ∀ m7, J u x 4 (jQ u x EwV) 107 [(0, vR (uB u) 149), (1, vI p0), (3, vI r2)] [] m7 (g m7)) ?_ ?_
  · intro m7
    refine J_iload_n G 1 dX9_gives_107 rfl ?_
    refine J_iconst G dX9_gives_108 ?_
    refine J_iadd G dX9_gives_109 ?_
    refine J_aload_n G 0 dX9_gives_110 rfl ?_
    refine J_getR (d := 150) (k := 0) G cls_9 wf_X9_11 kd_149 rfl rfl dX9_gives_111 ?_
    refine J_iconst G dX9_gives_114 ?_
    refine J_ialdC G kd_150 ln_150 (by decide) dX9_gives_115 ?_
    refine J_iconst G dX9_gives_116 ?_
    refine J_isub G dX9_gives_117 ?_
    refine J_jn (fun g => ∀ m8, J u x 4 (jQ u x EwV) 145 [(0, vR (uB u) 149), (1, vI p0)] [] m8 (g m8)) ?_ ?_
    · intro m8
      refine J_aload_n G 0 dX9_gives_145 rfl ?_
      refine J_getR (d := 155) (k := 9) G cls_9 wf_X9_32 kd_149 rfl rfl dX9_gives_146 ?_
      refine J_iload_n G 1 dX9_gives_149 rfl ?_
      refine J_iconst G dX9_gives_150 ?_
      refine J_isub G dX9_gives_151 ?_
      refine J_aload_n G 0 dX9_gives_152 rfl ?_
      refine J_getL (i := 5) (k := 5) G cls_9 wf_X9_130 kd_149 rfl rfl dX9_gives_153 ?_
      refine J_last G kd_155 ln_155 dX9_gives_156 ?_
      refine J_ltM (fun m9 => ?_)
      refine J_aload_n G 0 dX9_gives_157 rfl ?_
      refine J_getR (d := 156) (k := 10) G cls_9 wf_X9_35 kd_149 rfl rfl dX9_gives_158 ?_
      refine J_iload_n G 1 dX9_gives_161 rfl ?_
      refine J_iconst G dX9_gives_162 ?_
      refine J_isub G dX9_gives_163 ?_
      refine J_aload_n G 0 dX9_gives_164 rfl ?_
      refine J_getL (i := 6) (k := 6) G cls_9 wf_X9_21 kd_149 rfl rfl dX9_gives_165 ?_
      refine J_last G kd_156 ln_156 dX9_gives_168 ?_
      refine J_ltM (fun m10 => ?_)
      exact J_vret G dX9_gives_169 rfl
    · intro k145 hk145
      refine J_icmp_ne 145 G dX9_gives_118 (by decide) ?_ ?_
      · refine J_lv [0, 1] rfl ?_
        exact hk145 m7
      · refine J_aload_n G 0 dX9_gives_121 rfl ?_
        refine J_iload_n G 2 dX9_gives_122 rfl ?_
        refine J_ineg G dX9_gives_123 ?_
        refine J_i2l G dX9_gives_124 ?_
        refine J_aload_n G 0 dX9_gives_125 rfl ?_
        refine J_getR (d := 153) (k := 7) G cls_9 wf_X9_25 kd_149 rfl rfl dX9_gives_126 ?_
        refine J_iload_n G 1 dX9_gives_129 rfl ?_
        refine J_iconst G dX9_gives_130 ?_
        refine J_iadd G dX9_gives_131 ?_
        refine J_lald G kd_153 ln_153 dX9_gives_132 ?_
        refine J_lmul G dX9_gives_133 ?_
        refine J_aload_n G 0 dX9_gives_134 rfl ?_
        refine J_getR (d := 154) (k := 8) G cls_9 wf_X9_29 kd_149 rfl rfl dX9_gives_135 ?_
        refine J_iload_n G 1 dX9_gives_138 rfl ?_
        refine J_iconst G dX9_gives_139 ?_
        refine J_iadd G dX9_gives_140 ?_
        refine J_lald G kd_154 ln_154 dX9_gives_141 ?_
        refine J_cVwV (As := [vL ((s32 (-r2)) * (m7 153 (s32 (p0 + 1)))), vL (m7 154 (s32 (p0 + 1)))]) G (mX9_plus u ((s32 (-r2)) * (m7 153 (s32 (p0 + 1)))) (m7 154 (s32 (p0 + 1))) m7) sg_X9_plus sv_X9_plus wm_X9_159 cls_9 kd_149 rfl ⟨by decide, by decide⟩ rfl rfl (Nat.le_of_ble_eq_true rfl) dX9_gives_142 ?_
        intro m11
        refine J_lv [0, 1] rfl ?_
        exact hk145 m11
  · intro k107 hk107
    refine J_icmp_ne 107 G dX9_gives_84 (by decide) ?_ ?_
    · refine J_lv [2, 3, 0] rfl ?_
      exact hk107 m6
    · refine J_aload_n G 2 dX9_gives_87 rfl ?_
      refine J_iload_n G 1 dX9_gives_88 rfl ?_
      refine J_ineg G dX9_gives_89 ?_
      refine J_i2l G dX9_gives_90 ?_
      refine J_aload_n G 2 dX9_gives_91 rfl ?_
      refine J_getR (d := 153) (k := 7) G cls_9 wf_X9_25 kd_149 rfl rfl dX9_gives_92 ?_
      refine J_iconst G dX9_gives_95 ?_
      refine J_laldC G kd_153 ln_153 (by decide) dX9_gives_96 ?_
      refine J_lmul G dX9_gives_97 ?_
      refine J_aload_n G 2 dX9_gives_98 rfl ?_
      refine J_getR (d := 154) (k := 8) G cls_9 wf_X9_29 kd_149 rfl rfl dX9_gives_99 ?_
      refine J_iconst G dX9_gives_102 ?_
      refine J_laldC G kd_154 ln_154 (by decide) dX9_gives_103 ?_
      refine J_cVwV (As := [vL ((s32 (-r1)) * (m6 153 0)), vL (m6 154 0)]) G (mX9_plus u ((s32 (-r1)) * (m6 153 0)) (m6 154 0) m6) sg_X9_plus sv_X9_plus wm_X9_159 cls_9 kd_149 rfl ⟨by decide, by decide⟩ rfl rfl (Nat.le_of_ble_eq_true rfl) dX9_gives_104 ?_
      intro m12
      refine J_lv [2, 3, 0] rfl ?_
      exact hk107 m12
theorem mX9_keeps (u : jU) (p0 : Int) (mem : Mem) : jMet u yX9_keeps cX9_keeps 2 none (jRm 0 0) [vR (uB u) 149, vI p0] mem EwV (Mo_keeps p0 mem) := by
  refine jMet_of (by decide +kernel) (Nat.le_of_ble_eq_true rfl) (fun x G => ?_)
  show J u x 2 (jQ u x EwV) 0 [(0, vR (uB u) 149), (1, vI p0)] [] mem _
  unfold Mo_keeps
  refine J_aload_n G 0 dX9_keeps_0 rfl ?_
  refine J_getR (d := 153) (k := 7) G cls_9 wf_X9_25 kd_149 rfl rfl dX9_keeps_1 ?_
  refine J_iload_n G 1 dX9_keeps_4 rfl ?_
  refine J_aload_n G 0 dX9_keeps_5 rfl ?_
  refine J_getL (i := 5) (k := 5) G cls_9 wf_X9_130 kd_149 rfl rfl dX9_keeps_6 ?_
  refine J_last G kd_153 ln_153 dX9_keeps_9 ?_
  refine J_ltM (fun m1 => ?_)
  refine J_aload_n G 0 dX9_keeps_10 rfl ?_
  refine J_getR (d := 154) (k := 8) G cls_9 wf_X9_29 kd_149 rfl rfl dX9_keeps_11 ?_
  refine J_iload_n G 1 dX9_keeps_14 rfl ?_
  refine J_aload_n G 0 dX9_keeps_15 rfl ?_
  refine J_getL (i := 6) (k := 6) G cls_9 wf_X9_21 kd_149 rfl rfl dX9_keeps_16 ?_
  refine J_last G kd_154 ln_154 dX9_keeps_19 ?_
  refine J_ltM (fun m2 => ?_)
  exact J_vret G dX9_keeps_20 rfl
theorem mX9_isLoose (u : jU) (p0 : Int) (mem : Mem) : jMet u yX9_isLoose cX9_isLoose 2 (some .boolean) (jRm 0 0) [vR (uB u) 149, vI p0] mem (EpI mem) (Mo_isLoose p0 mem) := by
  refine jMet_of (by decide +kernel) (Nat.le_of_ble_eq_true rfl) (fun x G => ?_)
  show J u x 2 (jQ u x (EpI mem)) 0 [(0, vR (uB u) 149), (1, vI p0)] [] mem _
  unfold Mo_isLoose
  refine J_aload_n G 0 dX9_isLoose_0 rfl ?_
  refine J_getR (d := 150) (k := 0) G cls_9 wf_X9_11 kd_149 rfl rfl dX9_isLoose_1 ?_
  refine J_bipush G dX9_isLoose_4 (by decide) ?_
  refine J_iload_n G 1 dX9_isLoose_6 rfl ?_
  refine J_iadd G dX9_isLoose_7 ?_
  refine J_iald G kd_150 ln_150 dX9_isLoose_8 ?_
  refine J_iconst G dX9_isLoose_9 ?_
  refine J_icmp_ne 17 G dX9_isLoose_10 (by decide) ?_ ?_
  · refine J_iconst G dX9_isLoose_17 ?_
    exact J_zret G dX9_isLoose_18 (by decide) rfl
  · refine J_iconst G dX9_isLoose_13 ?_
    refine J_goto 18 G dX9_isLoose_14 (by decide) ?_
    exact J_zret G dX9_isLoose_18 (by decide) rfl
theorem mX9_alone (u : jU) (p0 : Int) (mem : Mem) : jMet u yX9_alone cX9_alone 3 none (jRm 2 55) [vR (uB u) 149, vI p0] mem EwV (Mo_alone p0 mem) := by
  refine jMet_of (by decide +kernel) (Nat.le_of_ble_eq_true rfl) (fun x G => ?_)
  show J u x 3 (jQ u x EwV) 0 [(0, vR (uB u) 149), (1, vI p0)] [] mem _
  unfold Mo_alone
  refine J_iconst G dX9_alone_0 ?_
  refine J_aload_n G 0 dX9_alone_1 rfl ?_
  refine J_iload_n G 1 dX9_alone_2 rfl ?_
  refine J_iconst G dX9_alone_3 ?_
  refine J_isub G dX9_alone_4 ?_
  refine J_cVpI (As := [vI (p0 - 1)]) G (mX9_spanOf u (p0 - 1) mem) sg_X9_spanOf sv_X9_spanOf wm_X9_152 cls_9 kd_149 rfl ⟨by decide, by decide⟩ rfl rfl (Nat.le_of_ble_eq_true rfl) dX9_alone_5 ?_
  intro r1
  refine J_aload_n G 0 dX9_alone_8 rfl ?_
  refine J_iload_n G 1 dX9_alone_9 rfl ?_
  refine J_cVpI (As := [vI p0]) G (mX9_spanOf u p0 mem) sg_X9_spanOf sv_X9_spanOf wm_X9_152 cls_9 kd_149 rfl ⟨by decide, by decide⟩ rfl rfl (Nat.le_of_ble_eq_true rfl) dX9_alone_10 ?_
  intro r2
  refine J_iadd G dX9_alone_13 ?_
  refine J_imul G dX9_alone_14 ?_
  refine J_ltI (fun x3 => ?_)
  refine J_istore_n (lv' := [(2, vI x3), (0, vR (uB u) 149), (1, vI p0)]) G dX9_alone_15 rfl (by decide) rfl ?_
  refine J_aload_n G 1 dX9_alone_16 rfl ?_
  refine J_aload_n G 1 dX9_alone_17 rfl ?_
  refine J_iload_n G 2 dX9_alone_18 rfl ?_
  refine J_cVpI (As := [vI p0]) G (mX9_isLoose u p0 mem) sg_X9_isLoose sv_X9_isLoose wm_X9_162 cls_9 kd_149 rfl ⟨by decide, by decide⟩ rfl rfl (Nat.le_of_ble_eq_true rfl) dX9_alone_19 ?_
  intro r4
  refine J_jn (fun g => ∀ x5, J u x 3 (jQ u x EwV) 37 [(0, vR (uB u) 149), (1, vI p0), (2, vI x3)] [vL x5, vR (uB u) 149] mem (g x5)) ?_ ?_
  · intro x5
    refine J_aload_n G 0 dX9_alone_37 rfl ?_
    refine J_iload_n G 1 dX9_alone_38 rfl ?_
    refine J_cVpI (As := [vI p0]) G (mX9_isLoose u p0 mem) sg_X9_isLoose sv_X9_isLoose wm_X9_162 cls_9 kd_149 rfl ⟨by decide, by decide⟩ rfl rfl (Nat.le_of_ble_eq_true rfl) dX9_alone_39 ?_
    intro r6
    refine J_jn (fun g => ∀ x7, J u x 3 (jQ u x EwV) 60 [(0, vR (uB u) 149), (1, vI p0)] [vL x7, vL x5, vR (uB u) 149] mem (g x7)) ?_ ?_
    · intro x7
      refine J_cVwV (As := [vL x5, vL x7]) G (mX9_is u x5 x7 mem) sg_X9_is sv_X9_is wm_X9_133 cls_9 kd_149 rfl ⟨by decide, by decide⟩ rfl rfl (Nat.le_of_ble_eq_true rfl) dX9_alone_60 ?_
      intro m8
      refine J_aload_n G 0 dX9_alone_63 rfl ?_
      refine J_iload_n G 1 dX9_alone_64 rfl ?_
      refine J_cVwV (As := [vI p0]) G (mX9_keeps u p0 m8) sg_X9_keeps sv_X9_keeps wm_X9_165 cls_9 kd_149 rfl ⟨by decide, by decide⟩ rfl rfl (Nat.le_of_ble_eq_true rfl) dX9_alone_65 ?_
      intro m9
      exact J_vret G dX9_alone_68 rfl
    · intro k60 hk60
      refine J_if_eq 49 G dX9_alone_42 (by decide) ?_ ?_
      · refine J_aload_n G 0 dX9_alone_49 rfl ?_
        refine J_getR (d := 156) (k := 10) G cls_9 wf_X9_35 kd_149 rfl rfl dX9_alone_50 ?_
        refine J_iload_n G 1 dX9_alone_53 rfl ?_
        refine J_iconst G dX9_alone_54 ?_
        refine J_isub G dX9_alone_55 ?_
        refine J_lald G kd_156 ln_156 dX9_alone_56 ?_
        refine J_iload_n G 2 dX9_alone_57 rfl ?_
        refine J_i2l G dX9_alone_58 ?_
        refine J_lmul G dX9_alone_59 ?_
        refine J_lv [0, 1] rfl ?_
        exact hk60 ((mem 156 (s32 (p0 - 1))) * (s32 x3))
      · refine J_lconst (v := 1) G dX9_alone_45 (by decide) ?_
        refine J_goto 60 G dX9_alone_46 (by decide) ?_
        refine J_lv [0, 1] rfl ?_
        exact hk60 1
  · intro k37 hk37
    refine J_if_eq 29 G dX9_alone_22 (by decide) ?_ ?_
    · refine J_aload_n G 1 dX9_alone_29 rfl ?_
      refine J_getR (d := 155) (k := 9) G cls_9 wf_X9_32 kd_149 rfl rfl dX9_alone_30 ?_
      refine J_iload_n G 2 dX9_alone_33 rfl ?_
      refine J_iconst G dX9_alone_34 ?_
      refine J_isub G dX9_alone_35 ?_
      refine J_lald G kd_155 ln_155 dX9_alone_36 ?_
      refine J_lv [1, 2, 0] rfl ?_
      exact hk37 (mem 155 (s32 (p0 - 1)))
    · refine J_lconst (v := 0) G dX9_alone_25 (by decide) ?_
      refine J_goto 37 G dX9_alone_26 (by decide) ?_
      refine J_lv [1, 2, 0] rfl ?_
      exact hk37 0
theorem jMo_moments_L107 {u : jU} {x : jX} (G : jG u x cX9_moments RX9 10 none (jRm 4 104)) (x1 : Int) : ∀ (n : Nat) (i9 : Int) (m10 : Mem), J u x 10 (jQ u x EwV) 107 [(0, vR (uB u) 149), (1, vI x1), (2, vI i9)] [] m10 (Mo_moments_L107 x1 n i9 m10) := by
  intro n
  induction n with
  | zero => intro i9 m10; exact J_none
  | succ n ih =>
    intro i9 m10
    rw [Mo_moments_L107]
    refine J_iload_n G 2 dX9_moments_107 rfl ?_
    refine J_iload_n G 1 dX9_moments_108 rfl ?_
    refine J_iconst G dX9_moments_109 ?_
    refine J_isub G dX9_moments_110 ?_
    refine J_icmp_ge 125 G dX9_moments_111 (by decide) ?_ ?_
    · refine J_goto 287 G dX9_moments_125 (by decide) ?_
      exact J_vret G dX9_moments_287 rfl
    · refine J_aload_n G 0 dX9_moments_114 rfl ?_
      refine J_iload_n G 2 dX9_moments_115 rfl ?_
      refine J_cVwV (As := [vI i9]) G (mX9_alone u i9 m10) sg_X9_alone sv_X9_alone wm_X9_176 cls_9 kd_149 rfl ⟨by decide, by decide⟩ rfl rfl (Nat.le_of_ble_eq_true rfl) dX9_moments_116 ?_
      intro m11
      refine J_iinc (lv' := [(2, vI (i9 + 1)), (0, vR (uB u) 149), (1, vI x1)]) G 2 dX9_moments_119 rfl (by decide) rfl ?_
      refine J_goto 107 G dX9_moments_122 (by decide) ?_
      refine J_lv [1, 2, 0] rfl ?_
      exact ih (i9 + 1) m11
theorem jMo_moments_L61 {u : jU} {x : jX} (G : jG u x cX9_moments RX9 10 none (jRm 4 104)) (x1 : Int) (k79 : Mem → Option Mem) (hk79 : (fun g => ∀ m8, J u x 10 (jQ u x EwV) 79 [(0, vR (uB u) 149), (1, vI x1)] [] m8 (g m8)) k79) : ∀ (n : Nat) (i29 : Int) (m30 : Mem), J u x 10 (jQ u x EwV) 61 [(0, vR (uB u) 149), (1, vI x1), (2, vI i29)] [] m30 (Mo_moments_L61 x1 k79 n i29 m30) := by
  intro n
  induction n with
  | zero => intro i29 m30; exact J_none
  | succ n ih =>
    intro i29 m30
    rw [Mo_moments_L61]
    refine J_iload_n G 2 dX9_moments_61 rfl ?_
    refine J_iload_n G 1 dX9_moments_62 rfl ?_
    refine J_iconst G dX9_moments_63 ?_
    refine J_isub G dX9_moments_64 ?_
    refine J_icmp_ge 79 G dX9_moments_65 (by decide) ?_ ?_
    · refine J_lv [0, 1] rfl ?_
      exact hk79 m30
    · refine J_aload_n G 0 dX9_moments_68 rfl ?_
      refine J_iload_n G 2 dX9_moments_69 rfl ?_
      refine J_cVwV (As := [vI i29]) G (mX9_gives u i29 m30) sg_X9_gives sv_X9_gives wm_X9_173 cls_9 kd_149 rfl ⟨by decide, by decide⟩ rfl rfl (Nat.le_of_ble_eq_true rfl) dX9_moments_70 ?_
      intro m31
      refine J_iinc (lv' := [(2, vI (i29 + 1)), (0, vR (uB u) 149), (1, vI x1)]) G 2 dX9_moments_73 rfl (by decide) rfl ?_
      refine J_goto 61 G dX9_moments_76 (by decide) ?_
      refine J_lv [1, 2, 0] rfl ?_
      exact ih (i29 + 1) m31
theorem mX9_moments (u : jU) (mem : Mem) : jMet u yX9_moments cX9_moments 10 none (jRm 4 104) [vR (uB u) 149] mem EwV (Mo_moments mem) := by
  refine jMet_of (by decide +kernel) (Nat.le_of_ble_eq_true rfl) (fun x G => ?_)
  show J u x 10 (jQ u x EwV) 0 [(0, vR (uB u) 149)] [] mem _
  unfold Mo_moments
  refine J_aload_n G 0 dX9_moments_0 rfl ?_
  refine J_getR (d := 150) (k := 0) G cls_9 wf_X9_11 kd_149 rfl rfl dX9_moments_1 ?_
  refine J_iconst G dX9_moments_4 ?_
  refine J_ialdC G kd_150 ln_150 (by decide) dX9_moments_5 ?_
  refine J_ltI (fun x1 => ?_)
  refine J_istore_n (lv' := [(1, vI x1), (0, vR (uB u) 149)]) G dX9_moments_6 rfl (by decide) rfl ?_
  refine J_aload_n G 1 dX9_moments_7 rfl ?_
  refine J_aload_n G 1 dX9_moments_8 rfl ?_
  refine J_aload_n G 1 dX9_moments_9 rfl ?_
  refine J_getR (d := 150) (k := 0) G cls_9 wf_X9_11 kd_149 rfl rfl dX9_moments_10 ?_
  refine J_iconst G dX9_moments_13 ?_
  refine J_ialdC G kd_150 ln_150 (by decide) dX9_moments_14 ?_
  refine J_iconst G dX9_moments_15 ?_
  refine J_cVpL (As := [vI (mem 150 2), vI 1]) G (mX9_beyond u (mem 150 2) 1 mem) sg_X9_beyond sv_X9_beyond wm_X9_169 cls_9 kd_149 rfl ⟨by decide, by decide⟩ rfl rfl (Nat.le_of_ble_eq_true rfl) dX9_moments_16 ?_
  intro r2
  refine J_ldc2 (v := 2) G dX9_moments_19 wc_X9_86 (by decide) ?_
  refine J_cVwV (As := [vL r2, vL 2]) G (mX9_is u r2 2 mem) sg_X9_is sv_X9_is wm_X9_133 cls_9 kd_149 rfl ⟨by decide, by decide⟩ rfl rfl (Nat.le_of_ble_eq_true rfl) dX9_moments_22 ?_
  intro m3
  refine J_aload_n G 1 dX9_moments_25 rfl ?_
  refine J_iconst G dX9_moments_26 ?_
  refine J_cVwV (As := [vI 0]) G (mX9_keeps u 0 m3) sg_X9_keeps sv_X9_keeps wm_X9_165 cls_9 kd_149 rfl ⟨by decide, by decide⟩ rfl rfl (Nat.le_of_ble_eq_true rfl) dX9_moments_27 ?_
  intro m4
  refine J_aload_n G 1 dX9_moments_30 rfl ?_
  refine J_aload_n G 1 dX9_moments_31 rfl ?_
  refine J_aload_n G 1 dX9_moments_32 rfl ?_
  refine J_getR (d := 150) (k := 0) G cls_9 wf_X9_11 kd_149 rfl rfl dX9_moments_33 ?_
  refine J_iconst G dX9_moments_36 ?_
  refine J_iload_n G 0 dX9_moments_37 rfl ?_
  refine J_iadd G dX9_moments_38 ?_
  refine J_iconst G dX9_moments_39 ?_
  refine J_isub G dX9_moments_40 ?_
  refine J_iald G kd_150 ln_150 dX9_moments_41 ?_
  refine J_iconst G dX9_moments_42 ?_
  refine J_cVpL (As := [vI (m4 150 (s32 ((2 + x1) - 1))), vI 0]) G (mX9_beyond u (m4 150 (s32 ((2 + x1) - 1))) 0 m4) sg_X9_beyond sv_X9_beyond wm_X9_169 cls_9 kd_149 rfl ⟨by decide, by decide⟩ rfl rfl (Nat.le_of_ble_eq_true rfl) dX9_moments_43 ?_
  intro r5
  refine J_ldc2 (v := 2) G dX9_moments_46 wc_X9_86 (by decide) ?_
  refine J_cVwV (As := [vL r5, vL 2]) G (mX9_is u r5 2 m4) sg_X9_is sv_X9_is wm_X9_133 cls_9 kd_149 rfl ⟨by decide, by decide⟩ rfl rfl (Nat.le_of_ble_eq_true rfl) dX9_moments_49 ?_
  intro m6
  refine J_aload_n G 1 dX9_moments_52 rfl ?_
  refine J_iload_n G 0 dX9_moments_53 rfl ?_
  refine J_iconst G dX9_moments_54 ?_
  refine J_isub G dX9_moments_55 ?_
  refine J_cVwV (As := [vI (x1 - 1)]) G (mX9_keeps u (x1 - 1) m6) sg_X9_keeps sv_X9_keeps wm_X9_165 cls_9 kd_149 rfl ⟨by decide, by decide⟩ rfl rfl (Nat.le_of_ble_eq_true rfl) dX9_moments_56 ?_
  intro m7
  refine J_iconst G dX9_moments_59 ?_
  refine J_istore_n (lv' := [(2, vI 1), (1, vI x1), (0, vR (uB u) 149)]) G dX9_moments_60 rfl (by decide) rfl ?_
  refine J_jn (fun g => ∀ m8, J u x 10 (jQ u x EwV) 79 [(0, vR (uB u) 149), (1, vI x1)] [] m8 (g m8)) ?_ ?_
  · intro m8
    refine J_iload_n G 1 dX9_moments_79 rfl ?_
    refine J_iconst G dX9_moments_80 ?_
    refine J_jn (fun g => J u x 10 (jQ u x EwV) 105 [(0, vR (uB u) 149), (1, vI x1)] [] m8 (g)) ?_ ?_
    · skip
      refine J_iconst G dX9_moments_105 ?_
      refine J_istore_n (lv' := [(2, vI 1), (0, vR (uB u) 149), (1, vI x1)]) G dX9_moments_106 rfl (by decide) rfl ?_
      refine J_lv [1, 2, 0] rfl ?_
      exact jMo_moments_L107 G x1 2000 1 m8
    · intro k105 hk105
      refine J_icmp_eq 105 G dX9_moments_81 (by decide) ?_ ?_
      · exact hk105
      · refine J_iload_n G 1 dX9_moments_84 rfl ?_
        refine J_iconst G dX9_moments_85 ?_
        refine J_jn (fun g => J u x 10 (jQ u x EwV) 128 [(0, vR (uB u) 149), (1, vI x1)] [] m8 (g)) ?_ ?_
        · skip
          refine J_iload_n G 1 dX9_moments_128 rfl ?_
          refine J_iconst G dX9_moments_129 ?_
          refine J_icmp_ne 287 G dX9_moments_130 (by decide) ?_ ?_
          · exact J_vret G dX9_moments_287 rfl
          · refine J_ldc2 (v := 2) G dX9_moments_133 wc_X9_86 (by decide) ?_
            refine J_aload_n G 0 dX9_moments_136 rfl ?_
            refine J_iconst G dX9_moments_137 ?_
            refine J_cVpI (As := [vI 0]) G (mX9_spanOf u 0 m8) sg_X9_spanOf sv_X9_spanOf wm_X9_152 cls_9 kd_149 rfl ⟨by decide, by decide⟩ rfl rfl (Nat.le_of_ble_eq_true rfl) dX9_moments_138 ?_
            intro r12
            refine J_aload_n G 0 dX9_moments_141 rfl ?_
            refine J_iconst G dX9_moments_142 ?_
            refine J_cVpI (As := [vI 1]) G (mX9_spanOf u 1 m8) sg_X9_spanOf sv_X9_spanOf wm_X9_152 cls_9 kd_149 rfl ⟨by decide, by decide⟩ rfl rfl (Nat.le_of_ble_eq_true rfl) dX9_moments_143 ?_
            intro r13
            refine J_iadd G dX9_moments_146 ?_
            refine J_i2l G dX9_moments_147 ?_
            refine J_lmul G dX9_moments_148 ?_
            refine J_ltL (fun x14 => ?_)
            refine J_lstore_n (lv' := [(2, vL x14), (0, vR (uB u) 149), (1, vI x1)]) G dX9_moments_149 rfl (by decide) rfl ?_
            refine J_aload_n G 1 dX9_moments_150 rfl ?_
            refine J_iconst G dX9_moments_151 ?_
            refine J_cVpI (As := [vI 1]) G (mX9_spanOf u 1 m8) sg_X9_spanOf sv_X9_spanOf wm_X9_152 cls_9 kd_149 rfl ⟨by decide, by decide⟩ rfl rfl (Nat.le_of_ble_eq_true rfl) dX9_moments_152 ?_
            intro r15
            refine J_i2l G dX9_moments_155 ?_
            refine J_ltL (fun x16 => ?_)
            refine J_lstore (lv' := [(4, vL x16), (2, vL x14), (0, vR (uB u) 149), (1, vI x1)]) G dX9_moments_156 (by decide) rfl ?_
            refine J_ldc2 (v := 2) G dX9_moments_158 wc_X9_86 (by decide) ?_
            refine J_aload_n G 2 dX9_moments_161 rfl ?_
            refine J_iconst G dX9_moments_162 ?_
            refine J_cVpI (As := [vI 1]) G (mX9_spanOf u 1 m8) sg_X9_spanOf sv_X9_spanOf wm_X9_152 cls_9 kd_149 rfl ⟨by decide, by decide⟩ rfl rfl (Nat.le_of_ble_eq_true rfl) dX9_moments_163 ?_
            intro r17
            refine J_aload_n G 2 dX9_moments_166 rfl ?_
            refine J_iconst G dX9_moments_167 ?_
            refine J_cVpI (As := [vI 2]) G (mX9_spanOf u 2 m8) sg_X9_spanOf sv_X9_spanOf wm_X9_152 cls_9 kd_149 rfl ⟨by decide, by decide⟩ rfl rfl (Nat.le_of_ble_eq_true rfl) dX9_moments_168 ?_
            intro r18
            refine J_iadd G dX9_moments_171 ?_
            refine J_i2l G dX9_moments_172 ?_
            refine J_lmul G dX9_moments_173 ?_
            refine J_ltL (fun x19 => ?_)
            refine J_lstore (lv' := [(6, vL x19), (4, vL x16), (2, vL x14), (0, vR (uB u) 149), (1, vI x1)]) G dX9_moments_174 (by decide) rfl ?_
            refine J_lload_n G 2 dX9_moments_176 rfl ?_
            refine J_lload G 0 dX9_moments_177 rfl ?_
            refine J_lmul G dX9_moments_179 ?_
            refine J_lload G 1 dX9_moments_180 rfl ?_
            refine J_lload G 1 dX9_moments_182 rfl ?_
            refine J_lmul G dX9_moments_184 ?_
            refine J_lsub G dX9_moments_185 ?_
            refine J_ltL (fun x20 => ?_)
            refine J_lstore (lv' := [(8, vL x20), (6, vL x19), (4, vL x16), (2, vL x14), (0, vR (uB u) 149), (1, vI x1)]) G dX9_moments_186 (by decide) rfl ?_
            refine J_aload_n G 4 dX9_moments_188 rfl ?_
            refine J_lload G 1 dX9_moments_189 rfl ?_
            refine J_aload_n G 4 dX9_moments_191 rfl ?_
            refine J_getR (d := 155) (k := 9) G cls_9 wf_X9_32 kd_149 rfl rfl dX9_moments_192 ?_
            refine J_iconst G dX9_moments_195 ?_
            refine J_laldC G kd_155 ln_155 (by decide) dX9_moments_196 ?_
            refine J_lmul G dX9_moments_197 ?_
            refine J_aload_n G 4 dX9_moments_198 rfl ?_
            refine J_getR (d := 156) (k := 10) G cls_9 wf_X9_35 kd_149 rfl rfl dX9_moments_199 ?_
            refine J_iconst G dX9_moments_202 ?_
            refine J_laldC G kd_156 ln_156 (by decide) dX9_moments_203 ?_
            refine J_lload G 0 dX9_moments_204 rfl ?_
            refine J_lmul G dX9_moments_206 ?_
            refine J_cVwV (As := [vL (x19 * (m8 155 0)), vL ((m8 156 0) * x20)]) G (mX9_is u (x19 * (m8 155 0)) ((m8 156 0) * x20) m8) sg_X9_is sv_X9_is wm_X9_133 cls_9 kd_149 rfl ⟨by decide, by decide⟩ rfl rfl (Nat.le_of_ble_eq_true rfl) dX9_moments_207 ?_
            intro m21
            refine J_aload_n G 4 dX9_moments_210 rfl ?_
            refine J_lload G 2 dX9_moments_211 rfl ?_
            refine J_lneg G dX9_moments_213 ?_
            refine J_aload_n G 4 dX9_moments_214 rfl ?_
            refine J_getR (d := 155) (k := 9) G cls_9 wf_X9_32 kd_149 rfl rfl dX9_moments_215 ?_
            refine J_iconst G dX9_moments_218 ?_
            refine J_laldC G kd_155 ln_155 (by decide) dX9_moments_219 ?_
            refine J_lmul G dX9_moments_220 ?_
            refine J_aload_n G 4 dX9_moments_221 rfl ?_
            refine J_getR (d := 156) (k := 10) G cls_9 wf_X9_35 kd_149 rfl rfl dX9_moments_222 ?_
            refine J_iconst G dX9_moments_225 ?_
            refine J_laldC G kd_156 ln_156 (by decide) dX9_moments_226 ?_
            refine J_lload G 0 dX9_moments_227 rfl ?_
            refine J_lmul G dX9_moments_229 ?_
            refine J_cVwV (As := [vL ((-x16) * (m21 155 1)), vL ((m21 156 1) * x20)]) G (mX9_plus u ((-x16) * (m21 155 1)) ((m21 156 1) * x20) m21) sg_X9_plus sv_X9_plus wm_X9_159 cls_9 kd_149 rfl ⟨by decide, by decide⟩ rfl rfl (Nat.le_of_ble_eq_true rfl) dX9_moments_230 ?_
            intro m22
            refine J_aload_n G 4 dX9_moments_233 rfl ?_
            refine J_iconst G dX9_moments_234 ?_
            refine J_cVwV (As := [vI 1]) G (mX9_keeps u 1 m22) sg_X9_keeps sv_X9_keeps wm_X9_165 cls_9 kd_149 rfl ⟨by decide, by decide⟩ rfl rfl (Nat.le_of_ble_eq_true rfl) dX9_moments_235 ?_
            intro m23
            refine J_aload_n G 4 dX9_moments_238 rfl ?_
            refine J_lload_n G 3 dX9_moments_239 rfl ?_
            refine J_aload_n G 4 dX9_moments_240 rfl ?_
            refine J_getR (d := 155) (k := 9) G cls_9 wf_X9_32 kd_149 rfl rfl dX9_moments_241 ?_
            refine J_iconst G dX9_moments_244 ?_
            refine J_laldC G kd_155 ln_155 (by decide) dX9_moments_245 ?_
            refine J_lmul G dX9_moments_246 ?_
            refine J_aload_n G 4 dX9_moments_247 rfl ?_
            refine J_getR (d := 156) (k := 10) G cls_9 wf_X9_35 kd_149 rfl rfl dX9_moments_248 ?_
            refine J_iconst G dX9_moments_251 ?_
            refine J_laldC G kd_156 ln_156 (by decide) dX9_moments_252 ?_
            refine J_lload G 0 dX9_moments_253 rfl ?_
            refine J_lmul G dX9_moments_255 ?_
            refine J_cVwV (As := [vL (x14 * (m23 155 1)), vL ((m23 156 1) * x20)]) G (mX9_is u (x14 * (m23 155 1)) ((m23 156 1) * x20) m23) sg_X9_is sv_X9_is wm_X9_133 cls_9 kd_149 rfl ⟨by decide, by decide⟩ rfl rfl (Nat.le_of_ble_eq_true rfl) dX9_moments_256 ?_
            intro m24
            refine J_aload_n G 4 dX9_moments_259 rfl ?_
            refine J_lload G 2 dX9_moments_260 rfl ?_
            refine J_lneg G dX9_moments_262 ?_
            refine J_aload_n G 4 dX9_moments_263 rfl ?_
            refine J_getR (d := 155) (k := 9) G cls_9 wf_X9_32 kd_149 rfl rfl dX9_moments_264 ?_
            refine J_iconst G dX9_moments_267 ?_
            refine J_laldC G kd_155 ln_155 (by decide) dX9_moments_268 ?_
            refine J_lmul G dX9_moments_269 ?_
            refine J_aload_n G 4 dX9_moments_270 rfl ?_
            refine J_getR (d := 156) (k := 10) G cls_9 wf_X9_35 kd_149 rfl rfl dX9_moments_271 ?_
            refine J_iconst G dX9_moments_274 ?_
            refine J_laldC G kd_156 ln_156 (by decide) dX9_moments_275 ?_
            refine J_lload G 0 dX9_moments_276 rfl ?_
            refine J_lmul G dX9_moments_278 ?_
            refine J_cVwV (As := [vL ((-x16) * (m24 155 0)), vL ((m24 156 0) * x20)]) G (mX9_plus u ((-x16) * (m24 155 0)) ((m24 156 0) * x20) m24) sg_X9_plus sv_X9_plus wm_X9_159 cls_9 kd_149 rfl ⟨by decide, by decide⟩ rfl rfl (Nat.le_of_ble_eq_true rfl) dX9_moments_279 ?_
            intro m25
            refine J_aload_n G 4 dX9_moments_282 rfl ?_
            refine J_iconst G dX9_moments_283 ?_
            refine J_cVwV (As := [vI 2]) G (mX9_keeps u 2 m25) sg_X9_keeps sv_X9_keeps wm_X9_165 cls_9 kd_149 rfl ⟨by decide, by decide⟩ rfl rfl (Nat.le_of_ble_eq_true rfl) dX9_moments_284 ?_
            intro m26
            exact J_vret G dX9_moments_287 rfl
        · intro k128 hk128
          refine J_icmp_ne 128 G dX9_moments_86 (by decide) ?_ ?_
          · exact hk128
          · refine J_aload_n G 0 dX9_moments_89 rfl ?_
            refine J_iconst G dX9_moments_90 ?_
            refine J_cVpI (As := [vI 1]) G (mX9_isLoose u 1 m8) sg_X9_isLoose sv_X9_isLoose wm_X9_162 cls_9 kd_149 rfl ⟨by decide, by decide⟩ rfl rfl (Nat.le_of_ble_eq_true rfl) dX9_moments_91 ?_
            intro r27
            refine J_if_ne 105 G dX9_moments_94 (by decide) ?_ ?_
            · exact hk105
            · refine J_aload_n G 0 dX9_moments_97 rfl ?_
              refine J_iconst G dX9_moments_98 ?_
              refine J_cVpI (As := [vI 2]) G (mX9_isLoose u 2 m8) sg_X9_isLoose sv_X9_isLoose wm_X9_162 cls_9 kd_149 rfl ⟨by decide, by decide⟩ rfl rfl (Nat.le_of_ble_eq_true rfl) dX9_moments_99 ?_
              intro r28
              refine J_if_eq 128 G dX9_moments_102 (by decide) ?_ ?_
              · exact hk128
              · exact hk105
  · intro k79 hk79
    refine J_lv [2, 1, 0] rfl ?_
    exact jMo_moments_L61 G x1 k79 hk79 2000 1 m7
theorem jMo_bears_L8 {u : jU} {x : jX} (G : jG u x cX9_bears RX9 14 none (jRm 3 81)) (p0 : Int) (p1 : Int) (p2 : Int) (x1 : Int) : ∀ (n : Nat) (i2 : Int) (m3 : Mem), J u x 14 (jQ u x EwV) 8 [(0, vR (uB u) 149), (1, vI p0), (2, vI p1), (3, vI p2), (4, vI x1), (5, vI i2)] [] m3 (Mo_bears_L8 p0 p1 p2 x1 n i2 m3) := by
  intro n
  induction n with
  | zero => intro i2 m3; exact J_none
  | succ n ih =>
    intro i2 m3
    rw [Mo_bears_L8]
    refine J_iload G 5 dX9_bears_8 rfl ?_
    refine J_aload_n G 0 dX9_bears_10 rfl ?_
    refine J_getR (d := 150) (k := 0) G cls_9 wf_X9_11 kd_149 rfl rfl dX9_bears_11 ?_
    refine J_bipush G dX9_bears_14 (by decide) ?_
    refine J_ialdC G kd_150 ln_150 (by decide) dX9_bears_16 ?_
    refine J_icmp_ge 232 G dX9_bears_17 (by decide) ?_ ?_
    · exact J_vret G dX9_bears_232 rfl
    · refine J_aload_n G 0 dX9_bears_20 rfl ?_
      refine J_getR (d := 150) (k := 0) G cls_9 wf_X9_11 kd_149 rfl rfl dX9_bears_21 ?_
      refine J_bipush G dX9_bears_24 (by decide) ?_
      refine J_iload G 5 dX9_bears_26 rfl ?_
      refine J_iadd G dX9_bears_28 ?_
      refine J_iald G kd_150 ln_150 dX9_bears_29 ?_
      refine J_iload_n G 1 dX9_bears_30 rfl ?_
      refine J_cSpI (As := [vI (m3 150 (s32 (11 + i2))), vI p0]) G (mX9_more u (m3 150 (s32 (11 + i2))) p0 m3) sg_X9_more ss_X9_more wm_X9_137 ⟨by decide, by decide⟩ rfl rfl (Nat.le_of_ble_eq_true rfl) dX9_bears_31 ?_
      intro r4
      refine J_istore (lv' := [(6, vI r4), (0, vR (uB u) 149), (1, vI p0), (2, vI p1), (3, vI p2), (4, vI x1), (5, vI i2)]) G dX9_bears_34 (by decide) rfl ?_
      refine J_aload_n G 1 dX9_bears_36 rfl ?_
      refine J_getR (d := 150) (k := 0) G cls_9 wf_X9_11 kd_149 rfl rfl dX9_bears_37 ?_
      refine J_bipush G dX9_bears_40 (by decide) ?_
      refine J_iload G 6 dX9_bears_42 rfl ?_
      refine J_iadd G dX9_bears_44 ?_
      refine J_iald G kd_150 ln_150 dX9_bears_45 ?_
      refine J_iload_n G 3 dX9_bears_46 rfl ?_
      refine J_cSpI (As := [vI (m3 150 (s32 (17 + i2))), vI p1]) G (mX9_less u (m3 150 (s32 (17 + i2))) p1 m3) sg_X9_less ss_X9_less wm_X9_141 ⟨by decide, by decide⟩ rfl rfl (Nat.le_of_ble_eq_true rfl) dX9_bears_47 ?_
      intro r5
      refine J_istore (lv' := [(7, vI r5), (6, vI r4), (0, vR (uB u) 149), (1, vI p0), (2, vI p1), (3, vI p2), (4, vI x1), (5, vI i2)]) G dX9_bears_50 (by decide) rfl ?_
      refine J_aload_n G 2 dX9_bears_52 rfl ?_
      refine J_getR (d := 150) (k := 0) G cls_9 wf_X9_11 kd_149 rfl rfl dX9_bears_53 ?_
      refine J_bipush G dX9_bears_56 (by decide) ?_
      refine J_iload G 7 dX9_bears_58 rfl ?_
      refine J_iadd G dX9_bears_60 ?_
      refine J_iald G kd_150 ln_150 dX9_bears_61 ?_
      refine J_i2l G dX9_bears_62 ?_
      refine J_ltL (fun x6 => ?_)
      refine J_lstore (lv' := [(8, vL x6), (7, vI r5), (6, vI r4), (0, vR (uB u) 149), (1, vI p0), (2, vI p1), (3, vI p2), (4, vI x1), (5, vI i2)]) G dX9_bears_63 (by decide) rfl ?_
      refine J_aload_n G 3 dX9_bears_65 rfl ?_
      refine J_iload G 8 dX9_bears_66 rfl ?_
      refine J_cVpI (As := [vI i2]) G (mX9_isSpread u i2 m3) sg_X9_isSpread sv_X9_isSpread wm_X9_144 cls_9 kd_149 rfl ⟨by decide, by decide⟩ rfl rfl (Nat.le_of_ble_eq_true rfl) dX9_bears_68 ?_
      intro r7
      refine J_jn (fun g => J u x 14 (jQ u x EwV) 147 [(0, vR (uB u) 149), (1, vI p0), (2, vI p1), (3, vI p2), (4, vI x1), (5, vI i2), (8, vL x6)] [] m3 (g)) ?_ ?_
      · skip
        refine J_aload_n G 0 dX9_bears_147 rfl ?_
        refine J_iload G 5 dX9_bears_148 rfl ?_
        refine J_cVpI (As := [vI i2]) G (mX9_isSpread u i2 m3) sg_X9_isSpread sv_X9_isSpread wm_X9_144 cls_9 kd_149 rfl ⟨by decide, by decide⟩ rfl rfl (Nat.le_of_ble_eq_true rfl) dX9_bears_150 ?_
        intro r8
        refine J_if_ne 226 G dX9_bears_153 (by decide) ?_ ?_
        · refine J_iinc (lv' := [(5, vI (i2 + 1)), (0, vR (uB u) 149), (1, vI p0), (2, vI p1), (3, vI p2), (4, vI x1), (8, vL x6)]) G 5 dX9_bears_226 rfl (by decide) rfl ?_
          refine J_goto 8 G dX9_bears_229 (by decide) ?_
          refine J_lv [1, 2, 3, 4, 5, 0] rfl ?_
          exact ih (i2 + 1) m3
        · refine J_aload_n G 0 dX9_bears_156 rfl ?_
          refine J_getR (d := 150) (k := 0) G cls_9 wf_X9_11 kd_149 rfl rfl dX9_bears_157 ?_
          refine J_bipush G dX9_bears_160 (by decide) ?_
          refine J_iload G 5 dX9_bears_162 rfl ?_
          refine J_iadd G dX9_bears_164 ?_
          refine J_iald G kd_150 ln_150 dX9_bears_165 ?_
          refine J_iload_n G 1 dX9_bears_166 rfl ?_
          refine J_icmp_le 226 G dX9_bears_167 (by decide) ?_ ?_
          · refine J_iinc (lv' := [(5, vI (i2 + 1)), (0, vR (uB u) 149), (1, vI p0), (2, vI p1), (3, vI p2), (4, vI x1), (8, vL x6)]) G 5 dX9_bears_226 rfl (by decide) rfl ?_
            refine J_goto 8 G dX9_bears_229 (by decide) ?_
            refine J_lv [1, 2, 3, 4, 5, 0] rfl ?_
            exact ih (i2 + 1) m3
          · refine J_aload_n G 0 dX9_bears_170 rfl ?_
            refine J_getR (d := 150) (k := 0) G cls_9 wf_X9_11 kd_149 rfl rfl dX9_bears_171 ?_
            refine J_bipush G dX9_bears_174 (by decide) ?_
            refine J_iload G 5 dX9_bears_176 rfl ?_
            refine J_iadd G dX9_bears_178 ?_
            refine J_iald G kd_150 ln_150 dX9_bears_179 ?_
            refine J_iload_n G 2 dX9_bears_180 rfl ?_
            refine J_icmp_ge 226 G dX9_bears_181 (by decide) ?_ ?_
            · refine J_iinc (lv' := [(5, vI (i2 + 1)), (0, vR (uB u) 149), (1, vI p0), (2, vI p1), (3, vI p2), (4, vI x1), (8, vL x6)]) G 5 dX9_bears_226 rfl (by decide) rfl ?_
              refine J_goto 8 G dX9_bears_229 (by decide) ?_
              refine J_lv [1, 2, 3, 4, 5, 0] rfl ?_
              exact ih (i2 + 1) m3
            · refine J_aload_n G 0 dX9_bears_184 rfl ?_
              refine J_lload G 6 dX9_bears_185 rfl ?_
              refine J_iload_n G 3 dX9_bears_187 rfl ?_
              refine J_jn (fun g => ∀ x9, J u x 14 (jQ u x EwV) 218 [(0, vR (uB u) 149), (1, vI p0), (2, vI p1), (3, vI p2), (4, vI x1), (5, vI i2)] [vI x9, vL x6, vR (uB u) 149] m3 (g x9)) ?_ ?_
              · intro x9
                refine J_i2l G dX9_bears_218 ?_
                refine J_lmul G dX9_bears_219 ?_
                refine J_iload G 4 dX9_bears_220 rfl ?_
                refine J_i2l G dX9_bears_222 ?_
                refine J_cVwV (As := [vL (x6 * (s32 x9)), vL (s32 x1)]) G (mX9_plus u (x6 * (s32 x9)) (s32 x1) m3) sg_X9_plus sv_X9_plus wm_X9_159 cls_9 kd_149 rfl ⟨by decide, by decide⟩ rfl rfl (Nat.le_of_ble_eq_true rfl) dX9_bears_223 ?_
                intro m10
                refine J_iinc (lv' := [(5, vI (i2 + 1)), (0, vR (uB u) 149), (1, vI p0), (2, vI p1), (3, vI p2), (4, vI x1)]) G 5 dX9_bears_226 rfl (by decide) rfl ?_
                refine J_goto 8 G dX9_bears_229 (by decide) ?_
                refine J_lv [1, 2, 3, 4, 5, 0] rfl ?_
                exact ih (i2 + 1) m10
              · intro k218 hk218
                refine J_if_eq 206 G dX9_bears_188 (by decide) ?_ ?_
                · refine J_iload_n G 2 dX9_bears_206 rfl ?_
                  refine J_aload_n G 0 dX9_bears_207 rfl ?_
                  refine J_getR (d := 150) (k := 0) G cls_9 wf_X9_11 kd_149 rfl rfl dX9_bears_208 ?_
                  refine J_bipush G dX9_bears_211 (by decide) ?_
                  refine J_iload G 5 dX9_bears_213 rfl ?_
                  refine J_iadd G dX9_bears_215 ?_
                  refine J_iald G kd_150 ln_150 dX9_bears_216 ?_
                  refine J_isub G dX9_bears_217 ?_
                  refine J_lv [0, 1, 2, 3, 4, 5] rfl ?_
                  exact hk218 (p1 - (m3 150 (s32 (11 + i2))))
                · refine J_aload_n G 0 dX9_bears_191 rfl ?_
                  refine J_getR (d := 150) (k := 0) G cls_9 wf_X9_11 kd_149 rfl rfl dX9_bears_192 ?_
                  refine J_bipush G dX9_bears_195 (by decide) ?_
                  refine J_iload G 5 dX9_bears_197 rfl ?_
                  refine J_iadd G dX9_bears_199 ?_
                  refine J_iald G kd_150 ln_150 dX9_bears_200 ?_
                  refine J_iload_n G 1 dX9_bears_201 rfl ?_
                  refine J_isub G dX9_bears_202 ?_
                  refine J_goto 218 G dX9_bears_203 (by decide) ?_
                  refine J_lv [0, 1, 2, 3, 4, 5] rfl ?_
                  exact hk218 ((m3 150 (s32 (11 + i2))) - p0)
      · intro k147 hk147
        refine J_if_eq 147 G dX9_bears_71 (by decide) ?_ ?_
        · refine J_lv [3, 4, 5, 6, 7, 8, 0] rfl ?_
          exact hk147
        · refine J_iload G 2 dX9_bears_74 rfl ?_
          refine J_iload G 1 dX9_bears_76 rfl ?_
          refine J_icmp_ge 147 G dX9_bears_78 (by decide) ?_ ?_
          · refine J_lv [3, 4, 5, 6, 7, 8, 0] rfl ?_
            exact hk147
          · refine J_iload_n G 6 dX9_bears_81 rfl ?_
            refine J_jn (fun g => ∀ x11, J u x 14 (jQ u x EwV) 98 [(0, vR (uB u) 149), (1, vI p0), (2, vI p1), (3, vI p2), (4, vI x1), (5, vI i2), (6, vI r4), (7, vI r5), (8, vL x6)] [vL x11] m3 (g x11)) ?_ ?_
            · intro x11
              refine J_lstore (lv' := [(10, vL x11), (0, vR (uB u) 149), (1, vI p0), (2, vI p1), (3, vI p2), (4, vI x1), (5, vI i2), (6, vI r4), (7, vI r5), (8, vL x6)]) G dX9_bears_98 (by decide) rfl ?_
              refine J_iload_n G 4 dX9_bears_100 rfl ?_
              refine J_jn (fun g => ∀ x12, J u x 14 (jQ u x EwV) 117 [(0, vR (uB u) 149), (1, vI p0), (2, vI p1), (3, vI p2), (4, vI x1), (5, vI i2), (8, vL x6), (10, vL x11)] [vL x12] m3 (g x12)) ?_ ?_
              · intro x12
                refine J_lstore (lv' := [(12, vL x12), (0, vR (uB u) 149), (1, vI p0), (2, vI p1), (3, vI p2), (4, vI x1), (5, vI i2), (8, vL x6), (10, vL x11)]) G dX9_bears_117 (by decide) rfl ?_
                refine J_aload_n G 1 dX9_bears_119 rfl ?_
                refine J_lload G 7 dX9_bears_120 rfl ?_
                refine J_lload G 8 dX9_bears_122 rfl ?_
                refine J_lload G 8 dX9_bears_124 rfl ?_
                refine J_lmul G dX9_bears_126 ?_
                refine J_lload G 0 dX9_bears_127 rfl ?_
                refine J_lload G 0 dX9_bears_129 rfl ?_
                refine J_lmul G dX9_bears_131 ?_
                refine J_lsub G dX9_bears_132 ?_
                refine J_lmul G dX9_bears_133 ?_
                refine J_ldc2 (v := 2) G dX9_bears_134 wc_X9_86 (by decide) ?_
                refine J_iload G 5 dX9_bears_137 rfl ?_
                refine J_i2l G dX9_bears_139 ?_
                refine J_lmul G dX9_bears_140 ?_
                refine J_cVwV (As := [vL (x6 * ((x11 * x11) - (x12 * x12))), vL (2 * (s32 x1))]) G (mX9_plus u (x6 * ((x11 * x11) - (x12 * x12))) (2 * (s32 x1)) m3) sg_X9_plus sv_X9_plus wm_X9_159 cls_9 kd_149 rfl ⟨by decide, by decide⟩ rfl rfl (Nat.le_of_ble_eq_true rfl) dX9_bears_141 ?_
                intro m13
                refine J_goto 226 G dX9_bears_144 (by decide) ?_
                refine J_iinc (lv' := [(5, vI (i2 + 1)), (12, vL x12), (0, vR (uB u) 149), (1, vI p0), (2, vI p1), (3, vI p2), (4, vI x1), (8, vL x6), (10, vL x11)]) G 6 dX9_bears_226 rfl (by decide) rfl ?_
                refine J_goto 8 G dX9_bears_229 (by decide) ?_
                refine J_lv [2, 3, 4, 5, 6, 0] rfl ?_
                exact ih (i2 + 1) m13
              · intro k117 hk117
                refine J_if_eq 112 G dX9_bears_101 (by decide) ?_ ?_
                · refine J_iload_n G 3 dX9_bears_112 rfl ?_
                  refine J_iload G 8 dX9_bears_113 rfl ?_
                  refine J_isub G dX9_bears_115 ?_
                  refine J_i2l G dX9_bears_116 ?_
                  refine J_lv [1, 2, 3, 4, 5, 6, 9, 0] rfl ?_
                  exact hk117 (s32 (p1 - r5))
                · refine J_iload G 7 dX9_bears_104 rfl ?_
                  refine J_iload_n G 2 dX9_bears_106 rfl ?_
                  refine J_isub G dX9_bears_107 ?_
                  refine J_i2l G dX9_bears_108 ?_
                  refine J_goto 117 G dX9_bears_109 (by decide) ?_
                  refine J_lv [1, 2, 3, 4, 5, 6, 9, 0] rfl ?_
                  exact hk117 (s32 (r4 - p0))
            · intro k98 hk98
              refine J_if_eq 93 G dX9_bears_82 (by decide) ?_ ?_
              · refine J_iload_n G 5 dX9_bears_93 rfl ?_
                refine J_iload G 2 dX9_bears_94 rfl ?_
                refine J_isub G dX9_bears_96 ?_
                refine J_i2l G dX9_bears_97 ?_
                refine J_lv [3, 4, 5, 6, 7, 8, 2, 1, 0] rfl ?_
                exact hk98 (s32 (p1 - r4))
              · refine J_iload G 1 dX9_bears_85 rfl ?_
                refine J_iload_n G 4 dX9_bears_87 rfl ?_
                refine J_isub G dX9_bears_88 ?_
                refine J_i2l G dX9_bears_89 ?_
                refine J_goto 98 G dX9_bears_90 (by decide) ?_
                refine J_lv [3, 4, 5, 6, 7, 8, 2, 1, 0] rfl ?_
                exact hk98 (s32 (r5 - p0))
theorem mX9_bears (u : jU) (p0 : Int) (p1 : Int) (p2 : Int) (mem : Mem) : jMet u yX9_bears cX9_bears 14 none (jRm 3 81) [vR (uB u) 149, vI p0, vI p1, vI p2] mem EwV (Mo_bears p0 p1 p2 mem) := by
  refine jMet_of (by decide +kernel) (Nat.le_of_ble_eq_true rfl) (fun x G => ?_)
  show J u x 14 (jQ u x EwV) 0 [(0, vR (uB u) 149), (1, vI p0), (2, vI p1), (3, vI p2)] [] mem _
  unfold Mo_bears
  refine J_iload_n G 2 dX9_bears_0 rfl ?_
  refine J_iload_n G 1 dX9_bears_1 rfl ?_
  refine J_isub G dX9_bears_2 ?_
  refine J_ltI (fun x1 => ?_)
  refine J_istore (lv' := [(4, vI x1), (0, vR (uB u) 149), (1, vI p0), (2, vI p1), (3, vI p2)]) G dX9_bears_3 (by decide) rfl ?_
  refine J_iconst G dX9_bears_5 ?_
  refine J_istore (lv' := [(5, vI 0), (4, vI x1), (0, vR (uB u) 149), (1, vI p0), (2, vI p1), (3, vI p2)]) G dX9_bears_6 (by decide) rfl ?_
  refine J_lv [2, 3, 4, 5, 1, 0] rfl ?_
  exact jMo_bears_L8 G p0 p1 p2 x1 2000 0 mem
theorem jMo_beside_L5 {u : jU} {x : jX} (G : jG u x cX9_beside RX9 6 (some .long) (jRm 1 21)) (p0 : Int) (p1 : Int) (mem : Mem) : ∀ (n : Nat) (i1 : Int) (i2 : Int), J u x 6 (jQ u x (EpL mem)) 5 [(0, vR (uB u) 149), (1, vI p0), (2, vI p1), (3, vL i1), (5, vI i2)] [] mem (Mo_beside_L5 p0 p1 mem n i1 i2) := by
  intro n
  induction n with
  | zero => intro i1 i2; exact J_none
  | succ n ih =>
    intro i1 i2
    rw [Mo_beside_L5]
    refine J_iload G 4 dX9_beside_5 rfl ?_
    refine J_aload_n G 0 dX9_beside_7 rfl ?_
    refine J_getR (d := 150) (k := 0) G cls_9 wf_X9_11 kd_149 rfl rfl dX9_beside_8 ?_
    refine J_bipush G dX9_beside_11 (by decide) ?_
    refine J_ialdC G kd_150 ln_150 (by decide) dX9_beside_13 ?_
    refine J_icmp_ge 168 G dX9_beside_14 (by decide) ?_ ?_
    · refine J_lload_n G 3 dX9_beside_168 rfl ?_
      exact J_lret G dX9_beside_169 rfl
    · refine J_aload_n G 0 dX9_beside_17 rfl ?_
      refine J_iload G 4 dX9_beside_18 rfl ?_
      refine J_cVpI (As := [vI i2]) G (mX9_isSpread u i2 mem) sg_X9_isSpread sv_X9_isSpread wm_X9_144 cls_9 kd_149 rfl ⟨by decide, by decide⟩ rfl rfl (Nat.le_of_ble_eq_true rfl) dX9_beside_20 ?_
      intro r3
      refine J_if_eq 109 G dX9_beside_23 (by decide) ?_ ?_
      · refine J_lload_n G 3 dX9_beside_109 rfl ?_
        refine J_iload_n G 2 dX9_beside_110 rfl ?_
        refine J_jn (fun g => ∀ x4, J u x 6 (jQ u x (EpL mem)) 160 [(0, vR (uB u) 149), (1, vI p0), (2, vI p1), (5, vI i2)] [vL x4, vL i1] mem (g x4)) ?_ ?_
        · intro x4
          refine J_ladd G dX9_beside_160 ?_
          refine J_ltL (fun x5 => ?_)
          refine J_lstore_n (lv' := [(3, vL x5), (0, vR (uB u) 149), (1, vI p0), (2, vI p1), (5, vI i2)]) G dX9_beside_161 rfl (by decide) rfl ?_
          refine J_iinc (lv' := [(5, vI (i2 + 1)), (3, vL x5), (0, vR (uB u) 149), (1, vI p0), (2, vI p1)]) G 4 dX9_beside_162 rfl (by decide) rfl ?_
          refine J_goto 5 G dX9_beside_165 (by decide) ?_
          refine J_lv [2, 3, 4, 1, 0] rfl ?_
          exact ih x5 (i2 + 1)
        · intro k160 hk160
          refine J_jn (fun g => J u x 6 (jQ u x (EpL mem)) 159 [(0, vR (uB u) 149), (1, vI p0), (2, vI p1), (5, vI i2)] [vL i1] mem (g)) ?_ ?_
          · skip
            refine J_lconst (v := 0) G dX9_beside_159 (by decide) ?_
            exact hk160 0
          · intro k159 hk159
            refine J_jn (fun g => J u x 6 (jQ u x (EpL mem)) 145 [(0, vR (uB u) 149), (1, vI p0), (2, vI p1), (5, vI i2)] [vL i1] mem (g)) ?_ ?_
            · skip
              refine J_aload_n G 0 dX9_beside_145 rfl ?_
              refine J_getR (d := 150) (k := 0) G cls_9 wf_X9_11 kd_149 rfl rfl dX9_beside_146 ?_
              refine J_bipush G dX9_beside_149 (by decide) ?_
              refine J_iload G 3 dX9_beside_151 rfl ?_
              refine J_iadd G dX9_beside_153 ?_
              refine J_iald G kd_150 ln_150 dX9_beside_154 ?_
              refine J_i2l G dX9_beside_155 ?_
              refine J_goto 160 G dX9_beside_156 (by decide) ?_
              exact hk160 (s32 (mem 150 (s32 (23 + i2))))
            · intro k145 hk145
              refine J_if_eq 131 G dX9_beside_111 (by decide) ?_ ?_
              · refine J_aload_n G 0 dX9_beside_131 rfl ?_
                refine J_getR (d := 150) (k := 0) G cls_9 wf_X9_11 kd_149 rfl rfl dX9_beside_132 ?_
                refine J_bipush G dX9_beside_135 (by decide) ?_
                refine J_iload G 4 dX9_beside_137 rfl ?_
                refine J_iadd G dX9_beside_139 ?_
                refine J_iald G kd_150 ln_150 dX9_beside_140 ?_
                refine J_iload_n G 1 dX9_beside_141 rfl ?_
                refine J_icmp_le 159 G dX9_beside_142 (by decide) ?_ ?_
                · refine J_lv [0, 1, 2, 4] rfl ?_
                  exact hk159
                · refine J_lv [0, 1, 2, 4] rfl ?_
                  exact hk145
              · refine J_aload_n G 0 dX9_beside_114 rfl ?_
                refine J_getR (d := 150) (k := 0) G cls_9 wf_X9_11 kd_149 rfl rfl dX9_beside_115 ?_
                refine J_bipush G dX9_beside_118 (by decide) ?_
                refine J_iload G 4 dX9_beside_120 rfl ?_
                refine J_iadd G dX9_beside_122 ?_
                refine J_iald G kd_150 ln_150 dX9_beside_123 ?_
                refine J_iload_n G 1 dX9_beside_124 rfl ?_
                refine J_icmp_ge 159 G dX9_beside_125 (by decide) ?_ ?_
                · refine J_lv [0, 1, 2, 4] rfl ?_
                  exact hk159
                · refine J_goto 145 G dX9_beside_128 (by decide) ?_
                  refine J_lv [0, 1, 2, 4] rfl ?_
                  exact hk145
      · refine J_lload_n G 3 dX9_beside_26 rfl ?_
        refine J_aload_n G 0 dX9_beside_27 rfl ?_
        refine J_getR (d := 150) (k := 0) G cls_9 wf_X9_11 kd_149 rfl rfl dX9_beside_28 ?_
        refine J_bipush G dX9_beside_31 (by decide) ?_
        refine J_iload G 4 dX9_beside_33 rfl ?_
        refine J_iadd G dX9_beside_35 ?_
        refine J_iald G kd_150 ln_150 dX9_beside_36 ?_
        refine J_iload_n G 2 dX9_beside_37 rfl ?_
        refine J_jn (fun g => ∀ x6, J u x 6 (jQ u x (EpL mem)) 102 [(0, vR (uB u) 149), (1, vI p0), (2, vI p1), (5, vI i2)] [vI x6, vI (mem 150 (s32 (23 + i2))), vL i1] mem (g x6)) ?_ ?_
        · intro x6
          refine J_imul G dX9_beside_102 ?_
          refine J_i2l G dX9_beside_103 ?_
          refine J_ladd G dX9_beside_104 ?_
          refine J_ltL (fun x7 => ?_)
          refine J_lstore_n (lv' := [(3, vL x7), (0, vR (uB u) 149), (1, vI p0), (2, vI p1), (5, vI i2)]) G dX9_beside_105 rfl (by decide) rfl ?_
          refine J_goto 162 G dX9_beside_106 (by decide) ?_
          refine J_iinc (lv' := [(5, vI (i2 + 1)), (3, vL x7), (0, vR (uB u) 149), (1, vI p0), (2, vI p1)]) G 4 dX9_beside_162 rfl (by decide) rfl ?_
          refine J_goto 5 G dX9_beside_165 (by decide) ?_
          refine J_lv [2, 3, 4, 1, 0] rfl ?_
          exact ih x7 (i2 + 1)
        · intro k102 hk102
          refine J_if_eq 73 G dX9_beside_38 (by decide) ?_ ?_
          · refine J_iconst G dX9_beside_73 ?_
            refine J_aload_n G 0 dX9_beside_74 rfl ?_
            refine J_getR (d := 150) (k := 0) G cls_9 wf_X9_11 kd_149 rfl rfl dX9_beside_75 ?_
            refine J_bipush G dX9_beside_78 (by decide) ?_
            refine J_iload G 4 dX9_beside_80 rfl ?_
            refine J_iadd G dX9_beside_82 ?_
            refine J_iald G kd_150 ln_150 dX9_beside_83 ?_
            refine J_aload_n G 0 dX9_beside_84 rfl ?_
            refine J_getR (d := 150) (k := 0) G cls_9 wf_X9_11 kd_149 rfl rfl dX9_beside_85 ?_
            refine J_bipush G dX9_beside_88 (by decide) ?_
            refine J_iload G 4 dX9_beside_90 rfl ?_
            refine J_iadd G dX9_beside_92 ?_
            refine J_iald G kd_150 ln_150 dX9_beside_93 ?_
            refine J_iload_n G 1 dX9_beside_94 rfl ?_
            refine J_cSpI (As := [vI (mem 150 (s32 (11 + i2))), vI p0]) G (mX9_more u (mem 150 (s32 (11 + i2))) p0 mem) sg_X9_more ss_X9_more wm_X9_137 ⟨by decide, by decide⟩ rfl rfl (Nat.le_of_ble_eq_true rfl) dX9_beside_95 ?_
            intro r8
            refine J_isub G dX9_beside_98 ?_
            refine J_cSpI (As := [vI 0, vI ((mem 150 (s32 (17 + i2))) - r8)]) G (mX9_more u 0 ((mem 150 (s32 (17 + i2))) - r8) mem) sg_X9_more ss_X9_more wm_X9_137 ⟨by decide, by decide⟩ rfl rfl (Nat.le_of_ble_eq_true rfl) dX9_beside_99 ?_
            intro r9
            refine J_lv [0, 1, 2, 4] rfl ?_
            exact hk102 r9
          · refine J_iconst G dX9_beside_41 ?_
            refine J_aload_n G 0 dX9_beside_42 rfl ?_
            refine J_getR (d := 150) (k := 0) G cls_9 wf_X9_11 kd_149 rfl rfl dX9_beside_43 ?_
            refine J_bipush G dX9_beside_46 (by decide) ?_
            refine J_iload G 4 dX9_beside_48 rfl ?_
            refine J_iadd G dX9_beside_50 ?_
            refine J_iald G kd_150 ln_150 dX9_beside_51 ?_
            refine J_iload_n G 1 dX9_beside_52 rfl ?_
            refine J_cSpI (As := [vI (mem 150 (s32 (17 + i2))), vI p0]) G (mX9_less u (mem 150 (s32 (17 + i2))) p0 mem) sg_X9_less ss_X9_less wm_X9_141 ⟨by decide, by decide⟩ rfl rfl (Nat.le_of_ble_eq_true rfl) dX9_beside_53 ?_
            intro r10
            refine J_aload_n G 0 dX9_beside_56 rfl ?_
            refine J_getR (d := 150) (k := 0) G cls_9 wf_X9_11 kd_149 rfl rfl dX9_beside_57 ?_
            refine J_bipush G dX9_beside_60 (by decide) ?_
            refine J_iload G 4 dX9_beside_62 rfl ?_
            refine J_iadd G dX9_beside_64 ?_
            refine J_iald G kd_150 ln_150 dX9_beside_65 ?_
            refine J_isub G dX9_beside_66 ?_
            refine J_cSpI (As := [vI 0, vI (r10 - (mem 150 (s32 (11 + i2))))]) G (mX9_more u 0 (r10 - (mem 150 (s32 (11 + i2)))) mem) sg_X9_more ss_X9_more wm_X9_137 ⟨by decide, by decide⟩ rfl rfl (Nat.le_of_ble_eq_true rfl) dX9_beside_67 ?_
            intro r11
            refine J_goto 102 G dX9_beside_70 (by decide) ?_
            refine J_lv [0, 1, 2, 4] rfl ?_
            exact hk102 r11
theorem mX9_beside (u : jU) (p0 : Int) (p1 : Int) (mem : Mem) : jMet u yX9_beside cX9_beside 6 (some .long) (jRm 1 21) [vR (uB u) 149, vI p0, vI p1] mem (EpL mem) (Mo_beside p0 p1 mem) := by
  refine jMet_of (by decide +kernel) (Nat.le_of_ble_eq_true rfl) (fun x G => ?_)
  show J u x 6 (jQ u x (EpL mem)) 0 [(0, vR (uB u) 149), (1, vI p0), (2, vI p1)] [] mem _
  unfold Mo_beside
  refine J_lconst (v := 0) G dX9_beside_0 (by decide) ?_
  refine J_lstore_n (lv' := [(3, vL 0), (0, vR (uB u) 149), (1, vI p0), (2, vI p1)]) G dX9_beside_1 rfl (by decide) rfl ?_
  refine J_iconst G dX9_beside_2 ?_
  refine J_istore (lv' := [(5, vI 0), (3, vL 0), (0, vR (uB u) 149), (1, vI p0), (2, vI p1)]) G dX9_beside_3 (by decide) rfl ?_
  refine J_lv [2, 3, 4, 1, 0] rfl ?_
  exact jMo_beside_L5 G p0 p1 mem 2000 0 0
theorem jMo_pointsAt_L5 {u : jU} {x : jX} (G : jG u x cX9_pointsAt RX9 5 (some .long) (jRm 1 21)) (p0 : Int) (mem : Mem) : ∀ (n : Nat) (i1 : Int) (i2 : Int), J u x 5 (jQ u x (EpL mem)) 5 [(0, vR (uB u) 149), (1, vI p0), (2, vL i1), (4, vI i2)] [] mem (Mo_pointsAt_L5 p0 mem n i1 i2) := by
  intro n
  induction n with
  | zero => intro i1 i2; exact J_none
  | succ n ih =>
    intro i1 i2
    rw [Mo_pointsAt_L5]
    refine J_iload G 3 dX9_pointsAt_5 rfl ?_
    refine J_aload_n G 0 dX9_pointsAt_7 rfl ?_
    refine J_getR (d := 150) (k := 0) G cls_9 wf_X9_11 kd_149 rfl rfl dX9_pointsAt_8 ?_
    refine J_bipush G dX9_pointsAt_11 (by decide) ?_
    refine J_ialdC G kd_150 ln_150 (by decide) dX9_pointsAt_13 ?_
    refine J_icmp_ge 64 G dX9_pointsAt_14 (by decide) ?_ ?_
    · refine J_lload_n G 2 dX9_pointsAt_64 rfl ?_
      exact J_lret G dX9_pointsAt_65 rfl
    · refine J_lload_n G 2 dX9_pointsAt_17 rfl ?_
      refine J_aload_n G 0 dX9_pointsAt_18 rfl ?_
      refine J_iload G 3 dX9_pointsAt_19 rfl ?_
      refine J_cVpI (As := [vI i2]) G (mX9_isSpread u i2 mem) sg_X9_isSpread sv_X9_isSpread wm_X9_144 cls_9 kd_149 rfl ⟨by decide, by decide⟩ rfl rfl (Nat.le_of_ble_eq_true rfl) dX9_pointsAt_21 ?_
      intro r3
      refine J_jn (fun g => ∀ x4, J u x 5 (jQ u x (EpL mem)) 56 [(0, vR (uB u) 149), (1, vI p0), (4, vI i2)] [vL x4, vL i1] mem (g x4)) ?_ ?_
      · intro x4
        refine J_ladd G dX9_pointsAt_56 ?_
        refine J_ltL (fun x5 => ?_)
        refine J_lstore_n (lv' := [(2, vL x5), (0, vR (uB u) 149), (1, vI p0), (4, vI i2)]) G dX9_pointsAt_57 rfl (by decide) rfl ?_
        refine J_iinc (lv' := [(4, vI (i2 + 1)), (2, vL x5), (0, vR (uB u) 149), (1, vI p0)]) G 3 dX9_pointsAt_58 rfl (by decide) rfl ?_
        refine J_goto 5 G dX9_pointsAt_61 (by decide) ?_
        refine J_lv [2, 3, 1, 0] rfl ?_
        exact ih x5 (i2 + 1)
      · intro k56 hk56
        refine J_jn (fun g => J u x 5 (jQ u x (EpL mem)) 55 [(0, vR (uB u) 149), (1, vI p0), (4, vI i2)] [vL i1] mem (g)) ?_ ?_
        · skip
          refine J_lconst (v := 0) G dX9_pointsAt_55 (by decide) ?_
          exact hk56 0
        · intro k55 hk55
          refine J_if_ne 55 G dX9_pointsAt_24 (by decide) ?_ ?_
          · refine J_lv [0, 1, 3] rfl ?_
            exact hk55
          · refine J_aload_n G 0 dX9_pointsAt_27 rfl ?_
            refine J_getR (d := 150) (k := 0) G cls_9 wf_X9_11 kd_149 rfl rfl dX9_pointsAt_28 ?_
            refine J_bipush G dX9_pointsAt_31 (by decide) ?_
            refine J_iload G 3 dX9_pointsAt_33 rfl ?_
            refine J_iadd G dX9_pointsAt_35 ?_
            refine J_iald G kd_150 ln_150 dX9_pointsAt_36 ?_
            refine J_iload_n G 1 dX9_pointsAt_37 rfl ?_
            refine J_icmp_ne 55 G dX9_pointsAt_38 (by decide) ?_ ?_
            · refine J_lv [0, 1, 3] rfl ?_
              exact hk55
            · refine J_aload_n G 0 dX9_pointsAt_41 rfl ?_
              refine J_getR (d := 150) (k := 0) G cls_9 wf_X9_11 kd_149 rfl rfl dX9_pointsAt_42 ?_
              refine J_bipush G dX9_pointsAt_45 (by decide) ?_
              refine J_iload G 3 dX9_pointsAt_47 rfl ?_
              refine J_iadd G dX9_pointsAt_49 ?_
              refine J_iald G kd_150 ln_150 dX9_pointsAt_50 ?_
              refine J_i2l G dX9_pointsAt_51 ?_
              refine J_goto 56 G dX9_pointsAt_52 (by decide) ?_
              refine J_lv [0, 1, 3] rfl ?_
              exact hk56 (s32 (mem 150 (s32 (23 + i2))))
theorem mX9_pointsAt (u : jU) (p0 : Int) (mem : Mem) : jMet u yX9_pointsAt cX9_pointsAt 5 (some .long) (jRm 1 21) [vR (uB u) 149, vI p0] mem (EpL mem) (Mo_pointsAt p0 mem) := by
  refine jMet_of (by decide +kernel) (Nat.le_of_ble_eq_true rfl) (fun x G => ?_)
  show J u x 5 (jQ u x (EpL mem)) 0 [(0, vR (uB u) 149), (1, vI p0)] [] mem _
  unfold Mo_pointsAt
  refine J_lconst (v := 0) G dX9_pointsAt_0 (by decide) ?_
  refine J_lstore_n (lv' := [(2, vL 0), (0, vR (uB u) 149), (1, vI p0)]) G dX9_pointsAt_1 rfl (by decide) rfl ?_
  refine J_iconst G dX9_pointsAt_2 ?_
  refine J_istore (lv' := [(4, vI 0), (2, vL 0), (0, vR (uB u) 149), (1, vI p0)]) G dX9_pointsAt_3 (by decide) rfl ?_
  refine J_lv [2, 3, 1, 0] rfl ?_
  exact jMo_pointsAt_L5 G p0 mem 2000 0 0
theorem jMo_reactions_L265 {u : jU} {x : jX} (G : jG u x cX9_reactions RX9 5 none (jRm 5 133)) (x2 : Int) : ∀ (n : Nat) (i5 : Int) (m6 : Mem), J u x 5 (jQ u x EwV) 265 [(0, vR (uB u) 149), (1, vI x2), (2, vI i5)] [] m6 (Mo_reactions_L265 x2 n i5 m6) := by
  intro n
  induction n with
  | zero => intro i5 m6; exact J_none
  | succ n ih =>
    intro i5 m6
    rw [Mo_reactions_L265]
    refine J_iload_n G 2 dX9_reactions_265 rfl ?_
    refine J_iload_n G 1 dX9_reactions_266 rfl ?_
    refine J_icmp_ge 300 G dX9_reactions_267 (by decide) ?_ ?_
    · exact J_vret G dX9_reactions_300 rfl
    · refine J_aload_n G 0 dX9_reactions_270 rfl ?_
      refine J_getR (d := 157) (k := 11) G cls_9 wf_X9_38 kd_149 rfl rfl dX9_reactions_271 ?_
      refine J_iload_n G 2 dX9_reactions_274 rfl ?_
      refine J_aload_n G 0 dX9_reactions_275 rfl ?_
      refine J_getR (d := 157) (k := 11) G cls_9 wf_X9_38 kd_149 rfl rfl dX9_reactions_276 ?_
      refine J_iload_n G 2 dX9_reactions_279 rfl ?_
      refine J_lald G kd_157 ln_157 dX9_reactions_280 ?_
      refine J_aload_n G 0 dX9_reactions_281 rfl ?_
      refine J_getL (i := 13) (k := 13) G cls_9 wf_X9_182 kd_149 rfl rfl dX9_reactions_282 ?_
      refine J_aload_n G 0 dX9_reactions_285 rfl ?_
      refine J_getR (d := 158) (k := 12) G cls_9 wf_X9_41 kd_149 rfl rfl dX9_reactions_286 ?_
      refine J_iload_n G 2 dX9_reactions_289 rfl ?_
      refine J_lald G kd_158 ln_158 dX9_reactions_290 ?_
      refine J_ldiv G dX9_reactions_291 ?_
      refine J_lmul G dX9_reactions_292 ?_
      refine J_last G kd_157 ln_157 dX9_reactions_293 ?_
      refine J_ltM (fun m7 => ?_)
      refine J_iinc (lv' := [(2, vI (i5 + 1)), (0, vR (uB u) 149), (1, vI x2)]) G 2 dX9_reactions_294 rfl (by decide) rfl ?_
      refine J_goto 265 G dX9_reactions_297 (by decide) ?_
      refine J_lv [1, 2, 0] rfl ?_
      exact ih (i5 + 1) m7
theorem jMo_reactions_L18 {u : jU} {x : jX} (G : jG u x cX9_reactions RX9 5 none (jRm 5 133)) (x2 : Int) (k263 : Mem → Option Mem) (hk263 : (fun g => ∀ m4, J u x 5 (jQ u x EwV) 263 [(0, vR (uB u) 149), (1, vI x2)] [] m4 (g m4)) k263) : ∀ (n : Nat) (i8 : Int) (m9 : Mem), J u x 5 (jQ u x EwV) 18 [(0, vR (uB u) 149), (1, vI x2), (2, vI i8)] [] m9 (Mo_reactions_L18 x2 k263 n i8 m9) := by
  intro n
  induction n with
  | zero => intro i8 m9; exact J_none
  | succ n ih =>
    intro i8 m9
    rw [Mo_reactions_L18]
    refine J_iload_n G 2 dX9_reactions_18 rfl ?_
    refine J_iload_n G 1 dX9_reactions_19 rfl ?_
    refine J_icmp_ge 263 G dX9_reactions_20 (by decide) ?_ ?_
    · refine J_lv [0, 1] rfl ?_
      exact hk263 m9
    · refine J_aload_n G 0 dX9_reactions_23 rfl ?_
      refine J_getR (d := 150) (k := 0) G cls_9 wf_X9_11 kd_149 rfl rfl dX9_reactions_24 ?_
      refine J_iconst G dX9_reactions_27 ?_
      refine J_iload_n G 2 dX9_reactions_28 rfl ?_
      refine J_iadd G dX9_reactions_29 ?_
      refine J_iald G kd_150 ln_150 dX9_reactions_30 ?_
      refine J_ltI (fun x10 => ?_)
      refine J_istore_n (lv' := [(3, vI x10), (0, vR (uB u) 149), (1, vI x2), (2, vI i8)]) G dX9_reactions_31 rfl (by decide) rfl ?_
      refine J_aload_n G 1 dX9_reactions_32 rfl ?_
      refine J_aload_n G 1 dX9_reactions_33 rfl ?_
      refine J_iload_n G 0 dX9_reactions_34 rfl ?_
      refine J_cVpL (As := [vI x10]) G (mX9_pointsAt u x10 m9) sg_X9_pointsAt sv_X9_pointsAt wm_X9_185 cls_9 kd_149 rfl ⟨by decide, by decide⟩ rfl rfl (Nat.le_of_ble_eq_true rfl) dX9_reactions_35 ?_
      intro r11
      refine J_iload_n G 3 dX9_reactions_38 rfl ?_
      refine J_jn (fun g => ∀ x12, J u x 5 (jQ u x EwV) 52 [(0, vR (uB u) 149), (1, vI x2), (2, vI i8), (3, vI x10)] [vL x12, vL r11, vR (uB u) 149] m9 (g x12)) ?_ ?_
      · intro x12
        refine J_ladd G dX9_reactions_52 ?_
        refine J_iload_n G 2 dX9_reactions_53 rfl ?_
        refine J_iload_n G 1 dX9_reactions_54 rfl ?_
        refine J_iconst G dX9_reactions_55 ?_
        refine J_isub G dX9_reactions_56 ?_
        refine J_jn (fun g => ∀ x13, J u x 5 (jQ u x EwV) 70 [(0, vR (uB u) 149), (1, vI x2), (2, vI i8), (3, vI x10)] [vL x13, vL (r11 + x12), vR (uB u) 149] m9 (g x13)) ?_ ?_
        · intro x13
          refine J_ladd G dX9_reactions_70 ?_
          refine J_lconst (v := 1) G dX9_reactions_71 (by decide) ?_
          refine J_cVwV (As := [vL ((r11 + x12) + x13), vL 1]) G (mX9_is u ((r11 + x12) + x13) 1 m9) sg_X9_is sv_X9_is wm_X9_133 cls_9 kd_149 rfl ⟨by decide, by decide⟩ rfl rfl (Nat.le_of_ble_eq_true rfl) dX9_reactions_72 ?_
          intro m14
          refine J_iload_n G 2 dX9_reactions_75 rfl ?_
          refine J_jn (fun g => ∀ m15, J u x 5 (jQ u x EwV) 143 [(0, vR (uB u) 149), (1, vI x2), (2, vI i8), (3, vI x10)] [] m15 (g m15)) ?_ ?_
          · intro m15
            refine J_iload_n G 2 dX9_reactions_143 rfl ?_
            refine J_iload_n G 1 dX9_reactions_144 rfl ?_
            refine J_iconst G dX9_reactions_145 ?_
            refine J_isub G dX9_reactions_146 ?_
            refine J_jn (fun g => ∀ m16, J u x 5 (jQ u x EwV) 212 [(0, vR (uB u) 149), (1, vI x2), (2, vI i8)] [] m16 (g m16)) ?_ ?_
            · intro m16
              refine J_aload_n G 0 dX9_reactions_212 rfl ?_
              refine J_getR (d := 157) (k := 11) G cls_9 wf_X9_38 kd_149 rfl rfl dX9_reactions_213 ?_
              refine J_iload_n G 2 dX9_reactions_216 rfl ?_
              refine J_aload_n G 0 dX9_reactions_217 rfl ?_
              refine J_getL (i := 5) (k := 5) G cls_9 wf_X9_130 kd_149 rfl rfl dX9_reactions_218 ?_
              refine J_last G kd_157 ln_157 dX9_reactions_221 ?_
              refine J_ltM (fun m17 => ?_)
              refine J_aload_n G 0 dX9_reactions_222 rfl ?_
              refine J_getR (d := 158) (k := 12) G cls_9 wf_X9_41 kd_149 rfl rfl dX9_reactions_223 ?_
              refine J_iload_n G 2 dX9_reactions_226 rfl ?_
              refine J_aload_n G 0 dX9_reactions_227 rfl ?_
              refine J_getL (i := 6) (k := 6) G cls_9 wf_X9_21 kd_149 rfl rfl dX9_reactions_228 ?_
              refine J_last G kd_158 ln_158 dX9_reactions_231 ?_
              refine J_ltM (fun m18 => ?_)
              refine J_aload_n G 0 dX9_reactions_232 rfl ?_
              refine J_aload_n G 0 dX9_reactions_233 rfl ?_
              refine J_getL (i := 13) (k := 13) G cls_9 wf_X9_182 kd_149 rfl rfl dX9_reactions_234 ?_
              refine J_aload_n G 0 dX9_reactions_237 rfl ?_
              refine J_getL (i := 13) (k := 13) G cls_9 wf_X9_182 kd_149 rfl rfl dX9_reactions_238 ?_
              refine J_aload_n G 0 dX9_reactions_241 rfl ?_
              refine J_getL (i := 6) (k := 6) G cls_9 wf_X9_21 kd_149 rfl rfl dX9_reactions_242 ?_
              refine J_cSpL (As := [vL (m18 149 13), vL (m18 149 6)]) G (mX9_divisor u (m18 149 13) (m18 149 6) m18) sg_X9_divisor ss_X9_divisor wm_X9_126 ⟨by decide, by decide⟩ rfl rfl (Nat.le_of_ble_eq_true rfl) dX9_reactions_245 ?_
              intro r19
              refine J_ldiv G dX9_reactions_248 ?_
              refine J_aload_n G 0 dX9_reactions_249 rfl ?_
              refine J_getL (i := 6) (k := 6) G cls_9 wf_X9_21 kd_149 rfl rfl dX9_reactions_250 ?_
              refine J_lmul G dX9_reactions_253 ?_
              refine J_putL (i := 13) (k := 13) G cls_9 wf_X9_182 kd_149 rfl rfl rfl rfl dX9_reactions_254 ?_
              refine J_ltM (fun m20 => ?_)
              refine J_iinc (lv' := [(2, vI (i8 + 1)), (0, vR (uB u) 149), (1, vI x2)]) G 2 dX9_reactions_257 rfl (by decide) rfl ?_
              refine J_goto 18 G dX9_reactions_260 (by decide) ?_
              refine J_lv [1, 2, 0] rfl ?_
              exact ih (i8 + 1) m20
            · intro k212 hk212
              refine J_icmp_ge 212 G dX9_reactions_147 (by decide) ?_ ?_
              · refine J_lv [0, 1, 2] rfl ?_
                exact hk212 m15
              · refine J_aload_n G 0 dX9_reactions_150 rfl ?_
                refine J_iload_n G 2 dX9_reactions_151 rfl ?_
                refine J_cVpI (As := [vI i8]) G (mX9_spanOf u i8 m15) sg_X9_spanOf sv_X9_spanOf wm_X9_152 cls_9 kd_149 rfl ⟨by decide, by decide⟩ rfl rfl (Nat.le_of_ble_eq_true rfl) dX9_reactions_152 ?_
                intro r21
                refine J_istore (lv' := [(4, vI r21), (0, vR (uB u) 149), (1, vI x2), (2, vI i8), (3, vI x10)]) G dX9_reactions_155 (by decide) rfl ?_
                refine J_aload_n G 1 dX9_reactions_157 rfl ?_
                refine J_iload_n G 4 dX9_reactions_158 rfl ?_
                refine J_iload_n G 4 dX9_reactions_159 rfl ?_
                refine J_iload G 0 dX9_reactions_160 rfl ?_
                refine J_iadd G dX9_reactions_162 ?_
                refine J_iconst G dX9_reactions_163 ?_
                refine J_cVwV (As := [vI x10, vI (x10 + r21), vI 0]) G (mX9_bears u x10 (x10 + r21) 0 m15) sg_X9_bears sv_X9_bears wm_X9_192 cls_9 kd_149 rfl ⟨by decide, by decide⟩ rfl rfl (Nat.le_of_ble_eq_true rfl) dX9_reactions_164 ?_
                intro m22
                refine J_aload_n G 1 dX9_reactions_167 rfl ?_
                refine J_aload_n G 1 dX9_reactions_168 rfl ?_
                refine J_getR (d := 153) (k := 7) G cls_9 wf_X9_25 kd_149 rfl rfl dX9_reactions_169 ?_
                refine J_iload_n G 3 dX9_reactions_172 rfl ?_
                refine J_iconst G dX9_reactions_173 ?_
                refine J_iadd G dX9_reactions_174 ?_
                refine J_lald G kd_153 ln_153 dX9_reactions_175 ?_
                refine J_aload_n G 1 dX9_reactions_176 rfl ?_
                refine J_getR (d := 154) (k := 8) G cls_9 wf_X9_29 kd_149 rfl rfl dX9_reactions_177 ?_
                refine J_iload_n G 3 dX9_reactions_180 rfl ?_
                refine J_iconst G dX9_reactions_181 ?_
                refine J_iadd G dX9_reactions_182 ?_
                refine J_lald G kd_154 ln_154 dX9_reactions_183 ?_
                refine J_iload G 0 dX9_reactions_184 rfl ?_
                refine J_i2l G dX9_reactions_186 ?_
                refine J_lmul G dX9_reactions_187 ?_
                refine J_cVwV (As := [vL (m22 153 (s32 (i8 + 1))), vL ((m22 154 (s32 (i8 + 1))) * (s32 r21))]) G (mX9_plus u (m22 153 (s32 (i8 + 1))) ((m22 154 (s32 (i8 + 1))) * (s32 r21)) m22) sg_X9_plus sv_X9_plus wm_X9_159 cls_9 kd_149 rfl ⟨by decide, by decide⟩ rfl rfl (Nat.le_of_ble_eq_true rfl) dX9_reactions_188 ?_
                intro m23
                refine J_aload_n G 1 dX9_reactions_191 rfl ?_
                refine J_aload_n G 1 dX9_reactions_192 rfl ?_
                refine J_getR (d := 153) (k := 7) G cls_9 wf_X9_25 kd_149 rfl rfl dX9_reactions_193 ?_
                refine J_iload_n G 3 dX9_reactions_196 rfl ?_
                refine J_lald G kd_153 ln_153 dX9_reactions_197 ?_
                refine J_lneg G dX9_reactions_198 ?_
                refine J_aload_n G 1 dX9_reactions_199 rfl ?_
                refine J_getR (d := 154) (k := 8) G cls_9 wf_X9_29 kd_149 rfl rfl dX9_reactions_200 ?_
                refine J_iload_n G 3 dX9_reactions_203 rfl ?_
                refine J_lald G kd_154 ln_154 dX9_reactions_204 ?_
                refine J_iload G 0 dX9_reactions_205 rfl ?_
                refine J_i2l G dX9_reactions_207 ?_
                refine J_lmul G dX9_reactions_208 ?_
                refine J_cVwV (As := [vL (-(m23 153 (s32 i8))), vL ((m23 154 (s32 i8)) * (s32 r21))]) G (mX9_plus u (-(m23 153 (s32 i8))) ((m23 154 (s32 i8)) * (s32 r21)) m23) sg_X9_plus sv_X9_plus wm_X9_159 cls_9 kd_149 rfl ⟨by decide, by decide⟩ rfl rfl (Nat.le_of_ble_eq_true rfl) dX9_reactions_209 ?_
                intro m24
                refine J_lv [1, 2, 3] rfl ?_
                exact hk212 m24
          · intro k143 hk143
            refine J_if_le 143 G dX9_reactions_76 (by decide) ?_ ?_
            · exact hk143 m14
            · refine J_aload_n G 0 dX9_reactions_79 rfl ?_
              refine J_iload_n G 2 dX9_reactions_80 rfl ?_
              refine J_iconst G dX9_reactions_81 ?_
              refine J_isub G dX9_reactions_82 ?_
              refine J_cVpI (As := [vI (i8 - 1)]) G (mX9_spanOf u (i8 - 1) m14) sg_X9_spanOf sv_X9_spanOf wm_X9_152 cls_9 kd_149 rfl ⟨by decide, by decide⟩ rfl rfl (Nat.le_of_ble_eq_true rfl) dX9_reactions_83 ?_
              intro r25
              refine J_istore (lv' := [(4, vI r25), (0, vR (uB u) 149), (1, vI x2), (2, vI i8), (3, vI x10)]) G dX9_reactions_86 (by decide) rfl ?_
              refine J_aload_n G 1 dX9_reactions_88 rfl ?_
              refine J_iload_n G 4 dX9_reactions_89 rfl ?_
              refine J_iload G 0 dX9_reactions_90 rfl ?_
              refine J_isub G dX9_reactions_92 ?_
              refine J_iload_n G 4 dX9_reactions_93 rfl ?_
              refine J_iconst G dX9_reactions_94 ?_
              refine J_cVwV (As := [vI (x10 - r25), vI x10, vI 1]) G (mX9_bears u (x10 - r25) x10 1 m14) sg_X9_bears sv_X9_bears wm_X9_192 cls_9 kd_149 rfl ⟨by decide, by decide⟩ rfl rfl (Nat.le_of_ble_eq_true rfl) dX9_reactions_95 ?_
              intro m26
              refine J_aload_n G 1 dX9_reactions_98 rfl ?_
              refine J_aload_n G 1 dX9_reactions_99 rfl ?_
              refine J_getR (d := 153) (k := 7) G cls_9 wf_X9_25 kd_149 rfl rfl dX9_reactions_100 ?_
              refine J_iload_n G 3 dX9_reactions_103 rfl ?_
              refine J_iconst G dX9_reactions_104 ?_
              refine J_isub G dX9_reactions_105 ?_
              refine J_lald G kd_153 ln_153 dX9_reactions_106 ?_
              refine J_aload_n G 1 dX9_reactions_107 rfl ?_
              refine J_getR (d := 154) (k := 8) G cls_9 wf_X9_29 kd_149 rfl rfl dX9_reactions_108 ?_
              refine J_iload_n G 3 dX9_reactions_111 rfl ?_
              refine J_iconst G dX9_reactions_112 ?_
              refine J_isub G dX9_reactions_113 ?_
              refine J_lald G kd_154 ln_154 dX9_reactions_114 ?_
              refine J_iload G 0 dX9_reactions_115 rfl ?_
              refine J_i2l G dX9_reactions_117 ?_
              refine J_lmul G dX9_reactions_118 ?_
              refine J_cVwV (As := [vL (m26 153 (s32 (i8 - 1))), vL ((m26 154 (s32 (i8 - 1))) * (s32 r25))]) G (mX9_plus u (m26 153 (s32 (i8 - 1))) ((m26 154 (s32 (i8 - 1))) * (s32 r25)) m26) sg_X9_plus sv_X9_plus wm_X9_159 cls_9 kd_149 rfl ⟨by decide, by decide⟩ rfl rfl (Nat.le_of_ble_eq_true rfl) dX9_reactions_119 ?_
              intro m27
              refine J_aload_n G 1 dX9_reactions_122 rfl ?_
              refine J_aload_n G 1 dX9_reactions_123 rfl ?_
              refine J_getR (d := 153) (k := 7) G cls_9 wf_X9_25 kd_149 rfl rfl dX9_reactions_124 ?_
              refine J_iload_n G 3 dX9_reactions_127 rfl ?_
              refine J_lald G kd_153 ln_153 dX9_reactions_128 ?_
              refine J_lneg G dX9_reactions_129 ?_
              refine J_aload_n G 1 dX9_reactions_130 rfl ?_
              refine J_getR (d := 154) (k := 8) G cls_9 wf_X9_29 kd_149 rfl rfl dX9_reactions_131 ?_
              refine J_iload_n G 3 dX9_reactions_134 rfl ?_
              refine J_lald G kd_154 ln_154 dX9_reactions_135 ?_
              refine J_iload G 0 dX9_reactions_136 rfl ?_
              refine J_i2l G dX9_reactions_138 ?_
              refine J_lmul G dX9_reactions_139 ?_
              refine J_cVwV (As := [vL (-(m27 153 (s32 i8))), vL ((m27 154 (s32 i8)) * (s32 r25))]) G (mX9_plus u (-(m27 153 (s32 i8))) ((m27 154 (s32 i8)) * (s32 r25)) m27) sg_X9_plus sv_X9_plus wm_X9_159 cls_9 kd_149 rfl ⟨by decide, by decide⟩ rfl rfl (Nat.le_of_ble_eq_true rfl) dX9_reactions_140 ?_
              intro m28
              refine J_lv [1, 2, 3, 4] rfl ?_
              exact hk143 m28
        · intro k70 hk70
          refine J_icmp_ne 69 G dX9_reactions_57 (by decide) ?_ ?_
          · refine J_lconst (v := 0) G dX9_reactions_69 (by decide) ?_
            exact hk70 0
          · refine J_aload_n G 0 dX9_reactions_60 rfl ?_
            refine J_iload_n G 3 dX9_reactions_61 rfl ?_
            refine J_iconst G dX9_reactions_62 ?_
            refine J_cVpL (As := [vI x10, vI 0]) G (mX9_beside u x10 0 m9) sg_X9_beside sv_X9_beside wm_X9_189 cls_9 kd_149 rfl ⟨by decide, by decide⟩ rfl rfl (Nat.le_of_ble_eq_true rfl) dX9_reactions_63 ?_
            intro r29
            refine J_goto 70 G dX9_reactions_66 (by decide) ?_
            exact hk70 r29
      · intro k52 hk52
        refine J_if_ne 51 G dX9_reactions_39 (by decide) ?_ ?_
        · refine J_lconst (v := 0) G dX9_reactions_51 (by decide) ?_
          refine J_lv [1, 2, 3, 0] rfl ?_
          exact hk52 0
        · refine J_aload_n G 1 dX9_reactions_42 rfl ?_
          refine J_iload_n G 0 dX9_reactions_43 rfl ?_
          refine J_iconst G dX9_reactions_44 ?_
          refine J_cVpL (As := [vI x10, vI 1]) G (mX9_beside u x10 1 m9) sg_X9_beside sv_X9_beside wm_X9_189 cls_9 kd_149 rfl ⟨by decide, by decide⟩ rfl rfl (Nat.le_of_ble_eq_true rfl) dX9_reactions_45 ?_
          intro r30
          refine J_goto 52 G dX9_reactions_48 (by decide) ?_
          refine J_lv [1, 2, 3, 0] rfl ?_
          exact hk52 r30
theorem mX9_reactions (u : jU) (mem : Mem) : jMet u yX9_reactions cX9_reactions 5 none (jRm 5 133) [vR (uB u) 149] mem EwV (Mo_reactions mem) := by
  refine jMet_of (by decide +kernel) (Nat.le_of_ble_eq_true rfl) (fun x G => ?_)
  show J u x 5 (jQ u x EwV) 0 [(0, vR (uB u) 149)] [] mem _
  unfold Mo_reactions
  refine J_aload_n G 0 dX9_reactions_0 rfl ?_
  refine J_cVwV (As := []) G (mX9_moments u mem) sg_X9_moments sv_X9_moments wm_X9_179 cls_9 kd_149 rfl ⟨by decide, by decide⟩ rfl rfl (Nat.le_of_ble_eq_true rfl) dX9_reactions_1 ?_
  intro m1
  refine J_aload_n G 0 dX9_reactions_4 rfl ?_
  refine J_getR (d := 150) (k := 0) G cls_9 wf_X9_11 kd_149 rfl rfl dX9_reactions_5 ?_
  refine J_iconst G dX9_reactions_8 ?_
  refine J_ialdC G kd_150 ln_150 (by decide) dX9_reactions_9 ?_
  refine J_ltI (fun x2 => ?_)
  refine J_istore_n (lv' := [(1, vI x2), (0, vR (uB u) 149)]) G dX9_reactions_10 rfl (by decide) rfl ?_
  refine J_aload_n G 1 dX9_reactions_11 rfl ?_
  refine J_lconst (v := 1) G dX9_reactions_12 (by decide) ?_
  refine J_putL (i := 13) (k := 13) G cls_9 wf_X9_182 kd_149 rfl rfl rfl rfl dX9_reactions_13 ?_
  refine J_ltM (fun m3 => ?_)
  refine J_iconst G dX9_reactions_16 ?_
  refine J_istore_n (lv' := [(2, vI 0), (1, vI x2), (0, vR (uB u) 149)]) G dX9_reactions_17 rfl (by decide) rfl ?_
  refine J_jn (fun g => ∀ m4, J u x 5 (jQ u x EwV) 263 [(0, vR (uB u) 149), (1, vI x2)] [] m4 (g m4)) ?_ ?_
  · intro m4
    refine J_iconst G dX9_reactions_263 ?_
    refine J_istore_n (lv' := [(2, vI 0), (0, vR (uB u) 149), (1, vI x2)]) G dX9_reactions_264 rfl (by decide) rfl ?_
    refine J_lv [1, 2, 0] rfl ?_
    exact jMo_reactions_L265 G x2 2000 0 m4
  · intro k263 hk263
    refine J_lv [2, 1, 0] rfl ?_
    exact jMo_reactions_L18 G x2 k263 hk263 2000 0 m3
theorem mX9_stands (u : jU) (mem : Mem) : jMet u yX9_stands cX9_stands 1 (some .boolean) (jRm 0 0) [vR (uB u) 149] mem (EpI mem) (Mo_stands mem) := by
  refine jMet_of (by decide +kernel) (Nat.le_of_ble_eq_true rfl) (fun x G => ?_)
  show J u x 1 (jQ u x (EpI mem)) 0 [(0, vR (uB u) 149)] [] mem _
  unfold Mo_stands
  refine J_aload_n G 0 dX9_stands_0 rfl ?_
  refine J_getR (d := 150) (k := 0) G cls_9 wf_X9_11 kd_149 rfl rfl dX9_stands_1 ?_
  refine J_iconst G dX9_stands_4 ?_
  refine J_ialdC G kd_150 ln_150 (by decide) dX9_stands_5 ?_
  refine J_iconst G dX9_stands_6 ?_
  refine J_icmp_le 14 G dX9_stands_7 (by decide) ?_ ?_
  · refine J_iconst G dX9_stands_14 ?_
    exact J_zret G dX9_stands_15 (by decide) rfl
  · refine J_iconst G dX9_stands_10 ?_
    refine J_goto 15 G dX9_stands_11 (by decide) ?_
    exact J_zret G dX9_stands_15 (by decide) rfl
theorem mX9_reaction (u : jU) (p0 : Int) (p1 : Int) (mem : Mem) : jMet u yX9_reaction cX9_reaction 3 (some .long) (jRm 6 157) [vR (uB u) 149, vI p0, vI p1] mem EwL (Mo_reaction p0 p1 mem) := by
  refine jMet_of (by decide +kernel) (Nat.le_of_ble_eq_true rfl) (fun x G => ?_)
  show J u x 3 (jQ u x EwL) 0 [(0, vR (uB u) 149), (1, vI p0), (2, vI p1)] [] mem _
  unfold Mo_reaction
  refine J_aload_n G 0 dX9_reaction_0 rfl ?_
  refine J_iload_n G 1 dX9_reaction_1 rfl ?_
  refine J_cVpI (As := [vI p0]) G (mX9_isSupport u p0 mem) sg_X9_isSupport sv_X9_isSupport wm_X9_113 cls_9 kd_149 rfl ⟨by decide, by decide⟩ rfl rfl (Nat.le_of_ble_eq_true rfl) dX9_reaction_2 ?_
  intro r1
  refine J_if_eq 25 G dX9_reaction_5 (by decide) ?_ ?_
  · refine J_ldc2 (v := (-9223372036854775808)) G dX9_reaction_25 wc_X9_200 (by decide) ?_
    exact J_lret G dX9_reaction_28 rfl
  · refine J_iload_n G 2 dX9_reaction_8 rfl ?_
    refine J_i2l G dX9_reaction_9 ?_
    refine J_lconst (v := 0) G dX9_reaction_10 (by decide) ?_
    refine J_lconst (v := 1) G dX9_reaction_11 (by decide) ?_
    refine J_cSpI (As := [vL (s32 p1), vL 0, vL 1]) G (mX9_in u (s32 p1) 0 1 mem) sg_X9_in ss_X9_in wm_X9_82 ⟨by decide, by decide⟩ rfl rfl (Nat.le_of_ble_eq_true rfl) dX9_reaction_12 ?_
    intro r2
    refine J_if_eq 25 G dX9_reaction_15 (by decide) ?_ ?_
    · refine J_ldc2 (v := (-9223372036854775808)) G dX9_reaction_25 wc_X9_200 (by decide) ?_
      exact J_lret G dX9_reaction_28 rfl
    · refine J_aload_n G 0 dX9_reaction_18 rfl ?_
      refine J_cVpI (As := []) G (mX9_stands u mem) sg_X9_stands sv_X9_stands wm_X9_196 cls_9 kd_149 rfl ⟨by decide, by decide⟩ rfl rfl (Nat.le_of_ble_eq_true rfl) dX9_reaction_19 ?_
      intro r3
      refine J_if_ne 29 G dX9_reaction_22 (by decide) ?_ ?_
      · refine J_aload_n G 0 dX9_reaction_29 rfl ?_
        refine J_cVwV (As := []) G (mX9_reactions u mem) sg_X9_reactions sv_X9_reactions wm_X9_202 cls_9 kd_149 rfl ⟨by decide, by decide⟩ rfl rfl (Nat.le_of_ble_eq_true rfl) dX9_reaction_30 ?_
        intro m4
        refine J_aload_n G 0 dX9_reaction_33 rfl ?_
        refine J_aload_n G 0 dX9_reaction_34 rfl ?_
        refine J_getR (d := 157) (k := 11) G cls_9 wf_X9_38 kd_149 rfl rfl dX9_reaction_35 ?_
        refine J_iload_n G 1 dX9_reaction_38 rfl ?_
        refine J_lald G kd_157 ln_157 dX9_reaction_39 ?_
        refine J_aload_n G 0 dX9_reaction_40 rfl ?_
        refine J_getL (i := 13) (k := 13) G cls_9 wf_X9_182 kd_149 rfl rfl dX9_reaction_41 ?_
        refine J_cVwV (As := [vL (m4 157 (s32 p0)), vL (m4 149 13)]) G (mX9_is u (m4 157 (s32 p0)) (m4 149 13) m4) sg_X9_is sv_X9_is wm_X9_133 cls_9 kd_149 rfl ⟨by decide, by decide⟩ rfl rfl (Nat.le_of_ble_eq_true rfl) dX9_reaction_44 ?_
        intro m5
        refine J_iload_n G 2 dX9_reaction_47 rfl ?_
        refine J_if_ne 58 G dX9_reaction_48 (by decide) ?_ ?_
        · refine J_aload_n G 0 dX9_reaction_58 rfl ?_
          refine J_getL (i := 6) (k := 6) G cls_9 wf_X9_21 kd_149 rfl rfl dX9_reaction_59 ?_
          exact J_lret G dX9_reaction_62 rfl
        · refine J_aload_n G 0 dX9_reaction_51 rfl ?_
          refine J_getL (i := 5) (k := 5) G cls_9 wf_X9_130 kd_149 rfl rfl dX9_reaction_52 ?_
          refine J_goto 62 G dX9_reaction_55 (by decide) ?_
          exact J_lret G dX9_reaction_62 rfl
      · refine J_ldc2 (v := (-9223372036854775808)) G dX9_reaction_25 wc_X9_200 (by decide) ?_
        exact J_lret G dX9_reaction_28 rfl
