theorem jMo_momentAt_L77 {u : jU} {x : jX} (G : jG u x cX9_momentAt RX9 14 (some .long) (jRm 1 21)) (p0 : Int) (p1 : Int) (mem : Mem) (x1 : Int) (k219 : Int → Option Int) (hk219 : (fun g => ∀ x2, J u x 14 (jQ u x (EpL mem)) 219 [(0, vR (uB u) 149), (5, vL x1), (7, vL x2)] [] mem (g x2)) k219) : ∀ (n : Nat) (i3 : Int) (i4 : Int), J u x 14 (jQ u x (EpL mem)) 77 [(0, vR (uB u) 149), (1, vL p0), (3, vL p1), (5, vL x1), (7, vL i3), (9, vI i4)] [] mem (Mo_momentAt_L77 p0 p1 mem k219 n i3 i4) := by
  intro n
  induction n with
  | zero => intro i3 i4; exact J_none
  | succ n ih =>
    intro i3 i4
    rw [Mo_momentAt_L77]
    refine J_iload G 5 dX9_momentAt_77 rfl ?_
    refine J_aload_n G 0 dX9_momentAt_79 rfl ?_
    refine J_getR (d := 150) (k := 0) G cls_9 wf_X9_11 kd_149 rfl rfl dX9_momentAt_80 ?_
    refine J_bipush G dX9_momentAt_83 (by decide) ?_
    refine J_ialdC G kd_150 ln_150 (by decide) dX9_momentAt_85 ?_
    refine J_icmp_ge 219 G dX9_momentAt_86 (by decide) ?_ ?_
    · refine J_lv [0, 3, 4] rfl ?_
      exact hk219 i3
    · refine J_lload_n G 1 dX9_momentAt_89 rfl ?_
      refine J_lload_n G 2 dX9_momentAt_90 rfl ?_
      refine J_aload_n G 0 dX9_momentAt_91 rfl ?_
      refine J_getR (d := 150) (k := 0) G cls_9 wf_X9_11 kd_149 rfl rfl dX9_momentAt_92 ?_
      refine J_bipush G dX9_momentAt_95 (by decide) ?_
      refine J_iload G 5 dX9_momentAt_97 rfl ?_
      refine J_iadd G dX9_momentAt_99 ?_
      refine J_iald G kd_150 ln_150 dX9_momentAt_100 ?_
      refine J_i2l G dX9_momentAt_101 ?_
      refine J_lmul G dX9_momentAt_102 ?_
      refine J_lsub G dX9_momentAt_103 ?_
      refine J_ltL (fun x5 => ?_)
      refine J_lstore (lv' := [(10, vL x5), (0, vR (uB u) 149), (1, vL p0), (3, vL p1), (5, vL x1), (7, vL i3), (9, vI i4)]) G dX9_momentAt_104 (by decide) rfl ?_
      refine J_lload_n G 2 dX9_momentAt_106 rfl ?_
      refine J_lload_n G 3 dX9_momentAt_107 rfl ?_
      refine J_aload_n G 1 dX9_momentAt_108 rfl ?_
      refine J_getR (d := 150) (k := 0) G cls_9 wf_X9_11 kd_149 rfl rfl dX9_momentAt_109 ?_
      refine J_bipush G dX9_momentAt_112 (by decide) ?_
      refine J_iload G 6 dX9_momentAt_114 rfl ?_
      refine J_iadd G dX9_momentAt_116 ?_
      refine J_iald G kd_150 ln_150 dX9_momentAt_117 ?_
      refine J_i2l G dX9_momentAt_118 ?_
      refine J_lmul G dX9_momentAt_119 ?_
      refine J_lsub G dX9_momentAt_120 ?_
      refine J_ltL (fun x6 => ?_)
      refine J_lstore (lv' := [(12, vL x6), (10, vL x5), (0, vR (uB u) 149), (1, vL p0), (3, vL p1), (5, vL x1), (7, vL i3), (9, vI i4)]) G dX9_momentAt_121 (by decide) rfl ?_
      refine J_lload G 1 dX9_momentAt_123 rfl ?_
      refine J_lconst (v := 0) G dX9_momentAt_125 (by decide) ?_
      refine J_jn (fun g => J u x 14 (jQ u x (EpL mem)) 181 [(0, vR (uB u) 149), (1, vL p0), (3, vL p1), (5, vL x1), (7, vL i3), (9, vI i4), (10, vL x5)] [] mem (g)) ?_ ?_
      · skip
        refine J_lload G 6 dX9_momentAt_181 rfl ?_
        refine J_lconst (v := 0) G dX9_momentAt_183 (by decide) ?_
        refine J_lcmp_le 213 G dX9_momentAt_184 dX9_momentAt_185 (by decide) ?_ ?_
        · refine J_iinc (lv' := [(9, vI (i4 + 1)), (0, vR (uB u) 149), (1, vL p0), (3, vL p1), (5, vL x1), (7, vL i3), (10, vL x5)]) G 5 dX9_momentAt_213 rfl (by decide) rfl ?_
          refine J_goto 77 G dX9_momentAt_216 (by decide) ?_
          refine J_lv [1, 2, 3, 4, 5, 0] rfl ?_
          exact ih i3 (i4 + 1)
        · refine J_lload G 4 dX9_momentAt_188 rfl ?_
          refine J_ldc2 (v := 2) G dX9_momentAt_190 wc_X9_86 (by decide) ?_
          refine J_lload_n G 2 dX9_momentAt_193 rfl ?_
          refine J_lmul G dX9_momentAt_194 ?_
          refine J_lload G 6 dX9_momentAt_195 rfl ?_
          refine J_lmul G dX9_momentAt_197 ?_
          refine J_aload_n G 0 dX9_momentAt_198 rfl ?_
          refine J_getR (d := 150) (k := 0) G cls_9 wf_X9_11 kd_149 rfl rfl dX9_momentAt_199 ?_
          refine J_bipush G dX9_momentAt_202 (by decide) ?_
          refine J_iload G 5 dX9_momentAt_204 rfl ?_
          refine J_iadd G dX9_momentAt_206 ?_
          refine J_iald G kd_150 ln_150 dX9_momentAt_207 ?_
          refine J_i2l G dX9_momentAt_208 ?_
          refine J_lmul G dX9_momentAt_209 ?_
          refine J_ladd G dX9_momentAt_210 ?_
          refine J_ltL (fun x7 => ?_)
          refine J_lstore (lv' := [(7, vL x7), (0, vR (uB u) 149), (1, vL p0), (3, vL p1), (5, vL x1), (9, vI i4), (10, vL x5)]) G dX9_momentAt_211 (by decide) rfl ?_
          refine J_iinc (lv' := [(9, vI (i4 + 1)), (7, vL x7), (0, vR (uB u) 149), (1, vL p0), (3, vL p1), (5, vL x1), (10, vL x5)]) G 5 dX9_momentAt_213 rfl (by decide) rfl ?_
          refine J_goto 77 G dX9_momentAt_216 (by decide) ?_
          refine J_lv [2, 3, 4, 5, 1, 0] rfl ?_
          exact ih x7 (i4 + 1)
      · intro k181 hk181
        refine J_lcmp_le 181 G dX9_momentAt_126 dX9_momentAt_127 (by decide) ?_ ?_
        · refine J_lv [2, 3, 4, 5, 6, 7, 1] rfl ?_
          exact hk181
        · refine J_aload_n G 2 dX9_momentAt_130 rfl ?_
          refine J_iload G 7 dX9_momentAt_131 rfl ?_
          refine J_cVpI (As := [vI i4]) G (mX9_isSpread u i4 mem) sg_X9_isSpread sv_X9_isSpread wm_X9_144 cls_9 kd_149 rfl ⟨by decide, by decide⟩ rfl rfl (Nat.le_of_ble_eq_true rfl) dX9_momentAt_133 ?_
          intro r8
          refine J_if_eq 181 G dX9_momentAt_136 (by decide) ?_ ?_
          · refine J_lv [2, 3, 4, 5, 6, 7, 1] rfl ?_
            exact hk181
          · refine J_lload G 6 dX9_momentAt_139 rfl ?_
            refine J_aload_n G 2 dX9_momentAt_141 rfl ?_
            refine J_getR (d := 150) (k := 0) G cls_9 wf_X9_11 kd_149 rfl rfl dX9_momentAt_142 ?_
            refine J_bipush G dX9_momentAt_145 (by decide) ?_
            refine J_iload G 7 dX9_momentAt_147 rfl ?_
            refine J_iadd G dX9_momentAt_149 ?_
            refine J_iald G kd_150 ln_150 dX9_momentAt_150 ?_
            refine J_i2l G dX9_momentAt_151 ?_
            refine J_lload G 1 dX9_momentAt_152 rfl ?_
            refine J_lload G 1 dX9_momentAt_154 rfl ?_
            refine J_lmul G dX9_momentAt_156 ?_
            refine J_lload G 0 dX9_momentAt_157 rfl ?_
            refine J_lconst (v := 0) G dX9_momentAt_159 (by decide) ?_
            refine J_jn (fun g => ∀ x9, J u x 14 (jQ u x (EpL mem)) 173 [(0, vR (uB u) 149), (1, vL p0), (3, vL p1), (5, vL x1), (9, vI i4)] [vL x9, vL (x5 * x5), vL (s32 (mem 150 (s32 (23 + i4)))), vL i3] mem (g x9)) ?_ ?_
            · intro x9
              refine J_lsub G dX9_momentAt_173 ?_
              refine J_lmul G dX9_momentAt_174 ?_
              refine J_ladd G dX9_momentAt_175 ?_
              refine J_ltL (fun x10 => ?_)
              refine J_lstore (lv' := [(7, vL x10), (0, vR (uB u) 149), (1, vL p0), (3, vL p1), (5, vL x1), (9, vI i4)]) G dX9_momentAt_176 (by decide) rfl ?_
              refine J_goto 213 G dX9_momentAt_178 (by decide) ?_
              refine J_iinc (lv' := [(9, vI (i4 + 1)), (7, vL x10), (0, vR (uB u) 149), (1, vL p0), (3, vL p1), (5, vL x1)]) G 5 dX9_momentAt_213 rfl (by decide) rfl ?_
              refine J_goto 77 G dX9_momentAt_216 (by decide) ?_
              refine J_lv [2, 3, 4, 5, 1, 0] rfl ?_
              exact ih x10 (i4 + 1)
            · intro k173 hk173
              refine J_lcmp_le 172 G dX9_momentAt_160 dX9_momentAt_161 (by decide) ?_ ?_
              · refine J_lconst (v := 0) G dX9_momentAt_172 (by decide) ?_
                refine J_lv [2, 3, 4, 5, 7] rfl ?_
                exact hk173 0
              · refine J_lload G 0 dX9_momentAt_164 rfl ?_
                refine J_lload G 0 dX9_momentAt_166 rfl ?_
                refine J_lmul G dX9_momentAt_168 ?_
                refine J_goto 173 G dX9_momentAt_169 (by decide) ?_
                refine J_lv [2, 3, 4, 5, 7] rfl ?_
                exact hk173 (x6 * x6)
theorem jMo_momentAt_L6 {u : jU} {x : jX} (G : jG u x cX9_momentAt RX9 14 (some .long) (jRm 1 21)) (p0 : Int) (p1 : Int) (mem : Mem) (k71 : Int → Option Int) (hk71 : (fun g => ∀ x1, J u x 14 (jQ u x (EpL mem)) 71 [(0, vR (uB u) 149), (1, vL p0), (3, vL p1), (5, vL x1)] [] mem (g x1)) k71) : ∀ (n : Nat) (i11 : Int) (i12 : Int), J u x 14 (jQ u x (EpL mem)) 6 [(0, vR (uB u) 149), (1, vL p0), (3, vL p1), (5, vL i11), (7, vI i12)] [] mem (Mo_momentAt_L6 p0 p1 mem k71 n i11 i12) := by
  intro n
  induction n with
  | zero => intro i11 i12; exact J_none
  | succ n ih =>
    intro i11 i12
    rw [Mo_momentAt_L6]
    refine J_iload G 4 dX9_momentAt_6 rfl ?_
    refine J_aload_n G 0 dX9_momentAt_8 rfl ?_
    refine J_getR (d := 150) (k := 0) G cls_9 wf_X9_11 kd_149 rfl rfl dX9_momentAt_9 ?_
    refine J_iconst G dX9_momentAt_12 ?_
    refine J_ialdC G kd_150 ln_150 (by decide) dX9_momentAt_13 ?_
    refine J_icmp_ge 71 G dX9_momentAt_14 (by decide) ?_ ?_
    · refine J_lv [0, 1, 2, 3] rfl ?_
      exact hk71 i11
    · refine J_lload_n G 1 dX9_momentAt_17 rfl ?_
      refine J_lload_n G 2 dX9_momentAt_18 rfl ?_
      refine J_aload_n G 0 dX9_momentAt_19 rfl ?_
      refine J_getR (d := 150) (k := 0) G cls_9 wf_X9_11 kd_149 rfl rfl dX9_momentAt_20 ?_
      refine J_iconst G dX9_momentAt_23 ?_
      refine J_iload G 4 dX9_momentAt_24 rfl ?_
      refine J_iadd G dX9_momentAt_26 ?_
      refine J_iald G kd_150 ln_150 dX9_momentAt_27 ?_
      refine J_i2l G dX9_momentAt_28 ?_
      refine J_lmul G dX9_momentAt_29 ?_
      refine J_lsub G dX9_momentAt_30 ?_
      refine J_ltL (fun x13 => ?_)
      refine J_lstore (lv' := [(8, vL x13), (0, vR (uB u) 149), (1, vL p0), (3, vL p1), (5, vL i11), (7, vI i12)]) G dX9_momentAt_31 (by decide) rfl ?_
      refine J_lload G 4 dX9_momentAt_33 rfl ?_
      refine J_lload G 0 dX9_momentAt_35 rfl ?_
      refine J_lconst (v := 0) G dX9_momentAt_37 (by decide) ?_
      refine J_jn (fun g => ∀ x14, J u x 14 (jQ u x (EpL mem)) 62 [(0, vR (uB u) 149), (1, vL p0), (3, vL p1), (7, vI i12)] [vL x14, vL i11] mem (g x14)) ?_ ?_
      · intro x14
        refine J_ladd G dX9_momentAt_62 ?_
        refine J_ltL (fun x15 => ?_)
        refine J_lstore (lv' := [(5, vL x15), (0, vR (uB u) 149), (1, vL p0), (3, vL p1), (7, vI i12)]) G dX9_momentAt_63 (by decide) rfl ?_
        refine J_iinc (lv' := [(7, vI (i12 + 1)), (5, vL x15), (0, vR (uB u) 149), (1, vL p0), (3, vL p1)]) G 4 dX9_momentAt_65 rfl (by decide) rfl ?_
        refine J_goto 6 G dX9_momentAt_68 (by decide) ?_
        refine J_lv [2, 3, 4, 1, 0] rfl ?_
        exact ih x15 (i12 + 1)
      · intro k62 hk62
        refine J_lcmp_le 61 G dX9_momentAt_38 dX9_momentAt_39 (by decide) ?_ ?_
        · refine J_lconst (v := 0) G dX9_momentAt_61 (by decide) ?_
          refine J_lv [1, 2, 3, 5] rfl ?_
          exact hk62 0
        · refine J_ldc2 (v := 2) G dX9_momentAt_42 wc_X9_86 (by decide) ?_
          refine J_lload_n G 3 dX9_momentAt_45 rfl ?_
          refine J_lmul G dX9_momentAt_46 ?_
          refine J_lload G 0 dX9_momentAt_47 rfl ?_
          refine J_lmul G dX9_momentAt_49 ?_
          refine J_aload_n G 1 dX9_momentAt_50 rfl ?_
          refine J_getR (d := 157) (k := 11) G cls_9 wf_X9_38 kd_149 rfl rfl dX9_momentAt_51 ?_
          refine J_iload G 5 dX9_momentAt_54 rfl ?_
          refine J_lald G kd_157 ln_157 dX9_momentAt_56 ?_
          refine J_lmul G dX9_momentAt_57 ?_
          refine J_goto 62 G dX9_momentAt_58 (by decide) ?_
          refine J_lv [1, 2, 3, 5] rfl ?_
          exact hk62 (((2 * p1) * x13) * (mem 157 (s32 i12)))
theorem mX9_momentAt (u : jU) (p0 : Int) (p1 : Int) (mem : Mem) : jMet u yX9_momentAt cX9_momentAt 14 (some .long) (jRm 1 21) [vR (uB u) 149, vL p0, vL p1] mem (EpL mem) (Mo_momentAt p0 p1 mem) := by
  refine jMet_of (by decide +kernel) (Nat.le_of_ble_eq_true rfl) (fun x G => ?_)
  show J u x 14 (jQ u x (EpL mem)) 0 [(0, vR (uB u) 149), (1, vL p0), (3, vL p1)] [] mem _
  unfold Mo_momentAt
  refine J_lconst (v := 0) G dX9_momentAt_0 (by decide) ?_
  refine J_lstore (lv' := [(5, vL 0), (0, vR (uB u) 149), (1, vL p0), (3, vL p1)]) G dX9_momentAt_1 (by decide) rfl ?_
  refine J_iconst G dX9_momentAt_3 ?_
  refine J_istore (lv' := [(7, vI 0), (5, vL 0), (0, vR (uB u) 149), (1, vL p0), (3, vL p1)]) G dX9_momentAt_4 (by decide) rfl ?_
  refine J_jn (fun g => ∀ x1, J u x 14 (jQ u x (EpL mem)) 71 [(0, vR (uB u) 149), (1, vL p0), (3, vL p1), (5, vL x1)] [] mem (g x1)) ?_ ?_
  · intro x1
    refine J_lconst (v := 0) G dX9_momentAt_71 (by decide) ?_
    refine J_lstore (lv' := [(7, vL 0), (0, vR (uB u) 149), (1, vL p0), (3, vL p1), (5, vL x1)]) G dX9_momentAt_72 (by decide) rfl ?_
    refine J_iconst G dX9_momentAt_74 ?_
    refine J_istore (lv' := [(9, vI 0), (7, vL 0), (0, vR (uB u) 149), (1, vL p0), (3, vL p1), (5, vL x1)]) G dX9_momentAt_75 (by decide) rfl ?_
    refine J_jn (fun g => ∀ x2, J u x 14 (jQ u x (EpL mem)) 219 [(0, vR (uB u) 149), (5, vL x1), (7, vL x2)] [] mem (g x2)) ?_ ?_
    · intro x2
      refine J_lload G 1 dX9_momentAt_219 rfl ?_
      refine J_aload_n G 0 dX9_momentAt_221 rfl ?_
      refine J_getL (i := 13) (k := 13) G cls_9 wf_X9_182 kd_149 rfl rfl dX9_momentAt_222 ?_
      refine J_lload G 2 dX9_momentAt_225 rfl ?_
      refine J_lmul G dX9_momentAt_227 ?_
      refine J_lsub G dX9_momentAt_228 ?_
      exact J_lret G dX9_momentAt_229 rfl
    · intro k219 hk219
      refine J_lv [2, 3, 4, 5, 1, 0] rfl ?_
      exact jMo_momentAt_L77 G p0 p1 mem x1 k219 hk219 2000 0 0
  · intro k71 hk71
    refine J_lv [2, 3, 4, 1, 0] rfl ?_
    exact jMo_momentAt_L6 G p0 p1 mem k71 hk71 2000 0 0
theorem jMo_shearBehind_L5 {u : jU} {x : jX} (G : jG u x cX9_shearBehind RX9 6 (some .long) (jRm 2 46)) (p0 : Int) (mem : Mem) (k49 : Int → Option Int) (hk49 : (fun g => ∀ x1, J u x 6 (jQ u x (EpL mem)) 49 [(0, vR (uB u) 149), (1, vI p0), (2, vL x1)] [] mem (g x1)) k49) : ∀ (n : Nat) (i5 : Int) (i6 : Int), J u x 6 (jQ u x (EpL mem)) 5 [(0, vR (uB u) 149), (1, vI p0), (2, vL i5), (4, vI i6)] [] mem (Mo_shearBehind_L5 p0 mem k49 n i5 i6) := by
  intro n
  induction n with
  | zero => intro i5 i6; exact J_none
  | succ n ih =>
    intro i5 i6
    rw [Mo_shearBehind_L5]
    refine J_iload G 3 dX9_shearBehind_5 rfl ?_
    refine J_aload_n G 0 dX9_shearBehind_7 rfl ?_
    refine J_getR (d := 150) (k := 0) G cls_9 wf_X9_11 kd_149 rfl rfl dX9_shearBehind_8 ?_
    refine J_iconst G dX9_shearBehind_11 ?_
    refine J_ialdC G kd_150 ln_150 (by decide) dX9_shearBehind_12 ?_
    refine J_icmp_ge 49 G dX9_shearBehind_13 (by decide) ?_ ?_
    · refine J_lv [0, 1, 2] rfl ?_
      exact hk49 i5
    · refine J_lload_n G 2 dX9_shearBehind_16 rfl ?_
      refine J_aload_n G 0 dX9_shearBehind_17 rfl ?_
      refine J_getR (d := 150) (k := 0) G cls_9 wf_X9_11 kd_149 rfl rfl dX9_shearBehind_18 ?_
      refine J_iconst G dX9_shearBehind_21 ?_
      refine J_iload G 3 dX9_shearBehind_22 rfl ?_
      refine J_iadd G dX9_shearBehind_24 ?_
      refine J_iald G kd_150 ln_150 dX9_shearBehind_25 ?_
      refine J_iload_n G 1 dX9_shearBehind_26 rfl ?_
      refine J_jn (fun g => ∀ x7, J u x 6 (jQ u x (EpL mem)) 41 [(0, vR (uB u) 149), (1, vI p0), (4, vI i6)] [vL x7, vL i5] mem (g x7)) ?_ ?_
      · intro x7
        refine J_ladd G dX9_shearBehind_41 ?_
        refine J_ltL (fun x8 => ?_)
        refine J_lstore_n (lv' := [(2, vL x8), (0, vR (uB u) 149), (1, vI p0), (4, vI i6)]) G dX9_shearBehind_42 rfl (by decide) rfl ?_
        refine J_iinc (lv' := [(4, vI (i6 + 1)), (2, vL x8), (0, vR (uB u) 149), (1, vI p0)]) G 3 dX9_shearBehind_43 rfl (by decide) rfl ?_
        refine J_goto 5 G dX9_shearBehind_46 (by decide) ?_
        refine J_lv [2, 3, 1, 0] rfl ?_
        exact ih x8 (i6 + 1)
      · intro k41 hk41
        refine J_icmp_gt 40 G dX9_shearBehind_27 (by decide) ?_ ?_
        · refine J_lconst (v := 0) G dX9_shearBehind_40 (by decide) ?_
          refine J_lv [0, 1, 3] rfl ?_
          exact hk41 0
        · refine J_aload_n G 0 dX9_shearBehind_30 rfl ?_
          refine J_getR (d := 157) (k := 11) G cls_9 wf_X9_38 kd_149 rfl rfl dX9_shearBehind_31 ?_
          refine J_iload G 3 dX9_shearBehind_34 rfl ?_
          refine J_lald G kd_157 ln_157 dX9_shearBehind_36 ?_
          refine J_goto 41 G dX9_shearBehind_37 (by decide) ?_
          refine J_lv [0, 1, 3] rfl ?_
          exact hk41 (mem 157 (s32 i6))
theorem mX9_shearBehind (u : jU) (p0 : Int) (mem : Mem) : jMet u yX9_shearBehind cX9_shearBehind 6 (some .long) (jRm 2 46) [vR (uB u) 149, vI p0] mem (EpL mem) (Mo_shearBehind p0 mem) := by
  refine jMet_of (by decide +kernel) (Nat.le_of_ble_eq_true rfl) (fun x G => ?_)
  show J u x 6 (jQ u x (EpL mem)) 0 [(0, vR (uB u) 149), (1, vI p0)] [] mem _
  unfold Mo_shearBehind
  refine J_lconst (v := 0) G dX9_shearBehind_0 (by decide) ?_
  refine J_lstore_n (lv' := [(2, vL 0), (0, vR (uB u) 149), (1, vI p0)]) G dX9_shearBehind_1 rfl (by decide) rfl ?_
  refine J_iconst G dX9_shearBehind_2 ?_
  refine J_istore (lv' := [(4, vI 0), (2, vL 0), (0, vR (uB u) 149), (1, vI p0)]) G dX9_shearBehind_3 (by decide) rfl ?_
  refine J_jn (fun g => ∀ x1, J u x 6 (jQ u x (EpL mem)) 49 [(0, vR (uB u) 149), (1, vI p0), (2, vL x1)] [] mem (g x1)) ?_ ?_
  · intro x1
    refine J_aload_n G 0 dX9_shearBehind_49 rfl ?_
    refine J_iload_n G 1 dX9_shearBehind_50 rfl ?_
    refine J_cVpL (As := [vI p0]) G (mX9_pointsAt u p0 mem) sg_X9_pointsAt sv_X9_pointsAt wm_X9_185 cls_9 kd_149 rfl ⟨by decide, by decide⟩ rfl rfl (Nat.le_of_ble_eq_true rfl) dX9_shearBehind_51 ?_
    intro r2
    refine J_aload_n G 0 dX9_shearBehind_54 rfl ?_
    refine J_iload_n G 1 dX9_shearBehind_55 rfl ?_
    refine J_iconst G dX9_shearBehind_56 ?_
    refine J_cVpL (As := [vI p0, vI 1]) G (mX9_beside u p0 1 mem) sg_X9_beside sv_X9_beside wm_X9_189 cls_9 kd_149 rfl ⟨by decide, by decide⟩ rfl rfl (Nat.le_of_ble_eq_true rfl) dX9_shearBehind_57 ?_
    intro r3
    refine J_ladd G dX9_shearBehind_60 ?_
    refine J_ltL (fun x4 => ?_)
    refine J_lstore (lv' := [(4, vL x4), (0, vR (uB u) 149), (1, vI p0), (2, vL x1)]) G dX9_shearBehind_61 (by decide) rfl ?_
    refine J_lload_n G 3 dX9_shearBehind_63 rfl ?_
    refine J_aload_n G 1 dX9_shearBehind_64 rfl ?_
    refine J_getL (i := 13) (k := 13) G cls_9 wf_X9_182 kd_149 rfl rfl dX9_shearBehind_65 ?_
    refine J_lload G 0 dX9_shearBehind_68 rfl ?_
    refine J_lmul G dX9_shearBehind_70 ?_
    refine J_lsub G dX9_shearBehind_71 ?_
    exact J_lret G dX9_shearBehind_72 rfl
  · intro k49 hk49
    refine J_lv [2, 3, 1, 0] rfl ?_
    exact jMo_shearBehind_L5 G p0 mem k49 hk49 2000 0 0
theorem jMo_spreadOn_L4 {u : jU} {x : jX} (G : jG u x cX9_spreadOn RX9 4 (some .int) (jRm 0 0)) (p0 : Int) (mem : Mem) : ∀ (n : Nat) (i1 : Int) (i2 : Int), J u x 4 (jQ u x (EpI mem)) 4 [(0, vR (uB u) 149), (1, vI p0), (2, vI i1), (3, vI i2)] [] mem (Mo_spreadOn_L4 p0 mem n i1 i2) := by
  intro n
  induction n with
  | zero => intro i1 i2; exact J_none
  | succ n ih =>
    intro i1 i2
    rw [Mo_spreadOn_L4]
    refine J_iload_n G 3 dX9_spreadOn_4 rfl ?_
    refine J_aload_n G 0 dX9_spreadOn_5 rfl ?_
    refine J_getR (d := 150) (k := 0) G cls_9 wf_X9_11 kd_149 rfl rfl dX9_spreadOn_6 ?_
    refine J_bipush G dX9_spreadOn_9 (by decide) ?_
    refine J_ialdC G kd_150 ln_150 (by decide) dX9_spreadOn_11 ?_
    refine J_icmp_ge 63 G dX9_spreadOn_12 (by decide) ?_ ?_
    · refine J_iload_n G 2 dX9_spreadOn_63 rfl ?_
      exact J_iret G dX9_spreadOn_64 rfl
    · refine J_iload_n G 2 dX9_spreadOn_15 rfl ?_
      refine J_aload_n G 0 dX9_spreadOn_16 rfl ?_
      refine J_getR (d := 150) (k := 0) G cls_9 wf_X9_11 kd_149 rfl rfl dX9_spreadOn_17 ?_
      refine J_bipush G dX9_spreadOn_20 (by decide) ?_
      refine J_iload_n G 3 dX9_spreadOn_22 rfl ?_
      refine J_iadd G dX9_spreadOn_23 ?_
      refine J_iald G kd_150 ln_150 dX9_spreadOn_24 ?_
      refine J_iload_n G 1 dX9_spreadOn_25 rfl ?_
      refine J_jn (fun g => ∀ x3, J u x 4 (jQ u x (EpI mem)) 55 [(0, vR (uB u) 149), (1, vI p0), (3, vI i2)] [vI x3, vI i1] mem (g x3)) ?_ ?_
      · intro x3
        refine J_iadd G dX9_spreadOn_55 ?_
        refine J_ltI (fun x4 => ?_)
        refine J_istore_n (lv' := [(2, vI x4), (0, vR (uB u) 149), (1, vI p0), (3, vI i2)]) G dX9_spreadOn_56 rfl (by decide) rfl ?_
        refine J_iinc (lv' := [(3, vI (i2 + 1)), (2, vI x4), (0, vR (uB u) 149), (1, vI p0)]) G 3 dX9_spreadOn_57 rfl (by decide) rfl ?_
        refine J_goto 4 G dX9_spreadOn_60 (by decide) ?_
        refine J_lv [2, 3, 1, 0] rfl ?_
        exact ih x4 (i2 + 1)
      · intro k55 hk55
        refine J_jn (fun g => J u x 4 (jQ u x (EpI mem)) 54 [(0, vR (uB u) 149), (1, vI p0), (3, vI i2)] [vI i1] mem (g)) ?_ ?_
        · skip
          refine J_iconst G dX9_spreadOn_54 ?_
          exact hk55 0
        · intro k54 hk54
          refine J_icmp_gt 54 G dX9_spreadOn_26 (by decide) ?_ ?_
          · refine J_lv [0, 1, 3] rfl ?_
            exact hk54
          · refine J_aload_n G 0 dX9_spreadOn_29 rfl ?_
            refine J_getR (d := 150) (k := 0) G cls_9 wf_X9_11 kd_149 rfl rfl dX9_spreadOn_30 ?_
            refine J_bipush G dX9_spreadOn_33 (by decide) ?_
            refine J_iload_n G 3 dX9_spreadOn_35 rfl ?_
            refine J_iadd G dX9_spreadOn_36 ?_
            refine J_iald G kd_150 ln_150 dX9_spreadOn_37 ?_
            refine J_iload_n G 1 dX9_spreadOn_38 rfl ?_
            refine J_icmp_le 54 G dX9_spreadOn_39 (by decide) ?_ ?_
            · refine J_lv [0, 1, 3] rfl ?_
              exact hk54
            · refine J_aload_n G 0 dX9_spreadOn_42 rfl ?_
              refine J_getR (d := 150) (k := 0) G cls_9 wf_X9_11 kd_149 rfl rfl dX9_spreadOn_43 ?_
              refine J_bipush G dX9_spreadOn_46 (by decide) ?_
              refine J_iload_n G 3 dX9_spreadOn_48 rfl ?_
              refine J_iadd G dX9_spreadOn_49 ?_
              refine J_iald G kd_150 ln_150 dX9_spreadOn_50 ?_
              refine J_goto 55 G dX9_spreadOn_51 (by decide) ?_
              refine J_lv [0, 1, 3] rfl ?_
              exact hk55 (mem 150 (s32 (23 + i2)))
theorem mX9_spreadOn (u : jU) (p0 : Int) (mem : Mem) : jMet u yX9_spreadOn cX9_spreadOn 4 (some .int) (jRm 0 0) [vR (uB u) 149, vI p0] mem (EpI mem) (Mo_spreadOn p0 mem) := by
  refine jMet_of (by decide +kernel) (Nat.le_of_ble_eq_true rfl) (fun x G => ?_)
  show J u x 4 (jQ u x (EpI mem)) 0 [(0, vR (uB u) 149), (1, vI p0)] [] mem _
  unfold Mo_spreadOn
  refine J_iconst G dX9_spreadOn_0 ?_
  refine J_istore_n (lv' := [(2, vI 0), (0, vR (uB u) 149), (1, vI p0)]) G dX9_spreadOn_1 rfl (by decide) rfl ?_
  refine J_iconst G dX9_spreadOn_2 ?_
  refine J_istore_n (lv' := [(3, vI 0), (2, vI 0), (0, vR (uB u) 149), (1, vI p0)]) G dX9_spreadOn_3 rfl (by decide) rfl ?_
  refine J_lv [2, 3, 1, 0] rfl ?_
  exact jMo_spreadOn_L4 G p0 mem 2000 0 0
theorem mX9_shear (u : jU) (p0 : Int) (p1 : Int) (mem : Mem) : jMet u yX9_shear cX9_shear 3 (some .long) (jRm 6 157) [vR (uB u) 149, vI p0, vI p1] mem EwL (Mo_shear p0 p1 mem) := by
  refine jMet_of (by decide +kernel) (Nat.le_of_ble_eq_true rfl) (fun x G => ?_)
  show J u x 3 (jQ u x EwL) 0 [(0, vR (uB u) 149), (1, vI p0), (2, vI p1)] [] mem _
  unfold Mo_shear
  refine J_aload_n G 0 dX9_shear_0 rfl ?_
  refine J_iload_n G 1 dX9_shear_1 rfl ?_
  refine J_cVpI (As := [vI p0]) G (mX9_isPlace u p0 mem) sg_X9_isPlace sv_X9_isPlace wm_X9_90 cls_9 kd_149 rfl ⟨by decide, by decide⟩ rfl rfl (Nat.le_of_ble_eq_true rfl) dX9_shear_2 ?_
  intro r1
  refine J_if_eq 25 G dX9_shear_5 (by decide) ?_ ?_
  · refine J_ldc2 (v := (-9223372036854775808)) G dX9_shear_25 wc_X9_200 (by decide) ?_
    exact J_lret G dX9_shear_28 rfl
  · refine J_iload_n G 2 dX9_shear_8 rfl ?_
    refine J_i2l G dX9_shear_9 ?_
    refine J_lconst (v := 0) G dX9_shear_10 (by decide) ?_
    refine J_lconst (v := 1) G dX9_shear_11 (by decide) ?_
    refine J_cSpI (As := [vL (s32 p1), vL 0, vL 1]) G (mX9_in u (s32 p1) 0 1 mem) sg_X9_in ss_X9_in wm_X9_82 ⟨by decide, by decide⟩ rfl rfl (Nat.le_of_ble_eq_true rfl) dX9_shear_12 ?_
    intro r2
    refine J_if_eq 25 G dX9_shear_15 (by decide) ?_ ?_
    · refine J_ldc2 (v := (-9223372036854775808)) G dX9_shear_25 wc_X9_200 (by decide) ?_
      exact J_lret G dX9_shear_28 rfl
    · refine J_aload_n G 0 dX9_shear_18 rfl ?_
      refine J_cVpI (As := []) G (mX9_stands u mem) sg_X9_stands sv_X9_stands wm_X9_196 cls_9 kd_149 rfl ⟨by decide, by decide⟩ rfl rfl (Nat.le_of_ble_eq_true rfl) dX9_shear_19 ?_
      intro r3
      refine J_if_ne 29 G dX9_shear_22 (by decide) ?_ ?_
      · refine J_aload_n G 0 dX9_shear_29 rfl ?_
        refine J_cVwV (As := []) G (mX9_reactions u mem) sg_X9_reactions sv_X9_reactions wm_X9_202 cls_9 kd_149 rfl ⟨by decide, by decide⟩ rfl rfl (Nat.le_of_ble_eq_true rfl) dX9_shear_30 ?_
        intro m4
        refine J_aload_n G 0 dX9_shear_33 rfl ?_
        refine J_aload_n G 0 dX9_shear_34 rfl ?_
        refine J_iload_n G 1 dX9_shear_35 rfl ?_
        refine J_cVpL (As := [vI p0]) G (mX9_shearBehind u p0 m4) sg_X9_shearBehind sv_X9_shearBehind wm_X9_205 cls_9 kd_149 rfl ⟨by decide, by decide⟩ rfl rfl (Nat.le_of_ble_eq_true rfl) dX9_shear_36 ?_
        intro r5
        refine J_aload_n G 0 dX9_shear_39 rfl ?_
        refine J_getL (i := 13) (k := 13) G cls_9 wf_X9_182 kd_149 rfl rfl dX9_shear_40 ?_
        refine J_cVwV (As := [vL r5, vL (m4 149 13)]) G (mX9_is u r5 (m4 149 13) m4) sg_X9_is sv_X9_is wm_X9_133 cls_9 kd_149 rfl ⟨by decide, by decide⟩ rfl rfl (Nat.le_of_ble_eq_true rfl) dX9_shear_43 ?_
        intro m6
        refine J_iload_n G 2 dX9_shear_46 rfl ?_
        refine J_if_ne 57 G dX9_shear_47 (by decide) ?_ ?_
        · refine J_aload_n G 0 dX9_shear_57 rfl ?_
          refine J_getL (i := 6) (k := 6) G cls_9 wf_X9_21 kd_149 rfl rfl dX9_shear_58 ?_
          exact J_lret G dX9_shear_61 rfl
        · refine J_aload_n G 0 dX9_shear_50 rfl ?_
          refine J_getL (i := 5) (k := 5) G cls_9 wf_X9_130 kd_149 rfl rfl dX9_shear_51 ?_
          refine J_goto 61 G dX9_shear_54 (by decide) ?_
          exact J_lret G dX9_shear_61 rfl
      · refine J_ldc2 (v := (-9223372036854775808)) G dX9_shear_25 wc_X9_200 (by decide) ?_
        exact J_lret G dX9_shear_28 rfl
theorem mX9_moment (u : jU) (p0 : Int) (p1 : Int) (p2 : Int) (mem : Mem) : jMet u yX9_moment cX9_moment 4 (some .long) (jRm 6 157) [vR (uB u) 149, vI p0, vI p1, vI p2] mem EwL (Mo_moment p0 p1 p2 mem) := by
  refine jMet_of (by decide +kernel) (Nat.le_of_ble_eq_true rfl) (fun x G => ?_)
  show J u x 4 (jQ u x EwL) 0 [(0, vR (uB u) 149), (1, vI p0), (2, vI p1), (3, vI p2)] [] mem _
  unfold Mo_moment
  refine J_iload_n G 2 dX9_moment_0 rfl ?_
  refine J_i2l G dX9_moment_1 ?_
  refine J_lconst (v := 1) G dX9_moment_2 (by decide) ?_
  refine J_ldc2 (v := 100) G dX9_moment_3 wc_X9_208 (by decide) ?_
  refine J_cSpI (As := [vL (s32 p1), vL 1, vL 100]) G (mX9_in u (s32 p1) 1 100 mem) sg_X9_in ss_X9_in wm_X9_82 ⟨by decide, by decide⟩ rfl rfl (Nat.le_of_ble_eq_true rfl) dX9_moment_6 ?_
  intro r1
  refine J_if_eq 48 G dX9_moment_9 (by decide) ?_ ?_
  · refine J_ldc2 (v := (-9223372036854775808)) G dX9_moment_48 wc_X9_200 (by decide) ?_
    exact J_lret G dX9_moment_51 rfl
  · refine J_iload_n G 1 dX9_moment_12 rfl ?_
    refine J_i2l G dX9_moment_13 ?_
    refine J_lconst (v := 0) G dX9_moment_14 (by decide) ?_
    refine J_iload_n G 2 dX9_moment_15 rfl ?_
    refine J_i2l G dX9_moment_16 ?_
    refine J_aload_n G 0 dX9_moment_17 rfl ?_
    refine J_getR (d := 150) (k := 0) G cls_9 wf_X9_11 kd_149 rfl rfl dX9_moment_18 ?_
    refine J_iconst G dX9_moment_21 ?_
    refine J_ialdC G kd_150 ln_150 (by decide) dX9_moment_22 ?_
    refine J_i2l G dX9_moment_23 ?_
    refine J_lmul G dX9_moment_24 ?_
    refine J_cSpI (As := [vL (s32 p0), vL 0, vL ((s32 p1) * (s32 (mem 150 0)))]) G (mX9_in u (s32 p0) 0 ((s32 p1) * (s32 (mem 150 0))) mem) sg_X9_in ss_X9_in wm_X9_82 ⟨by decide, by decide⟩ rfl rfl (Nat.le_of_ble_eq_true rfl) dX9_moment_25 ?_
    intro r2
    refine J_if_eq 48 G dX9_moment_28 (by decide) ?_ ?_
    · refine J_ldc2 (v := (-9223372036854775808)) G dX9_moment_48 wc_X9_200 (by decide) ?_
      exact J_lret G dX9_moment_51 rfl
    · refine J_iload_n G 3 dX9_moment_31 rfl ?_
      refine J_i2l G dX9_moment_32 ?_
      refine J_lconst (v := 0) G dX9_moment_33 (by decide) ?_
      refine J_lconst (v := 1) G dX9_moment_34 (by decide) ?_
      refine J_cSpI (As := [vL (s32 p2), vL 0, vL 1]) G (mX9_in u (s32 p2) 0 1 mem) sg_X9_in ss_X9_in wm_X9_82 ⟨by decide, by decide⟩ rfl rfl (Nat.le_of_ble_eq_true rfl) dX9_moment_35 ?_
      intro r3
      refine J_if_eq 48 G dX9_moment_38 (by decide) ?_ ?_
      · refine J_ldc2 (v := (-9223372036854775808)) G dX9_moment_48 wc_X9_200 (by decide) ?_
        exact J_lret G dX9_moment_51 rfl
      · refine J_aload_n G 0 dX9_moment_41 rfl ?_
        refine J_cVpI (As := []) G (mX9_stands u mem) sg_X9_stands sv_X9_stands wm_X9_196 cls_9 kd_149 rfl ⟨by decide, by decide⟩ rfl rfl (Nat.le_of_ble_eq_true rfl) dX9_moment_42 ?_
        intro r4
        refine J_if_ne 52 G dX9_moment_45 (by decide) ?_ ?_
        · refine J_aload_n G 0 dX9_moment_52 rfl ?_
          refine J_cVwV (As := []) G (mX9_reactions u mem) sg_X9_reactions sv_X9_reactions wm_X9_202 cls_9 kd_149 rfl ⟨by decide, by decide⟩ rfl rfl (Nat.le_of_ble_eq_true rfl) dX9_moment_53 ?_
          intro m5
          refine J_aload_n G 0 dX9_moment_56 rfl ?_
          refine J_aload_n G 0 dX9_moment_57 rfl ?_
          refine J_iload_n G 1 dX9_moment_58 rfl ?_
          refine J_i2l G dX9_moment_59 ?_
          refine J_iload_n G 2 dX9_moment_60 rfl ?_
          refine J_i2l G dX9_moment_61 ?_
          refine J_cVpL (As := [vL (s32 p0), vL (s32 p1)]) G (mX9_momentAt u (s32 p0) (s32 p1) m5) sg_X9_momentAt sv_X9_momentAt wm_X9_210 cls_9 kd_149 rfl ⟨by decide, by decide⟩ rfl rfl (Nat.le_of_ble_eq_true rfl) dX9_moment_62 ?_
          intro r6
          refine J_ldc2 (v := 2) G dX9_moment_65 wc_X9_86 (by decide) ?_
          refine J_iload_n G 2 dX9_moment_68 rfl ?_
          refine J_i2l G dX9_moment_69 ?_
          refine J_lmul G dX9_moment_70 ?_
          refine J_iload_n G 2 dX9_moment_71 rfl ?_
          refine J_i2l G dX9_moment_72 ?_
          refine J_lmul G dX9_moment_73 ?_
          refine J_aload_n G 0 dX9_moment_74 rfl ?_
          refine J_getL (i := 13) (k := 13) G cls_9 wf_X9_182 kd_149 rfl rfl dX9_moment_75 ?_
          refine J_lmul G dX9_moment_78 ?_
          refine J_cVwV (As := [vL r6, vL (((2 * (s32 p1)) * (s32 p1)) * (m5 149 13))]) G (mX9_is u r6 (((2 * (s32 p1)) * (s32 p1)) * (m5 149 13)) m5) sg_X9_is sv_X9_is wm_X9_133 cls_9 kd_149 rfl ⟨by decide, by decide⟩ rfl rfl (Nat.le_of_ble_eq_true rfl) dX9_moment_79 ?_
          intro m7
          refine J_iload_n G 3 dX9_moment_82 rfl ?_
          refine J_if_ne 93 G dX9_moment_83 (by decide) ?_ ?_
          · refine J_aload_n G 0 dX9_moment_93 rfl ?_
            refine J_getL (i := 6) (k := 6) G cls_9 wf_X9_21 kd_149 rfl rfl dX9_moment_94 ?_
            exact J_lret G dX9_moment_97 rfl
          · refine J_aload_n G 0 dX9_moment_86 rfl ?_
            refine J_getL (i := 5) (k := 5) G cls_9 wf_X9_130 kd_149 rfl rfl dX9_moment_87 ?_
            refine J_goto 97 G dX9_moment_90 (by decide) ?_
            exact J_lret G dX9_moment_97 rfl
        · refine J_ldc2 (v := (-9223372036854775808)) G dX9_moment_48 wc_X9_200 (by decide) ?_
          exact J_lret G dX9_moment_51 rfl
theorem jMo_sagAt_L186 {u : jU} {x : jX} (G : jG u x cX9_sagAt RX9 14 (some .long) (jRm 3 71)) (p0 : Int) (x2 : Int) (x3 : Int) (k290 : Mem → Option (Int × Mem)) (hk290 : (fun g => ∀ m7, J u x 14 (jQ u x EwL) 290 [(0, vR (uB u) 149), (1, vI p0), (3, vI x2), (4, vI x3)] [] m7 (g m7)) k290) : ∀ (n : Nat) (i8 : Int) (i9 : Int) (m10 : Mem), J u x 14 (jQ u x EwL) 186 [(0, vR (uB u) 149), (1, vI p0), (3, vI x2), (4, vI x3), (5, vL i8), (7, vI i9)] [] m10 (Mo_sagAt_L186 k290 n i8 i9 m10) := by
  intro n
  induction n with
  | zero => intro i8 i9 m10; exact J_none
  | succ n ih =>
    intro i8 i9 m10
    rw [Mo_sagAt_L186]
    refine J_iload G 5 dX9_sagAt_186 rfl ?_
    refine J_if_lt 290 G dX9_sagAt_188 (by decide) ?_ ?_
    · refine J_lv [0, 1, 2, 3] rfl ?_
      exact hk290 m10
    · refine J_aload_n G 0 dX9_sagAt_191 rfl ?_
      refine J_iload G 5 dX9_sagAt_192 rfl ?_
      refine J_i2l G dX9_sagAt_194 ?_
      refine J_lconst (v := 1) G dX9_sagAt_195 (by decide) ?_
      refine J_cVpL (As := [vL (s32 i9), vL 1]) G (mX9_momentAt u (s32 i9) 1 m10) sg_X9_momentAt sv_X9_momentAt wm_X9_210 cls_9 kd_149 rfl ⟨by decide, by decide⟩ rfl rfl (Nat.le_of_ble_eq_true rfl) dX9_sagAt_196 ?_
      intro r11
      refine J_lstore (lv' := [(8, vL r11), (0, vR (uB u) 149), (1, vI p0), (3, vI x2), (4, vI x3), (5, vL i8), (7, vI i9)]) G dX9_sagAt_199 (by decide) rfl ?_
      refine J_aload_n G 1 dX9_sagAt_201 rfl ?_
      refine J_iload G 6 dX9_sagAt_202 rfl ?_
      refine J_cVpL (As := [vI i9]) G (mX9_shearBehind u i9 m10) sg_X9_shearBehind sv_X9_shearBehind wm_X9_205 cls_9 kd_149 rfl ⟨by decide, by decide⟩ rfl rfl (Nat.le_of_ble_eq_true rfl) dX9_sagAt_204 ?_
      intro r12
      refine J_lstore (lv' := [(10, vL r12), (8, vL r11), (0, vR (uB u) 149), (1, vI p0), (3, vI x2), (4, vI x3), (5, vL i8), (7, vI i9)]) G dX9_sagAt_207 (by decide) rfl ?_
      refine J_aload_n G 2 dX9_sagAt_209 rfl ?_
      refine J_iload G 7 dX9_sagAt_210 rfl ?_
      refine J_cVpI (As := [vI i9]) G (mX9_spreadOn u i9 m10) sg_X9_spreadOn sv_X9_spreadOn wm_X9_213 cls_9 kd_149 rfl ⟨by decide, by decide⟩ rfl rfl (Nat.le_of_ble_eq_true rfl) dX9_sagAt_212 ?_
      intro r13
      refine J_i2l G dX9_sagAt_215 ?_
      refine J_aload_n G 2 dX9_sagAt_216 rfl ?_
      refine J_getL (i := 13) (k := 13) G cls_9 wf_X9_182 kd_149 rfl rfl dX9_sagAt_217 ?_
      refine J_lmul G dX9_sagAt_220 ?_
      refine J_ltL (fun x14 => ?_)
      refine J_lstore (lv' := [(12, vL x14), (10, vL r12), (8, vL r11), (0, vR (uB u) 149), (1, vI p0), (3, vI x2), (4, vI x3), (5, vL i8), (7, vI i9)]) G dX9_sagAt_221 (by decide) rfl ?_
      refine J_lload G 7 dX9_sagAt_223 rfl ?_
      refine J_ldc2 (v := 12) G dX9_sagAt_225 wc_X9_218 (by decide) ?_
      refine J_lload G 2 dX9_sagAt_228 rfl ?_
      refine J_lmul G dX9_sagAt_230 ?_
      refine J_ldc2 (v := 12) G dX9_sagAt_231 wc_X9_218 (by decide) ?_
      refine J_lload G 1 dX9_sagAt_234 rfl ?_
      refine J_lmul G dX9_sagAt_236 ?_
      refine J_ladd G dX9_sagAt_237 ?_
      refine J_ldc2 (v := 4) G dX9_sagAt_238 wc_X9_150 (by decide) ?_
      refine J_lload G 0 dX9_sagAt_241 rfl ?_
      refine J_lmul G dX9_sagAt_243 ?_
      refine J_lsub G dX9_sagAt_244 ?_
      refine J_lsub G dX9_sagAt_245 ?_
      refine J_ltL (fun x15 => ?_)
      refine J_lstore (lv' := [(5, vL x15), (12, vL x14), (10, vL r12), (8, vL r11), (0, vR (uB u) 149), (1, vI p0), (3, vI x2), (4, vI x3), (7, vI i9)]) G dX9_sagAt_246 (by decide) rfl ?_
      refine J_aload_n G 4 dX9_sagAt_248 rfl ?_
      refine J_getR (d := 159) (k := 14) G cls_9 wf_X9_44 kd_149 rfl rfl dX9_sagAt_249 ?_
      refine J_iload G 8 dX9_sagAt_252 rfl ?_
      refine J_aload_n G 4 dX9_sagAt_254 rfl ?_
      refine J_getR (d := 159) (k := 14) G cls_9 wf_X9_44 kd_149 rfl rfl dX9_sagAt_255 ?_
      refine J_iload G 8 dX9_sagAt_258 rfl ?_
      refine J_iconst G dX9_sagAt_260 ?_
      refine J_iadd G dX9_sagAt_261 ?_
      refine J_lald G kd_159 ln_159 dX9_sagAt_262 ?_
      refine J_lload G 0 dX9_sagAt_263 rfl ?_
      refine J_lsub G dX9_sagAt_265 ?_
      refine J_ldc2 (v := 6) G dX9_sagAt_266 wc_X9_216 (by decide) ?_
      refine J_lload G 3 dX9_sagAt_269 rfl ?_
      refine J_lmul G dX9_sagAt_271 ?_
      refine J_lsub G dX9_sagAt_272 ?_
      refine J_ldc2 (v := 4) G dX9_sagAt_273 wc_X9_150 (by decide) ?_
      refine J_lload G 2 dX9_sagAt_276 rfl ?_
      refine J_lmul G dX9_sagAt_278 ?_
      refine J_lsub G dX9_sagAt_279 ?_
      refine J_lload G 1 dX9_sagAt_280 rfl ?_
      refine J_ladd G dX9_sagAt_282 ?_
      refine J_last G kd_159 ln_159 dX9_sagAt_283 ?_
      refine J_ltM (fun m16 => ?_)
      refine J_iinc (lv' := [(7, vI (i9 + -1)), (5, vL x15), (12, vL x14), (10, vL r12), (8, vL r11), (0, vR (uB u) 149), (1, vI p0), (3, vI x2), (4, vI x3)]) G 8 dX9_sagAt_284 rfl (by decide) rfl ?_
      refine J_goto 186 G dX9_sagAt_287 (by decide) ?_
      refine J_lv [5, 6, 7, 8, 1, 0] rfl ?_
      exact ih x15 (i9 + -1) m16
theorem jMo_sagAt_L68 {u : jU} {x : jX} (G : jG u x cX9_sagAt RX9 14 (some .long) (jRm 3 71)) (p0 : Int) (x2 : Int) (x3 : Int) (k178 : Mem → Option (Int × Mem)) (hk178 : (fun g => ∀ m5, J u x 14 (jQ u x EwL) 178 [(0, vR (uB u) 149), (1, vI p0), (3, vI x2), (4, vI x3)] [] m5 (g m5)) k178) : ∀ (n : Nat) (i17 : Int) (i18 : Int) (m19 : Mem), J u x 14 (jQ u x EwL) 68 [(0, vR (uB u) 149), (1, vI p0), (3, vI x2), (4, vI x3), (5, vL i17), (7, vI i18)] [] m19 (Mo_sagAt_L68 k178 n i17 i18 m19) := by
  intro n
  induction n with
  | zero => intro i17 i18 m19; exact J_none
  | succ n ih =>
    intro i17 i18 m19
    rw [Mo_sagAt_L68]
    refine J_iload G 5 dX9_sagAt_68 rfl ?_
    refine J_aload_n G 0 dX9_sagAt_70 rfl ?_
    refine J_getR (d := 150) (k := 0) G cls_9 wf_X9_11 kd_149 rfl rfl dX9_sagAt_71 ?_
    refine J_iconst G dX9_sagAt_74 ?_
    refine J_ialdC G kd_150 ln_150 (by decide) dX9_sagAt_75 ?_
    refine J_icmp_ge 178 G dX9_sagAt_76 (by decide) ?_ ?_
    · refine J_lv [0, 1, 2, 3] rfl ?_
      exact hk178 m19
    · refine J_aload_n G 0 dX9_sagAt_79 rfl ?_
      refine J_iload G 5 dX9_sagAt_80 rfl ?_
      refine J_i2l G dX9_sagAt_82 ?_
      refine J_lconst (v := 1) G dX9_sagAt_83 (by decide) ?_
      refine J_cVpL (As := [vL (s32 i18), vL 1]) G (mX9_momentAt u (s32 i18) 1 m19) sg_X9_momentAt sv_X9_momentAt wm_X9_210 cls_9 kd_149 rfl ⟨by decide, by decide⟩ rfl rfl (Nat.le_of_ble_eq_true rfl) dX9_sagAt_84 ?_
      intro r20
      refine J_lstore (lv' := [(8, vL r20), (0, vR (uB u) 149), (1, vI p0), (3, vI x2), (4, vI x3), (5, vL i17), (7, vI i18)]) G dX9_sagAt_87 (by decide) rfl ?_
      refine J_aload_n G 1 dX9_sagAt_89 rfl ?_
      refine J_iload G 6 dX9_sagAt_90 rfl ?_
      refine J_cVpL (As := [vI i18]) G (mX9_shearBehind u i18 m19) sg_X9_shearBehind sv_X9_shearBehind wm_X9_205 cls_9 kd_149 rfl ⟨by decide, by decide⟩ rfl rfl (Nat.le_of_ble_eq_true rfl) dX9_sagAt_92 ?_
      intro r21
      refine J_lstore (lv' := [(10, vL r21), (8, vL r20), (0, vR (uB u) 149), (1, vI p0), (3, vI x2), (4, vI x3), (5, vL i17), (7, vI i18)]) G dX9_sagAt_95 (by decide) rfl ?_
      refine J_aload_n G 2 dX9_sagAt_97 rfl ?_
      refine J_iload G 7 dX9_sagAt_98 rfl ?_
      refine J_cVpI (As := [vI i18]) G (mX9_spreadOn u i18 m19) sg_X9_spreadOn sv_X9_spreadOn wm_X9_213 cls_9 kd_149 rfl ⟨by decide, by decide⟩ rfl rfl (Nat.le_of_ble_eq_true rfl) dX9_sagAt_100 ?_
      intro r22
      refine J_i2l G dX9_sagAt_103 ?_
      refine J_aload_n G 2 dX9_sagAt_104 rfl ?_
      refine J_getL (i := 13) (k := 13) G cls_9 wf_X9_182 kd_149 rfl rfl dX9_sagAt_105 ?_
      refine J_lmul G dX9_sagAt_108 ?_
      refine J_ltL (fun x23 => ?_)
      refine J_lstore (lv' := [(12, vL x23), (10, vL r21), (8, vL r20), (0, vR (uB u) 149), (1, vI p0), (3, vI x2), (4, vI x3), (5, vL i17), (7, vI i18)]) G dX9_sagAt_109 (by decide) rfl ?_
      refine J_aload_n G 3 dX9_sagAt_111 rfl ?_
      refine J_getR (d := 159) (k := 14) G cls_9 wf_X9_44 kd_149 rfl rfl dX9_sagAt_112 ?_
      refine J_iload G 8 dX9_sagAt_115 rfl ?_
      refine J_iconst G dX9_sagAt_117 ?_
      refine J_iadd G dX9_sagAt_118 ?_
      refine J_aload_n G 3 dX9_sagAt_119 rfl ?_
      refine J_getR (d := 159) (k := 14) G cls_9 wf_X9_44 kd_149 rfl rfl dX9_sagAt_120 ?_
      refine J_iload G 8 dX9_sagAt_123 rfl ?_
      refine J_lald G kd_159 ln_159 dX9_sagAt_125 ?_
      refine J_lload G 7 dX9_sagAt_126 rfl ?_
      refine J_ladd G dX9_sagAt_128 ?_
      refine J_ldc2 (v := 6) G dX9_sagAt_129 wc_X9_216 (by decide) ?_
      refine J_lload G 2 dX9_sagAt_132 rfl ?_
      refine J_lmul G dX9_sagAt_134 ?_
      refine J_ladd G dX9_sagAt_135 ?_
      refine J_ldc2 (v := 4) G dX9_sagAt_136 wc_X9_150 (by decide) ?_
      refine J_lload G 1 dX9_sagAt_139 rfl ?_
      refine J_lmul G dX9_sagAt_141 ?_
      refine J_ladd G dX9_sagAt_142 ?_
      refine J_lload G 0 dX9_sagAt_143 rfl ?_
      refine J_lsub G dX9_sagAt_145 ?_
      refine J_last G kd_159 ln_159 dX9_sagAt_146 ?_
      refine J_ltM (fun m24 => ?_)
      refine J_lload G 7 dX9_sagAt_147 rfl ?_
      refine J_ldc2 (v := 12) G dX9_sagAt_149 wc_X9_218 (by decide) ?_
      refine J_lload G 2 dX9_sagAt_152 rfl ?_
      refine J_lmul G dX9_sagAt_154 ?_
      refine J_ldc2 (v := 12) G dX9_sagAt_155 wc_X9_218 (by decide) ?_
      refine J_lload G 1 dX9_sagAt_158 rfl ?_
      refine J_lmul G dX9_sagAt_160 ?_
      refine J_ladd G dX9_sagAt_161 ?_
      refine J_ldc2 (v := 4) G dX9_sagAt_162 wc_X9_150 (by decide) ?_
      refine J_lload G 0 dX9_sagAt_165 rfl ?_
      refine J_lmul G dX9_sagAt_167 ?_
      refine J_lsub G dX9_sagAt_168 ?_
      refine J_ladd G dX9_sagAt_169 ?_
      refine J_ltL (fun x25 => ?_)
      refine J_lstore (lv' := [(5, vL x25), (12, vL x23), (10, vL r21), (8, vL r20), (0, vR (uB u) 149), (1, vI p0), (3, vI x2), (4, vI x3), (7, vI i18)]) G dX9_sagAt_170 (by decide) rfl ?_
      refine J_iinc (lv' := [(7, vI (i18 + 1)), (5, vL x25), (12, vL x23), (10, vL r21), (8, vL r20), (0, vR (uB u) 149), (1, vI p0), (3, vI x2), (4, vI x3)]) G 8 dX9_sagAt_172 rfl (by decide) rfl ?_
      refine J_goto 68 G dX9_sagAt_175 (by decide) ?_
      refine J_lv [5, 6, 7, 8, 1, 0] rfl ?_
      exact ih x25 (i18 + 1) m24
theorem jMo_sagAt_L2 {u : jU} {x : jX} (G : jG u x cX9_sagAt RX9 14 (some .long) (jRm 3 71)) (p0 : Int) (mem : Mem) (k34 : Int → Option (Int × Mem)) (hk34 : (fun g => ∀ x1, J u x 14 (jQ u x EwL) 34 [(0, vR (uB u) 149), (1, vI p0), (2, vI x1)] [] mem (g x1)) k34) : ∀ (n : Nat) (i26 : Int), J u x 14 (jQ u x EwL) 2 [(0, vR (uB u) 149), (1, vI p0), (2, vI i26)] [] mem (Mo_sagAt_L2 p0 mem k34 n i26) := by
  intro n
  induction n with
  | zero => intro i26; exact J_none
  | succ n ih =>
    intro i26
    rw [Mo_sagAt_L2]
    refine J_iload_n G 2 dX9_sagAt_2 rfl ?_
    refine J_aload_n G 0 dX9_sagAt_3 rfl ?_
    refine J_getR (d := 150) (k := 0) G cls_9 wf_X9_11 kd_149 rfl rfl dX9_sagAt_4 ?_
    refine J_iconst G dX9_sagAt_7 ?_
    refine J_ialdC G kd_150 ln_150 (by decide) dX9_sagAt_8 ?_
    refine J_iconst G dX9_sagAt_9 ?_
    refine J_isub G dX9_sagAt_10 ?_
    refine J_icmp_ge 34 G dX9_sagAt_11 (by decide) ?_ ?_
    · exact hk34 i26
    · refine J_aload_n G 0 dX9_sagAt_14 rfl ?_
      refine J_getR (d := 150) (k := 0) G cls_9 wf_X9_11 kd_149 rfl rfl dX9_sagAt_15 ?_
      refine J_iconst G dX9_sagAt_18 ?_
      refine J_iload_n G 2 dX9_sagAt_19 rfl ?_
      refine J_iadd G dX9_sagAt_20 ?_
      refine J_iconst G dX9_sagAt_21 ?_
      refine J_iadd G dX9_sagAt_22 ?_
      refine J_iald G kd_150 ln_150 dX9_sagAt_23 ?_
      refine J_iload_n G 1 dX9_sagAt_24 rfl ?_
      refine J_icmp_ge 34 G dX9_sagAt_25 (by decide) ?_ ?_
      · exact hk34 i26
      · refine J_iinc (lv' := [(2, vI (i26 + 1)), (0, vR (uB u) 149), (1, vI p0)]) G 2 dX9_sagAt_28 rfl (by decide) rfl ?_
        refine J_goto 2 G dX9_sagAt_31 (by decide) ?_
        refine J_lv [1, 2, 0] rfl ?_
        exact ih (i26 + 1)
theorem mX9_sagAt (u : jU) (p0 : Int) (mem : Mem) : jMet u yX9_sagAt cX9_sagAt 14 (some .long) (jRm 3 71) [vR (uB u) 149, vI p0] mem EwL (Mo_sagAt p0 mem) := by
  refine jMet_of (by decide +kernel) (Nat.le_of_ble_eq_true rfl) (fun x G => ?_)
  show J u x 14 (jQ u x EwL) 0 [(0, vR (uB u) 149), (1, vI p0)] [] mem _
  unfold Mo_sagAt
  refine J_iconst G dX9_sagAt_0 ?_
  refine J_istore_n (lv' := [(2, vI 0), (0, vR (uB u) 149), (1, vI p0)]) G dX9_sagAt_1 rfl (by decide) rfl ?_
  refine J_jn (fun g => ∀ x1, J u x 14 (jQ u x EwL) 34 [(0, vR (uB u) 149), (1, vI p0), (2, vI x1)] [] mem (g x1)) ?_ ?_
  · intro x1
    refine J_aload_n G 0 dX9_sagAt_34 rfl ?_
    refine J_getR (d := 150) (k := 0) G cls_9 wf_X9_11 kd_149 rfl rfl dX9_sagAt_35 ?_
    refine J_iconst G dX9_sagAt_38 ?_
    refine J_iload_n G 2 dX9_sagAt_39 rfl ?_
    refine J_iadd G dX9_sagAt_40 ?_
    refine J_iald G kd_150 ln_150 dX9_sagAt_41 ?_
    refine J_ltI (fun x2 => ?_)
    refine J_istore_n (lv' := [(3, vI x2), (0, vR (uB u) 149), (1, vI p0), (2, vI x1)]) G dX9_sagAt_42 rfl (by decide) rfl ?_
    refine J_aload_n G 1 dX9_sagAt_43 rfl ?_
    refine J_getR (d := 150) (k := 0) G cls_9 wf_X9_11 kd_149 rfl rfl dX9_sagAt_44 ?_
    refine J_iconst G dX9_sagAt_47 ?_
    refine J_iload_n G 3 dX9_sagAt_48 rfl ?_
    refine J_iadd G dX9_sagAt_49 ?_
    refine J_iconst G dX9_sagAt_50 ?_
    refine J_iadd G dX9_sagAt_51 ?_
    refine J_iald G kd_150 ln_150 dX9_sagAt_52 ?_
    refine J_ltI (fun x3 => ?_)
    refine J_istore (lv' := [(4, vI x3), (3, vI x2), (0, vR (uB u) 149), (1, vI p0), (2, vI x1)]) G dX9_sagAt_53 (by decide) rfl ?_
    refine J_lconst (v := 0) G dX9_sagAt_55 (by decide) ?_
    refine J_lstore (lv' := [(5, vL 0), (4, vI x3), (3, vI x2), (0, vR (uB u) 149), (1, vI p0), (2, vI x1)]) G dX9_sagAt_56 (by decide) rfl ?_
    refine J_aload_n G 3 dX9_sagAt_58 rfl ?_
    refine J_getR (d := 159) (k := 14) G cls_9 wf_X9_44 kd_149 rfl rfl dX9_sagAt_59 ?_
    refine J_iload_n G 2 dX9_sagAt_62 rfl ?_
    refine J_lconst (v := 0) G dX9_sagAt_63 (by decide) ?_
    refine J_last G kd_159 ln_159 dX9_sagAt_64 ?_
    refine J_ltM (fun m4 => ?_)
    refine J_iload_n G 2 dX9_sagAt_65 rfl ?_
    refine J_istore (lv' := [(7, vI x2), (5, vL 0), (4, vI x3), (3, vI x2), (0, vR (uB u) 149), (1, vI p0), (2, vI x1)]) G dX9_sagAt_66 (by decide) rfl ?_
    refine J_jn (fun g => ∀ m5, J u x 14 (jQ u x EwL) 178 [(0, vR (uB u) 149), (1, vI p0), (3, vI x2), (4, vI x3)] [] m5 (g m5)) ?_ ?_
    · intro m5
      refine J_lconst (v := 0) G dX9_sagAt_178 (by decide) ?_
      refine J_lstore (lv' := [(5, vL 0), (0, vR (uB u) 149), (1, vI p0), (3, vI x2), (4, vI x3)]) G dX9_sagAt_179 (by decide) rfl ?_
      refine J_iload_n G 3 dX9_sagAt_181 rfl ?_
      refine J_iconst G dX9_sagAt_182 ?_
      refine J_isub G dX9_sagAt_183 ?_
      refine J_ltI (fun x6 => ?_)
      refine J_istore (lv' := [(7, vI x6), (5, vL 0), (0, vR (uB u) 149), (1, vI p0), (3, vI x2), (4, vI x3)]) G dX9_sagAt_184 (by decide) rfl ?_
      refine J_jn (fun g => ∀ m7, J u x 14 (jQ u x EwL) 290 [(0, vR (uB u) 149), (1, vI p0), (3, vI x2), (4, vI x3)] [] m7 (g m7)) ?_ ?_
      · intro m7
        refine J_aload_n G 0 dX9_sagAt_290 rfl ?_
        refine J_getR (d := 159) (k := 14) G cls_9 wf_X9_44 kd_149 rfl rfl dX9_sagAt_291 ?_
        refine J_iload G 3 dX9_sagAt_294 rfl ?_
        refine J_lald G kd_159 ln_159 dX9_sagAt_296 ?_
        refine J_iload_n G 1 dX9_sagAt_297 rfl ?_
        refine J_iload_n G 2 dX9_sagAt_298 rfl ?_
        refine J_isub G dX9_sagAt_299 ?_
        refine J_i2l G dX9_sagAt_300 ?_
        refine J_lmul G dX9_sagAt_301 ?_
        refine J_aload_n G 0 dX9_sagAt_302 rfl ?_
        refine J_getR (d := 159) (k := 14) G cls_9 wf_X9_44 kd_149 rfl rfl dX9_sagAt_303 ?_
        refine J_iload_n G 1 dX9_sagAt_306 rfl ?_
        refine J_lald G kd_159 ln_159 dX9_sagAt_307 ?_
        refine J_iload G 3 dX9_sagAt_308 rfl ?_
        refine J_iload_n G 2 dX9_sagAt_310 rfl ?_
        refine J_isub G dX9_sagAt_311 ?_
        refine J_i2l G dX9_sagAt_312 ?_
        refine J_lmul G dX9_sagAt_313 ?_
        refine J_lsub G dX9_sagAt_314 ?_
        exact J_lret G dX9_sagAt_315 rfl
      · intro k290 hk290
        refine J_lv [2, 3, 4, 5, 1, 0] rfl ?_
        exact jMo_sagAt_L186 G p0 x2 x3 k290 hk290 2000 0 x6 m5
    · intro k178 hk178
      refine J_lv [4, 5, 3, 2, 1, 0] rfl ?_
      exact jMo_sagAt_L68 G p0 x2 x3 k178 hk178 2000 0 x2 m4
  · intro k34 hk34
    refine J_lv [1, 2, 0] rfl ?_
    exact jMo_sagAt_L2 G p0 mem k34 hk34 2000 0
theorem jMo_wideAt_L2 {u : jU} {x : jX} (G : jG u x cX9_wideAt RX9 3 (some .int) (jRm 1 21)) (p0 : Int) (mem : Mem) (k34 : Int → Option Int) (hk34 : (fun g => ∀ x1, J u x 3 (jQ u x (EpI mem)) 34 [(0, vR (uB u) 149), (2, vI x1)] [] mem (g x1)) k34) : ∀ (n : Nat) (i3 : Int), J u x 3 (jQ u x (EpI mem)) 2 [(0, vR (uB u) 149), (1, vI p0), (2, vI i3)] [] mem (Mo_wideAt_L2 p0 mem k34 n i3) := by
  intro n
  induction n with
  | zero => intro i3; exact J_none
  | succ n ih =>
    intro i3
    rw [Mo_wideAt_L2]
    refine J_iload_n G 2 dX9_wideAt_2 rfl ?_
    refine J_aload_n G 0 dX9_wideAt_3 rfl ?_
    refine J_getR (d := 150) (k := 0) G cls_9 wf_X9_11 kd_149 rfl rfl dX9_wideAt_4 ?_
    refine J_iconst G dX9_wideAt_7 ?_
    refine J_ialdC G kd_150 ln_150 (by decide) dX9_wideAt_8 ?_
    refine J_iconst G dX9_wideAt_9 ?_
    refine J_isub G dX9_wideAt_10 ?_
    refine J_icmp_ge 34 G dX9_wideAt_11 (by decide) ?_ ?_
    · refine J_lv [0, 2] rfl ?_
      exact hk34 i3
    · refine J_aload_n G 0 dX9_wideAt_14 rfl ?_
      refine J_getR (d := 150) (k := 0) G cls_9 wf_X9_11 kd_149 rfl rfl dX9_wideAt_15 ?_
      refine J_iconst G dX9_wideAt_18 ?_
      refine J_iload_n G 2 dX9_wideAt_19 rfl ?_
      refine J_iadd G dX9_wideAt_20 ?_
      refine J_iconst G dX9_wideAt_21 ?_
      refine J_iadd G dX9_wideAt_22 ?_
      refine J_iald G kd_150 ln_150 dX9_wideAt_23 ?_
      refine J_iload_n G 1 dX9_wideAt_24 rfl ?_
      refine J_icmp_ge 34 G dX9_wideAt_25 (by decide) ?_ ?_
      · refine J_lv [0, 2] rfl ?_
        exact hk34 i3
      · refine J_iinc (lv' := [(2, vI (i3 + 1)), (0, vR (uB u) 149), (1, vI p0)]) G 2 dX9_wideAt_28 rfl (by decide) rfl ?_
        refine J_goto 2 G dX9_wideAt_31 (by decide) ?_
        refine J_lv [1, 2, 0] rfl ?_
        exact ih (i3 + 1)
theorem mX9_wideAt (u : jU) (p0 : Int) (mem : Mem) : jMet u yX9_wideAt cX9_wideAt 3 (some .int) (jRm 1 21) [vR (uB u) 149, vI p0] mem (EpI mem) (Mo_wideAt p0 mem) := by
  refine jMet_of (by decide +kernel) (Nat.le_of_ble_eq_true rfl) (fun x G => ?_)
  show J u x 3 (jQ u x (EpI mem)) 0 [(0, vR (uB u) 149), (1, vI p0)] [] mem _
  unfold Mo_wideAt
  refine J_iconst G dX9_wideAt_0 ?_
  refine J_istore_n (lv' := [(2, vI 0), (0, vR (uB u) 149), (1, vI p0)]) G dX9_wideAt_1 rfl (by decide) rfl ?_
  refine J_jn (fun g => ∀ x1, J u x 3 (jQ u x (EpI mem)) 34 [(0, vR (uB u) 149), (2, vI x1)] [] mem (g x1)) ?_ ?_
  · intro x1
    refine J_aload_n G 0 dX9_wideAt_34 rfl ?_
    refine J_iload_n G 1 dX9_wideAt_35 rfl ?_
    refine J_cVpI (As := [vI x1]) G (mX9_spanOf u x1 mem) sg_X9_spanOf sv_X9_spanOf wm_X9_152 cls_9 kd_149 rfl ⟨by decide, by decide⟩ rfl rfl (Nat.le_of_ble_eq_true rfl) dX9_wideAt_36 ?_
    intro r2
    exact J_iret G dX9_wideAt_39 rfl
  · intro k34 hk34
    refine J_lv [1, 2, 0] rfl ?_
    exact jMo_wideAt_L2 G p0 mem k34 hk34 2000 0
theorem mX9_sag (u : jU) (p0 : Int) (p1 : Int) (mem : Mem) : jMet u yX9_sag cX9_sag 3 (some .long) (jRm 6 157) [vR (uB u) 149, vI p0, vI p1] mem EwL (Mo_sag p0 p1 mem) := by
  refine jMet_of (by decide +kernel) (Nat.le_of_ble_eq_true rfl) (fun x G => ?_)
  show J u x 3 (jQ u x EwL) 0 [(0, vR (uB u) 149), (1, vI p0), (2, vI p1)] [] mem _
  unfold Mo_sag
  refine J_aload_n G 0 dX9_sag_0 rfl ?_
  refine J_iload_n G 1 dX9_sag_1 rfl ?_
  refine J_cVpI (As := [vI p0]) G (mX9_isPlace u p0 mem) sg_X9_isPlace sv_X9_isPlace wm_X9_90 cls_9 kd_149 rfl ⟨by decide, by decide⟩ rfl rfl (Nat.le_of_ble_eq_true rfl) dX9_sag_2 ?_
  intro r1
  refine J_if_eq 25 G dX9_sag_5 (by decide) ?_ ?_
  · refine J_ldc2 (v := (-9223372036854775808)) G dX9_sag_25 wc_X9_200 (by decide) ?_
    exact J_lret G dX9_sag_28 rfl
  · refine J_iload_n G 2 dX9_sag_8 rfl ?_
    refine J_i2l G dX9_sag_9 ?_
    refine J_lconst (v := 0) G dX9_sag_10 (by decide) ?_
    refine J_lconst (v := 1) G dX9_sag_11 (by decide) ?_
    refine J_cSpI (As := [vL (s32 p1), vL 0, vL 1]) G (mX9_in u (s32 p1) 0 1 mem) sg_X9_in ss_X9_in wm_X9_82 ⟨by decide, by decide⟩ rfl rfl (Nat.le_of_ble_eq_true rfl) dX9_sag_12 ?_
    intro r2
    refine J_if_eq 25 G dX9_sag_15 (by decide) ?_ ?_
    · refine J_ldc2 (v := (-9223372036854775808)) G dX9_sag_25 wc_X9_200 (by decide) ?_
      exact J_lret G dX9_sag_28 rfl
    · refine J_aload_n G 0 dX9_sag_18 rfl ?_
      refine J_cVpI (As := []) G (mX9_stands u mem) sg_X9_stands sv_X9_stands wm_X9_196 cls_9 kd_149 rfl ⟨by decide, by decide⟩ rfl rfl (Nat.le_of_ble_eq_true rfl) dX9_sag_19 ?_
      intro r3
      refine J_if_ne 29 G dX9_sag_22 (by decide) ?_ ?_
      · refine J_aload_n G 0 dX9_sag_29 rfl ?_
        refine J_cVwV (As := []) G (mX9_reactions u mem) sg_X9_reactions sv_X9_reactions wm_X9_202 cls_9 kd_149 rfl ⟨by decide, by decide⟩ rfl rfl (Nat.le_of_ble_eq_true rfl) dX9_sag_30 ?_
        intro m4
        refine J_aload_n G 0 dX9_sag_33 rfl ?_
        refine J_aload_n G 0 dX9_sag_34 rfl ?_
        refine J_iload_n G 1 dX9_sag_35 rfl ?_
        refine J_cVwL (As := [vI p0]) G (mX9_sagAt u p0 m4) sg_X9_sagAt sv_X9_sagAt wm_X9_220 cls_9 kd_149 rfl ⟨by decide, by decide⟩ rfl rfl (Nat.le_of_ble_eq_true rfl) dX9_sag_36 ?_
        intro r5 m6
        refine J_ldc2 (v := 24) G dX9_sag_39 wc_X9_223 (by decide) ?_
        refine J_aload_n G 0 dX9_sag_42 rfl ?_
        refine J_getL (i := 13) (k := 13) G cls_9 wf_X9_182 kd_149 rfl rfl dX9_sag_43 ?_
        refine J_lmul G dX9_sag_46 ?_
        refine J_aload_n G 0 dX9_sag_47 rfl ?_
        refine J_iload_n G 1 dX9_sag_48 rfl ?_
        refine J_cVpI (As := [vI p0]) G (mX9_wideAt u p0 m6) sg_X9_wideAt sv_X9_wideAt wm_X9_225 cls_9 kd_149 rfl ⟨by decide, by decide⟩ rfl rfl (Nat.le_of_ble_eq_true rfl) dX9_sag_49 ?_
        intro r7
        refine J_i2l G dX9_sag_52 ?_
        refine J_lmul G dX9_sag_53 ?_
        refine J_cVwV (As := [vL r5, vL ((24 * (m6 149 13)) * (s32 r7))]) G (mX9_is u r5 ((24 * (m6 149 13)) * (s32 r7)) m6) sg_X9_is sv_X9_is wm_X9_133 cls_9 kd_149 rfl ⟨by decide, by decide⟩ rfl rfl (Nat.le_of_ble_eq_true rfl) dX9_sag_54 ?_
        intro m8
        refine J_iload_n G 2 dX9_sag_57 rfl ?_
        refine J_if_ne 68 G dX9_sag_58 (by decide) ?_ ?_
        · refine J_aload_n G 0 dX9_sag_68 rfl ?_
          refine J_getL (i := 6) (k := 6) G cls_9 wf_X9_21 kd_149 rfl rfl dX9_sag_69 ?_
          exact J_lret G dX9_sag_72 rfl
        · refine J_aload_n G 0 dX9_sag_61 rfl ?_
          refine J_getL (i := 5) (k := 5) G cls_9 wf_X9_130 kd_149 rfl rfl dX9_sag_62 ?_
          refine J_goto 72 G dX9_sag_65 (by decide) ?_
          exact J_lret G dX9_sag_72 rfl
      · refine J_ldc2 (v := (-9223372036854775808)) G dX9_sag_25 wc_X9_200 (by decide) ?_
        exact J_lret G dX9_sag_28 rfl
theorem jMo_lowest_L18 {u : jU} {x : jX} (G : jG u x cX9_lowest RX9 3 (some .int) (jRm 6 157)) : ∀ (n : Nat) (i3 : Int) (i4 : Int) (m5 : Mem), J u x 3 (jQ u x EwI) 18 [(0, vR (uB u) 149), (1, vI i3), (2, vI i4)] [] m5 (Mo_lowest_L18 n i3 i4 m5) := by
  intro n
  induction n with
  | zero => intro i3 i4 m5; exact J_none
  | succ n ih =>
    intro i3 i4 m5
    rw [Mo_lowest_L18]
    refine J_iload_n G 2 dX9_lowest_18 rfl ?_
    refine J_aload_n G 0 dX9_lowest_19 rfl ?_
    refine J_getR (d := 150) (k := 0) G cls_9 wf_X9_11 kd_149 rfl rfl dX9_lowest_20 ?_
    refine J_iconst G dX9_lowest_23 ?_
    refine J_ialdC G kd_150 ln_150 (by decide) dX9_lowest_24 ?_
    refine J_icmp_gt 68 G dX9_lowest_25 (by decide) ?_ ?_
    · refine J_iload_n G 1 dX9_lowest_68 rfl ?_
      exact J_iret G dX9_lowest_69 rfl
    · refine J_aload_n G 0 dX9_lowest_28 rfl ?_
      refine J_iload_n G 1 dX9_lowest_29 rfl ?_
      refine J_cVwL (As := [vI i3]) G (mX9_sagAt u i3 m5) sg_X9_sagAt sv_X9_sagAt wm_X9_220 cls_9 kd_149 rfl ⟨by decide, by decide⟩ rfl rfl (Nat.le_of_ble_eq_true rfl) dX9_lowest_30 ?_
      intro r6 m7
      refine J_aload_n G 0 dX9_lowest_33 rfl ?_
      refine J_iload_n G 1 dX9_lowest_34 rfl ?_
      refine J_cVpI (As := [vI i3]) G (mX9_wideAt u i3 m7) sg_X9_wideAt sv_X9_wideAt wm_X9_225 cls_9 kd_149 rfl ⟨by decide, by decide⟩ rfl rfl (Nat.le_of_ble_eq_true rfl) dX9_lowest_35 ?_
      intro r8
      refine J_i2l G dX9_lowest_38 ?_
      refine J_aload_n G 0 dX9_lowest_39 rfl ?_
      refine J_iload_n G 2 dX9_lowest_40 rfl ?_
      refine J_cVwL (As := [vI i4]) G (mX9_sagAt u i4 m7) sg_X9_sagAt sv_X9_sagAt wm_X9_220 cls_9 kd_149 rfl ⟨by decide, by decide⟩ rfl rfl (Nat.le_of_ble_eq_true rfl) dX9_lowest_41 ?_
      intro r9 m10
      refine J_aload_n G 0 dX9_lowest_44 rfl ?_
      refine J_iload_n G 2 dX9_lowest_45 rfl ?_
      refine J_cVpI (As := [vI i4]) G (mX9_wideAt u i4 m10) sg_X9_wideAt sv_X9_wideAt wm_X9_225 cls_9 kd_149 rfl ⟨by decide, by decide⟩ rfl rfl (Nat.le_of_ble_eq_true rfl) dX9_lowest_46 ?_
      intro r11
      refine J_i2l G dX9_lowest_49 ?_
      refine J_cSpI (As := [vL r6, vL (s32 r8), vL r9, vL (s32 r11)]) G (mX9_isLess u r6 (s32 r8) r9 (s32 r11) m10) sg_X9_isLess ss_X9_isLess wm_X9_228 ⟨by decide, by decide⟩ rfl rfl (Nat.le_of_ble_eq_true rfl) dX9_lowest_50 ?_
      intro r12
      refine J_jn (fun g => ∀ x13, J u x 3 (jQ u x EwI) 61 [(0, vR (uB u) 149), (2, vI i4)] [vI x13] m10 (g x13)) ?_ ?_
      · intro x13
        refine J_istore_n (lv' := [(1, vI x13), (0, vR (uB u) 149), (2, vI i4)]) G dX9_lowest_61 rfl (by decide) rfl ?_
        refine J_iinc (lv' := [(2, vI (i4 + 1)), (1, vI x13), (0, vR (uB u) 149)]) G 2 dX9_lowest_62 rfl (by decide) rfl ?_
        refine J_goto 18 G dX9_lowest_65 (by decide) ?_
        refine J_lv [2, 1, 0] rfl ?_
        exact ih x13 (i4 + 1) m10
      · intro k61 hk61
        refine J_if_eq 60 G dX9_lowest_53 (by decide) ?_ ?_
        · refine J_iload_n G 1 dX9_lowest_60 rfl ?_
          refine J_lv [0, 2] rfl ?_
          exact hk61 i3
        · refine J_iload_n G 2 dX9_lowest_56 rfl ?_
          refine J_goto 61 G dX9_lowest_57 (by decide) ?_
          refine J_lv [0, 2] rfl ?_
          exact hk61 i4
theorem mX9_lowest (u : jU) (mem : Mem) : jMet u yX9_lowest cX9_lowest 3 (some .int) (jRm 6 157) [vR (uB u) 149] mem EwI (Mo_lowest mem) := by
  refine jMet_of (by decide +kernel) (Nat.le_of_ble_eq_true rfl) (fun x G => ?_)
  show J u x 3 (jQ u x EwI) 0 [(0, vR (uB u) 149)] [] mem _
  unfold Mo_lowest
  refine J_aload_n G 0 dX9_lowest_0 rfl ?_
  refine J_cVpI (As := []) G (mX9_stands u mem) sg_X9_stands sv_X9_stands wm_X9_196 cls_9 kd_149 rfl ⟨by decide, by decide⟩ rfl rfl (Nat.le_of_ble_eq_true rfl) dX9_lowest_1 ?_
  intro r1
  refine J_if_ne 10 G dX9_lowest_4 (by decide) ?_ ?_
  · refine J_aload_n G 0 dX9_lowest_10 rfl ?_
    refine J_cVwV (As := []) G (mX9_reactions u mem) sg_X9_reactions sv_X9_reactions wm_X9_202 cls_9 kd_149 rfl ⟨by decide, by decide⟩ rfl rfl (Nat.le_of_ble_eq_true rfl) dX9_lowest_11 ?_
    intro m2
    refine J_iconst G dX9_lowest_14 ?_
    refine J_istore_n (lv' := [(1, vI 0), (0, vR (uB u) 149)]) G dX9_lowest_15 rfl (by decide) rfl ?_
    refine J_iconst G dX9_lowest_16 ?_
    refine J_istore_n (lv' := [(2, vI 1), (1, vI 0), (0, vR (uB u) 149)]) G dX9_lowest_17 rfl (by decide) rfl ?_
    refine J_lv [2, 1, 0] rfl ?_
    exact jMo_lowest_L18 G 2000 0 1 m2
  · refine J_bipush G dX9_lowest_7 (by decide) ?_
    exact J_iret G dX9_lowest_9 rfl
theorem mX9_tries (u : jU) (p0 : Int) (p1 : Int) (p2 : Int) (p3 : Int) (mem : Mem) : jMet u yX9_tries cX9_tries 9 none (jRm 1 44) [vR (uB u) 149, vL p0, vL p1, vL p2, vL p3] mem EwV (Mo_tries p0 p1 p2 p3 mem) := by
  refine jMet_of (by decide +kernel) (Nat.le_of_ble_eq_true rfl) (fun x G => ?_)
  show J u x 9 (jQ u x EwV) 0 [(0, vR (uB u) 149), (1, vL p0), (3, vL p1), (5, vL p2), (7, vL p3)] [] mem _
  unfold Mo_tries
  refine J_aload_n G 0 dX9_tries_0 rfl ?_
  refine J_getL (i := 16) (k := 16) G cls_9 wf_X9_232 kd_149 rfl rfl dX9_tries_1 ?_
  refine J_lconst (v := 0) G dX9_tries_4 (by decide) ?_
  refine J_jn (fun g => J u x 9 (jQ u x EwV) 25 [(0, vR (uB u) 149), (1, vL p0), (3, vL p1), (5, vL p2), (7, vL p3)] [] mem (g)) ?_ ?_
  · skip
    refine J_aload_n G 0 dX9_tries_25 rfl ?_
    refine J_lload_n G 1 dX9_tries_26 rfl ?_
    refine J_putL (i := 15) (k := 15) G cls_9 wf_X9_235 kd_149 rfl rfl rfl rfl dX9_tries_27 ?_
    refine J_ltM (fun m1 => ?_)
    refine J_aload_n G 0 dX9_tries_30 rfl ?_
    refine J_lload_n G 2 dX9_tries_31 rfl ?_
    refine J_putL (i := 16) (k := 16) G cls_9 wf_X9_232 kd_149 rfl rfl rfl rfl dX9_tries_32 ?_
    refine J_ltM (fun m2 => ?_)
    refine J_aload_n G 0 dX9_tries_35 rfl ?_
    refine J_lload G 3 dX9_tries_36 rfl ?_
    refine J_putL (i := 17) (k := 17) G cls_9 wf_X9_238 kd_149 rfl rfl rfl rfl dX9_tries_38 ?_
    refine J_ltM (fun m3 => ?_)
    refine J_aload_n G 0 dX9_tries_41 rfl ?_
    refine J_lload G 4 dX9_tries_42 rfl ?_
    refine J_putL (i := 18) (k := 18) G cls_9 wf_X9_241 kd_149 rfl rfl rfl rfl dX9_tries_44 ?_
    refine J_ltM (fun m4 => ?_)
    exact J_vret G dX9_tries_47 rfl
  · intro k25 hk25
    refine J_lcmp_eq 25 G dX9_tries_5 dX9_tries_6 (by decide) ?_ ?_
    · exact hk25
    · refine J_aload_n G 0 dX9_tries_9 rfl ?_
      refine J_getL (i := 15) (k := 15) G cls_9 wf_X9_235 kd_149 rfl rfl dX9_tries_10 ?_
      refine J_aload_n G 0 dX9_tries_13 rfl ?_
      refine J_getL (i := 16) (k := 16) G cls_9 wf_X9_232 kd_149 rfl rfl dX9_tries_14 ?_
      refine J_lload_n G 1 dX9_tries_17 rfl ?_
      refine J_lload_n G 2 dX9_tries_18 rfl ?_
      refine J_cSpI (As := [vL (mem 149 15), vL (mem 149 16), vL p0, vL p1]) G (mX9_isLess u (mem 149 15) (mem 149 16) p0 p1 mem) sg_X9_isLess ss_X9_isLess wm_X9_228 ⟨by decide, by decide⟩ rfl rfl (Nat.le_of_ble_eq_true rfl) dX9_tries_19 ?_
      intro r5
      refine J_if_eq 47 G dX9_tries_22 (by decide) ?_ ?_
      · exact J_vret G dX9_tries_47 rfl
      · exact hk25
theorem jMo_looks_L7 {u : jU} {x : jX} (G : jG u x cX9_looks RX9 13 none (jRm 3 72)) (p0 : Int) (k184 : Mem → Option Mem) (hk184 : (fun g => ∀ m2, J u x 13 (jQ u x EwV) 184 [(0, vR (uB u) 149), (1, vI p0)] [] m2 (g m2)) k184) : ∀ (n : Nat) (i5 : Int) (m6 : Mem), J u x 13 (jQ u x EwV) 7 [(0, vR (uB u) 149), (1, vI p0), (2, vI i5)] [] m6 (Mo_looks_L7 p0 k184 n i5 m6) := by
  intro n
  induction n with
  | zero => intro i5 m6; exact J_none
  | succ n ih =>
    intro i5 m6
    rw [Mo_looks_L7]
    refine J_iload_n G 2 dX9_looks_7 rfl ?_
    refine J_aload_n G 0 dX9_looks_8 rfl ?_
    refine J_getR (d := 150) (k := 0) G cls_9 wf_X9_11 kd_149 rfl rfl dX9_looks_9 ?_
    refine J_iconst G dX9_looks_12 ?_
    refine J_ialdC G kd_150 ln_150 (by decide) dX9_looks_13 ?_
    refine J_icmp_ge 184 G dX9_looks_14 (by decide) ?_ ?_
    · refine J_lv [0, 1] rfl ?_
      exact hk184 m6
    · refine J_iload_n G 1 dX9_looks_17 rfl ?_
      refine J_i2l G dX9_looks_18 ?_
      refine J_aload_n G 0 dX9_looks_19 rfl ?_
      refine J_iload_n G 2 dX9_looks_20 rfl ?_
      refine J_i2l G dX9_looks_21 ?_
      refine J_lconst (v := 1) G dX9_looks_22 (by decide) ?_
      refine J_cVpL (As := [vL (s32 i5), vL 1]) G (mX9_momentAt u (s32 i5) 1 m6) sg_X9_momentAt sv_X9_momentAt wm_X9_210 cls_9 kd_149 rfl ⟨by decide, by decide⟩ rfl rfl (Nat.le_of_ble_eq_true rfl) dX9_looks_23 ?_
      intro r7
      refine J_lmul G dX9_looks_26 ?_
      refine J_ltL (fun x8 => ?_)
      refine J_lstore_n (lv' := [(3, vL x8), (0, vR (uB u) 149), (1, vI p0), (2, vI i5)]) G dX9_looks_27 rfl (by decide) rfl ?_
      refine J_iload_n G 2 dX9_looks_28 rfl ?_
      refine J_i2l G dX9_looks_29 ?_
      refine J_aload_n G 1 dX9_looks_30 rfl ?_
      refine J_iload_n G 3 dX9_looks_31 rfl ?_
      refine J_cVpL (As := [vI i5]) G (mX9_shearBehind u i5 m6) sg_X9_shearBehind sv_X9_shearBehind wm_X9_205 cls_9 kd_149 rfl ⟨by decide, by decide⟩ rfl rfl (Nat.le_of_ble_eq_true rfl) dX9_looks_32 ?_
      intro r9
      refine J_lmul G dX9_looks_35 ?_
      refine J_ltL (fun x10 => ?_)
      refine J_lstore (lv' := [(5, vL x10), (3, vL x8), (0, vR (uB u) 149), (1, vI p0), (2, vI i5)]) G dX9_looks_36 (by decide) rfl ?_
      refine J_iload_n G 3 dX9_looks_38 rfl ?_
      refine J_aload_n G 2 dX9_looks_39 rfl ?_
      refine J_iload_n G 4 dX9_looks_40 rfl ?_
      refine J_cVpI (As := [vI i5]) G (mX9_spreadOn u i5 m6) sg_X9_spreadOn sv_X9_spreadOn wm_X9_213 cls_9 kd_149 rfl ⟨by decide, by decide⟩ rfl rfl (Nat.le_of_ble_eq_true rfl) dX9_looks_41 ?_
      intro r11
      refine J_imul G dX9_looks_44 ?_
      refine J_i2l G dX9_looks_45 ?_
      refine J_ltL (fun x12 => ?_)
      refine J_lstore (lv' := [(7, vL x12), (5, vL x10), (3, vL x8), (0, vR (uB u) 149), (1, vI p0), (2, vI i5)]) G dX9_looks_46 (by decide) rfl ?_
      refine J_aload_n G 3 dX9_looks_48 rfl ?_
      refine J_lload_n G 2 dX9_looks_49 rfl ?_
      refine J_ldc2 (v := 2) G dX9_looks_50 wc_X9_86 (by decide) ?_
      refine J_aload_n G 3 dX9_looks_53 rfl ?_
      refine J_getL (i := 13) (k := 13) G cls_9 wf_X9_182 kd_149 rfl rfl dX9_looks_54 ?_
      refine J_lmul G dX9_looks_57 ?_
      refine J_iload_n G 5 dX9_looks_58 rfl ?_
      refine J_i2l G dX9_looks_59 ?_
      refine J_lconst (v := 1) G dX9_looks_60 (by decide) ?_
      refine J_cVwV (As := [vL x8, vL (2 * (m6 149 13)), vL (s32 i5), vL 1]) G (mX9_tries u x8 (2 * (m6 149 13)) (s32 i5) 1 m6) sg_X9_tries sv_X9_tries wm_X9_244 cls_9 kd_149 rfl ⟨by decide, by decide⟩ rfl rfl (Nat.le_of_ble_eq_true rfl) dX9_looks_61 ?_
      intro m13
      refine J_lload G 0 dX9_looks_64 rfl ?_
      refine J_lconst (v := 0) G dX9_looks_66 (by decide) ?_
      refine J_lcmp_le 178 G dX9_looks_67 dX9_looks_68 (by decide) ?_ ?_
      · refine J_iinc (lv' := [(2, vI (i5 + 1)), (7, vL x12), (5, vL x10), (3, vL x8), (0, vR (uB u) 149), (1, vI p0)]) G 5 dX9_looks_178 rfl (by decide) rfl ?_
        refine J_goto 7 G dX9_looks_181 (by decide) ?_
        refine J_lv [4, 5, 0] rfl ?_
        exact ih (i5 + 1) m13
      · refine J_lload G 1 dX9_looks_71 rfl ?_
        refine J_lconst (v := 0) G dX9_looks_73 (by decide) ?_
        refine J_lcmp_le 178 G dX9_looks_74 dX9_looks_75 (by decide) ?_ ?_
        · refine J_iinc (lv' := [(2, vI (i5 + 1)), (7, vL x12), (5, vL x10), (3, vL x8), (0, vR (uB u) 149), (1, vI p0)]) G 5 dX9_looks_178 rfl (by decide) rfl ?_
          refine J_goto 7 G dX9_looks_181 (by decide) ?_
          refine J_lv [4, 5, 0] rfl ?_
          exact ih (i5 + 1) m13
        · refine J_lload G 1 dX9_looks_78 rfl ?_
          refine J_lload G 0 dX9_looks_80 rfl ?_
          refine J_aload_n G 3 dX9_looks_82 rfl ?_
          refine J_getL (i := 13) (k := 13) G cls_9 wf_X9_182 kd_149 rfl rfl dX9_looks_83 ?_
          refine J_lmul G dX9_looks_86 ?_
          refine J_lcmp_ge 178 G dX9_looks_87 dX9_looks_88 (by decide) ?_ ?_
          · refine J_iinc (lv' := [(2, vI (i5 + 1)), (7, vL x12), (5, vL x10), (3, vL x8), (0, vR (uB u) 149), (1, vI p0)]) G 5 dX9_looks_178 rfl (by decide) rfl ?_
            refine J_goto 7 G dX9_looks_181 (by decide) ?_
            refine J_lv [4, 5, 0] rfl ?_
            exact ih (i5 + 1) m13
          · refine J_aload_n G 3 dX9_looks_91 rfl ?_
            refine J_lload_n G 2 dX9_looks_92 rfl ?_
            refine J_lload G 0 dX9_looks_93 rfl ?_
            refine J_lmul G dX9_looks_95 ?_
            refine J_aload_n G 3 dX9_looks_96 rfl ?_
            refine J_getL (i := 13) (k := 13) G cls_9 wf_X9_182 kd_149 rfl rfl dX9_looks_97 ?_
            refine J_lmul G dX9_looks_100 ?_
            refine J_lload G 1 dX9_looks_101 rfl ?_
            refine J_lload G 1 dX9_looks_103 rfl ?_
            refine J_lmul G dX9_looks_105 ?_
            refine J_ladd G dX9_looks_106 ?_
            refine J_ldc2 (v := 2) G dX9_looks_107 wc_X9_86 (by decide) ?_
            refine J_lload G 0 dX9_looks_110 rfl ?_
            refine J_lmul G dX9_looks_112 ?_
            refine J_aload_n G 3 dX9_looks_113 rfl ?_
            refine J_getL (i := 13) (k := 13) G cls_9 wf_X9_182 kd_149 rfl rfl dX9_looks_114 ?_
            refine J_lmul G dX9_looks_117 ?_
            refine J_aload_n G 3 dX9_looks_118 rfl ?_
            refine J_getL (i := 13) (k := 13) G cls_9 wf_X9_182 kd_149 rfl rfl dX9_looks_119 ?_
            refine J_lmul G dX9_looks_122 ?_
            refine J_cVwV (As := [vL (((x8 * x12) * (m13 149 13)) + (x10 * x10)), vL (((2 * x12) * (m13 149 13)) * (m13 149 13))]) G (mX9_is u (((x8 * x12) * (m13 149 13)) + (x10 * x10)) (((2 * x12) * (m13 149 13)) * (m13 149 13)) m13) sg_X9_is sv_X9_is wm_X9_133 cls_9 kd_149 rfl ⟨by decide, by decide⟩ rfl rfl (Nat.le_of_ble_eq_true rfl) dX9_looks_123 ?_
            intro m14
            refine J_aload_n G 3 dX9_looks_126 rfl ?_
            refine J_getL (i := 5) (k := 5) G cls_9 wf_X9_130 kd_149 rfl rfl dX9_looks_127 ?_
            refine J_ltL (fun x15 => ?_)
            refine J_lstore (lv' := [(9, vL x15), (7, vL x12), (5, vL x10), (3, vL x8), (0, vR (uB u) 149), (1, vI p0), (2, vI i5)]) G dX9_looks_130 (by decide) rfl ?_
            refine J_aload_n G 4 dX9_looks_132 rfl ?_
            refine J_getL (i := 6) (k := 6) G cls_9 wf_X9_21 kd_149 rfl rfl dX9_looks_133 ?_
            refine J_ltL (fun x16 => ?_)
            refine J_lstore (lv' := [(11, vL x16), (9, vL x15), (7, vL x12), (5, vL x10), (3, vL x8), (0, vR (uB u) 149), (1, vI p0), (2, vI i5)]) G dX9_looks_136 (by decide) rfl ?_
            refine J_aload_n G 5 dX9_looks_138 rfl ?_
            refine J_iload_n G 7 dX9_looks_139 rfl ?_
            refine J_i2l G dX9_looks_140 ?_
            refine J_lload G 2 dX9_looks_141 rfl ?_
            refine J_lmul G dX9_looks_143 ?_
            refine J_aload_n G 5 dX9_looks_144 rfl ?_
            refine J_getL (i := 13) (k := 13) G cls_9 wf_X9_182 kd_149 rfl rfl dX9_looks_145 ?_
            refine J_lmul G dX9_looks_148 ?_
            refine J_lload G 3 dX9_looks_149 rfl ?_
            refine J_ladd G dX9_looks_151 ?_
            refine J_lload G 2 dX9_looks_152 rfl ?_
            refine J_aload_n G 5 dX9_looks_154 rfl ?_
            refine J_getL (i := 13) (k := 13) G cls_9 wf_X9_182 kd_149 rfl rfl dX9_looks_155 ?_
            refine J_lmul G dX9_looks_158 ?_
            refine J_cVwV (As := [vL ((((s32 i5) * x12) * (m14 149 13)) + x10), vL (x12 * (m14 149 13))]) G (mX9_is u ((((s32 i5) * x12) * (m14 149 13)) + x10) (x12 * (m14 149 13)) m14) sg_X9_is sv_X9_is wm_X9_133 cls_9 kd_149 rfl ⟨by decide, by decide⟩ rfl rfl (Nat.le_of_ble_eq_true rfl) dX9_looks_159 ?_
            intro m17
            refine J_aload_n G 5 dX9_looks_162 rfl ?_
            refine J_lload G 1 dX9_looks_163 rfl ?_
            refine J_lload G 0 dX9_looks_165 rfl ?_
            refine J_aload_n G 5 dX9_looks_167 rfl ?_
            refine J_getL (i := 5) (k := 5) G cls_9 wf_X9_130 kd_149 rfl rfl dX9_looks_168 ?_
            refine J_aload_n G 5 dX9_looks_171 rfl ?_
            refine J_getL (i := 6) (k := 6) G cls_9 wf_X9_21 kd_149 rfl rfl dX9_looks_172 ?_
            refine J_cVwV (As := [vL x15, vL x16, vL (m17 149 5), vL (m17 149 6)]) G (mX9_tries u x15 x16 (m17 149 5) (m17 149 6) m17) sg_X9_tries sv_X9_tries wm_X9_244 cls_9 kd_149 rfl ⟨by decide, by decide⟩ rfl rfl (Nat.le_of_ble_eq_true rfl) dX9_looks_175 ?_
            intro m18
            refine J_iinc (lv' := [(2, vI (i5 + 1)), (11, vL x16), (9, vL x15), (7, vL x12), (5, vL x10), (3, vL x8), (0, vR (uB u) 149), (1, vI p0)]) G 7 dX9_looks_178 rfl (by decide) rfl ?_
            refine J_goto 7 G dX9_looks_181 (by decide) ?_
            refine J_lv [6, 7, 0] rfl ?_
            exact ih (i5 + 1) m18
theorem mX9_looks (u : jU) (p0 : Int) (mem : Mem) : jMet u yX9_looks cX9_looks 13 none (jRm 3 72) [vR (uB u) 149, vI p0] mem EwV (Mo_looks p0 mem) := by
  refine jMet_of (by decide +kernel) (Nat.le_of_ble_eq_true rfl) (fun x G => ?_)
  show J u x 13 (jQ u x EwV) 0 [(0, vR (uB u) 149), (1, vI p0)] [] mem _
  unfold Mo_looks
  refine J_aload_n G 0 dX9_looks_0 rfl ?_
  refine J_lconst (v := 0) G dX9_looks_1 (by decide) ?_
  refine J_putL (i := 16) (k := 16) G cls_9 wf_X9_232 kd_149 rfl rfl rfl rfl dX9_looks_2 ?_
  refine J_ltM (fun m1 => ?_)
  refine J_iconst G dX9_looks_5 ?_
  refine J_istore_n (lv' := [(2, vI 0), (0, vR (uB u) 149), (1, vI p0)]) G dX9_looks_6 rfl (by decide) rfl ?_
  refine J_jn (fun g => ∀ m2, J u x 13 (jQ u x EwV) 184 [(0, vR (uB u) 149), (1, vI p0)] [] m2 (g m2)) ?_ ?_
  · intro m2
    refine J_aload_n G 0 dX9_looks_184 rfl ?_
    refine J_iload_n G 1 dX9_looks_185 rfl ?_
    refine J_i2l G dX9_looks_186 ?_
    refine J_aload_n G 0 dX9_looks_187 rfl ?_
    refine J_aload_n G 0 dX9_looks_188 rfl ?_
    refine J_getR (d := 150) (k := 0) G cls_9 wf_X9_11 kd_149 rfl rfl dX9_looks_189 ?_
    refine J_iconst G dX9_looks_192 ?_
    refine J_ialdC G kd_150 ln_150 (by decide) dX9_looks_193 ?_
    refine J_i2l G dX9_looks_194 ?_
    refine J_lconst (v := 1) G dX9_looks_195 (by decide) ?_
    refine J_cVpL (As := [vL (s32 (m2 150 0)), vL 1]) G (mX9_momentAt u (s32 (m2 150 0)) 1 m2) sg_X9_momentAt sv_X9_momentAt wm_X9_210 cls_9 kd_149 rfl ⟨by decide, by decide⟩ rfl rfl (Nat.le_of_ble_eq_true rfl) dX9_looks_196 ?_
    intro r3
    refine J_lmul G dX9_looks_199 ?_
    refine J_ldc2 (v := 2) G dX9_looks_200 wc_X9_86 (by decide) ?_
    refine J_aload_n G 0 dX9_looks_203 rfl ?_
    refine J_getL (i := 13) (k := 13) G cls_9 wf_X9_182 kd_149 rfl rfl dX9_looks_204 ?_
    refine J_lmul G dX9_looks_207 ?_
    refine J_aload_n G 0 dX9_looks_208 rfl ?_
    refine J_getR (d := 150) (k := 0) G cls_9 wf_X9_11 kd_149 rfl rfl dX9_looks_209 ?_
    refine J_iconst G dX9_looks_212 ?_
    refine J_ialdC G kd_150 ln_150 (by decide) dX9_looks_213 ?_
    refine J_i2l G dX9_looks_214 ?_
    refine J_lconst (v := 1) G dX9_looks_215 (by decide) ?_
    refine J_cVwV (As := [vL ((s32 p0) * r3), vL (2 * (m2 149 13)), vL (s32 (m2 150 0)), vL 1]) G (mX9_tries u ((s32 p0) * r3) (2 * (m2 149 13)) (s32 (m2 150 0)) 1 m2) sg_X9_tries sv_X9_tries wm_X9_244 cls_9 kd_149 rfl ⟨by decide, by decide⟩ rfl rfl (Nat.le_of_ble_eq_true rfl) dX9_looks_216 ?_
    intro m4
    exact J_vret G dX9_looks_219 rfl
  · intro k184 hk184
    refine J_lv [1, 2, 0] rfl ?_
    exact jMo_looks_L7 G p0 k184 hk184 2000 0 m1
theorem mX9_greatest (u : jU) (p0 : Int) (p1 : Int) (mem : Mem) : jMet u yX9_greatest cX9_greatest 4 (some .long) (jRm 6 157) [vR (uB u) 149, vI p0, vI p1] mem EwL (Mo_greatest p0 p1 mem) := by
  refine jMet_of (by decide +kernel) (Nat.le_of_ble_eq_true rfl) (fun x G => ?_)
  show J u x 4 (jQ u x EwL) 0 [(0, vR (uB u) 149), (1, vI p0), (2, vI p1)] [] mem _
  unfold Mo_greatest
  refine J_iload_n G 1 dX9_greatest_0 rfl ?_
  refine J_i2l G dX9_greatest_1 ?_
  refine J_lconst (v := 0) G dX9_greatest_2 (by decide) ?_
  refine J_lconst (v := 1) G dX9_greatest_3 (by decide) ?_
  refine J_cSpI (As := [vL (s32 p0), vL 0, vL 1]) G (mX9_in u (s32 p0) 0 1 mem) sg_X9_in ss_X9_in wm_X9_82 ⟨by decide, by decide⟩ rfl rfl (Nat.le_of_ble_eq_true rfl) dX9_greatest_4 ?_
  intro r1
  refine J_if_eq 29 G dX9_greatest_7 (by decide) ?_ ?_
  · refine J_ldc2 (v := (-9223372036854775808)) G dX9_greatest_29 wc_X9_200 (by decide) ?_
    exact J_lret G dX9_greatest_32 rfl
  · refine J_iload_n G 2 dX9_greatest_10 rfl ?_
    refine J_i2l G dX9_greatest_11 ?_
    refine J_lconst (v := 0) G dX9_greatest_12 (by decide) ?_
    refine J_ldc2 (v := 3) G dX9_greatest_13 wc_X9_111 (by decide) ?_
    refine J_cSpI (As := [vL (s32 p1), vL 0, vL 3]) G (mX9_in u (s32 p1) 0 3 mem) sg_X9_in ss_X9_in wm_X9_82 ⟨by decide, by decide⟩ rfl rfl (Nat.le_of_ble_eq_true rfl) dX9_greatest_16 ?_
    intro r2
    refine J_if_eq 29 G dX9_greatest_19 (by decide) ?_ ?_
    · refine J_ldc2 (v := (-9223372036854775808)) G dX9_greatest_29 wc_X9_200 (by decide) ?_
      exact J_lret G dX9_greatest_32 rfl
    · refine J_aload_n G 0 dX9_greatest_22 rfl ?_
      refine J_cVpI (As := []) G (mX9_stands u mem) sg_X9_stands sv_X9_stands wm_X9_196 cls_9 kd_149 rfl ⟨by decide, by decide⟩ rfl rfl (Nat.le_of_ble_eq_true rfl) dX9_greatest_23 ?_
      intro r3
      refine J_if_ne 33 G dX9_greatest_26 (by decide) ?_ ?_
      · refine J_aload_n G 0 dX9_greatest_33 rfl ?_
        refine J_cVwV (As := []) G (mX9_reactions u mem) sg_X9_reactions sv_X9_reactions wm_X9_202 cls_9 kd_149 rfl ⟨by decide, by decide⟩ rfl rfl (Nat.le_of_ble_eq_true rfl) dX9_greatest_34 ?_
        intro m4
        refine J_iload_n G 1 dX9_greatest_37 rfl ?_
        refine J_jn (fun g => ∀ x5, J u x 4 (jQ u x EwL) 46 [(0, vR (uB u) 149), (2, vI p1)] [vI x5] m4 (g x5)) ?_ ?_
        · intro x5
          refine J_istore_n (lv' := [(3, vI x5), (0, vR (uB u) 149), (2, vI p1)]) G dX9_greatest_46 rfl (by decide) rfl ?_
          refine J_aload_n G 1 dX9_greatest_47 rfl ?_
          refine J_iload_n G 0 dX9_greatest_48 rfl ?_
          refine J_cVwV (As := [vI x5]) G (mX9_looks u x5 m4) sg_X9_looks sv_X9_looks wm_X9_248 cls_9 kd_149 rfl ⟨by decide, by decide⟩ rfl rfl (Nat.le_of_ble_eq_true rfl) dX9_greatest_49 ?_
          intro m6
          refine J_iload_n G 2 dX9_greatest_52 rfl ?_
          refine J_iconst G dX9_greatest_53 ?_
          refine J_icmp_le 74 G dX9_greatest_54 (by decide) ?_ ?_
          · refine J_aload_n G 1 dX9_greatest_74 rfl ?_
            refine J_iload_n G 0 dX9_greatest_75 rfl ?_
            refine J_i2l G dX9_greatest_76 ?_
            refine J_aload_n G 1 dX9_greatest_77 rfl ?_
            refine J_getL (i := 15) (k := 15) G cls_9 wf_X9_235 kd_149 rfl rfl dX9_greatest_78 ?_
            refine J_lmul G dX9_greatest_81 ?_
            refine J_aload_n G 1 dX9_greatest_82 rfl ?_
            refine J_getL (i := 16) (k := 16) G cls_9 wf_X9_232 kd_149 rfl rfl dX9_greatest_83 ?_
            refine J_cVwV (As := [vL ((s32 x5) * (m6 149 15)), vL (m6 149 16)]) G (mX9_is u ((s32 x5) * (m6 149 15)) (m6 149 16) m6) sg_X9_is sv_X9_is wm_X9_133 cls_9 kd_149 rfl ⟨by decide, by decide⟩ rfl rfl (Nat.le_of_ble_eq_true rfl) dX9_greatest_86 ?_
            intro m7
            refine J_iload_n G 2 dX9_greatest_89 rfl ?_
            refine J_if_ne 100 G dX9_greatest_90 (by decide) ?_ ?_
            · refine J_aload_n G 1 dX9_greatest_100 rfl ?_
              refine J_getL (i := 6) (k := 6) G cls_9 wf_X9_21 kd_149 rfl rfl dX9_greatest_101 ?_
              exact J_lret G dX9_greatest_104 rfl
            · refine J_aload_n G 1 dX9_greatest_93 rfl ?_
              refine J_getL (i := 5) (k := 5) G cls_9 wf_X9_130 kd_149 rfl rfl dX9_greatest_94 ?_
              refine J_goto 104 G dX9_greatest_97 (by decide) ?_
              exact J_lret G dX9_greatest_104 rfl
          · refine J_iload_n G 2 dX9_greatest_57 rfl ?_
            refine J_iconst G dX9_greatest_58 ?_
            refine J_icmp_ne 69 G dX9_greatest_59 (by decide) ?_ ?_
            · refine J_aload_n G 1 dX9_greatest_69 rfl ?_
              refine J_getL (i := 18) (k := 18) G cls_9 wf_X9_241 kd_149 rfl rfl dX9_greatest_70 ?_
              exact J_lret G dX9_greatest_73 rfl
            · refine J_aload_n G 1 dX9_greatest_62 rfl ?_
              refine J_getL (i := 17) (k := 17) G cls_9 wf_X9_238 kd_149 rfl rfl dX9_greatest_63 ?_
              refine J_goto 73 G dX9_greatest_66 (by decide) ?_
              exact J_lret G dX9_greatest_73 rfl
        · intro k46 hk46
          refine J_if_ne 45 G dX9_greatest_38 (by decide) ?_ ?_
          · refine J_iconst G dX9_greatest_45 ?_
            refine J_lv [0, 2] rfl ?_
            exact hk46 (-1)
          · refine J_iconst G dX9_greatest_41 ?_
            refine J_goto 46 G dX9_greatest_42 (by decide) ?_
            refine J_lv [0, 2] rfl ?_
            exact hk46 1
      · refine J_ldc2 (v := (-9223372036854775808)) G dX9_greatest_29 wc_X9_200 (by decide) ?_
        exact J_lret G dX9_greatest_32 rfl
theorem mX9_span (u : jU) (mem : Mem) : jMet u yX9_span cX9_span 6 none (jRm 6 157) [vR (uB u) 149] mem EwV (Mo_span mem) := by
  refine jMet_of (by decide +kernel) (Nat.le_of_ble_eq_true rfl) (fun x G => ?_)
  show J u x 6 (jQ u x EwV) 0 [(0, vR (uB u) 149)] [] mem _
  unfold Mo_span
  refine J_aload_n G 0 dX9_span_0 rfl ?_
  refine J_cVwV (As := []) G (mX9_reactions u mem) sg_X9_reactions sv_X9_reactions wm_X9_202 cls_9 kd_149 rfl ⟨by decide, by decide⟩ rfl rfl (Nat.le_of_ble_eq_true rfl) dX9_span_1 ?_
  intro m1
  refine J_aload_n G 0 dX9_span_4 rfl ?_
  refine J_iconst G dX9_span_5 ?_
  refine J_cVwV (As := [vI 1]) G (mX9_looks u 1 m1) sg_X9_looks sv_X9_looks wm_X9_248 cls_9 kd_149 rfl ⟨by decide, by decide⟩ rfl rfl (Nat.le_of_ble_eq_true rfl) dX9_span_6 ?_
  intro m2
  refine J_aload_n G 0 dX9_span_9 rfl ?_
  refine J_getL (i := 15) (k := 15) G cls_9 wf_X9_235 kd_149 rfl rfl dX9_span_10 ?_
  refine J_ltL (fun x3 => ?_)
  refine J_lstore_n (lv' := [(1, vL x3), (0, vR (uB u) 149)]) G dX9_span_13 rfl (by decide) rfl ?_
  refine J_aload_n G 1 dX9_span_14 rfl ?_
  refine J_getL (i := 16) (k := 16) G cls_9 wf_X9_232 kd_149 rfl rfl dX9_span_15 ?_
  refine J_ltL (fun x4 => ?_)
  refine J_lstore_n (lv' := [(3, vL x4), (1, vL x3), (0, vR (uB u) 149)]) G dX9_span_18 rfl (by decide) rfl ?_
  refine J_aload_n G 2 dX9_span_19 rfl ?_
  refine J_iconst G dX9_span_20 ?_
  refine J_cVwV (As := [vI (-1)]) G (mX9_looks u (-1) m2) sg_X9_looks sv_X9_looks wm_X9_248 cls_9 kd_149 rfl ⟨by decide, by decide⟩ rfl rfl (Nat.le_of_ble_eq_true rfl) dX9_span_21 ?_
  intro m5
  refine J_aload_n G 2 dX9_span_24 rfl ?_
  refine J_getL (i := 15) (k := 15) G cls_9 wf_X9_235 kd_149 rfl rfl dX9_span_25 ?_
  refine J_aload_n G 2 dX9_span_28 rfl ?_
  refine J_getL (i := 16) (k := 16) G cls_9 wf_X9_232 kd_149 rfl rfl dX9_span_29 ?_
  refine J_lload_n G 1 dX9_span_32 rfl ?_
  refine J_lload_n G 0 dX9_span_33 rfl ?_
  refine J_cSpI (As := [vL (m5 149 15), vL (m5 149 16), vL x3, vL x4]) G (mX9_isLess u (m5 149 15) (m5 149 16) x3 x4 m5) sg_X9_isLess ss_X9_isLess wm_X9_228 ⟨by decide, by decide⟩ rfl rfl (Nat.le_of_ble_eq_true rfl) dX9_span_34 ?_
  intro r6
  refine J_istore (lv' := [(5, vI r6), (3, vL x4), (1, vL x3), (0, vR (uB u) 149)]) G dX9_span_37 (by decide) rfl ?_
  refine J_aload_n G 3 dX9_span_39 rfl ?_
  refine J_iload G 0 dX9_span_40 rfl ?_
  refine J_jn (fun g => ∀ x7, J u x 6 (jQ u x EwV) 53 [(0, vR (uB u) 149), (3, vL x4), (5, vI r6)] [vL x7, vR (uB u) 149] m5 (g x7)) ?_ ?_
  · intro x7
    refine J_iload G 2 dX9_span_53 rfl ?_
    refine J_jn (fun g => ∀ x8, J u x 6 (jQ u x EwV) 66 [(0, vR (uB u) 149)] [vL x8, vL x7, vR (uB u) 149] m5 (g x8)) ?_ ?_
    · intro x8
      refine J_cVwV (As := [vL x7, vL x8]) G (mX9_is u x7 x8 m5) sg_X9_is sv_X9_is wm_X9_133 cls_9 kd_149 rfl ⟨by decide, by decide⟩ rfl rfl (Nat.le_of_ble_eq_true rfl) dX9_span_66 ?_
      intro m9
      refine J_aload_n G 0 dX9_span_69 rfl ?_
      refine J_aload_n G 0 dX9_span_70 rfl ?_
      refine J_getL (i := 5) (k := 5) G cls_9 wf_X9_130 kd_149 rfl rfl dX9_span_71 ?_
      refine J_putL (i := 19) (k := 19) G cls_9 wf_X9_251 kd_149 rfl rfl rfl rfl dX9_span_74 ?_
      refine J_ltM (fun m10 => ?_)
      refine J_aload_n G 0 dX9_span_77 rfl ?_
      refine J_aload_n G 0 dX9_span_78 rfl ?_
      refine J_getL (i := 6) (k := 6) G cls_9 wf_X9_21 kd_149 rfl rfl dX9_span_79 ?_
      refine J_putL (i := 20) (k := 20) G cls_9 wf_X9_254 kd_149 rfl rfl rfl rfl dX9_span_82 ?_
      refine J_ltM (fun m11 => ?_)
      exact J_vret G dX9_span_85 rfl
    · intro k66 hk66
      refine J_if_eq 62 G dX9_span_55 (by decide) ?_ ?_
      · refine J_aload_n G 0 dX9_span_62 rfl ?_
        refine J_getL (i := 16) (k := 16) G cls_9 wf_X9_232 kd_149 rfl rfl dX9_span_63 ?_
        refine J_lv [0] rfl ?_
        exact hk66 (m5 149 16)
      · refine J_lload_n G 1 dX9_span_58 rfl ?_
        refine J_goto 66 G dX9_span_59 (by decide) ?_
        refine J_lv [0] rfl ?_
        exact hk66 x4
  · intro k53 hk53
    refine J_if_eq 49 G dX9_span_42 (by decide) ?_ ?_
    · refine J_aload_n G 3 dX9_span_49 rfl ?_
      refine J_getL (i := 15) (k := 15) G cls_9 wf_X9_235 kd_149 rfl rfl dX9_span_50 ?_
      refine J_lv [3, 1, 0] rfl ?_
      exact hk53 (m5 149 15)
    · refine J_lload_n G 2 dX9_span_45 rfl ?_
      refine J_goto 53 G dX9_span_46 (by decide) ?_
      refine J_lv [3, 1, 0] rfl ?_
      exact hk53 x3
theorem jMo_times_L42 {u : jU} {x : jX} (G : jG u x cX9_times RX9 3 (some .int) (jRm 7 182)) (p0 : Int) (m3 : Mem) : ∀ (n : Nat) (i4 : Int), J u x 3 (jQ u x EwI) 42 [(0, vR (uB u) 149), (1, vI p0), (2, vI i4)] [] m3 (Mo_times_L42 p0 m3 n i4) := by
  intro n
  induction n with
  | zero => intro i4; exact J_none
  | succ n ih =>
    intro i4
    rw [Mo_times_L42]
    refine J_iload_n G 2 dX9_times_42 rfl ?_
    refine J_bipush G dX9_times_43 (by decide) ?_
    refine J_icmp_ge 76 G dX9_times_45 (by decide) ?_ ?_
    · refine J_iload_n G 2 dX9_times_76 rfl ?_
      exact J_iret G dX9_times_77 rfl
    · refine J_iload_n G 1 dX9_times_48 rfl ?_
      refine J_i2l G dX9_times_49 ?_
      refine J_lconst (v := 1) G dX9_times_50 (by decide) ?_
      refine J_iload_n G 2 dX9_times_51 rfl ?_
      refine J_iconst G dX9_times_52 ?_
      refine J_iadd G dX9_times_53 ?_
      refine J_i2l G dX9_times_54 ?_
      refine J_aload_n G 0 dX9_times_55 rfl ?_
      refine J_getL (i := 19) (k := 19) G cls_9 wf_X9_251 kd_149 rfl rfl dX9_times_56 ?_
      refine J_lmul G dX9_times_59 ?_
      refine J_aload_n G 0 dX9_times_60 rfl ?_
      refine J_getL (i := 20) (k := 20) G cls_9 wf_X9_254 kd_149 rfl rfl dX9_times_61 ?_
      refine J_cSpI (As := [vL (s32 p0), vL 1, vL ((s32 (i4 + 1)) * (m3 149 19)), vL (m3 149 20)]) G (mX9_isLess u (s32 p0) 1 ((s32 (i4 + 1)) * (m3 149 19)) (m3 149 20) m3) sg_X9_isLess ss_X9_isLess wm_X9_228 ⟨by decide, by decide⟩ rfl rfl (Nat.le_of_ble_eq_true rfl) dX9_times_64 ?_
      intro r5
      refine J_if_ne 76 G dX9_times_67 (by decide) ?_ ?_
      · refine J_iload_n G 2 dX9_times_76 rfl ?_
        exact J_iret G dX9_times_77 rfl
      · refine J_iinc (lv' := [(2, vI (i4 + 1)), (0, vR (uB u) 149), (1, vI p0)]) G 2 dX9_times_70 rfl (by decide) rfl ?_
        refine J_goto 42 G dX9_times_73 (by decide) ?_
        refine J_lv [1, 2, 0] rfl ?_
        exact ih (i4 + 1)
theorem mX9_times (u : jU) (p0 : Int) (mem : Mem) : jMet u yX9_times cX9_times 3 (some .int) (jRm 7 182) [vR (uB u) 149, vI p0] mem EwI (Mo_times p0 mem) := by
  refine jMet_of (by decide +kernel) (Nat.le_of_ble_eq_true rfl) (fun x G => ?_)
  show J u x 3 (jQ u x EwI) 0 [(0, vR (uB u) 149), (1, vI p0)] [] mem _
  unfold Mo_times
  refine J_iload_n G 1 dX9_times_0 rfl ?_
  refine J_i2l G dX9_times_1 ?_
  refine J_lconst (v := 0) G dX9_times_2 (by decide) ?_
  refine J_ldc2 (v := 9999) G dX9_times_3 wc_X9_257 (by decide) ?_
  refine J_cSpI (As := [vL (s32 p0), vL 0, vL 9999]) G (mX9_in u (s32 p0) 0 9999 mem) sg_X9_in ss_X9_in wm_X9_82 ⟨by decide, by decide⟩ rfl rfl (Nat.le_of_ble_eq_true rfl) dX9_times_6 ?_
  intro r1
  refine J_if_ne 14 G dX9_times_9 (by decide) ?_ ?_
  · refine J_aload_n G 0 dX9_times_14 rfl ?_
    refine J_cVpI (As := []) G (mX9_stands u mem) sg_X9_stands sv_X9_stands wm_X9_196 cls_9 kd_149 rfl ⟨by decide, by decide⟩ rfl rfl (Nat.le_of_ble_eq_true rfl) dX9_times_15 ?_
    intro r2
    refine J_if_ne 24 G dX9_times_18 (by decide) ?_ ?_
    · refine J_aload_n G 0 dX9_times_24 rfl ?_
      refine J_cVwV (As := []) G (mX9_span u mem) sg_X9_span sv_X9_span wm_X9_259 cls_9 kd_149 rfl ⟨by decide, by decide⟩ rfl rfl (Nat.le_of_ble_eq_true rfl) dX9_times_25 ?_
      intro m3
      refine J_aload_n G 0 dX9_times_28 rfl ?_
      refine J_getL (i := 19) (k := 19) G cls_9 wf_X9_251 kd_149 rfl rfl dX9_times_29 ?_
      refine J_lconst (v := 0) G dX9_times_32 (by decide) ?_
      refine J_lcmp_ne 40 G dX9_times_33 dX9_times_34 (by decide) ?_ ?_
      · refine J_iconst G dX9_times_40 ?_
        refine J_istore_n (lv' := [(2, vI 0), (0, vR (uB u) 149), (1, vI p0)]) G dX9_times_41 rfl (by decide) rfl ?_
        refine J_lv [1, 2, 0] rfl ?_
        exact jMo_times_L42 G p0 m3 2000 0
      · refine J_bipush G dX9_times_37 (by decide) ?_
        exact J_iret G dX9_times_39 rfl
    · refine J_bipush G dX9_times_21 (by decide) ?_
      exact J_iret G dX9_times_23 rfl
  · refine J_iconst G dX9_times_12 ?_
    exact J_iret G dX9_times_13 rfl
theorem mX9_thinks (u : jU) (mem : Mem) : jMet u yX9_thinks cX9_thinks 1 none (jRm 1 22) [vR (uB u) 149] mem EwV (Mo_thinks mem) := by
  refine jMet_of (by decide +kernel) (Nat.le_of_ble_eq_true rfl) (fun x G => ?_)
  show J u x 1 (jQ u x EwV) 0 [(0, vR (uB u) 149)] [] mem _
  unfold Mo_thinks
  refine J_aload_n G 0 dX9_thinks_0 rfl ?_
  refine J_getR (d := 150) (k := 0) G cls_9 wf_X9_11 kd_149 rfl rfl dX9_thinks_1 ?_
  refine J_aload_n G 0 dX9_thinks_4 rfl ?_
  refine J_getR (d := 160) (k := 21) G cls_9 wf_X9_47 kd_149 rfl rfl dX9_thinks_5 ?_
  refine J_cSwV (As := [vR (uB u) 150, vR (uB u) 160]) G (mX9_copies u 150 160 kd_150 kd_160 mem) sg_X9_copies ss_X9_copies wm_X9_262 ⟨by decide, by decide⟩ rfl rfl (Nat.le_of_ble_eq_true rfl) dX9_thinks_8 ?_
  intro m1
  exact J_vret G dX9_thinks_11 rfl
theorem mX9_laysBack (u : jU) (mem : Mem) : jMet u yX9_laysBack cX9_laysBack 1 none (jRm 1 22) [vR (uB u) 149] mem EwV (Mo_laysBack mem) := by
  refine jMet_of (by decide +kernel) (Nat.le_of_ble_eq_true rfl) (fun x G => ?_)
  show J u x 1 (jQ u x EwV) 0 [(0, vR (uB u) 149)] [] mem _
  unfold Mo_laysBack
  refine J_aload_n G 0 dX9_laysBack_0 rfl ?_
  refine J_getR (d := 160) (k := 21) G cls_9 wf_X9_47 kd_149 rfl rfl dX9_laysBack_1 ?_
  refine J_aload_n G 0 dX9_laysBack_4 rfl ?_
  refine J_getR (d := 150) (k := 0) G cls_9 wf_X9_11 kd_149 rfl rfl dX9_laysBack_5 ?_
  refine J_cSwV (As := [vR (uB u) 160, vR (uB u) 150]) G (mX9_copies u 160 150 kd_160 kd_150 mem) sg_X9_copies ss_X9_copies wm_X9_262 ⟨by decide, by decide⟩ rfl rfl (Nat.le_of_ble_eq_true rfl) dX9_laysBack_8 ?_
  intro m1
  exact J_vret G dX9_laysBack_11 rfl
theorem mX9_alone_ (u : jU) (p0 : Int) (p1 : Int) (mem : Mem) : jMet u yX9_alone_ cX9_alone_ 3 none (jRm 0 0) [vR (uB u) 149, vI p0, vI p1] mem EwV (Mo_alone_ p0 p1 mem) := by
  refine jMet_of (by decide +kernel) (Nat.le_of_ble_eq_true rfl) (fun x G => ?_)
  show J u x 3 (jQ u x EwV) 0 [(0, vR (uB u) 149), (1, vI p0), (2, vI p1)] [] mem _
  unfold Mo_alone_
  refine J_aload_n G 0 dX9_alone__0 rfl ?_
  refine J_getR (d := 150) (k := 0) G cls_9 wf_X9_11 kd_149 rfl rfl dX9_alone__1 ?_
  refine J_bipush G dX9_alone__4 (by decide) ?_
  refine J_aload_n G 0 dX9_alone__6 rfl ?_
  refine J_getR (d := 150) (k := 0) G cls_9 wf_X9_11 kd_149 rfl rfl dX9_alone__7 ?_
  refine J_bipush G dX9_alone__10 (by decide) ?_
  refine J_ialdC G kd_150 ln_150 (by decide) dX9_alone__12 ?_
  refine J_iadd G dX9_alone__13 ?_
  refine J_iload_n G 1 dX9_alone__14 rfl ?_
  refine J_iast G kd_150 ln_150 dX9_alone__15 ?_
  refine J_ltM (fun m1 => ?_)
  refine J_aload_n G 0 dX9_alone__16 rfl ?_
  refine J_getR (d := 150) (k := 0) G cls_9 wf_X9_11 kd_149 rfl rfl dX9_alone__17 ?_
  refine J_bipush G dX9_alone__20 (by decide) ?_
  refine J_aload_n G 0 dX9_alone__22 rfl ?_
  refine J_getR (d := 150) (k := 0) G cls_9 wf_X9_11 kd_149 rfl rfl dX9_alone__23 ?_
  refine J_bipush G dX9_alone__26 (by decide) ?_
  refine J_ialdC G kd_150 ln_150 (by decide) dX9_alone__28 ?_
  refine J_iadd G dX9_alone__29 ?_
  refine J_iload_n G 1 dX9_alone__30 rfl ?_
  refine J_iast G kd_150 ln_150 dX9_alone__31 ?_
  refine J_ltM (fun m2 => ?_)
  refine J_aload_n G 0 dX9_alone__32 rfl ?_
  refine J_getR (d := 150) (k := 0) G cls_9 wf_X9_11 kd_149 rfl rfl dX9_alone__33 ?_
  refine J_bipush G dX9_alone__36 (by decide) ?_
  refine J_aload_n G 0 dX9_alone__38 rfl ?_
  refine J_getR (d := 150) (k := 0) G cls_9 wf_X9_11 kd_149 rfl rfl dX9_alone__39 ?_
  refine J_bipush G dX9_alone__42 (by decide) ?_
  refine J_ialdC G kd_150 ln_150 (by decide) dX9_alone__44 ?_
  refine J_iadd G dX9_alone__45 ?_
  refine J_iload_n G 2 dX9_alone__46 rfl ?_
  refine J_iast G kd_150 ln_150 dX9_alone__47 ?_
  refine J_ltM (fun m3 => ?_)
  refine J_aload_n G 0 dX9_alone__48 rfl ?_
  refine J_getR (d := 150) (k := 0) G cls_9 wf_X9_11 kd_149 rfl rfl dX9_alone__49 ?_
  refine J_bipush G dX9_alone__52 (by decide) ?_
  refine J_dup2 G dX9_alone__54 rfl rfl ?_
  refine J_ialdC G kd_150 ln_150 (by decide) dX9_alone__55 ?_
  refine J_iconst G dX9_alone__56 ?_
  refine J_iadd G dX9_alone__57 ?_
  refine J_iastC G kd_150 ln_150 (by decide) dX9_alone__58 ?_
  refine J_ltM (fun m4 => ?_)
  exact J_vret G dX9_alone__59 rfl
theorem mX9_asked (u : jU) (p0 : Int) (p1 : Int) (mem : Mem) : jMet u yX9_asked cX9_asked 3 none (jRm 6 157) [vR (uB u) 149, vI p0, vI p1] mem EwV (Mo_asked p0 p1 mem) := by
  refine jMet_of (by decide +kernel) (Nat.le_of_ble_eq_true rfl) (fun x G => ?_)
  show J u x 3 (jQ u x EwV) 0 [(0, vR (uB u) 149), (1, vI p0), (2, vI p1)] [] mem _
  unfold Mo_asked
  refine J_aload_n G 0 dX9_asked_0 rfl ?_
  refine J_cVwV (As := []) G (mX9_reactions u mem) sg_X9_reactions sv_X9_reactions wm_X9_202 cls_9 kd_149 rfl ⟨by decide, by decide⟩ rfl rfl (Nat.le_of_ble_eq_true rfl) dX9_asked_1 ?_
  intro m1
  refine J_iload_n G 2 dX9_asked_4 rfl ?_
  refine J_if_ge 30 G dX9_asked_5 (by decide) ?_ ?_
  · refine J_aload_n G 0 dX9_asked_30 rfl ?_
    refine J_aload_n G 0 dX9_asked_31 rfl ?_
    refine J_getR (d := 157) (k := 11) G cls_9 wf_X9_38 kd_149 rfl rfl dX9_asked_32 ?_
    refine J_iload_n G 2 dX9_asked_35 rfl ?_
    refine J_lald G kd_157 ln_157 dX9_asked_36 ?_
    refine J_aload_n G 0 dX9_asked_37 rfl ?_
    refine J_getL (i := 13) (k := 13) G cls_9 wf_X9_182 kd_149 rfl rfl dX9_asked_38 ?_
    refine J_cVwV (As := [vL (m1 157 (s32 p1)), vL (m1 149 13)]) G (mX9_is u (m1 157 (s32 p1)) (m1 149 13) m1) sg_X9_is sv_X9_is wm_X9_133 cls_9 kd_149 rfl ⟨by decide, by decide⟩ rfl rfl (Nat.le_of_ble_eq_true rfl) dX9_asked_41 ?_
    intro m2
    exact J_vret G dX9_asked_44 rfl
  · refine J_aload_n G 0 dX9_asked_8 rfl ?_
    refine J_aload_n G 0 dX9_asked_9 rfl ?_
    refine J_iload_n G 1 dX9_asked_10 rfl ?_
    refine J_i2l G dX9_asked_11 ?_
    refine J_lconst (v := 1) G dX9_asked_12 (by decide) ?_
    refine J_cVpL (As := [vL (s32 p0), vL 1]) G (mX9_momentAt u (s32 p0) 1 m1) sg_X9_momentAt sv_X9_momentAt wm_X9_210 cls_9 kd_149 rfl ⟨by decide, by decide⟩ rfl rfl (Nat.le_of_ble_eq_true rfl) dX9_asked_13 ?_
    intro r3
    refine J_ldc2 (v := 2) G dX9_asked_16 wc_X9_86 (by decide) ?_
    refine J_aload_n G 0 dX9_asked_19 rfl ?_
    refine J_getL (i := 13) (k := 13) G cls_9 wf_X9_182 kd_149 rfl rfl dX9_asked_20 ?_
    refine J_lmul G dX9_asked_23 ?_
    refine J_cVwV (As := [vL r3, vL (2 * (m1 149 13))]) G (mX9_is u r3 (2 * (m1 149 13)) m1) sg_X9_is sv_X9_is wm_X9_133 cls_9 kd_149 rfl ⟨by decide, by decide⟩ rfl rfl (Nat.le_of_ble_eq_true rfl) dX9_asked_24 ?_
    intro m4
    refine J_goto 44 G dX9_asked_27 (by decide) ?_
    exact J_vret G dX9_asked_44 rfl
theorem jMo_most_L30 {u : jU} {x : jX} (G : jG u x cX9_most RX9 6 (some .long) (jRm 7 179)) (p0 : Int) (p1 : Int) (p2 : Int) (i5 : Int) (k95 : Mem → Option (Int × Mem)) (hk95 : (fun g => ∀ m8, J u x 6 (jQ u x EwL) 95 [(0, vR (uB u) 149), (1, vI p0), (2, vI p1), (3, vI p2), (4, vI i5)] [] m8 (g m8)) k95) : ∀ (n : Nat) (i11 : Int) (m12 : Mem), J u x 6 (jQ u x EwL) 30 [(0, vR (uB u) 149), (1, vI p0), (2, vI p1), (3, vI p2), (4, vI i5), (5, vI i11)] [] m12 (Mo_most_L30 i5 k95 n i11 m12) := by
  intro n
  induction n with
  | zero => intro i11 m12; exact J_none
  | succ n ih =>
    intro i11 m12
    rw [Mo_most_L30]
    refine J_iload G 5 dX9_most_30 rfl ?_
    refine J_aload_n G 0 dX9_most_32 rfl ?_
    refine J_getR (d := 150) (k := 0) G cls_9 wf_X9_11 kd_149 rfl rfl dX9_most_33 ?_
    refine J_bipush G dX9_most_36 (by decide) ?_
    refine J_ialdC G kd_150 ln_150 (by decide) dX9_most_38 ?_
    refine J_icmp_ge 95 G dX9_most_39 (by decide) ?_ ?_
    · refine J_lv [0, 1, 2, 3, 4] rfl ?_
      exact hk95 m12
    · refine J_aload_n G 0 dX9_most_42 rfl ?_
      refine J_iload G 4 dX9_most_43 rfl ?_
      refine J_aload_n G 0 dX9_most_45 rfl ?_
      refine J_getR (d := 150) (k := 0) G cls_9 wf_X9_11 kd_149 rfl rfl dX9_most_46 ?_
      refine J_bipush G dX9_most_49 (by decide) ?_
      refine J_iload G 5 dX9_most_51 rfl ?_
      refine J_iadd G dX9_most_53 ?_
      refine J_iald G kd_150 ln_150 dX9_most_54 ?_
      refine J_isub G dX9_most_55 ?_
      refine J_cVpI (As := [vI (i5 - (m12 150 (s32 (30 + i11))))]) G (mX9_isPlace u (i5 - (m12 150 (s32 (30 + i11)))) m12) sg_X9_isPlace sv_X9_isPlace wm_X9_90 cls_9 kd_149 rfl ⟨by decide, by decide⟩ rfl rfl (Nat.le_of_ble_eq_true rfl) dX9_most_56 ?_
      intro r13
      refine J_if_eq 89 G dX9_most_59 (by decide) ?_ ?_
      · refine J_iinc (lv' := [(5, vI (i11 + 1)), (0, vR (uB u) 149), (1, vI p0), (2, vI p1), (3, vI p2), (4, vI i5)]) G 5 dX9_most_89 rfl (by decide) rfl ?_
        refine J_goto 30 G dX9_most_92 (by decide) ?_
        refine J_lv [1, 2, 3, 4, 5, 0] rfl ?_
        exact ih (i11 + 1) m12
      · refine J_aload_n G 0 dX9_most_62 rfl ?_
        refine J_iload G 4 dX9_most_63 rfl ?_
        refine J_aload_n G 0 dX9_most_65 rfl ?_
        refine J_getR (d := 150) (k := 0) G cls_9 wf_X9_11 kd_149 rfl rfl dX9_most_66 ?_
        refine J_bipush G dX9_most_69 (by decide) ?_
        refine J_iload G 5 dX9_most_71 rfl ?_
        refine J_iadd G dX9_most_73 ?_
        refine J_iald G kd_150 ln_150 dX9_most_74 ?_
        refine J_isub G dX9_most_75 ?_
        refine J_aload_n G 0 dX9_most_76 rfl ?_
        refine J_getR (d := 150) (k := 0) G cls_9 wf_X9_11 kd_149 rfl rfl dX9_most_77 ?_
        refine J_bipush G dX9_most_80 (by decide) ?_
        refine J_iload G 5 dX9_most_82 rfl ?_
        refine J_iadd G dX9_most_84 ?_
        refine J_iald G kd_150 ln_150 dX9_most_85 ?_
        refine J_cVwV (As := [vI (i5 - (m12 150 (s32 (30 + i11)))), vI (m12 150 (s32 (33 + i11)))]) G (mX9_alone_ u (i5 - (m12 150 (s32 (30 + i11)))) (m12 150 (s32 (33 + i11))) m12) sg_X9_alone_ sv_X9_alone_ wm_X9_269 cls_9 kd_149 rfl ⟨by decide, by decide⟩ rfl rfl (Nat.le_of_ble_eq_true rfl) dX9_most_86 ?_
        intro m14
        refine J_iinc (lv' := [(5, vI (i11 + 1)), (0, vR (uB u) 149), (1, vI p0), (2, vI p1), (3, vI p2), (4, vI i5)]) G 5 dX9_most_89 rfl (by decide) rfl ?_
        refine J_goto 30 G dX9_most_92 (by decide) ?_
        refine J_lv [1, 2, 3, 4, 5, 0] rfl ?_
        exact ih (i11 + 1) m14
theorem jMo_most_L12 {u : jU} {x : jX} (G : jG u x cX9_most RX9 6 (some .long) (jRm 7 179)) (p0 : Int) (p1 : Int) (p2 : Int) (k123 : Mem → Option (Int × Mem)) (hk123 : (fun g => ∀ m3, J u x 6 (jQ u x EwL) 123 [(0, vR (uB u) 149), (3, vI p2)] [] m3 (g m3)) k123) : ∀ (n : Nat) (i5 : Int) (m6 : Mem), J u x 6 (jQ u x EwL) 12 [(0, vR (uB u) 149), (1, vI p0), (2, vI p1), (3, vI p2), (4, vI i5)] [] m6 (Mo_most_L12 p0 p1 k123 n i5 m6) := by
  intro n
  induction n with
  | zero => intro i5 m6; exact J_none
  | succ n ih =>
    intro i5 m6
    rw [Mo_most_L12]
    refine J_iload G 4 dX9_most_12 rfl ?_
    refine J_bipush G dX9_most_14 (by decide) ?_
    refine J_icmp_ge 123 G dX9_most_16 (by decide) ?_ ?_
    · refine J_lv [0, 3] rfl ?_
      exact hk123 m6
    · refine J_aload_n G 0 dX9_most_19 rfl ?_
      refine J_getR (d := 150) (k := 0) G cls_9 wf_X9_11 kd_149 rfl rfl dX9_most_20 ?_
      refine J_bipush G dX9_most_23 (by decide) ?_
      refine J_iconst G dX9_most_25 ?_
      refine J_iastC G kd_150 ln_150 (by decide) dX9_most_26 ?_
      refine J_ltM (fun m7 => ?_)
      refine J_iconst G dX9_most_27 ?_
      refine J_istore (lv' := [(5, vI 0), (0, vR (uB u) 149), (1, vI p0), (2, vI p1), (3, vI p2), (4, vI i5)]) G dX9_most_28 (by decide) rfl ?_
      refine J_jn (fun g => ∀ m8, J u x 6 (jQ u x EwL) 95 [(0, vR (uB u) 149), (1, vI p0), (2, vI p1), (3, vI p2), (4, vI i5)] [] m8 (g m8)) ?_ ?_
      · intro m8
        refine J_aload_n G 0 dX9_most_95 rfl ?_
        refine J_iload_n G 1 dX9_most_96 rfl ?_
        refine J_iload_n G 2 dX9_most_97 rfl ?_
        refine J_cVwV (As := [vI p0, vI p1]) G (mX9_asked u p0 p1 m8) sg_X9_asked sv_X9_asked wm_X9_272 cls_9 kd_149 rfl ⟨by decide, by decide⟩ rfl rfl (Nat.le_of_ble_eq_true rfl) dX9_most_98 ?_
        intro m9
        refine J_aload_n G 0 dX9_most_101 rfl ?_
        refine J_aload_n G 0 dX9_most_102 rfl ?_
        refine J_getL (i := 5) (k := 5) G cls_9 wf_X9_130 kd_149 rfl rfl dX9_most_103 ?_
        refine J_aload_n G 0 dX9_most_106 rfl ?_
        refine J_getL (i := 6) (k := 6) G cls_9 wf_X9_21 kd_149 rfl rfl dX9_most_107 ?_
        refine J_iload G 4 dX9_most_110 rfl ?_
        refine J_i2l G dX9_most_112 ?_
        refine J_lconst (v := 1) G dX9_most_113 (by decide) ?_
        refine J_cVwV (As := [vL (m9 149 5), vL (m9 149 6), vL (s32 i5), vL 1]) G (mX9_tries u (m9 149 5) (m9 149 6) (s32 i5) 1 m9) sg_X9_tries sv_X9_tries wm_X9_244 cls_9 kd_149 rfl ⟨by decide, by decide⟩ rfl rfl (Nat.le_of_ble_eq_true rfl) dX9_most_114 ?_
        intro m10
        refine J_iinc (lv' := [(4, vI (i5 + 1)), (0, vR (uB u) 149), (1, vI p0), (2, vI p1), (3, vI p2)]) G 4 dX9_most_117 rfl (by decide) rfl ?_
        refine J_goto 12 G dX9_most_120 (by decide) ?_
        refine J_lv [1, 2, 3, 4, 0] rfl ?_
        exact ih (i5 + 1) m10
      · intro k95 hk95
        refine J_lv [1, 2, 3, 4, 5, 0] rfl ?_
        exact jMo_most_L30 G p0 p1 p2 i5 k95 hk95 2000 0 m7
theorem mX9_most (u : jU) (p0 : Int) (p1 : Int) (p2 : Int) (mem : Mem) : jMet u yX9_most cX9_most 6 (some .long) (jRm 7 179) [vR (uB u) 149, vI p0, vI p1, vI p2] mem EwL (Mo_most p0 p1 p2 mem) := by
  refine jMet_of (by decide +kernel) (Nat.le_of_ble_eq_true rfl) (fun x G => ?_)
  show J u x 6 (jQ u x EwL) 0 [(0, vR (uB u) 149), (1, vI p0), (2, vI p1), (3, vI p2)] [] mem _
  unfold Mo_most
  refine J_aload_n G 0 dX9_most_0 rfl ?_
  refine J_cVwV (As := []) G (mX9_thinks u mem) sg_X9_thinks sv_X9_thinks wm_X9_266 cls_9 kd_149 rfl ⟨by decide, by decide⟩ rfl rfl (Nat.le_of_ble_eq_true rfl) dX9_most_1 ?_
  intro m1
  refine J_aload_n G 0 dX9_most_4 rfl ?_
  refine J_lconst (v := 0) G dX9_most_5 (by decide) ?_
  refine J_putL (i := 16) (k := 16) G cls_9 wf_X9_232 kd_149 rfl rfl rfl rfl dX9_most_6 ?_
  refine J_ltM (fun m2 => ?_)
  refine J_iconst G dX9_most_9 ?_
  refine J_istore (lv' := [(4, vI 0), (0, vR (uB u) 149), (1, vI p0), (2, vI p1), (3, vI p2)]) G dX9_most_10 (by decide) rfl ?_
  refine J_jn (fun g => ∀ m3, J u x 6 (jQ u x EwL) 123 [(0, vR (uB u) 149), (3, vI p2)] [] m3 (g m3)) ?_ ?_
  · intro m3
    refine J_aload_n G 0 dX9_most_123 rfl ?_
    refine J_cVwV (As := []) G (mX9_laysBack u m3) sg_X9_laysBack sv_X9_laysBack wm_X9_275 cls_9 kd_149 rfl ⟨by decide, by decide⟩ rfl rfl (Nat.le_of_ble_eq_true rfl) dX9_most_124 ?_
    intro m4
    refine J_iload_n G 1 dX9_most_127 rfl ?_
    refine J_if_ne 138 G dX9_most_128 (by decide) ?_ ?_
    · refine J_iload_n G 1 dX9_most_138 rfl ?_
      refine J_iconst G dX9_most_139 ?_
      refine J_icmp_ne 150 G dX9_most_140 (by decide) ?_ ?_
      · refine J_aload_n G 0 dX9_most_150 rfl ?_
        refine J_getL (i := 17) (k := 17) G cls_9 wf_X9_238 kd_149 rfl rfl dX9_most_151 ?_
        exact J_lret G dX9_most_154 rfl
      · refine J_aload_n G 0 dX9_most_143 rfl ?_
        refine J_getL (i := 16) (k := 16) G cls_9 wf_X9_232 kd_149 rfl rfl dX9_most_144 ?_
        refine J_goto 154 G dX9_most_147 (by decide) ?_
        exact J_lret G dX9_most_154 rfl
    · refine J_aload_n G 0 dX9_most_131 rfl ?_
      refine J_getL (i := 15) (k := 15) G cls_9 wf_X9_235 kd_149 rfl rfl dX9_most_132 ?_
      refine J_goto 154 G dX9_most_135 (by decide) ?_
      exact J_lret G dX9_most_154 rfl
  · intro k123 hk123
    refine J_lv [1, 2, 3, 4, 0] rfl ?_
    exact jMo_most_L12 G p0 p1 p2 k123 hk123 2000 0 m2
theorem mX9_rolls (u : jU) (p0 : Int) (p1 : Int) (mem : Mem) : jMet u yX9_rolls cX9_rolls 3 (some .long) (jRm 8 204) [vR (uB u) 149, vI p0, vI p1] mem EwL (Mo_rolls p0 p1 mem) := by
  refine jMet_of (by decide +kernel) (Nat.le_of_ble_eq_true rfl) (fun x G => ?_)
  show J u x 3 (jQ u x EwL) 0 [(0, vR (uB u) 149), (1, vI p0), (2, vI p1)] [] mem _
  unfold Mo_rolls
  refine J_aload_n G 0 dX9_rolls_0 rfl ?_
  refine J_iload_n G 1 dX9_rolls_1 rfl ?_
  refine J_cVpI (As := [vI p0]) G (mX9_isPlace u p0 mem) sg_X9_isPlace sv_X9_isPlace wm_X9_90 cls_9 kd_149 rfl ⟨by decide, by decide⟩ rfl rfl (Nat.le_of_ble_eq_true rfl) dX9_rolls_2 ?_
  intro r1
  refine J_if_eq 37 G dX9_rolls_5 (by decide) ?_ ?_
  · refine J_ldc2 (v := (-9223372036854775808)) G dX9_rolls_37 wc_X9_200 (by decide) ?_
    exact J_lret G dX9_rolls_40 rfl
  · refine J_iload_n G 2 dX9_rolls_8 rfl ?_
    refine J_i2l G dX9_rolls_9 ?_
    refine J_lconst (v := 0) G dX9_rolls_10 (by decide) ?_
    refine J_ldc2 (v := 2) G dX9_rolls_11 wc_X9_86 (by decide) ?_
    refine J_cSpI (As := [vL (s32 p1), vL 0, vL 2]) G (mX9_in u (s32 p1) 0 2 mem) sg_X9_in ss_X9_in wm_X9_82 ⟨by decide, by decide⟩ rfl rfl (Nat.le_of_ble_eq_true rfl) dX9_rolls_14 ?_
    intro r2
    refine J_if_eq 37 G dX9_rolls_17 (by decide) ?_ ?_
    · refine J_ldc2 (v := (-9223372036854775808)) G dX9_rolls_37 wc_X9_200 (by decide) ?_
      exact J_lret G dX9_rolls_40 rfl
    · refine J_aload_n G 0 dX9_rolls_20 rfl ?_
      refine J_cVpI (As := []) G (mX9_stands u mem) sg_X9_stands sv_X9_stands wm_X9_196 cls_9 kd_149 rfl ⟨by decide, by decide⟩ rfl rfl (Nat.le_of_ble_eq_true rfl) dX9_rolls_21 ?_
      intro r3
      refine J_if_eq 37 G dX9_rolls_24 (by decide) ?_ ?_
      · refine J_ldc2 (v := (-9223372036854775808)) G dX9_rolls_37 wc_X9_200 (by decide) ?_
        exact J_lret G dX9_rolls_40 rfl
      · refine J_aload_n G 0 dX9_rolls_27 rfl ?_
        refine J_getR (d := 150) (k := 0) G cls_9 wf_X9_11 kd_149 rfl rfl dX9_rolls_28 ?_
        refine J_bipush G dX9_rolls_31 (by decide) ?_
        refine J_ialdC G kd_150 ln_150 (by decide) dX9_rolls_33 ?_
        refine J_if_ne 41 G dX9_rolls_34 (by decide) ?_ ?_
        · refine J_aload_n G 0 dX9_rolls_41 rfl ?_
          refine J_iload_n G 1 dX9_rolls_42 rfl ?_
          refine J_iconst G dX9_rolls_43 ?_
          refine J_iload_n G 2 dX9_rolls_44 rfl ?_
          refine J_cVwL (As := [vI p0, vI (-1), vI p1]) G (mX9_most u p0 (-1) p1 mem) sg_X9_most sv_X9_most wm_X9_278 cls_9 kd_149 rfl ⟨by decide, by decide⟩ rfl rfl (Nat.le_of_ble_eq_true rfl) dX9_rolls_45 ?_
          intro r4 m5
          exact J_lret G dX9_rolls_48 rfl
        · refine J_ldc2 (v := (-9223372036854775808)) G dX9_rolls_37 wc_X9_200 (by decide) ?_
          exact J_lret G dX9_rolls_40 rfl
theorem mX9_presses (u : jU) (p0 : Int) (p1 : Int) (mem : Mem) : jMet u yX9_presses cX9_presses 3 (some .long) (jRm 8 204) [vR (uB u) 149, vI p0, vI p1] mem EwL (Mo_presses p0 p1 mem) := by
  refine jMet_of (by decide +kernel) (Nat.le_of_ble_eq_true rfl) (fun x G => ?_)
  show J u x 3 (jQ u x EwL) 0 [(0, vR (uB u) 149), (1, vI p0), (2, vI p1)] [] mem _
  unfold Mo_presses
  refine J_aload_n G 0 dX9_presses_0 rfl ?_
  refine J_iload_n G 1 dX9_presses_1 rfl ?_
  refine J_cVpI (As := [vI p0]) G (mX9_isSupport u p0 mem) sg_X9_isSupport sv_X9_isSupport wm_X9_113 cls_9 kd_149 rfl ⟨by decide, by decide⟩ rfl rfl (Nat.le_of_ble_eq_true rfl) dX9_presses_2 ?_
  intro r1
  refine J_if_eq 37 G dX9_presses_5 (by decide) ?_ ?_
  · refine J_ldc2 (v := (-9223372036854775808)) G dX9_presses_37 wc_X9_200 (by decide) ?_
    exact J_lret G dX9_presses_40 rfl
  · refine J_iload_n G 2 dX9_presses_8 rfl ?_
    refine J_i2l G dX9_presses_9 ?_
    refine J_lconst (v := 0) G dX9_presses_10 (by decide) ?_
    refine J_ldc2 (v := 2) G dX9_presses_11 wc_X9_86 (by decide) ?_
    refine J_cSpI (As := [vL (s32 p1), vL 0, vL 2]) G (mX9_in u (s32 p1) 0 2 mem) sg_X9_in ss_X9_in wm_X9_82 ⟨by decide, by decide⟩ rfl rfl (Nat.le_of_ble_eq_true rfl) dX9_presses_14 ?_
    intro r2
    refine J_if_eq 37 G dX9_presses_17 (by decide) ?_ ?_
    · refine J_ldc2 (v := (-9223372036854775808)) G dX9_presses_37 wc_X9_200 (by decide) ?_
      exact J_lret G dX9_presses_40 rfl
    · refine J_aload_n G 0 dX9_presses_20 rfl ?_
      refine J_cVpI (As := []) G (mX9_stands u mem) sg_X9_stands sv_X9_stands wm_X9_196 cls_9 kd_149 rfl ⟨by decide, by decide⟩ rfl rfl (Nat.le_of_ble_eq_true rfl) dX9_presses_21 ?_
      intro r3
      refine J_if_eq 37 G dX9_presses_24 (by decide) ?_ ?_
      · refine J_ldc2 (v := (-9223372036854775808)) G dX9_presses_37 wc_X9_200 (by decide) ?_
        exact J_lret G dX9_presses_40 rfl
      · refine J_aload_n G 0 dX9_presses_27 rfl ?_
        refine J_getR (d := 150) (k := 0) G cls_9 wf_X9_11 kd_149 rfl rfl dX9_presses_28 ?_
        refine J_bipush G dX9_presses_31 (by decide) ?_
        refine J_ialdC G kd_150 ln_150 (by decide) dX9_presses_33 ?_
        refine J_if_ne 41 G dX9_presses_34 (by decide) ?_ ?_
        · refine J_aload_n G 0 dX9_presses_41 rfl ?_
          refine J_iconst G dX9_presses_42 ?_
          refine J_iload_n G 1 dX9_presses_43 rfl ?_
          refine J_iload_n G 2 dX9_presses_44 rfl ?_
          refine J_cVwL (As := [vI 0, vI p0, vI p1]) G (mX9_most u 0 p0 p1 mem) sg_X9_most sv_X9_most wm_X9_278 cls_9 kd_149 rfl ⟨by decide, by decide⟩ rfl rfl (Nat.le_of_ble_eq_true rfl) dX9_presses_45 ?_
          intro r4 m5
          exact J_lret G dX9_presses_48 rfl
        · refine J_ldc2 (v := (-9223372036854775808)) G dX9_presses_37 wc_X9_200 (by decide) ?_
          exact J_lret G dX9_presses_40 rfl
theorem mX9_byUnit (u : jU) (p0 : Int) (p1 : Int) (p2 : Int) (p3 : Int) (mem : Mem) : jMet u yX9_byUnit cX9_byUnit 5 (some .long) (jRm 7 179) [vR (uB u) 149, vI p0, vI p1, vI p2, vI p3] mem EwL (Mo_byUnit p0 p1 p2 p3 mem) := by
  refine jMet_of (by decide +kernel) (Nat.le_of_ble_eq_true rfl) (fun x G => ?_)
  show J u x 5 (jQ u x EwL) 0 [(0, vR (uB u) 149), (1, vI p0), (2, vI p1), (3, vI p2), (4, vI p3)] [] mem _
  unfold Mo_byUnit
  refine J_aload_n G 0 dX9_byUnit_0 rfl ?_
  refine J_cVwV (As := []) G (mX9_thinks u mem) sg_X9_thinks sv_X9_thinks wm_X9_266 cls_9 kd_149 rfl ⟨by decide, by decide⟩ rfl rfl (Nat.le_of_ble_eq_true rfl) dX9_byUnit_1 ?_
  intro m1
  refine J_aload_n G 0 dX9_byUnit_4 rfl ?_
  refine J_getR (d := 150) (k := 0) G cls_9 wf_X9_11 kd_149 rfl rfl dX9_byUnit_5 ?_
  refine J_bipush G dX9_byUnit_8 (by decide) ?_
  refine J_iconst G dX9_byUnit_10 ?_
  refine J_iastC G kd_150 ln_150 (by decide) dX9_byUnit_11 ?_
  refine J_ltM (fun m2 => ?_)
  refine J_aload_n G 0 dX9_byUnit_12 rfl ?_
  refine J_iload_n G 1 dX9_byUnit_13 rfl ?_
  refine J_iconst G dX9_byUnit_14 ?_
  refine J_cVwV (As := [vI p0, vI 1]) G (mX9_alone_ u p0 1 m2) sg_X9_alone_ sv_X9_alone_ wm_X9_269 cls_9 kd_149 rfl ⟨by decide, by decide⟩ rfl rfl (Nat.le_of_ble_eq_true rfl) dX9_byUnit_15 ?_
  intro m3
  refine J_aload_n G 0 dX9_byUnit_18 rfl ?_
  refine J_iload_n G 2 dX9_byUnit_19 rfl ?_
  refine J_iload_n G 3 dX9_byUnit_20 rfl ?_
  refine J_cVwV (As := [vI p1, vI p2]) G (mX9_asked u p1 p2 m3) sg_X9_asked sv_X9_asked wm_X9_272 cls_9 kd_149 rfl ⟨by decide, by decide⟩ rfl rfl (Nat.le_of_ble_eq_true rfl) dX9_byUnit_21 ?_
  intro m4
  refine J_aload_n G 0 dX9_byUnit_24 rfl ?_
  refine J_cVwV (As := []) G (mX9_laysBack u m4) sg_X9_laysBack sv_X9_laysBack wm_X9_275 cls_9 kd_149 rfl ⟨by decide, by decide⟩ rfl rfl (Nat.le_of_ble_eq_true rfl) dX9_byUnit_25 ?_
  intro m5
  refine J_iload G 4 dX9_byUnit_28 rfl ?_
  refine J_if_ne 40 G dX9_byUnit_30 (by decide) ?_ ?_
  · refine J_aload_n G 0 dX9_byUnit_40 rfl ?_
    refine J_getL (i := 6) (k := 6) G cls_9 wf_X9_21 kd_149 rfl rfl dX9_byUnit_41 ?_
    exact J_lret G dX9_byUnit_44 rfl
  · refine J_aload_n G 0 dX9_byUnit_33 rfl ?_
    refine J_getL (i := 5) (k := 5) G cls_9 wf_X9_130 kd_149 rfl rfl dX9_byUnit_34 ?_
    refine J_goto 44 G dX9_byUnit_37 (by decide) ?_
    exact J_lret G dX9_byUnit_44 rfl
theorem mX9_unit (u : jU) (p0 : Int) (p1 : Int) (p2 : Int) (mem : Mem) : jMet u yX9_unit cX9_unit 4 (some .long) (jRm 8 203) [vR (uB u) 149, vI p0, vI p1, vI p2] mem EwL (Mo_unit p0 p1 p2 mem) := by
  refine jMet_of (by decide +kernel) (Nat.le_of_ble_eq_true rfl) (fun x G => ?_)
  show J u x 4 (jQ u x EwL) 0 [(0, vR (uB u) 149), (1, vI p0), (2, vI p1), (3, vI p2)] [] mem _
  unfold Mo_unit
  refine J_aload_n G 0 dX9_unit_0 rfl ?_
  refine J_iload_n G 1 dX9_unit_1 rfl ?_
  refine J_cVpI (As := [vI p0]) G (mX9_isPlace u p0 mem) sg_X9_isPlace sv_X9_isPlace wm_X9_90 cls_9 kd_149 rfl ⟨by decide, by decide⟩ rfl rfl (Nat.le_of_ble_eq_true rfl) dX9_unit_2 ?_
  intro r1
  refine J_if_eq 33 G dX9_unit_5 (by decide) ?_ ?_
  · refine J_ldc2 (v := (-9223372036854775808)) G dX9_unit_33 wc_X9_200 (by decide) ?_
    exact J_lret G dX9_unit_36 rfl
  · refine J_aload_n G 0 dX9_unit_8 rfl ?_
    refine J_iload_n G 2 dX9_unit_9 rfl ?_
    refine J_cVpI (As := [vI p1]) G (mX9_isPlace u p1 mem) sg_X9_isPlace sv_X9_isPlace wm_X9_90 cls_9 kd_149 rfl ⟨by decide, by decide⟩ rfl rfl (Nat.le_of_ble_eq_true rfl) dX9_unit_10 ?_
    intro r2
    refine J_if_eq 33 G dX9_unit_13 (by decide) ?_ ?_
    · refine J_ldc2 (v := (-9223372036854775808)) G dX9_unit_33 wc_X9_200 (by decide) ?_
      exact J_lret G dX9_unit_36 rfl
    · refine J_iload_n G 3 dX9_unit_16 rfl ?_
      refine J_i2l G dX9_unit_17 ?_
      refine J_lconst (v := 0) G dX9_unit_18 (by decide) ?_
      refine J_lconst (v := 1) G dX9_unit_19 (by decide) ?_
      refine J_cSpI (As := [vL (s32 p2), vL 0, vL 1]) G (mX9_in u (s32 p2) 0 1 mem) sg_X9_in ss_X9_in wm_X9_82 ⟨by decide, by decide⟩ rfl rfl (Nat.le_of_ble_eq_true rfl) dX9_unit_20 ?_
      intro r3
      refine J_if_eq 33 G dX9_unit_23 (by decide) ?_ ?_
      · refine J_ldc2 (v := (-9223372036854775808)) G dX9_unit_33 wc_X9_200 (by decide) ?_
        exact J_lret G dX9_unit_36 rfl
      · refine J_aload_n G 0 dX9_unit_26 rfl ?_
        refine J_cVpI (As := []) G (mX9_stands u mem) sg_X9_stands sv_X9_stands wm_X9_196 cls_9 kd_149 rfl ⟨by decide, by decide⟩ rfl rfl (Nat.le_of_ble_eq_true rfl) dX9_unit_27 ?_
        intro r4
        refine J_if_ne 37 G dX9_unit_30 (by decide) ?_ ?_
        · refine J_aload_n G 0 dX9_unit_37 rfl ?_
          refine J_iload_n G 1 dX9_unit_38 rfl ?_
          refine J_iload_n G 2 dX9_unit_39 rfl ?_
          refine J_iconst G dX9_unit_40 ?_
          refine J_iload_n G 3 dX9_unit_41 rfl ?_
          refine J_cVwL (As := [vI p0, vI p1, vI (-1), vI p2]) G (mX9_byUnit u p0 p1 (-1) p2 mem) sg_X9_byUnit sv_X9_byUnit wm_X9_282 cls_9 kd_149 rfl ⟨by decide, by decide⟩ rfl rfl (Nat.le_of_ble_eq_true rfl) dX9_unit_42 ?_
          intro r5 m6
          exact J_lret G dX9_unit_45 rfl
        · refine J_ldc2 (v := (-9223372036854775808)) G dX9_unit_33 wc_X9_200 (by decide) ?_
          exact J_lret G dX9_unit_36 rfl
theorem mX9_bears_ (u : jU) (p0 : Int) (p1 : Int) (p2 : Int) (mem : Mem) : jMet u yX9_bears_ cX9_bears_ 4 (some .long) (jRm 8 203) [vR (uB u) 149, vI p0, vI p1, vI p2] mem EwL (Mo_bears_ p0 p1 p2 mem) := by
  refine jMet_of (by decide +kernel) (Nat.le_of_ble_eq_true rfl) (fun x G => ?_)
  show J u x 4 (jQ u x EwL) 0 [(0, vR (uB u) 149), (1, vI p0), (2, vI p1), (3, vI p2)] [] mem _
  unfold Mo_bears_
  refine J_aload_n G 0 dX9_bears__0 rfl ?_
  refine J_iload_n G 1 dX9_bears__1 rfl ?_
  refine J_cVpI (As := [vI p0]) G (mX9_isPlace u p0 mem) sg_X9_isPlace sv_X9_isPlace wm_X9_90 cls_9 kd_149 rfl ⟨by decide, by decide⟩ rfl rfl (Nat.le_of_ble_eq_true rfl) dX9_bears__2 ?_
  intro r1
  refine J_if_eq 33 G dX9_bears__5 (by decide) ?_ ?_
  · refine J_ldc2 (v := (-9223372036854775808)) G dX9_bears__33 wc_X9_200 (by decide) ?_
    exact J_lret G dX9_bears__36 rfl
  · refine J_aload_n G 0 dX9_bears__8 rfl ?_
    refine J_iload_n G 2 dX9_bears__9 rfl ?_
    refine J_cVpI (As := [vI p1]) G (mX9_isSupport u p1 mem) sg_X9_isSupport sv_X9_isSupport wm_X9_113 cls_9 kd_149 rfl ⟨by decide, by decide⟩ rfl rfl (Nat.le_of_ble_eq_true rfl) dX9_bears__10 ?_
    intro r2
    refine J_if_eq 33 G dX9_bears__13 (by decide) ?_ ?_
    · refine J_ldc2 (v := (-9223372036854775808)) G dX9_bears__33 wc_X9_200 (by decide) ?_
      exact J_lret G dX9_bears__36 rfl
    · refine J_iload_n G 3 dX9_bears__16 rfl ?_
      refine J_i2l G dX9_bears__17 ?_
      refine J_lconst (v := 0) G dX9_bears__18 (by decide) ?_
      refine J_lconst (v := 1) G dX9_bears__19 (by decide) ?_
      refine J_cSpI (As := [vL (s32 p2), vL 0, vL 1]) G (mX9_in u (s32 p2) 0 1 mem) sg_X9_in ss_X9_in wm_X9_82 ⟨by decide, by decide⟩ rfl rfl (Nat.le_of_ble_eq_true rfl) dX9_bears__20 ?_
      intro r3
      refine J_if_eq 33 G dX9_bears__23 (by decide) ?_ ?_
      · refine J_ldc2 (v := (-9223372036854775808)) G dX9_bears__33 wc_X9_200 (by decide) ?_
        exact J_lret G dX9_bears__36 rfl
      · refine J_aload_n G 0 dX9_bears__26 rfl ?_
        refine J_cVpI (As := []) G (mX9_stands u mem) sg_X9_stands sv_X9_stands wm_X9_196 cls_9 kd_149 rfl ⟨by decide, by decide⟩ rfl rfl (Nat.le_of_ble_eq_true rfl) dX9_bears__27 ?_
        intro r4
        refine J_if_ne 37 G dX9_bears__30 (by decide) ?_ ?_
        · refine J_aload_n G 0 dX9_bears__37 rfl ?_
          refine J_iload_n G 1 dX9_bears__38 rfl ?_
          refine J_iconst G dX9_bears__39 ?_
          refine J_iload_n G 2 dX9_bears__40 rfl ?_
          refine J_iload_n G 3 dX9_bears__41 rfl ?_
          refine J_cVwL (As := [vI p0, vI 0, vI p1, vI p2]) G (mX9_byUnit u p0 0 p1 p2 mem) sg_X9_byUnit sv_X9_byUnit wm_X9_282 cls_9 kd_149 rfl ⟨by decide, by decide⟩ rfl rfl (Nat.le_of_ble_eq_true rfl) dX9_bears__42 ?_
          intro r5 m6
          exact J_lret G dX9_bears__45 rfl
        · refine J_ldc2 (v := (-9223372036854775808)) G dX9_bears__33 wc_X9_200 (by decide) ?_
          exact J_lret G dX9_bears__36 rfl
theorem jMo_best_L91 {u : jU} {x : jX} (G : jG u x cX9_best RX9 10 (some .int) (jRm 7 182)) (p0 : Int) (x4 : Int) (x5 : Int) (k157 : Int → Mem → Option (Int × Mem)) (hk157 : (fun g => ∀ x6 m7, J u x 10 (jQ u x EwI) 157 [(0, vR (uB u) 149), (4, vI x6)] [] m7 (g x6 m7)) k157) : ∀ (n : Nat) (i9 : Int) (i10 : Int) (i11 : Int) (i12 : Int) (m13 : Mem), J u x 10 (jQ u x EwI) 91 [(0, vR (uB u) 149), (1, vI p0), (2, vI x4), (3, vI x5), (4, vI i9), (5, vL i10), (7, vL i11), (9, vI i12)] [] m13 (Mo_best_L91 p0 x4 x5 k157 n i9 i10 i11 i12 m13) := by
  intro n
  induction n with
  | zero => intro i9 i10 i11 i12 m13; exact J_none
  | succ n ih =>
    intro i9 i10 i11 i12 m13
    rw [Mo_best_L91]
    refine J_iload G 7 dX9_best_91 rfl ?_
    refine J_iload_n G 3 dX9_best_93 rfl ?_
    refine J_icmp_gt 157 G dX9_best_94 (by decide) ?_ ?_
    · refine J_lv [0, 4] rfl ?_
      exact hk157 i9 m13
    · refine J_aload_n G 0 dX9_best_97 rfl ?_
      refine J_getR (d := 150) (k := 0) G cls_9 wf_X9_11 kd_149 rfl rfl dX9_best_98 ?_
      refine J_iconst G dX9_best_101 ?_
      refine J_iload_n G 1 dX9_best_102 rfl ?_
      refine J_iadd G dX9_best_103 ?_
      refine J_iload G 7 dX9_best_104 rfl ?_
      refine J_iast G kd_150 ln_150 dX9_best_106 ?_
      refine J_ltM (fun m14 => ?_)
      refine J_aload_n G 0 dX9_best_107 rfl ?_
      refine J_cVwV (As := []) G (mX9_span u m14) sg_X9_span sv_X9_span wm_X9_259 cls_9 kd_149 rfl ⟨by decide, by decide⟩ rfl rfl (Nat.le_of_ble_eq_true rfl) dX9_best_108 ?_
      intro m15
      refine J_iload G 7 dX9_best_111 rfl ?_
      refine J_iload_n G 2 dX9_best_113 rfl ?_
      refine J_jn (fun g => J u x 10 (jQ u x EwI) 135 [(0, vR (uB u) 149), (1, vI p0), (2, vI x4), (3, vI x5), (9, vI i12)] [] m15 (g)) ?_ ?_
      · skip
        refine J_iload G 4 dX9_best_135 rfl ?_
        refine J_istore (lv' := [(4, vI i12), (0, vR (uB u) 149), (1, vI p0), (2, vI x4), (3, vI x5), (9, vI i12)]) G dX9_best_137 (by decide) rfl ?_
        refine J_aload_n G 1 dX9_best_139 rfl ?_
        refine J_getL (i := 19) (k := 19) G cls_9 wf_X9_251 kd_149 rfl rfl dX9_best_140 ?_
        refine J_ltL (fun x16 => ?_)
        refine J_lstore (lv' := [(5, vL x16), (4, vI i12), (0, vR (uB u) 149), (1, vI p0), (2, vI x4), (3, vI x5), (9, vI i12)]) G dX9_best_143 (by decide) rfl ?_
        refine J_aload_n G 2 dX9_best_145 rfl ?_
        refine J_getL (i := 20) (k := 20) G cls_9 wf_X9_254 kd_149 rfl rfl dX9_best_146 ?_
        refine J_ltL (fun x17 => ?_)
        refine J_lstore (lv' := [(7, vL x17), (5, vL x16), (4, vI i12), (0, vR (uB u) 149), (1, vI p0), (2, vI x4), (3, vI x5), (9, vI i12)]) G dX9_best_149 (by decide) rfl ?_
        refine J_iinc (lv' := [(9, vI (i12 + 1)), (7, vL x17), (5, vL x16), (4, vI i12), (0, vR (uB u) 149), (1, vI p0), (2, vI x4), (3, vI x5)]) G 7 dX9_best_151 rfl (by decide) rfl ?_
        refine J_goto 91 G dX9_best_154 (by decide) ?_
        refine J_lv [4, 5, 6, 7, 3, 2, 1, 0] rfl ?_
        exact ih i12 x16 x17 (i12 + 1) m15
      · intro k135 hk135
        refine J_icmp_eq 135 G dX9_best_114 (by decide) ?_ ?_
        · refine J_lv [0, 1, 2, 3, 7] rfl ?_
          exact hk135
        · refine J_aload_n G 0 dX9_best_117 rfl ?_
          refine J_getL (i := 19) (k := 19) G cls_9 wf_X9_251 kd_149 rfl rfl dX9_best_118 ?_
          refine J_aload_n G 0 dX9_best_121 rfl ?_
          refine J_getL (i := 20) (k := 20) G cls_9 wf_X9_254 kd_149 rfl rfl dX9_best_122 ?_
          refine J_lload G 5 dX9_best_125 rfl ?_
          refine J_lload G 6 dX9_best_127 rfl ?_
          refine J_cSpI (As := [vL (m15 149 19), vL (m15 149 20), vL i10, vL i11]) G (mX9_isLess u (m15 149 19) (m15 149 20) i10 i11 m15) sg_X9_isLess ss_X9_isLess wm_X9_228 ⟨by decide, by decide⟩ rfl rfl (Nat.le_of_ble_eq_true rfl) dX9_best_129 ?_
          intro r18
          refine J_if_eq 151 G dX9_best_132 (by decide) ?_ ?_
          · refine J_iinc (lv' := [(9, vI (i12 + 1)), (0, vR (uB u) 149), (1, vI p0), (2, vI x4), (3, vI x5), (4, vI i9), (5, vL i10), (7, vL i11)]) G 7 dX9_best_151 rfl (by decide) rfl ?_
            refine J_goto 91 G dX9_best_154 (by decide) ?_
            refine J_lv [1, 2, 3, 4, 5, 6, 7, 0] rfl ?_
            exact ih i9 i10 i11 (i12 + 1) m15
          · refine J_lv [0, 1, 2, 3, 7] rfl ?_
            exact hk135
theorem mX9_best (u : jU) (p0 : Int) (mem : Mem) : jMet u yX9_best cX9_best 10 (some .int) (jRm 7 182) [vR (uB u) 149, vI p0] mem EwI (Mo_best p0 mem) := by
  refine jMet_of (by decide +kernel) (Nat.le_of_ble_eq_true rfl) (fun x G => ?_)
  show J u x 10 (jQ u x EwI) 0 [(0, vR (uB u) 149), (1, vI p0)] [] mem _
  unfold Mo_best
  refine J_aload_n G 0 dX9_best_0 rfl ?_
  refine J_iload_n G 1 dX9_best_1 rfl ?_
  refine J_cVpI (As := [vI p0]) G (mX9_isSupport u p0 mem) sg_X9_isSupport sv_X9_isSupport wm_X9_113 cls_9 kd_149 rfl ⟨by decide, by decide⟩ rfl rfl (Nat.le_of_ble_eq_true rfl) dX9_best_2 ?_
  intro r1
  refine J_if_ne 10 G dX9_best_5 (by decide) ?_ ?_
  · refine J_aload_n G 0 dX9_best_10 rfl ?_
    refine J_cVpI (As := []) G (mX9_stands u mem) sg_X9_stands sv_X9_stands wm_X9_196 cls_9 kd_149 rfl ⟨by decide, by decide⟩ rfl rfl (Nat.le_of_ble_eq_true rfl) dX9_best_11 ?_
    intro r2
    refine J_if_ne 20 G dX9_best_14 (by decide) ?_ ?_
    · refine J_aload_n G 0 dX9_best_20 rfl ?_
      refine J_cVwV (As := []) G (mX9_thinks u mem) sg_X9_thinks sv_X9_thinks wm_X9_266 cls_9 kd_149 rfl ⟨by decide, by decide⟩ rfl rfl (Nat.le_of_ble_eq_true rfl) dX9_best_21 ?_
      intro m3
      refine J_iload_n G 1 dX9_best_24 rfl ?_
      refine J_jn (fun g => ∀ x4, J u x 10 (jQ u x EwI) 44 [(0, vR (uB u) 149), (1, vI p0)] [vI x4] m3 (g x4)) ?_ ?_
      · intro x4
        refine J_istore_n (lv' := [(2, vI x4), (0, vR (uB u) 149), (1, vI p0)]) G dX9_best_44 rfl (by decide) rfl ?_
        refine J_iload_n G 2 dX9_best_45 rfl ?_
        refine J_aload_n G 1 dX9_best_46 rfl ?_
        refine J_getR (d := 150) (k := 0) G cls_9 wf_X9_11 kd_149 rfl rfl dX9_best_47 ?_
        refine J_iconst G dX9_best_50 ?_
        refine J_ialdC G kd_150 ln_150 (by decide) dX9_best_51 ?_
        refine J_iconst G dX9_best_52 ?_
        refine J_isub G dX9_best_53 ?_
        refine J_jn (fun g => ∀ x5, J u x 10 (jQ u x EwI) 78 [(0, vR (uB u) 149), (1, vI p0), (2, vI x4)] [vI x5] m3 (g x5)) ?_ ?_
        · intro x5
          refine J_istore_n (lv' := [(3, vI x5), (0, vR (uB u) 149), (1, vI p0), (2, vI x4)]) G dX9_best_78 rfl (by decide) rfl ?_
          refine J_iload_n G 3 dX9_best_79 rfl ?_
          refine J_istore (lv' := [(4, vI x4), (3, vI x5), (0, vR (uB u) 149), (1, vI p0), (2, vI x4)]) G dX9_best_80 (by decide) rfl ?_
          refine J_lconst (v := 0) G dX9_best_82 (by decide) ?_
          refine J_lstore (lv' := [(5, vL 0), (4, vI x4), (3, vI x5), (0, vR (uB u) 149), (1, vI p0), (2, vI x4)]) G dX9_best_83 (by decide) rfl ?_
          refine J_lconst (v := 0) G dX9_best_85 (by decide) ?_
          refine J_lstore (lv' := [(7, vL 0), (5, vL 0), (4, vI x4), (3, vI x5), (0, vR (uB u) 149), (1, vI p0), (2, vI x4)]) G dX9_best_86 (by decide) rfl ?_
          refine J_iload_n G 6 dX9_best_88 rfl ?_
          refine J_istore (lv' := [(9, vI x4), (7, vL 0), (5, vL 0), (4, vI x4), (3, vI x5), (0, vR (uB u) 149), (1, vI p0), (2, vI x4)]) G dX9_best_89 (by decide) rfl ?_
          refine J_jn (fun g => ∀ x6 m7, J u x 10 (jQ u x EwI) 157 [(0, vR (uB u) 149), (4, vI x6)] [] m7 (g x6 m7)) ?_ ?_
          · intro x6 m7
            refine J_aload_n G 0 dX9_best_157 rfl ?_
            refine J_cVwV (As := []) G (mX9_laysBack u m7) sg_X9_laysBack sv_X9_laysBack wm_X9_275 cls_9 kd_149 rfl ⟨by decide, by decide⟩ rfl rfl (Nat.le_of_ble_eq_true rfl) dX9_best_158 ?_
            intro m8
            refine J_iload G 1 dX9_best_161 rfl ?_
            exact J_iret G dX9_best_163 rfl
          · intro k157 hk157
            refine J_lv [5, 6, 7, 4, 3, 2, 1, 0] rfl ?_
            exact jMo_best_L91 G p0 x4 x5 k157 hk157 2000 x4 0 0 x4 m3
        · intro k78 hk78
          refine J_icmp_ne 66 G dX9_best_54 (by decide) ?_ ?_
          · refine J_aload_n G 1 dX9_best_66 rfl ?_
            refine J_getR (d := 150) (k := 0) G cls_9 wf_X9_11 kd_149 rfl rfl dX9_best_67 ?_
            refine J_iconst G dX9_best_70 ?_
            refine J_iload_n G 2 dX9_best_71 rfl ?_
            refine J_iadd G dX9_best_72 ?_
            refine J_iconst G dX9_best_73 ?_
            refine J_iadd G dX9_best_74 ?_
            refine J_iald G kd_150 ln_150 dX9_best_75 ?_
            refine J_iconst G dX9_best_76 ?_
            refine J_isub G dX9_best_77 ?_
            refine J_lv [1, 2, 0] rfl ?_
            exact hk78 ((m3 150 (s32 ((2 + p0) + 1))) - 1)
          · refine J_aload_n G 1 dX9_best_57 rfl ?_
            refine J_getR (d := 150) (k := 0) G cls_9 wf_X9_11 kd_149 rfl rfl dX9_best_58 ?_
            refine J_iconst G dX9_best_61 ?_
            refine J_ialdC G kd_150 ln_150 (by decide) dX9_best_62 ?_
            refine J_goto 78 G dX9_best_63 (by decide) ?_
            refine J_lv [1, 2, 0] rfl ?_
            exact hk78 (m3 150 0)
      · intro k44 hk44
        refine J_if_ne 32 G dX9_best_25 (by decide) ?_ ?_
        · refine J_aload_n G 0 dX9_best_32 rfl ?_
          refine J_getR (d := 150) (k := 0) G cls_9 wf_X9_11 kd_149 rfl rfl dX9_best_33 ?_
          refine J_iconst G dX9_best_36 ?_
          refine J_iload_n G 1 dX9_best_37 rfl ?_
          refine J_iadd G dX9_best_38 ?_
          refine J_iconst G dX9_best_39 ?_
          refine J_isub G dX9_best_40 ?_
          refine J_iald G kd_150 ln_150 dX9_best_41 ?_
          refine J_iconst G dX9_best_42 ?_
          refine J_iadd G dX9_best_43 ?_
          exact hk44 ((m3 150 (s32 ((2 + p0) - 1))) + 1)
        · refine J_iconst G dX9_best_28 ?_
          refine J_goto 44 G dX9_best_29 (by decide) ?_
          exact hk44 0
    · refine J_bipush G dX9_best_17 (by decide) ?_
      exact J_iret G dX9_best_19 rfl
  · refine J_iconst G dX9_best_8 ?_
    exact J_iret G dX9_best_9 rfl
