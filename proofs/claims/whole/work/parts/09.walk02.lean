theorem mX7_leans (u : jU) (p0 : Int) (mem : Mem) : jMet u yX7_leans cX7_leans 2 (some .long) (jRm 2 50) [vR (uB u) 111, vI p0] mem (EpL mem) (Sta_leans p0 mem) := by
  refine jMet_of (by decide +kernel) (Nat.le_of_ble_eq_true rfl) (fun x G => ?_)
  show J u x 2 (jQ u x (EpL mem)) 0 [(0, vR (uB u) 111), (1, vI p0)] [] mem _
  unfold Sta_leans
  refine J_aload_n G 0 dX7_leans_0 rfl ?_
  refine J_iload_n G 1 dX7_leans_1 rfl ?_
  refine J_iconst G dX7_leans_2 ?_
  refine J_isub G dX7_leans_3 ?_
  refine J_cVpL (As := [vI (p0 - 1)]) G (mX7_leanToRight u (p0 - 1) mem) sg_X7_leanToRight sv_X7_leanToRight wm_X7_150 cls_7 kd_111 rfl ⟨by decide, by decide⟩ rfl rfl (Nat.le_of_ble_eq_true rfl) dX7_leans_4 ?_
  intro r1
  refine J_aload_n G 0 dX7_leans_7 rfl ?_
  refine J_getL (i := 14) (k := 14) G cls_7 wf_X7_56 kd_111 rfl rfl dX7_leans_8 ?_
  refine J_aload_n G 0 dX7_leans_11 rfl ?_
  refine J_iload_n G 1 dX7_leans_12 rfl ?_
  refine J_iconst G dX7_leans_13 ?_
  refine J_isub G dX7_leans_14 ?_
  refine J_cVpL (As := [vI (p0 - 1)]) G (mX7_span u (p0 - 1) mem) sg_X7_span sv_X7_span wm_X7_129 cls_7 kd_111 rfl ⟨by decide, by decide⟩ rfl rfl (Nat.le_of_ble_eq_true rfl) dX7_leans_15 ?_
  intro r2
  refine J_cNpL (As := [vL (mem 111 14), vL r2]) G (mX8_divide u (mem 111 14) r2 mem) sg_X8_divide ss_X8_divide (fun U h => h.2.1) ⟨by decide, by decide⟩ rfl rfl (Nat.le_of_ble_eq_true rfl) dX7_leans_18 ?_
  intro r3
  refine J_lmul G dX7_leans_21 ?_
  refine J_aload_n G 0 dX7_leans_22 rfl ?_
  refine J_iload_n G 1 dX7_leans_23 rfl ?_
  refine J_cVpL (As := [vI p0]) G (mX7_leanToLeft u p0 mem) sg_X7_leanToLeft sv_X7_leanToLeft wm_X7_157 cls_7 kd_111 rfl ⟨by decide, by decide⟩ rfl rfl (Nat.le_of_ble_eq_true rfl) dX7_leans_24 ?_
  intro r4
  refine J_aload_n G 0 dX7_leans_27 rfl ?_
  refine J_getL (i := 14) (k := 14) G cls_7 wf_X7_56 kd_111 rfl rfl dX7_leans_28 ?_
  refine J_aload_n G 0 dX7_leans_31 rfl ?_
  refine J_iload_n G 1 dX7_leans_32 rfl ?_
  refine J_cVpL (As := [vI p0]) G (mX7_span u p0 mem) sg_X7_span sv_X7_span wm_X7_129 cls_7 kd_111 rfl ⟨by decide, by decide⟩ rfl rfl (Nat.le_of_ble_eq_true rfl) dX7_leans_33 ?_
  intro r5
  refine J_cNpL (As := [vL (mem 111 14), vL r5]) G (mX8_divide u (mem 111 14) r5 mem) sg_X8_divide ss_X8_divide (fun U h => h.2.1) ⟨by decide, by decide⟩ rfl rfl (Nat.le_of_ble_eq_true rfl) dX7_leans_36 ?_
  intro r6
  refine J_lmul G dX7_leans_39 ?_
  refine J_ladd G dX7_leans_40 ?_
  exact J_lret G dX7_leans_41 rfl
theorem jSta_solveOverSupports_L7 {u : jU} {x : jX} (G : jG u x cX7_solveOverSupports RX7 18 none (jRm 3 71)) (k37 : Mem → Option Mem) (hk37 : (fun g => ∀ m2, J u x 18 (jQ u x EwV) 37 [(0, vR (uB u) 111)] [] m2 (g m2)) k37) : ∀ (n : Nat) (i38 : Int) (m39 : Mem), J u x 18 (jQ u x EwV) 7 [(0, vR (uB u) 111), (1, vI i38)] [] m39 (Sta_solveOverSupports_L7 k37 n i38 m39) := by
  intro n
  induction n with
  | zero => intro i38 m39; exact J_none
  | succ n ih =>
    intro i38 m39
    rw [Sta_solveOverSupports_L7]
    refine J_iload_n G 1 dX7_solveOverSupports_7 rfl ?_
    refine J_iconst G dX7_solveOverSupports_8 ?_
    refine J_iadd G dX7_solveOverSupports_9 ?_
    refine J_aload_n G 0 dX7_solveOverSupports_10 rfl ?_
    refine J_getI (i := 1) (k := 1) G cls_7 wf_X7_82 kd_111 rfl rfl dX7_solveOverSupports_11 ?_
    refine J_icmp_ge 37 G dX7_solveOverSupports_14 (by decide) ?_ ?_
    · refine J_lv [0] rfl ?_
      exact hk37 m39
    · refine J_aload_n G 0 dX7_solveOverSupports_17 rfl ?_
      refine J_dup G dX7_solveOverSupports_18 rfl ?_
      refine J_getL (i := 14) (k := 14) G cls_7 wf_X7_56 kd_111 rfl rfl dX7_solveOverSupports_19 ?_
      refine J_aload_n G 0 dX7_solveOverSupports_22 rfl ?_
      refine J_iload_n G 1 dX7_solveOverSupports_23 rfl ?_
      refine J_cVpL (As := [vI i38]) G (mX7_span u i38 m39) sg_X7_span sv_X7_span wm_X7_129 cls_7 kd_111 rfl ⟨by decide, by decide⟩ rfl rfl (Nat.le_of_ble_eq_true rfl) dX7_solveOverSupports_24 ?_
      intro r40
      refine J_lmul G dX7_solveOverSupports_27 ?_
      refine J_putL (i := 14) (k := 14) G cls_7 wf_X7_56 kd_111 rfl rfl rfl rfl dX7_solveOverSupports_28 ?_
      refine J_ltM (fun m41 => ?_)
      refine J_iinc (lv' := [(1, vI (i38 + 1)), (0, vR (uB u) 111)]) G 1 dX7_solveOverSupports_31 rfl (by decide) rfl ?_
      refine J_goto 7 G dX7_solveOverSupports_34 (by decide) ?_
      refine J_lv [1, 0] rfl ?_
      exact ih (i38 + 1) m41
theorem mX7_solveOverSupports (u : jU) (mem : Mem) : jMet u yX7_solveOverSupports cX7_solveOverSupports 18 none (jRm 3 71) [vR (uB u) 111] mem EwV (Sta_solveOverSupports mem) := by
  refine jMet_of (by decide +kernel) (Nat.le_of_ble_eq_true rfl) (fun x G => ?_)
  show J u x 18 (jQ u x EwV) 0 [(0, vR (uB u) 111)] [] mem _
  unfold Sta_solveOverSupports
  refine J_aload_n G 0 dX7_solveOverSupports_0 rfl ?_
  refine J_lconst (v := 1) G dX7_solveOverSupports_1 (by decide) ?_
  refine J_putL (i := 14) (k := 14) G cls_7 wf_X7_56 kd_111 rfl rfl rfl rfl dX7_solveOverSupports_2 ?_
  refine J_ltM (fun m1 => ?_)
  refine J_iconst G dX7_solveOverSupports_5 ?_
  refine J_istore_n (lv' := [(1, vI 0), (0, vR (uB u) 111)]) G dX7_solveOverSupports_6 rfl (by decide) rfl ?_
  refine J_jn (fun g => ∀ m2, J u x 18 (jQ u x EwV) 37 [(0, vR (uB u) 111)] [] m2 (g m2)) ?_ ?_
  · intro m2
    refine J_aload_n G 0 dX7_solveOverSupports_37 rfl ?_
    refine J_getI (i := 1) (k := 1) G cls_7 wf_X7_82 kd_111 rfl rfl dX7_solveOverSupports_38 ?_
    refine J_iconst G dX7_solveOverSupports_41 ?_
    refine J_isub G dX7_solveOverSupports_42 ?_
    refine J_ltI (fun x3 => ?_)
    refine J_istore_n (lv' := [(1, vI x3), (0, vR (uB u) 111)]) G dX7_solveOverSupports_43 rfl (by decide) rfl ?_
    refine J_ldc2 (v := 2) G dX7_solveOverSupports_44 wc_X7_133 (by decide) ?_
    refine J_aload_n G 1 dX7_solveOverSupports_47 rfl ?_
    refine J_getL (i := 14) (k := 14) G cls_7 wf_X7_56 kd_111 rfl rfl dX7_solveOverSupports_48 ?_
    refine J_lmul G dX7_solveOverSupports_51 ?_
    refine J_aload_n G 1 dX7_solveOverSupports_52 rfl ?_
    refine J_cVpL (As := []) G (mX7_twiceOverFirst u m2) sg_X7_twiceOverFirst sv_X7_twiceOverFirst wm_X7_135 cls_7 kd_111 rfl ⟨by decide, by decide⟩ rfl rfl (Nat.le_of_ble_eq_true rfl) dX7_solveOverSupports_53 ?_
    intro r4
    refine J_lmul G dX7_solveOverSupports_56 ?_
    refine J_ltL (fun x5 => ?_)
    refine J_lstore_n (lv' := [(2, vL x5), (1, vI x3), (0, vR (uB u) 111)]) G dX7_solveOverSupports_57 rfl (by decide) rfl ?_
    refine J_ldc2 (v := 2) G dX7_solveOverSupports_58 wc_X7_133 (by decide) ?_
    refine J_aload_n G 2 dX7_solveOverSupports_61 rfl ?_
    refine J_getL (i := 14) (k := 14) G cls_7 wf_X7_56 kd_111 rfl rfl dX7_solveOverSupports_62 ?_
    refine J_lmul G dX7_solveOverSupports_65 ?_
    refine J_aload_n G 2 dX7_solveOverSupports_66 rfl ?_
    refine J_cVpL (As := []) G (mX7_twiceOverLast u m2) sg_X7_twiceOverLast sv_X7_twiceOverLast wm_X7_139 cls_7 kd_111 rfl ⟨by decide, by decide⟩ rfl rfl (Nat.le_of_ble_eq_true rfl) dX7_solveOverSupports_67 ?_
    intro r6
    refine J_lmul G dX7_solveOverSupports_70 ?_
    refine J_ltL (fun x7 => ?_)
    refine J_lstore (lv' := [(4, vL x7), (2, vL x5), (1, vI x3), (0, vR (uB u) 111)]) G dX7_solveOverSupports_71 (by decide) rfl ?_
    refine J_lconst (v := 1) G dX7_solveOverSupports_73 (by decide) ?_
    refine J_lstore (lv' := [(6, vL 1), (4, vL x7), (2, vL x5), (1, vI x3), (0, vR (uB u) 111)]) G dX7_solveOverSupports_74 (by decide) rfl ?_
    refine J_lconst (v := 0) G dX7_solveOverSupports_76 (by decide) ?_
    refine J_lstore (lv' := [(8, vL 0), (6, vL 1), (4, vL x7), (2, vL x5), (1, vI x3), (0, vR (uB u) 111)]) G dX7_solveOverSupports_77 (by decide) rfl ?_
    refine J_aload_n G 5 dX7_solveOverSupports_79 rfl ?_
    refine J_iconst G dX7_solveOverSupports_80 ?_
    refine J_cVpI (As := [vI 1]) G (mX7_hasRow u 1 m2) sg_X7_hasRow sv_X7_hasRow wm_X7_142 cls_7 kd_111 rfl ⟨by decide, by decide⟩ rfl rfl (Nat.le_of_ble_eq_true rfl) dX7_solveOverSupports_81 ?_
    intro r8
    refine J_jn (fun g => ∀ x9 x10, J u x 18 (jQ u x EwV) 138 [(0, vR (uB u) 111), (1, vI x3), (2, vL x5), (4, vL x7), (6, vL x9), (8, vL x10)] [] m2 (g x9 x10)) ?_ ?_
    · intro x9 x10
      refine J_lconst (v := 1) G dX7_solveOverSupports_138 (by decide) ?_
      refine J_lstore (lv' := [(10, vL 1), (0, vR (uB u) 111), (1, vI x3), (2, vL x5), (4, vL x7), (6, vL x9), (8, vL x10)]) G dX7_solveOverSupports_139 (by decide) rfl ?_
      refine J_lconst (v := 0) G dX7_solveOverSupports_141 (by decide) ?_
      refine J_lstore (lv' := [(12, vL 0), (10, vL 1), (0, vR (uB u) 111), (1, vI x3), (2, vL x5), (4, vL x7), (6, vL x9), (8, vL x10)]) G dX7_solveOverSupports_142 (by decide) rfl ?_
      refine J_aload_n G 2 dX7_solveOverSupports_144 rfl ?_
      refine J_iconst G dX7_solveOverSupports_145 ?_
      refine J_cVpI (As := [vI 2]) G (mX7_hasRow u 2 m2) sg_X7_hasRow sv_X7_hasRow wm_X7_142 cls_7 kd_111 rfl ⟨by decide, by decide⟩ rfl rfl (Nat.le_of_ble_eq_true rfl) dX7_solveOverSupports_146 ?_
      intro r11
      refine J_jn (fun g => ∀ x12 x13, J u x 18 (jQ u x EwV) 186 [(0, vR (uB u) 111), (1, vI x3), (2, vL x5), (4, vL x7), (6, vL x9), (8, vL x10), (10, vL x12), (12, vL x13)] [] m2 (g x12 x13)) ?_ ?_
      · intro x12 x13
        refine J_aload_n G 0 dX7_solveOverSupports_186 rfl ?_
        refine J_iconst G dX7_solveOverSupports_187 ?_
        refine J_cVpI (As := [vI 1]) G (mX7_hasRow u 1 m2) sg_X7_hasRow sv_X7_hasRow wm_X7_142 cls_7 kd_111 rfl ⟨by decide, by decide⟩ rfl rfl (Nat.le_of_ble_eq_true rfl) dX7_solveOverSupports_188 ?_
        intro r14
        refine J_jn (fun g => ∀ x15, J u x 18 (jQ u x EwV) 211 [(0, vR (uB u) 111), (1, vI x3), (2, vL x5), (4, vL x7), (6, vL x9), (8, vL x10), (10, vL x12), (12, vL x13)] [vL x15] m2 (g x15)) ?_ ?_
        · intro x15
          refine J_lstore (lv' := [(14, vL x15), (0, vR (uB u) 111), (1, vI x3), (2, vL x5), (4, vL x7), (6, vL x9), (8, vL x10), (10, vL x12), (12, vL x13)]) G dX7_solveOverSupports_211 (by decide) rfl ?_
          refine J_lload G 5 dX7_solveOverSupports_213 rfl ?_
          refine J_lload G 7 dX7_solveOverSupports_215 rfl ?_
          refine J_lmul G dX7_solveOverSupports_217 ?_
          refine J_lload G 0 dX7_solveOverSupports_218 rfl ?_
          refine J_lload G 0 dX7_solveOverSupports_220 rfl ?_
          refine J_lmul G dX7_solveOverSupports_222 ?_
          refine J_lsub G dX7_solveOverSupports_223 ?_
          refine J_ltL (fun x16 => ?_)
          refine J_lstore (lv' := [(16, vL x16), (14, vL x15), (0, vR (uB u) 111), (1, vI x3), (2, vL x5), (4, vL x7), (6, vL x9), (8, vL x10), (10, vL x12), (12, vL x13)]) G dX7_solveOverSupports_224 (by decide) rfl ?_
          refine J_aload_n G 2 dX7_solveOverSupports_226 rfl ?_
          refine J_getR (d := 126) (k := 15) G cls_7 wf_X7_59 kd_111 rfl rfl dX7_solveOverSupports_227 ?_
          refine J_iconst G dX7_solveOverSupports_230 ?_
          refine J_lload G 8 dX7_solveOverSupports_231 rfl ?_
          refine J_lload G 7 dX7_solveOverSupports_233 rfl ?_
          refine J_lmul G dX7_solveOverSupports_235 ?_
          refine J_lload G 1 dX7_solveOverSupports_236 rfl ?_
          refine J_lload G 9 dX7_solveOverSupports_238 rfl ?_
          refine J_lmul G dX7_solveOverSupports_240 ?_
          refine J_lsub G dX7_solveOverSupports_241 ?_
          refine J_aload_n G 2 dX7_solveOverSupports_242 rfl ?_
          refine J_getL (i := 14) (k := 14) G cls_7 wf_X7_56 kd_111 rfl rfl dX7_solveOverSupports_243 ?_
          refine J_lmul G dX7_solveOverSupports_246 ?_
          refine J_lastC G kd_126 ln_126 (by decide) dX7_solveOverSupports_247 ?_
          refine J_ltM (fun m17 => ?_)
          refine J_aload_n G 2 dX7_solveOverSupports_248 rfl ?_
          refine J_getR (d := 126) (k := 15) G cls_7 wf_X7_59 kd_111 rfl rfl dX7_solveOverSupports_249 ?_
          refine J_iconst G dX7_solveOverSupports_252 ?_
          refine J_lload G 6 dX7_solveOverSupports_253 rfl ?_
          refine J_lload G 9 dX7_solveOverSupports_255 rfl ?_
          refine J_lmul G dX7_solveOverSupports_257 ?_
          refine J_lload G 1 dX7_solveOverSupports_258 rfl ?_
          refine J_lload G 7 dX7_solveOverSupports_260 rfl ?_
          refine J_lmul G dX7_solveOverSupports_262 ?_
          refine J_lsub G dX7_solveOverSupports_263 ?_
          refine J_aload_n G 2 dX7_solveOverSupports_264 rfl ?_
          refine J_getL (i := 14) (k := 14) G cls_7 wf_X7_56 kd_111 rfl rfl dX7_solveOverSupports_265 ?_
          refine J_lmul G dX7_solveOverSupports_268 ?_
          refine J_lastC G kd_126 ln_126 (by decide) dX7_solveOverSupports_269 ?_
          refine J_ltM (fun m18 => ?_)
          refine J_aload_n G 2 dX7_solveOverSupports_270 rfl ?_
          refine J_getR (d := 126) (k := 15) G cls_7 wf_X7_59 kd_111 rfl rfl dX7_solveOverSupports_271 ?_
          refine J_iconst G dX7_solveOverSupports_274 ?_
          refine J_lload_n G 4 dX7_solveOverSupports_275 rfl ?_
          refine J_lload G 0 dX7_solveOverSupports_276 rfl ?_
          refine J_lmul G dX7_solveOverSupports_278 ?_
          refine J_aload_n G 2 dX7_solveOverSupports_279 rfl ?_
          refine J_getL (i := 14) (k := 14) G cls_7 wf_X7_56 kd_111 rfl rfl dX7_solveOverSupports_280 ?_
          refine J_lmul G dX7_solveOverSupports_283 ?_
          refine J_lastC G kd_126 ln_126 (by decide) dX7_solveOverSupports_284 ?_
          refine J_ltM (fun m19 => ?_)
          refine J_aload_n G 2 dX7_solveOverSupports_285 rfl ?_
          refine J_getR (d := 126) (k := 15) G cls_7 wf_X7_59 kd_111 rfl rfl dX7_solveOverSupports_286 ?_
          refine J_iload_n G 3 dX7_solveOverSupports_289 rfl ?_
          refine J_lload G 5 dX7_solveOverSupports_290 rfl ?_
          refine J_lload G 0 dX7_solveOverSupports_292 rfl ?_
          refine J_lmul G dX7_solveOverSupports_294 ?_
          refine J_aload_n G 2 dX7_solveOverSupports_295 rfl ?_
          refine J_getL (i := 14) (k := 14) G cls_7 wf_X7_56 kd_111 rfl rfl dX7_solveOverSupports_296 ?_
          refine J_lmul G dX7_solveOverSupports_299 ?_
          refine J_last G kd_126 ln_126 dX7_solveOverSupports_300 ?_
          refine J_ltM (fun m20 => ?_)
          refine J_aload_n G 2 dX7_solveOverSupports_301 rfl ?_
          refine J_ldc2 (v := 4) G dX7_solveOverSupports_302 wc_X7_148 (by decide) ?_
          refine J_aload_n G 2 dX7_solveOverSupports_305 rfl ?_
          refine J_getL (i := 14) (k := 14) G cls_7 wf_X7_56 kd_111 rfl rfl dX7_solveOverSupports_306 ?_
          refine J_lmul G dX7_solveOverSupports_309 ?_
          refine J_aload_n G 2 dX7_solveOverSupports_310 rfl ?_
          refine J_getL (i := 14) (k := 14) G cls_7 wf_X7_56 kd_111 rfl rfl dX7_solveOverSupports_311 ?_
          refine J_lmul G dX7_solveOverSupports_314 ?_
          refine J_lload G 0 dX7_solveOverSupports_315 rfl ?_
          refine J_lmul G dX7_solveOverSupports_317 ?_
          refine J_putL (i := 6) (k := 6) G cls_7 wf_X7_25 kd_111 rfl rfl rfl rfl dX7_solveOverSupports_318 ?_
          refine J_ltM (fun m21 => ?_)
          exact J_vret G dX7_solveOverSupports_321 rfl
        · intro k211 hk211
          refine J_jn (fun g => J u x 18 (jQ u x EwV) 210 [(0, vR (uB u) 111), (1, vI x3), (2, vL x5), (4, vL x7), (6, vL x9), (8, vL x10), (10, vL x12), (12, vL x13)] [] m2 (g)) ?_ ?_
          · skip
            refine J_lconst (v := 0) G dX7_solveOverSupports_210 (by decide) ?_
            exact hk211 0
          · intro k210 hk210
            refine J_if_eq 210 G dX7_solveOverSupports_191 (by decide) ?_ ?_
            · exact hk210
            · refine J_aload_n G 0 dX7_solveOverSupports_194 rfl ?_
              refine J_iconst G dX7_solveOverSupports_195 ?_
              refine J_cVpI (As := [vI 2]) G (mX7_hasRow u 2 m2) sg_X7_hasRow sv_X7_hasRow wm_X7_142 cls_7 kd_111 rfl ⟨by decide, by decide⟩ rfl rfl (Nat.le_of_ble_eq_true rfl) dX7_solveOverSupports_196 ?_
              intro r22
              refine J_if_eq 210 G dX7_solveOverSupports_199 (by decide) ?_ ?_
              · exact hk210
              · refine J_aload_n G 0 dX7_solveOverSupports_202 rfl ?_
                refine J_iconst G dX7_solveOverSupports_203 ?_
                refine J_cVpL (As := [vI 1]) G (mX7_span u 1 m2) sg_X7_span sv_X7_span wm_X7_129 cls_7 kd_111 rfl ⟨by decide, by decide⟩ rfl rfl (Nat.le_of_ble_eq_true rfl) dX7_solveOverSupports_204 ?_
                intro r23
                refine J_goto 211 G dX7_solveOverSupports_207 (by decide) ?_
                exact hk211 r23
      · intro k186 hk186
        refine J_if_eq 186 G dX7_solveOverSupports_149 (by decide) ?_ ?_
        · refine J_lv [2, 3, 4, 5, 6, 7, 1, 0] rfl ?_
          exact hk186 1 0
        · refine J_ldc2 (v := 2) G dX7_solveOverSupports_152 wc_X7_133 (by decide) ?_
          refine J_aload_n G 2 dX7_solveOverSupports_155 rfl ?_
          refine J_iconst G dX7_solveOverSupports_156 ?_
          refine J_cVpL (As := [vI 1]) G (mX7_span u 1 m2) sg_X7_span sv_X7_span wm_X7_129 cls_7 kd_111 rfl ⟨by decide, by decide⟩ rfl rfl (Nat.le_of_ble_eq_true rfl) dX7_solveOverSupports_157 ?_
          intro r24
          refine J_aload_n G 2 dX7_solveOverSupports_160 rfl ?_
          refine J_iconst G dX7_solveOverSupports_161 ?_
          refine J_cVpL (As := [vI 2]) G (mX7_span u 2 m2) sg_X7_span sv_X7_span wm_X7_129 cls_7 kd_111 rfl ⟨by decide, by decide⟩ rfl rfl (Nat.le_of_ble_eq_true rfl) dX7_solveOverSupports_162 ?_
          intro r25
          refine J_ladd G dX7_solveOverSupports_165 ?_
          refine J_lmul G dX7_solveOverSupports_166 ?_
          refine J_ltL (fun x26 => ?_)
          refine J_lstore (lv' := [(10, vL x26), (12, vL 0), (0, vR (uB u) 111), (1, vI x3), (2, vL x5), (4, vL x7), (6, vL x9), (8, vL x10)]) G dX7_solveOverSupports_167 (by decide) rfl ?_
          refine J_aload_n G 2 dX7_solveOverSupports_169 rfl ?_
          refine J_iconst G dX7_solveOverSupports_170 ?_
          refine J_cVpL (As := [vI 2]) G (mX7_leans u 2 m2) sg_X7_leans sv_X7_leans wm_X7_145 cls_7 kd_111 rfl ⟨by decide, by decide⟩ rfl rfl (Nat.le_of_ble_eq_true rfl) dX7_solveOverSupports_171 ?_
          intro r27
          refine J_lneg G dX7_solveOverSupports_174 ?_
          refine J_aload_n G 2 dX7_solveOverSupports_175 rfl ?_
          refine J_iconst G dX7_solveOverSupports_176 ?_
          refine J_cVpL (As := [vI 2]) G (mX7_span u 2 m2) sg_X7_span sv_X7_span wm_X7_129 cls_7 kd_111 rfl ⟨by decide, by decide⟩ rfl rfl (Nat.le_of_ble_eq_true rfl) dX7_solveOverSupports_177 ?_
          intro r28
          refine J_lload G 5 dX7_solveOverSupports_180 rfl ?_
          refine J_lmul G dX7_solveOverSupports_182 ?_
          refine J_lsub G dX7_solveOverSupports_183 ?_
          refine J_ltL (fun x29 => ?_)
          refine J_lstore (lv' := [(12, vL x29), (10, vL x26), (0, vR (uB u) 111), (1, vI x3), (2, vL x5), (4, vL x7), (6, vL x9), (8, vL x10)]) G dX7_solveOverSupports_184 (by decide) rfl ?_
          refine J_lv [2, 3, 4, 5, 6, 7, 1, 0] rfl ?_
          exact hk186 x26 x29
    · intro k138 hk138
      refine J_if_eq 138 G dX7_solveOverSupports_84 (by decide) ?_ ?_
      · refine J_lv [5, 4, 3, 2, 1, 0] rfl ?_
        exact hk138 1 0
      · refine J_ldc2 (v := 2) G dX7_solveOverSupports_87 wc_X7_133 (by decide) ?_
        refine J_aload_n G 5 dX7_solveOverSupports_90 rfl ?_
        refine J_iconst G dX7_solveOverSupports_91 ?_
        refine J_cVpL (As := [vI 0]) G (mX7_span u 0 m2) sg_X7_span sv_X7_span wm_X7_129 cls_7 kd_111 rfl ⟨by decide, by decide⟩ rfl rfl (Nat.le_of_ble_eq_true rfl) dX7_solveOverSupports_92 ?_
        intro r30
        refine J_aload_n G 5 dX7_solveOverSupports_95 rfl ?_
        refine J_iconst G dX7_solveOverSupports_96 ?_
        refine J_cVpL (As := [vI 1]) G (mX7_span u 1 m2) sg_X7_span sv_X7_span wm_X7_129 cls_7 kd_111 rfl ⟨by decide, by decide⟩ rfl rfl (Nat.le_of_ble_eq_true rfl) dX7_solveOverSupports_97 ?_
        intro r31
        refine J_ladd G dX7_solveOverSupports_100 ?_
        refine J_lmul G dX7_solveOverSupports_101 ?_
        refine J_ltL (fun x32 => ?_)
        refine J_lstore (lv' := [(6, vL x32), (8, vL 0), (4, vL x7), (2, vL x5), (1, vI x3), (0, vR (uB u) 111)]) G dX7_solveOverSupports_102 (by decide) rfl ?_
        refine J_aload_n G 5 dX7_solveOverSupports_104 rfl ?_
        refine J_iconst G dX7_solveOverSupports_105 ?_
        refine J_cVpL (As := [vI 1]) G (mX7_leans u 1 m2) sg_X7_leans sv_X7_leans wm_X7_145 cls_7 kd_111 rfl ⟨by decide, by decide⟩ rfl rfl (Nat.le_of_ble_eq_true rfl) dX7_solveOverSupports_106 ?_
        intro r33
        refine J_lneg G dX7_solveOverSupports_109 ?_
        refine J_aload_n G 5 dX7_solveOverSupports_110 rfl ?_
        refine J_iconst G dX7_solveOverSupports_111 ?_
        refine J_cVpL (As := [vI 0]) G (mX7_span u 0 m2) sg_X7_span sv_X7_span wm_X7_129 cls_7 kd_111 rfl ⟨by decide, by decide⟩ rfl rfl (Nat.le_of_ble_eq_true rfl) dX7_solveOverSupports_112 ?_
        intro r34
        refine J_lload_n G 3 dX7_solveOverSupports_115 rfl ?_
        refine J_lmul G dX7_solveOverSupports_116 ?_
        refine J_lsub G dX7_solveOverSupports_117 ?_
        refine J_iload_n G 4 dX7_solveOverSupports_118 rfl ?_
        refine J_iconst G dX7_solveOverSupports_119 ?_
        refine J_jn (fun g => ∀ x35, J u x 18 (jQ u x EwV) 135 [(0, vR (uB u) 111), (1, vI x3), (2, vL x5), (4, vL x7), (6, vL x32)] [vL x35, vL ((-r33) - (r34 * x5))] m2 (g x35)) ?_ ?_
        · intro x35
          refine J_lsub G dX7_solveOverSupports_135 ?_
          refine J_ltL (fun x36 => ?_)
          refine J_lstore (lv' := [(8, vL x36), (0, vR (uB u) 111), (1, vI x3), (2, vL x5), (4, vL x7), (6, vL x32)]) G dX7_solveOverSupports_136 (by decide) rfl ?_
          refine J_lv [1, 2, 3, 4, 5, 0] rfl ?_
          exact hk138 x32 x36
        · intro k135 hk135
          refine J_icmp_ne 134 G dX7_solveOverSupports_120 (by decide) ?_ ?_
          · refine J_lconst (v := 0) G dX7_solveOverSupports_134 (by decide) ?_
            refine J_lv [5, 4, 3, 2, 0] rfl ?_
            exact hk135 0
          · refine J_aload_n G 5 dX7_solveOverSupports_123 rfl ?_
            refine J_iconst G dX7_solveOverSupports_124 ?_
            refine J_cVpL (As := [vI 1]) G (mX7_span u 1 m2) sg_X7_span sv_X7_span wm_X7_129 cls_7 kd_111 rfl ⟨by decide, by decide⟩ rfl rfl (Nat.le_of_ble_eq_true rfl) dX7_solveOverSupports_125 ?_
            intro r37
            refine J_lload G 2 dX7_solveOverSupports_128 rfl ?_
            refine J_lmul G dX7_solveOverSupports_130 ?_
            refine J_goto 135 G dX7_solveOverSupports_131 (by decide) ?_
            refine J_lv [5, 4, 3, 2, 0] rfl ?_
            exact hk135 (r37 * x7)
  · intro k37 hk37
    refine J_lv [1, 0] rfl ?_
    exact jSta_solveOverSupports_L7 G k37 hk37 2000 0 m1
theorem jSta_loadsBehind_L5 {u : jU} {x : jX} (G : jG u x cX7_loadsBehind RX7 5 (some .long) (jRm 0 0)) (mem : Mem) : ∀ (n : Nat) (i1 : Int) (i2 : Int), J u x 5 (jQ u x (EpL mem)) 5 [(0, vR (uB u) 111), (2, vL i1), (4, vI i2)] [] mem (Sta_loadsBehind_L5 mem n i1 i2) := by
  intro n
  induction n with
  | zero => intro i1 i2; exact J_none
  | succ n ih =>
    intro i1 i2
    rw [Sta_loadsBehind_L5]
    refine J_iload G 2 dX7_loadsBehind_5 rfl ?_
    refine J_aload_n G 0 dX7_loadsBehind_7 rfl ?_
    refine J_getI (i := 0) (k := 0) G cls_7 wf_X7_78 kd_111 rfl rfl dX7_loadsBehind_8 ?_
    refine J_icmp_ge 40 G dX7_loadsBehind_11 (by decide) ?_ ?_
    · refine J_lload_n G 1 dX7_loadsBehind_40 rfl ?_
      refine J_aload_n G 0 dX7_loadsBehind_41 rfl ?_
      refine J_getL (i := 6) (k := 6) G cls_7 wf_X7_25 kd_111 rfl rfl dX7_loadsBehind_42 ?_
      refine J_lmul G dX7_loadsBehind_45 ?_
      exact J_lret G dX7_loadsBehind_46 rfl
    · refine J_lload_n G 1 dX7_loadsBehind_14 rfl ?_
      refine J_aload_n G 0 dX7_loadsBehind_15 rfl ?_
      refine J_getR (d := 115) (k := 5) G cls_7 wf_X7_22 kd_111 rfl rfl dX7_loadsBehind_16 ?_
      refine J_iload G 2 dX7_loadsBehind_19 rfl ?_
      refine J_lald G kd_115 ln_115 dX7_loadsBehind_21 ?_
      refine J_aload_n G 0 dX7_loadsBehind_22 rfl ?_
      refine J_getR (d := 114) (k := 4) G cls_7 wf_X7_18 kd_111 rfl rfl dX7_loadsBehind_23 ?_
      refine J_iload G 2 dX7_loadsBehind_26 rfl ?_
      refine J_iconst G dX7_loadsBehind_28 ?_
      refine J_iadd G dX7_loadsBehind_29 ?_
      refine J_lald G kd_114 ln_114 dX7_loadsBehind_30 ?_
      refine J_ladd G dX7_loadsBehind_31 ?_
      refine J_ladd G dX7_loadsBehind_32 ?_
      refine J_ltL (fun x3 => ?_)
      refine J_lstore_n (lv' := [(2, vL x3), (0, vR (uB u) 111), (4, vI i2)]) G dX7_loadsBehind_33 rfl (by decide) rfl ?_
      refine J_iinc (lv' := [(4, vI (i2 + 1)), (2, vL x3), (0, vR (uB u) 111)]) G 2 dX7_loadsBehind_34 rfl (by decide) rfl ?_
      refine J_goto 5 G dX7_loadsBehind_37 (by decide) ?_
      refine J_lv [2, 1, 0] rfl ?_
      exact ih x3 (i2 + 1)
theorem mX7_loadsBehind (u : jU) (p0 : Int) (mem : Mem) : jMet u yX7_loadsBehind cX7_loadsBehind 5 (some .long) (jRm 0 0) [vR (uB u) 111, vI p0] mem (EpL mem) (Sta_loadsBehind p0 mem) := by
  refine jMet_of (by decide +kernel) (Nat.le_of_ble_eq_true rfl) (fun x G => ?_)
  show J u x 5 (jQ u x (EpL mem)) 0 [(0, vR (uB u) 111), (1, vI p0)] [] mem _
  unfold Sta_loadsBehind
  refine J_lconst (v := 0) G dX7_loadsBehind_0 (by decide) ?_
  refine J_lstore_n (lv' := [(2, vL 0), (0, vR (uB u) 111), (1, vI p0)]) G dX7_loadsBehind_1 rfl (by decide) rfl ?_
  refine J_iload_n G 2 dX7_loadsBehind_2 rfl ?_
  refine J_istore (lv' := [(4, vI p0), (2, vL 0), (0, vR (uB u) 111), (1, vI p0)]) G dX7_loadsBehind_3 (by decide) rfl ?_
  refine J_lv [2, 1, 0] rfl ?_
  exact jSta_loadsBehind_L5 G mem 2000 0 p0
theorem jSta_shearOfSpan_L12 {u : jU} {x : jX} (G : jG u x cX7_shearOfSpan RX7 8 (some .long) (jRm 1 23)) (p0 : Int) (mem : Mem) (r1 : Int) (k92 : Int → Option Int) (hk92 : (fun g => ∀ x2, J u x 8 (jQ u x (EpL mem)) 92 [(0, vR (uB u) 111), (1, vI p0), (2, vL r1), (4, vL x2)] [] mem (g x2)) k92) : ∀ (n : Nat) (i5 : Int) (i6 : Int), J u x 8 (jQ u x (EpL mem)) 12 [(0, vR (uB u) 111), (1, vI p0), (2, vL r1), (4, vL i5), (6, vI i6)] [] mem (Sta_shearOfSpan_L12 p0 mem r1 k92 n i5 i6) := by
  intro n
  induction n with
  | zero => intro i5 i6; exact J_none
  | succ n ih =>
    intro i5 i6
    rw [Sta_shearOfSpan_L12]
    refine J_iload G 4 dX7_shearOfSpan_12 rfl ?_
    refine J_i2l G dX7_shearOfSpan_14 ?_
    refine J_lload_n G 2 dX7_shearOfSpan_15 rfl ?_
    refine J_lcmp_ge 92 G dX7_shearOfSpan_16 dX7_shearOfSpan_17 (by decide) ?_ ?_
    · refine J_lv [0, 1, 2, 3] rfl ?_
      exact hk92 i5
    · refine J_aload_n G 0 dX7_shearOfSpan_20 rfl ?_
      refine J_getR (d := 112) (k := 2) G cls_7 wf_X7_9 kd_111 rfl rfl dX7_shearOfSpan_21 ?_
      refine J_iload_n G 1 dX7_shearOfSpan_24 rfl ?_
      refine J_iald G kd_112 ln_112 dX7_shearOfSpan_25 ?_
      refine J_iload G 4 dX7_shearOfSpan_26 rfl ?_
      refine J_iadd G dX7_shearOfSpan_28 ?_
      refine J_ltI (fun x7 => ?_)
      refine J_istore (lv' := [(7, vI x7), (0, vR (uB u) 111), (1, vI p0), (2, vL r1), (4, vL i5), (6, vI i6)]) G dX7_shearOfSpan_29 (by decide) rfl ?_
      refine J_lload G 4 dX7_shearOfSpan_31 rfl ?_
      refine J_aload_n G 1 dX7_shearOfSpan_33 rfl ?_
      refine J_getR (d := 115) (k := 5) G cls_7 wf_X7_22 kd_111 rfl rfl dX7_shearOfSpan_34 ?_
      refine J_iload G 0 dX7_shearOfSpan_37 rfl ?_
      refine J_lald G kd_115 ln_115 dX7_shearOfSpan_39 ?_
      refine J_ldc2 (v := 2) G dX7_shearOfSpan_40 wc_X7_133 (by decide) ?_
      refine J_lload_n G 3 dX7_shearOfSpan_43 rfl ?_
      refine J_iload G 5 dX7_shearOfSpan_44 rfl ?_
      refine J_i2l G dX7_shearOfSpan_46 ?_
      refine J_lsub G dX7_shearOfSpan_47 ?_
      refine J_lmul G dX7_shearOfSpan_48 ?_
      refine J_lconst (v := 1) G dX7_shearOfSpan_49 (by decide) ?_
      refine J_lsub G dX7_shearOfSpan_50 ?_
      refine J_lmul G dX7_shearOfSpan_51 ?_
      refine J_ladd G dX7_shearOfSpan_52 ?_
      refine J_ltL (fun x8 => ?_)
      refine J_lstore (lv' := [(4, vL x8), (7, vI x7), (0, vR (uB u) 111), (1, vI p0), (2, vL r1), (6, vI i6)]) G dX7_shearOfSpan_53 (by decide) rfl ?_
      refine J_lload G 0 dX7_shearOfSpan_55 rfl ?_
      refine J_iload G 5 dX7_shearOfSpan_57 rfl ?_
      refine J_jn (fun g => ∀ x9, J u x 8 (jQ u x (EpL mem)) 83 [(0, vR (uB u) 111), (1, vI p0), (2, vL r1), (6, vI i6)] [vL x9, vL x8] mem (g x9)) ?_ ?_
      · intro x9
        refine J_ladd G dX7_shearOfSpan_83 ?_
        refine J_ltL (fun x10 => ?_)
        refine J_lstore (lv' := [(4, vL x10), (0, vR (uB u) 111), (1, vI p0), (2, vL r1), (6, vI i6)]) G dX7_shearOfSpan_84 (by decide) rfl ?_
        refine J_iinc (lv' := [(6, vI (i6 + 1)), (4, vL x10), (0, vR (uB u) 111), (1, vI p0), (2, vL r1)]) G 4 dX7_shearOfSpan_86 rfl (by decide) rfl ?_
        refine J_goto 12 G dX7_shearOfSpan_89 (by decide) ?_
        refine J_lv [2, 3, 4, 1, 0] rfl ?_
        exact ih x10 (i6 + 1)
      · intro k83 hk83
        refine J_if_ne 66 G dX7_shearOfSpan_59 (by decide) ?_ ?_
        · refine J_ldc2 (v := 2) G dX7_shearOfSpan_66 wc_X7_133 (by decide) ?_
          refine J_aload_n G 2 dX7_shearOfSpan_69 rfl ?_
          refine J_getR (d := 114) (k := 4) G cls_7 wf_X7_18 kd_111 rfl rfl dX7_shearOfSpan_70 ?_
          refine J_iload G 1 dX7_shearOfSpan_73 rfl ?_
          refine J_lald G kd_114 ln_114 dX7_shearOfSpan_75 ?_
          refine J_lmul G dX7_shearOfSpan_76 ?_
          refine J_lload_n G 4 dX7_shearOfSpan_77 rfl ?_
          refine J_iload G 5 dX7_shearOfSpan_78 rfl ?_
          refine J_i2l G dX7_shearOfSpan_80 ?_
          refine J_lsub G dX7_shearOfSpan_81 ?_
          refine J_lmul G dX7_shearOfSpan_82 ?_
          refine J_lv [2, 3, 4, 5] rfl ?_
          exact hk83 ((2 * (mem 114 (s32 x7))) * (r1 - (s32 i6)))
        · refine J_lconst (v := 0) G dX7_shearOfSpan_62 (by decide) ?_
          refine J_goto 83 G dX7_shearOfSpan_63 (by decide) ?_
          refine J_lv [2, 3, 4, 5] rfl ?_
          exact hk83 0
theorem mX7_shearOfSpan (u : jU) (p0 : Int) (mem : Mem) : jMet u yX7_shearOfSpan cX7_shearOfSpan 8 (some .long) (jRm 1 23) [vR (uB u) 111, vI p0] mem (EpL mem) (Sta_shearOfSpan p0 mem) := by
  refine jMet_of (by decide +kernel) (Nat.le_of_ble_eq_true rfl) (fun x G => ?_)
  show J u x 8 (jQ u x (EpL mem)) 0 [(0, vR (uB u) 111), (1, vI p0)] [] mem _
  unfold Sta_shearOfSpan
  refine J_aload_n G 0 dX7_shearOfSpan_0 rfl ?_
  refine J_iload_n G 1 dX7_shearOfSpan_1 rfl ?_
  refine J_cVpL (As := [vI p0]) G (mX7_span u p0 mem) sg_X7_span sv_X7_span wm_X7_129 cls_7 kd_111 rfl ⟨by decide, by decide⟩ rfl rfl (Nat.le_of_ble_eq_true rfl) dX7_shearOfSpan_2 ?_
  intro r1
  refine J_lstore_n (lv' := [(2, vL r1), (0, vR (uB u) 111), (1, vI p0)]) G dX7_shearOfSpan_5 rfl (by decide) rfl ?_
  refine J_lconst (v := 0) G dX7_shearOfSpan_6 (by decide) ?_
  refine J_lstore (lv' := [(4, vL 0), (2, vL r1), (0, vR (uB u) 111), (1, vI p0)]) G dX7_shearOfSpan_7 (by decide) rfl ?_
  refine J_iconst G dX7_shearOfSpan_9 ?_
  refine J_istore (lv' := [(6, vI 0), (4, vL 0), (2, vL r1), (0, vR (uB u) 111), (1, vI p0)]) G dX7_shearOfSpan_10 (by decide) rfl ?_
  refine J_jn (fun g => ∀ x2, J u x 8 (jQ u x (EpL mem)) 92 [(0, vR (uB u) 111), (1, vI p0), (2, vL r1), (4, vL x2)] [] mem (g x2)) ?_ ?_
  · intro x2
    refine J_aload_n G 0 dX7_shearOfSpan_92 rfl ?_
    refine J_getR (d := 126) (k := 15) G cls_7 wf_X7_59 kd_111 rfl rfl dX7_shearOfSpan_93 ?_
    refine J_iload_n G 1 dX7_shearOfSpan_96 rfl ?_
    refine J_iconst G dX7_shearOfSpan_97 ?_
    refine J_iadd G dX7_shearOfSpan_98 ?_
    refine J_lald G kd_126 ln_126 dX7_shearOfSpan_99 ?_
    refine J_aload_n G 0 dX7_shearOfSpan_100 rfl ?_
    refine J_getR (d := 126) (k := 15) G cls_7 wf_X7_59 kd_111 rfl rfl dX7_shearOfSpan_101 ?_
    refine J_iload_n G 1 dX7_shearOfSpan_104 rfl ?_
    refine J_lald G kd_126 ln_126 dX7_shearOfSpan_105 ?_
    refine J_lsub G dX7_shearOfSpan_106 ?_
    refine J_lload_n G 2 dX7_shearOfSpan_107 rfl ?_
    refine J_cNpL (As := [vL ((mem 126 (s32 (p0 + 1))) - (mem 126 (s32 p0))), vL r1]) G (mX8_divide u ((mem 126 (s32 (p0 + 1))) - (mem 126 (s32 p0))) r1 mem) sg_X8_divide ss_X8_divide (fun U h => h.2.1) ⟨by decide, by decide⟩ rfl rfl (Nat.le_of_ble_eq_true rfl) dX7_shearOfSpan_108 ?_
    intro r3
    refine J_lload G 3 dX7_shearOfSpan_111 rfl ?_
    refine J_aload_n G 0 dX7_shearOfSpan_113 rfl ?_
    refine J_getL (i := 6) (k := 6) G cls_7 wf_X7_25 kd_111 rfl rfl dX7_shearOfSpan_114 ?_
    refine J_ldc2 (v := 2) G dX7_shearOfSpan_117 wc_X7_133 (by decide) ?_
    refine J_lload_n G 2 dX7_shearOfSpan_120 rfl ?_
    refine J_lmul G dX7_shearOfSpan_121 ?_
    refine J_cNpL (As := [vL (mem 111 6), vL (2 * r1)]) G (mX8_divide u (mem 111 6) (2 * r1) mem) sg_X8_divide ss_X8_divide (fun U h => h.2.1) ⟨by decide, by decide⟩ rfl rfl (Nat.le_of_ble_eq_true rfl) dX7_shearOfSpan_122 ?_
    intro r4
    refine J_lmul G dX7_shearOfSpan_125 ?_
    refine J_ladd G dX7_shearOfSpan_126 ?_
    exact J_lret G dX7_shearOfSpan_127 rfl
  · intro k92 hk92
    refine J_lv [3, 4, 2, 1, 0] rfl ?_
    exact jSta_shearOfSpan_L12 G p0 mem r1 k92 hk92 2000 0 0
theorem jSta_shearAlong_L7 {u : jU} {x : jX} (G : jG u x cX7_shearAlong RX7 7 none (jRm 2 50)) : ∀ (n : Nat) (i1 : Int) (i2 : Int) (i3 : Int) (m4 : Mem), J u x 7 (jQ u x EwV) 7 [(0, vR (uB u) 111), (1, vI i1), (2, vL i2), (4, vI i3)] [] m4 (Sta_shearAlong_L7 n i1 i2 i3 m4) := by
  intro n
  induction n with
  | zero => intro i1 i2 i3 m4; exact J_none
  | succ n ih =>
    intro i1 i2 i3 m4
    rw [Sta_shearAlong_L7]
    refine J_iload G 3 dX7_shearAlong_7 rfl ?_
    refine J_aload_n G 0 dX7_shearAlong_9 rfl ?_
    refine J_getI (i := 0) (k := 0) G cls_7 wf_X7_78 kd_111 rfl rfl dX7_shearAlong_10 ?_
    refine J_icmp_gt 137 G dX7_shearAlong_13 (by decide) ?_ ?_
    · exact J_vret G dX7_shearAlong_137 rfl
    · refine J_aload_n G 0 dX7_shearAlong_16 rfl ?_
      refine J_getR (d := 117) (k := 8) G cls_7 wf_X7_32 kd_111 rfl rfl dX7_shearAlong_17 ?_
      refine J_iload G 3 dX7_shearAlong_20 rfl ?_
      refine J_lload_n G 2 dX7_shearAlong_22 rfl ?_
      refine J_aload_n G 0 dX7_shearAlong_23 rfl ?_
      refine J_getR (d := 114) (k := 4) G cls_7 wf_X7_18 kd_111 rfl rfl dX7_shearAlong_24 ?_
      refine J_iload G 3 dX7_shearAlong_27 rfl ?_
      refine J_lald G kd_114 ln_114 dX7_shearAlong_29 ?_
      refine J_aload_n G 0 dX7_shearAlong_30 rfl ?_
      refine J_getL (i := 6) (k := 6) G cls_7 wf_X7_25 kd_111 rfl rfl dX7_shearAlong_31 ?_
      refine J_lmul G dX7_shearAlong_34 ?_
      refine J_lsub G dX7_shearAlong_35 ?_
      refine J_last G kd_117 ln_117 dX7_shearAlong_36 ?_
      refine J_ltM (fun m5 => ?_)
      refine J_iload_n G 1 dX7_shearAlong_37 rfl ?_
      refine J_aload_n G 0 dX7_shearAlong_38 rfl ?_
      refine J_getI (i := 1) (k := 1) G cls_7 wf_X7_82 kd_111 rfl rfl dX7_shearAlong_39 ?_
      refine J_jn (fun g => ∀ x6 m7, J u x 7 (jQ u x EwV) 110 [(0, vR (uB u) 111), (1, vI x6), (4, vI i3)] [] m7 (g x6 m7)) ?_ ?_
      · intro x6 m7
        refine J_aload_n G 0 dX7_shearAlong_110 rfl ?_
        refine J_getR (d := 117) (k := 8) G cls_7 wf_X7_32 kd_111 rfl rfl dX7_shearAlong_111 ?_
        refine J_iload G 2 dX7_shearAlong_114 rfl ?_
        refine J_lald G kd_117 ln_117 dX7_shearAlong_116 ?_
        refine J_aload_n G 0 dX7_shearAlong_117 rfl ?_
        refine J_getR (d := 115) (k := 5) G cls_7 wf_X7_22 kd_111 rfl rfl dX7_shearAlong_118 ?_
        refine J_iload G 2 dX7_shearAlong_121 rfl ?_
        refine J_lald G kd_115 ln_115 dX7_shearAlong_123 ?_
        refine J_aload_n G 0 dX7_shearAlong_124 rfl ?_
        refine J_getL (i := 6) (k := 6) G cls_7 wf_X7_25 kd_111 rfl rfl dX7_shearAlong_125 ?_
        refine J_lmul G dX7_shearAlong_128 ?_
        refine J_lsub G dX7_shearAlong_129 ?_
        refine J_ltL (fun x8 => ?_)
        refine J_lstore_n (lv' := [(2, vL x8), (0, vR (uB u) 111), (1, vI x6), (4, vI i3)]) G dX7_shearAlong_130 rfl (by decide) rfl ?_
        refine J_iinc (lv' := [(4, vI (i3 + 1)), (2, vL x8), (0, vR (uB u) 111), (1, vI x6)]) G 3 dX7_shearAlong_131 rfl (by decide) rfl ?_
        refine J_goto 7 G dX7_shearAlong_134 (by decide) ?_
        refine J_lv [2, 3, 1, 0] rfl ?_
        exact ih x6 x8 (i3 + 1) m7
      · intro k110 hk110
        refine J_icmp_ge 110 G dX7_shearAlong_42 (by decide) ?_ ?_
        · refine J_lv [0, 1, 3] rfl ?_
          exact hk110 i1 m5
        · refine J_aload_n G 0 dX7_shearAlong_45 rfl ?_
          refine J_getR (d := 112) (k := 2) G cls_7 wf_X7_9 kd_111 rfl rfl dX7_shearAlong_46 ?_
          refine J_iload_n G 1 dX7_shearAlong_49 rfl ?_
          refine J_iald G kd_112 ln_112 dX7_shearAlong_50 ?_
          refine J_iload G 3 dX7_shearAlong_51 rfl ?_
          refine J_icmp_ne 110 G dX7_shearAlong_53 (by decide) ?_ ?_
          · refine J_lv [0, 1, 3] rfl ?_
            exact hk110 i1 m5
          · refine J_iload_n G 1 dX7_shearAlong_56 rfl ?_
            refine J_aload_n G 0 dX7_shearAlong_57 rfl ?_
            refine J_getI (i := 1) (k := 1) G cls_7 wf_X7_82 kd_111 rfl rfl dX7_shearAlong_58 ?_
            refine J_iconst G dX7_shearAlong_61 ?_
            refine J_isub G dX7_shearAlong_62 ?_
            refine J_jn (fun g => ∀ x9, J u x 7 (jQ u x EwV) 80 [(0, vR (uB u) 111), (1, vI i1), (4, vI i3)] [vL x9] m5 (g x9)) ?_ ?_
            · intro x9
              refine J_lstore (lv' := [(5, vL x9), (0, vR (uB u) 111), (1, vI i1), (4, vI i3)]) G dX7_shearAlong_80 (by decide) rfl ?_
              refine J_aload_n G 1 dX7_shearAlong_82 rfl ?_
              refine J_getR (d := 116) (k := 7) G cls_7 wf_X7_29 kd_111 rfl rfl dX7_shearAlong_83 ?_
              refine J_iload_n G 2 dX7_shearAlong_86 rfl ?_
              refine J_lload G 0 dX7_shearAlong_87 rfl ?_
              refine J_aload_n G 1 dX7_shearAlong_89 rfl ?_
              refine J_getR (d := 117) (k := 8) G cls_7 wf_X7_32 kd_111 rfl rfl dX7_shearAlong_90 ?_
              refine J_iload G 3 dX7_shearAlong_93 rfl ?_
              refine J_lald G kd_117 ln_117 dX7_shearAlong_95 ?_
              refine J_lsub G dX7_shearAlong_96 ?_
              refine J_last G kd_116 ln_116 dX7_shearAlong_97 ?_
              refine J_ltM (fun m10 => ?_)
              refine J_aload_n G 1 dX7_shearAlong_98 rfl ?_
              refine J_getR (d := 117) (k := 8) G cls_7 wf_X7_32 kd_111 rfl rfl dX7_shearAlong_99 ?_
              refine J_iload G 3 dX7_shearAlong_102 rfl ?_
              refine J_lload G 0 dX7_shearAlong_104 rfl ?_
              refine J_last G kd_117 ln_117 dX7_shearAlong_106 ?_
              refine J_ltM (fun m11 => ?_)
              refine J_iinc (lv' := [(1, vI (i1 + 1)), (5, vL x9), (0, vR (uB u) 111), (4, vI i3)]) G 2 dX7_shearAlong_107 rfl (by decide) rfl ?_
              refine J_lv [2, 0, 3] rfl ?_
              exact hk110 (i1 + 1) m11
            · intro k80 hk80
              refine J_icmp_ne 75 G dX7_shearAlong_63 (by decide) ?_ ?_
              · refine J_aload_n G 0 dX7_shearAlong_75 rfl ?_
                refine J_iload_n G 1 dX7_shearAlong_76 rfl ?_
                refine J_cVpL (As := [vI i1]) G (mX7_shearOfSpan u i1 m5) sg_X7_shearOfSpan sv_X7_shearOfSpan wm_X7_169 cls_7 kd_111 rfl ⟨by decide, by decide⟩ rfl rfl (Nat.le_of_ble_eq_true rfl) dX7_shearAlong_77 ?_
                intro r12
                refine J_lv [0, 1, 3] rfl ?_
                exact hk80 r12
              · refine J_aload_n G 0 dX7_shearAlong_66 rfl ?_
                refine J_iload G 3 dX7_shearAlong_67 rfl ?_
                refine J_cVpL (As := [vI i3]) G (mX7_loadsBehind u i3 m5) sg_X7_loadsBehind sv_X7_loadsBehind wm_X7_166 cls_7 kd_111 rfl ⟨by decide, by decide⟩ rfl rfl (Nat.le_of_ble_eq_true rfl) dX7_shearAlong_69 ?_
                intro r13
                refine J_goto 80 G dX7_shearAlong_72 (by decide) ?_
                refine J_lv [0, 1, 3] rfl ?_
                exact hk80 r13
theorem mX7_shearAlong (u : jU) (mem : Mem) : jMet u yX7_shearAlong cX7_shearAlong 7 none (jRm 2 50) [vR (uB u) 111] mem EwV (Sta_shearAlong mem) := by
  refine jMet_of (by decide +kernel) (Nat.le_of_ble_eq_true rfl) (fun x G => ?_)
  show J u x 7 (jQ u x EwV) 0 [(0, vR (uB u) 111)] [] mem _
  unfold Sta_shearAlong
  refine J_iconst G dX7_shearAlong_0 ?_
  refine J_istore_n (lv' := [(1, vI 0), (0, vR (uB u) 111)]) G dX7_shearAlong_1 rfl (by decide) rfl ?_
  refine J_lconst (v := 0) G dX7_shearAlong_2 (by decide) ?_
  refine J_lstore_n (lv' := [(2, vL 0), (1, vI 0), (0, vR (uB u) 111)]) G dX7_shearAlong_3 rfl (by decide) rfl ?_
  refine J_iconst G dX7_shearAlong_4 ?_
  refine J_istore (lv' := [(4, vI 0), (2, vL 0), (1, vI 0), (0, vR (uB u) 111)]) G dX7_shearAlong_5 (by decide) rfl ?_
  refine J_lv [3, 2, 1, 0] rfl ?_
  exact jSta_shearAlong_L7 G 2000 0 0 0 mem
theorem jSta_bendAlong_L9 {u : jU} {x : jX} (G : jG u x cX7_bendAlong RX7 2 none (jRm 0 0)) : ∀ (n : Nat) (i2 : Int) (m3 : Mem), J u x 2 (jQ u x EwV) 9 [(0, vR (uB u) 111), (1, vI i2)] [] m3 (Sta_bendAlong_L9 n i2 m3) := by
  intro n
  induction n with
  | zero => intro i2 m3; exact J_none
  | succ n ih =>
    intro i2 m3
    rw [Sta_bendAlong_L9]
    refine J_iload_n G 1 dX7_bendAlong_9 rfl ?_
    refine J_aload_n G 0 dX7_bendAlong_10 rfl ?_
    refine J_getI (i := 0) (k := 0) G cls_7 wf_X7_78 kd_111 rfl rfl dX7_bendAlong_11 ?_
    refine J_icmp_ge 60 G dX7_bendAlong_14 (by decide) ?_ ?_
    · exact J_vret G dX7_bendAlong_60 rfl
    · refine J_aload_n G 0 dX7_bendAlong_17 rfl ?_
      refine J_getR (d := 118) (k := 9) G cls_7 wf_X7_35 kd_111 rfl rfl dX7_bendAlong_18 ?_
      refine J_iload_n G 1 dX7_bendAlong_21 rfl ?_
      refine J_iconst G dX7_bendAlong_22 ?_
      refine J_iadd G dX7_bendAlong_23 ?_
      refine J_aload_n G 0 dX7_bendAlong_24 rfl ?_
      refine J_getR (d := 118) (k := 9) G cls_7 wf_X7_35 kd_111 rfl rfl dX7_bendAlong_25 ?_
      refine J_iload_n G 1 dX7_bendAlong_28 rfl ?_
      refine J_lald G kd_118 ln_118 dX7_bendAlong_29 ?_
      refine J_aload_n G 0 dX7_bendAlong_30 rfl ?_
      refine J_getR (d := 117) (k := 8) G cls_7 wf_X7_32 kd_111 rfl rfl dX7_bendAlong_31 ?_
      refine J_iload_n G 1 dX7_bendAlong_34 rfl ?_
      refine J_lald G kd_117 ln_117 dX7_bendAlong_35 ?_
      refine J_ladd G dX7_bendAlong_36 ?_
      refine J_aload_n G 0 dX7_bendAlong_37 rfl ?_
      refine J_getR (d := 115) (k := 5) G cls_7 wf_X7_22 kd_111 rfl rfl dX7_bendAlong_38 ?_
      refine J_iload_n G 1 dX7_bendAlong_41 rfl ?_
      refine J_lald G kd_115 ln_115 dX7_bendAlong_42 ?_
      refine J_aload_n G 0 dX7_bendAlong_43 rfl ?_
      refine J_getL (i := 6) (k := 6) G cls_7 wf_X7_25 kd_111 rfl rfl dX7_bendAlong_44 ?_
      refine J_ldc2 (v := 2) G dX7_bendAlong_47 wc_X7_133 (by decide) ?_
      refine J_ldivC G dX7_bendAlong_50 (by decide) ?_
      refine J_lmul G dX7_bendAlong_51 ?_
      refine J_lsub G dX7_bendAlong_52 ?_
      refine J_last G kd_118 ln_118 dX7_bendAlong_53 ?_
      refine J_ltM (fun m4 => ?_)
      refine J_iinc (lv' := [(1, vI (i2 + 1)), (0, vR (uB u) 111)]) G 1 dX7_bendAlong_54 rfl (by decide) rfl ?_
      refine J_goto 9 G dX7_bendAlong_57 (by decide) ?_
      refine J_lv [1, 0] rfl ?_
      exact ih (i2 + 1) m4
theorem mX7_bendAlong (u : jU) (mem : Mem) : jMet u yX7_bendAlong cX7_bendAlong 2 none (jRm 0 0) [vR (uB u) 111] mem EwV (Sta_bendAlong mem) := by
  refine jMet_of (by decide +kernel) (Nat.le_of_ble_eq_true rfl) (fun x G => ?_)
  show J u x 2 (jQ u x EwV) 0 [(0, vR (uB u) 111)] [] mem _
  unfold Sta_bendAlong
  refine J_aload_n G 0 dX7_bendAlong_0 rfl ?_
  refine J_getR (d := 118) (k := 9) G cls_7 wf_X7_35 kd_111 rfl rfl dX7_bendAlong_1 ?_
  refine J_iconst G dX7_bendAlong_4 ?_
  refine J_lconst (v := 0) G dX7_bendAlong_5 (by decide) ?_
  refine J_lastC G kd_118 ln_118 (by decide) dX7_bendAlong_6 ?_
  refine J_ltM (fun m1 => ?_)
  refine J_iconst G dX7_bendAlong_7 ?_
  refine J_istore_n (lv' := [(1, vI 0), (0, vR (uB u) 111)]) G dX7_bendAlong_8 rfl (by decide) rfl ?_
  refine J_lv [1, 0] rfl ?_
  exact jSta_bendAlong_L9 G 2000 0 m1
theorem mX7_solve (u : jU) (mem : Mem) : jMet u yX7_solve cX7_solve 1 none (jRm 4 108) [vR (uB u) 111] mem EwV (Sta_solve mem) := by
  refine jMet_of (by decide +kernel) (Nat.le_of_ble_eq_true rfl) (fun x G => ?_)
  show J u x 1 (jQ u x EwV) 0 [(0, vR (uB u) 111)] [] mem _
  unfold Sta_solve
  refine J_aload_n G 0 dX7_solve_0 rfl ?_
  refine J_getI (i := 1) (k := 1) G cls_7 wf_X7_82 kd_111 rfl rfl dX7_solve_1 ?_
  refine J_iconst G dX7_solve_4 ?_
  refine J_icmp_ge 9 G dX7_solve_5 (by decide) ?_ ?_
  · refine J_aload_n G 0 dX7_solve_9 rfl ?_
    refine J_cVwV (As := []) G (mX7_solveOverSupports u mem) sg_X7_solveOverSupports sv_X7_solveOverSupports wm_X7_116 cls_7 kd_111 rfl ⟨by decide, by decide⟩ rfl rfl (Nat.le_of_ble_eq_true rfl) dX7_solve_10 ?_
    intro m1
    refine J_aload_n G 0 dX7_solve_13 rfl ?_
    refine J_cVwV (As := []) G (mX7_shearAlong u m1) sg_X7_shearAlong sv_X7_shearAlong wm_X7_119 cls_7 kd_111 rfl ⟨by decide, by decide⟩ rfl rfl (Nat.le_of_ble_eq_true rfl) dX7_solve_14 ?_
    intro m2
    refine J_aload_n G 0 dX7_solve_17 rfl ?_
    refine J_cVwV (As := []) G (mX7_bendAlong u m2) sg_X7_bendAlong sv_X7_bendAlong wm_X7_122 cls_7 kd_111 rfl ⟨by decide, by decide⟩ rfl rfl (Nat.le_of_ble_eq_true rfl) dX7_solve_18 ?_
    intro m3
    exact J_vret G dX7_solve_21 rfl
  · exact J_vret G dX7_solve_8 rfl
theorem mX8_solveAsItIs (u : jU) (mem : Mem) : jMet u yX8_solveAsItIs cX8_solveAsItIs 1 none (jRm 5 128) [vR (uB u) 0] mem EwV (BP_solveAsItIs mem) := by
  refine jMet_of (by decide +kernel) (Nat.le_of_ble_eq_true rfl) (fun x G => ?_)
  show J u x 1 (jQ u x EwV) 0 [(0, vR (uB u) 0)] [] mem _
  unfold BP_solveAsItIs
  refine J_aload_n G 0 dX8_solveAsItIs_0 rfl ?_
  refine J_getR (d := 111) (k := 4) G cls_8 wf_X8_31 kd_0 rfl rfl dX8_solveAsItIs_1 ?_
  refine J_aload_n G 0 dX8_solveAsItIs_4 rfl ?_
  refine J_getR (d := 1) (k := 0) G cls_8 wf_X8_14 kd_0 rfl rfl dX8_solveAsItIs_5 ?_
  refine J_cVwV (As := [vR (uB u) 1]) G (mX7_frame u mem) sg_X7_frame sv_X7_frame wm_X8_262 cls_7 kd_111 rfl ⟨by decide, by decide⟩ rfl rfl (Nat.le_of_ble_eq_true rfl) dX8_solveAsItIs_8 ?_
  intro m1
  refine J_aload_n G 0 dX8_solveAsItIs_11 rfl ?_
  refine J_getR (d := 111) (k := 4) G cls_8 wf_X8_31 kd_0 rfl rfl dX8_solveAsItIs_12 ?_
  refine J_aload_n G 0 dX8_solveAsItIs_15 rfl ?_
  refine J_getR (d := 1) (k := 0) G cls_8 wf_X8_14 kd_0 rfl rfl dX8_solveAsItIs_16 ?_
  refine J_cVwV (As := [vR (uB u) 1]) G (mX7_bearLoads u m1) sg_X7_bearLoads sv_X7_bearLoads wm_X8_266 cls_7 kd_111 rfl ⟨by decide, by decide⟩ rfl rfl (Nat.le_of_ble_eq_true rfl) dX8_solveAsItIs_19 ?_
  intro m2
  refine J_aload_n G 0 dX8_solveAsItIs_22 rfl ?_
  refine J_getR (d := 111) (k := 4) G cls_8 wf_X8_31 kd_0 rfl rfl dX8_solveAsItIs_23 ?_
  refine J_cVwV (As := []) G (mX7_solve u m2) sg_X7_solve sv_X7_solve wm_X8_269 cls_7 kd_111 rfl ⟨by decide, by decide⟩ rfl rfl (Nat.le_of_ble_eq_true rfl) dX8_solveAsItIs_26 ?_
  intro m3
  exact J_vret G dX8_solveAsItIs_29 rfl
theorem jBP_commonDivisor_L15 {u : jU} {x : jX} (G : jG u x cX8_commonDivisor RX8 11 (some .long) (jRm 1 23)) (mem : Mem) : ∀ (n : Nat) (i3 : Int) (i4 : Int) (i5 : Int), J u x 11 (jQ u x (EpL mem)) 15 [(4, vL i3), (6, vL i4), (8, vI i5)] [] mem (BP_commonDivisor_L15 n i3 i4 i5) := by
  intro n
  induction n with
  | zero => intro i3 i4 i5; exact J_none
  | succ n ih =>
    intro i3 i4 i5
    rw [BP_commonDivisor_L15]
    refine J_iload G 2 dX8_commonDivisor_15 rfl ?_
    refine J_sipush G dX8_commonDivisor_17 (by decide) ?_
    refine J_icmp_ge 51 G dX8_commonDivisor_20 (by decide) ?_ ?_
    · refine J_lload G 0 dX8_commonDivisor_51 rfl ?_
      exact J_lret G dX8_commonDivisor_53 rfl
    · refine J_lload G 1 dX8_commonDivisor_23 rfl ?_
      refine J_lconst (v := 0) G dX8_commonDivisor_25 (by decide) ?_
      refine J_lcmp_eq 51 G dX8_commonDivisor_26 dX8_commonDivisor_27 (by decide) ?_ ?_
      · refine J_lload G 0 dX8_commonDivisor_51 rfl ?_
        exact J_lret G dX8_commonDivisor_53 rfl
      · refine J_lload G 0 dX8_commonDivisor_30 rfl ?_
        refine J_lload G 1 dX8_commonDivisor_32 rfl ?_
        refine J_lrem G dX8_commonDivisor_34 ?_
        refine J_ltL (fun x6 => ?_)
        refine J_lstore (lv' := [(9, vL x6), (4, vL i3), (6, vL i4), (8, vI i5)]) G dX8_commonDivisor_35 (by decide) rfl ?_
        refine J_lload G 2 dX8_commonDivisor_37 rfl ?_
        refine J_lstore (lv' := [(4, vL i4), (9, vL x6), (6, vL i4), (8, vI i5)]) G dX8_commonDivisor_39 (by decide) rfl ?_
        refine J_lload G 1 dX8_commonDivisor_41 rfl ?_
        refine J_lstore (lv' := [(6, vL x6), (4, vL i4), (9, vL x6), (8, vI i5)]) G dX8_commonDivisor_43 (by decide) rfl ?_
        refine J_iinc (lv' := [(8, vI (i5 + 1)), (6, vL x6), (4, vL i4), (9, vL x6)]) G 3 dX8_commonDivisor_45 rfl (by decide) rfl ?_
        refine J_goto 15 G dX8_commonDivisor_48 (by decide) ?_
        refine J_lv [2, 1, 0] rfl ?_
        exact ih i4 x6 (i5 + 1)
theorem mX8_commonDivisor (u : jU) (p0 : Int) (p1 : Int) (mem : Mem) : jMet u yX8_commonDivisor cX8_commonDivisor 11 (some .long) (jRm 1 23) [vL p0, vL p1] mem (EpL mem) (BP_commonDivisor p0 p1 mem) := by
  refine jMet_of (by decide +kernel) (Nat.le_of_ble_eq_true rfl) (fun x G => ?_)
  show J u x 11 (jQ u x (EpL mem)) 0 [(0, vL p0), (2, vL p1)] [] mem _
  unfold BP_commonDivisor
  refine J_lload_n G 0 dX8_commonDivisor_0 rfl ?_
  refine J_labs G wm_X8_335 w_labs1 w_math w_labs2 ⟨by decide, Nat.le_of_ble_eq_true rfl⟩ dX8_commonDivisor_1 ?_
  refine J_ltL (fun x1 => ?_)
  refine J_lstore (lv' := [(4, vL x1), (0, vL p0), (2, vL p1)]) G dX8_commonDivisor_4 (by decide) rfl ?_
  refine J_lload_n G 2 dX8_commonDivisor_6 rfl ?_
  refine J_labs G wm_X8_335 w_labs1 w_math w_labs2 ⟨by decide, Nat.le_of_ble_eq_true rfl⟩ dX8_commonDivisor_7 ?_
  refine J_ltL (fun x2 => ?_)
  refine J_lstore (lv' := [(6, vL x2), (4, vL x1), (0, vL p0), (2, vL p1)]) G dX8_commonDivisor_10 (by decide) rfl ?_
  refine J_iconst G dX8_commonDivisor_12 ?_
  refine J_istore (lv' := [(8, vI 0), (6, vL x2), (4, vL x1), (0, vL p0), (2, vL p1)]) G dX8_commonDivisor_13 (by decide) rfl ?_
  refine J_lv [2, 1, 0] rfl ?_
  exact jBP_commonDivisor_L15 G mem 2000 x1 x2 0
theorem mX2_become (u : jU) (a : Nat) (ha : kd a = 2) (p0 : Int) (p1 : Int) (mem : Mem) : jMet u yX2_become cX2_become 9 none (jRm 2 53) [vR (uB u) a, vL p0, vL p1] mem EwV (Frac_become a p0 p1 mem) := by
  refine jMet_of (by decide +kernel) (Nat.le_of_ble_eq_true rfl) (fun x G => ?_)
  show J u x 9 (jQ u x EwV) 0 [(0, vR (uB u) a), (1, vL p0), (3, vL p1)] [] mem _
  unfold Frac_become
  refine J_lload_n G 1 dX2_become_0 rfl ?_
  refine J_lload_n G 2 dX2_become_1 rfl ?_
  refine J_cNpL (As := [vL p0, vL p1]) G (mX8_commonDivisor u p0 p1 mem) sg_X8_commonDivisor ss_X8_commonDivisor (fun U h => h.2.2.1) ⟨by decide, by decide⟩ rfl rfl (Nat.le_of_ble_eq_true rfl) dX2_become_2 ?_
  intro r1
  refine J_lstore (lv' := [(5, vL r1), (0, vR (uB u) a), (1, vL p0), (3, vL p1)]) G dX2_become_5 (by decide) rfl ?_
  refine J_lload_n G 3 dX2_become_7 rfl ?_
  refine J_lconst (v := 0) G dX2_become_8 (by decide) ?_
  refine J_jn (fun g => ∀ x2, J u x 9 (jQ u x EwV) 20 [(0, vR (uB u) a), (1, vL p0), (3, vL p1), (5, vL r1)] [vL x2] mem (g x2)) ?_ ?_
  · intro x2
    refine J_lstore (lv' := [(7, vL x2), (0, vR (uB u) a), (1, vL p0), (3, vL p1), (5, vL r1)]) G dX2_become_20 (by decide) rfl ?_
    refine J_aload_n G 1 dX2_become_22 rfl ?_
    refine J_lload G 0 dX2_become_23 rfl ?_
    refine J_lload_n G 2 dX2_become_25 rfl ?_
    refine J_lload G 4 dX2_become_26 rfl ?_
    refine J_cNpL (As := [vL p0, vL r1]) G (mX8_divide u p0 r1 mem) sg_X8_divide ss_X8_divide (fun U h => h.2.2.2.1) ⟨by decide, by decide⟩ rfl rfl (Nat.le_of_ble_eq_true rfl) dX2_become_28 ?_
    intro r3
    refine J_lmul G dX2_become_31 ?_
    refine J_putL (i := 0) (k := 0) G cls_2 wf_X2_24 ha rfl rfl rfl rfl dX2_become_32 ?_
    refine J_ltM (fun m4 => ?_)
    refine J_aload_n G 1 dX2_become_35 rfl ?_
    refine J_lconst (v := 1) G dX2_become_36 (by decide) ?_
    refine J_lload G 0 dX2_become_37 rfl ?_
    refine J_lload_n G 3 dX2_become_39 rfl ?_
    refine J_lload G 4 dX2_become_40 rfl ?_
    refine J_cNpL (As := [vL p1, vL r1]) G (mX8_divide u p1 r1 m4) sg_X8_divide ss_X8_divide (fun U h => h.2.2.2.1) ⟨by decide, by decide⟩ rfl rfl (Nat.le_of_ble_eq_true rfl) dX2_become_42 ?_
    intro r5
    refine J_lmul G dX2_become_45 ?_
    refine J_lmax G wm_X2_27 w_lmax1 w_math w_lmax2 ⟨by decide, Nat.le_of_ble_eq_true rfl⟩ dX2_become_46 ?_
    refine J_putL (i := 1) (k := 1) G cls_2 wf_X2_9 ha rfl rfl rfl rfl dX2_become_49 ?_
    refine J_ltM (fun m6 => ?_)
    exact J_vret G dX2_become_52 rfl
  · intro k20 hk20
    refine J_lcmp_ge 19 G dX2_become_9 dX2_become_10 (by decide) ?_ ?_
    · refine J_lconst (v := 1) G dX2_become_19 (by decide) ?_
      refine J_lv [1, 2, 3, 0] rfl ?_
      exact hk20 1
    · refine J_ldc2 (v := (-1)) G dX2_become_13 wc_X2_19 (by decide) ?_
      refine J_goto 20 G dX2_become_16 (by decide) ?_
      refine J_lv [1, 2, 3, 0] rfl ?_
      exact hk20 (-1)
theorem mX2_told (u : jU) (a : Nat) (ha : kd a = 2) (p0 : Int) (mem : Mem) : jMet u yX2_told cX2_told 2 (some .long) (jRm 0 0) [vR (uB u) a, vI p0] mem (EpL mem) (Frac_told a p0 mem) := by
  refine jMet_of (by decide +kernel) (Nat.le_of_ble_eq_true rfl) (fun x G => ?_)
  show J u x 2 (jQ u x (EpL mem)) 0 [(0, vR (uB u) a), (1, vI p0)] [] mem _
  unfold Frac_told
  refine J_iload_n G 1 dX2_told_0 rfl ?_
  refine J_if_ne 11 G dX2_told_1 (by decide) ?_ ?_
  · refine J_aload_n G 0 dX2_told_11 rfl ?_
    refine J_getL (i := 1) (k := 1) G cls_2 wf_X2_9 ha rfl rfl dX2_told_12 ?_
    exact J_lret G dX2_told_15 rfl
  · refine J_aload_n G 0 dX2_told_4 rfl ?_
    refine J_getL (i := 0) (k := 0) G cls_2 wf_X2_24 ha rfl rfl dX2_told_5 ?_
    refine J_goto 15 G dX2_told_8 (by decide) ?_
    exact J_lret G dX2_told_15 rfl
theorem mX8_inLowest (u : jU) (p0 : Int) (p1 : Int) (p2 : Int) (mem : Mem) : jMet u yX8_inLowest cX8_inLowest 6 (some .long) (jRm 3 81) [vR (uB u) 0, vL p0, vL p1, vI p2] mem EwL (BP_inLowest p0 p1 p2 mem) := by
  refine jMet_of (by decide +kernel) (Nat.le_of_ble_eq_true rfl) (fun x G => ?_)
  show J u x 6 (jQ u x EwL) 0 [(0, vR (uB u) 0), (1, vL p0), (3, vL p1), (5, vI p2)] [] mem _
  unfold BP_inLowest
  refine J_aload_n G 0 dX8_inLowest_0 rfl ?_
  refine J_getR (d := 129) (k := 5) G cls_8 wf_X8_38 kd_0 rfl rfl dX8_inLowest_1 ?_
  refine J_lload_n G 1 dX8_inLowest_4 rfl ?_
  refine J_lload_n G 2 dX8_inLowest_5 rfl ?_
  refine J_cVwV (As := [vL p0, vL p1]) G (mX2_become u 129 kd_129 p0 p1 mem) sg_X2_become sv_X2_become wm_X8_341 cls_2 kd_129 rfl ⟨by decide, by decide⟩ rfl rfl (Nat.le_of_ble_eq_true rfl) dX8_inLowest_6 ?_
  intro m1
  refine J_aload_n G 0 dX8_inLowest_9 rfl ?_
  refine J_getR (d := 129) (k := 5) G cls_8 wf_X8_38 kd_0 rfl rfl dX8_inLowest_10 ?_
  refine J_iload G 3 dX8_inLowest_13 rfl ?_
  refine J_cVpL (As := [vI p2]) G (mX2_told u 129 kd_129 p2 m1) sg_X2_told sv_X2_told wm_X8_205 cls_2 kd_129 rfl ⟨by decide, by decide⟩ rfl rfl (Nat.le_of_ble_eq_true rfl) dX8_inLowest_15 ?_
  intro r2
  exact J_lret G dX8_inLowest_18 rfl
theorem mX8_reaction (u : jU) (p0 : Int) (p1 : Int) (mem : Mem) : jMet u yX8_reaction cX8_reaction 3 (some .long) (jRm 6 148) [vR (uB u) 0, vI p0, vI p1] mem EwL (BP_reaction p0 p1 mem) := by
  refine jMet_of (by decide +kernel) (Nat.le_of_ble_eq_true rfl) (fun x G => ?_)
  show J u x 3 (jQ u x EwL) 0 [(0, vR (uB u) 0), (1, vI p0), (2, vI p1)] [] mem _
  unfold BP_reaction
  refine J_aload_n G 0 dX8_reaction_0 rfl ?_
  refine J_getR (d := 1) (k := 0) G cls_8 wf_X8_14 kd_0 rfl rfl dX8_reaction_1 ?_
  refine J_cVpI (As := []) G (mX0_stands u 1 kd_1 mem) sg_X0_stands sv_X0_stands wm_X8_171 cls_0 kd_1 rfl ⟨by decide, by decide⟩ rfl rfl (Nat.le_of_ble_eq_true rfl) dX8_reaction_4 ?_
  intro r1
  refine J_if_eq 28 G dX8_reaction_7 (by decide) ?_ ?_
  · refine J_ldc2 (v := (-9223372036854775808)) G dX8_reaction_28 wc_X8_178 (by decide) ?_
    exact J_lret G dX8_reaction_31 rfl
  · refine J_aload_n G 0 dX8_reaction_10 rfl ?_
    refine J_getR (d := 1) (k := 0) G cls_8 wf_X8_14 kd_0 rfl rfl dX8_reaction_11 ?_
    refine J_iload_n G 1 dX8_reaction_14 rfl ?_
    refine J_cVpI (As := [vI p0]) G (mX0_isSupport u 1 kd_1 p0 mem) sg_X0_isSupport sv_X0_isSupport wm_X8_147 cls_0 kd_1 rfl ⟨by decide, by decide⟩ rfl rfl (Nat.le_of_ble_eq_true rfl) dX8_reaction_15 ?_
    intro r2
    refine J_if_eq 28 G dX8_reaction_18 (by decide) ?_ ?_
    · refine J_ldc2 (v := (-9223372036854775808)) G dX8_reaction_28 wc_X8_178 (by decide) ?_
      exact J_lret G dX8_reaction_31 rfl
    · refine J_iload_n G 2 dX8_reaction_21 rfl ?_
      refine J_cSpI (As := [vI p1]) G (mX8_isPart u p1 mem) sg_X8_isPart ss_X8_isPart wm_X8_175 ⟨by decide, by decide⟩ rfl rfl (Nat.le_of_ble_eq_true rfl) dX8_reaction_22 ?_
      intro r3
      refine J_if_ne 32 G dX8_reaction_25 (by decide) ?_ ?_
      · refine J_aload_n G 0 dX8_reaction_32 rfl ?_
        refine J_cVwV (As := []) G (mX8_solveAsItIs u mem) sg_X8_solveAsItIs sv_X8_solveAsItIs wm_X8_180 cls_8 kd_0 rfl ⟨by decide, by decide⟩ rfl rfl (Nat.le_of_ble_eq_true rfl) dX8_reaction_33 ?_
        intro m4
        refine J_aload_n G 0 dX8_reaction_36 rfl ?_
        refine J_aload_n G 0 dX8_reaction_37 rfl ?_
        refine J_getR (d := 111) (k := 4) G cls_8 wf_X8_31 kd_0 rfl rfl dX8_reaction_38 ?_
        refine J_getR (d := 116) (k := 7) G cls_7 wf_X8_183 kd_111 rfl rfl dX8_reaction_41 ?_
        refine J_iload_n G 1 dX8_reaction_44 rfl ?_
        refine J_lald G kd_116 ln_116 dX8_reaction_45 ?_
        refine J_aload_n G 0 dX8_reaction_46 rfl ?_
        refine J_getR (d := 111) (k := 4) G cls_8 wf_X8_31 kd_0 rfl rfl dX8_reaction_47 ?_
        refine J_getL (i := 6) (k := 6) G cls_7 wf_X8_187 kd_111 rfl rfl dX8_reaction_50 ?_
        refine J_iload_n G 2 dX8_reaction_53 rfl ?_
        refine J_cVwL (As := [vL (m4 116 (s32 p0)), vL (m4 111 6), vI p1]) G (mX8_inLowest u (m4 116 (s32 p0)) (m4 111 6) p1 m4) sg_X8_inLowest sv_X8_inLowest wm_X8_191 cls_8 kd_0 rfl ⟨by decide, by decide⟩ rfl rfl (Nat.le_of_ble_eq_true rfl) dX8_reaction_54 ?_
        intro r5 m6
        exact J_lret G dX8_reaction_57 rfl
      · refine J_ldc2 (v := (-9223372036854775808)) G dX8_reaction_28 wc_X8_178 (by decide) ?_
        exact J_lret G dX8_reaction_31 rfl
theorem mX8_shear (u : jU) (p0 : Int) (p1 : Int) (mem : Mem) : jMet u yX8_shear cX8_shear 3 (some .long) (jRm 6 148) [vR (uB u) 0, vI p0, vI p1] mem EwL (BP_shear p0 p1 mem) := by
  refine jMet_of (by decide +kernel) (Nat.le_of_ble_eq_true rfl) (fun x G => ?_)
  show J u x 3 (jQ u x EwL) 0 [(0, vR (uB u) 0), (1, vI p0), (2, vI p1)] [] mem _
  unfold BP_shear
  refine J_aload_n G 0 dX8_shear_0 rfl ?_
  refine J_getR (d := 1) (k := 0) G cls_8 wf_X8_14 kd_0 rfl rfl dX8_shear_1 ?_
  refine J_cVpI (As := []) G (mX0_stands u 1 kd_1 mem) sg_X0_stands sv_X0_stands wm_X8_171 cls_0 kd_1 rfl ⟨by decide, by decide⟩ rfl rfl (Nat.le_of_ble_eq_true rfl) dX8_shear_4 ?_
  intro r1
  refine J_if_eq 28 G dX8_shear_7 (by decide) ?_ ?_
  · refine J_ldc2 (v := (-9223372036854775808)) G dX8_shear_28 wc_X8_178 (by decide) ?_
    exact J_lret G dX8_shear_31 rfl
  · refine J_aload_n G 0 dX8_shear_10 rfl ?_
    refine J_getR (d := 1) (k := 0) G cls_8 wf_X8_14 kd_0 rfl rfl dX8_shear_11 ?_
    refine J_iload_n G 1 dX8_shear_14 rfl ?_
    refine J_cVpI (As := [vI p0]) G (mX0_isPlace u 1 kd_1 p0 mem) sg_X0_isPlace sv_X0_isPlace wm_X8_195 cls_0 kd_1 rfl ⟨by decide, by decide⟩ rfl rfl (Nat.le_of_ble_eq_true rfl) dX8_shear_15 ?_
    intro r2
    refine J_if_eq 28 G dX8_shear_18 (by decide) ?_ ?_
    · refine J_ldc2 (v := (-9223372036854775808)) G dX8_shear_28 wc_X8_178 (by decide) ?_
      exact J_lret G dX8_shear_31 rfl
    · refine J_iload_n G 2 dX8_shear_21 rfl ?_
      refine J_cSpI (As := [vI p1]) G (mX8_isPart u p1 mem) sg_X8_isPart ss_X8_isPart wm_X8_175 ⟨by decide, by decide⟩ rfl rfl (Nat.le_of_ble_eq_true rfl) dX8_shear_22 ?_
      intro r3
      refine J_if_ne 32 G dX8_shear_25 (by decide) ?_ ?_
      · refine J_aload_n G 0 dX8_shear_32 rfl ?_
        refine J_cVwV (As := []) G (mX8_solveAsItIs u mem) sg_X8_solveAsItIs sv_X8_solveAsItIs wm_X8_180 cls_8 kd_0 rfl ⟨by decide, by decide⟩ rfl rfl (Nat.le_of_ble_eq_true rfl) dX8_shear_33 ?_
        intro m4
        refine J_aload_n G 0 dX8_shear_36 rfl ?_
        refine J_aload_n G 0 dX8_shear_37 rfl ?_
        refine J_getR (d := 111) (k := 4) G cls_8 wf_X8_31 kd_0 rfl rfl dX8_shear_38 ?_
        refine J_getR (d := 117) (k := 8) G cls_7 wf_X8_198 kd_111 rfl rfl dX8_shear_41 ?_
        refine J_iload_n G 1 dX8_shear_44 rfl ?_
        refine J_lald G kd_117 ln_117 dX8_shear_45 ?_
        refine J_aload_n G 0 dX8_shear_46 rfl ?_
        refine J_getR (d := 111) (k := 4) G cls_8 wf_X8_31 kd_0 rfl rfl dX8_shear_47 ?_
        refine J_getL (i := 6) (k := 6) G cls_7 wf_X8_187 kd_111 rfl rfl dX8_shear_50 ?_
        refine J_iload_n G 2 dX8_shear_53 rfl ?_
        refine J_cVwL (As := [vL (m4 117 (s32 p0)), vL (m4 111 6), vI p1]) G (mX8_inLowest u (m4 117 (s32 p0)) (m4 111 6) p1 m4) sg_X8_inLowest sv_X8_inLowest wm_X8_191 cls_8 kd_0 rfl ⟨by decide, by decide⟩ rfl rfl (Nat.le_of_ble_eq_true rfl) dX8_shear_54 ?_
        intro r5 m6
        exact J_lret G dX8_shear_57 rfl
      · refine J_ldc2 (v := (-9223372036854775808)) G dX8_shear_28 wc_X8_178 (by decide) ?_
        exact J_lret G dX8_shear_31 rfl
theorem mX7_bendBetween (u : jU) (p0 : Int) (p1 : Int) (mem : Mem) : jMet u yX7_bendBetween cX7_bendBetween 11 none (jRm 3 81) [vR (uB u) 111, vL p0, vL p1, vR (uB u) 129] mem EwV (Sta_bendBetween p0 p1 mem) := by
  refine jMet_of (by decide +kernel) (Nat.le_of_ble_eq_true rfl) (fun x G => ?_)
  show J u x 11 (jQ u x EwV) 0 [(0, vR (uB u) 111), (1, vL p0), (3, vL p1), (5, vR (uB u) 129)] [] mem _
  unfold Sta_bendBetween
  refine J_lload_n G 1 dX7_bendBetween_0 rfl ?_
  refine J_lload_n G 2 dX7_bendBetween_1 rfl ?_
  refine J_cNpL (As := [vL p0, vL p1]) G (mX8_divide u p0 p1 mem) sg_X8_divide ss_X8_divide (fun U h => h.2.1) ⟨by decide, by decide⟩ rfl rfl (Nat.le_of_ble_eq_true rfl) dX7_bendBetween_2 ?_
  intro r1
  refine J_aload_n G 0 dX7_bendBetween_5 rfl ?_
  refine J_getI (i := 0) (k := 0) G cls_7 wf_X7_78 kd_111 rfl rfl dX7_bendBetween_6 ?_
  refine J_i2l G dX7_bendBetween_9 ?_
  refine J_lmin G wm_X7_172 w_lmin1 w_math w_lmin2 ⟨by decide, Nat.le_of_ble_eq_true rfl⟩ dX7_bendBetween_10 ?_
  refine J_l2i G dX7_bendBetween_13 ?_
  refine J_ltI (fun x2 => ?_)
  refine J_istore (lv' := [(6, vI x2), (0, vR (uB u) 111), (1, vL p0), (3, vL p1), (5, vR (uB u) 129)]) G dX7_bendBetween_14 (by decide) rfl ?_
  refine J_lload_n G 2 dX7_bendBetween_16 rfl ?_
  refine J_iload G 0 dX7_bendBetween_17 rfl ?_
  refine J_i2l G dX7_bendBetween_19 ?_
  refine J_lload_n G 3 dX7_bendBetween_20 rfl ?_
  refine J_lmul G dX7_bendBetween_21 ?_
  refine J_lsub G dX7_bendBetween_22 ?_
  refine J_ltL (fun x3 => ?_)
  refine J_lstore (lv' := [(7, vL x3), (6, vI x2), (0, vR (uB u) 111), (1, vL p0), (3, vL p1), (5, vR (uB u) 129)]) G dX7_bendBetween_23 (by decide) rfl ?_
  refine J_ldc2 (v := 2) G dX7_bendBetween_25 wc_X7_133 (by decide) ?_
  refine J_lload_n G 4 dX7_bendBetween_28 rfl ?_
  refine J_lmul G dX7_bendBetween_29 ?_
  refine J_lload_n G 4 dX7_bendBetween_30 rfl ?_
  refine J_lmul G dX7_bendBetween_31 ?_
  refine J_aload_n G 2 dX7_bendBetween_32 rfl ?_
  refine J_getR (d := 118) (k := 9) G cls_7 wf_X7_35 kd_111 rfl rfl dX7_bendBetween_33 ?_
  refine J_iload G 1 dX7_bendBetween_36 rfl ?_
  refine J_lald G kd_118 ln_118 dX7_bendBetween_38 ?_
  refine J_lmul G dX7_bendBetween_39 ?_
  refine J_ldc2 (v := 2) G dX7_bendBetween_40 wc_X7_133 (by decide) ?_
  refine J_lload_n G 4 dX7_bendBetween_43 rfl ?_
  refine J_lmul G dX7_bendBetween_44 ?_
  refine J_lload G 0 dX7_bendBetween_45 rfl ?_
  refine J_lmul G dX7_bendBetween_47 ?_
  refine J_aload_n G 2 dX7_bendBetween_48 rfl ?_
  refine J_getR (d := 117) (k := 8) G cls_7 wf_X7_32 kd_111 rfl rfl dX7_bendBetween_49 ?_
  refine J_iload G 1 dX7_bendBetween_52 rfl ?_
  refine J_lald G kd_117 ln_117 dX7_bendBetween_54 ?_
  refine J_lmul G dX7_bendBetween_55 ?_
  refine J_ladd G dX7_bendBetween_56 ?_
  refine J_lload G 0 dX7_bendBetween_57 rfl ?_
  refine J_lload G 0 dX7_bendBetween_59 rfl ?_
  refine J_lmul G dX7_bendBetween_61 ?_
  refine J_aload_n G 2 dX7_bendBetween_62 rfl ?_
  refine J_getR (d := 115) (k := 5) G cls_7 wf_X7_22 kd_111 rfl rfl dX7_bendBetween_63 ?_
  refine J_iload G 1 dX7_bendBetween_66 rfl ?_
  refine J_lald G kd_115 ln_115 dX7_bendBetween_68 ?_
  refine J_lmul G dX7_bendBetween_69 ?_
  refine J_aload_n G 2 dX7_bendBetween_70 rfl ?_
  refine J_getL (i := 6) (k := 6) G cls_7 wf_X7_25 kd_111 rfl rfl dX7_bendBetween_71 ?_
  refine J_lmul G dX7_bendBetween_74 ?_
  refine J_lsub G dX7_bendBetween_75 ?_
  refine J_ltL (fun x4 => ?_)
  refine J_lstore (lv' := [(9, vL x4), (7, vL x3), (6, vI x2), (0, vR (uB u) 111), (1, vL p0), (3, vL p1), (5, vR (uB u) 129)]) G dX7_bendBetween_76 (by decide) rfl ?_
  refine J_aload G 6 dX7_bendBetween_78 rfl ?_
  refine J_lload G 0 dX7_bendBetween_80 rfl ?_
  refine J_ldc2 (v := 2) G dX7_bendBetween_82 wc_X7_133 (by decide) ?_
  refine J_lload_n G 5 dX7_bendBetween_85 rfl ?_
  refine J_lmul G dX7_bendBetween_86 ?_
  refine J_lload_n G 5 dX7_bendBetween_87 rfl ?_
  refine J_lmul G dX7_bendBetween_88 ?_
  refine J_aload_n G 3 dX7_bendBetween_89 rfl ?_
  refine J_getL (i := 6) (k := 6) G cls_7 wf_X7_25 kd_111 rfl rfl dX7_bendBetween_90 ?_
  refine J_lmul G dX7_bendBetween_93 ?_
  refine J_cVwV (As := [vL x4, vL (((2 * p1) * p1) * (mem 111 6))]) G (mX2_become u 129 kd_129 x4 (((2 * p1) * p1) * (mem 111 6)) mem) sg_X2_become sv_X2_become wm_X7_177 cls_2 kd_129 rfl ⟨by decide, by decide⟩ rfl rfl (Nat.le_of_ble_eq_true rfl) dX7_bendBetween_94 ?_
  intro m5
  exact J_vret G dX7_bendBetween_97 rfl
theorem mX8_moment (u : jU) (p0 : Int) (p1 : Int) (p2 : Int) (mem : Mem) : jMet u yX8_moment cX8_moment 4 (some .long) (jRm 6 148) [vR (uB u) 0, vI p0, vI p1, vI p2] mem EwL (BP_moment p0 p1 p2 mem) := by
  refine jMet_of (by decide +kernel) (Nat.le_of_ble_eq_true rfl) (fun x G => ?_)
  show J u x 4 (jQ u x EwL) 0 [(0, vR (uB u) 0), (1, vI p0), (2, vI p1), (3, vI p2)] [] mem _
  unfold BP_moment
  refine J_aload_n G 0 dX8_moment_0 rfl ?_
  refine J_getR (d := 1) (k := 0) G cls_8 wf_X8_14 kd_0 rfl rfl dX8_moment_1 ?_
  refine J_cVpI (As := []) G (mX0_stands u 1 kd_1 mem) sg_X0_stands sv_X0_stands wm_X8_171 cls_0 kd_1 rfl ⟨by decide, by decide⟩ rfl rfl (Nat.le_of_ble_eq_true rfl) dX8_moment_4 ?_
  intro r1
  refine J_if_eq 28 G dX8_moment_7 (by decide) ?_ ?_
  · refine J_ldc2 (v := (-9223372036854775808)) G dX8_moment_28 wc_X8_178 (by decide) ?_
    exact J_lret G dX8_moment_31 rfl
  · refine J_iload_n G 3 dX8_moment_10 rfl ?_
    refine J_cSpI (As := [vI p2]) G (mX8_isPart u p2 mem) sg_X8_isPart ss_X8_isPart wm_X8_175 ⟨by decide, by decide⟩ rfl rfl (Nat.le_of_ble_eq_true rfl) dX8_moment_11 ?_
    intro r2
    refine J_if_eq 28 G dX8_moment_14 (by decide) ?_ ?_
    · refine J_ldc2 (v := (-9223372036854775808)) G dX8_moment_28 wc_X8_178 (by decide) ?_
      exact J_lret G dX8_moment_31 rfl
    · refine J_iload_n G 2 dX8_moment_17 rfl ?_
      refine J_iconst G dX8_moment_18 ?_
      refine J_icmp_lt 28 G dX8_moment_19 (by decide) ?_ ?_
      · refine J_ldc2 (v := (-9223372036854775808)) G dX8_moment_28 wc_X8_178 (by decide) ?_
        exact J_lret G dX8_moment_31 rfl
      · refine J_iload_n G 2 dX8_moment_22 rfl ?_
        refine J_bipush G dX8_moment_23 (by decide) ?_
        refine J_icmp_le 32 G dX8_moment_25 (by decide) ?_ ?_
        · refine J_iload_n G 1 dX8_moment_32 rfl ?_
          refine J_if_lt 49 G dX8_moment_33 (by decide) ?_ ?_
          · refine J_ldc2 (v := (-9223372036854775808)) G dX8_moment_49 wc_X8_178 (by decide) ?_
            exact J_lret G dX8_moment_52 rfl
          · refine J_iload_n G 1 dX8_moment_36 rfl ?_
            refine J_iload_n G 2 dX8_moment_37 rfl ?_
            refine J_aload_n G 0 dX8_moment_38 rfl ?_
            refine J_getR (d := 1) (k := 0) G cls_8 wf_X8_14 kd_0 rfl rfl dX8_moment_39 ?_
            refine J_getI (i := 0) (k := 0) G cls_0 wf_X8_70 kd_1 rfl rfl dX8_moment_42 ?_
            refine J_imul G dX8_moment_45 ?_
            refine J_icmp_le 53 G dX8_moment_46 (by decide) ?_ ?_
            · refine J_aload_n G 0 dX8_moment_53 rfl ?_
              refine J_cVwV (As := []) G (mX8_solveAsItIs u mem) sg_X8_solveAsItIs sv_X8_solveAsItIs wm_X8_180 cls_8 kd_0 rfl ⟨by decide, by decide⟩ rfl rfl (Nat.le_of_ble_eq_true rfl) dX8_moment_54 ?_
              intro m3
              refine J_aload_n G 0 dX8_moment_57 rfl ?_
              refine J_getR (d := 111) (k := 4) G cls_8 wf_X8_31 kd_0 rfl rfl dX8_moment_58 ?_
              refine J_iload_n G 1 dX8_moment_61 rfl ?_
              refine J_i2l G dX8_moment_62 ?_
              refine J_iload_n G 2 dX8_moment_63 rfl ?_
              refine J_i2l G dX8_moment_64 ?_
              refine J_aload_n G 0 dX8_moment_65 rfl ?_
              refine J_getR (d := 129) (k := 5) G cls_8 wf_X8_38 kd_0 rfl rfl dX8_moment_66 ?_
              refine J_cVwV (As := [vL (s32 p0), vL (s32 p1), vR (uB u) 129]) G (mX7_bendBetween u (s32 p0) (s32 p1) m3) sg_X7_bendBetween sv_X7_bendBetween wm_X8_201 cls_7 kd_111 rfl ⟨by decide, by decide⟩ rfl rfl (Nat.le_of_ble_eq_true rfl) dX8_moment_69 ?_
              intro m4
              refine J_aload_n G 0 dX8_moment_72 rfl ?_
              refine J_getR (d := 129) (k := 5) G cls_8 wf_X8_38 kd_0 rfl rfl dX8_moment_73 ?_
              refine J_iload_n G 3 dX8_moment_76 rfl ?_
              refine J_cVpL (As := [vI p2]) G (mX2_told u 129 kd_129 p2 m4) sg_X2_told sv_X2_told wm_X8_205 cls_2 kd_129 rfl ⟨by decide, by decide⟩ rfl rfl (Nat.le_of_ble_eq_true rfl) dX8_moment_77 ?_
              intro r5
              exact J_lret G dX8_moment_80 rfl
            · refine J_ldc2 (v := (-9223372036854775808)) G dX8_moment_49 wc_X8_178 (by decide) ?_
              exact J_lret G dX8_moment_52 rfl
        · refine J_ldc2 (v := (-9223372036854775808)) G dX8_moment_28 wc_X8_178 (by decide) ?_
          exact J_lret G dX8_moment_31 rfl
theorem mX7_rise (u : jU) (p0 : Int) (mem : Mem) : jMet u yX7_rise cX7_rise 2 (some .long) (jRm 0 0) [vR (uB u) 111, vI p0] mem (EpL mem) (Sta_rise p0 mem) := by
  refine jMet_of (by decide +kernel) (Nat.le_of_ble_eq_true rfl) (fun x G => ?_)
  show J u x 2 (jQ u x (EpL mem)) 0 [(0, vR (uB u) 111), (1, vI p0)] [] mem _
  unfold Sta_rise
  refine J_ldc2 (v := 12) G dX7_rise_0 wc_X7_229 (by decide) ?_
  refine J_aload_n G 0 dX7_rise_3 rfl ?_
  refine J_getR (d := 118) (k := 9) G cls_7 wf_X7_35 kd_111 rfl rfl dX7_rise_4 ?_
  refine J_iload_n G 1 dX7_rise_7 rfl ?_
  refine J_lald G kd_118 ln_118 dX7_rise_8 ?_
  refine J_lmul G dX7_rise_9 ?_
  refine J_ldc2 (v := 4) G dX7_rise_10 wc_X7_148 (by decide) ?_
  refine J_aload_n G 0 dX7_rise_13 rfl ?_
  refine J_getR (d := 117) (k := 8) G cls_7 wf_X7_32 kd_111 rfl rfl dX7_rise_14 ?_
  refine J_iload_n G 1 dX7_rise_17 rfl ?_
  refine J_lald G kd_117 ln_117 dX7_rise_18 ?_
  refine J_lmul G dX7_rise_19 ?_
  refine J_ladd G dX7_rise_20 ?_
  refine J_aload_n G 0 dX7_rise_21 rfl ?_
  refine J_getR (d := 115) (k := 5) G cls_7 wf_X7_22 kd_111 rfl rfl dX7_rise_22 ?_
  refine J_iload_n G 1 dX7_rise_25 rfl ?_
  refine J_lald G kd_115 ln_115 dX7_rise_26 ?_
  refine J_aload_n G 0 dX7_rise_27 rfl ?_
  refine J_getL (i := 6) (k := 6) G cls_7 wf_X7_25 kd_111 rfl rfl dX7_rise_28 ?_
  refine J_lmul G dX7_rise_31 ?_
  refine J_lsub G dX7_rise_32 ?_
  exact J_lret G dX7_rise_33 rfl
theorem mX7_bending (u : jU) (p0 : Int) (mem : Mem) : jMet u yX7_bending cX7_bending 2 (some .long) (jRm 0 0) [vR (uB u) 111, vI p0] mem (EpL mem) (Sta_bending p0 mem) := by
  refine jMet_of (by decide +kernel) (Nat.le_of_ble_eq_true rfl) (fun x G => ?_)
  show J u x 2 (jQ u x (EpL mem)) 0 [(0, vR (uB u) 111), (1, vI p0)] [] mem _
  unfold Sta_bending
  refine J_ldc2 (v := 24) G dX7_bending_0 wc_X7_211 (by decide) ?_
  refine J_aload_n G 0 dX7_bending_3 rfl ?_
  refine J_getR (d := 118) (k := 9) G cls_7 wf_X7_35 kd_111 rfl rfl dX7_bending_4 ?_
  refine J_iload_n G 1 dX7_bending_7 rfl ?_
  refine J_lald G kd_118 ln_118 dX7_bending_8 ?_
  refine J_lmul G dX7_bending_9 ?_
  refine J_ldc2 (v := 12) G dX7_bending_10 wc_X7_229 (by decide) ?_
  refine J_aload_n G 0 dX7_bending_13 rfl ?_
  refine J_getR (d := 117) (k := 8) G cls_7 wf_X7_32 kd_111 rfl rfl dX7_bending_14 ?_
  refine J_iload_n G 1 dX7_bending_17 rfl ?_
  refine J_lald G kd_117 ln_117 dX7_bending_18 ?_
  refine J_lmul G dX7_bending_19 ?_
  refine J_ladd G dX7_bending_20 ?_
  refine J_ldc2 (v := 4) G dX7_bending_21 wc_X7_148 (by decide) ?_
  refine J_aload_n G 0 dX7_bending_24 rfl ?_
  refine J_getR (d := 115) (k := 5) G cls_7 wf_X7_22 kd_111 rfl rfl dX7_bending_25 ?_
  refine J_iload_n G 1 dX7_bending_28 rfl ?_
  refine J_lald G kd_115 ln_115 dX7_bending_29 ?_
  refine J_lmul G dX7_bending_30 ?_
  refine J_aload_n G 0 dX7_bending_31 rfl ?_
  refine J_getL (i := 6) (k := 6) G cls_7 wf_X7_25 kd_111 rfl rfl dX7_bending_32 ?_
  refine J_lmul G dX7_bending_35 ?_
  refine J_lsub G dX7_bending_36 ?_
  exact J_lret G dX7_bending_37 rfl
theorem jSta_sagOfSpan_L112 {u : jU} {x : jX} (G : jG u x cX7_sagOfSpan RX7 7 (some .long) (jRm 1 23)) (p0 : Int) (x6 : Int) : ∀ (n : Nat) (i8 : Int) (m9 : Mem), J u x 7 (jQ u x EwL) 112 [(0, vR (uB u) 111), (1, vI p0), (4, vL x6), (6, vI i8)] [] m9 (Sta_sagOfSpan_L112 p0 x6 n i8 m9) := by
  intro n
  induction n with
  | zero => intro i8 m9; exact J_none
  | succ n ih =>
    intro i8 m9
    rw [Sta_sagOfSpan_L112]
    refine J_iload G 3 dX7_sagOfSpan_112 rfl ?_
    refine J_aload_n G 0 dX7_sagOfSpan_114 rfl ?_
    refine J_getR (d := 112) (k := 2) G cls_7 wf_X7_9 kd_111 rfl rfl dX7_sagOfSpan_115 ?_
    refine J_iload_n G 1 dX7_sagOfSpan_118 rfl ?_
    refine J_iconst G dX7_sagOfSpan_119 ?_
    refine J_iadd G dX7_sagOfSpan_120 ?_
    refine J_iald G kd_112 ln_112 dX7_sagOfSpan_121 ?_
    refine J_icmp_gt 164 G dX7_sagOfSpan_122 (by decide) ?_ ?_
    · refine J_lload G 2 dX7_sagOfSpan_164 rfl ?_
      exact J_lret G dX7_sagOfSpan_166 rfl
    · refine J_aload_n G 0 dX7_sagOfSpan_125 rfl ?_
      refine J_getR (d := 119) (k := 11) G cls_7 wf_X7_41 kd_111 rfl rfl dX7_sagOfSpan_126 ?_
      refine J_iload G 3 dX7_sagOfSpan_129 rfl ?_
      refine J_aload_n G 0 dX7_sagOfSpan_131 rfl ?_
      refine J_getR (d := 119) (k := 11) G cls_7 wf_X7_41 kd_111 rfl rfl dX7_sagOfSpan_132 ?_
      refine J_iload G 3 dX7_sagOfSpan_135 rfl ?_
      refine J_lald G kd_119 ln_119 dX7_sagOfSpan_137 ?_
      refine J_aload_n G 0 dX7_sagOfSpan_138 rfl ?_
      refine J_getL (i := 14) (k := 14) G cls_7 wf_X7_56 kd_111 rfl rfl dX7_sagOfSpan_139 ?_
      refine J_lmul G dX7_sagOfSpan_142 ?_
      refine J_iload G 3 dX7_sagOfSpan_143 rfl ?_
      refine J_aload_n G 0 dX7_sagOfSpan_145 rfl ?_
      refine J_getR (d := 112) (k := 2) G cls_7 wf_X7_9 kd_111 rfl rfl dX7_sagOfSpan_146 ?_
      refine J_iload_n G 1 dX7_sagOfSpan_149 rfl ?_
      refine J_iald G kd_112 ln_112 dX7_sagOfSpan_150 ?_
      refine J_isub G dX7_sagOfSpan_151 ?_
      refine J_i2l G dX7_sagOfSpan_152 ?_
      refine J_lload G 2 dX7_sagOfSpan_153 rfl ?_
      refine J_lmul G dX7_sagOfSpan_155 ?_
      refine J_ladd G dX7_sagOfSpan_156 ?_
      refine J_last G kd_119 ln_119 dX7_sagOfSpan_157 ?_
      refine J_ltM (fun m10 => ?_)
      refine J_iinc (lv' := [(6, vI (i8 + 1)), (0, vR (uB u) 111), (1, vI p0), (4, vL x6)]) G 3 dX7_sagOfSpan_158 rfl (by decide) rfl ?_
      refine J_goto 112 G dX7_sagOfSpan_161 (by decide) ?_
      refine J_lv [1, 2, 3, 0] rfl ?_
      exact ih (i8 + 1) m10
theorem jSta_sagOfSpan_L22 {u : jU} {x : jX} (G : jG u x cX7_sagOfSpan RX7 7 (some .long) (jRm 1 23)) (p0 : Int) (k75 : Mem → Option (Int × Mem)) (hk75 : (fun g => ∀ m3, J u x 7 (jQ u x EwL) 75 [(0, vR (uB u) 111), (1, vI p0)] [] m3 (g m3)) k75) : ∀ (n : Nat) (i11 : Int) (i12 : Int) (m13 : Mem), J u x 7 (jQ u x EwL) 22 [(0, vR (uB u) 111), (1, vI p0), (2, vL i11), (4, vI i12)] [] m13 (Sta_sagOfSpan_L22 p0 k75 n i11 i12 m13) := by
  intro n
  induction n with
  | zero => intro i11 i12 m13; exact J_none
  | succ n ih =>
    intro i11 i12 m13
    rw [Sta_sagOfSpan_L22]
    refine J_iload G 3 dX7_sagOfSpan_22 rfl ?_
    refine J_aload_n G 0 dX7_sagOfSpan_24 rfl ?_
    refine J_getR (d := 112) (k := 2) G cls_7 wf_X7_9 kd_111 rfl rfl dX7_sagOfSpan_25 ?_
    refine J_iload_n G 1 dX7_sagOfSpan_28 rfl ?_
    refine J_iconst G dX7_sagOfSpan_29 ?_
    refine J_iadd G dX7_sagOfSpan_30 ?_
    refine J_iald G kd_112 ln_112 dX7_sagOfSpan_31 ?_
    refine J_icmp_ge 75 G dX7_sagOfSpan_32 (by decide) ?_ ?_
    · refine J_lv [0, 1] rfl ?_
      exact hk75 m13
    · refine J_aload_n G 0 dX7_sagOfSpan_35 rfl ?_
      refine J_getR (d := 119) (k := 11) G cls_7 wf_X7_41 kd_111 rfl rfl dX7_sagOfSpan_36 ?_
      refine J_iload G 3 dX7_sagOfSpan_39 rfl ?_
      refine J_iconst G dX7_sagOfSpan_41 ?_
      refine J_iadd G dX7_sagOfSpan_42 ?_
      refine J_aload_n G 0 dX7_sagOfSpan_43 rfl ?_
      refine J_getR (d := 119) (k := 11) G cls_7 wf_X7_41 kd_111 rfl rfl dX7_sagOfSpan_44 ?_
      refine J_iload G 3 dX7_sagOfSpan_47 rfl ?_
      refine J_lald G kd_119 ln_119 dX7_sagOfSpan_49 ?_
      refine J_lload_n G 2 dX7_sagOfSpan_50 rfl ?_
      refine J_ladd G dX7_sagOfSpan_51 ?_
      refine J_aload_n G 0 dX7_sagOfSpan_52 rfl ?_
      refine J_iload G 3 dX7_sagOfSpan_53 rfl ?_
      refine J_cVpL (As := [vI i12]) G (mX7_rise u i12 m13) sg_X7_rise sv_X7_rise wm_X7_223 cls_7 kd_111 rfl ⟨by decide, by decide⟩ rfl rfl (Nat.le_of_ble_eq_true rfl) dX7_sagOfSpan_55 ?_
      intro r14
      refine J_lsub G dX7_sagOfSpan_58 ?_
      refine J_last G kd_119 ln_119 dX7_sagOfSpan_59 ?_
      refine J_ltM (fun m15 => ?_)
      refine J_lload_n G 2 dX7_sagOfSpan_60 rfl ?_
      refine J_aload_n G 0 dX7_sagOfSpan_61 rfl ?_
      refine J_iload G 3 dX7_sagOfSpan_62 rfl ?_
      refine J_cVpL (As := [vI i12]) G (mX7_bending u i12 m15) sg_X7_bending sv_X7_bending wm_X7_226 cls_7 kd_111 rfl ⟨by decide, by decide⟩ rfl rfl (Nat.le_of_ble_eq_true rfl) dX7_sagOfSpan_64 ?_
      intro r16
      refine J_lsub G dX7_sagOfSpan_67 ?_
      refine J_ltL (fun x17 => ?_)
      refine J_lstore_n (lv' := [(2, vL x17), (0, vR (uB u) 111), (1, vI p0), (4, vI i12)]) G dX7_sagOfSpan_68 rfl (by decide) rfl ?_
      refine J_iinc (lv' := [(4, vI (i12 + 1)), (2, vL x17), (0, vR (uB u) 111), (1, vI p0)]) G 3 dX7_sagOfSpan_69 rfl (by decide) rfl ?_
      refine J_goto 22 G dX7_sagOfSpan_72 (by decide) ?_
      refine J_lv [2, 3, 1, 0] rfl ?_
      exact ih x17 (i12 + 1) m15
theorem mX7_sagOfSpan (u : jU) (p0 : Int) (mem : Mem) : jMet u yX7_sagOfSpan cX7_sagOfSpan 7 (some .long) (jRm 1 23) [vR (uB u) 111, vI p0] mem EwL (Sta_sagOfSpan p0 mem) := by
  refine jMet_of (by decide +kernel) (Nat.le_of_ble_eq_true rfl) (fun x G => ?_)
  show J u x 7 (jQ u x EwL) 0 [(0, vR (uB u) 111), (1, vI p0)] [] mem _
  unfold Sta_sagOfSpan
  refine J_aload_n G 0 dX7_sagOfSpan_0 rfl ?_
  refine J_getR (d := 119) (k := 11) G cls_7 wf_X7_41 kd_111 rfl rfl dX7_sagOfSpan_1 ?_
  refine J_aload_n G 0 dX7_sagOfSpan_4 rfl ?_
  refine J_getR (d := 112) (k := 2) G cls_7 wf_X7_9 kd_111 rfl rfl dX7_sagOfSpan_5 ?_
  refine J_iload_n G 1 dX7_sagOfSpan_8 rfl ?_
  refine J_iald G kd_112 ln_112 dX7_sagOfSpan_9 ?_
  refine J_lconst (v := 0) G dX7_sagOfSpan_10 (by decide) ?_
  refine J_last G kd_119 ln_119 dX7_sagOfSpan_11 ?_
  refine J_ltM (fun m1 => ?_)
  refine J_lconst (v := 0) G dX7_sagOfSpan_12 (by decide) ?_
  refine J_lstore_n (lv' := [(2, vL 0), (0, vR (uB u) 111), (1, vI p0)]) G dX7_sagOfSpan_13 rfl (by decide) rfl ?_
  refine J_aload_n G 1 dX7_sagOfSpan_14 rfl ?_
  refine J_getR (d := 112) (k := 2) G cls_7 wf_X7_9 kd_111 rfl rfl dX7_sagOfSpan_15 ?_
  refine J_iload_n G 2 dX7_sagOfSpan_18 rfl ?_
  refine J_iald G kd_112 ln_112 dX7_sagOfSpan_19 ?_
  refine J_ltI (fun x2 => ?_)
  refine J_istore (lv' := [(4, vI x2), (2, vL 0), (0, vR (uB u) 111), (1, vI p0)]) G dX7_sagOfSpan_20 (by decide) rfl ?_
  refine J_jn (fun g => ∀ m3, J u x 7 (jQ u x EwL) 75 [(0, vR (uB u) 111), (1, vI p0)] [] m3 (g m3)) ?_ ?_
  · intro m3
    refine J_aload_n G 0 dX7_sagOfSpan_75 rfl ?_
    refine J_getR (d := 119) (k := 11) G cls_7 wf_X7_41 kd_111 rfl rfl dX7_sagOfSpan_76 ?_
    refine J_aload_n G 0 dX7_sagOfSpan_79 rfl ?_
    refine J_getR (d := 112) (k := 2) G cls_7 wf_X7_9 kd_111 rfl rfl dX7_sagOfSpan_80 ?_
    refine J_iload_n G 1 dX7_sagOfSpan_83 rfl ?_
    refine J_iconst G dX7_sagOfSpan_84 ?_
    refine J_iadd G dX7_sagOfSpan_85 ?_
    refine J_iald G kd_112 ln_112 dX7_sagOfSpan_86 ?_
    refine J_lald G kd_119 ln_119 dX7_sagOfSpan_87 ?_
    refine J_lneg G dX7_sagOfSpan_88 ?_
    refine J_aload_n G 0 dX7_sagOfSpan_89 rfl ?_
    refine J_getL (i := 14) (k := 14) G cls_7 wf_X7_56 kd_111 rfl rfl dX7_sagOfSpan_90 ?_
    refine J_aload_n G 0 dX7_sagOfSpan_93 rfl ?_
    refine J_iload_n G 1 dX7_sagOfSpan_94 rfl ?_
    refine J_cVpL (As := [vI p0]) G (mX7_span u p0 m3) sg_X7_span sv_X7_span wm_X7_129 cls_7 kd_111 rfl ⟨by decide, by decide⟩ rfl rfl (Nat.le_of_ble_eq_true rfl) dX7_sagOfSpan_95 ?_
    intro r4
    refine J_cNpL (As := [vL (m3 111 14), vL r4]) G (mX8_divide u (m3 111 14) r4 m3) sg_X8_divide ss_X8_divide (fun U h => h.2.1) ⟨by decide, by decide⟩ rfl rfl (Nat.le_of_ble_eq_true rfl) dX7_sagOfSpan_98 ?_
    intro r5
    refine J_lmul G dX7_sagOfSpan_101 ?_
    refine J_ltL (fun x6 => ?_)
    refine J_lstore (lv' := [(4, vL x6), (0, vR (uB u) 111), (1, vI p0)]) G dX7_sagOfSpan_102 (by decide) rfl ?_
    refine J_aload_n G 1 dX7_sagOfSpan_104 rfl ?_
    refine J_getR (d := 112) (k := 2) G cls_7 wf_X7_9 kd_111 rfl rfl dX7_sagOfSpan_105 ?_
    refine J_iload_n G 2 dX7_sagOfSpan_108 rfl ?_
    refine J_iald G kd_112 ln_112 dX7_sagOfSpan_109 ?_
    refine J_ltI (fun x7 => ?_)
    refine J_istore (lv' := [(6, vI x7), (4, vL x6), (0, vR (uB u) 111), (1, vI p0)]) G dX7_sagOfSpan_110 (by decide) rfl ?_
    refine J_lv [2, 3, 1, 0] rfl ?_
    exact jSta_sagOfSpan_L112 G p0 x6 2000 x7 m3
  · intro k75 hk75
    refine J_lv [2, 3, 1, 0] rfl ?_
    exact jSta_sagOfSpan_L22 G p0 k75 hk75 2000 0 x2 m1
theorem jSta_sagAheadOfFirst_L12 {u : jU} {x : jX} (G : jG u x cX7_sagAheadOfFirst RX7 6 none (jRm 1 21)) : ∀ (n : Nat) (i2 : Int) (i3 : Int) (m4 : Mem), J u x 6 (jQ u x EwV) 12 [(0, vR (uB u) 111), (3, vL i2), (5, vI i3)] [] m4 (Sta_sagAheadOfFirst_L12 n i2 i3 m4) := by
  intro n
  induction n with
  | zero => intro i2 i3 m4; exact J_none
  | succ n ih =>
    intro i2 i3 m4
    rw [Sta_sagAheadOfFirst_L12]
    refine J_iload G 2 dX7_sagAheadOfFirst_12 rfl ?_
    refine J_if_lt 67 G dX7_sagAheadOfFirst_14 (by decide) ?_ ?_
    · exact J_vret G dX7_sagAheadOfFirst_67 rfl
    · refine J_lload_n G 1 dX7_sagAheadOfFirst_17 rfl ?_
      refine J_aload_n G 0 dX7_sagAheadOfFirst_18 rfl ?_
      refine J_iload G 2 dX7_sagAheadOfFirst_19 rfl ?_
      refine J_cVpL (As := [vI i3]) G (mX7_bending u i3 m4) sg_X7_bending sv_X7_bending wm_X7_226 cls_7 kd_111 rfl ⟨by decide, by decide⟩ rfl rfl (Nat.le_of_ble_eq_true rfl) dX7_sagAheadOfFirst_21 ?_
      intro r5
      refine J_aload_n G 0 dX7_sagAheadOfFirst_24 rfl ?_
      refine J_getL (i := 14) (k := 14) G cls_7 wf_X7_56 kd_111 rfl rfl dX7_sagAheadOfFirst_25 ?_
      refine J_lmul G dX7_sagAheadOfFirst_28 ?_
      refine J_ladd G dX7_sagAheadOfFirst_29 ?_
      refine J_ltL (fun x6 => ?_)
      refine J_lstore_n (lv' := [(3, vL x6), (0, vR (uB u) 111), (5, vI i3)]) G dX7_sagAheadOfFirst_30 rfl (by decide) rfl ?_
      refine J_aload_n G 1 dX7_sagAheadOfFirst_31 rfl ?_
      refine J_getR (d := 119) (k := 11) G cls_7 wf_X7_41 kd_111 rfl rfl dX7_sagAheadOfFirst_32 ?_
      refine J_iload G 2 dX7_sagAheadOfFirst_35 rfl ?_
      refine J_aload_n G 1 dX7_sagAheadOfFirst_37 rfl ?_
      refine J_getR (d := 119) (k := 11) G cls_7 wf_X7_41 kd_111 rfl rfl dX7_sagAheadOfFirst_38 ?_
      refine J_iload G 2 dX7_sagAheadOfFirst_41 rfl ?_
      refine J_iconst G dX7_sagAheadOfFirst_43 ?_
      refine J_iadd G dX7_sagAheadOfFirst_44 ?_
      refine J_lald G kd_119 ln_119 dX7_sagAheadOfFirst_45 ?_
      refine J_lload_n G 0 dX7_sagAheadOfFirst_46 rfl ?_
      refine J_lsub G dX7_sagAheadOfFirst_47 ?_
      refine J_aload_n G 1 dX7_sagAheadOfFirst_48 rfl ?_
      refine J_iload G 2 dX7_sagAheadOfFirst_49 rfl ?_
      refine J_cVpL (As := [vI i3]) G (mX7_rise u i3 m4) sg_X7_rise sv_X7_rise wm_X7_223 cls_7 kd_111 rfl ⟨by decide, by decide⟩ rfl rfl (Nat.le_of_ble_eq_true rfl) dX7_sagAheadOfFirst_51 ?_
      intro r7
      refine J_aload_n G 1 dX7_sagAheadOfFirst_54 rfl ?_
      refine J_getL (i := 14) (k := 14) G cls_7 wf_X7_56 kd_111 rfl rfl dX7_sagAheadOfFirst_55 ?_
      refine J_lmul G dX7_sagAheadOfFirst_58 ?_
      refine J_ladd G dX7_sagAheadOfFirst_59 ?_
      refine J_last G kd_119 ln_119 dX7_sagAheadOfFirst_60 ?_
      refine J_ltM (fun m8 => ?_)
      refine J_iinc (lv' := [(5, vI (i3 + -1)), (3, vL x6), (0, vR (uB u) 111)]) G 2 dX7_sagAheadOfFirst_61 rfl (by decide) rfl ?_
      refine J_goto 12 G dX7_sagAheadOfFirst_64 (by decide) ?_
      refine J_lv [2, 1, 0] rfl ?_
      exact ih x6 (i3 + -1) m8
theorem mX7_sagAheadOfFirst (u : jU) (p0 : Int) (mem : Mem) : jMet u yX7_sagAheadOfFirst cX7_sagAheadOfFirst 6 none (jRm 1 21) [vR (uB u) 111, vL p0] mem EwV (Sta_sagAheadOfFirst p0 mem) := by
  refine jMet_of (by decide +kernel) (Nat.le_of_ble_eq_true rfl) (fun x G => ?_)
  show J u x 6 (jQ u x EwV) 0 [(0, vR (uB u) 111), (1, vL p0)] [] mem _
  unfold Sta_sagAheadOfFirst
  refine J_lload_n G 1 dX7_sagAheadOfFirst_0 rfl ?_
  refine J_lstore_n (lv' := [(3, vL p0), (0, vR (uB u) 111), (1, vL p0)]) G dX7_sagAheadOfFirst_1 rfl (by decide) rfl ?_
  refine J_aload_n G 1 dX7_sagAheadOfFirst_2 rfl ?_
  refine J_getR (d := 112) (k := 2) G cls_7 wf_X7_9 kd_111 rfl rfl dX7_sagAheadOfFirst_3 ?_
  refine J_iconst G dX7_sagAheadOfFirst_6 ?_
  refine J_ialdC G kd_112 ln_112 (by decide) dX7_sagAheadOfFirst_7 ?_
  refine J_iconst G dX7_sagAheadOfFirst_8 ?_
  refine J_isub G dX7_sagAheadOfFirst_9 ?_
  refine J_ltI (fun x1 => ?_)
  refine J_istore (lv' := [(5, vI x1), (3, vL p0), (0, vR (uB u) 111), (1, vL p0)]) G dX7_sagAheadOfFirst_10 (by decide) rfl ?_
  refine J_lv [2, 1, 0] rfl ?_
  exact jSta_sagAheadOfFirst_L12 G 2000 p0 x1 mem
theorem jSta_sagBehindLast_L15 {u : jU} {x : jX} (G : jG u x cX7_sagBehindLast RX7 6 none (jRm 1 21)) : ∀ (n : Nat) (i2 : Int) (i3 : Int) (m4 : Mem), J u x 6 (jQ u x EwV) 15 [(0, vR (uB u) 111), (3, vL i2), (5, vI i3)] [] m4 (Sta_sagBehindLast_L15 n i2 i3 m4) := by
  intro n
  induction n with
  | zero => intro i2 i3 m4; exact J_none
  | succ n ih =>
    intro i2 i3 m4
    rw [Sta_sagBehindLast_L15]
    refine J_iload G 2 dX7_sagBehindLast_15 rfl ?_
    refine J_aload_n G 0 dX7_sagBehindLast_17 rfl ?_
    refine J_getI (i := 0) (k := 0) G cls_7 wf_X7_78 kd_111 rfl rfl dX7_sagBehindLast_18 ?_
    refine J_icmp_ge 90 G dX7_sagBehindLast_21 (by decide) ?_ ?_
    · exact J_vret G dX7_sagBehindLast_90 rfl
    · refine J_iload G 2 dX7_sagBehindLast_24 rfl ?_
      refine J_aload_n G 0 dX7_sagBehindLast_26 rfl ?_
      refine J_getR (d := 112) (k := 2) G cls_7 wf_X7_9 kd_111 rfl rfl dX7_sagBehindLast_27 ?_
      refine J_aload_n G 0 dX7_sagBehindLast_30 rfl ?_
      refine J_getI (i := 1) (k := 1) G cls_7 wf_X7_82 kd_111 rfl rfl dX7_sagBehindLast_31 ?_
      refine J_iconst G dX7_sagBehindLast_34 ?_
      refine J_isub G dX7_sagBehindLast_35 ?_
      refine J_iald G kd_112 ln_112 dX7_sagBehindLast_36 ?_
      refine J_jn (fun g => ∀ m5, J u x 6 (jQ u x EwV) 70 [(0, vR (uB u) 111), (3, vL i2), (5, vI i3)] [] m5 (g m5)) ?_ ?_
      · intro m5
        refine J_lload_n G 1 dX7_sagBehindLast_70 rfl ?_
        refine J_aload_n G 0 dX7_sagBehindLast_71 rfl ?_
        refine J_iload G 2 dX7_sagBehindLast_72 rfl ?_
        refine J_cVpL (As := [vI i3]) G (mX7_bending u i3 m5) sg_X7_bending sv_X7_bending wm_X7_226 cls_7 kd_111 rfl ⟨by decide, by decide⟩ rfl rfl (Nat.le_of_ble_eq_true rfl) dX7_sagBehindLast_74 ?_
        intro r6
        refine J_aload_n G 0 dX7_sagBehindLast_77 rfl ?_
        refine J_getL (i := 14) (k := 14) G cls_7 wf_X7_56 kd_111 rfl rfl dX7_sagBehindLast_78 ?_
        refine J_lmul G dX7_sagBehindLast_81 ?_
        refine J_lsub G dX7_sagBehindLast_82 ?_
        refine J_ltL (fun x7 => ?_)
        refine J_lstore_n (lv' := [(3, vL x7), (0, vR (uB u) 111), (5, vI i3)]) G dX7_sagBehindLast_83 rfl (by decide) rfl ?_
        refine J_iinc (lv' := [(5, vI (i3 + 1)), (3, vL x7), (0, vR (uB u) 111)]) G 2 dX7_sagBehindLast_84 rfl (by decide) rfl ?_
        refine J_goto 15 G dX7_sagBehindLast_87 (by decide) ?_
        refine J_lv [2, 1, 0] rfl ?_
        exact ih x7 (i3 + 1) m5
      · intro k70 hk70
        refine J_icmp_lt 70 G dX7_sagBehindLast_37 (by decide) ?_ ?_
        · exact hk70 m4
        · refine J_aload_n G 0 dX7_sagBehindLast_40 rfl ?_
          refine J_getR (d := 119) (k := 11) G cls_7 wf_X7_41 kd_111 rfl rfl dX7_sagBehindLast_41 ?_
          refine J_iload G 2 dX7_sagBehindLast_44 rfl ?_
          refine J_iconst G dX7_sagBehindLast_46 ?_
          refine J_iadd G dX7_sagBehindLast_47 ?_
          refine J_aload_n G 0 dX7_sagBehindLast_48 rfl ?_
          refine J_getR (d := 119) (k := 11) G cls_7 wf_X7_41 kd_111 rfl rfl dX7_sagBehindLast_49 ?_
          refine J_iload G 2 dX7_sagBehindLast_52 rfl ?_
          refine J_lald G kd_119 ln_119 dX7_sagBehindLast_54 ?_
          refine J_lload_n G 1 dX7_sagBehindLast_55 rfl ?_
          refine J_ladd G dX7_sagBehindLast_56 ?_
          refine J_aload_n G 0 dX7_sagBehindLast_57 rfl ?_
          refine J_iload G 2 dX7_sagBehindLast_58 rfl ?_
          refine J_cVpL (As := [vI i3]) G (mX7_rise u i3 m4) sg_X7_rise sv_X7_rise wm_X7_223 cls_7 kd_111 rfl ⟨by decide, by decide⟩ rfl rfl (Nat.le_of_ble_eq_true rfl) dX7_sagBehindLast_60 ?_
          intro r8
          refine J_aload_n G 0 dX7_sagBehindLast_63 rfl ?_
          refine J_getL (i := 14) (k := 14) G cls_7 wf_X7_56 kd_111 rfl rfl dX7_sagBehindLast_64 ?_
          refine J_lmul G dX7_sagBehindLast_67 ?_
          refine J_lsub G dX7_sagBehindLast_68 ?_
          refine J_last G kd_119 ln_119 dX7_sagBehindLast_69 ?_
          refine J_ltM (fun m9 => ?_)
          exact hk70 m9
theorem mX7_sagBehindLast (u : jU) (p0 : Int) (mem : Mem) : jMet u yX7_sagBehindLast cX7_sagBehindLast 6 none (jRm 1 21) [vR (uB u) 111, vL p0] mem EwV (Sta_sagBehindLast p0 mem) := by
  refine jMet_of (by decide +kernel) (Nat.le_of_ble_eq_true rfl) (fun x G => ?_)
  show J u x 6 (jQ u x EwV) 0 [(0, vR (uB u) 111), (1, vL p0)] [] mem _
  unfold Sta_sagBehindLast
  refine J_lload_n G 1 dX7_sagBehindLast_0 rfl ?_
  refine J_lstore_n (lv' := [(3, vL p0), (0, vR (uB u) 111), (1, vL p0)]) G dX7_sagBehindLast_1 rfl (by decide) rfl ?_
  refine J_aload_n G 1 dX7_sagBehindLast_2 rfl ?_
  refine J_getR (d := 112) (k := 2) G cls_7 wf_X7_9 kd_111 rfl rfl dX7_sagBehindLast_3 ?_
  refine J_aload_n G 1 dX7_sagBehindLast_6 rfl ?_
  refine J_getI (i := 1) (k := 1) G cls_7 wf_X7_82 kd_111 rfl rfl dX7_sagBehindLast_7 ?_
  refine J_iconst G dX7_sagBehindLast_10 ?_
  refine J_isub G dX7_sagBehindLast_11 ?_
  refine J_iald G kd_112 ln_112 dX7_sagBehindLast_12 ?_
  refine J_ltI (fun x1 => ?_)
  refine J_istore (lv' := [(5, vI x1), (3, vL p0), (0, vR (uB u) 111), (1, vL p0)]) G dX7_sagBehindLast_13 (by decide) rfl ?_
  refine J_lv [2, 1, 0] rfl ?_
  exact jSta_sagBehindLast_L15 G 2000 p0 x1 mem
theorem jSta_findSags_L19 {u : jU} {x : jX} (G : jG u x cX7_findSags RX7 4 none (jRm 2 49)) : ∀ (n : Nat) (i2 : Int) (m3 : Mem), J u x 4 (jQ u x EwV) 19 [(0, vR (uB u) 111), (1, vI i2)] [] m3 (Sta_findSags_L19 n i2 m3) := by
  intro n
  induction n with
  | zero => intro i2 m3; exact J_none
  | succ n ih =>
    intro i2 m3
    rw [Sta_findSags_L19]
    refine J_iload_n G 1 dX7_findSags_19 rfl ?_
    refine J_iconst G dX7_findSags_20 ?_
    refine J_iadd G dX7_findSags_21 ?_
    refine J_aload_n G 0 dX7_findSags_22 rfl ?_
    refine J_getI (i := 1) (k := 1) G cls_7 wf_X7_82 kd_111 rfl rfl dX7_findSags_23 ?_
    refine J_icmp_ge 65 G dX7_findSags_26 (by decide) ?_ ?_
    · exact J_vret G dX7_findSags_65 rfl
    · refine J_aload_n G 0 dX7_findSags_29 rfl ?_
      refine J_iload_n G 1 dX7_findSags_30 rfl ?_
      refine J_cVwL (As := [vI i2]) G (mX7_sagOfSpan u i2 m3) sg_X7_sagOfSpan sv_X7_sagOfSpan wm_X7_213 cls_7 kd_111 rfl ⟨by decide, by decide⟩ rfl rfl (Nat.le_of_ble_eq_true rfl) dX7_findSags_31 ?_
      intro r4 m5
      refine J_lstore_n (lv' := [(2, vL r4), (0, vR (uB u) 111), (1, vI i2)]) G dX7_findSags_34 rfl (by decide) rfl ?_
      refine J_iload_n G 2 dX7_findSags_35 rfl ?_
      refine J_jn (fun g => ∀ m6, J u x 4 (jQ u x EwV) 44 [(0, vR (uB u) 111), (1, vI i2), (2, vL r4)] [] m6 (g m6)) ?_ ?_
      · intro m6
        refine J_iload_n G 1 dX7_findSags_44 rfl ?_
        refine J_aload_n G 0 dX7_findSags_45 rfl ?_
        refine J_getI (i := 1) (k := 1) G cls_7 wf_X7_82 kd_111 rfl rfl dX7_findSags_46 ?_
        refine J_iconst G dX7_findSags_49 ?_
        refine J_isub G dX7_findSags_50 ?_
        refine J_icmp_ne 59 G dX7_findSags_51 (by decide) ?_ ?_
        · refine J_iinc (lv' := [(1, vI (i2 + 1)), (0, vR (uB u) 111), (2, vL r4)]) G 1 dX7_findSags_59 rfl (by decide) rfl ?_
          refine J_goto 19 G dX7_findSags_62 (by decide) ?_
          refine J_lv [1, 0] rfl ?_
          exact ih (i2 + 1) m6
        · refine J_aload_n G 0 dX7_findSags_54 rfl ?_
          refine J_lload_n G 2 dX7_findSags_55 rfl ?_
          refine J_cVwV (As := [vL r4]) G (mX7_sagBehindLast u r4 m6) sg_X7_sagBehindLast sv_X7_sagBehindLast wm_X7_220 cls_7 kd_111 rfl ⟨by decide, by decide⟩ rfl rfl (Nat.le_of_ble_eq_true rfl) dX7_findSags_56 ?_
          intro m7
          refine J_iinc (lv' := [(1, vI (i2 + 1)), (0, vR (uB u) 111), (2, vL r4)]) G 1 dX7_findSags_59 rfl (by decide) rfl ?_
          refine J_goto 19 G dX7_findSags_62 (by decide) ?_
          refine J_lv [1, 0] rfl ?_
          exact ih (i2 + 1) m7
      · intro k44 hk44
        refine J_if_ne 44 G dX7_findSags_36 (by decide) ?_ ?_
        · refine J_lv [1, 2, 0] rfl ?_
          exact hk44 m5
        · refine J_aload_n G 1 dX7_findSags_39 rfl ?_
          refine J_lload_n G 0 dX7_findSags_40 rfl ?_
          refine J_cVwV (As := [vL r4]) G (mX7_sagAheadOfFirst u r4 m5) sg_X7_sagAheadOfFirst sv_X7_sagAheadOfFirst wm_X7_216 cls_7 kd_111 rfl ⟨by decide, by decide⟩ rfl rfl (Nat.le_of_ble_eq_true rfl) dX7_findSags_41 ?_
          intro m8
          refine J_lv [1, 2, 0] rfl ?_
          exact hk44 m8
theorem mX7_findSags (u : jU) (mem : Mem) : jMet u yX7_findSags cX7_findSags 4 none (jRm 2 49) [vR (uB u) 111] mem EwV (Sta_findSags mem) := by
  refine jMet_of (by decide +kernel) (Nat.le_of_ble_eq_true rfl) (fun x G => ?_)
  show J u x 4 (jQ u x EwV) 0 [(0, vR (uB u) 111)] [] mem _
  unfold Sta_findSags
  refine J_aload_n G 0 dX7_findSags_0 rfl ?_
  refine J_ldc2 (v := 24) G dX7_findSags_1 wc_X7_211 (by decide) ?_
  refine J_aload_n G 0 dX7_findSags_4 rfl ?_
  refine J_getL (i := 6) (k := 6) G cls_7 wf_X7_25 kd_111 rfl rfl dX7_findSags_5 ?_
  refine J_lmul G dX7_findSags_8 ?_
  refine J_aload_n G 0 dX7_findSags_9 rfl ?_
  refine J_getL (i := 14) (k := 14) G cls_7 wf_X7_56 kd_111 rfl rfl dX7_findSags_10 ?_
  refine J_lmul G dX7_findSags_13 ?_
  refine J_putL (i := 10) (k := 10) G cls_7 wf_X7_38 kd_111 rfl rfl rfl rfl dX7_findSags_14 ?_
  refine J_ltM (fun m1 => ?_)
  refine J_iconst G dX7_findSags_17 ?_
  refine J_istore_n (lv' := [(1, vI 0), (0, vR (uB u) 111)]) G dX7_findSags_18 rfl (by decide) rfl ?_
  refine J_lv [1, 0] rfl ?_
  exact jSta_findSags_L19 G 2000 0 m1
theorem mX8_sag (u : jU) (p0 : Int) (p1 : Int) (mem : Mem) : jMet u yX8_sag cX8_sag 3 (some .long) (jRm 6 148) [vR (uB u) 0, vI p0, vI p1] mem EwL (BP_sag p0 p1 mem) := by
  refine jMet_of (by decide +kernel) (Nat.le_of_ble_eq_true rfl) (fun x G => ?_)
  show J u x 3 (jQ u x EwL) 0 [(0, vR (uB u) 0), (1, vI p0), (2, vI p1)] [] mem _
  unfold BP_sag
  refine J_aload_n G 0 dX8_sag_0 rfl ?_
  refine J_getR (d := 1) (k := 0) G cls_8 wf_X8_14 kd_0 rfl rfl dX8_sag_1 ?_
  refine J_cVpI (As := []) G (mX0_stands u 1 kd_1 mem) sg_X0_stands sv_X0_stands wm_X8_171 cls_0 kd_1 rfl ⟨by decide, by decide⟩ rfl rfl (Nat.le_of_ble_eq_true rfl) dX8_sag_4 ?_
  intro r1
  refine J_if_eq 28 G dX8_sag_7 (by decide) ?_ ?_
  · refine J_ldc2 (v := (-9223372036854775808)) G dX8_sag_28 wc_X8_178 (by decide) ?_
    exact J_lret G dX8_sag_31 rfl
  · refine J_aload_n G 0 dX8_sag_10 rfl ?_
    refine J_getR (d := 1) (k := 0) G cls_8 wf_X8_14 kd_0 rfl rfl dX8_sag_11 ?_
    refine J_iload_n G 1 dX8_sag_14 rfl ?_
    refine J_cVpI (As := [vI p0]) G (mX0_isPlace u 1 kd_1 p0 mem) sg_X0_isPlace sv_X0_isPlace wm_X8_195 cls_0 kd_1 rfl ⟨by decide, by decide⟩ rfl rfl (Nat.le_of_ble_eq_true rfl) dX8_sag_15 ?_
    intro r2
    refine J_if_eq 28 G dX8_sag_18 (by decide) ?_ ?_
    · refine J_ldc2 (v := (-9223372036854775808)) G dX8_sag_28 wc_X8_178 (by decide) ?_
      exact J_lret G dX8_sag_31 rfl
    · refine J_iload_n G 2 dX8_sag_21 rfl ?_
      refine J_cSpI (As := [vI p1]) G (mX8_isPart u p1 mem) sg_X8_isPart ss_X8_isPart wm_X8_175 ⟨by decide, by decide⟩ rfl rfl (Nat.le_of_ble_eq_true rfl) dX8_sag_22 ?_
      intro r3
      refine J_if_ne 32 G dX8_sag_25 (by decide) ?_ ?_
      · refine J_aload_n G 0 dX8_sag_32 rfl ?_
        refine J_cVwV (As := []) G (mX8_solveAsItIs u mem) sg_X8_solveAsItIs sv_X8_solveAsItIs wm_X8_180 cls_8 kd_0 rfl ⟨by decide, by decide⟩ rfl rfl (Nat.le_of_ble_eq_true rfl) dX8_sag_33 ?_
        intro m4
        refine J_aload_n G 0 dX8_sag_36 rfl ?_
        refine J_getR (d := 111) (k := 4) G cls_8 wf_X8_31 kd_0 rfl rfl dX8_sag_37 ?_
        refine J_cVwV (As := []) G (mX7_findSags u m4) sg_X7_findSags sv_X7_findSags wm_X8_209 cls_7 kd_111 rfl ⟨by decide, by decide⟩ rfl rfl (Nat.le_of_ble_eq_true rfl) dX8_sag_40 ?_
        intro m5
        refine J_aload_n G 0 dX8_sag_43 rfl ?_
        refine J_aload_n G 0 dX8_sag_44 rfl ?_
        refine J_getR (d := 111) (k := 4) G cls_8 wf_X8_31 kd_0 rfl rfl dX8_sag_45 ?_
        refine J_getR (d := 119) (k := 11) G cls_7 wf_X8_212 kd_111 rfl rfl dX8_sag_48 ?_
        refine J_iload_n G 1 dX8_sag_51 rfl ?_
        refine J_lald G kd_119 ln_119 dX8_sag_52 ?_
        refine J_aload_n G 0 dX8_sag_53 rfl ?_
        refine J_getR (d := 111) (k := 4) G cls_8 wf_X8_31 kd_0 rfl rfl dX8_sag_54 ?_
        refine J_getL (i := 10) (k := 10) G cls_7 wf_X8_215 kd_111 rfl rfl dX8_sag_57 ?_
        refine J_iload_n G 2 dX8_sag_60 rfl ?_
        refine J_cVwL (As := [vL (m5 119 (s32 p0)), vL (m5 111 10), vI p1]) G (mX8_inLowest u (m5 119 (s32 p0)) (m5 111 10) p1 m5) sg_X8_inLowest sv_X8_inLowest wm_X8_191 cls_8 kd_0 rfl ⟨by decide, by decide⟩ rfl rfl (Nat.le_of_ble_eq_true rfl) dX8_sag_61 ?_
        intro r6 m7
        exact J_lret G dX8_sag_64 rfl
      · refine J_ldc2 (v := (-9223372036854775808)) G dX8_sag_28 wc_X8_178 (by decide) ?_
        exact J_lret G dX8_sag_31 rfl
theorem mJ13_compare_74951 (u : jU) (p0 : Int) (p1 : Int) (mem : Mem) : jMet u yJ13_compare_74951 cJ13_compare_74951 4 (some .int) (jRm 0 0) [vL p0, vL p1] mem (EpI mem) (jd_compare p0 p1 mem) := by
  refine jMet_of (by decide +kernel) (Nat.le_of_ble_eq_true rfl) (fun x G => ?_)
  show J u x 4 (jQ u x (EpI mem)) 0 [(0, vL p0), (2, vL p1)] [] mem _
  unfold jd_compare
  refine J_lload_n G 0 dJ13_compare_74951_0 rfl ?_
  refine J_lload_n G 1 dJ13_compare_74951_1 rfl ?_
  refine J_lcmp_ge 10 G dJ13_compare_74951_2 dJ13_compare_74951_3 (by decide) ?_ ?_
  · refine J_lload_n G 0 dJ13_compare_74951_10 rfl ?_
    refine J_lload_n G 1 dJ13_compare_74951_11 rfl ?_
    refine J_lcmp_ne 20 G dJ13_compare_74951_12 dJ13_compare_74951_13 (by decide) ?_ ?_
    · refine J_iconst G dJ13_compare_74951_20 ?_
      exact J_iret G dJ13_compare_74951_21 rfl
    · refine J_iconst G dJ13_compare_74951_16 ?_
      refine J_goto 21 G dJ13_compare_74951_17 (by decide) ?_
      exact J_iret G dJ13_compare_74951_21 rfl
  · refine J_iconst G dJ13_compare_74951_6 ?_
    refine J_goto 21 G dJ13_compare_74951_7 (by decide) ?_
    exact J_iret G dJ13_compare_74951_21 rfl
theorem jFrac_against_L26 {u : jU} {x : jX} (G : jG u x cX2_against RX2 19 (some .int) (jRm 1 25)) (mem : Mem) (k106 : Int → Int → Int → Int → Option Int) (hk106 : (fun g => ∀ x5 x6 x7 x8, J u x 19 (jQ u x (EpI mem)) 106 [(11, vL x5), (13, vL x6), (15, vL x7), (17, vL x8)] [] mem (g x5 x6 x7 x8)) k106) : ∀ (n : Nat) (i11 : Int) (i12 : Int) (i13 : Int) (i14 : Int) (i15 : Int), J u x 19 (jQ u x (EpI mem)) 26 [(2, vL i11), (4, vL i12), (6, vL i13), (8, vL i14), (10, vI i15)] [] mem (Frac_against_L26 k106 n i11 i12 i13 i14 i15) := by
  intro n
  induction n with
  | zero => intro i11 i12 i13 i14 i15; exact J_none
  | succ n ih =>
    intro i11 i12 i13 i14 i15
    rw [Frac_against_L26]
    refine J_iload G 4 dX2_against_26 rfl ?_
    refine J_sipush G dX2_against_28 (by decide) ?_
    refine J_icmp_ge 153 G dX2_against_31 (by decide) ?_ ?_
    · refine J_iconst G dX2_against_153 ?_
      exact J_iret G dX2_against_154 rfl
    · refine J_lload G 1 dX2_against_34 rfl ?_
      refine J_lconst (v := 0) G dX2_against_36 (by decide) ?_
      refine J_lcmp_le 153 G dX2_against_37 dX2_against_38 (by decide) ?_ ?_
      · refine J_iconst G dX2_against_153 ?_
        exact J_iret G dX2_against_154 rfl
      · refine J_lload G 3 dX2_against_41 rfl ?_
        refine J_lconst (v := 0) G dX2_against_43 (by decide) ?_
        refine J_lcmp_le 153 G dX2_against_44 dX2_against_45 (by decide) ?_ ?_
        · refine J_iconst G dX2_against_153 ?_
          exact J_iret G dX2_against_154 rfl
        · refine J_lload_n G 0 dX2_against_48 rfl ?_
          refine J_lload G 1 dX2_against_49 rfl ?_
          refine J_floorDiv G wm_X2_32 ⟨by decide, Nat.le_of_ble_eq_true rfl⟩ dX2_against_51 ?_
          refine J_ltL (fun x16 => ?_)
          refine J_lstore (lv' := [(11, vL x16), (2, vL i11), (4, vL i12), (6, vL i13), (8, vL i14), (10, vI i15)]) G dX2_against_54 (by decide) rfl ?_
          refine J_lload G 3 dX2_against_56 rfl ?_
          refine J_lload G 4 dX2_against_58 rfl ?_
          refine J_floorDiv G wm_X2_32 ⟨by decide, Nat.le_of_ble_eq_true rfl⟩ dX2_against_60 ?_
          refine J_ltL (fun x17 => ?_)
          refine J_lstore (lv' := [(13, vL x17), (11, vL x16), (2, vL i11), (4, vL i12), (6, vL i13), (8, vL i14), (10, vI i15)]) G dX2_against_63 (by decide) rfl ?_
          refine J_lload_n G 2 dX2_against_65 rfl ?_
          refine J_lload G 1 dX2_against_66 rfl ?_
          refine J_lload G 3 dX2_against_68 rfl ?_
          refine J_lmul G dX2_against_70 ?_
          refine J_lsub G dX2_against_71 ?_
          refine J_ltL (fun x18 => ?_)
          refine J_lstore (lv' := [(15, vL x18), (13, vL x17), (11, vL x16), (2, vL i11), (4, vL i12), (6, vL i13), (8, vL i14), (10, vI i15)]) G dX2_against_72 (by decide) rfl ?_
          refine J_lload G 5 dX2_against_74 rfl ?_
          refine J_lload G 1 dX2_against_76 rfl ?_
          refine J_lload G 6 dX2_against_78 rfl ?_
          refine J_lmul G dX2_against_80 ?_
          refine J_lsub G dX2_against_81 ?_
          refine J_ltL (fun x19 => ?_)
          refine J_lstore (lv' := [(17, vL x19), (15, vL x18), (13, vL x17), (11, vL x16), (2, vL i11), (4, vL i12), (6, vL i13), (8, vL i14), (10, vI i15)]) G dX2_against_82 (by decide) rfl ?_
          refine J_lload G 3 dX2_against_84 rfl ?_
          refine J_lload G 2 dX2_against_86 rfl ?_
          refine J_lcmp_ne 106 G dX2_against_88 dX2_against_89 (by decide) ?_ ?_
          · refine J_lv [3, 2, 1, 0] rfl ?_
            exact hk106 x16 x17 x18 x19
          · refine J_lload G 1 dX2_against_92 rfl ?_
            refine J_lconst (v := 0) G dX2_against_94 (by decide) ?_
            refine J_lcmp_eq 106 G dX2_against_95 dX2_against_96 (by decide) ?_ ?_
            · refine J_lv [3, 2, 1, 0] rfl ?_
              exact hk106 x16 x17 x18 x19
            · refine J_lload G 0 dX2_against_99 rfl ?_
              refine J_lconst (v := 0) G dX2_against_101 (by decide) ?_
              refine J_lcmp_ne 132 G dX2_against_102 dX2_against_103 (by decide) ?_ ?_
              · refine J_lload G 7 dX2_against_132 rfl ?_
                refine J_lstore_n (lv' := [(2, vL i14), (17, vL x19), (15, vL x18), (13, vL x17), (11, vL x16), (4, vL i12), (6, vL i13), (8, vL i14), (10, vI i15)]) G dX2_against_134 rfl (by decide) rfl ?_
                refine J_lload G 5 dX2_against_135 rfl ?_
                refine J_lstore (lv' := [(6, vL i12), (2, vL i14), (17, vL x19), (15, vL x18), (13, vL x17), (11, vL x16), (4, vL i12), (8, vL i14), (10, vI i15)]) G dX2_against_137 (by decide) rfl ?_
                refine J_lload G 2 dX2_against_139 rfl ?_
                refine J_lstore (lv' := [(4, vL x19), (6, vL i12), (2, vL i14), (17, vL x19), (15, vL x18), (13, vL x17), (11, vL x16), (8, vL i14), (10, vI i15)]) G dX2_against_141 (by decide) rfl ?_
                refine J_lload G 4 dX2_against_143 rfl ?_
                refine J_lstore (lv' := [(8, vL x18), (4, vL x19), (6, vL i12), (2, vL i14), (17, vL x19), (15, vL x18), (13, vL x17), (11, vL x16), (10, vI i15)]) G dX2_against_145 (by decide) rfl ?_
                refine J_iinc (lv' := [(10, vI (i15 + 1)), (8, vL x18), (4, vL x19), (6, vL i12), (2, vL i14), (17, vL x19), (15, vL x18), (13, vL x17), (11, vL x16)]) G 8 dX2_against_147 rfl (by decide) rfl ?_
                refine J_goto 26 G dX2_against_150 (by decide) ?_
                refine J_lv [4, 2, 3, 1, 0] rfl ?_
                exact ih i14 x19 i12 x18 (i15 + 1)
              · refine J_lv [3, 2, 1, 0] rfl ?_
                exact hk106 x16 x17 x18 x19
theorem mX2_against (u : jU) (a : Nat) (b : Nat) (ha : kd a = 2) (hb : kd b = 2) (mem : Mem) : jMet u yX2_against cX2_against 19 (some .int) (jRm 1 25) [vR (uB u) a, vR (uB u) b] mem (EpI mem) (Frac_against a b mem) := by
  refine jMet_of (by decide +kernel) (Nat.le_of_ble_eq_true rfl) (fun x G => ?_)
  show J u x 19 (jQ u x (EpI mem)) 0 [(0, vR (uB u) a), (1, vR (uB u) b)] [] mem _
  unfold Frac_against
  refine J_aload_n G 0 dX2_against_0 rfl ?_
  refine J_getL (i := 0) (k := 0) G cls_2 wf_X2_24 ha rfl rfl dX2_against_1 ?_
  refine J_ltL (fun x1 => ?_)
  refine J_lstore_n (lv' := [(2, vL x1), (0, vR (uB u) a), (1, vR (uB u) b)]) G dX2_against_4 rfl (by decide) rfl ?_
  refine J_aload_n G 1 dX2_against_5 rfl ?_
  refine J_getL (i := 1) (k := 1) G cls_2 wf_X2_9 ha rfl rfl dX2_against_6 ?_
  refine J_ltL (fun x2 => ?_)
  refine J_lstore (lv' := [(4, vL x2), (2, vL x1), (0, vR (uB u) a), (1, vR (uB u) b)]) G dX2_against_9 (by decide) rfl ?_
  refine J_aload_n G 3 dX2_against_11 rfl ?_
  refine J_getL (i := 0) (k := 0) G cls_2 wf_X2_24 hb rfl rfl dX2_against_12 ?_
  refine J_ltL (fun x3 => ?_)
  refine J_lstore (lv' := [(6, vL x3), (4, vL x2), (2, vL x1), (0, vR (uB u) a), (1, vR (uB u) b)]) G dX2_against_15 (by decide) rfl ?_
  refine J_aload_n G 4 dX2_against_17 rfl ?_
  refine J_getL (i := 1) (k := 1) G cls_2 wf_X2_9 hb rfl rfl dX2_against_18 ?_
  refine J_ltL (fun x4 => ?_)
  refine J_lstore (lv' := [(8, vL x4), (6, vL x3), (4, vL x2), (2, vL x1), (0, vR (uB u) a), (1, vR (uB u) b)]) G dX2_against_21 (by decide) rfl ?_
  refine J_iconst G dX2_against_23 ?_
  refine J_istore (lv' := [(10, vI 0), (8, vL x4), (6, vL x3), (4, vL x2), (2, vL x1), (0, vR (uB u) a), (1, vR (uB u) b)]) G dX2_against_24 (by decide) rfl ?_
  refine J_jn (fun g => ∀ x5 x6 x7 x8, J u x 19 (jQ u x (EpI mem)) 106 [(11, vL x5), (13, vL x6), (15, vL x7), (17, vL x8)] [] mem (g x5 x6 x7 x8)) ?_ ?_
  · intro x5 x6 x7 x8
    refine J_lload G 0 dX2_against_106 rfl ?_
    refine J_lload G 1 dX2_against_108 rfl ?_
    refine J_lcmp_eq 124 G dX2_against_110 dX2_against_111 (by decide) ?_ ?_
    · refine J_lload G 2 dX2_against_124 rfl ?_
      refine J_lload G 3 dX2_against_126 rfl ?_
      refine J_cSpI (As := [vL x7, vL x8]) G (mJ13_compare_74951 u x7 x8 mem) sg_J13_compare_74951 ss_J13_compare_74951 wm_X2_35 ⟨by decide, by decide⟩ rfl rfl (Nat.le_of_ble_eq_true rfl) dX2_against_128 ?_
      intro r9
      exact J_iret G dX2_against_131 rfl
    · refine J_lload G 0 dX2_against_114 rfl ?_
      refine J_lload G 1 dX2_against_116 rfl ?_
      refine J_cSpI (As := [vL x5, vL x6]) G (mJ13_compare_74951 u x5 x6 mem) sg_J13_compare_74951 ss_J13_compare_74951 wm_X2_35 ⟨by decide, by decide⟩ rfl rfl (Nat.le_of_ble_eq_true rfl) dX2_against_118 ?_
      intro r10
      refine J_goto 131 G dX2_against_121 (by decide) ?_
      exact J_iret G dX2_against_131 rfl
  · intro k106 hk106
    refine J_lv [4, 3, 2, 1, 0] rfl ?_
    exact jFrac_against_L26 G mem k106 hk106 2000 x1 x2 x3 x4 0
theorem mX2_copy (u : jU) (a : Nat) (b : Nat) (ha : kd a = 2) (hb : kd b = 2) (mem : Mem) : jMet u yX2_copy cX2_copy 2 none (jRm 0 0) [vR (uB u) a, vR (uB u) b] mem EwV (Frac_copy a b mem) := by
  refine jMet_of (by decide +kernel) (Nat.le_of_ble_eq_true rfl) (fun x G => ?_)
  show J u x 2 (jQ u x EwV) 0 [(0, vR (uB u) a), (1, vR (uB u) b)] [] mem _
  unfold Frac_copy
  refine J_aload_n G 0 dX2_copy_0 rfl ?_
  refine J_aload_n G 1 dX2_copy_1 rfl ?_
  refine J_getL (i := 0) (k := 0) G cls_2 wf_X2_24 hb rfl rfl dX2_copy_2 ?_
  refine J_putL (i := 0) (k := 0) G cls_2 wf_X2_24 ha rfl rfl rfl rfl dX2_copy_5 ?_
  refine J_ltM (fun m1 => ?_)
  refine J_aload_n G 0 dX2_copy_8 rfl ?_
  refine J_aload_n G 1 dX2_copy_9 rfl ?_
  refine J_getL (i := 1) (k := 1) G cls_2 wf_X2_9 hb rfl rfl dX2_copy_10 ?_
  refine J_putL (i := 1) (k := 1) G cls_2 wf_X2_9 ha rfl rfl rfl rfl dX2_copy_13 ?_
  refine J_ltM (fun m2 => ?_)
  exact J_vret G dX2_copy_16 rfl
theorem mX4_offer (u : jU) (a : Nat) (ha : kd a = 4) (mem : Mem) : jMet u yX4_offer cX4_offer 3 none (jRm 2 63) [vR (uB u) a, vR (uB u) 127, vR (uB u) 128] mem EwV (Peak_offer a mem) := by
  refine jMet_of (by decide +kernel) (Nat.le_of_ble_eq_true rfl) (fun x G => ?_)
  show J u x 3 (jQ u x EwV) 0 [(0, vR (uB u) a), (1, vR (uB u) 127), (2, vR (uB u) 128)] [] mem _
  unfold Peak_offer
  refine J_aload_n G 0 dX4_offer_0 rfl ?_
  refine J_getI (i := 2) (k := 2) G cls_4 wf_X4_23 ha rfl rfl dX4_offer_1 ?_
  refine J_jn (fun g => J u x 3 (jQ u x EwV) 24 [(0, vR (uB u) a), (1, vR (uB u) 127), (2, vR (uB u) 128)] [] mem (g)) ?_ ?_
  · skip
    refine J_aload_n G 0 dX4_offer_24 rfl ?_
    refine J_getR (d := (a + 1)) (k := 0) G cls_4 wf_X4_10 ha rfl rfl dX4_offer_25 ?_
    refine J_aload_n G 1 dX4_offer_28 rfl ?_
    refine J_cVwV (As := [vR (uB u) 127]) G (mX2_copy u (a + 1) 127 (pk_1 ha) kd_127 mem) sg_X2_copy sv_X2_copy wm_X4_31 cls_2 (pk_1 ha) rfl ⟨by decide, by decide⟩ rfl rfl (Nat.le_of_ble_eq_true rfl) dX4_offer_29 ?_
    intro m1
    refine J_aload_n G 0 dX4_offer_32 rfl ?_
    refine J_getR (d := (a + 2)) (k := 1) G cls_4 wf_X4_16 ha rfl rfl dX4_offer_33 ?_
    refine J_aload_n G 2 dX4_offer_36 rfl ?_
    refine J_cVwV (As := [vR (uB u) 128]) G (mX2_copy u (a + 2) 128 (pk_2 ha) kd_128 m1) sg_X2_copy sv_X2_copy wm_X4_31 cls_2 (pk_2 ha) rfl ⟨by decide, by decide⟩ rfl rfl (Nat.le_of_ble_eq_true rfl) dX4_offer_37 ?_
    intro m2
    refine J_aload_n G 0 dX4_offer_40 rfl ?_
    refine J_iconst G dX4_offer_41 ?_
    refine J_putZ (i := 2) (k := 2) G cls_4 wf_X4_23 ha rfl rfl rfl rfl (by decide) (by decide) dX4_offer_42 ?_
    refine J_ltM (fun m3 => ?_)
    exact J_vret G dX4_offer_45 rfl
  · intro k24 hk24
    refine J_if_eq 24 G dX4_offer_4 (by decide) ?_ ?_
    · exact hk24
    · refine J_aload_n G 0 dX4_offer_7 rfl ?_
      refine J_getI (i := 3) (k := 3) G cls_4 wf_X4_19 ha rfl rfl dX4_offer_8 ?_
      refine J_aload_n G 1 dX4_offer_11 rfl ?_
      refine J_aload_n G 0 dX4_offer_12 rfl ?_
      refine J_getR (d := (a + 1)) (k := 0) G cls_4 wf_X4_10 ha rfl rfl dX4_offer_13 ?_
      refine J_cVpI (As := [vR (uB u) (a + 1)]) G (mX2_against u 127 (a + 1) kd_127 (pk_1 ha) mem) sg_X2_against sv_X2_against wm_X4_27 cls_2 kd_127 rfl ⟨by decide, by decide⟩ rfl rfl (Nat.le_of_ble_eq_true rfl) dX4_offer_16 ?_
      intro r4
      refine J_imul G dX4_offer_19 ?_
      refine J_if_gt 24 G dX4_offer_20 (by decide) ?_ ?_
      · exact hk24
      · exact J_vret G dX4_offer_23 rfl
theorem mX7_offerPeak (u : jU) (mem : Mem) : jMet u yX7_offerPeak cX7_offerPeak 1 none (jRm 3 85) [vR (uB u) 111] mem EwV (Sta_offerPeak mem) := by
  refine jMet_of (by decide +kernel) (Nat.le_of_ble_eq_true rfl) (fun x G => ?_)
  show J u x 1 (jQ u x EwV) 0 [(0, vR (uB u) 111)] [] mem _
  unfold Sta_offerPeak
  refine J_aload_n G 0 dX7_offerPeak_0 rfl ?_
  refine J_getR (d := 120) (k := 12) G cls_7 wf_X7_49 kd_111 rfl rfl dX7_offerPeak_1 ?_
  refine J_aload_n G 0 dX7_offerPeak_4 rfl ?_
  refine J_getR (d := 127) (k := 16) G cls_7 wf_X7_65 kd_111 rfl rfl dX7_offerPeak_5 ?_
  refine J_aload_n G 0 dX7_offerPeak_8 rfl ?_
  refine J_getR (d := 128) (k := 17) G cls_7 wf_X7_69 kd_111 rfl rfl dX7_offerPeak_9 ?_
  refine J_cVwV (As := [vR (uB u) 127, vR (uB u) 128]) G (mX4_offer u 120 kd_120 mem) sg_X4_offer sv_X4_offer wm_X7_191 cls_4 kd_120 rfl ⟨by decide, by decide⟩ rfl rfl (Nat.le_of_ble_eq_true rfl) dX7_offerPeak_12 ?_
  intro m1
  refine J_aload_n G 0 dX7_offerPeak_15 rfl ?_
  refine J_getR (d := 123) (k := 13) G cls_7 wf_X7_53 kd_111 rfl rfl dX7_offerPeak_16 ?_
  refine J_aload_n G 0 dX7_offerPeak_19 rfl ?_
  refine J_getR (d := 127) (k := 16) G cls_7 wf_X7_65 kd_111 rfl rfl dX7_offerPeak_20 ?_
  refine J_aload_n G 0 dX7_offerPeak_23 rfl ?_
  refine J_getR (d := 128) (k := 17) G cls_7 wf_X7_69 kd_111 rfl rfl dX7_offerPeak_24 ?_
  refine J_cVwV (As := [vR (uB u) 127, vR (uB u) 128]) G (mX4_offer u 123 kd_123 m1) sg_X4_offer sv_X4_offer wm_X7_191 cls_4 kd_123 rfl ⟨by decide, by decide⟩ rfl rfl (Nat.le_of_ble_eq_true rfl) dX7_offerPeak_27 ?_
  intro m2
  exact J_vret G dX7_offerPeak_30 rfl
theorem mX7_turnsWithin (u : jU) (p0 : Int) (mem : Mem) : jMet u yX7_turnsWithin cX7_turnsWithin 4 (some .boolean) (jRm 0 0) [vR (uB u) 111, vI p0] mem (EpI mem) (Sta_turnsWithin p0 mem) := by
  refine jMet_of (by decide +kernel) (Nat.le_of_ble_eq_true rfl) (fun x G => ?_)
  show J u x 4 (jQ u x (EpI mem)) 0 [(0, vR (uB u) 111), (1, vI p0)] [] mem _
  unfold Sta_turnsWithin
  refine J_aload_n G 0 dX7_turnsWithin_0 rfl ?_
  refine J_getR (d := 115) (k := 5) G cls_7 wf_X7_22 kd_111 rfl rfl dX7_turnsWithin_1 ?_
  refine J_iload_n G 1 dX7_turnsWithin_4 rfl ?_
  refine J_lald G kd_115 ln_115 dX7_turnsWithin_5 ?_
  refine J_aload_n G 0 dX7_turnsWithin_6 rfl ?_
  refine J_getL (i := 6) (k := 6) G cls_7 wf_X7_25 kd_111 rfl rfl dX7_turnsWithin_7 ?_
  refine J_lmul G dX7_turnsWithin_10 ?_
  refine J_ltL (fun x1 => ?_)
  refine J_lstore_n (lv' := [(2, vL x1), (0, vR (uB u) 111), (1, vI p0)]) G dX7_turnsWithin_11 rfl (by decide) rfl ?_
  refine J_lload_n G 0 dX7_turnsWithin_12 rfl ?_
  refine J_lconst (v := 0) G dX7_turnsWithin_13 (by decide) ?_
  refine J_lcmp_le 48 G dX7_turnsWithin_14 dX7_turnsWithin_15 (by decide) ?_ ?_
  · refine J_aload_n G 1 dX7_turnsWithin_48 rfl ?_
    refine J_getR (d := 117) (k := 8) G cls_7 wf_X7_32 kd_111 rfl rfl dX7_turnsWithin_49 ?_
    refine J_iload_n G 2 dX7_turnsWithin_52 rfl ?_
    refine J_lald G kd_117 ln_117 dX7_turnsWithin_53 ?_
    refine J_lconst (v := 0) G dX7_turnsWithin_54 (by decide) ?_
    refine J_lcmp_ge 74 G dX7_turnsWithin_55 dX7_turnsWithin_56 (by decide) ?_ ?_
    · refine J_iconst G dX7_turnsWithin_74 ?_
      exact J_zret G dX7_turnsWithin_75 (by decide) rfl
    · refine J_aload_n G 1 dX7_turnsWithin_59 rfl ?_
      refine J_getR (d := 117) (k := 8) G cls_7 wf_X7_32 kd_111 rfl rfl dX7_turnsWithin_60 ?_
      refine J_iload_n G 2 dX7_turnsWithin_63 rfl ?_
      refine J_lald G kd_117 ln_117 dX7_turnsWithin_64 ?_
      refine J_lload_n G 0 dX7_turnsWithin_65 rfl ?_
      refine J_lcmp_le 74 G dX7_turnsWithin_66 dX7_turnsWithin_67 (by decide) ?_ ?_
      · refine J_iconst G dX7_turnsWithin_74 ?_
        exact J_zret G dX7_turnsWithin_75 (by decide) rfl
      · refine J_iconst G dX7_turnsWithin_70 ?_
        refine J_goto 75 G dX7_turnsWithin_71 (by decide) ?_
        exact J_zret G dX7_turnsWithin_75 (by decide) rfl
  · refine J_aload_n G 1 dX7_turnsWithin_18 rfl ?_
    refine J_getR (d := 117) (k := 8) G cls_7 wf_X7_32 kd_111 rfl rfl dX7_turnsWithin_19 ?_
    refine J_iload_n G 2 dX7_turnsWithin_22 rfl ?_
    refine J_lald G kd_117 ln_117 dX7_turnsWithin_23 ?_
    refine J_lconst (v := 0) G dX7_turnsWithin_24 (by decide) ?_
    refine J_lcmp_le 44 G dX7_turnsWithin_25 dX7_turnsWithin_26 (by decide) ?_ ?_
    · refine J_iconst G dX7_turnsWithin_44 ?_
      refine J_goto 75 G dX7_turnsWithin_45 (by decide) ?_
      exact J_zret G dX7_turnsWithin_75 (by decide) rfl
    · refine J_aload_n G 1 dX7_turnsWithin_29 rfl ?_
      refine J_getR (d := 117) (k := 8) G cls_7 wf_X7_32 kd_111 rfl rfl dX7_turnsWithin_30 ?_
      refine J_iload_n G 2 dX7_turnsWithin_33 rfl ?_
      refine J_lald G kd_117 ln_117 dX7_turnsWithin_34 ?_
      refine J_lload_n G 0 dX7_turnsWithin_35 rfl ?_
      refine J_lcmp_ge 44 G dX7_turnsWithin_36 dX7_turnsWithin_37 (by decide) ?_ ?_
      · refine J_iconst G dX7_turnsWithin_44 ?_
        refine J_goto 75 G dX7_turnsWithin_45 (by decide) ?_
        exact J_zret G dX7_turnsWithin_75 (by decide) rfl
      · refine J_iconst G dX7_turnsWithin_40 ?_
        refine J_goto 75 G dX7_turnsWithin_41 (by decide) ?_
        exact J_zret G dX7_turnsWithin_75 (by decide) rfl
theorem jSta_findPeaks_L18 {u : jU} {x : jX} (G : jG u x cX7_findPeaks RX7 4 none (jRm 4 105)) : ∀ (n : Nat) (i3 : Int) (m4 : Mem), J u x 4 (jQ u x EwV) 18 [(0, vR (uB u) 111), (1, vI i3)] [] m4 (Sta_findPeaks_L18 n i3 m4) := by
  intro n
  induction n with
  | zero => intro i3 m4; exact J_none
  | succ n ih =>
    intro i3 m4
    rw [Sta_findPeaks_L18]
    refine J_iload_n G 1 dX7_findPeaks_18 rfl ?_
    refine J_aload_n G 0 dX7_findPeaks_19 rfl ?_
    refine J_getI (i := 0) (k := 0) G cls_7 wf_X7_78 kd_111 rfl rfl dX7_findPeaks_20 ?_
    refine J_icmp_gt 172 G dX7_findPeaks_23 (by decide) ?_ ?_
    · exact J_vret G dX7_findPeaks_172 rfl
    · refine J_aload_n G 0 dX7_findPeaks_26 rfl ?_
      refine J_getR (d := 127) (k := 16) G cls_7 wf_X7_65 kd_111 rfl rfl dX7_findPeaks_27 ?_
      refine J_aload_n G 0 dX7_findPeaks_30 rfl ?_
      refine J_getR (d := 118) (k := 9) G cls_7 wf_X7_35 kd_111 rfl rfl dX7_findPeaks_31 ?_
      refine J_iload_n G 1 dX7_findPeaks_34 rfl ?_
      refine J_lald G kd_118 ln_118 dX7_findPeaks_35 ?_
      refine J_aload_n G 0 dX7_findPeaks_36 rfl ?_
      refine J_getL (i := 6) (k := 6) G cls_7 wf_X7_25 kd_111 rfl rfl dX7_findPeaks_37 ?_
      refine J_cVwV (As := [vL (m4 118 (s32 i3)), vL (m4 111 6)]) G (mX2_become u 127 kd_127 (m4 118 (s32 i3)) (m4 111 6) m4) sg_X2_become sv_X2_become wm_X7_177 cls_2 kd_127 rfl ⟨by decide, by decide⟩ rfl rfl (Nat.le_of_ble_eq_true rfl) dX7_findPeaks_40 ?_
      intro m5
      refine J_aload_n G 0 dX7_findPeaks_43 rfl ?_
      refine J_getR (d := 128) (k := 17) G cls_7 wf_X7_69 kd_111 rfl rfl dX7_findPeaks_44 ?_
      refine J_iload_n G 1 dX7_findPeaks_47 rfl ?_
      refine J_i2l G dX7_findPeaks_48 ?_
      refine J_lconst (v := 1) G dX7_findPeaks_49 (by decide) ?_
      refine J_cVwV (As := [vL (s32 i3), vL 1]) G (mX2_become u 128 kd_128 (s32 i3) 1 m5) sg_X2_become sv_X2_become wm_X7_177 cls_2 kd_128 rfl ⟨by decide, by decide⟩ rfl rfl (Nat.le_of_ble_eq_true rfl) dX7_findPeaks_50 ?_
      intro m6
      refine J_aload_n G 0 dX7_findPeaks_53 rfl ?_
      refine J_cVwV (As := []) G (mX7_offerPeak u m6) sg_X7_offerPeak sv_X7_offerPeak wm_X7_185 cls_7 kd_111 rfl ⟨by decide, by decide⟩ rfl rfl (Nat.le_of_ble_eq_true rfl) dX7_findPeaks_54 ?_
      intro m7
      refine J_iload_n G 1 dX7_findPeaks_57 rfl ?_
      refine J_aload_n G 0 dX7_findPeaks_58 rfl ?_
      refine J_getI (i := 0) (k := 0) G cls_7 wf_X7_78 kd_111 rfl rfl dX7_findPeaks_59 ?_
      refine J_icmp_ge 166 G dX7_findPeaks_62 (by decide) ?_ ?_
      · refine J_iinc (lv' := [(1, vI (i3 + 1)), (0, vR (uB u) 111)]) G 1 dX7_findPeaks_166 rfl (by decide) rfl ?_
        refine J_goto 18 G dX7_findPeaks_169 (by decide) ?_
        refine J_lv [1, 0] rfl ?_
        exact ih (i3 + 1) m7
      · refine J_aload_n G 0 dX7_findPeaks_65 rfl ?_
        refine J_iload_n G 1 dX7_findPeaks_66 rfl ?_
        refine J_cVpI (As := [vI i3]) G (mX7_turnsWithin u i3 m7) sg_X7_turnsWithin sv_X7_turnsWithin wm_X7_188 cls_7 kd_111 rfl ⟨by decide, by decide⟩ rfl rfl (Nat.le_of_ble_eq_true rfl) dX7_findPeaks_67 ?_
        intro r8
        refine J_if_eq 166 G dX7_findPeaks_70 (by decide) ?_ ?_
        · refine J_iinc (lv' := [(1, vI (i3 + 1)), (0, vR (uB u) 111)]) G 1 dX7_findPeaks_166 rfl (by decide) rfl ?_
          refine J_goto 18 G dX7_findPeaks_169 (by decide) ?_
          refine J_lv [1, 0] rfl ?_
          exact ih (i3 + 1) m7
        · refine J_aload_n G 0 dX7_findPeaks_73 rfl ?_
          refine J_getR (d := 115) (k := 5) G cls_7 wf_X7_22 kd_111 rfl rfl dX7_findPeaks_74 ?_
          refine J_iload_n G 1 dX7_findPeaks_77 rfl ?_
          refine J_lald G kd_115 ln_115 dX7_findPeaks_78 ?_
          refine J_ltL (fun x9 => ?_)
          refine J_lstore_n (lv' := [(2, vL x9), (0, vR (uB u) 111), (1, vI i3)]) G dX7_findPeaks_79 rfl (by decide) rfl ?_
          refine J_aload_n G 1 dX7_findPeaks_80 rfl ?_
          refine J_getR (d := 127) (k := 16) G cls_7 wf_X7_65 kd_111 rfl rfl dX7_findPeaks_81 ?_
          refine J_ldc2 (v := 2) G dX7_findPeaks_84 wc_X7_133 (by decide) ?_
          refine J_lload_n G 0 dX7_findPeaks_87 rfl ?_
          refine J_lmul G dX7_findPeaks_88 ?_
          refine J_aload_n G 1 dX7_findPeaks_89 rfl ?_
          refine J_getL (i := 6) (k := 6) G cls_7 wf_X7_25 kd_111 rfl rfl dX7_findPeaks_90 ?_
          refine J_lmul G dX7_findPeaks_93 ?_
          refine J_aload_n G 1 dX7_findPeaks_94 rfl ?_
          refine J_getR (d := 118) (k := 9) G cls_7 wf_X7_35 kd_111 rfl rfl dX7_findPeaks_95 ?_
          refine J_iload_n G 2 dX7_findPeaks_98 rfl ?_
          refine J_lald G kd_118 ln_118 dX7_findPeaks_99 ?_
          refine J_lmul G dX7_findPeaks_100 ?_
          refine J_aload_n G 1 dX7_findPeaks_101 rfl ?_
          refine J_getR (d := 117) (k := 8) G cls_7 wf_X7_32 kd_111 rfl rfl dX7_findPeaks_102 ?_
          refine J_iload_n G 2 dX7_findPeaks_105 rfl ?_
          refine J_lald G kd_117 ln_117 dX7_findPeaks_106 ?_
          refine J_aload_n G 1 dX7_findPeaks_107 rfl ?_
          refine J_getR (d := 117) (k := 8) G cls_7 wf_X7_32 kd_111 rfl rfl dX7_findPeaks_108 ?_
          refine J_iload_n G 2 dX7_findPeaks_111 rfl ?_
          refine J_lald G kd_117 ln_117 dX7_findPeaks_112 ?_
          refine J_lmul G dX7_findPeaks_113 ?_
          refine J_ladd G dX7_findPeaks_114 ?_
          refine J_ldc2 (v := 2) G dX7_findPeaks_115 wc_X7_133 (by decide) ?_
          refine J_lload_n G 0 dX7_findPeaks_118 rfl ?_
          refine J_lmul G dX7_findPeaks_119 ?_
          refine J_aload_n G 1 dX7_findPeaks_120 rfl ?_
          refine J_getL (i := 6) (k := 6) G cls_7 wf_X7_25 kd_111 rfl rfl dX7_findPeaks_121 ?_
          refine J_lmul G dX7_findPeaks_124 ?_
          refine J_aload_n G 1 dX7_findPeaks_125 rfl ?_
          refine J_getL (i := 6) (k := 6) G cls_7 wf_X7_25 kd_111 rfl rfl dX7_findPeaks_126 ?_
          refine J_lmul G dX7_findPeaks_129 ?_
          refine J_cVwV (As := [vL ((((2 * x9) * (m7 111 6)) * (m7 118 (s32 i3))) + ((m7 117 (s32 i3)) * (m7 117 (s32 i3)))), vL (((2 * x9) * (m7 111 6)) * (m7 111 6))]) G (mX2_become u 127 kd_127 ((((2 * x9) * (m7 111 6)) * (m7 118 (s32 i3))) + ((m7 117 (s32 i3)) * (m7 117 (s32 i3)))) (((2 * x9) * (m7 111 6)) * (m7 111 6)) m7) sg_X2_become sv_X2_become wm_X7_177 cls_2 kd_127 rfl ⟨by decide, by decide⟩ rfl rfl (Nat.le_of_ble_eq_true rfl) dX7_findPeaks_130 ?_
          intro m10
          refine J_aload_n G 1 dX7_findPeaks_133 rfl ?_
          refine J_getR (d := 128) (k := 17) G cls_7 wf_X7_69 kd_111 rfl rfl dX7_findPeaks_134 ?_
          refine J_iload_n G 2 dX7_findPeaks_137 rfl ?_
          refine J_i2l G dX7_findPeaks_138 ?_
          refine J_lload_n G 0 dX7_findPeaks_139 rfl ?_
          refine J_lmul G dX7_findPeaks_140 ?_
          refine J_aload_n G 1 dX7_findPeaks_141 rfl ?_
          refine J_getL (i := 6) (k := 6) G cls_7 wf_X7_25 kd_111 rfl rfl dX7_findPeaks_142 ?_
          refine J_lmul G dX7_findPeaks_145 ?_
          refine J_aload_n G 1 dX7_findPeaks_146 rfl ?_
          refine J_getR (d := 117) (k := 8) G cls_7 wf_X7_32 kd_111 rfl rfl dX7_findPeaks_147 ?_
          refine J_iload_n G 2 dX7_findPeaks_150 rfl ?_
          refine J_lald G kd_117 ln_117 dX7_findPeaks_151 ?_
          refine J_ladd G dX7_findPeaks_152 ?_
          refine J_lload_n G 0 dX7_findPeaks_153 rfl ?_
          refine J_aload_n G 1 dX7_findPeaks_154 rfl ?_
          refine J_getL (i := 6) (k := 6) G cls_7 wf_X7_25 kd_111 rfl rfl dX7_findPeaks_155 ?_
          refine J_lmul G dX7_findPeaks_158 ?_
          refine J_cVwV (As := [vL ((((s32 i3) * x9) * (m10 111 6)) + (m10 117 (s32 i3))), vL (x9 * (m10 111 6))]) G (mX2_become u 128 kd_128 ((((s32 i3) * x9) * (m10 111 6)) + (m10 117 (s32 i3))) (x9 * (m10 111 6)) m10) sg_X2_become sv_X2_become wm_X7_177 cls_2 kd_128 rfl ⟨by decide, by decide⟩ rfl rfl (Nat.le_of_ble_eq_true rfl) dX7_findPeaks_159 ?_
          intro m11
          refine J_aload_n G 1 dX7_findPeaks_162 rfl ?_
          refine J_cVwV (As := []) G (mX7_offerPeak u m11) sg_X7_offerPeak sv_X7_offerPeak wm_X7_185 cls_7 kd_111 rfl ⟨by decide, by decide⟩ rfl rfl (Nat.le_of_ble_eq_true rfl) dX7_findPeaks_163 ?_
          intro m12
          refine J_iinc (lv' := [(1, vI (i3 + 1)), (2, vL x9), (0, vR (uB u) 111)]) G 2 dX7_findPeaks_166 rfl (by decide) rfl ?_
          refine J_goto 18 G dX7_findPeaks_169 (by decide) ?_
          refine J_lv [2, 0] rfl ?_
          exact ih (i3 + 1) m12
theorem mX7_findPeaks (u : jU) (mem : Mem) : jMet u yX7_findPeaks cX7_findPeaks 4 none (jRm 4 105) [vR (uB u) 111] mem EwV (Sta_findPeaks mem) := by
  refine jMet_of (by decide +kernel) (Nat.le_of_ble_eq_true rfl) (fun x G => ?_)
  show J u x 4 (jQ u x EwV) 0 [(0, vR (uB u) 111)] [] mem _
  unfold Sta_findPeaks
  refine J_aload_n G 0 dX7_findPeaks_0 rfl ?_
  refine J_getR (d := 120) (k := 12) G cls_7 wf_X7_49 kd_111 rfl rfl dX7_findPeaks_1 ?_
  refine J_iconst G dX7_findPeaks_4 ?_
  refine J_putZ (i := 2) (k := 2) G cls_4 wf_X7_181 kd_120 rfl rfl rfl rfl (by decide) (by decide) dX7_findPeaks_5 ?_
  refine J_ltM (fun m1 => ?_)
  refine J_aload_n G 0 dX7_findPeaks_8 rfl ?_
  refine J_getR (d := 123) (k := 13) G cls_7 wf_X7_53 kd_111 rfl rfl dX7_findPeaks_9 ?_
  refine J_iconst G dX7_findPeaks_12 ?_
  refine J_putZ (i := 2) (k := 2) G cls_4 wf_X7_181 kd_123 rfl rfl rfl rfl (by decide) (by decide) dX7_findPeaks_13 ?_
  refine J_ltM (fun m2 => ?_)
  refine J_iconst G dX7_findPeaks_16 ?_
  refine J_istore_n (lv' := [(1, vI 0), (0, vR (uB u) 111)]) G dX7_findPeaks_17 rfl (by decide) rfl ?_
  refine J_lv [1, 0] rfl ?_
  exact jSta_findPeaks_L18 G 2000 0 m2
