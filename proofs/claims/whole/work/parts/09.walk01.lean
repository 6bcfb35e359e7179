theorem mX0_whyNotLength (u : jU) (a : Nat) (ha : kd a = 0) (p0 : Int) (mem : Mem) : jMet u yX0_whyNotLength cX0_whyNotLength 2 (some .int) (jRm 0 0) [vR (uB u) a, vI p0] mem (EpI mem) (Beam_whyNotLength a p0 mem) := by
  refine jMet_of (by decide +kernel) (Nat.le_of_ble_eq_true rfl) (fun x G => ?_)
  show J u x 2 (jQ u x (EpI mem)) 0 [(0, vR (uB u) a), (1, vI p0)] [] mem _
  unfold Beam_whyNotLength
  refine J_iload_n G 1 dX0_whyNotLength_0 rfl ?_
  refine J_iconst G dX0_whyNotLength_1 ?_
  refine J_icmp_lt 11 G dX0_whyNotLength_2 (by decide) ?_ ?_
  · refine J_iconst G dX0_whyNotLength_11 ?_
    refine J_goto 16 G dX0_whyNotLength_12 (by decide) ?_
    exact J_iret G dX0_whyNotLength_16 rfl
  · refine J_iload_n G 1 dX0_whyNotLength_5 rfl ?_
    refine J_bipush G dX0_whyNotLength_6 (by decide) ?_
    refine J_icmp_le 15 G dX0_whyNotLength_8 (by decide) ?_ ?_
    · refine J_iconst G dX0_whyNotLength_15 ?_
      exact J_iret G dX0_whyNotLength_16 rfl
    · refine J_iconst G dX0_whyNotLength_11 ?_
      refine J_goto 16 G dX0_whyNotLength_12 (by decide) ?_
      exact J_iret G dX0_whyNotLength_16 rfl
theorem mX0_clear (u : jU) (a : Nat) (ha : kd a = 0) (p0 : Int) (mem : Mem) : jMet u yX0_clear cX0_clear 2 none (jRm 0 0) [vR (uB u) a, vI p0] mem EwV (Beam_clear a p0 mem) := by
  refine jMet_of (by decide +kernel) (Nat.le_of_ble_eq_true rfl) (fun x G => ?_)
  show J u x 2 (jQ u x EwV) 0 [(0, vR (uB u) a), (1, vI p0)] [] mem _
  unfold Beam_clear
  refine J_aload_n G 0 dX0_clear_0 rfl ?_
  refine J_iload_n G 1 dX0_clear_1 rfl ?_
  refine J_putI (i := 0) (k := 0) G cls_0 wf_X0_9 ha rfl rfl rfl rfl dX0_clear_2 ?_
  refine J_ltM (fun m1 => ?_)
  refine J_aload_n G 0 dX0_clear_5 rfl ?_
  refine J_iconst G dX0_clear_6 ?_
  refine J_putI (i := 1) (k := 1) G cls_0 wf_X0_40 ha rfl rfl rfl rfl dX0_clear_7 ?_
  refine J_ltM (fun m2 => ?_)
  refine J_aload_n G 0 dX0_clear_10 rfl ?_
  refine J_iconst G dX0_clear_11 ?_
  refine J_putI (i := 4) (k := 4) G cls_0 wf_X0_49 ha rfl rfl rfl rfl dX0_clear_12 ?_
  refine J_ltM (fun m3 => ?_)
  refine J_aload_n G 0 dX0_clear_15 rfl ?_
  refine J_iconst G dX0_clear_16 ?_
  refine J_putI (i := 9) (k := 9) G cls_0 wf_X0_52 ha rfl rfl rfl rfl dX0_clear_17 ?_
  refine J_ltM (fun m4 => ?_)
  exact J_vret G dX0_clear_20 rfl
theorem mX1_forget (u : jU) (mem : Mem) : jMet u yX1_forget cX1_forget 1 none (jRm 0 0) [vR (uB u) 10] mem EwV (Chg_forget mem) := by
  refine jMet_of (by decide +kernel) (Nat.le_of_ble_eq_true rfl) (fun x G => ?_)
  show J u x 1 (jQ u x EwV) 0 [(0, vR (uB u) 10)] [] mem _
  unfold Chg_forget
  refine J_aload_n G 0 dX1_forget_0 rfl ?_
  refine J_iconst G dX1_forget_1 ?_
  refine J_putI (i := 0) (k := 0) G cls_1 wf_X1_26 kd_10 rfl rfl rfl rfl dX1_forget_2 ?_
  refine J_ltM (fun m1 => ?_)
  exact J_vret G dX1_forget_5 rfl
theorem mX8_beam (u : jU) (p0 : Int) (mem : Mem) : jMet u yX8_beam cX8_beam 3 (some .int) (jRm 1 21) [vR (uB u) 0, vI p0] mem EwI (BP_beam p0 mem) := by
  refine jMet_of (by decide +kernel) (Nat.le_of_ble_eq_true rfl) (fun x G => ?_)
  show J u x 3 (jQ u x EwI) 0 [(0, vR (uB u) 0), (1, vI p0)] [] mem _
  unfold BP_beam
  refine J_aload_n G 0 dX8_beam_0 rfl ?_
  refine J_getR (d := 1) (k := 0) G cls_8 wf_X8_14 kd_0 rfl rfl dX8_beam_1 ?_
  refine J_iload_n G 1 dX8_beam_4 rfl ?_
  refine J_cVpI (As := [vI p0]) G (mX0_whyNotLength u 1 kd_1 p0 mem) sg_X0_whyNotLength sv_X0_whyNotLength wm_X8_66 cls_0 kd_1 rfl ⟨by decide, by decide⟩ rfl rfl (Nat.le_of_ble_eq_true rfl) dX8_beam_5 ?_
  intro r1
  refine J_if_eq 13 G dX8_beam_8 (by decide) ?_ ?_
  · refine J_aload_n G 0 dX8_beam_13 rfl ?_
    refine J_getR (d := 1) (k := 0) G cls_8 wf_X8_14 kd_0 rfl rfl dX8_beam_14 ?_
    refine J_getI (i := 0) (k := 0) G cls_0 wf_X8_70 kd_1 rfl rfl dX8_beam_17 ?_
    refine J_ltI (fun x2 => ?_)
    refine J_istore_n (lv' := [(2, vI x2), (0, vR (uB u) 0), (1, vI p0)]) G dX8_beam_20 rfl (by decide) rfl ?_
    refine J_aload_n G 1 dX8_beam_21 rfl ?_
    refine J_getR (d := 1) (k := 0) G cls_8 wf_X8_14 kd_0 rfl rfl dX8_beam_22 ?_
    refine J_iload_n G 2 dX8_beam_25 rfl ?_
    refine J_cVwV (As := [vI p0]) G (mX0_clear u 1 kd_1 p0 mem) sg_X0_clear sv_X0_clear wm_X8_74 cls_0 kd_1 rfl ⟨by decide, by decide⟩ rfl rfl (Nat.le_of_ble_eq_true rfl) dX8_beam_26 ?_
    intro m3
    refine J_aload_n G 1 dX8_beam_29 rfl ?_
    refine J_getR (d := 10) (k := 1) G cls_8 wf_X8_21 kd_0 rfl rfl dX8_beam_30 ?_
    refine J_cVwV (As := []) G (mX1_forget u m3) sg_X1_forget sv_X1_forget wm_X8_78 cls_1 kd_10 rfl ⟨by decide, by decide⟩ rfl rfl (Nat.le_of_ble_eq_true rfl) dX8_beam_33 ?_
    intro m4
    refine J_iload_n G 0 dX8_beam_36 rfl ?_
    exact J_iret G dX8_beam_37 rfl
  · refine J_iconst G dX8_beam_11 ?_
    exact J_iret G dX8_beam_12 rfl
theorem mX0_isPlace (u : jU) (a : Nat) (ha : kd a = 0) (p0 : Int) (mem : Mem) : jMet u yX0_isPlace cX0_isPlace 2 (some .boolean) (jRm 0 0) [vR (uB u) a, vI p0] mem (EpI mem) (Beam_isPlace a p0 mem) := by
  refine jMet_of (by decide +kernel) (Nat.le_of_ble_eq_true rfl) (fun x G => ?_)
  show J u x 2 (jQ u x (EpI mem)) 0 [(0, vR (uB u) a), (1, vI p0)] [] mem _
  unfold Beam_isPlace
  refine J_iload_n G 1 dX0_isPlace_0 rfl ?_
  refine J_if_lt 16 G dX0_isPlace_1 (by decide) ?_ ?_
  · refine J_iconst G dX0_isPlace_16 ?_
    exact J_zret G dX0_isPlace_17 (by decide) rfl
  · refine J_iload_n G 1 dX0_isPlace_4 rfl ?_
    refine J_aload_n G 0 dX0_isPlace_5 rfl ?_
    refine J_getI (i := 0) (k := 0) G cls_0 wf_X0_9 ha rfl rfl dX0_isPlace_6 ?_
    refine J_icmp_gt 16 G dX0_isPlace_9 (by decide) ?_ ?_
    · refine J_iconst G dX0_isPlace_16 ?_
      exact J_zret G dX0_isPlace_17 (by decide) rfl
    · refine J_iconst G dX0_isPlace_12 ?_
      refine J_goto 17 G dX0_isPlace_13 (by decide) ?_
      exact J_zret G dX0_isPlace_17 (by decide) rfl
theorem jBeam_numberAt_L2 {u : jU} {x : jX} (G : jG u x cX0_numberAt RX0 3 (some .int) (jRm 0 0)) (a : Nat) (p0 : Int) (mem : Mem) (ha : kd a = 0) : ∀ (n : Nat) (i1 : Int), J u x 3 (jQ u x (EpI mem)) 2 [(0, vR (uB u) a), (1, vI p0), (2, vI i1)] [] mem (Beam_numberAt_L2 a p0 mem n i1) := by
  intro n
  induction n with
  | zero => intro i1; exact J_none
  | succ n ih =>
    intro i1
    rw [Beam_numberAt_L2]
    refine J_iload_n G 2 dX0_numberAt_2 rfl ?_
    refine J_aload_n G 0 dX0_numberAt_3 rfl ?_
    refine J_getI (i := 1) (k := 1) G cls_0 wf_X0_40 ha rfl rfl dX0_numberAt_4 ?_
    refine J_icmp_ge 28 G dX0_numberAt_7 (by decide) ?_ ?_
    · refine J_iconst G dX0_numberAt_28 ?_
      exact J_iret G dX0_numberAt_29 rfl
    · refine J_aload_n G 0 dX0_numberAt_10 rfl ?_
      refine J_getR (d := (a + 1)) (k := 2) G cls_0 wf_X0_15 ha rfl rfl dX0_numberAt_11 ?_
      refine J_iload_n G 2 dX0_numberAt_14 rfl ?_
      refine J_iald G (bk_1 ha) (bl_1 ha) dX0_numberAt_15 ?_
      refine J_iload_n G 1 dX0_numberAt_16 rfl ?_
      refine J_icmp_ne 22 G dX0_numberAt_17 (by decide) ?_ ?_
      · refine J_iinc (lv' := [(2, vI (i1 + 1)), (0, vR (uB u) a), (1, vI p0)]) G 2 dX0_numberAt_22 rfl (by decide) rfl ?_
        refine J_goto 2 G dX0_numberAt_25 (by decide) ?_
        refine J_lv [1, 2, 0] rfl ?_
        exact ih (i1 + 1)
      · refine J_iload_n G 2 dX0_numberAt_20 rfl ?_
        exact J_iret G dX0_numberAt_21 rfl
theorem mX0_numberAt (u : jU) (a : Nat) (ha : kd a = 0) (p0 : Int) (mem : Mem) : jMet u yX0_numberAt cX0_numberAt 3 (some .int) (jRm 0 0) [vR (uB u) a, vI p0] mem (EpI mem) (Beam_numberAt a p0 mem) := by
  refine jMet_of (by decide +kernel) (Nat.le_of_ble_eq_true rfl) (fun x G => ?_)
  show J u x 3 (jQ u x (EpI mem)) 0 [(0, vR (uB u) a), (1, vI p0)] [] mem _
  unfold Beam_numberAt
  refine J_iconst G dX0_numberAt_0 ?_
  refine J_istore_n (lv' := [(2, vI 0), (0, vR (uB u) a), (1, vI p0)]) G dX0_numberAt_1 rfl (by decide) rfl ?_
  refine J_lv [1, 2, 0] rfl ?_
  exact jBeam_numberAt_L2 G a p0 mem ha 2000 0
theorem mX0_whyNotSupport (u : jU) (a : Nat) (ha : kd a = 0) (p0 : Int) (mem : Mem) : jMet u yX0_whyNotSupport cX0_whyNotSupport 2 (some .int) (jRm 1 22) [vR (uB u) a, vI p0] mem (EpI mem) (Beam_whyNotSupport a p0 mem) := by
  refine jMet_of (by decide +kernel) (Nat.le_of_ble_eq_true rfl) (fun x G => ?_)
  show J u x 2 (jQ u x (EpI mem)) 0 [(0, vR (uB u) a), (1, vI p0)] [] mem _
  unfold Beam_whyNotSupport
  refine J_aload_n G 0 dX0_whyNotSupport_0 rfl ?_
  refine J_iload_n G 1 dX0_whyNotSupport_1 rfl ?_
  refine J_cVpI (As := [vI p0]) G (mX0_isPlace u a ha p0 mem) sg_X0_isPlace sv_X0_isPlace wm_X0_55 cls_0 ha rfl ⟨by decide, by decide⟩ rfl rfl (Nat.le_of_ble_eq_true rfl) dX0_whyNotSupport_2 ?_
  intro r1
  refine J_if_ne 10 G dX0_whyNotSupport_5 (by decide) ?_ ?_
  · refine J_aload_n G 0 dX0_whyNotSupport_10 rfl ?_
    refine J_iload_n G 1 dX0_whyNotSupport_11 rfl ?_
    refine J_cVpI (As := [vI p0]) G (mX0_numberAt u a ha p0 mem) sg_X0_numberAt sv_X0_numberAt wm_X0_59 cls_0 ha rfl ⟨by decide, by decide⟩ rfl rfl (Nat.le_of_ble_eq_true rfl) dX0_whyNotSupport_12 ?_
    intro r2
    refine J_if_lt 21 G dX0_whyNotSupport_15 (by decide) ?_ ?_
    · refine J_aload_n G 0 dX0_whyNotSupport_21 rfl ?_
      refine J_getI (i := 1) (k := 1) G cls_0 wf_X0_40 ha rfl rfl dX0_whyNotSupport_22 ?_
      refine J_iconst G dX0_whyNotSupport_25 ?_
      refine J_icmp_lt 34 G dX0_whyNotSupport_26 (by decide) ?_ ?_
      · refine J_iconst G dX0_whyNotSupport_34 ?_
        exact J_iret G dX0_whyNotSupport_35 rfl
      · refine J_bipush G dX0_whyNotSupport_29 (by decide) ?_
        refine J_goto 35 G dX0_whyNotSupport_31 (by decide) ?_
        exact J_iret G dX0_whyNotSupport_35 rfl
    · refine J_bipush G dX0_whyNotSupport_18 (by decide) ?_
      exact J_iret G dX0_whyNotSupport_20 rfl
  · refine J_iconst G dX0_whyNotSupport_8 ?_
    exact J_iret G dX0_whyNotSupport_9 rfl
theorem mX0_become (u : jU) (a : Nat) (b : Nat) (ha : kd a = 0) (hb : kd b = 0) (mem : Mem) : jMet u yX0_become cX0_become 2 none (jRm 1 48) [vR (uB u) a, vR (uB u) b] mem EwV (Beam_become a b mem) := by
  refine jMet_of (by decide +kernel) (Nat.le_of_ble_eq_true rfl) (fun x G => ?_)
  show J u x 2 (jQ u x EwV) 0 [(0, vR (uB u) a), (1, vR (uB u) b)] [] mem _
  unfold Beam_become
  refine J_aload_n G 0 dX0_become_0 rfl ?_
  refine J_aload_n G 1 dX0_become_1 rfl ?_
  refine J_getI (i := 0) (k := 0) G cls_0 wf_X0_9 hb rfl rfl dX0_become_2 ?_
  refine J_putI (i := 0) (k := 0) G cls_0 wf_X0_9 ha rfl rfl rfl rfl dX0_become_5 ?_
  refine J_ltM (fun m1 => ?_)
  refine J_aload_n G 0 dX0_become_8 rfl ?_
  refine J_aload_n G 1 dX0_become_9 rfl ?_
  refine J_getI (i := 1) (k := 1) G cls_0 wf_X0_40 hb rfl rfl dX0_become_10 ?_
  refine J_putI (i := 1) (k := 1) G cls_0 wf_X0_40 ha rfl rfl rfl rfl dX0_become_13 ?_
  refine J_ltM (fun m2 => ?_)
  refine J_aload_n G 1 dX0_become_16 rfl ?_
  refine J_getR (d := (b + 1)) (k := 2) G cls_0 wf_X0_15 hb rfl rfl dX0_become_17 ?_
  refine J_iconst G dX0_become_20 ?_
  refine J_aload_n G 0 dX0_become_21 rfl ?_
  refine J_getR (d := (a + 1)) (k := 2) G cls_0 wf_X0_15 ha rfl rfl dX0_become_22 ?_
  refine J_iconst G dX0_become_25 ?_
  refine J_iconst G dX0_become_26 ?_
  refine J_copyI (n := 4) G wm_X0_43 w_copy1 w_copy2 w_copy3 (bk_1 hb) (bk_1 ha) (by rw [(bl_1 hb)]; decide) (by rw [(bl_1 ha)]; decide) (by decide) rfl ⟨by decide, Nat.le_of_ble_eq_true rfl⟩ dX0_become_27 ?_
  refine J_ltM (fun m3 => ?_)
  refine J_aload_n G 1 dX0_become_30 rfl ?_
  refine J_getR (d := (b + 2)) (k := 3) G cls_0 wf_X0_19 hb rfl rfl dX0_become_31 ?_
  refine J_iconst G dX0_become_34 ?_
  refine J_aload_n G 0 dX0_become_35 rfl ?_
  refine J_getR (d := (a + 2)) (k := 3) G cls_0 wf_X0_19 ha rfl rfl dX0_become_36 ?_
  refine J_iconst G dX0_become_39 ?_
  refine J_iconst G dX0_become_40 ?_
  refine J_copyI (n := 4) G wm_X0_43 w_copy1 w_copy2 w_copy3 (bk_2 hb) (bk_2 ha) (by rw [(bl_2 hb)]; decide) (by rw [(bl_2 ha)]; decide) (by decide) rfl ⟨by decide, Nat.le_of_ble_eq_true rfl⟩ dX0_become_41 ?_
  refine J_ltM (fun m4 => ?_)
  refine J_aload_n G 0 dX0_become_44 rfl ?_
  refine J_aload_n G 1 dX0_become_45 rfl ?_
  refine J_getI (i := 4) (k := 4) G cls_0 wf_X0_49 hb rfl rfl dX0_become_46 ?_
  refine J_putI (i := 4) (k := 4) G cls_0 wf_X0_49 ha rfl rfl rfl rfl dX0_become_49 ?_
  refine J_ltM (fun m5 => ?_)
  refine J_aload_n G 1 dX0_become_52 rfl ?_
  refine J_getR (d := (b + 3)) (k := 5) G cls_0 wf_X0_22 hb rfl rfl dX0_become_53 ?_
  refine J_iconst G dX0_become_56 ?_
  refine J_aload_n G 0 dX0_become_57 rfl ?_
  refine J_getR (d := (a + 3)) (k := 5) G cls_0 wf_X0_22 ha rfl rfl dX0_become_58 ?_
  refine J_iconst G dX0_become_61 ?_
  refine J_bipush G dX0_become_62 (by decide) ?_
  refine J_copyI (n := 6) G wm_X0_43 w_copy1 w_copy2 w_copy3 (bk_3 hb) (bk_3 ha) (by rw [(bl_3 hb)]; decide) (by rw [(bl_3 ha)]; decide) (by decide) rfl ⟨by decide, Nat.le_of_ble_eq_true rfl⟩ dX0_become_64 ?_
  refine J_ltM (fun m6 => ?_)
  refine J_aload_n G 1 dX0_become_67 rfl ?_
  refine J_getR (d := (b + 4)) (k := 6) G cls_0 wf_X0_25 hb rfl rfl dX0_become_68 ?_
  refine J_iconst G dX0_become_71 ?_
  refine J_aload_n G 0 dX0_become_72 rfl ?_
  refine J_getR (d := (a + 4)) (k := 6) G cls_0 wf_X0_25 ha rfl rfl dX0_become_73 ?_
  refine J_iconst G dX0_become_76 ?_
  refine J_bipush G dX0_become_77 (by decide) ?_
  refine J_copyI (n := 6) G wm_X0_43 w_copy1 w_copy2 w_copy3 (bk_4 hb) (bk_4 ha) (by rw [(bl_4 hb)]; decide) (by rw [(bl_4 ha)]; decide) (by decide) rfl ⟨by decide, Nat.le_of_ble_eq_true rfl⟩ dX0_become_79 ?_
  refine J_ltM (fun m7 => ?_)
  refine J_aload_n G 1 dX0_become_82 rfl ?_
  refine J_getR (d := (b + 5)) (k := 7) G cls_0 wf_X0_28 hb rfl rfl dX0_become_83 ?_
  refine J_iconst G dX0_become_86 ?_
  refine J_aload_n G 0 dX0_become_87 rfl ?_
  refine J_getR (d := (a + 5)) (k := 7) G cls_0 wf_X0_28 ha rfl rfl dX0_become_88 ?_
  refine J_iconst G dX0_become_91 ?_
  refine J_bipush G dX0_become_92 (by decide) ?_
  refine J_copyI (n := 6) G wm_X0_43 w_copy1 w_copy2 w_copy3 (bk_5 hb) (bk_5 ha) (by rw [(bl_5 hb)]; decide) (by rw [(bl_5 ha)]; decide) (by decide) rfl ⟨by decide, Nat.le_of_ble_eq_true rfl⟩ dX0_become_94 ?_
  refine J_ltM (fun m8 => ?_)
  refine J_aload_n G 1 dX0_become_97 rfl ?_
  refine J_getR (d := (b + 6)) (k := 8) G cls_0 wf_X0_31 hb rfl rfl dX0_become_98 ?_
  refine J_iconst G dX0_become_101 ?_
  refine J_aload_n G 0 dX0_become_102 rfl ?_
  refine J_getR (d := (a + 6)) (k := 8) G cls_0 wf_X0_31 ha rfl rfl dX0_become_103 ?_
  refine J_iconst G dX0_become_106 ?_
  refine J_bipush G dX0_become_107 (by decide) ?_
  refine J_copyI (n := 6) G wm_X0_43 w_copy1 w_copy2 w_copy3 (bk_6 hb) (bk_6 ha) (by rw [(bl_6 hb)]; decide) (by rw [(bl_6 ha)]; decide) (by decide) rfl ⟨by decide, Nat.le_of_ble_eq_true rfl⟩ dX0_become_109 ?_
  refine J_ltM (fun m9 => ?_)
  refine J_aload_n G 0 dX0_become_112 rfl ?_
  refine J_aload_n G 1 dX0_become_113 rfl ?_
  refine J_getI (i := 9) (k := 9) G cls_0 wf_X0_52 hb rfl rfl dX0_become_114 ?_
  refine J_putI (i := 9) (k := 9) G cls_0 wf_X0_52 ha rfl rfl rfl rfl dX0_become_117 ?_
  refine J_ltM (fun m10 => ?_)
  refine J_aload_n G 1 dX0_become_120 rfl ?_
  refine J_getR (d := (b + 7)) (k := 10) G cls_0 wf_X0_34 hb rfl rfl dX0_become_121 ?_
  refine J_iconst G dX0_become_124 ?_
  refine J_aload_n G 0 dX0_become_125 rfl ?_
  refine J_getR (d := (a + 7)) (k := 10) G cls_0 wf_X0_34 ha rfl rfl dX0_become_126 ?_
  refine J_iconst G dX0_become_129 ?_
  refine J_iconst G dX0_become_130 ?_
  refine J_copyI (n := 3) G wm_X0_43 w_copy1 w_copy2 w_copy3 (bk_7 hb) (bk_7 ha) (by rw [(bl_7 hb)]; decide) (by rw [(bl_7 ha)]; decide) (by decide) rfl ⟨by decide, Nat.le_of_ble_eq_true rfl⟩ dX0_become_131 ?_
  refine J_ltM (fun m11 => ?_)
  refine J_aload_n G 1 dX0_become_134 rfl ?_
  refine J_getR (d := (b + 8)) (k := 11) G cls_0 wf_X0_37 hb rfl rfl dX0_become_135 ?_
  refine J_iconst G dX0_become_138 ?_
  refine J_aload_n G 0 dX0_become_139 rfl ?_
  refine J_getR (d := (a + 8)) (k := 11) G cls_0 wf_X0_37 ha rfl rfl dX0_become_140 ?_
  refine J_iconst G dX0_become_143 ?_
  refine J_iconst G dX0_become_144 ?_
  refine J_copyI (n := 3) G wm_X0_43 w_copy1 w_copy2 w_copy3 (bk_8 hb) (bk_8 ha) (by rw [(bl_8 hb)]; decide) (by rw [(bl_8 ha)]; decide) (by decide) rfl ⟨by decide, Nat.le_of_ble_eq_true rfl⟩ dX0_become_145 ?_
  refine J_ltM (fun m12 => ?_)
  exact J_vret G dX0_become_148 rfl
theorem mX1_keep (u : jU) (mem : Mem) : jMet u yX1_keep cX1_keep 3 none (jRm 2 69) [vR (uB u) 10, vR (uB u) 1] mem EwV (Chg_keep mem) := by
  refine jMet_of (by decide +kernel) (Nat.le_of_ble_eq_true rfl) (fun x G => ?_)
  show J u x 3 (jQ u x EwV) 0 [(0, vR (uB u) 10), (1, vR (uB u) 1)] [] mem _
  unfold Chg_keep
  refine J_aload_n G 0 dX1_keep_0 rfl ?_
  refine J_getR (d := 11) (k := 2) G cls_1 wf_X1_11 kd_10 rfl rfl dX1_keep_1 ?_
  refine J_aload_n G 0 dX1_keep_4 rfl ?_
  refine J_getI (i := 1) (k := 1) G cls_1 wf_X1_18 kd_10 rfl rfl dX1_keep_5 ?_
  refine J_olds G dX1_keep_8 (fun q1 hq1 => ?_)
  refine J_astore_n (lv' := [(2, vR (uB u) q1), (0, vR (uB u) 10), (1, vR (uB u) 1)]) G dX1_keep_9 rfl (by decide) rfl ?_
  refine J_aload_n G 0 dX1_keep_10 rfl ?_
  refine J_ifnull G dX1_keep_11 ?_
  refine J_aload_n G 0 dX1_keep_14 rfl ?_
  refine J_aload_n G 2 dX1_keep_15 rfl ?_
  refine J_cVwV (As := [vR (uB u) 1]) G (mX0_become u q1 1 hq1 kd_1 mem) sg_X0_become sv_X0_become wm_X1_22 cls_0 hq1 rfl ⟨by decide, by decide⟩ rfl rfl (Nat.le_of_ble_eq_true rfl) dX1_keep_16 ?_
  intro m2
  refine J_aload_n G 1 dX1_keep_19 rfl ?_
  refine J_aload_n G 1 dX1_keep_20 rfl ?_
  refine J_getI (i := 1) (k := 1) G cls_1 wf_X1_18 kd_10 rfl rfl dX1_keep_21 ?_
  refine J_bipush G dX1_keep_24 (by decide) ?_
  refine J_jn (fun g => ∀ x3, J u x 3 (jQ u x EwV) 39 [(0, vR (uB u) 10)] [vI x3, vR (uB u) 10] m2 (g x3)) ?_ ?_
  · intro x3
    refine J_putI (i := 1) (k := 1) G cls_1 wf_X1_18 kd_10 rfl rfl rfl rfl dX1_keep_39 ?_
    refine J_ltM (fun m4 => ?_)
    refine J_aload_n G 0 dX1_keep_42 rfl ?_
    refine J_aload_n G 0 dX1_keep_43 rfl ?_
    refine J_getI (i := 0) (k := 0) G cls_1 wf_X1_26 kd_10 rfl rfl dX1_keep_44 ?_
    refine J_iconst G dX1_keep_47 ?_
    refine J_iadd G dX1_keep_48 ?_
    refine J_bipush G dX1_keep_49 (by decide) ?_
    refine J_imin G wm_X1_29 w_imin1 w_math w_imin2 ⟨by decide, Nat.le_of_ble_eq_true rfl⟩ dX1_keep_51 ?_
    refine J_putI (i := 0) (k := 0) G cls_1 wf_X1_26 kd_10 rfl rfl rfl rfl dX1_keep_54 ?_
    refine J_ltM (fun m5 => ?_)
    exact J_vret G dX1_keep_57 rfl
  · intro k39 hk39
    refine J_icmp_ne 33 G dX1_keep_26 (by decide) ?_ ?_
    · refine J_aload_n G 1 dX1_keep_33 rfl ?_
      refine J_getI (i := 1) (k := 1) G cls_1 wf_X1_18 kd_10 rfl rfl dX1_keep_34 ?_
      refine J_iconst G dX1_keep_37 ?_
      refine J_iadd G dX1_keep_38 ?_
      refine J_lv [1] rfl ?_
      exact hk39 ((m2 10 1) + 1)
    · refine J_iconst G dX1_keep_29 ?_
      refine J_goto 39 G dX1_keep_30 (by decide) ?_
      refine J_lv [1] rfl ?_
      exact hk39 0
theorem jBeam_putSupport_L16 {u : jU} {x : jX} (G : jG u x cX0_putSupport RX0 3 (some .int) (jRm 0 0)) (a : Nat) (p0 : Int) (k66 : Int → Mem → Option (Int × Mem)) (ha : kd a = 0) (hk66 : (fun g => ∀ x2 m3, J u x 3 (jQ u x EwI) 66 [(0, vR (uB u) a), (1, vI p0), (2, vI x2)] [] m3 (g x2 m3)) k66) : ∀ (n : Nat) (i7 : Int) (m8 : Mem), J u x 3 (jQ u x EwI) 16 [(0, vR (uB u) a), (1, vI p0), (2, vI i7)] [] m8 (Beam_putSupport_L16 a p0 k66 n i7 m8) := by
  intro n
  induction n with
  | zero => intro i7 m8; exact J_none
  | succ n ih =>
    intro i7 m8
    rw [Beam_putSupport_L16]
    refine J_iload_n G 2 dX0_putSupport_16 rfl ?_
    refine J_if_le 66 G dX0_putSupport_17 (by decide) ?_ ?_
    · exact hk66 i7 m8
    · refine J_aload_n G 0 dX0_putSupport_20 rfl ?_
      refine J_getR (d := (a + 1)) (k := 2) G cls_0 wf_X0_15 ha rfl rfl dX0_putSupport_21 ?_
      refine J_iload_n G 2 dX0_putSupport_24 rfl ?_
      refine J_iconst G dX0_putSupport_25 ?_
      refine J_isub G dX0_putSupport_26 ?_
      refine J_iald G (bk_1 ha) (bl_1 ha) dX0_putSupport_27 ?_
      refine J_iload_n G 1 dX0_putSupport_28 rfl ?_
      refine J_icmp_le 66 G dX0_putSupport_29 (by decide) ?_ ?_
      · exact hk66 i7 m8
      · refine J_aload_n G 0 dX0_putSupport_32 rfl ?_
        refine J_getR (d := (a + 1)) (k := 2) G cls_0 wf_X0_15 ha rfl rfl dX0_putSupport_33 ?_
        refine J_iload_n G 2 dX0_putSupport_36 rfl ?_
        refine J_aload_n G 0 dX0_putSupport_37 rfl ?_
        refine J_getR (d := (a + 1)) (k := 2) G cls_0 wf_X0_15 ha rfl rfl dX0_putSupport_38 ?_
        refine J_iload_n G 2 dX0_putSupport_41 rfl ?_
        refine J_iconst G dX0_putSupport_42 ?_
        refine J_isub G dX0_putSupport_43 ?_
        refine J_iald G (bk_1 ha) (bl_1 ha) dX0_putSupport_44 ?_
        refine J_iast G (bk_1 ha) (bl_1 ha) dX0_putSupport_45 ?_
        refine J_ltM (fun m9 => ?_)
        refine J_aload_n G 0 dX0_putSupport_46 rfl ?_
        refine J_getR (d := (a + 2)) (k := 3) G cls_0 wf_X0_19 ha rfl rfl dX0_putSupport_47 ?_
        refine J_iload_n G 2 dX0_putSupport_50 rfl ?_
        refine J_aload_n G 0 dX0_putSupport_51 rfl ?_
        refine J_getR (d := (a + 2)) (k := 3) G cls_0 wf_X0_19 ha rfl rfl dX0_putSupport_52 ?_
        refine J_iload_n G 2 dX0_putSupport_55 rfl ?_
        refine J_iconst G dX0_putSupport_56 ?_
        refine J_isub G dX0_putSupport_57 ?_
        refine J_iald G (bk_2 ha) (bl_2 ha) dX0_putSupport_58 ?_
        refine J_iast G (bk_2 ha) (bl_2 ha) dX0_putSupport_59 ?_
        refine J_ltM (fun m10 => ?_)
        refine J_iinc (lv' := [(2, vI (i7 + -1)), (0, vR (uB u) a), (1, vI p0)]) G 2 dX0_putSupport_60 rfl (by decide) rfl ?_
        refine J_goto 16 G dX0_putSupport_63 (by decide) ?_
        refine J_lv [1, 2, 0] rfl ?_
        exact ih (i7 + -1) m10
theorem mX0_putSupport (u : jU) (a : Nat) (ha : kd a = 0) (p0 : Int) (mem : Mem) : jMet u yX0_putSupport cX0_putSupport 3 (some .int) (jRm 0 0) [vR (uB u) a, vI p0] mem EwI (Beam_putSupport a p0 mem) := by
  refine jMet_of (by decide +kernel) (Nat.le_of_ble_eq_true rfl) (fun x G => ?_)
  show J u x 3 (jQ u x EwI) 0 [(0, vR (uB u) a), (1, vI p0)] [] mem _
  unfold Beam_putSupport
  refine J_aload_n G 0 dX0_putSupport_0 rfl ?_
  refine J_getI (i := 1) (k := 1) G cls_0 wf_X0_40 ha rfl rfl dX0_putSupport_1 ?_
  refine J_iconst G dX0_putSupport_4 ?_
  refine J_icmp_lt 11 G dX0_putSupport_5 (by decide) ?_ ?_
  · refine J_aload_n G 0 dX0_putSupport_11 rfl ?_
    refine J_getI (i := 1) (k := 1) G cls_0 wf_X0_40 ha rfl rfl dX0_putSupport_12 ?_
    refine J_ltI (fun x1 => ?_)
    refine J_istore_n (lv' := [(2, vI x1), (0, vR (uB u) a), (1, vI p0)]) G dX0_putSupport_15 rfl (by decide) rfl ?_
    refine J_jn (fun g => ∀ x2 m3, J u x 3 (jQ u x EwI) 66 [(0, vR (uB u) a), (1, vI p0), (2, vI x2)] [] m3 (g x2 m3)) ?_ ?_
    · intro x2 m3
      refine J_aload_n G 0 dX0_putSupport_66 rfl ?_
      refine J_getR (d := (a + 1)) (k := 2) G cls_0 wf_X0_15 ha rfl rfl dX0_putSupport_67 ?_
      refine J_iload_n G 2 dX0_putSupport_70 rfl ?_
      refine J_iload_n G 1 dX0_putSupport_71 rfl ?_
      refine J_iast G (bk_1 ha) (bl_1 ha) dX0_putSupport_72 ?_
      refine J_ltM (fun m4 => ?_)
      refine J_aload_n G 0 dX0_putSupport_73 rfl ?_
      refine J_getR (d := (a + 2)) (k := 3) G cls_0 wf_X0_19 ha rfl rfl dX0_putSupport_74 ?_
      refine J_iload_n G 2 dX0_putSupport_77 rfl ?_
      refine J_iconst G dX0_putSupport_78 ?_
      refine J_iast G (bk_2 ha) (bl_2 ha) dX0_putSupport_79 ?_
      refine J_ltM (fun m5 => ?_)
      refine J_aload_n G 0 dX0_putSupport_80 rfl ?_
      refine J_dup G dX0_putSupport_81 rfl ?_
      refine J_getI (i := 1) (k := 1) G cls_0 wf_X0_40 ha rfl rfl dX0_putSupport_82 ?_
      refine J_iconst G dX0_putSupport_85 ?_
      refine J_iadd G dX0_putSupport_86 ?_
      refine J_putI (i := 1) (k := 1) G cls_0 wf_X0_40 ha rfl rfl rfl rfl dX0_putSupport_87 ?_
      refine J_ltM (fun m6 => ?_)
      refine J_iload_n G 2 dX0_putSupport_90 rfl ?_
      exact J_iret G dX0_putSupport_91 rfl
    · intro k66 hk66
      refine J_lv [1, 2, 0] rfl ?_
      exact jBeam_putSupport_L16 G a p0 k66 ha hk66 2000 x1 mem
  · refine J_bipush G dX0_putSupport_8 (by decide) ?_
    exact J_iret G dX0_putSupport_10 rfl
theorem mX8_support (u : jU) (p0 : Int) (mem : Mem) : jMet u yX8_support cX8_support 3 (some .int) (jRm 3 91) [vR (uB u) 0, vI p0] mem EwI (BP_support p0 mem) := by
  refine jMet_of (by decide +kernel) (Nat.le_of_ble_eq_true rfl) (fun x G => ?_)
  show J u x 3 (jQ u x EwI) 0 [(0, vR (uB u) 0), (1, vI p0)] [] mem _
  unfold BP_support
  refine J_aload_n G 0 dX8_support_0 rfl ?_
  refine J_getR (d := 1) (k := 0) G cls_8 wf_X8_14 kd_0 rfl rfl dX8_support_1 ?_
  refine J_iload_n G 1 dX8_support_4 rfl ?_
  refine J_cVpI (As := [vI p0]) G (mX0_whyNotSupport u 1 kd_1 p0 mem) sg_X0_whyNotSupport sv_X0_whyNotSupport wm_X8_81 cls_0 kd_1 rfl ⟨by decide, by decide⟩ rfl rfl (Nat.le_of_ble_eq_true rfl) dX8_support_5 ?_
  intro r1
  refine J_istore_n (lv' := [(2, vI r1), (0, vR (uB u) 0), (1, vI p0)]) G dX8_support_8 rfl (by decide) rfl ?_
  refine J_iload_n G 0 dX8_support_9 rfl ?_
  refine J_if_eq 15 G dX8_support_10 (by decide) ?_ ?_
  · refine J_aload_n G 1 dX8_support_15 rfl ?_
    refine J_getR (d := 10) (k := 1) G cls_8 wf_X8_21 kd_0 rfl rfl dX8_support_16 ?_
    refine J_aload_n G 1 dX8_support_19 rfl ?_
    refine J_getR (d := 1) (k := 0) G cls_8 wf_X8_14 kd_0 rfl rfl dX8_support_20 ?_
    refine J_cVwV (As := [vR (uB u) 1]) G (mX1_keep u mem) sg_X1_keep sv_X1_keep wm_X8_84 cls_1 kd_10 rfl ⟨by decide, by decide⟩ rfl rfl (Nat.le_of_ble_eq_true rfl) dX8_support_23 ?_
    intro m2
    refine J_aload_n G 1 dX8_support_26 rfl ?_
    refine J_getR (d := 1) (k := 0) G cls_8 wf_X8_14 kd_0 rfl rfl dX8_support_27 ?_
    refine J_iload_n G 2 dX8_support_30 rfl ?_
    refine J_cVwI (As := [vI p0]) G (mX0_putSupport u 1 kd_1 p0 m2) sg_X0_putSupport sv_X0_putSupport wm_X8_88 cls_0 kd_1 rfl ⟨by decide, by decide⟩ rfl rfl (Nat.le_of_ble_eq_true rfl) dX8_support_31 ?_
    intro r3 m4
    exact J_iret G dX8_support_34 rfl
  · refine J_iload_n G 0 dX8_support_13 rfl ?_
    exact J_iret G dX8_support_14 rfl
theorem mX0_whyNotAtSupport (u : jU) (a : Nat) (ha : kd a = 0) (p0 : Int) (mem : Mem) : jMet u yX0_whyNotAtSupport cX0_whyNotAtSupport 2 (some .int) (jRm 1 22) [vR (uB u) a, vI p0] mem (EpI mem) (Beam_whyNotAtSupport a p0 mem) := by
  refine jMet_of (by decide +kernel) (Nat.le_of_ble_eq_true rfl) (fun x G => ?_)
  show J u x 2 (jQ u x (EpI mem)) 0 [(0, vR (uB u) a), (1, vI p0)] [] mem _
  unfold Beam_whyNotAtSupport
  refine J_aload_n G 0 dX0_whyNotAtSupport_0 rfl ?_
  refine J_iload_n G 1 dX0_whyNotAtSupport_1 rfl ?_
  refine J_cVpI (As := [vI p0]) G (mX0_isPlace u a ha p0 mem) sg_X0_isPlace sv_X0_isPlace wm_X0_55 cls_0 ha rfl ⟨by decide, by decide⟩ rfl rfl (Nat.le_of_ble_eq_true rfl) dX0_whyNotAtSupport_2 ?_
  intro r1
  refine J_if_ne 10 G dX0_whyNotAtSupport_5 (by decide) ?_ ?_
  · refine J_aload_n G 0 dX0_whyNotAtSupport_10 rfl ?_
    refine J_iload_n G 1 dX0_whyNotAtSupport_11 rfl ?_
    refine J_cVpI (As := [vI p0]) G (mX0_numberAt u a ha p0 mem) sg_X0_numberAt sv_X0_numberAt wm_X0_59 cls_0 ha rfl ⟨by decide, by decide⟩ rfl rfl (Nat.le_of_ble_eq_true rfl) dX0_whyNotAtSupport_12 ?_
    intro r2
    refine J_if_ge 23 G dX0_whyNotAtSupport_15 (by decide) ?_ ?_
    · refine J_iconst G dX0_whyNotAtSupport_23 ?_
      exact J_iret G dX0_whyNotAtSupport_24 rfl
    · refine J_bipush G dX0_whyNotAtSupport_18 (by decide) ?_
      refine J_goto 24 G dX0_whyNotAtSupport_20 (by decide) ?_
      exact J_iret G dX0_whyNotAtSupport_24 rfl
  · refine J_iconst G dX0_whyNotAtSupport_8 ?_
    exact J_iret G dX0_whyNotAtSupport_9 rfl
theorem mX0_isSupport (u : jU) (a : Nat) (ha : kd a = 0) (p0 : Int) (mem : Mem) : jMet u yX0_isSupport cX0_isSupport 2 (some .boolean) (jRm 0 0) [vR (uB u) a, vI p0] mem (EpI mem) (Beam_isSupport a p0 mem) := by
  refine jMet_of (by decide +kernel) (Nat.le_of_ble_eq_true rfl) (fun x G => ?_)
  show J u x 2 (jQ u x (EpI mem)) 0 [(0, vR (uB u) a), (1, vI p0)] [] mem _
  unfold Beam_isSupport
  refine J_iload_n G 1 dX0_isSupport_0 rfl ?_
  refine J_if_lt 16 G dX0_isSupport_1 (by decide) ?_ ?_
  · refine J_iconst G dX0_isSupport_16 ?_
    exact J_zret G dX0_isSupport_17 (by decide) rfl
  · refine J_iload_n G 1 dX0_isSupport_4 rfl ?_
    refine J_aload_n G 0 dX0_isSupport_5 rfl ?_
    refine J_getI (i := 1) (k := 1) G cls_0 wf_X0_40 ha rfl rfl dX0_isSupport_6 ?_
    refine J_icmp_ge 16 G dX0_isSupport_9 (by decide) ?_ ?_
    · refine J_iconst G dX0_isSupport_16 ?_
      exact J_zret G dX0_isSupport_17 (by decide) rfl
    · refine J_iconst G dX0_isSupport_12 ?_
      refine J_goto 17 G dX0_isSupport_13 (by decide) ?_
      exact J_zret G dX0_isSupport_17 (by decide) rfl
theorem jBeam_takeSupport_L13 {u : jU} {x : jX} (G : jG u x cX0_takeSupport RX0 3 (some .int) (jRm 1 21)) (a : Nat) (k57 : Mem → Option (Int × Mem)) (ha : kd a = 0) (hk57 : (fun g => ∀ m2, J u x 3 (jQ u x EwI) 57 [(0, vR (uB u) a)] [] m2 (g m2)) k57) : ∀ (n : Nat) (i4 : Int) (m5 : Mem), J u x 3 (jQ u x EwI) 13 [(0, vR (uB u) a), (2, vI i4)] [] m5 (Beam_takeSupport_L13 a k57 n i4 m5) := by
  intro n
  induction n with
  | zero => intro i4 m5; exact J_none
  | succ n ih =>
    intro i4 m5
    rw [Beam_takeSupport_L13]
    refine J_iload_n G 1 dX0_takeSupport_13 rfl ?_
    refine J_iconst G dX0_takeSupport_14 ?_
    refine J_iadd G dX0_takeSupport_15 ?_
    refine J_aload_n G 0 dX0_takeSupport_16 rfl ?_
    refine J_getI (i := 1) (k := 1) G cls_0 wf_X0_40 ha rfl rfl dX0_takeSupport_17 ?_
    refine J_icmp_ge 57 G dX0_takeSupport_20 (by decide) ?_ ?_
    · refine J_lv [0] rfl ?_
      exact hk57 m5
    · refine J_aload_n G 0 dX0_takeSupport_23 rfl ?_
      refine J_getR (d := (a + 1)) (k := 2) G cls_0 wf_X0_15 ha rfl rfl dX0_takeSupport_24 ?_
      refine J_iload_n G 1 dX0_takeSupport_27 rfl ?_
      refine J_aload_n G 0 dX0_takeSupport_28 rfl ?_
      refine J_getR (d := (a + 1)) (k := 2) G cls_0 wf_X0_15 ha rfl rfl dX0_takeSupport_29 ?_
      refine J_iload_n G 1 dX0_takeSupport_32 rfl ?_
      refine J_iconst G dX0_takeSupport_33 ?_
      refine J_iadd G dX0_takeSupport_34 ?_
      refine J_iald G (bk_1 ha) (bl_1 ha) dX0_takeSupport_35 ?_
      refine J_iast G (bk_1 ha) (bl_1 ha) dX0_takeSupport_36 ?_
      refine J_ltM (fun m6 => ?_)
      refine J_aload_n G 0 dX0_takeSupport_37 rfl ?_
      refine J_getR (d := (a + 2)) (k := 3) G cls_0 wf_X0_19 ha rfl rfl dX0_takeSupport_38 ?_
      refine J_iload_n G 1 dX0_takeSupport_41 rfl ?_
      refine J_aload_n G 0 dX0_takeSupport_42 rfl ?_
      refine J_getR (d := (a + 2)) (k := 3) G cls_0 wf_X0_19 ha rfl rfl dX0_takeSupport_43 ?_
      refine J_iload_n G 1 dX0_takeSupport_46 rfl ?_
      refine J_iconst G dX0_takeSupport_47 ?_
      refine J_iadd G dX0_takeSupport_48 ?_
      refine J_iald G (bk_2 ha) (bl_2 ha) dX0_takeSupport_49 ?_
      refine J_iast G (bk_2 ha) (bl_2 ha) dX0_takeSupport_50 ?_
      refine J_ltM (fun m7 => ?_)
      refine J_iinc (lv' := [(2, vI (i4 + 1)), (0, vR (uB u) a)]) G 1 dX0_takeSupport_51 rfl (by decide) rfl ?_
      refine J_goto 13 G dX0_takeSupport_54 (by decide) ?_
      refine J_lv [1, 0] rfl ?_
      exact ih (i4 + 1) m7
theorem mX0_takeSupport (u : jU) (a : Nat) (ha : kd a = 0) (p0 : Int) (mem : Mem) : jMet u yX0_takeSupport cX0_takeSupport 3 (some .int) (jRm 1 21) [vR (uB u) a, vI p0] mem EwI (Beam_takeSupport a p0 mem) := by
  refine jMet_of (by decide +kernel) (Nat.le_of_ble_eq_true rfl) (fun x G => ?_)
  show J u x 3 (jQ u x EwI) 0 [(0, vR (uB u) a), (1, vI p0)] [] mem _
  unfold Beam_takeSupport
  refine J_aload_n G 0 dX0_takeSupport_0 rfl ?_
  refine J_iload_n G 1 dX0_takeSupport_1 rfl ?_
  refine J_cVpI (As := [vI p0]) G (mX0_isSupport u a ha p0 mem) sg_X0_isSupport sv_X0_isSupport wm_X0_66 cls_0 ha rfl ⟨by decide, by decide⟩ rfl rfl (Nat.le_of_ble_eq_true rfl) dX0_takeSupport_2 ?_
  intro r1
  refine J_if_ne 11 G dX0_takeSupport_5 (by decide) ?_ ?_
  · refine J_iload_n G 1 dX0_takeSupport_11 rfl ?_
    refine J_istore_n (lv' := [(2, vI p0), (0, vR (uB u) a), (1, vI p0)]) G dX0_takeSupport_12 rfl (by decide) rfl ?_
    refine J_jn (fun g => ∀ m2, J u x 3 (jQ u x EwI) 57 [(0, vR (uB u) a)] [] m2 (g m2)) ?_ ?_
    · intro m2
      refine J_aload_n G 0 dX0_takeSupport_57 rfl ?_
      refine J_dup G dX0_takeSupport_58 rfl ?_
      refine J_getI (i := 1) (k := 1) G cls_0 wf_X0_40 ha rfl rfl dX0_takeSupport_59 ?_
      refine J_iconst G dX0_takeSupport_62 ?_
      refine J_isub G dX0_takeSupport_63 ?_
      refine J_putI (i := 1) (k := 1) G cls_0 wf_X0_40 ha rfl rfl rfl rfl dX0_takeSupport_64 ?_
      refine J_ltM (fun m3 => ?_)
      refine J_aload_n G 0 dX0_takeSupport_67 rfl ?_
      refine J_getI (i := 1) (k := 1) G cls_0 wf_X0_40 ha rfl rfl dX0_takeSupport_68 ?_
      exact J_iret G dX0_takeSupport_71 rfl
    · intro k57 hk57
      refine J_lv [1, 0] rfl ?_
      exact jBeam_takeSupport_L13 G a k57 ha hk57 2000 p0 mem
  · refine J_bipush G dX0_takeSupport_8 (by decide) ?_
    exact J_iret G dX0_takeSupport_10 rfl
theorem mX8_drop (u : jU) (p0 : Int) (mem : Mem) : jMet u yX8_drop cX8_drop 3 (some .int) (jRm 3 91) [vR (uB u) 0, vI p0] mem EwI (BP_drop p0 mem) := by
  refine jMet_of (by decide +kernel) (Nat.le_of_ble_eq_true rfl) (fun x G => ?_)
  show J u x 3 (jQ u x EwI) 0 [(0, vR (uB u) 0), (1, vI p0)] [] mem _
  unfold BP_drop
  refine J_aload_n G 0 dX8_drop_0 rfl ?_
  refine J_getR (d := 1) (k := 0) G cls_8 wf_X8_14 kd_0 rfl rfl dX8_drop_1 ?_
  refine J_iload_n G 1 dX8_drop_4 rfl ?_
  refine J_cVpI (As := [vI p0]) G (mX0_whyNotAtSupport u 1 kd_1 p0 mem) sg_X0_whyNotAtSupport sv_X0_whyNotAtSupport wm_X8_91 cls_0 kd_1 rfl ⟨by decide, by decide⟩ rfl rfl (Nat.le_of_ble_eq_true rfl) dX8_drop_5 ?_
  intro r1
  refine J_istore_n (lv' := [(2, vI r1), (0, vR (uB u) 0), (1, vI p0)]) G dX8_drop_8 rfl (by decide) rfl ?_
  refine J_iload_n G 0 dX8_drop_9 rfl ?_
  refine J_if_eq 15 G dX8_drop_10 (by decide) ?_ ?_
  · refine J_aload_n G 1 dX8_drop_15 rfl ?_
    refine J_getR (d := 10) (k := 1) G cls_8 wf_X8_21 kd_0 rfl rfl dX8_drop_16 ?_
    refine J_aload_n G 1 dX8_drop_19 rfl ?_
    refine J_getR (d := 1) (k := 0) G cls_8 wf_X8_14 kd_0 rfl rfl dX8_drop_20 ?_
    refine J_cVwV (As := [vR (uB u) 1]) G (mX1_keep u mem) sg_X1_keep sv_X1_keep wm_X8_84 cls_1 kd_10 rfl ⟨by decide, by decide⟩ rfl rfl (Nat.le_of_ble_eq_true rfl) dX8_drop_23 ?_
    intro m2
    refine J_aload_n G 1 dX8_drop_26 rfl ?_
    refine J_getR (d := 1) (k := 0) G cls_8 wf_X8_14 kd_0 rfl rfl dX8_drop_27 ?_
    refine J_aload_n G 1 dX8_drop_30 rfl ?_
    refine J_getR (d := 1) (k := 0) G cls_8 wf_X8_14 kd_0 rfl rfl dX8_drop_31 ?_
    refine J_iload_n G 2 dX8_drop_34 rfl ?_
    refine J_cVpI (As := [vI p0]) G (mX0_numberAt u 1 kd_1 p0 m2) sg_X0_numberAt sv_X0_numberAt wm_X8_94 cls_0 kd_1 rfl ⟨by decide, by decide⟩ rfl rfl (Nat.le_of_ble_eq_true rfl) dX8_drop_35 ?_
    intro r3
    refine J_cVwI (As := [vI r3]) G (mX0_takeSupport u 1 kd_1 r3 m2) sg_X0_takeSupport sv_X0_takeSupport wm_X8_97 cls_0 kd_1 rfl ⟨by decide, by decide⟩ rfl rfl (Nat.le_of_ble_eq_true rfl) dX8_drop_38 ?_
    intro r4 m5
    exact J_iret G dX8_drop_41 rfl
  · refine J_iload_n G 0 dX8_drop_13 rfl ?_
    exact J_iret G dX8_drop_14 rfl
theorem mX0_putHinge (u : jU) (a : Nat) (ha : kd a = 0) (p0 : Int) (p1 : Int) (mem : Mem) : jMet u yX0_putHinge cX0_putHinge 4 (some .int) (jRm 1 21) [vR (uB u) a, vI p0, vI p1] mem EwI (Beam_putHinge a p0 p1 mem) := by
  refine jMet_of (by decide +kernel) (Nat.le_of_ble_eq_true rfl) (fun x G => ?_)
  show J u x 4 (jQ u x EwI) 0 [(0, vR (uB u) a), (1, vI p0), (2, vI p1)] [] mem _
  unfold Beam_putHinge
  refine J_aload_n G 0 dX0_putHinge_0 rfl ?_
  refine J_iload_n G 1 dX0_putHinge_1 rfl ?_
  refine J_cVpI (As := [vI p0]) G (mX0_isSupport u a ha p0 mem) sg_X0_isSupport sv_X0_isSupport wm_X0_66 cls_0 ha rfl ⟨by decide, by decide⟩ rfl rfl (Nat.le_of_ble_eq_true rfl) dX0_putHinge_2 ?_
  intro r1
  refine J_if_ne 11 G dX0_putHinge_5 (by decide) ?_ ?_
  · refine J_aload_n G 0 dX0_putHinge_11 rfl ?_
    refine J_getR (d := (a + 2)) (k := 3) G cls_0 wf_X0_19 ha rfl rfl dX0_putHinge_12 ?_
    refine J_iload_n G 1 dX0_putHinge_15 rfl ?_
    refine J_iald G (bk_2 ha) (bl_2 ha) dX0_putHinge_16 ?_
    refine J_ltI (fun x2 => ?_)
    refine J_istore_n (lv' := [(3, vI x2), (0, vR (uB u) a), (1, vI p0), (2, vI p1)]) G dX0_putHinge_17 rfl (by decide) rfl ?_
    refine J_aload_n G 1 dX0_putHinge_18 rfl ?_
    refine J_getR (d := (a + 2)) (k := 3) G cls_0 wf_X0_19 ha rfl rfl dX0_putHinge_19 ?_
    refine J_iload_n G 2 dX0_putHinge_22 rfl ?_
    refine J_iload_n G 3 dX0_putHinge_23 rfl ?_
    refine J_iast G (bk_2 ha) (bl_2 ha) dX0_putHinge_24 ?_
    refine J_ltM (fun m3 => ?_)
    refine J_iload_n G 0 dX0_putHinge_25 rfl ?_
    exact J_iret G dX0_putHinge_26 rfl
  · refine J_bipush G dX0_putHinge_8 (by decide) ?_
    exact J_iret G dX0_putHinge_10 rfl
theorem mX8_hinge (u : jU) (p0 : Int) (p1 : Int) (mem : Mem) : jMet u yX8_hinge cX8_hinge 4 (some .int) (jRm 3 91) [vR (uB u) 0, vI p0, vI p1] mem EwI (BP_hinge p0 p1 mem) := by
  refine jMet_of (by decide +kernel) (Nat.le_of_ble_eq_true rfl) (fun x G => ?_)
  show J u x 4 (jQ u x EwI) 0 [(0, vR (uB u) 0), (1, vI p0), (2, vI p1)] [] mem _
  unfold BP_hinge
  refine J_iload_n G 2 dX8_hinge_0 rfl ?_
  refine J_jn (fun g => J u x 4 (jQ u x EwI) 11 [(0, vR (uB u) 0), (1, vI p0), (2, vI p1)] [] mem (g)) ?_ ?_
  · skip
    refine J_aload_n G 0 dX8_hinge_11 rfl ?_
    refine J_getR (d := 1) (k := 0) G cls_8 wf_X8_14 kd_0 rfl rfl dX8_hinge_12 ?_
    refine J_iload_n G 1 dX8_hinge_15 rfl ?_
    refine J_cVpI (As := [vI p0]) G (mX0_whyNotAtSupport u 1 kd_1 p0 mem) sg_X0_whyNotAtSupport sv_X0_whyNotAtSupport wm_X8_91 cls_0 kd_1 rfl ⟨by decide, by decide⟩ rfl rfl (Nat.le_of_ble_eq_true rfl) dX8_hinge_16 ?_
    intro r1
    refine J_istore_n (lv' := [(3, vI r1), (0, vR (uB u) 0), (1, vI p0), (2, vI p1)]) G dX8_hinge_19 rfl (by decide) rfl ?_
    refine J_iload_n G 0 dX8_hinge_20 rfl ?_
    refine J_if_eq 26 G dX8_hinge_21 (by decide) ?_ ?_
    · refine J_aload_n G 1 dX8_hinge_26 rfl ?_
      refine J_getR (d := 10) (k := 1) G cls_8 wf_X8_21 kd_0 rfl rfl dX8_hinge_27 ?_
      refine J_aload_n G 1 dX8_hinge_30 rfl ?_
      refine J_getR (d := 1) (k := 0) G cls_8 wf_X8_14 kd_0 rfl rfl dX8_hinge_31 ?_
      refine J_cVwV (As := [vR (uB u) 1]) G (mX1_keep u mem) sg_X1_keep sv_X1_keep wm_X8_84 cls_1 kd_10 rfl ⟨by decide, by decide⟩ rfl rfl (Nat.le_of_ble_eq_true rfl) dX8_hinge_34 ?_
      intro m2
      refine J_aload_n G 1 dX8_hinge_37 rfl ?_
      refine J_getR (d := 1) (k := 0) G cls_8 wf_X8_14 kd_0 rfl rfl dX8_hinge_38 ?_
      refine J_aload_n G 1 dX8_hinge_41 rfl ?_
      refine J_getR (d := 1) (k := 0) G cls_8 wf_X8_14 kd_0 rfl rfl dX8_hinge_42 ?_
      refine J_iload_n G 2 dX8_hinge_45 rfl ?_
      refine J_cVpI (As := [vI p0]) G (mX0_numberAt u 1 kd_1 p0 m2) sg_X0_numberAt sv_X0_numberAt wm_X8_94 cls_0 kd_1 rfl ⟨by decide, by decide⟩ rfl rfl (Nat.le_of_ble_eq_true rfl) dX8_hinge_46 ?_
      intro r3
      refine J_iload_n G 3 dX8_hinge_49 rfl ?_
      refine J_cVwI (As := [vI r3, vI p1]) G (mX0_putHinge u 1 kd_1 r3 p1 m2) sg_X0_putHinge sv_X0_putHinge wm_X8_100 cls_0 kd_1 rfl ⟨by decide, by decide⟩ rfl rfl (Nat.le_of_ble_eq_true rfl) dX8_hinge_50 ?_
      intro r4 m5
      exact J_iret G dX8_hinge_53 rfl
    · refine J_iload_n G 0 dX8_hinge_24 rfl ?_
      exact J_iret G dX8_hinge_25 rfl
  · intro k11 hk11
    refine J_if_eq 11 G dX8_hinge_1 (by decide) ?_ ?_
    · exact hk11
    · refine J_iload_n G 2 dX8_hinge_4 rfl ?_
      refine J_iconst G dX8_hinge_5 ?_
      refine J_icmp_eq 11 G dX8_hinge_6 (by decide) ?_ ?_
      · exact hk11
      · refine J_iconst G dX8_hinge_9 ?_
        exact J_iret G dX8_hinge_10 rfl
theorem mX8_isV (u : jU) (p0 : Int) (mem : Mem) : jMet u yX8_isV cX8_isV 1 (some .boolean) (jRm 0 0) [vI p0] mem (EpI mem) (BP_isV p0 mem) := by
  refine jMet_of (by decide +kernel) (Nat.le_of_ble_eq_true rfl) (fun x G => ?_)
  show J u x 1 (jQ u x (EpI mem)) 0 [(0, vI p0)] [] mem _
  unfold BP_isV
  refine J_iload_n G 0 dX8_isV_0 rfl ?_
  refine J_bipush G dX8_isV_1 (by decide) ?_
  refine J_icmp_lt 16 G dX8_isV_3 (by decide) ?_ ?_
  · refine J_iconst G dX8_isV_16 ?_
    exact J_zret G dX8_isV_17 (by decide) rfl
  · refine J_iload_n G 0 dX8_isV_6 rfl ?_
    refine J_bipush G dX8_isV_7 (by decide) ?_
    refine J_icmp_gt 16 G dX8_isV_9 (by decide) ?_ ?_
    · refine J_iconst G dX8_isV_16 ?_
      exact J_zret G dX8_isV_17 (by decide) rfl
    · refine J_iconst G dX8_isV_12 ?_
      refine J_goto 17 G dX8_isV_13 (by decide) ?_
      exact J_zret G dX8_isV_17 (by decide) rfl
theorem mX0_whyNotPoint (u : jU) (a : Nat) (ha : kd a = 0) (p0 : Int) (p1 : Int) (mem : Mem) : jMet u yX0_whyNotPoint cX0_whyNotPoint 3 (some .int) (jRm 1 21) [vR (uB u) a, vI p0, vI p1] mem (EpI mem) (Beam_whyNotPoint a p0 p1 mem) := by
  refine jMet_of (by decide +kernel) (Nat.le_of_ble_eq_true rfl) (fun x G => ?_)
  show J u x 3 (jQ u x (EpI mem)) 0 [(0, vR (uB u) a), (1, vI p0), (2, vI p1)] [] mem _
  unfold Beam_whyNotPoint
  refine J_aload_n G 0 dX0_whyNotPoint_0 rfl ?_
  refine J_iload_n G 1 dX0_whyNotPoint_1 rfl ?_
  refine J_cVpI (As := [vI p0]) G (mX0_isPlace u a ha p0 mem) sg_X0_isPlace sv_X0_isPlace wm_X0_55 cls_0 ha rfl ⟨by decide, by decide⟩ rfl rfl (Nat.le_of_ble_eq_true rfl) dX0_whyNotPoint_2 ?_
  intro r1
  refine J_if_eq 15 G dX0_whyNotPoint_5 (by decide) ?_ ?_
  · refine J_iconst G dX0_whyNotPoint_15 ?_
    exact J_iret G dX0_whyNotPoint_16 rfl
  · refine J_iload_n G 2 dX0_whyNotPoint_8 rfl ?_
    refine J_cNpI (As := [vI p1]) G (mX8_isV u p1 mem) sg_X8_isV ss_X8_isV (fun U h => h.1) ⟨by decide, by decide⟩ rfl rfl (Nat.le_of_ble_eq_true rfl) dX0_whyNotPoint_9 ?_
    intro r2
    refine J_if_ne 17 G dX0_whyNotPoint_12 (by decide) ?_ ?_
    · refine J_aload_n G 0 dX0_whyNotPoint_17 rfl ?_
      refine J_getI (i := 4) (k := 4) G cls_0 wf_X0_49 ha rfl rfl dX0_whyNotPoint_18 ?_
      refine J_bipush G dX0_whyNotPoint_21 (by decide) ?_
      refine J_icmp_lt 31 G dX0_whyNotPoint_23 (by decide) ?_ ?_
      · refine J_iconst G dX0_whyNotPoint_31 ?_
        exact J_iret G dX0_whyNotPoint_32 rfl
      · refine J_bipush G dX0_whyNotPoint_26 (by decide) ?_
        refine J_goto 32 G dX0_whyNotPoint_28 (by decide) ?_
        exact J_iret G dX0_whyNotPoint_32 rfl
    · refine J_iconst G dX0_whyNotPoint_15 ?_
      exact J_iret G dX0_whyNotPoint_16 rfl
theorem mX0_putLoad (u : jU) (a : Nat) (ha : kd a = 0) (p0 : Int) (p1 : Int) (p2 : Int) (p3 : Int) (mem : Mem) : jMet u yX0_putLoad cX0_putLoad 5 (some .int) (jRm 0 0) [vR (uB u) a, vI p0, vI p1, vI p2, vI p3] mem EwI (Beam_putLoad a p0 p1 p2 p3 mem) := by
  refine jMet_of (by decide +kernel) (Nat.le_of_ble_eq_true rfl) (fun x G => ?_)
  show J u x 5 (jQ u x EwI) 0 [(0, vR (uB u) a), (1, vI p0), (2, vI p1), (3, vI p2), (4, vI p3)] [] mem _
  unfold Beam_putLoad
  refine J_aload_n G 0 dX0_putLoad_0 rfl ?_
  refine J_getI (i := 4) (k := 4) G cls_0 wf_X0_49 ha rfl rfl dX0_putLoad_1 ?_
  refine J_bipush G dX0_putLoad_4 (by decide) ?_
  refine J_icmp_lt 12 G dX0_putLoad_6 (by decide) ?_ ?_
  · refine J_aload_n G 0 dX0_putLoad_12 rfl ?_
    refine J_getR (d := (a + 3)) (k := 5) G cls_0 wf_X0_22 ha rfl rfl dX0_putLoad_13 ?_
    refine J_aload_n G 0 dX0_putLoad_16 rfl ?_
    refine J_getI (i := 4) (k := 4) G cls_0 wf_X0_49 ha rfl rfl dX0_putLoad_17 ?_
    refine J_iload_n G 1 dX0_putLoad_20 rfl ?_
    refine J_iast G (bk_3 ha) (bl_3 ha) dX0_putLoad_21 ?_
    refine J_ltM (fun m1 => ?_)
    refine J_aload_n G 0 dX0_putLoad_22 rfl ?_
    refine J_getR (d := (a + 4)) (k := 6) G cls_0 wf_X0_25 ha rfl rfl dX0_putLoad_23 ?_
    refine J_aload_n G 0 dX0_putLoad_26 rfl ?_
    refine J_getI (i := 4) (k := 4) G cls_0 wf_X0_49 ha rfl rfl dX0_putLoad_27 ?_
    refine J_iload_n G 2 dX0_putLoad_30 rfl ?_
    refine J_iast G (bk_4 ha) (bl_4 ha) dX0_putLoad_31 ?_
    refine J_ltM (fun m2 => ?_)
    refine J_aload_n G 0 dX0_putLoad_32 rfl ?_
    refine J_getR (d := (a + 5)) (k := 7) G cls_0 wf_X0_28 ha rfl rfl dX0_putLoad_33 ?_
    refine J_aload_n G 0 dX0_putLoad_36 rfl ?_
    refine J_getI (i := 4) (k := 4) G cls_0 wf_X0_49 ha rfl rfl dX0_putLoad_37 ?_
    refine J_iload_n G 3 dX0_putLoad_40 rfl ?_
    refine J_iast G (bk_5 ha) (bl_5 ha) dX0_putLoad_41 ?_
    refine J_ltM (fun m3 => ?_)
    refine J_aload_n G 0 dX0_putLoad_42 rfl ?_
    refine J_getR (d := (a + 6)) (k := 8) G cls_0 wf_X0_31 ha rfl rfl dX0_putLoad_43 ?_
    refine J_aload_n G 0 dX0_putLoad_46 rfl ?_
    refine J_getI (i := 4) (k := 4) G cls_0 wf_X0_49 ha rfl rfl dX0_putLoad_47 ?_
    refine J_iload G 4 dX0_putLoad_50 rfl ?_
    refine J_iast G (bk_6 ha) (bl_6 ha) dX0_putLoad_52 ?_
    refine J_ltM (fun m4 => ?_)
    refine J_aload_n G 0 dX0_putLoad_53 rfl ?_
    refine J_dup G dX0_putLoad_54 rfl ?_
    refine J_getI (i := 4) (k := 4) G cls_0 wf_X0_49 ha rfl rfl dX0_putLoad_55 ?_
    refine J_iconst G dX0_putLoad_58 ?_
    refine J_iadd G dX0_putLoad_59 ?_
    refine J_putI (i := 4) (k := 4) G cls_0 wf_X0_49 ha rfl rfl rfl rfl dX0_putLoad_60 ?_
    refine J_ltM (fun m5 => ?_)
    refine J_aload_n G 0 dX0_putLoad_63 rfl ?_
    refine J_getI (i := 4) (k := 4) G cls_0 wf_X0_49 ha rfl rfl dX0_putLoad_64 ?_
    refine J_iconst G dX0_putLoad_67 ?_
    refine J_isub G dX0_putLoad_68 ?_
    exact J_iret G dX0_putLoad_69 rfl
  · refine J_bipush G dX0_putLoad_9 (by decide) ?_
    exact J_iret G dX0_putLoad_11 rfl
theorem mX8_point (u : jU) (p0 : Int) (p1 : Int) (mem : Mem) : jMet u yX8_point cX8_point 4 (some .int) (jRm 3 91) [vR (uB u) 0, vI p0, vI p1] mem EwI (BP_point p0 p1 mem) := by
  refine jMet_of (by decide +kernel) (Nat.le_of_ble_eq_true rfl) (fun x G => ?_)
  show J u x 4 (jQ u x EwI) 0 [(0, vR (uB u) 0), (1, vI p0), (2, vI p1)] [] mem _
  unfold BP_point
  refine J_aload_n G 0 dX8_point_0 rfl ?_
  refine J_getR (d := 1) (k := 0) G cls_8 wf_X8_14 kd_0 rfl rfl dX8_point_1 ?_
  refine J_iload_n G 1 dX8_point_4 rfl ?_
  refine J_iload_n G 2 dX8_point_5 rfl ?_
  refine J_cVpI (As := [vI p0, vI p1]) G (mX0_whyNotPoint u 1 kd_1 p0 p1 mem) sg_X0_whyNotPoint sv_X0_whyNotPoint wm_X8_104 cls_0 kd_1 rfl ⟨by decide, by decide⟩ rfl rfl (Nat.le_of_ble_eq_true rfl) dX8_point_6 ?_
  intro r1
  refine J_istore_n (lv' := [(3, vI r1), (0, vR (uB u) 0), (1, vI p0), (2, vI p1)]) G dX8_point_9 rfl (by decide) rfl ?_
  refine J_iload_n G 0 dX8_point_10 rfl ?_
  refine J_if_eq 16 G dX8_point_11 (by decide) ?_ ?_
  · refine J_aload_n G 1 dX8_point_16 rfl ?_
    refine J_getR (d := 10) (k := 1) G cls_8 wf_X8_21 kd_0 rfl rfl dX8_point_17 ?_
    refine J_aload_n G 1 dX8_point_20 rfl ?_
    refine J_getR (d := 1) (k := 0) G cls_8 wf_X8_14 kd_0 rfl rfl dX8_point_21 ?_
    refine J_cVwV (As := [vR (uB u) 1]) G (mX1_keep u mem) sg_X1_keep sv_X1_keep wm_X8_84 cls_1 kd_10 rfl ⟨by decide, by decide⟩ rfl rfl (Nat.le_of_ble_eq_true rfl) dX8_point_24 ?_
    intro m2
    refine J_aload_n G 1 dX8_point_27 rfl ?_
    refine J_getR (d := 1) (k := 0) G cls_8 wf_X8_14 kd_0 rfl rfl dX8_point_28 ?_
    refine J_iload_n G 2 dX8_point_31 rfl ?_
    refine J_iload_n G 2 dX8_point_32 rfl ?_
    refine J_iload_n G 3 dX8_point_33 rfl ?_
    refine J_iconst G dX8_point_34 ?_
    refine J_cVwI (As := [vI p0, vI p0, vI p1, vI 1]) G (mX0_putLoad u 1 kd_1 p0 p0 p1 1 m2) sg_X0_putLoad sv_X0_putLoad wm_X8_107 cls_0 kd_1 rfl ⟨by decide, by decide⟩ rfl rfl (Nat.le_of_ble_eq_true rfl) dX8_point_35 ?_
    intro r3 m4
    exact J_iret G dX8_point_38 rfl
  · refine J_iload_n G 0 dX8_point_14 rfl ?_
    exact J_iret G dX8_point_15 rfl
theorem mX0_whyNotSpread (u : jU) (a : Nat) (ha : kd a = 0) (p0 : Int) (p1 : Int) (p2 : Int) (mem : Mem) : jMet u yX0_whyNotSpread cX0_whyNotSpread 4 (some .int) (jRm 1 21) [vR (uB u) a, vI p0, vI p1, vI p2] mem (EpI mem) (Beam_whyNotSpread a p0 p1 p2 mem) := by
  refine jMet_of (by decide +kernel) (Nat.le_of_ble_eq_true rfl) (fun x G => ?_)
  show J u x 4 (jQ u x (EpI mem)) 0 [(0, vR (uB u) a), (1, vI p0), (2, vI p1), (3, vI p2)] [] mem _
  unfold Beam_whyNotSpread
  refine J_aload_n G 0 dX0_whyNotSpread_0 rfl ?_
  refine J_iload_n G 1 dX0_whyNotSpread_1 rfl ?_
  refine J_cVpI (As := [vI p0]) G (mX0_isPlace u a ha p0 mem) sg_X0_isPlace sv_X0_isPlace wm_X0_55 cls_0 ha rfl ⟨by decide, by decide⟩ rfl rfl (Nat.le_of_ble_eq_true rfl) dX0_whyNotSpread_2 ?_
  intro r1
  refine J_if_eq 28 G dX0_whyNotSpread_5 (by decide) ?_ ?_
  · refine J_iconst G dX0_whyNotSpread_28 ?_
    exact J_iret G dX0_whyNotSpread_29 rfl
  · refine J_aload_n G 0 dX0_whyNotSpread_8 rfl ?_
    refine J_iload_n G 2 dX0_whyNotSpread_9 rfl ?_
    refine J_cVpI (As := [vI p1]) G (mX0_isPlace u a ha p1 mem) sg_X0_isPlace sv_X0_isPlace wm_X0_55 cls_0 ha rfl ⟨by decide, by decide⟩ rfl rfl (Nat.le_of_ble_eq_true rfl) dX0_whyNotSpread_10 ?_
    intro r2
    refine J_if_eq 28 G dX0_whyNotSpread_13 (by decide) ?_ ?_
    · refine J_iconst G dX0_whyNotSpread_28 ?_
      exact J_iret G dX0_whyNotSpread_29 rfl
    · refine J_iload_n G 1 dX0_whyNotSpread_16 rfl ?_
      refine J_iload_n G 2 dX0_whyNotSpread_17 rfl ?_
      refine J_icmp_ge 28 G dX0_whyNotSpread_18 (by decide) ?_ ?_
      · refine J_iconst G dX0_whyNotSpread_28 ?_
        exact J_iret G dX0_whyNotSpread_29 rfl
      · refine J_iload_n G 3 dX0_whyNotSpread_21 rfl ?_
        refine J_cNpI (As := [vI p2]) G (mX8_isV u p2 mem) sg_X8_isV ss_X8_isV (fun U h => h.1) ⟨by decide, by decide⟩ rfl rfl (Nat.le_of_ble_eq_true rfl) dX0_whyNotSpread_22 ?_
        intro r3
        refine J_if_ne 30 G dX0_whyNotSpread_25 (by decide) ?_ ?_
        · refine J_aload_n G 0 dX0_whyNotSpread_30 rfl ?_
          refine J_getI (i := 4) (k := 4) G cls_0 wf_X0_49 ha rfl rfl dX0_whyNotSpread_31 ?_
          refine J_bipush G dX0_whyNotSpread_34 (by decide) ?_
          refine J_icmp_lt 44 G dX0_whyNotSpread_36 (by decide) ?_ ?_
          · refine J_iconst G dX0_whyNotSpread_44 ?_
            exact J_iret G dX0_whyNotSpread_45 rfl
          · refine J_bipush G dX0_whyNotSpread_39 (by decide) ?_
            refine J_goto 45 G dX0_whyNotSpread_41 (by decide) ?_
            exact J_iret G dX0_whyNotSpread_45 rfl
        · refine J_iconst G dX0_whyNotSpread_28 ?_
          exact J_iret G dX0_whyNotSpread_29 rfl
theorem mX8_spread (u : jU) (p0 : Int) (p1 : Int) (p2 : Int) (mem : Mem) : jMet u yX8_spread cX8_spread 5 (some .int) (jRm 3 91) [vR (uB u) 0, vI p0, vI p1, vI p2] mem EwI (BP_spread p0 p1 p2 mem) := by
  refine jMet_of (by decide +kernel) (Nat.le_of_ble_eq_true rfl) (fun x G => ?_)
  show J u x 5 (jQ u x EwI) 0 [(0, vR (uB u) 0), (1, vI p0), (2, vI p1), (3, vI p2)] [] mem _
  unfold BP_spread
  refine J_aload_n G 0 dX8_spread_0 rfl ?_
  refine J_getR (d := 1) (k := 0) G cls_8 wf_X8_14 kd_0 rfl rfl dX8_spread_1 ?_
  refine J_iload_n G 1 dX8_spread_4 rfl ?_
  refine J_iload_n G 2 dX8_spread_5 rfl ?_
  refine J_iload_n G 3 dX8_spread_6 rfl ?_
  refine J_cVpI (As := [vI p0, vI p1, vI p2]) G (mX0_whyNotSpread u 1 kd_1 p0 p1 p2 mem) sg_X0_whyNotSpread sv_X0_whyNotSpread wm_X8_111 cls_0 kd_1 rfl ⟨by decide, by decide⟩ rfl rfl (Nat.le_of_ble_eq_true rfl) dX8_spread_7 ?_
  intro r1
  refine J_istore (lv' := [(4, vI r1), (0, vR (uB u) 0), (1, vI p0), (2, vI p1), (3, vI p2)]) G dX8_spread_10 (by decide) rfl ?_
  refine J_iload G 0 dX8_spread_12 rfl ?_
  refine J_if_eq 20 G dX8_spread_14 (by decide) ?_ ?_
  · refine J_aload_n G 1 dX8_spread_20 rfl ?_
    refine J_getR (d := 10) (k := 1) G cls_8 wf_X8_21 kd_0 rfl rfl dX8_spread_21 ?_
    refine J_aload_n G 1 dX8_spread_24 rfl ?_
    refine J_getR (d := 1) (k := 0) G cls_8 wf_X8_14 kd_0 rfl rfl dX8_spread_25 ?_
    refine J_cVwV (As := [vR (uB u) 1]) G (mX1_keep u mem) sg_X1_keep sv_X1_keep wm_X8_84 cls_1 kd_10 rfl ⟨by decide, by decide⟩ rfl rfl (Nat.le_of_ble_eq_true rfl) dX8_spread_28 ?_
    intro m2
    refine J_aload_n G 1 dX8_spread_31 rfl ?_
    refine J_getR (d := 1) (k := 0) G cls_8 wf_X8_14 kd_0 rfl rfl dX8_spread_32 ?_
    refine J_iload_n G 2 dX8_spread_35 rfl ?_
    refine J_iload_n G 3 dX8_spread_36 rfl ?_
    refine J_iload_n G 4 dX8_spread_37 rfl ?_
    refine J_iconst G dX8_spread_38 ?_
    refine J_cVwI (As := [vI p0, vI p1, vI p2, vI 0]) G (mX0_putLoad u 1 kd_1 p0 p1 p2 0 m2) sg_X0_putLoad sv_X0_putLoad wm_X8_107 cls_0 kd_1 rfl ⟨by decide, by decide⟩ rfl rfl (Nat.le_of_ble_eq_true rfl) dX8_spread_39 ?_
    intro r3 m4
    exact J_iret G dX8_spread_42 rfl
  · refine J_iload G 0 dX8_spread_17 rfl ?_
    exact J_iret G dX8_spread_19 rfl
theorem mX0_isLoad (u : jU) (a : Nat) (ha : kd a = 0) (p0 : Int) (mem : Mem) : jMet u yX0_isLoad cX0_isLoad 2 (some .boolean) (jRm 0 0) [vR (uB u) a, vI p0] mem (EpI mem) (Beam_isLoad a p0 mem) := by
  refine jMet_of (by decide +kernel) (Nat.le_of_ble_eq_true rfl) (fun x G => ?_)
  show J u x 2 (jQ u x (EpI mem)) 0 [(0, vR (uB u) a), (1, vI p0)] [] mem _
  unfold Beam_isLoad
  refine J_iload_n G 1 dX0_isLoad_0 rfl ?_
  refine J_if_lt 16 G dX0_isLoad_1 (by decide) ?_ ?_
  · refine J_iconst G dX0_isLoad_16 ?_
    exact J_zret G dX0_isLoad_17 (by decide) rfl
  · refine J_iload_n G 1 dX0_isLoad_4 rfl ?_
    refine J_aload_n G 0 dX0_isLoad_5 rfl ?_
    refine J_getI (i := 4) (k := 4) G cls_0 wf_X0_49 ha rfl rfl dX0_isLoad_6 ?_
    refine J_icmp_ge 16 G dX0_isLoad_9 (by decide) ?_ ?_
    · refine J_iconst G dX0_isLoad_16 ?_
      exact J_zret G dX0_isLoad_17 (by decide) rfl
    · refine J_iconst G dX0_isLoad_12 ?_
      refine J_goto 17 G dX0_isLoad_13 (by decide) ?_
      exact J_zret G dX0_isLoad_17 (by decide) rfl
theorem mX8_heavier (u : jU) (p0 : Int) (p1 : Int) (mem : Mem) : jMet u yX8_heavier cX8_heavier 4 (some .int) (jRm 3 91) [vR (uB u) 0, vI p0, vI p1] mem EwI (BP_heavier p0 p1 mem) := by
  refine jMet_of (by decide +kernel) (Nat.le_of_ble_eq_true rfl) (fun x G => ?_)
  show J u x 4 (jQ u x EwI) 0 [(0, vR (uB u) 0), (1, vI p0), (2, vI p1)] [] mem _
  unfold BP_heavier
  refine J_aload_n G 0 dX8_heavier_0 rfl ?_
  refine J_getR (d := 1) (k := 0) G cls_8 wf_X8_14 kd_0 rfl rfl dX8_heavier_1 ?_
  refine J_iload_n G 1 dX8_heavier_4 rfl ?_
  refine J_cVpI (As := [vI p0]) G (mX0_isLoad u 1 kd_1 p0 mem) sg_X0_isLoad sv_X0_isLoad wm_X8_115 cls_0 kd_1 rfl ⟨by decide, by decide⟩ rfl rfl (Nat.le_of_ble_eq_true rfl) dX8_heavier_5 ?_
  intro r1
  refine J_if_eq 18 G dX8_heavier_8 (by decide) ?_ ?_
  · refine J_iconst G dX8_heavier_18 ?_
    exact J_iret G dX8_heavier_19 rfl
  · refine J_iload_n G 2 dX8_heavier_11 rfl ?_
    refine J_cSpI (As := [vI p1]) G (mX8_isV u p1 mem) sg_X8_isV ss_X8_isV wm_X8_119 ⟨by decide, by decide⟩ rfl rfl (Nat.le_of_ble_eq_true rfl) dX8_heavier_12 ?_
    intro r2
    refine J_if_ne 20 G dX8_heavier_15 (by decide) ?_ ?_
    · refine J_aload_n G 0 dX8_heavier_20 rfl ?_
      refine J_getR (d := 10) (k := 1) G cls_8 wf_X8_21 kd_0 rfl rfl dX8_heavier_21 ?_
      refine J_aload_n G 0 dX8_heavier_24 rfl ?_
      refine J_getR (d := 1) (k := 0) G cls_8 wf_X8_14 kd_0 rfl rfl dX8_heavier_25 ?_
      refine J_cVwV (As := [vR (uB u) 1]) G (mX1_keep u mem) sg_X1_keep sv_X1_keep wm_X8_84 cls_1 kd_10 rfl ⟨by decide, by decide⟩ rfl rfl (Nat.le_of_ble_eq_true rfl) dX8_heavier_28 ?_
      intro m3
      refine J_aload_n G 0 dX8_heavier_31 rfl ?_
      refine J_getR (d := 1) (k := 0) G cls_8 wf_X8_14 kd_0 rfl rfl dX8_heavier_32 ?_
      refine J_getR (d := 6) (k := 7) G cls_0 wf_X8_122 kd_1 rfl rfl dX8_heavier_35 ?_
      refine J_iload_n G 1 dX8_heavier_38 rfl ?_
      refine J_iald G kd_6 ln_6 dX8_heavier_39 ?_
      refine J_ltI (fun x4 => ?_)
      refine J_istore_n (lv' := [(3, vI x4), (0, vR (uB u) 0), (1, vI p0), (2, vI p1)]) G dX8_heavier_40 rfl (by decide) rfl ?_
      refine J_aload_n G 1 dX8_heavier_41 rfl ?_
      refine J_getR (d := 1) (k := 0) G cls_8 wf_X8_14 kd_0 rfl rfl dX8_heavier_42 ?_
      refine J_getR (d := 6) (k := 7) G cls_0 wf_X8_122 kd_1 rfl rfl dX8_heavier_45 ?_
      refine J_iload_n G 2 dX8_heavier_48 rfl ?_
      refine J_iload_n G 3 dX8_heavier_49 rfl ?_
      refine J_iast G kd_6 ln_6 dX8_heavier_50 ?_
      refine J_ltM (fun m5 => ?_)
      refine J_iload_n G 0 dX8_heavier_51 rfl ?_
      exact J_iret G dX8_heavier_52 rfl
    · refine J_iconst G dX8_heavier_18 ?_
      exact J_iret G dX8_heavier_19 rfl
theorem jBeam_takeLoad_L12 {u : jU} {x : jX} (G : jG u x cX0_takeLoad RX0 3 (some .int) (jRm 1 21)) (a : Nat) (k84 : Mem → Option (Int × Mem)) (ha : kd a = 0) (hk84 : (fun g => ∀ m2, J u x 3 (jQ u x EwI) 84 [(0, vR (uB u) a)] [] m2 (g m2)) k84) : ∀ (n : Nat) (i4 : Int) (m5 : Mem), J u x 3 (jQ u x EwI) 12 [(0, vR (uB u) a), (2, vI i4)] [] m5 (Beam_takeLoad_L12 a k84 n i4 m5) := by
  intro n
  induction n with
  | zero => intro i4 m5; exact J_none
  | succ n ih =>
    intro i4 m5
    rw [Beam_takeLoad_L12]
    refine J_iload_n G 1 dX0_takeLoad_12 rfl ?_
    refine J_iconst G dX0_takeLoad_13 ?_
    refine J_iadd G dX0_takeLoad_14 ?_
    refine J_aload_n G 0 dX0_takeLoad_15 rfl ?_
    refine J_getI (i := 4) (k := 4) G cls_0 wf_X0_49 ha rfl rfl dX0_takeLoad_16 ?_
    refine J_icmp_ge 84 G dX0_takeLoad_19 (by decide) ?_ ?_
    · refine J_lv [0] rfl ?_
      exact hk84 m5
    · refine J_aload_n G 0 dX0_takeLoad_22 rfl ?_
      refine J_getR (d := (a + 3)) (k := 5) G cls_0 wf_X0_22 ha rfl rfl dX0_takeLoad_23 ?_
      refine J_iload_n G 1 dX0_takeLoad_26 rfl ?_
      refine J_aload_n G 0 dX0_takeLoad_27 rfl ?_
      refine J_getR (d := (a + 3)) (k := 5) G cls_0 wf_X0_22 ha rfl rfl dX0_takeLoad_28 ?_
      refine J_iload_n G 1 dX0_takeLoad_31 rfl ?_
      refine J_iconst G dX0_takeLoad_32 ?_
      refine J_iadd G dX0_takeLoad_33 ?_
      refine J_iald G (bk_3 ha) (bl_3 ha) dX0_takeLoad_34 ?_
      refine J_iast G (bk_3 ha) (bl_3 ha) dX0_takeLoad_35 ?_
      refine J_ltM (fun m6 => ?_)
      refine J_aload_n G 0 dX0_takeLoad_36 rfl ?_
      refine J_getR (d := (a + 4)) (k := 6) G cls_0 wf_X0_25 ha rfl rfl dX0_takeLoad_37 ?_
      refine J_iload_n G 1 dX0_takeLoad_40 rfl ?_
      refine J_aload_n G 0 dX0_takeLoad_41 rfl ?_
      refine J_getR (d := (a + 4)) (k := 6) G cls_0 wf_X0_25 ha rfl rfl dX0_takeLoad_42 ?_
      refine J_iload_n G 1 dX0_takeLoad_45 rfl ?_
      refine J_iconst G dX0_takeLoad_46 ?_
      refine J_iadd G dX0_takeLoad_47 ?_
      refine J_iald G (bk_4 ha) (bl_4 ha) dX0_takeLoad_48 ?_
      refine J_iast G (bk_4 ha) (bl_4 ha) dX0_takeLoad_49 ?_
      refine J_ltM (fun m7 => ?_)
      refine J_aload_n G 0 dX0_takeLoad_50 rfl ?_
      refine J_getR (d := (a + 5)) (k := 7) G cls_0 wf_X0_28 ha rfl rfl dX0_takeLoad_51 ?_
      refine J_iload_n G 1 dX0_takeLoad_54 rfl ?_
      refine J_aload_n G 0 dX0_takeLoad_55 rfl ?_
      refine J_getR (d := (a + 5)) (k := 7) G cls_0 wf_X0_28 ha rfl rfl dX0_takeLoad_56 ?_
      refine J_iload_n G 1 dX0_takeLoad_59 rfl ?_
      refine J_iconst G dX0_takeLoad_60 ?_
      refine J_iadd G dX0_takeLoad_61 ?_
      refine J_iald G (bk_5 ha) (bl_5 ha) dX0_takeLoad_62 ?_
      refine J_iast G (bk_5 ha) (bl_5 ha) dX0_takeLoad_63 ?_
      refine J_ltM (fun m8 => ?_)
      refine J_aload_n G 0 dX0_takeLoad_64 rfl ?_
      refine J_getR (d := (a + 6)) (k := 8) G cls_0 wf_X0_31 ha rfl rfl dX0_takeLoad_65 ?_
      refine J_iload_n G 1 dX0_takeLoad_68 rfl ?_
      refine J_aload_n G 0 dX0_takeLoad_69 rfl ?_
      refine J_getR (d := (a + 6)) (k := 8) G cls_0 wf_X0_31 ha rfl rfl dX0_takeLoad_70 ?_
      refine J_iload_n G 1 dX0_takeLoad_73 rfl ?_
      refine J_iconst G dX0_takeLoad_74 ?_
      refine J_iadd G dX0_takeLoad_75 ?_
      refine J_iald G (bk_6 ha) (bl_6 ha) dX0_takeLoad_76 ?_
      refine J_iast G (bk_6 ha) (bl_6 ha) dX0_takeLoad_77 ?_
      refine J_ltM (fun m9 => ?_)
      refine J_iinc (lv' := [(2, vI (i4 + 1)), (0, vR (uB u) a)]) G 1 dX0_takeLoad_78 rfl (by decide) rfl ?_
      refine J_goto 12 G dX0_takeLoad_81 (by decide) ?_
      refine J_lv [1, 0] rfl ?_
      exact ih (i4 + 1) m9
theorem mX0_takeLoad (u : jU) (a : Nat) (ha : kd a = 0) (p0 : Int) (mem : Mem) : jMet u yX0_takeLoad cX0_takeLoad 3 (some .int) (jRm 1 21) [vR (uB u) a, vI p0] mem EwI (Beam_takeLoad a p0 mem) := by
  refine jMet_of (by decide +kernel) (Nat.le_of_ble_eq_true rfl) (fun x G => ?_)
  show J u x 3 (jQ u x EwI) 0 [(0, vR (uB u) a), (1, vI p0)] [] mem _
  unfold Beam_takeLoad
  refine J_aload_n G 0 dX0_takeLoad_0 rfl ?_
  refine J_iload_n G 1 dX0_takeLoad_1 rfl ?_
  refine J_cVpI (As := [vI p0]) G (mX0_isLoad u a ha p0 mem) sg_X0_isLoad sv_X0_isLoad wm_X0_69 cls_0 ha rfl ⟨by decide, by decide⟩ rfl rfl (Nat.le_of_ble_eq_true rfl) dX0_takeLoad_2 ?_
  intro r1
  refine J_if_ne 10 G dX0_takeLoad_5 (by decide) ?_ ?_
  · refine J_iload_n G 1 dX0_takeLoad_10 rfl ?_
    refine J_istore_n (lv' := [(2, vI p0), (0, vR (uB u) a), (1, vI p0)]) G dX0_takeLoad_11 rfl (by decide) rfl ?_
    refine J_jn (fun g => ∀ m2, J u x 3 (jQ u x EwI) 84 [(0, vR (uB u) a)] [] m2 (g m2)) ?_ ?_
    · intro m2
      refine J_aload_n G 0 dX0_takeLoad_84 rfl ?_
      refine J_dup G dX0_takeLoad_85 rfl ?_
      refine J_getI (i := 4) (k := 4) G cls_0 wf_X0_49 ha rfl rfl dX0_takeLoad_86 ?_
      refine J_iconst G dX0_takeLoad_89 ?_
      refine J_isub G dX0_takeLoad_90 ?_
      refine J_putI (i := 4) (k := 4) G cls_0 wf_X0_49 ha rfl rfl rfl rfl dX0_takeLoad_91 ?_
      refine J_ltM (fun m3 => ?_)
      refine J_aload_n G 0 dX0_takeLoad_94 rfl ?_
      refine J_getI (i := 4) (k := 4) G cls_0 wf_X0_49 ha rfl rfl dX0_takeLoad_95 ?_
      exact J_iret G dX0_takeLoad_98 rfl
    · intro k84 hk84
      refine J_lv [1, 0] rfl ?_
      exact jBeam_takeLoad_L12 G a k84 ha hk84 2000 p0 mem
  · refine J_iconst G dX0_takeLoad_8 ?_
    exact J_iret G dX0_takeLoad_9 rfl
theorem mX8_lift (u : jU) (p0 : Int) (mem : Mem) : jMet u yX8_lift cX8_lift 2 (some .int) (jRm 3 91) [vR (uB u) 0, vI p0] mem EwI (BP_lift p0 mem) := by
  refine jMet_of (by decide +kernel) (Nat.le_of_ble_eq_true rfl) (fun x G => ?_)
  show J u x 2 (jQ u x EwI) 0 [(0, vR (uB u) 0), (1, vI p0)] [] mem _
  unfold BP_lift
  refine J_aload_n G 0 dX8_lift_0 rfl ?_
  refine J_getR (d := 1) (k := 0) G cls_8 wf_X8_14 kd_0 rfl rfl dX8_lift_1 ?_
  refine J_iload_n G 1 dX8_lift_4 rfl ?_
  refine J_cVpI (As := [vI p0]) G (mX0_isLoad u 1 kd_1 p0 mem) sg_X0_isLoad sv_X0_isLoad wm_X8_115 cls_0 kd_1 rfl ⟨by decide, by decide⟩ rfl rfl (Nat.le_of_ble_eq_true rfl) dX8_lift_5 ?_
  intro r1
  refine J_if_ne 13 G dX8_lift_8 (by decide) ?_ ?_
  · refine J_aload_n G 0 dX8_lift_13 rfl ?_
    refine J_getR (d := 10) (k := 1) G cls_8 wf_X8_21 kd_0 rfl rfl dX8_lift_14 ?_
    refine J_aload_n G 0 dX8_lift_17 rfl ?_
    refine J_getR (d := 1) (k := 0) G cls_8 wf_X8_14 kd_0 rfl rfl dX8_lift_18 ?_
    refine J_cVwV (As := [vR (uB u) 1]) G (mX1_keep u mem) sg_X1_keep sv_X1_keep wm_X8_84 cls_1 kd_10 rfl ⟨by decide, by decide⟩ rfl rfl (Nat.le_of_ble_eq_true rfl) dX8_lift_21 ?_
    intro m2
    refine J_aload_n G 0 dX8_lift_24 rfl ?_
    refine J_getR (d := 1) (k := 0) G cls_8 wf_X8_14 kd_0 rfl rfl dX8_lift_25 ?_
    refine J_iload_n G 1 dX8_lift_28 rfl ?_
    refine J_cVwI (As := [vI p0]) G (mX0_takeLoad u 1 kd_1 p0 m2) sg_X0_takeLoad sv_X0_takeLoad wm_X8_126 cls_0 kd_1 rfl ⟨by decide, by decide⟩ rfl rfl (Nat.le_of_ble_eq_true rfl) dX8_lift_29 ?_
    intro r3 m4
    exact J_iret G dX8_lift_32 rfl
  · refine J_iconst G dX8_lift_11 ?_
    exact J_iret G dX8_lift_12 rfl
theorem mX0_whyNotAxle (u : jU) (a : Nat) (ha : kd a = 0) (p0 : Int) (p1 : Int) (mem : Mem) : jMet u yX0_whyNotAxle cX0_whyNotAxle 3 (some .int) (jRm 0 0) [vR (uB u) a, vI p0, vI p1] mem (EpI mem) (Beam_whyNotAxle a p0 p1 mem) := by
  refine jMet_of (by decide +kernel) (Nat.le_of_ble_eq_true rfl) (fun x G => ?_)
  show J u x 3 (jQ u x (EpI mem)) 0 [(0, vR (uB u) a), (1, vI p0), (2, vI p1)] [] mem _
  unfold Beam_whyNotAxle
  refine J_iload_n G 1 dX0_whyNotAxle_0 rfl ?_
  refine J_if_lt 21 G dX0_whyNotAxle_1 (by decide) ?_ ?_
  · refine J_iconst G dX0_whyNotAxle_21 ?_
    exact J_iret G dX0_whyNotAxle_22 rfl
  · refine J_iload_n G 1 dX0_whyNotAxle_4 rfl ?_
    refine J_bipush G dX0_whyNotAxle_5 (by decide) ?_
    refine J_icmp_gt 21 G dX0_whyNotAxle_7 (by decide) ?_ ?_
    · refine J_iconst G dX0_whyNotAxle_21 ?_
      exact J_iret G dX0_whyNotAxle_22 rfl
    · refine J_iload_n G 2 dX0_whyNotAxle_10 rfl ?_
      refine J_iconst G dX0_whyNotAxle_11 ?_
      refine J_icmp_lt 21 G dX0_whyNotAxle_12 (by decide) ?_ ?_
      · refine J_iconst G dX0_whyNotAxle_21 ?_
        exact J_iret G dX0_whyNotAxle_22 rfl
      · refine J_iload_n G 2 dX0_whyNotAxle_15 rfl ?_
        refine J_bipush G dX0_whyNotAxle_16 (by decide) ?_
        refine J_icmp_le 23 G dX0_whyNotAxle_18 (by decide) ?_ ?_
        · refine J_aload_n G 0 dX0_whyNotAxle_23 rfl ?_
          refine J_getI (i := 9) (k := 9) G cls_0 wf_X0_52 ha rfl rfl dX0_whyNotAxle_24 ?_
          refine J_iconst G dX0_whyNotAxle_27 ?_
          refine J_icmp_lt 36 G dX0_whyNotAxle_28 (by decide) ?_ ?_
          · refine J_iconst G dX0_whyNotAxle_36 ?_
            exact J_iret G dX0_whyNotAxle_37 rfl
          · refine J_bipush G dX0_whyNotAxle_31 (by decide) ?_
            refine J_goto 37 G dX0_whyNotAxle_33 (by decide) ?_
            exact J_iret G dX0_whyNotAxle_37 rfl
        · refine J_iconst G dX0_whyNotAxle_21 ?_
          exact J_iret G dX0_whyNotAxle_22 rfl
theorem mX0_putAxle (u : jU) (a : Nat) (ha : kd a = 0) (p0 : Int) (p1 : Int) (mem : Mem) : jMet u yX0_putAxle cX0_putAxle 3 (some .int) (jRm 0 0) [vR (uB u) a, vI p0, vI p1] mem EwI (Beam_putAxle a p0 p1 mem) := by
  refine jMet_of (by decide +kernel) (Nat.le_of_ble_eq_true rfl) (fun x G => ?_)
  show J u x 3 (jQ u x EwI) 0 [(0, vR (uB u) a), (1, vI p0), (2, vI p1)] [] mem _
  unfold Beam_putAxle
  refine J_aload_n G 0 dX0_putAxle_0 rfl ?_
  refine J_getI (i := 9) (k := 9) G cls_0 wf_X0_52 ha rfl rfl dX0_putAxle_1 ?_
  refine J_iconst G dX0_putAxle_4 ?_
  refine J_icmp_lt 11 G dX0_putAxle_5 (by decide) ?_ ?_
  · refine J_aload_n G 0 dX0_putAxle_11 rfl ?_
    refine J_getR (d := (a + 7)) (k := 10) G cls_0 wf_X0_34 ha rfl rfl dX0_putAxle_12 ?_
    refine J_aload_n G 0 dX0_putAxle_15 rfl ?_
    refine J_getI (i := 9) (k := 9) G cls_0 wf_X0_52 ha rfl rfl dX0_putAxle_16 ?_
    refine J_iload_n G 1 dX0_putAxle_19 rfl ?_
    refine J_iast G (bk_7 ha) (bl_7 ha) dX0_putAxle_20 ?_
    refine J_ltM (fun m1 => ?_)
    refine J_aload_n G 0 dX0_putAxle_21 rfl ?_
    refine J_getR (d := (a + 8)) (k := 11) G cls_0 wf_X0_37 ha rfl rfl dX0_putAxle_22 ?_
    refine J_aload_n G 0 dX0_putAxle_25 rfl ?_
    refine J_getI (i := 9) (k := 9) G cls_0 wf_X0_52 ha rfl rfl dX0_putAxle_26 ?_
    refine J_iload_n G 2 dX0_putAxle_29 rfl ?_
    refine J_iast G (bk_8 ha) (bl_8 ha) dX0_putAxle_30 ?_
    refine J_ltM (fun m2 => ?_)
    refine J_aload_n G 0 dX0_putAxle_31 rfl ?_
    refine J_dup G dX0_putAxle_32 rfl ?_
    refine J_getI (i := 9) (k := 9) G cls_0 wf_X0_52 ha rfl rfl dX0_putAxle_33 ?_
    refine J_iconst G dX0_putAxle_36 ?_
    refine J_iadd G dX0_putAxle_37 ?_
    refine J_putI (i := 9) (k := 9) G cls_0 wf_X0_52 ha rfl rfl rfl rfl dX0_putAxle_38 ?_
    refine J_ltM (fun m3 => ?_)
    refine J_aload_n G 0 dX0_putAxle_41 rfl ?_
    refine J_getI (i := 9) (k := 9) G cls_0 wf_X0_52 ha rfl rfl dX0_putAxle_42 ?_
    exact J_iret G dX0_putAxle_45 rfl
  · refine J_bipush G dX0_putAxle_8 (by decide) ?_
    exact J_iret G dX0_putAxle_10 rfl
theorem mX8_axle (u : jU) (p0 : Int) (p1 : Int) (mem : Mem) : jMet u yX8_axle cX8_axle 4 (some .int) (jRm 3 91) [vR (uB u) 0, vI p0, vI p1] mem EwI (BP_axle p0 p1 mem) := by
  refine jMet_of (by decide +kernel) (Nat.le_of_ble_eq_true rfl) (fun x G => ?_)
  show J u x 4 (jQ u x EwI) 0 [(0, vR (uB u) 0), (1, vI p0), (2, vI p1)] [] mem _
  unfold BP_axle
  refine J_aload_n G 0 dX8_axle_0 rfl ?_
  refine J_getR (d := 1) (k := 0) G cls_8 wf_X8_14 kd_0 rfl rfl dX8_axle_1 ?_
  refine J_iload_n G 1 dX8_axle_4 rfl ?_
  refine J_iload_n G 2 dX8_axle_5 rfl ?_
  refine J_cVpI (As := [vI p0, vI p1]) G (mX0_whyNotAxle u 1 kd_1 p0 p1 mem) sg_X0_whyNotAxle sv_X0_whyNotAxle wm_X8_129 cls_0 kd_1 rfl ⟨by decide, by decide⟩ rfl rfl (Nat.le_of_ble_eq_true rfl) dX8_axle_6 ?_
  intro r1
  refine J_istore_n (lv' := [(3, vI r1), (0, vR (uB u) 0), (1, vI p0), (2, vI p1)]) G dX8_axle_9 rfl (by decide) rfl ?_
  refine J_iload_n G 0 dX8_axle_10 rfl ?_
  refine J_if_eq 16 G dX8_axle_11 (by decide) ?_ ?_
  · refine J_aload_n G 1 dX8_axle_16 rfl ?_
    refine J_getR (d := 10) (k := 1) G cls_8 wf_X8_21 kd_0 rfl rfl dX8_axle_17 ?_
    refine J_aload_n G 1 dX8_axle_20 rfl ?_
    refine J_getR (d := 1) (k := 0) G cls_8 wf_X8_14 kd_0 rfl rfl dX8_axle_21 ?_
    refine J_cVwV (As := [vR (uB u) 1]) G (mX1_keep u mem) sg_X1_keep sv_X1_keep wm_X8_84 cls_1 kd_10 rfl ⟨by decide, by decide⟩ rfl rfl (Nat.le_of_ble_eq_true rfl) dX8_axle_24 ?_
    intro m2
    refine J_aload_n G 1 dX8_axle_27 rfl ?_
    refine J_getR (d := 1) (k := 0) G cls_8 wf_X8_14 kd_0 rfl rfl dX8_axle_28 ?_
    refine J_iload_n G 2 dX8_axle_31 rfl ?_
    refine J_iload_n G 3 dX8_axle_32 rfl ?_
    refine J_cVwI (As := [vI p0, vI p1]) G (mX0_putAxle u 1 kd_1 p0 p1 m2) sg_X0_putAxle sv_X0_putAxle wm_X8_132 cls_0 kd_1 rfl ⟨by decide, by decide⟩ rfl rfl (Nat.le_of_ble_eq_true rfl) dX8_axle_33 ?_
    intro r3 m4
    exact J_iret G dX8_axle_36 rfl
  · refine J_iload_n G 0 dX8_axle_14 rfl ?_
    exact J_iret G dX8_axle_15 rfl
theorem mX8_unhitch (u : jU) (mem : Mem) : jMet u yX8_unhitch cX8_unhitch 2 (some .int) (jRm 3 91) [vR (uB u) 0] mem EwI (BP_unhitch mem) := by
  refine jMet_of (by decide +kernel) (Nat.le_of_ble_eq_true rfl) (fun x G => ?_)
  show J u x 2 (jQ u x EwI) 0 [(0, vR (uB u) 0)] [] mem _
  unfold BP_unhitch
  refine J_aload_n G 0 dX8_unhitch_0 rfl ?_
  refine J_getR (d := 10) (k := 1) G cls_8 wf_X8_21 kd_0 rfl rfl dX8_unhitch_1 ?_
  refine J_aload_n G 0 dX8_unhitch_4 rfl ?_
  refine J_getR (d := 1) (k := 0) G cls_8 wf_X8_14 kd_0 rfl rfl dX8_unhitch_5 ?_
  refine J_cVwV (As := [vR (uB u) 1]) G (mX1_keep u mem) sg_X1_keep sv_X1_keep wm_X8_84 cls_1 kd_10 rfl ⟨by decide, by decide⟩ rfl rfl (Nat.le_of_ble_eq_true rfl) dX8_unhitch_8 ?_
  intro m1
  refine J_aload_n G 0 dX8_unhitch_11 rfl ?_
  refine J_getR (d := 1) (k := 0) G cls_8 wf_X8_14 kd_0 rfl rfl dX8_unhitch_12 ?_
  refine J_getI (i := 9) (k := 9) G cls_0 wf_X8_135 kd_1 rfl rfl dX8_unhitch_15 ?_
  refine J_ltI (fun x2 => ?_)
  refine J_istore_n (lv' := [(1, vI x2), (0, vR (uB u) 0)]) G dX8_unhitch_18 rfl (by decide) rfl ?_
  refine J_aload_n G 1 dX8_unhitch_19 rfl ?_
  refine J_getR (d := 1) (k := 0) G cls_8 wf_X8_14 kd_0 rfl rfl dX8_unhitch_20 ?_
  refine J_iconst G dX8_unhitch_23 ?_
  refine J_putI (i := 9) (k := 9) G cls_0 wf_X8_135 kd_1 rfl rfl rfl rfl dX8_unhitch_24 ?_
  refine J_ltM (fun m3 => ?_)
  refine J_iload_n G 0 dX8_unhitch_27 rfl ?_
  exact J_iret G dX8_unhitch_28 rfl
theorem mX8_loadOf (u : jU) (p0 : Int) (p1 : Int) (mem : Mem) : jMet u yX8_loadOf cX8_loadOf 3 (some .int) (jRm 1 21) [vR (uB u) 0, vI p0, vI p1] mem (EpI mem) (BP_loadOf p0 p1 mem) := by
  refine jMet_of (by decide +kernel) (Nat.le_of_ble_eq_true rfl) (fun x G => ?_)
  show J u x 3 (jQ u x (EpI mem)) 0 [(0, vR (uB u) 0), (1, vI p0), (2, vI p1)] [] mem _
  unfold BP_loadOf
  refine J_aload_n G 0 dX8_loadOf_0 rfl ?_
  refine J_getR (d := 1) (k := 0) G cls_8 wf_X8_14 kd_0 rfl rfl dX8_loadOf_1 ?_
  refine J_iload_n G 1 dX8_loadOf_4 rfl ?_
  refine J_cVpI (As := [vI p0]) G (mX0_isLoad u 1 kd_1 p0 mem) sg_X0_isLoad sv_X0_isLoad wm_X8_115 cls_0 kd_1 rfl ⟨by decide, by decide⟩ rfl rfl (Nat.le_of_ble_eq_true rfl) dX8_loadOf_5 ?_
  intro r1
  refine J_if_ne 13 G dX8_loadOf_8 (by decide) ?_ ?_
  · refine J_iload_n G 2 dX8_loadOf_13 rfl ?_
    refine J_split (fun hs2 => ?_) (fun hs2 => ?_)
    · refine J_tableIn (off := 30) 44 G dX8_loadOf_14 hs2 (by decide) (by decide) (by decide) (by decide) ?_
      refine J_aload_n G 0 dX8_loadOf_44 rfl ?_
      refine J_getR (d := 1) (k := 0) G cls_8 wf_X8_14 kd_0 rfl rfl dX8_loadOf_45 ?_
      refine J_getR (d := 4) (k := 5) G cls_0 wf_X8_138 kd_1 rfl rfl dX8_loadOf_48 ?_
      refine J_iload_n G 1 dX8_loadOf_51 rfl ?_
      refine J_iald G kd_4 ln_4 dX8_loadOf_52 ?_
      exact J_iret G dX8_loadOf_53 rfl
    · skip
      refine J_split (fun hs3 => ?_) (fun hs3 => ?_)
      · refine J_tableIn (off := 40) 54 G dX8_loadOf_14 hs3 (by decide) (by decide) (by decide) (by decide) ?_
        refine J_aload_n G 0 dX8_loadOf_54 rfl ?_
        refine J_getR (d := 1) (k := 0) G cls_8 wf_X8_14 kd_0 rfl rfl dX8_loadOf_55 ?_
        refine J_getR (d := 5) (k := 6) G cls_0 wf_X8_141 kd_1 rfl rfl dX8_loadOf_58 ?_
        refine J_iload_n G 1 dX8_loadOf_61 rfl ?_
        refine J_iald G kd_5 ln_5 dX8_loadOf_62 ?_
        exact J_iret G dX8_loadOf_63 rfl
      · skip
        refine J_split (fun hs4 => ?_) (fun hs4 => ?_)
        · refine J_tableIn (off := 50) 64 G dX8_loadOf_14 hs4 (by decide) (by decide) (by decide) (by decide) ?_
          refine J_aload_n G 0 dX8_loadOf_64 rfl ?_
          refine J_getR (d := 1) (k := 0) G cls_8 wf_X8_14 kd_0 rfl rfl dX8_loadOf_65 ?_
          refine J_getR (d := 6) (k := 7) G cls_0 wf_X8_122 kd_1 rfl rfl dX8_loadOf_68 ?_
          refine J_iload_n G 1 dX8_loadOf_71 rfl ?_
          refine J_iald G kd_6 ln_6 dX8_loadOf_72 ?_
          exact J_iret G dX8_loadOf_73 rfl
        · skip
          refine J_split (fun hs5 => ?_) (fun hs5 => ?_)
          · refine J_tableIn (off := 60) 74 G dX8_loadOf_14 hs5 (by decide) (by decide) (by decide) (by decide) ?_
            refine J_aload_n G 0 dX8_loadOf_74 rfl ?_
            refine J_getR (d := 1) (k := 0) G cls_8 wf_X8_14 kd_0 rfl rfl dX8_loadOf_75 ?_
            refine J_getR (d := 7) (k := 8) G cls_0 wf_X8_144 kd_1 rfl rfl dX8_loadOf_78 ?_
            refine J_iload_n G 1 dX8_loadOf_81 rfl ?_
            refine J_iald G kd_7 ln_7 dX8_loadOf_82 ?_
            exact J_iret G dX8_loadOf_83 rfl
          · skip
            refine J_tableOut 84 G dX8_loadOf_14 (by omega) (by decide) ?_
            refine J_iconst G dX8_loadOf_84 ?_
            exact J_iret G dX8_loadOf_85 rfl
  · refine J_iconst G dX8_loadOf_11 ?_
    exact J_iret G dX8_loadOf_12 rfl
theorem mX8_supportOf (u : jU) (p0 : Int) (p1 : Int) (mem : Mem) : jMet u yX8_supportOf cX8_supportOf 3 (some .int) (jRm 1 21) [vR (uB u) 0, vI p0, vI p1] mem (EpI mem) (BP_supportOf p0 p1 mem) := by
  refine jMet_of (by decide +kernel) (Nat.le_of_ble_eq_true rfl) (fun x G => ?_)
  show J u x 3 (jQ u x (EpI mem)) 0 [(0, vR (uB u) 0), (1, vI p0), (2, vI p1)] [] mem _
  unfold BP_supportOf
  refine J_aload_n G 0 dX8_supportOf_0 rfl ?_
  refine J_getR (d := 1) (k := 0) G cls_8 wf_X8_14 kd_0 rfl rfl dX8_supportOf_1 ?_
  refine J_iload_n G 1 dX8_supportOf_4 rfl ?_
  refine J_cVpI (As := [vI p0]) G (mX0_isSupport u 1 kd_1 p0 mem) sg_X0_isSupport sv_X0_isSupport wm_X8_147 cls_0 kd_1 rfl ⟨by decide, by decide⟩ rfl rfl (Nat.le_of_ble_eq_true rfl) dX8_supportOf_5 ?_
  intro r1
  refine J_if_ne 13 G dX8_supportOf_8 (by decide) ?_ ?_
  · refine J_iload_n G 2 dX8_supportOf_13 rfl ?_
    refine J_split (fun hs2 => ?_) (fun hs2 => ?_)
    · refine J_lookup (off := 26) 40 G dX8_supportOf_14 (by decide) (by rw [hs2]; rfl) (by decide) ?_
      refine J_aload_n G 0 dX8_supportOf_40 rfl ?_
      refine J_getR (d := 1) (k := 0) G cls_8 wf_X8_14 kd_0 rfl rfl dX8_supportOf_41 ?_
      refine J_getR (d := 2) (k := 2) G cls_0 wf_X8_150 kd_1 rfl rfl dX8_supportOf_44 ?_
      refine J_iload_n G 1 dX8_supportOf_47 rfl ?_
      refine J_iald G kd_2 ln_2 dX8_supportOf_48 ?_
      exact J_iret G dX8_supportOf_49 rfl
    · skip
      refine J_split (fun hs3 => ?_) (fun hs3 => ?_)
      · refine J_lookup (off := 36) 50 G dX8_supportOf_14 (by decide) (by rw [hs3]; rfl) (by decide) ?_
        refine J_aload_n G 0 dX8_supportOf_50 rfl ?_
        refine J_getR (d := 1) (k := 0) G cls_8 wf_X8_14 kd_0 rfl rfl dX8_supportOf_51 ?_
        refine J_getR (d := 3) (k := 3) G cls_0 wf_X8_153 kd_1 rfl rfl dX8_supportOf_54 ?_
        refine J_iload_n G 1 dX8_supportOf_57 rfl ?_
        refine J_iald G kd_3 ln_3 dX8_supportOf_58 ?_
        exact J_iret G dX8_supportOf_59 rfl
      · skip
        refine J_lookup (off := 46) 60 G dX8_supportOf_14 (by decide) (by simp [Op.lookupswitch.offset, hs2, hs3, Ne.symm hs2, Ne.symm hs3]) (by decide) ?_
        refine J_iconst G dX8_supportOf_60 ?_
        exact J_iret G dX8_supportOf_61 rfl
  · refine J_iconst G dX8_supportOf_11 ?_
    exact J_iret G dX8_supportOf_12 rfl
theorem jBeam_together_L4 {u : jU} {x : jX} (G : jG u x cX0_together RX0 3 (some .int) (jRm 0 0)) (a : Nat) (mem : Mem) (ha : kd a = 0) : ∀ (n : Nat) (i1 : Int) (i2 : Int), J u x 3 (jQ u x (EpI mem)) 4 [(0, vR (uB u) a), (1, vI i1), (2, vI i2)] [] mem (Beam_together_L4 a mem n i1 i2) := by
  intro n
  induction n with
  | zero => intro i1 i2; exact J_none
  | succ n ih =>
    intro i1 i2
    rw [Beam_together_L4]
    refine J_iload_n G 2 dX0_together_4 rfl ?_
    refine J_aload_n G 0 dX0_together_5 rfl ?_
    refine J_getI (i := 4) (k := 4) G cls_0 wf_X0_49 ha rfl rfl dX0_together_6 ?_
    refine J_icmp_ge 60 G dX0_together_9 (by decide) ?_ ?_
    · refine J_iload_n G 1 dX0_together_60 rfl ?_
      exact J_iret G dX0_together_61 rfl
    · refine J_iload_n G 1 dX0_together_12 rfl ?_
      refine J_aload_n G 0 dX0_together_13 rfl ?_
      refine J_getR (d := (a + 6)) (k := 8) G cls_0 wf_X0_31 ha rfl rfl dX0_together_14 ?_
      refine J_iload_n G 2 dX0_together_17 rfl ?_
      refine J_iald G (bk_6 ha) (bl_6 ha) dX0_together_18 ?_
      refine J_iconst G dX0_together_19 ?_
      refine J_jn (fun g => ∀ x3, J u x 3 (jQ u x (EpI mem)) 52 [(0, vR (uB u) a), (2, vI i2)] [vI x3, vI i1] mem (g x3)) ?_ ?_
      · intro x3
        refine J_iadd G dX0_together_52 ?_
        refine J_ltI (fun x4 => ?_)
        refine J_istore_n (lv' := [(1, vI x4), (0, vR (uB u) a), (2, vI i2)]) G dX0_together_53 rfl (by decide) rfl ?_
        refine J_iinc (lv' := [(2, vI (i2 + 1)), (1, vI x4), (0, vR (uB u) a)]) G 2 dX0_together_54 rfl (by decide) rfl ?_
        refine J_goto 4 G dX0_together_57 (by decide) ?_
        refine J_lv [2, 1, 0] rfl ?_
        exact ih x4 (i2 + 1)
      · intro k52 hk52
        refine J_icmp_ne 32 G dX0_together_20 (by decide) ?_ ?_
        · refine J_aload_n G 0 dX0_together_32 rfl ?_
          refine J_getR (d := (a + 5)) (k := 7) G cls_0 wf_X0_28 ha rfl rfl dX0_together_33 ?_
          refine J_iload_n G 2 dX0_together_36 rfl ?_
          refine J_iald G (bk_5 ha) (bl_5 ha) dX0_together_37 ?_
          refine J_aload_n G 0 dX0_together_38 rfl ?_
          refine J_getR (d := (a + 4)) (k := 6) G cls_0 wf_X0_25 ha rfl rfl dX0_together_39 ?_
          refine J_iload_n G 2 dX0_together_42 rfl ?_
          refine J_iald G (bk_4 ha) (bl_4 ha) dX0_together_43 ?_
          refine J_aload_n G 0 dX0_together_44 rfl ?_
          refine J_getR (d := (a + 3)) (k := 5) G cls_0 wf_X0_22 ha rfl rfl dX0_together_45 ?_
          refine J_iload_n G 2 dX0_together_48 rfl ?_
          refine J_iald G (bk_3 ha) (bl_3 ha) dX0_together_49 ?_
          refine J_isub G dX0_together_50 ?_
          refine J_imul G dX0_together_51 ?_
          refine J_lv [0, 2] rfl ?_
          exact hk52 ((mem (a + 5) (s32 i2)) * ((mem (a + 4) (s32 i2)) - (mem (a + 3) (s32 i2))))
        · refine J_aload_n G 0 dX0_together_23 rfl ?_
          refine J_getR (d := (a + 5)) (k := 7) G cls_0 wf_X0_28 ha rfl rfl dX0_together_24 ?_
          refine J_iload_n G 2 dX0_together_27 rfl ?_
          refine J_iald G (bk_5 ha) (bl_5 ha) dX0_together_28 ?_
          refine J_goto 52 G dX0_together_29 (by decide) ?_
          refine J_lv [0, 2] rfl ?_
          exact hk52 (mem (a + 5) (s32 i2))
theorem mX0_together (u : jU) (a : Nat) (ha : kd a = 0) (mem : Mem) : jMet u yX0_together cX0_together 3 (some .int) (jRm 0 0) [vR (uB u) a] mem (EpI mem) (Beam_together a mem) := by
  refine jMet_of (by decide +kernel) (Nat.le_of_ble_eq_true rfl) (fun x G => ?_)
  show J u x 3 (jQ u x (EpI mem)) 0 [(0, vR (uB u) a)] [] mem _
  unfold Beam_together
  refine J_iconst G dX0_together_0 ?_
  refine J_istore_n (lv' := [(1, vI 0), (0, vR (uB u) a)]) G dX0_together_1 rfl (by decide) rfl ?_
  refine J_iconst G dX0_together_2 ?_
  refine J_istore_n (lv' := [(2, vI 0), (1, vI 0), (0, vR (uB u) a)]) G dX0_together_3 rfl (by decide) rfl ?_
  refine J_lv [2, 1, 0] rfl ?_
  exact jBeam_together_L4 G a mem ha 2000 0 0
theorem mX8_count (u : jU) (p0 : Int) (mem : Mem) : jMet u yX8_count cX8_count 2 (some .int) (jRm 1 22) [vR (uB u) 0, vI p0] mem (EpI mem) (BP_count p0 mem) := by
  refine jMet_of (by decide +kernel) (Nat.le_of_ble_eq_true rfl) (fun x G => ?_)
  show J u x 2 (jQ u x (EpI mem)) 0 [(0, vR (uB u) 0), (1, vI p0)] [] mem _
  unfold BP_count
  refine J_iload_n G 1 dX8_count_0 rfl ?_
  refine J_split (fun hs1 => ?_) (fun hs1 => ?_)
  · refine J_tableIn (off := 47) 48 G dX8_count_1 hs1 (by decide) (by decide) (by decide) (by decide) ?_
    refine J_aload_n G 0 dX8_count_48 rfl ?_
    refine J_getR (d := 1) (k := 0) G cls_8 wf_X8_14 kd_0 rfl rfl dX8_count_49 ?_
    refine J_getI (i := 0) (k := 0) G cls_0 wf_X8_70 kd_1 rfl rfl dX8_count_52 ?_
    exact J_iret G dX8_count_55 rfl
  · skip
    refine J_split (fun hs2 => ?_) (fun hs2 => ?_)
    · refine J_tableIn (off := 55) 56 G dX8_count_1 hs2 (by decide) (by decide) (by decide) (by decide) ?_
      refine J_aload_n G 0 dX8_count_56 rfl ?_
      refine J_getR (d := 1) (k := 0) G cls_8 wf_X8_14 kd_0 rfl rfl dX8_count_57 ?_
      refine J_getI (i := 1) (k := 1) G cls_0 wf_X8_156 kd_1 rfl rfl dX8_count_60 ?_
      exact J_iret G dX8_count_63 rfl
    · skip
      refine J_split (fun hs3 => ?_) (fun hs3 => ?_)
      · refine J_tableIn (off := 63) 64 G dX8_count_1 hs3 (by decide) (by decide) (by decide) (by decide) ?_
        refine J_aload_n G 0 dX8_count_64 rfl ?_
        refine J_getR (d := 1) (k := 0) G cls_8 wf_X8_14 kd_0 rfl rfl dX8_count_65 ?_
        refine J_getI (i := 4) (k := 4) G cls_0 wf_X8_159 kd_1 rfl rfl dX8_count_68 ?_
        exact J_iret G dX8_count_71 rfl
      · skip
        refine J_split (fun hs4 => ?_) (fun hs4 => ?_)
        · refine J_tableIn (off := 71) 72 G dX8_count_1 hs4 (by decide) (by decide) (by decide) (by decide) ?_
          refine J_aload_n G 0 dX8_count_72 rfl ?_
          refine J_getR (d := 1) (k := 0) G cls_8 wf_X8_14 kd_0 rfl rfl dX8_count_73 ?_
          refine J_getI (i := 9) (k := 9) G cls_0 wf_X8_135 kd_1 rfl rfl dX8_count_76 ?_
          exact J_iret G dX8_count_79 rfl
        · skip
          refine J_split (fun hs5 => ?_) (fun hs5 => ?_)
          · refine J_tableIn (off := 79) 80 G dX8_count_1 hs5 (by decide) (by decide) (by decide) (by decide) ?_
            refine J_aload_n G 0 dX8_count_80 rfl ?_
            refine J_getR (d := 10) (k := 1) G cls_8 wf_X8_21 kd_0 rfl rfl dX8_count_81 ?_
            refine J_getI (i := 0) (k := 0) G cls_1 wf_X8_162 kd_10 rfl rfl dX8_count_84 ?_
            exact J_iret G dX8_count_87 rfl
          · skip
            refine J_split (fun hs6 => ?_) (fun hs6 => ?_)
            · refine J_tableIn (off := 87) 88 G dX8_count_1 hs6 (by decide) (by decide) (by decide) (by decide) ?_
              refine J_aload_n G 0 dX8_count_88 rfl ?_
              refine J_getR (d := 131) (k := 7) G cls_8 wf_X8_48 kd_0 rfl rfl dX8_count_89 ?_
              refine J_getI (i := 0) (k := 0) G cls_5 wf_X8_165 kd_131 rfl rfl dX8_count_92 ?_
              exact J_iret G dX8_count_95 rfl
            · skip
              refine J_split (fun hs7 => ?_) (fun hs7 => ?_)
              · refine J_tableIn (off := 95) 96 G dX8_count_1 hs7 (by decide) (by decide) (by decide) (by decide) ?_
                refine J_aload_n G 0 dX8_count_96 rfl ?_
                refine J_getR (d := 143) (k := 8) G cls_8 wf_X8_55 kd_0 rfl rfl dX8_count_97 ?_
                refine J_getI (i := 0) (k := 0) G cls_3 wf_X8_166 kd_143 rfl rfl dX8_count_100 ?_
                exact J_iret G dX8_count_103 rfl
              · skip
                refine J_split (fun hs8 => ?_) (fun hs8 => ?_)
                · refine J_tableIn (off := 103) 104 G dX8_count_1 hs8 (by decide) (by decide) (by decide) (by decide) ?_
                  refine J_aload_n G 0 dX8_count_104 rfl ?_
                  refine J_getR (d := 1) (k := 0) G cls_8 wf_X8_14 kd_0 rfl rfl dX8_count_105 ?_
                  refine J_cVpI (As := []) G (mX0_together u 1 kd_1 mem) sg_X0_together sv_X0_together wm_X8_167 cls_0 kd_1 rfl ⟨by decide, by decide⟩ rfl rfl (Nat.le_of_ble_eq_true rfl) dX8_count_108 ?_
                  intro r9
                  exact J_iret G dX8_count_111 rfl
                · skip
                  refine J_tableOut 112 G dX8_count_1 (by omega) (by decide) ?_
                  refine J_iconst G dX8_count_112 ?_
                  exact J_iret G dX8_count_113 rfl
theorem mX0_stands (u : jU) (a : Nat) (ha : kd a = 0) (mem : Mem) : jMet u yX0_stands cX0_stands 1 (some .boolean) (jRm 0 0) [vR (uB u) a] mem (EpI mem) (Beam_stands a mem) := by
  refine jMet_of (by decide +kernel) (Nat.le_of_ble_eq_true rfl) (fun x G => ?_)
  show J u x 1 (jQ u x (EpI mem)) 0 [(0, vR (uB u) a)] [] mem _
  unfold Beam_stands
  refine J_aload_n G 0 dX0_stands_0 rfl ?_
  refine J_getI (i := 1) (k := 1) G cls_0 wf_X0_40 ha rfl rfl dX0_stands_1 ?_
  refine J_iconst G dX0_stands_4 ?_
  refine J_icmp_lt 12 G dX0_stands_5 (by decide) ?_ ?_
  · refine J_iconst G dX0_stands_12 ?_
    exact J_zret G dX0_stands_13 (by decide) rfl
  · refine J_iconst G dX0_stands_8 ?_
    refine J_goto 13 G dX0_stands_9 (by decide) ?_
    exact J_zret G dX0_stands_13 (by decide) rfl
theorem mX8_isPart (u : jU) (p0 : Int) (mem : Mem) : jMet u yX8_isPart cX8_isPart 1 (some .boolean) (jRm 0 0) [vI p0] mem (EpI mem) (BP_isPart p0 mem) := by
  refine jMet_of (by decide +kernel) (Nat.le_of_ble_eq_true rfl) (fun x G => ?_)
  show J u x 1 (jQ u x (EpI mem)) 0 [(0, vI p0)] [] mem _
  unfold BP_isPart
  refine J_iload_n G 0 dX8_isPart_0 rfl ?_
  refine J_if_eq 9 G dX8_isPart_1 (by decide) ?_ ?_
  · refine J_iconst G dX8_isPart_9 ?_
    refine J_goto 14 G dX8_isPart_10 (by decide) ?_
    exact J_zret G dX8_isPart_14 (by decide) rfl
  · refine J_iload_n G 0 dX8_isPart_4 rfl ?_
    refine J_iconst G dX8_isPart_5 ?_
    refine J_icmp_ne 13 G dX8_isPart_6 (by decide) ?_ ?_
    · refine J_iconst G dX8_isPart_13 ?_
      exact J_zret G dX8_isPart_14 (by decide) rfl
    · refine J_iconst G dX8_isPart_9 ?_
      refine J_goto 14 G dX8_isPart_10 (by decide) ?_
      exact J_zret G dX8_isPart_14 (by decide) rfl
theorem jjd_fill_L6 {u : jU} {x : jX} (G : jG u x cJ7_fill_d0a16 RJ7 5 none (jRm 0 0)) (b : Nat) (p1 : Int) (x1 : Int) (hb : kd b = 21) : ∀ (n : Nat) (i2 : Int) (m3 : Mem), J u x 5 (jQ u x EwV) 6 [(0, vR (uB u) b), (1, vL p1), (3, vI i2), (4, vI x1)] [] m3 (jd_fill_L6 b p1 x1 n i2 m3) := by
  intro n
  induction n with
  | zero => intro i2 m3; exact J_none
  | succ n ih =>
    intro i2 m3
    rw [jd_fill_L6]
    refine J_iload_n G 2 dJ7_fill_d0a16_6 rfl ?_
    refine J_iload G 3 dJ7_fill_d0a16_7 rfl ?_
    refine J_icmp_ge 22 G dJ7_fill_d0a16_9 (by decide) ?_ ?_
    · exact J_vret G dJ7_fill_d0a16_22 rfl
    · refine J_aload_n G 0 dJ7_fill_d0a16_12 rfl ?_
      refine J_iload_n G 2 dJ7_fill_d0a16_13 rfl ?_
      refine J_lload_n G 1 dJ7_fill_d0a16_14 rfl ?_
      refine J_last G hb rfl dJ7_fill_d0a16_15 ?_
      refine J_ltM (fun m4 => ?_)
      refine J_iinc (lv' := [(3, vI (i2 + 1)), (0, vR (uB u) b), (1, vL p1), (4, vI x1)]) G 2 dJ7_fill_d0a16_16 rfl (by decide) rfl ?_
      refine J_goto 6 G dJ7_fill_d0a16_19 (by decide) ?_
      refine J_lv [1, 2, 0, 3] rfl ?_
      exact ih (i2 + 1) m4
theorem mJ7_fill_d0a16 (u : jU) (b : Nat) (hb : kd b = 21) (p1 : Int) (mem : Mem) : jMet u yJ7_fill_d0a16 cJ7_fill_d0a16 5 none (jRm 0 0) [vR (uB u) b, vL p1] mem EwV (jd_fill b p1 mem) := by
  refine jMet_of (by decide +kernel) (Nat.le_of_ble_eq_true rfl) (fun x G => ?_)
  show J u x 5 (jQ u x EwV) 0 [(0, vR (uB u) b), (1, vL p1)] [] mem _
  unfold jd_fill
  refine J_iconst G dJ7_fill_d0a16_0 ?_
  refine J_istore_n (lv' := [(3, vI 0), (0, vR (uB u) b), (1, vL p1)]) G dJ7_fill_d0a16_1 rfl (by decide) rfl ?_
  refine J_aload_n G 1 dJ7_fill_d0a16_2 rfl ?_
  refine J_alen (i := ((ln b : Nat) : Int)) G (Or.inr hb) rfl rfl dJ7_fill_d0a16_3 ?_
  refine J_ltI (fun x1 => ?_)
  refine J_istore (lv' := [(4, vI x1), (3, vI 0), (0, vR (uB u) b), (1, vL p1)]) G dJ7_fill_d0a16_4 (by decide) rfl ?_
  refine J_lv [2, 3, 1, 0] rfl ?_
  exact jjd_fill_L6 G b p1 x1 hb 2000 0 mem
theorem mX7_frame (u : jU) (mem : Mem) : jMet u yX7_frame cX7_frame 2 none (jRm 1 48) [vR (uB u) 111, vR (uB u) 1] mem EwV (Sta_frame mem) := by
  refine jMet_of (by decide +kernel) (Nat.le_of_ble_eq_true rfl) (fun x G => ?_)
  show J u x 2 (jQ u x EwV) 0 [(0, vR (uB u) 111), (1, vR (uB u) 1)] [] mem _
  unfold Sta_frame
  refine J_aload_n G 0 dX7_frame_0 rfl ?_
  refine J_aload_n G 1 dX7_frame_1 rfl ?_
  refine J_getI (i := 0) (k := 0) G cls_0 wf_X7_72 kd_1 rfl rfl dX7_frame_2 ?_
  refine J_putI (i := 0) (k := 0) G cls_7 wf_X7_78 kd_111 rfl rfl rfl rfl dX7_frame_5 ?_
  refine J_ltM (fun m1 => ?_)
  refine J_aload_n G 0 dX7_frame_8 rfl ?_
  refine J_aload_n G 1 dX7_frame_9 rfl ?_
  refine J_getI (i := 1) (k := 1) G cls_0 wf_X7_79 kd_1 rfl rfl dX7_frame_10 ?_
  refine J_putI (i := 1) (k := 1) G cls_7 wf_X7_82 kd_111 rfl rfl rfl rfl dX7_frame_13 ?_
  refine J_ltM (fun m2 => ?_)
  refine J_aload_n G 1 dX7_frame_16 rfl ?_
  refine J_getR (d := 2) (k := 2) G cls_0 wf_X7_83 kd_1 rfl rfl dX7_frame_17 ?_
  refine J_iconst G dX7_frame_20 ?_
  refine J_aload_n G 0 dX7_frame_21 rfl ?_
  refine J_getR (d := 112) (k := 2) G cls_7 wf_X7_9 kd_111 rfl rfl dX7_frame_22 ?_
  refine J_iconst G dX7_frame_25 ?_
  refine J_iconst G dX7_frame_26 ?_
  refine J_copyI (n := 4) G wm_X7_84 w_copy1 w_copy2 w_copy3 kd_2 kd_112 (by rw [ln_2]; decide) (by rw [ln_112]; decide) (by decide) rfl ⟨by decide, Nat.le_of_ble_eq_true rfl⟩ dX7_frame_27 ?_
  refine J_ltM (fun m3 => ?_)
  refine J_aload_n G 1 dX7_frame_30 rfl ?_
  refine J_getR (d := 3) (k := 3) G cls_0 wf_X7_90 kd_1 rfl rfl dX7_frame_31 ?_
  refine J_iconst G dX7_frame_34 ?_
  refine J_aload_n G 0 dX7_frame_35 rfl ?_
  refine J_getR (d := 113) (k := 3) G cls_7 wf_X7_15 kd_111 rfl rfl dX7_frame_36 ?_
  refine J_iconst G dX7_frame_39 ?_
  refine J_iconst G dX7_frame_40 ?_
  refine J_copyI (n := 4) G wm_X7_84 w_copy1 w_copy2 w_copy3 kd_3 kd_113 (by rw [ln_3]; decide) (by rw [ln_113]; decide) (by decide) rfl ⟨by decide, Nat.le_of_ble_eq_true rfl⟩ dX7_frame_41 ?_
  refine J_ltM (fun m4 => ?_)
  refine J_aload_n G 0 dX7_frame_44 rfl ?_
  refine J_getR (d := 114) (k := 4) G cls_7 wf_X7_18 kd_111 rfl rfl dX7_frame_45 ?_
  refine J_lconst (v := 0) G dX7_frame_48 (by decide) ?_
  refine J_cSwV (As := [vR (uB u) 114, vL 0]) G (mJ7_fill_d0a16 u 114 kd_114 0 m4) sg_J7_fill_d0a16 ss_J7_fill_d0a16 wm_X7_91 ⟨by decide, by decide⟩ rfl rfl (Nat.le_of_ble_eq_true rfl) dX7_frame_49 ?_
  intro m5
  refine J_aload_n G 0 dX7_frame_52 rfl ?_
  refine J_getR (d := 115) (k := 5) G cls_7 wf_X7_22 kd_111 rfl rfl dX7_frame_53 ?_
  refine J_lconst (v := 0) G dX7_frame_56 (by decide) ?_
  refine J_cSwV (As := [vR (uB u) 115, vL 0]) G (mJ7_fill_d0a16 u 115 kd_115 0 m5) sg_J7_fill_d0a16 ss_J7_fill_d0a16 wm_X7_91 ⟨by decide, by decide⟩ rfl rfl (Nat.le_of_ble_eq_true rfl) dX7_frame_57 ?_
  intro m6
  exact J_vret G dX7_frame_60 rfl
theorem mX7_bearPoint (u : jU) (p0 : Int) (p1 : Int) (mem : Mem) : jMet u yX7_bearPoint cX7_bearPoint 3 none (jRm 0 0) [vR (uB u) 111, vI p0, vI p1] mem EwV (Sta_bearPoint p0 p1 mem) := by
  refine jMet_of (by decide +kernel) (Nat.le_of_ble_eq_true rfl) (fun x G => ?_)
  show J u x 3 (jQ u x EwV) 0 [(0, vR (uB u) 111), (1, vI p0), (2, vI p1)] [] mem _
  unfold Sta_bearPoint
  refine J_iload_n G 1 dX7_bearPoint_0 rfl ?_
  refine J_if_lt 23 G dX7_bearPoint_1 (by decide) ?_ ?_
  · exact J_vret G dX7_bearPoint_23 rfl
  · refine J_iload_n G 1 dX7_bearPoint_4 rfl ?_
    refine J_aload_n G 0 dX7_bearPoint_5 rfl ?_
    refine J_getI (i := 0) (k := 0) G cls_7 wf_X7_78 kd_111 rfl rfl dX7_bearPoint_6 ?_
    refine J_icmp_gt 23 G dX7_bearPoint_9 (by decide) ?_ ?_
    · exact J_vret G dX7_bearPoint_23 rfl
    · refine J_aload_n G 0 dX7_bearPoint_12 rfl ?_
      refine J_getR (d := 114) (k := 4) G cls_7 wf_X7_18 kd_111 rfl rfl dX7_bearPoint_13 ?_
      refine J_iload_n G 1 dX7_bearPoint_16 rfl ?_
      refine J_dup2 G dX7_bearPoint_17 rfl rfl ?_
      refine J_lald G kd_114 ln_114 dX7_bearPoint_18 ?_
      refine J_iload_n G 2 dX7_bearPoint_19 rfl ?_
      refine J_i2l G dX7_bearPoint_20 ?_
      refine J_ladd G dX7_bearPoint_21 ?_
      refine J_last G kd_114 ln_114 dX7_bearPoint_22 ?_
      refine J_ltM (fun m1 => ?_)
      exact J_vret G dX7_bearPoint_23 rfl
theorem jSta_bearLoads_L46 {u : jU} {x : jX} (G : jG u x cX7_bearLoads RX7 4 none (jRm 1 22)) (i1 : Int) (k78 : Mem → Option Mem) (hk78 : (fun g => ∀ m4, J u x 4 (jQ u x EwV) 78 [(0, vR (uB u) 111), (1, vR (uB u) 1), (2, vI i1)] [] m4 (g m4)) k78) : ∀ (n : Nat) (i5 : Int) (m6 : Mem), J u x 4 (jQ u x EwV) 46 [(0, vR (uB u) 111), (1, vR (uB u) 1), (2, vI i1), (3, vI i5)] [] m6 (Sta_bearLoads_L46 i1 k78 n i5 m6) := by
  intro n
  induction n with
  | zero => intro i5 m6; exact J_none
  | succ n ih =>
    intro i5 m6
    rw [Sta_bearLoads_L46]
    refine J_iload_n G 3 dX7_bearLoads_46 rfl ?_
    refine J_aload_n G 1 dX7_bearLoads_47 rfl ?_
    refine J_getR (d := 5) (k := 6) G cls_0 wf_X7_113 kd_1 rfl rfl dX7_bearLoads_48 ?_
    refine J_iload_n G 2 dX7_bearLoads_51 rfl ?_
    refine J_iald G kd_5 ln_5 dX7_bearLoads_52 ?_
    refine J_icmp_ge 78 G dX7_bearLoads_53 (by decide) ?_ ?_
    · refine J_lv [0, 1, 2] rfl ?_
      exact hk78 m6
    · refine J_aload_n G 0 dX7_bearLoads_56 rfl ?_
      refine J_getR (d := 115) (k := 5) G cls_7 wf_X7_22 kd_111 rfl rfl dX7_bearLoads_57 ?_
      refine J_iload_n G 3 dX7_bearLoads_60 rfl ?_
      refine J_dup2 G dX7_bearLoads_61 rfl rfl ?_
      refine J_lald G kd_115 ln_115 dX7_bearLoads_62 ?_
      refine J_aload_n G 1 dX7_bearLoads_63 rfl ?_
      refine J_getR (d := 6) (k := 7) G cls_0 wf_X7_106 kd_1 rfl rfl dX7_bearLoads_64 ?_
      refine J_iload_n G 2 dX7_bearLoads_67 rfl ?_
      refine J_iald G kd_6 ln_6 dX7_bearLoads_68 ?_
      refine J_i2l G dX7_bearLoads_69 ?_
      refine J_ladd G dX7_bearLoads_70 ?_
      refine J_last G kd_115 ln_115 dX7_bearLoads_71 ?_
      refine J_ltM (fun m7 => ?_)
      refine J_iinc (lv' := [(3, vI (i5 + 1)), (0, vR (uB u) 111), (1, vR (uB u) 1), (2, vI i1)]) G 3 dX7_bearLoads_72 rfl (by decide) rfl ?_
      refine J_goto 46 G dX7_bearLoads_75 (by decide) ?_
      refine J_lv [1, 2, 3, 0] rfl ?_
      exact ih (i5 + 1) m7
theorem jSta_bearLoads_L2 {u : jU} {x : jX} (G : jG u x cX7_bearLoads RX7 4 none (jRm 1 22)) : ∀ (n : Nat) (i1 : Int) (m2 : Mem), J u x 4 (jQ u x EwV) 2 [(0, vR (uB u) 111), (1, vR (uB u) 1), (2, vI i1)] [] m2 (Sta_bearLoads_L2 n i1 m2) := by
  intro n
  induction n with
  | zero => intro i1 m2; exact J_none
  | succ n ih =>
    intro i1 m2
    rw [Sta_bearLoads_L2]
    refine J_iload_n G 2 dX7_bearLoads_2 rfl ?_
    refine J_aload_n G 1 dX7_bearLoads_3 rfl ?_
    refine J_getI (i := 4) (k := 4) G cls_0 wf_X7_97 kd_1 rfl rfl dX7_bearLoads_4 ?_
    refine J_icmp_ge 84 G dX7_bearLoads_7 (by decide) ?_ ?_
    · exact J_vret G dX7_bearLoads_84 rfl
    · refine J_aload_n G 1 dX7_bearLoads_10 rfl ?_
      refine J_getR (d := 7) (k := 8) G cls_0 wf_X7_100 kd_1 rfl rfl dX7_bearLoads_11 ?_
      refine J_iload_n G 2 dX7_bearLoads_14 rfl ?_
      refine J_iald G kd_7 ln_7 dX7_bearLoads_15 ?_
      refine J_iconst G dX7_bearLoads_16 ?_
      refine J_icmp_ne 39 G dX7_bearLoads_17 (by decide) ?_ ?_
      · refine J_aload_n G 1 dX7_bearLoads_39 rfl ?_
        refine J_getR (d := 4) (k := 5) G cls_0 wf_X7_103 kd_1 rfl rfl dX7_bearLoads_40 ?_
        refine J_iload_n G 2 dX7_bearLoads_43 rfl ?_
        refine J_iald G kd_4 ln_4 dX7_bearLoads_44 ?_
        refine J_ltI (fun x3 => ?_)
        refine J_istore_n (lv' := [(3, vI x3), (0, vR (uB u) 111), (1, vR (uB u) 1), (2, vI i1)]) G dX7_bearLoads_45 rfl (by decide) rfl ?_
        refine J_jn (fun g => ∀ m4, J u x 4 (jQ u x EwV) 78 [(0, vR (uB u) 111), (1, vR (uB u) 1), (2, vI i1)] [] m4 (g m4)) ?_ ?_
        · intro m4
          refine J_iinc (lv' := [(2, vI (i1 + 1)), (0, vR (uB u) 111), (1, vR (uB u) 1)]) G 2 dX7_bearLoads_78 rfl (by decide) rfl ?_
          refine J_goto 2 G dX7_bearLoads_81 (by decide) ?_
          refine J_lv [1, 2, 0] rfl ?_
          exact ih (i1 + 1) m4
        · intro k78 hk78
          refine J_lv [1, 2, 3, 0] rfl ?_
          exact jSta_bearLoads_L46 G i1 k78 hk78 2000 x3 m2
      · refine J_aload_n G 0 dX7_bearLoads_20 rfl ?_
        refine J_aload_n G 1 dX7_bearLoads_21 rfl ?_
        refine J_getR (d := 4) (k := 5) G cls_0 wf_X7_103 kd_1 rfl rfl dX7_bearLoads_22 ?_
        refine J_iload_n G 2 dX7_bearLoads_25 rfl ?_
        refine J_iald G kd_4 ln_4 dX7_bearLoads_26 ?_
        refine J_aload_n G 1 dX7_bearLoads_27 rfl ?_
        refine J_getR (d := 6) (k := 7) G cls_0 wf_X7_106 kd_1 rfl rfl dX7_bearLoads_28 ?_
        refine J_iload_n G 2 dX7_bearLoads_31 rfl ?_
        refine J_iald G kd_6 ln_6 dX7_bearLoads_32 ?_
        refine J_cVwV (As := [vI (m2 4 (s32 i1)), vI (m2 6 (s32 i1))]) G (mX7_bearPoint u (m2 4 (s32 i1)) (m2 6 (s32 i1)) m2) sg_X7_bearPoint sv_X7_bearPoint wm_X7_109 cls_7 kd_111 rfl ⟨by decide, by decide⟩ rfl rfl (Nat.le_of_ble_eq_true rfl) dX7_bearLoads_33 ?_
        intro m8
        refine J_goto 78 G dX7_bearLoads_36 (by decide) ?_
        refine J_iinc (lv' := [(2, vI (i1 + 1)), (0, vR (uB u) 111), (1, vR (uB u) 1)]) G 2 dX7_bearLoads_78 rfl (by decide) rfl ?_
        refine J_goto 2 G dX7_bearLoads_81 (by decide) ?_
        refine J_lv [1, 2, 0] rfl ?_
        exact ih (i1 + 1) m8
theorem mX7_bearLoads (u : jU) (mem : Mem) : jMet u yX7_bearLoads cX7_bearLoads 4 none (jRm 1 22) [vR (uB u) 111, vR (uB u) 1] mem EwV (Sta_bearLoads mem) := by
  refine jMet_of (by decide +kernel) (Nat.le_of_ble_eq_true rfl) (fun x G => ?_)
  show J u x 4 (jQ u x EwV) 0 [(0, vR (uB u) 111), (1, vR (uB u) 1)] [] mem _
  unfold Sta_bearLoads
  refine J_iconst G dX7_bearLoads_0 ?_
  refine J_istore_n (lv' := [(2, vI 0), (0, vR (uB u) 111), (1, vR (uB u) 1)]) G dX7_bearLoads_1 rfl (by decide) rfl ?_
  refine J_lv [1, 2, 0] rfl ?_
  exact jSta_bearLoads_L2 G 2000 0 mem
theorem mX7_span (u : jU) (p0 : Int) (mem : Mem) : jMet u yX7_span cX7_span 2 (some .long) (jRm 0 0) [vR (uB u) 111, vI p0] mem (EpL mem) (Sta_span p0 mem) := by
  refine jMet_of (by decide +kernel) (Nat.le_of_ble_eq_true rfl) (fun x G => ?_)
  show J u x 2 (jQ u x (EpL mem)) 0 [(0, vR (uB u) 111), (1, vI p0)] [] mem _
  unfold Sta_span
  refine J_aload_n G 0 dX7_span_0 rfl ?_
  refine J_getR (d := 112) (k := 2) G cls_7 wf_X7_9 kd_111 rfl rfl dX7_span_1 ?_
  refine J_iload_n G 1 dX7_span_4 rfl ?_
  refine J_iconst G dX7_span_5 ?_
  refine J_iadd G dX7_span_6 ?_
  refine J_iald G kd_112 ln_112 dX7_span_7 ?_
  refine J_aload_n G 0 dX7_span_8 rfl ?_
  refine J_getR (d := 112) (k := 2) G cls_7 wf_X7_9 kd_111 rfl rfl dX7_span_9 ?_
  refine J_iload_n G 1 dX7_span_12 rfl ?_
  refine J_iald G kd_112 ln_112 dX7_span_13 ?_
  refine J_isub G dX7_span_14 ?_
  refine J_i2l G dX7_span_15 ?_
  exact J_lret G dX7_span_16 rfl
theorem jSta_twiceOverFirst_L4 {u : jU} {x : jX} (G : jG u x cX7_twiceOverFirst RX7 6 (some .long) (jRm 0 0)) (mem : Mem) : ∀ (n : Nat) (i1 : Int) (i2 : Int), J u x 6 (jQ u x (EpL mem)) 4 [(0, vR (uB u) 111), (1, vL i1), (3, vI i2)] [] mem (Sta_twiceOverFirst_L4 mem n i1 i2) := by
  intro n
  induction n with
  | zero => intro i1 i2; exact J_none
  | succ n ih =>
    intro i1 i2
    rw [Sta_twiceOverFirst_L4]
    refine J_iload_n G 2 dX7_twiceOverFirst_4 rfl ?_
    refine J_aload_n G 0 dX7_twiceOverFirst_5 rfl ?_
    refine J_getR (d := 112) (k := 2) G cls_7 wf_X7_9 kd_111 rfl rfl dX7_twiceOverFirst_6 ?_
    refine J_iconst G dX7_twiceOverFirst_9 ?_
    refine J_ialdC G kd_112 ln_112 (by decide) dX7_twiceOverFirst_10 ?_
    refine J_icmp_ge 63 G dX7_twiceOverFirst_11 (by decide) ?_ ?_
    · refine J_lload_n G 1 dX7_twiceOverFirst_63 rfl ?_
      exact J_lret G dX7_twiceOverFirst_64 rfl
    · refine J_aload_n G 0 dX7_twiceOverFirst_14 rfl ?_
      refine J_getR (d := 112) (k := 2) G cls_7 wf_X7_9 kd_111 rfl rfl dX7_twiceOverFirst_15 ?_
      refine J_iconst G dX7_twiceOverFirst_18 ?_
      refine J_ialdC G kd_112 ln_112 (by decide) dX7_twiceOverFirst_19 ?_
      refine J_iload_n G 2 dX7_twiceOverFirst_20 rfl ?_
      refine J_isub G dX7_twiceOverFirst_21 ?_
      refine J_i2l G dX7_twiceOverFirst_22 ?_
      refine J_ltL (fun x3 => ?_)
      refine J_lstore (lv' := [(4, vL x3), (0, vR (uB u) 111), (1, vL i1), (3, vI i2)]) G dX7_twiceOverFirst_23 (by decide) rfl ?_
      refine J_lload_n G 2 dX7_twiceOverFirst_25 rfl ?_
      refine J_ldc2 (v := 2) G dX7_twiceOverFirst_26 wc_X7_133 (by decide) ?_
      refine J_aload_n G 1 dX7_twiceOverFirst_29 rfl ?_
      refine J_getR (d := 114) (k := 4) G cls_7 wf_X7_18 kd_111 rfl rfl dX7_twiceOverFirst_30 ?_
      refine J_iload_n G 3 dX7_twiceOverFirst_33 rfl ?_
      refine J_lald G kd_114 ln_114 dX7_twiceOverFirst_34 ?_
      refine J_lmul G dX7_twiceOverFirst_35 ?_
      refine J_lload G 0 dX7_twiceOverFirst_36 rfl ?_
      refine J_lmul G dX7_twiceOverFirst_38 ?_
      refine J_aload_n G 1 dX7_twiceOverFirst_39 rfl ?_
      refine J_getR (d := 115) (k := 5) G cls_7 wf_X7_22 kd_111 rfl rfl dX7_twiceOverFirst_40 ?_
      refine J_iload_n G 3 dX7_twiceOverFirst_43 rfl ?_
      refine J_lald G kd_115 ln_115 dX7_twiceOverFirst_44 ?_
      refine J_ldc2 (v := 2) G dX7_twiceOverFirst_45 wc_X7_133 (by decide) ?_
      refine J_lload G 0 dX7_twiceOverFirst_48 rfl ?_
      refine J_lmul G dX7_twiceOverFirst_50 ?_
      refine J_lconst (v := 1) G dX7_twiceOverFirst_51 (by decide) ?_
      refine J_lsub G dX7_twiceOverFirst_52 ?_
      refine J_lmul G dX7_twiceOverFirst_53 ?_
      refine J_ladd G dX7_twiceOverFirst_54 ?_
      refine J_lsub G dX7_twiceOverFirst_55 ?_
      refine J_ltL (fun x4 => ?_)
      refine J_lstore_n (lv' := [(1, vL x4), (4, vL x3), (0, vR (uB u) 111), (3, vI i2)]) G dX7_twiceOverFirst_56 rfl (by decide) rfl ?_
      refine J_iinc (lv' := [(3, vI (i2 + 1)), (1, vL x4), (4, vL x3), (0, vR (uB u) 111)]) G 3 dX7_twiceOverFirst_57 rfl (by decide) rfl ?_
      refine J_goto 4 G dX7_twiceOverFirst_60 (by decide) ?_
      refine J_lv [3, 1, 0] rfl ?_
      exact ih x4 (i2 + 1)
theorem mX7_twiceOverFirst (u : jU) (mem : Mem) : jMet u yX7_twiceOverFirst cX7_twiceOverFirst 6 (some .long) (jRm 0 0) [vR (uB u) 111] mem (EpL mem) (Sta_twiceOverFirst mem) := by
  refine jMet_of (by decide +kernel) (Nat.le_of_ble_eq_true rfl) (fun x G => ?_)
  show J u x 6 (jQ u x (EpL mem)) 0 [(0, vR (uB u) 111)] [] mem _
  unfold Sta_twiceOverFirst
  refine J_lconst (v := 0) G dX7_twiceOverFirst_0 (by decide) ?_
  refine J_lstore_n (lv' := [(1, vL 0), (0, vR (uB u) 111)]) G dX7_twiceOverFirst_1 rfl (by decide) rfl ?_
  refine J_iconst G dX7_twiceOverFirst_2 ?_
  refine J_istore_n (lv' := [(3, vI 0), (1, vL 0), (0, vR (uB u) 111)]) G dX7_twiceOverFirst_3 rfl (by decide) rfl ?_
  refine J_lv [2, 1, 0] rfl ?_
  exact jSta_twiceOverFirst_L4 G mem 2000 0 0
theorem jSta_twiceOverLast_L17 {u : jU} {x : jX} (G : jG u x cX7_twiceOverLast RX7 7 (some .long) (jRm 0 0)) (mem : Mem) (x1 : Int) : ∀ (n : Nat) (i2 : Int) (i3 : Int), J u x 7 (jQ u x (EpL mem)) 17 [(0, vR (uB u) 111), (1, vI x1), (2, vL i2), (4, vI i3)] [] mem (Sta_twiceOverLast_L17 mem x1 n i2 i3) := by
  intro n
  induction n with
  | zero => intro i2 i3; exact J_none
  | succ n ih =>
    intro i2 i3
    rw [Sta_twiceOverLast_L17]
    refine J_iload G 3 dX7_twiceOverLast_17 rfl ?_
    refine J_aload_n G 0 dX7_twiceOverLast_19 rfl ?_
    refine J_getI (i := 0) (k := 0) G cls_7 wf_X7_78 kd_111 rfl rfl dX7_twiceOverLast_20 ?_
    refine J_icmp_ge 77 G dX7_twiceOverLast_23 (by decide) ?_ ?_
    · refine J_lload_n G 2 dX7_twiceOverLast_77 rfl ?_
      exact J_lret G dX7_twiceOverLast_78 rfl
    · refine J_iload G 3 dX7_twiceOverLast_26 rfl ?_
      refine J_iconst G dX7_twiceOverLast_28 ?_
      refine J_iadd G dX7_twiceOverLast_29 ?_
      refine J_iload_n G 1 dX7_twiceOverLast_30 rfl ?_
      refine J_isub G dX7_twiceOverLast_31 ?_
      refine J_i2l G dX7_twiceOverLast_32 ?_
      refine J_ltL (fun x4 => ?_)
      refine J_lstore (lv' := [(5, vL x4), (0, vR (uB u) 111), (1, vI x1), (2, vL i2), (4, vI i3)]) G dX7_twiceOverLast_33 (by decide) rfl ?_
      refine J_lload_n G 3 dX7_twiceOverLast_35 rfl ?_
      refine J_ldc2 (v := 2) G dX7_twiceOverLast_36 wc_X7_133 (by decide) ?_
      refine J_aload_n G 1 dX7_twiceOverLast_39 rfl ?_
      refine J_getR (d := 114) (k := 4) G cls_7 wf_X7_18 kd_111 rfl rfl dX7_twiceOverLast_40 ?_
      refine J_iload G 4 dX7_twiceOverLast_43 rfl ?_
      refine J_iconst G dX7_twiceOverLast_45 ?_
      refine J_iadd G dX7_twiceOverLast_46 ?_
      refine J_lald G kd_114 ln_114 dX7_twiceOverLast_47 ?_
      refine J_lmul G dX7_twiceOverLast_48 ?_
      refine J_lload G 0 dX7_twiceOverLast_49 rfl ?_
      refine J_lmul G dX7_twiceOverLast_51 ?_
      refine J_aload_n G 1 dX7_twiceOverLast_52 rfl ?_
      refine J_getR (d := 115) (k := 5) G cls_7 wf_X7_22 kd_111 rfl rfl dX7_twiceOverLast_53 ?_
      refine J_iload G 4 dX7_twiceOverLast_56 rfl ?_
      refine J_lald G kd_115 ln_115 dX7_twiceOverLast_58 ?_
      refine J_ldc2 (v := 2) G dX7_twiceOverLast_59 wc_X7_133 (by decide) ?_
      refine J_lload G 0 dX7_twiceOverLast_62 rfl ?_
      refine J_lmul G dX7_twiceOverLast_64 ?_
      refine J_lconst (v := 1) G dX7_twiceOverLast_65 (by decide) ?_
      refine J_lsub G dX7_twiceOverLast_66 ?_
      refine J_lmul G dX7_twiceOverLast_67 ?_
      refine J_ladd G dX7_twiceOverLast_68 ?_
      refine J_lsub G dX7_twiceOverLast_69 ?_
      refine J_ltL (fun x5 => ?_)
      refine J_lstore_n (lv' := [(2, vL x5), (5, vL x4), (0, vR (uB u) 111), (1, vI x1), (4, vI i3)]) G dX7_twiceOverLast_70 rfl (by decide) rfl ?_
      refine J_iinc (lv' := [(4, vI (i3 + 1)), (2, vL x5), (5, vL x4), (0, vR (uB u) 111), (1, vI x1)]) G 4 dX7_twiceOverLast_71 rfl (by decide) rfl ?_
      refine J_goto 17 G dX7_twiceOverLast_74 (by decide) ?_
      refine J_lv [3, 4, 1, 0] rfl ?_
      exact ih x5 (i3 + 1)
theorem mX7_twiceOverLast (u : jU) (mem : Mem) : jMet u yX7_twiceOverLast cX7_twiceOverLast 7 (some .long) (jRm 0 0) [vR (uB u) 111] mem (EpL mem) (Sta_twiceOverLast mem) := by
  refine jMet_of (by decide +kernel) (Nat.le_of_ble_eq_true rfl) (fun x G => ?_)
  show J u x 7 (jQ u x (EpL mem)) 0 [(0, vR (uB u) 111)] [] mem _
  unfold Sta_twiceOverLast
  refine J_aload_n G 0 dX7_twiceOverLast_0 rfl ?_
  refine J_getR (d := 112) (k := 2) G cls_7 wf_X7_9 kd_111 rfl rfl dX7_twiceOverLast_1 ?_
  refine J_aload_n G 0 dX7_twiceOverLast_4 rfl ?_
  refine J_getI (i := 1) (k := 1) G cls_7 wf_X7_82 kd_111 rfl rfl dX7_twiceOverLast_5 ?_
  refine J_iconst G dX7_twiceOverLast_8 ?_
  refine J_isub G dX7_twiceOverLast_9 ?_
  refine J_iald G kd_112 ln_112 dX7_twiceOverLast_10 ?_
  refine J_ltI (fun x1 => ?_)
  refine J_istore_n (lv' := [(1, vI x1), (0, vR (uB u) 111)]) G dX7_twiceOverLast_11 rfl (by decide) rfl ?_
  refine J_lconst (v := 0) G dX7_twiceOverLast_12 (by decide) ?_
  refine J_lstore_n (lv' := [(2, vL 0), (1, vI x1), (0, vR (uB u) 111)]) G dX7_twiceOverLast_13 rfl (by decide) rfl ?_
  refine J_iload_n G 1 dX7_twiceOverLast_14 rfl ?_
  refine J_istore (lv' := [(4, vI x1), (2, vL 0), (1, vI x1), (0, vR (uB u) 111)]) G dX7_twiceOverLast_15 (by decide) rfl ?_
  refine J_lv [3, 2, 1, 0] rfl ?_
  exact jSta_twiceOverLast_L17 G mem x1 2000 0 x1
theorem mX7_isInner (u : jU) (p0 : Int) (mem : Mem) : jMet u yX7_isInner cX7_isInner 2 (some .boolean) (jRm 0 0) [vR (uB u) 111, vI p0] mem (EpI mem) (Sta_isInner p0 mem) := by
  refine jMet_of (by decide +kernel) (Nat.le_of_ble_eq_true rfl) (fun x G => ?_)
  show J u x 2 (jQ u x (EpI mem)) 0 [(0, vR (uB u) 111), (1, vI p0)] [] mem _
  unfold Sta_isInner
  refine J_iload_n G 1 dX7_isInner_0 rfl ?_
  refine J_if_le 18 G dX7_isInner_1 (by decide) ?_ ?_
  · refine J_iconst G dX7_isInner_18 ?_
    exact J_zret G dX7_isInner_19 (by decide) rfl
  · refine J_iload_n G 1 dX7_isInner_4 rfl ?_
    refine J_aload_n G 0 dX7_isInner_5 rfl ?_
    refine J_getI (i := 1) (k := 1) G cls_7 wf_X7_82 kd_111 rfl rfl dX7_isInner_6 ?_
    refine J_iconst G dX7_isInner_9 ?_
    refine J_isub G dX7_isInner_10 ?_
    refine J_icmp_ge 18 G dX7_isInner_11 (by decide) ?_ ?_
    · refine J_iconst G dX7_isInner_18 ?_
      exact J_zret G dX7_isInner_19 (by decide) rfl
    · refine J_iconst G dX7_isInner_14 ?_
      refine J_goto 19 G dX7_isInner_15 (by decide) ?_
      exact J_zret G dX7_isInner_19 (by decide) rfl
theorem mX7_hasRow (u : jU) (p0 : Int) (mem : Mem) : jMet u yX7_hasRow cX7_hasRow 2 (some .boolean) (jRm 1 21) [vR (uB u) 111, vI p0] mem (EpI mem) (Sta_hasRow p0 mem) := by
  refine jMet_of (by decide +kernel) (Nat.le_of_ble_eq_true rfl) (fun x G => ?_)
  show J u x 2 (jQ u x (EpI mem)) 0 [(0, vR (uB u) 111), (1, vI p0)] [] mem _
  unfold Sta_hasRow
  refine J_aload_n G 0 dX7_hasRow_0 rfl ?_
  refine J_iload_n G 1 dX7_hasRow_1 rfl ?_
  refine J_cVpI (As := [vI p0]) G (mX7_isInner u p0 mem) sg_X7_isInner sv_X7_isInner wm_X7_125 cls_7 kd_111 rfl ⟨by decide, by decide⟩ rfl rfl (Nat.le_of_ble_eq_true rfl) dX7_hasRow_2 ?_
  intro r1
  refine J_if_eq 21 G dX7_hasRow_5 (by decide) ?_ ?_
  · refine J_iconst G dX7_hasRow_21 ?_
    exact J_zret G dX7_hasRow_22 (by decide) rfl
  · refine J_aload_n G 0 dX7_hasRow_8 rfl ?_
    refine J_getR (d := 113) (k := 3) G cls_7 wf_X7_15 kd_111 rfl rfl dX7_hasRow_9 ?_
    refine J_iload_n G 1 dX7_hasRow_12 rfl ?_
    refine J_iald G kd_113 ln_113 dX7_hasRow_13 ?_
    refine J_if_ne 21 G dX7_hasRow_14 (by decide) ?_ ?_
    · refine J_iconst G dX7_hasRow_21 ?_
      exact J_zret G dX7_hasRow_22 (by decide) rfl
    · refine J_iconst G dX7_hasRow_17 ?_
      refine J_goto 22 G dX7_hasRow_18 (by decide) ?_
      exact J_zret G dX7_hasRow_22 (by decide) rfl
theorem mX7_leanOfSpread (u : jU) (p0 : Int) (p1 : Int) (mem : Mem) : jMet u yX7_leanOfSpread cX7_leanOfSpread 4 (some .long) (jRm 0 0) [vL p0, vL p1] mem (EpL mem) (Sta_leanOfSpread p0 p1 mem) := by
  refine jMet_of (by decide +kernel) (Nat.le_of_ble_eq_true rfl) (fun x G => ?_)
  show J u x 4 (jQ u x (EpL mem)) 0 [(0, vL p0), (2, vL p1)] [] mem _
  unfold Sta_leanOfSpread
  refine J_lload_n G 1 dX7_leanOfSpread_0 rfl ?_
  refine J_lload_n G 1 dX7_leanOfSpread_1 rfl ?_
  refine J_lmul G dX7_leanOfSpread_2 ?_
  refine J_ldc2 (v := 2) G dX7_leanOfSpread_3 wc_X7_133 (by decide) ?_
  refine J_lload_n G 0 dX7_leanOfSpread_6 rfl ?_
  refine J_lmul G dX7_leanOfSpread_7 ?_
  refine J_lload_n G 0 dX7_leanOfSpread_8 rfl ?_
  refine J_lmul G dX7_leanOfSpread_9 ?_
  refine J_lload_n G 1 dX7_leanOfSpread_10 rfl ?_
  refine J_lload_n G 1 dX7_leanOfSpread_11 rfl ?_
  refine J_lmul G dX7_leanOfSpread_12 ?_
  refine J_lsub G dX7_leanOfSpread_13 ?_
  refine J_lmul G dX7_leanOfSpread_14 ?_
  exact J_lret G dX7_leanOfSpread_15 rfl
theorem mX7_leanOfPoint (u : jU) (p0 : Int) (p1 : Int) (mem : Mem) : jMet u yX7_leanOfPoint cX7_leanOfPoint 4 (some .long) (jRm 0 0) [vL p0, vL p1] mem (EpL mem) (Sta_leanOfPoint p0 p1 mem) := by
  refine jMet_of (by decide +kernel) (Nat.le_of_ble_eq_true rfl) (fun x G => ?_)
  show J u x 4 (jQ u x (EpL mem)) 0 [(0, vL p0), (2, vL p1)] [] mem _
  unfold Sta_leanOfPoint
  refine J_ldc2 (v := 4) G dX7_leanOfPoint_0 wc_X7_148 (by decide) ?_
  refine J_lload_n G 1 dX7_leanOfPoint_3 rfl ?_
  refine J_lmul G dX7_leanOfPoint_4 ?_
  refine J_lload_n G 0 dX7_leanOfPoint_5 rfl ?_
  refine J_lload_n G 0 dX7_leanOfPoint_6 rfl ?_
  refine J_lmul G dX7_leanOfPoint_7 ?_
  refine J_lload_n G 1 dX7_leanOfPoint_8 rfl ?_
  refine J_lload_n G 1 dX7_leanOfPoint_9 rfl ?_
  refine J_lmul G dX7_leanOfPoint_10 ?_
  refine J_lsub G dX7_leanOfPoint_11 ?_
  refine J_lmul G dX7_leanOfPoint_12 ?_
  exact J_lret G dX7_leanOfPoint_13 rfl
theorem jSta_leanToRight_L12 {u : jU} {x : jX} (G : jG u x cX7_leanToRight RX7 8 (some .long) (jRm 1 23)) (p0 : Int) (mem : Mem) (r1 : Int) : ∀ (n : Nat) (i2 : Int) (i3 : Int), J u x 8 (jQ u x (EpL mem)) 12 [(0, vR (uB u) 111), (1, vI p0), (2, vL r1), (4, vL i2), (6, vI i3)] [] mem (Sta_leanToRight_L12 p0 mem r1 n i2 i3) := by
  intro n
  induction n with
  | zero => intro i2 i3; exact J_none
  | succ n ih =>
    intro i2 i3
    rw [Sta_leanToRight_L12]
    refine J_iload G 4 dX7_leanToRight_12 rfl ?_
    refine J_i2l G dX7_leanToRight_14 ?_
    refine J_lload_n G 2 dX7_leanToRight_15 rfl ?_
    refine J_lcmp_ge 96 G dX7_leanToRight_16 dX7_leanToRight_17 (by decide) ?_ ?_
    · refine J_lload G 3 dX7_leanToRight_96 rfl ?_
      exact J_lret G dX7_leanToRight_98 rfl
    · refine J_aload_n G 0 dX7_leanToRight_20 rfl ?_
      refine J_getR (d := 112) (k := 2) G cls_7 wf_X7_9 kd_111 rfl rfl dX7_leanToRight_21 ?_
      refine J_iload_n G 1 dX7_leanToRight_24 rfl ?_
      refine J_iald G kd_112 ln_112 dX7_leanToRight_25 ?_
      refine J_iload G 4 dX7_leanToRight_26 rfl ?_
      refine J_iadd G dX7_leanToRight_28 ?_
      refine J_ltI (fun x4 => ?_)
      refine J_istore (lv' := [(7, vI x4), (0, vR (uB u) 111), (1, vI p0), (2, vL r1), (4, vL i2), (6, vI i3)]) G dX7_leanToRight_29 (by decide) rfl ?_
      refine J_lload G 4 dX7_leanToRight_31 rfl ?_
      refine J_aload_n G 1 dX7_leanToRight_33 rfl ?_
      refine J_getR (d := 115) (k := 5) G cls_7 wf_X7_22 kd_111 rfl rfl dX7_leanToRight_34 ?_
      refine J_iload G 0 dX7_leanToRight_37 rfl ?_
      refine J_lald G kd_115 ln_115 dX7_leanToRight_39 ?_
      refine J_lload_n G 3 dX7_leanToRight_40 rfl ?_
      refine J_iload G 5 dX7_leanToRight_41 rfl ?_
      refine J_iconst G dX7_leanToRight_43 ?_
      refine J_iadd G dX7_leanToRight_44 ?_
      refine J_i2l G dX7_leanToRight_45 ?_
      refine J_cSpL (As := [vL r1, vL (s32 (i3 + 1))]) G (mX7_leanOfSpread u r1 (s32 (i3 + 1)) mem) sg_X7_leanOfSpread ss_X7_leanOfSpread wm_X7_160 ⟨by decide, by decide⟩ rfl rfl (Nat.le_of_ble_eq_true rfl) dX7_leanToRight_46 ?_
      intro r5
      refine J_lload_n G 3 dX7_leanToRight_49 rfl ?_
      refine J_iload G 5 dX7_leanToRight_50 rfl ?_
      refine J_i2l G dX7_leanToRight_52 ?_
      refine J_cSpL (As := [vL r1, vL (s32 i3)]) G (mX7_leanOfSpread u r1 (s32 i3) mem) sg_X7_leanOfSpread ss_X7_leanOfSpread wm_X7_160 ⟨by decide, by decide⟩ rfl rfl (Nat.le_of_ble_eq_true rfl) dX7_leanToRight_53 ?_
      intro r6
      refine J_lsub G dX7_leanToRight_56 ?_
      refine J_lmul G dX7_leanToRight_57 ?_
      refine J_ladd G dX7_leanToRight_58 ?_
      refine J_ltL (fun x7 => ?_)
      refine J_lstore (lv' := [(4, vL x7), (7, vI x4), (0, vR (uB u) 111), (1, vI p0), (2, vL r1), (6, vI i3)]) G dX7_leanToRight_59 (by decide) rfl ?_
      refine J_lload G 0 dX7_leanToRight_61 rfl ?_
      refine J_iload G 5 dX7_leanToRight_63 rfl ?_
      refine J_jn (fun g => ∀ x8, J u x 8 (jQ u x (EpL mem)) 87 [(0, vR (uB u) 111), (1, vI p0), (2, vL r1), (6, vI i3)] [vL x8, vL x7] mem (g x8)) ?_ ?_
      · intro x8
        refine J_ladd G dX7_leanToRight_87 ?_
        refine J_ltL (fun x9 => ?_)
        refine J_lstore (lv' := [(4, vL x9), (0, vR (uB u) 111), (1, vI p0), (2, vL r1), (6, vI i3)]) G dX7_leanToRight_88 (by decide) rfl ?_
        refine J_iinc (lv' := [(6, vI (i3 + 1)), (4, vL x9), (0, vR (uB u) 111), (1, vI p0), (2, vL r1)]) G 4 dX7_leanToRight_90 rfl (by decide) rfl ?_
        refine J_goto 12 G dX7_leanToRight_93 (by decide) ?_
        refine J_lv [2, 3, 4, 1, 0] rfl ?_
        exact ih x9 (i3 + 1)
      · intro k87 hk87
        refine J_if_ne 72 G dX7_leanToRight_65 (by decide) ?_ ?_
        · refine J_aload_n G 2 dX7_leanToRight_72 rfl ?_
          refine J_getR (d := 114) (k := 4) G cls_7 wf_X7_18 kd_111 rfl rfl dX7_leanToRight_73 ?_
          refine J_iload G 1 dX7_leanToRight_76 rfl ?_
          refine J_lald G kd_114 ln_114 dX7_leanToRight_78 ?_
          refine J_lload_n G 4 dX7_leanToRight_79 rfl ?_
          refine J_iload G 5 dX7_leanToRight_80 rfl ?_
          refine J_i2l G dX7_leanToRight_82 ?_
          refine J_cSpL (As := [vL r1, vL (s32 i3)]) G (mX7_leanOfPoint u r1 (s32 i3) mem) sg_X7_leanOfPoint ss_X7_leanOfPoint wm_X7_163 ⟨by decide, by decide⟩ rfl rfl (Nat.le_of_ble_eq_true rfl) dX7_leanToRight_83 ?_
          intro r10
          refine J_lmul G dX7_leanToRight_86 ?_
          refine J_lv [2, 3, 4, 5] rfl ?_
          exact hk87 ((mem 114 (s32 x4)) * r10)
        · refine J_lconst (v := 0) G dX7_leanToRight_68 (by decide) ?_
          refine J_goto 87 G dX7_leanToRight_69 (by decide) ?_
          refine J_lv [2, 3, 4, 5] rfl ?_
          exact hk87 0
theorem mX7_leanToRight (u : jU) (p0 : Int) (mem : Mem) : jMet u yX7_leanToRight cX7_leanToRight 8 (some .long) (jRm 1 23) [vR (uB u) 111, vI p0] mem (EpL mem) (Sta_leanToRight p0 mem) := by
  refine jMet_of (by decide +kernel) (Nat.le_of_ble_eq_true rfl) (fun x G => ?_)
  show J u x 8 (jQ u x (EpL mem)) 0 [(0, vR (uB u) 111), (1, vI p0)] [] mem _
  unfold Sta_leanToRight
  refine J_aload_n G 0 dX7_leanToRight_0 rfl ?_
  refine J_iload_n G 1 dX7_leanToRight_1 rfl ?_
  refine J_cVpL (As := [vI p0]) G (mX7_span u p0 mem) sg_X7_span sv_X7_span wm_X7_129 cls_7 kd_111 rfl ⟨by decide, by decide⟩ rfl rfl (Nat.le_of_ble_eq_true rfl) dX7_leanToRight_2 ?_
  intro r1
  refine J_lstore_n (lv' := [(2, vL r1), (0, vR (uB u) 111), (1, vI p0)]) G dX7_leanToRight_5 rfl (by decide) rfl ?_
  refine J_lconst (v := 0) G dX7_leanToRight_6 (by decide) ?_
  refine J_lstore (lv' := [(4, vL 0), (2, vL r1), (0, vR (uB u) 111), (1, vI p0)]) G dX7_leanToRight_7 (by decide) rfl ?_
  refine J_iconst G dX7_leanToRight_9 ?_
  refine J_istore (lv' := [(6, vI 0), (4, vL 0), (2, vL r1), (0, vR (uB u) 111), (1, vI p0)]) G dX7_leanToRight_10 (by decide) rfl ?_
  refine J_lv [3, 4, 2, 1, 0] rfl ?_
  exact jSta_leanToRight_L12 G p0 mem r1 2000 0 0
theorem mX8_divide (u : jU) (p0 : Int) (p1 : Int) (mem : Mem) : jMet u yX8_divide cX8_divide 4 (some .long) (jRm 0 0) [vL p0, vL p1] mem (EpL mem) (BP_divide p0 p1 mem) := by
  refine jMet_of (by decide +kernel) (Nat.le_of_ble_eq_true rfl) (fun x G => ?_)
  show J u x 4 (jQ u x (EpL mem)) 0 [(0, vL p0), (2, vL p1)] [] mem _
  unfold BP_divide
  refine J_lload_n G 1 dX8_divide_0 rfl ?_
  refine J_lconst (v := 0) G dX8_divide_1 (by decide) ?_
  refine J_lcmp_ne 10 G dX8_divide_2 dX8_divide_3 (by decide) ?_ ?_
  · refine J_lload_n G 0 dX8_divide_10 rfl ?_
    refine J_lload_n G 1 dX8_divide_11 rfl ?_
    refine J_ldiv G dX8_divide_12 ?_
    exact J_lret G dX8_divide_13 rfl
  · refine J_lconst (v := 0) G dX8_divide_6 (by decide) ?_
    refine J_goto 13 G dX8_divide_7 (by decide) ?_
    exact J_lret G dX8_divide_13 rfl
theorem jSta_leanToLeft_L12 {u : jU} {x : jX} (G : jG u x cX7_leanToLeft RX7 8 (some .long) (jRm 1 23)) (p0 : Int) (mem : Mem) (r1 : Int) : ∀ (n : Nat) (i2 : Int) (i3 : Int), J u x 8 (jQ u x (EpL mem)) 12 [(0, vR (uB u) 111), (1, vI p0), (2, vL r1), (4, vL i2), (6, vI i3)] [] mem (Sta_leanToLeft_L12 p0 mem r1 n i2 i3) := by
  intro n
  induction n with
  | zero => intro i2 i3; exact J_none
  | succ n ih =>
    intro i2 i3
    rw [Sta_leanToLeft_L12]
    refine J_iload G 4 dX7_leanToLeft_12 rfl ?_
    refine J_i2l G dX7_leanToLeft_14 ?_
    refine J_lload_n G 2 dX7_leanToLeft_15 rfl ?_
    refine J_lcmp_ge 102 G dX7_leanToLeft_16 dX7_leanToLeft_17 (by decide) ?_ ?_
    · refine J_lload G 3 dX7_leanToLeft_102 rfl ?_
      exact J_lret G dX7_leanToLeft_104 rfl
    · refine J_aload_n G 0 dX7_leanToLeft_20 rfl ?_
      refine J_getR (d := 112) (k := 2) G cls_7 wf_X7_9 kd_111 rfl rfl dX7_leanToLeft_21 ?_
      refine J_iload_n G 1 dX7_leanToLeft_24 rfl ?_
      refine J_iald G kd_112 ln_112 dX7_leanToLeft_25 ?_
      refine J_iload G 4 dX7_leanToLeft_26 rfl ?_
      refine J_iadd G dX7_leanToLeft_28 ?_
      refine J_ltI (fun x4 => ?_)
      refine J_istore (lv' := [(7, vI x4), (0, vR (uB u) 111), (1, vI p0), (2, vL r1), (4, vL i2), (6, vI i3)]) G dX7_leanToLeft_29 (by decide) rfl ?_
      refine J_lload G 4 dX7_leanToLeft_31 rfl ?_
      refine J_aload_n G 1 dX7_leanToLeft_33 rfl ?_
      refine J_getR (d := 115) (k := 5) G cls_7 wf_X7_22 kd_111 rfl rfl dX7_leanToLeft_34 ?_
      refine J_iload G 0 dX7_leanToLeft_37 rfl ?_
      refine J_lald G kd_115 ln_115 dX7_leanToLeft_39 ?_
      refine J_lload_n G 3 dX7_leanToLeft_40 rfl ?_
      refine J_lload_n G 3 dX7_leanToLeft_41 rfl ?_
      refine J_iload G 5 dX7_leanToLeft_42 rfl ?_
      refine J_i2l G dX7_leanToLeft_44 ?_
      refine J_lsub G dX7_leanToLeft_45 ?_
      refine J_cSpL (As := [vL r1, vL (r1 - (s32 i3))]) G (mX7_leanOfSpread u r1 (r1 - (s32 i3)) mem) sg_X7_leanOfSpread ss_X7_leanOfSpread wm_X7_160 ⟨by decide, by decide⟩ rfl rfl (Nat.le_of_ble_eq_true rfl) dX7_leanToLeft_46 ?_
      intro r5
      refine J_lload_n G 3 dX7_leanToLeft_49 rfl ?_
      refine J_lload_n G 3 dX7_leanToLeft_50 rfl ?_
      refine J_iload G 5 dX7_leanToLeft_51 rfl ?_
      refine J_i2l G dX7_leanToLeft_53 ?_
      refine J_lsub G dX7_leanToLeft_54 ?_
      refine J_lconst (v := 1) G dX7_leanToLeft_55 (by decide) ?_
      refine J_lsub G dX7_leanToLeft_56 ?_
      refine J_cSpL (As := [vL r1, vL ((r1 - (s32 i3)) - 1)]) G (mX7_leanOfSpread u r1 ((r1 - (s32 i3)) - 1) mem) sg_X7_leanOfSpread ss_X7_leanOfSpread wm_X7_160 ⟨by decide, by decide⟩ rfl rfl (Nat.le_of_ble_eq_true rfl) dX7_leanToLeft_57 ?_
      intro r6
      refine J_lsub G dX7_leanToLeft_60 ?_
      refine J_lmul G dX7_leanToLeft_61 ?_
      refine J_ladd G dX7_leanToLeft_62 ?_
      refine J_ltL (fun x7 => ?_)
      refine J_lstore (lv' := [(4, vL x7), (7, vI x4), (0, vR (uB u) 111), (1, vI p0), (2, vL r1), (6, vI i3)]) G dX7_leanToLeft_63 (by decide) rfl ?_
      refine J_lload G 0 dX7_leanToLeft_65 rfl ?_
      refine J_iload G 5 dX7_leanToLeft_67 rfl ?_
      refine J_jn (fun g => ∀ x8, J u x 8 (jQ u x (EpL mem)) 93 [(0, vR (uB u) 111), (1, vI p0), (2, vL r1), (6, vI i3)] [vL x8, vL x7] mem (g x8)) ?_ ?_
      · intro x8
        refine J_ladd G dX7_leanToLeft_93 ?_
        refine J_ltL (fun x9 => ?_)
        refine J_lstore (lv' := [(4, vL x9), (0, vR (uB u) 111), (1, vI p0), (2, vL r1), (6, vI i3)]) G dX7_leanToLeft_94 (by decide) rfl ?_
        refine J_iinc (lv' := [(6, vI (i3 + 1)), (4, vL x9), (0, vR (uB u) 111), (1, vI p0), (2, vL r1)]) G 4 dX7_leanToLeft_96 rfl (by decide) rfl ?_
        refine J_goto 12 G dX7_leanToLeft_99 (by decide) ?_
        refine J_lv [2, 3, 4, 1, 0] rfl ?_
        exact ih x9 (i3 + 1)
      · intro k93 hk93
        refine J_if_ne 76 G dX7_leanToLeft_69 (by decide) ?_ ?_
        · refine J_aload_n G 2 dX7_leanToLeft_76 rfl ?_
          refine J_getR (d := 114) (k := 4) G cls_7 wf_X7_18 kd_111 rfl rfl dX7_leanToLeft_77 ?_
          refine J_iload G 1 dX7_leanToLeft_80 rfl ?_
          refine J_lald G kd_114 ln_114 dX7_leanToLeft_82 ?_
          refine J_lload_n G 4 dX7_leanToLeft_83 rfl ?_
          refine J_lload_n G 4 dX7_leanToLeft_84 rfl ?_
          refine J_iload G 5 dX7_leanToLeft_85 rfl ?_
          refine J_i2l G dX7_leanToLeft_87 ?_
          refine J_lsub G dX7_leanToLeft_88 ?_
          refine J_cSpL (As := [vL r1, vL (r1 - (s32 i3))]) G (mX7_leanOfPoint u r1 (r1 - (s32 i3)) mem) sg_X7_leanOfPoint ss_X7_leanOfPoint wm_X7_163 ⟨by decide, by decide⟩ rfl rfl (Nat.le_of_ble_eq_true rfl) dX7_leanToLeft_89 ?_
          intro r10
          refine J_lmul G dX7_leanToLeft_92 ?_
          refine J_lv [2, 3, 4, 5] rfl ?_
          exact hk93 ((mem 114 (s32 x4)) * r10)
        · refine J_lconst (v := 0) G dX7_leanToLeft_72 (by decide) ?_
          refine J_goto 93 G dX7_leanToLeft_73 (by decide) ?_
          refine J_lv [2, 3, 4, 5] rfl ?_
          exact hk93 0
theorem mX7_leanToLeft (u : jU) (p0 : Int) (mem : Mem) : jMet u yX7_leanToLeft cX7_leanToLeft 8 (some .long) (jRm 1 23) [vR (uB u) 111, vI p0] mem (EpL mem) (Sta_leanToLeft p0 mem) := by
  refine jMet_of (by decide +kernel) (Nat.le_of_ble_eq_true rfl) (fun x G => ?_)
  show J u x 8 (jQ u x (EpL mem)) 0 [(0, vR (uB u) 111), (1, vI p0)] [] mem _
  unfold Sta_leanToLeft
  refine J_aload_n G 0 dX7_leanToLeft_0 rfl ?_
  refine J_iload_n G 1 dX7_leanToLeft_1 rfl ?_
  refine J_cVpL (As := [vI p0]) G (mX7_span u p0 mem) sg_X7_span sv_X7_span wm_X7_129 cls_7 kd_111 rfl ⟨by decide, by decide⟩ rfl rfl (Nat.le_of_ble_eq_true rfl) dX7_leanToLeft_2 ?_
  intro r1
  refine J_lstore_n (lv' := [(2, vL r1), (0, vR (uB u) 111), (1, vI p0)]) G dX7_leanToLeft_5 rfl (by decide) rfl ?_
  refine J_lconst (v := 0) G dX7_leanToLeft_6 (by decide) ?_
  refine J_lstore (lv' := [(4, vL 0), (2, vL r1), (0, vR (uB u) 111), (1, vI p0)]) G dX7_leanToLeft_7 (by decide) rfl ?_
  refine J_iconst G dX7_leanToLeft_9 ?_
  refine J_istore (lv' := [(6, vI 0), (4, vL 0), (2, vL r1), (0, vR (uB u) 111), (1, vI p0)]) G dX7_leanToLeft_10 (by decide) rfl ?_
  refine J_lv [3, 4, 2, 1, 0] rfl ?_
  exact jSta_leanToLeft_L12 G p0 mem r1 2000 0 0
