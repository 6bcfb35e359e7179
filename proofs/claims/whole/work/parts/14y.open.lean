/-! calls still open -/
theorem ok_beam (a : Int) (ha : r32 a) : OkM (BP_beam a) (Mo_beam a) s32 := by
  sorry
theorem ok_support (a : Int) (ha : r32 a) : OkM (BP_support a) (Mo_support a) s32 := by
  sorry
theorem ok_drop (a : Int) (ha : r32 a) : OkM (BP_drop a) (Mo_drop a) s32 := by
  sorry
theorem ok_hinge (a : Int) (b : Int) (ha : r32 a) (hb : r32 b) : OkM (BP_hinge a b) (Mo_hinge a b) s32 := by
  sorry
theorem ok_point (a : Int) (b : Int) (ha : r32 a) (hb : r32 b) : OkM (BP_point a b) (Mo_point a b) s32 := by
  sorry
theorem ok_spread (a : Int) (b : Int) (c : Int) (ha : r32 a) (hb : r32 b) (hc : r32 c) : OkM (BP_spread a b c) (Mo_spread a b c) s32 := by
  sorry
theorem ok_heavier (a : Int) (b : Int) (ha : r32 a) (hb : r32 b) : OkM (BP_heavier a b) (Mo_heavier a b) s32 := by
  sorry
theorem ok_lift (a : Int) (ha : r32 a) : OkM (BP_lift a) (Mo_lift a) s32 := by
  sorry
theorem ok_axle (a : Int) (b : Int) (ha : r32 a) (hb : r32 b) : OkM (BP_axle a b) (Mo_axle a b) s32 := by
  sorry
theorem ok_unhitch : OkM BP_unhitch Mo_unhitch s32 := by
  sorry
theorem ok_count (a : Int) (ha : r32 a) : OkP (BP_count a) (Mo_count a) s32 := by
  sorry
theorem ok_reaction (a : Int) (b : Int) (ha : r32 a) (hb : r32 b) : OkM (BP_reaction a b) (Mo_reaction a b) s64 := by
  sorry
theorem ok_shear (a : Int) (b : Int) (ha : r32 a) (hb : r32 b) : OkM (BP_shear a b) (Mo_shear a b) s64 := by
  sorry
theorem ok_moment (a : Int) (b : Int) (c : Int) (ha : r32 a) (hb : r32 b) (hc : r32 c) : OkM (BP_moment a b c) (Mo_moment a b c) s64 := by
  sorry
theorem ok_sag (a : Int) (b : Int) (ha : r32 a) (hb : r32 b) : OkM (BP_sag a b) (Mo_sag a b) s64 := by
  sorry
theorem ok_greatest (a : Int) (b : Int) (ha : r32 a) (hb : r32 b) : OkM (BP_greatest a b) (Mo_greatest a b) s64 := by
  sorry
theorem ok_lowest : OkM BP_lowest Mo_lowest s32 := by
  sorry
theorem ok_times (a : Int) (ha : r32 a) : OkM (BP_times a) (Mo_times a) s32 := by
  sorry
theorem ok_rolls (a : Int) (b : Int) (ha : r32 a) (hb : r32 b) : OkM (BP_rolls a b) (Mo_rolls a b) s64 := by
  sorry
theorem ok_presses (a : Int) (b : Int) (ha : r32 a) (hb : r32 b) : OkM (BP_presses a b) (Mo_presses a b) s64 := by
  sorry
theorem ok_unit (a : Int) (b : Int) (c : Int) (ha : r32 a) (hb : r32 b) (hc : r32 c) : OkM (BP_unit a b c) (Mo_unit a b c) s64 := by
  sorry
theorem ok_bears (a : Int) (b : Int) (c : Int) (ha : r32 a) (hb : r32 b) (hc : r32 c) : OkM (BP_bears a b c) (Mo_bears_ a b c) s64 := by
  sorry
theorem ok_best (a : Int) (ha : r32 a) : OkM (BP_best a) (Mo_best a) s32 := by
  sorry
theorem ok_hinged (a : Int) (b : Int) (ha : r32 a) (hb : r32 b) : OkM (BP_hinged a b) (Mo_hinged a b) s64 := by
  sorry
theorem ok_feed (a : Int) (ha : r32 a) : OkM (BP_feed a) (Mo_feed a) s32 := by
  sorry
theorem ok_reads : OkM BP_reads Mo_reads s32 := by
  sorry
theorem ok_prints : OkM BP_prints Mo_prints s32 := by
  sorry
theorem ok_list (a : Int) (b : Int) (ha : r32 a) (hb : r32 b) : OkM (BP_list a b) (Mo_list a b) s32 := by
  sorry
theorem ok_set (a b c : Int) (ha : r32 a) (hb : r32 b) : OkM (BP_set a b c) (Mo_set a b c) s32 := by
  sorry
theorem ok_into (a : Int) (b : Int) (ha : r32 a) (hb : r32 b) : OkM (BP_into a b) (Mo_into a b) s32 := by
  sorry
theorem ok_judge (a : Int) (b : Int) (ha : r32 a) (hb : r32 b) : OkM (BP_judge a b) (Mo_judge a b) s32 := by
  sorry
theorem ok_undo : OkM BP_undo Mo_undo s32 := by
  sorry
theorem ok_image : OkM BP_image Mo_image s32 := by
  sorry
theorem ok_back : OkM BP_back Mo_back s32 := by
  sorry
