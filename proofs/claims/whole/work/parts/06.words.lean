/-! the words of the tables that the instructions use -/
theorem jt_1 {i : Nat} {w : Cond} (hi : tables_1_1[i]? = some w) (hg : goodWord w = true) : w ∈ jTW := by
  have h : w ∈ tables_1_1 := List.mem_of_getElem? hi
  have h2 : w ∈ tables_1 := List.mem_append_left _ h
  exact List.mem_filter.mpr ⟨List.mem_append_right _ h2, hg⟩
theorem jt_2 {i : Nat} {w : Cond} (hi : tables_1_2[i]? = some w) (hg : goodWord w = true) : w ∈ jTW := by
  have h : w ∈ tables_1_2 := List.mem_of_getElem? hi
  have h2 : w ∈ tables_1 := List.mem_append_right _ (List.mem_append_left _ h)
  exact List.mem_filter.mpr ⟨List.mem_append_right _ h2, hg⟩
theorem jt_3 {i : Nat} {w : Cond} (hi : tables_1_3[i]? = some w) (hg : goodWord w = true) : w ∈ jTW := by
  have h : w ∈ tables_1_3 := List.mem_of_getElem? hi
  have h2 : w ∈ tables_1 := List.mem_append_right _ (List.mem_append_right _ (List.mem_append_left _ h))
  exact List.mem_filter.mpr ⟨List.mem_append_right _ h2, hg⟩
theorem jt_4 {i : Nat} {w : Cond} (hi : tables_1_4[i]? = some w) (hg : goodWord w = true) : w ∈ jTW := by
  have h : w ∈ tables_1_4 := List.mem_of_getElem? hi
  have h2 : w ∈ tables_1 := List.mem_append_right _ (List.mem_append_right _ (List.mem_append_right _ (List.mem_append_left _ h)))
  exact List.mem_filter.mpr ⟨List.mem_append_right _ h2, hg⟩
theorem jt_5 {i : Nat} {w : Cond} (hi : tables_1_5[i]? = some w) (hg : goodWord w = true) : w ∈ jTW := by
  have h : w ∈ tables_1_5 := List.mem_of_getElem? hi
  have h2 : w ∈ tables_1 := List.mem_append_right _ (List.mem_append_right _ (List.mem_append_right _ (List.mem_append_right _ (List.mem_append_left _ h))))
  exact List.mem_filter.mpr ⟨List.mem_append_right _ h2, hg⟩
theorem jt_6 {i : Nat} {w : Cond} (hi : tables_1_6[i]? = some w) (hg : goodWord w = true) : w ∈ jTW := by
  have h : w ∈ tables_1_6 := List.mem_of_getElem? hi
  have h2 : w ∈ tables_1 := List.mem_append_right _ (List.mem_append_right _ (List.mem_append_right _ (List.mem_append_right _ (List.mem_append_right _ (List.mem_append_left _ h)))))
  exact List.mem_filter.mpr ⟨List.mem_append_right _ h2, hg⟩
theorem jt_7 {i : Nat} {w : Cond} (hi : tables_1_7[i]? = some w) (hg : goodWord w = true) : w ∈ jTW := by
  have h : w ∈ tables_1_7 := List.mem_of_getElem? hi
  have h2 : w ∈ tables_1 := List.mem_append_right _ (List.mem_append_right _ (List.mem_append_right _ (List.mem_append_right _ (List.mem_append_right _ (List.mem_append_right _ (h))))))
  exact List.mem_filter.mpr ⟨List.mem_append_right _ h2, hg⟩
theorem jt_p {i : Nat} {w : Cond} (hi : (k2_sels lw_privs)[i]? = some w) (hg : goodWord w = true) : w ∈ jTW := List.mem_filter.mpr ⟨List.mem_append_left _ (List.mem_of_getElem? hi), hg⟩
theorem wl_0_0 : u_lay RX0 TX0 0 ∈ jTW := jt_1 (i := 66) (by decide +kernel) (by decide +kernel)
theorem wl_0_1 : u_lay RX0 TX0 1 ∈ jTW := jt_1 (i := 68) (by decide +kernel) (by decide +kernel)
theorem wl_0_2 : u_lay RX0 TX0 2 ∈ jTW := jt_1 (i := 70) (by decide +kernel) (by decide +kernel)
theorem wl_0_3 : u_lay RX0 TX0 3 ∈ jTW := jt_1 (i := 72) (by decide +kernel) (by decide +kernel)
theorem wl_0_4 : u_lay RX0 TX0 4 ∈ jTW := jt_1 (i := 74) (by decide +kernel) (by decide +kernel)
theorem wl_0_5 : u_lay RX0 TX0 5 ∈ jTW := jt_1 (i := 76) (by decide +kernel) (by decide +kernel)
theorem wl_0_6 : u_lay RX0 TX0 6 ∈ jTW := jt_1 (i := 78) (by decide +kernel) (by decide +kernel)
theorem wl_0_7 : u_lay RX0 TX0 7 ∈ jTW := jt_1 (i := 80) (by decide +kernel) (by decide +kernel)
theorem wl_0_8 : u_lay RX0 TX0 8 ∈ jTW := jt_1 (i := 82) (by decide +kernel) (by decide +kernel)
theorem wl_0_9 : u_lay RX0 TX0 9 ∈ jTW := jt_1 (i := 84) (by decide +kernel) (by decide +kernel)
theorem wl_0_10 : u_lay RX0 TX0 10 ∈ jTW := jt_1 (i := 86) (by decide +kernel) (by decide +kernel)
theorem wl_0_11 : u_lay RX0 TX0 11 ∈ jTW := jt_1 (i := 88) (by decide +kernel) (by decide +kernel)
theorem clw_0 : ∀ w ∈ u_ws RX0 TX0 12, w ∈ jTW := by
  intro w hw
  obtain ⟨k, hk, rfl⟩ := List.mem_map.mp hw
  have hk := List.mem_range.mp hk
  match k, hk with
  | 0, _ => exact wl_0_0
  | 1, _ => exact wl_0_1
  | 2, _ => exact wl_0_2
  | 3, _ => exact wl_0_3
  | 4, _ => exact wl_0_4
  | 5, _ => exact wl_0_5
  | 6, _ => exact wl_0_6
  | 7, _ => exact wl_0_7
  | 8, _ => exact wl_0_8
  | 9, _ => exact wl_0_9
  | 10, _ => exact wl_0_10
  | 11, _ => exact wl_0_11
  | k + 12, h => exact absurd h (by omega)
theorem cls_0 : jCls 0 RX0 TX0 12 tyX0 := ⟨rfl, clw_0, tyX0_ok, nmX0, rfl, by decide⟩
theorem wl_1_0 : u_lay RX1 TX1 0 ∈ jTW := jt_1 (i := 105) (by decide +kernel) (by decide +kernel)
theorem wl_1_1 : u_lay RX1 TX1 1 ∈ jTW := jt_1 (i := 107) (by decide +kernel) (by decide +kernel)
theorem wl_1_2 : u_lay RX1 TX1 2 ∈ jTW := jt_1 (i := 109) (by decide +kernel) (by decide +kernel)
theorem clw_1 : ∀ w ∈ u_ws RX1 TX1 3, w ∈ jTW := by
  intro w hw
  obtain ⟨k, hk, rfl⟩ := List.mem_map.mp hw
  have hk := List.mem_range.mp hk
  match k, hk with
  | 0, _ => exact wl_1_0
  | 1, _ => exact wl_1_1
  | 2, _ => exact wl_1_2
  | k + 3, h => exact absurd h (by omega)
theorem cls_1 : jCls 1 RX1 TX1 3 tyX1 := ⟨rfl, clw_1, tyX1_ok, nmX1, rfl, by decide⟩
theorem wl_2_0 : u_lay RX2 TX2 0 ∈ jTW := jt_1 (i := 137) (by decide +kernel) (by decide +kernel)
theorem wl_2_1 : u_lay RX2 TX2 1 ∈ jTW := jt_1 (i := 139) (by decide +kernel) (by decide +kernel)
theorem clw_2 : ∀ w ∈ u_ws RX2 TX2 2, w ∈ jTW := by
  intro w hw
  obtain ⟨k, hk, rfl⟩ := List.mem_map.mp hw
  have hk := List.mem_range.mp hk
  match k, hk with
  | 0, _ => exact wl_2_0
  | 1, _ => exact wl_2_1
  | k + 2, h => exact absurd h (by omega)
theorem cls_2 : jCls 2 RX2 TX2 2 tyX2 := ⟨rfl, clw_2, tyX2_ok, nmX2, rfl, by decide⟩
theorem wl_3_0 : u_lay RX3 TX3 0 ∈ jTW := jt_2 (i := 31) (by decide +kernel) (by decide +kernel)
theorem wl_3_1 : u_lay RX3 TX3 1 ∈ jTW := jt_2 (i := 33) (by decide +kernel) (by decide +kernel)
theorem wl_3_2 : u_lay RX3 TX3 2 ∈ jTW := jt_2 (i := 35) (by decide +kernel) (by decide +kernel)
theorem clw_3 : ∀ w ∈ u_ws RX3 TX3 3, w ∈ jTW := by
  intro w hw
  obtain ⟨k, hk, rfl⟩ := List.mem_map.mp hw
  have hk := List.mem_range.mp hk
  match k, hk with
  | 0, _ => exact wl_3_0
  | 1, _ => exact wl_3_1
  | 2, _ => exact wl_3_2
  | k + 3, h => exact absurd h (by omega)
theorem cls_3 : jCls 3 RX3 TX3 3 tyX3 := ⟨rfl, clw_3, tyX3_ok, nmX3, rfl, by decide⟩
theorem wl_4_0 : u_lay RX4 TX4 0 ∈ jTW := jt_1 (i := 151) (by decide +kernel) (by decide +kernel)
theorem wl_4_1 : u_lay RX4 TX4 1 ∈ jTW := jt_1 (i := 153) (by decide +kernel) (by decide +kernel)
theorem wl_4_2 : u_lay RX4 TX4 2 ∈ jTW := jt_1 (i := 155) (by decide +kernel) (by decide +kernel)
theorem wl_4_3 : u_lay RX4 TX4 3 ∈ jTW := jt_1 (i := 157) (by decide +kernel) (by decide +kernel)
theorem clw_4 : ∀ w ∈ u_ws RX4 TX4 4, w ∈ jTW := by
  intro w hw
  obtain ⟨k, hk, rfl⟩ := List.mem_map.mp hw
  have hk := List.mem_range.mp hk
  match k, hk with
  | 0, _ => exact wl_4_0
  | 1, _ => exact wl_4_1
  | 2, _ => exact wl_4_2
  | 3, _ => exact wl_4_3
  | k + 4, h => exact absurd h (by omega)
theorem cls_4 : jCls 4 RX4 TX4 4 tyX4 := ⟨rfl, clw_4, tyX4_ok, nmX4, rfl, by decide⟩
theorem wl_5_0 : u_lay RX5 TX5 0 ∈ jTW := jt_2 (i := 6) (by decide +kernel) (by decide +kernel)
theorem wl_5_1 : u_lay RX5 TX5 1 ∈ jTW := jt_2 (i := 8) (by decide +kernel) (by decide +kernel)
theorem wl_5_2 : u_lay RX5 TX5 2 ∈ jTW := jt_2 (i := 10) (by decide +kernel) (by decide +kernel)
theorem wl_5_3 : u_lay RX5 TX5 3 ∈ jTW := jt_2 (i := 12) (by decide +kernel) (by decide +kernel)
theorem wl_5_4 : u_lay RX5 TX5 4 ∈ jTW := jt_2 (i := 14) (by decide +kernel) (by decide +kernel)
theorem wl_5_5 : u_lay RX5 TX5 5 ∈ jTW := jt_2 (i := 16) (by decide +kernel) (by decide +kernel)
theorem clw_5 : ∀ w ∈ u_ws RX5 TX5 6, w ∈ jTW := by
  intro w hw
  obtain ⟨k, hk, rfl⟩ := List.mem_map.mp hw
  have hk := List.mem_range.mp hk
  match k, hk with
  | 0, _ => exact wl_5_0
  | 1, _ => exact wl_5_1
  | 2, _ => exact wl_5_2
  | 3, _ => exact wl_5_3
  | 4, _ => exact wl_5_4
  | 5, _ => exact wl_5_5
  | k + 6, h => exact absurd h (by omega)
theorem cls_5 : jCls 5 RX5 TX5 6 tyX5 := ⟨rfl, clw_5, tyX5_ok, nmX5, rfl, by decide⟩
theorem wl_6_0 : u_lay RX6 TX6 0 ∈ jTW := jt_2 (i := 49) (by decide +kernel) (by decide +kernel)
theorem wl_6_1 : u_lay RX6 TX6 1 ∈ jTW := jt_2 (i := 51) (by decide +kernel) (by decide +kernel)
theorem clw_6 : ∀ w ∈ u_ws RX6 TX6 2, w ∈ jTW := by
  intro w hw
  obtain ⟨k, hk, rfl⟩ := List.mem_map.mp hw
  have hk := List.mem_range.mp hk
  match k, hk with
  | 0, _ => exact wl_6_0
  | 1, _ => exact wl_6_1
  | k + 2, h => exact absurd h (by omega)
theorem cls_6 : jCls 6 RX6 TX6 2 tyX6 := ⟨rfl, clw_6, tyX6_ok, nmX6, rfl, by decide⟩
theorem wl_7_0 : u_lay RX7 TX7 0 ∈ jTW := jt_1 (i := 191) (by decide +kernel) (by decide +kernel)
theorem wl_7_1 : u_lay RX7 TX7 1 ∈ jTW := jt_1 (i := 193) (by decide +kernel) (by decide +kernel)
theorem wl_7_2 : u_lay RX7 TX7 2 ∈ jTW := jt_1 (i := 195) (by decide +kernel) (by decide +kernel)
theorem wl_7_3 : u_lay RX7 TX7 3 ∈ jTW := jt_1 (i := 197) (by decide +kernel) (by decide +kernel)
theorem wl_7_4 : u_lay RX7 TX7 4 ∈ jTW := jt_1 (i := 199) (by decide +kernel) (by decide +kernel)
theorem wl_7_5 : u_lay RX7 TX7 5 ∈ jTW := jt_1 (i := 201) (by decide +kernel) (by decide +kernel)
theorem wl_7_6 : u_lay RX7 TX7 6 ∈ jTW := jt_1 (i := 203) (by decide +kernel) (by decide +kernel)
theorem wl_7_7 : u_lay RX7 TX7 7 ∈ jTW := jt_1 (i := 205) (by decide +kernel) (by decide +kernel)
theorem wl_7_8 : u_lay RX7 TX7 8 ∈ jTW := jt_1 (i := 207) (by decide +kernel) (by decide +kernel)
theorem wl_7_9 : u_lay RX7 TX7 9 ∈ jTW := jt_1 (i := 209) (by decide +kernel) (by decide +kernel)
theorem wl_7_10 : u_lay RX7 TX7 10 ∈ jTW := jt_1 (i := 211) (by decide +kernel) (by decide +kernel)
theorem wl_7_11 : u_lay RX7 TX7 11 ∈ jTW := jt_1 (i := 213) (by decide +kernel) (by decide +kernel)
theorem wl_7_12 : u_lay RX7 TX7 12 ∈ jTW := jt_1 (i := 215) (by decide +kernel) (by decide +kernel)
theorem wl_7_13 : u_lay RX7 TX7 13 ∈ jTW := jt_1 (i := 217) (by decide +kernel) (by decide +kernel)
theorem wl_7_14 : u_lay RX7 TX7 14 ∈ jTW := jt_1 (i := 219) (by decide +kernel) (by decide +kernel)
theorem wl_7_15 : u_lay RX7 TX7 15 ∈ jTW := jt_1 (i := 221) (by decide +kernel) (by decide +kernel)
theorem wl_7_16 : u_lay RX7 TX7 16 ∈ jTW := jt_1 (i := 223) (by decide +kernel) (by decide +kernel)
theorem wl_7_17 : u_lay RX7 TX7 17 ∈ jTW := jt_1 (i := 225) (by decide +kernel) (by decide +kernel)
theorem clw_7 : ∀ w ∈ u_ws RX7 TX7 18, w ∈ jTW := by
  intro w hw
  obtain ⟨k, hk, rfl⟩ := List.mem_map.mp hw
  have hk := List.mem_range.mp hk
  match k, hk with
  | 0, _ => exact wl_7_0
  | 1, _ => exact wl_7_1
  | 2, _ => exact wl_7_2
  | 3, _ => exact wl_7_3
  | 4, _ => exact wl_7_4
  | 5, _ => exact wl_7_5
  | 6, _ => exact wl_7_6
  | 7, _ => exact wl_7_7
  | 8, _ => exact wl_7_8
  | 9, _ => exact wl_7_9
  | 10, _ => exact wl_7_10
  | 11, _ => exact wl_7_11
  | 12, _ => exact wl_7_12
  | 13, _ => exact wl_7_13
  | 14, _ => exact wl_7_14
  | 15, _ => exact wl_7_15
  | 16, _ => exact wl_7_16
  | 17, _ => exact wl_7_17
  | k + 18, h => exact absurd h (by omega)
theorem cls_7 : jCls 7 RX7 TX7 18 tyX7 := ⟨rfl, clw_7, tyX7_ok, nmX7, rfl, by decide⟩
theorem wl_8_0 : u_lay RX8 TX8 0 ∈ jTW := jt_2 (i := 64) (by decide +kernel) (by decide +kernel)
theorem wl_8_1 : u_lay RX8 TX8 1 ∈ jTW := jt_2 (i := 66) (by decide +kernel) (by decide +kernel)
theorem wl_8_2 : u_lay RX8 TX8 2 ∈ jTW := jt_2 (i := 68) (by decide +kernel) (by decide +kernel)
theorem wl_8_3 : u_lay RX8 TX8 3 ∈ jTW := jt_2 (i := 70) (by decide +kernel) (by decide +kernel)
theorem wl_8_4 : u_lay RX8 TX8 4 ∈ jTW := jt_2 (i := 72) (by decide +kernel) (by decide +kernel)
theorem wl_8_5 : u_lay RX8 TX8 5 ∈ jTW := jt_2 (i := 74) (by decide +kernel) (by decide +kernel)
theorem wl_8_6 : u_lay RX8 TX8 6 ∈ jTW := jt_2 (i := 76) (by decide +kernel) (by decide +kernel)
theorem wl_8_7 : u_lay RX8 TX8 7 ∈ jTW := jt_2 (i := 78) (by decide +kernel) (by decide +kernel)
theorem wl_8_8 : u_lay RX8 TX8 8 ∈ jTW := jt_2 (i := 80) (by decide +kernel) (by decide +kernel)
theorem wl_8_9 : u_lay RX8 TX8 9 ∈ jTW := jt_2 (i := 82) (by decide +kernel) (by decide +kernel)
theorem clw_8 : ∀ w ∈ u_ws RX8 TX8 10, w ∈ jTW := by
  intro w hw
  obtain ⟨k, hk, rfl⟩ := List.mem_map.mp hw
  have hk := List.mem_range.mp hk
  match k, hk with
  | 0, _ => exact wl_8_0
  | 1, _ => exact wl_8_1
  | 2, _ => exact wl_8_2
  | 3, _ => exact wl_8_3
  | 4, _ => exact wl_8_4
  | 5, _ => exact wl_8_5
  | 6, _ => exact wl_8_6
  | 7, _ => exact wl_8_7
  | 8, _ => exact wl_8_8
  | 9, _ => exact wl_8_9
  | k + 10, h => exact absurd h (by omega)
theorem cls_8 : jCls 8 RX8 TX8 10 tyX8 := ⟨rfl, clw_8, tyX8_ok, nmX8, rfl, by decide⟩
theorem wl_9_0 : u_lay RX9 TX9 0 ∈ jTW := jt_5 (i := 60) (by decide +kernel) (by decide +kernel)
theorem wl_9_1 : u_lay RX9 TX9 1 ∈ jTW := jt_5 (i := 62) (by decide +kernel) (by decide +kernel)
theorem wl_9_2 : u_lay RX9 TX9 2 ∈ jTW := jt_5 (i := 64) (by decide +kernel) (by decide +kernel)
theorem wl_9_3 : u_lay RX9 TX9 3 ∈ jTW := jt_5 (i := 66) (by decide +kernel) (by decide +kernel)
theorem wl_9_4 : u_lay RX9 TX9 4 ∈ jTW := jt_5 (i := 68) (by decide +kernel) (by decide +kernel)
theorem wl_9_5 : u_lay RX9 TX9 5 ∈ jTW := jt_5 (i := 70) (by decide +kernel) (by decide +kernel)
theorem wl_9_6 : u_lay RX9 TX9 6 ∈ jTW := jt_5 (i := 72) (by decide +kernel) (by decide +kernel)
theorem wl_9_7 : u_lay RX9 TX9 7 ∈ jTW := jt_5 (i := 74) (by decide +kernel) (by decide +kernel)
theorem wl_9_8 : u_lay RX9 TX9 8 ∈ jTW := jt_5 (i := 76) (by decide +kernel) (by decide +kernel)
theorem wl_9_9 : u_lay RX9 TX9 9 ∈ jTW := jt_5 (i := 78) (by decide +kernel) (by decide +kernel)
theorem wl_9_10 : u_lay RX9 TX9 10 ∈ jTW := jt_5 (i := 80) (by decide +kernel) (by decide +kernel)
theorem wl_9_11 : u_lay RX9 TX9 11 ∈ jTW := jt_5 (i := 82) (by decide +kernel) (by decide +kernel)
theorem wl_9_12 : u_lay RX9 TX9 12 ∈ jTW := jt_5 (i := 84) (by decide +kernel) (by decide +kernel)
theorem wl_9_13 : u_lay RX9 TX9 13 ∈ jTW := jt_5 (i := 86) (by decide +kernel) (by decide +kernel)
theorem wl_9_14 : u_lay RX9 TX9 14 ∈ jTW := jt_5 (i := 88) (by decide +kernel) (by decide +kernel)
theorem wl_9_15 : u_lay RX9 TX9 15 ∈ jTW := jt_5 (i := 90) (by decide +kernel) (by decide +kernel)
theorem wl_9_16 : u_lay RX9 TX9 16 ∈ jTW := jt_5 (i := 92) (by decide +kernel) (by decide +kernel)
theorem wl_9_17 : u_lay RX9 TX9 17 ∈ jTW := jt_5 (i := 94) (by decide +kernel) (by decide +kernel)
theorem wl_9_18 : u_lay RX9 TX9 18 ∈ jTW := jt_5 (i := 96) (by decide +kernel) (by decide +kernel)
theorem wl_9_19 : u_lay RX9 TX9 19 ∈ jTW := jt_5 (i := 98) (by decide +kernel) (by decide +kernel)
theorem wl_9_20 : u_lay RX9 TX9 20 ∈ jTW := jt_5 (i := 100) (by decide +kernel) (by decide +kernel)
theorem wl_9_21 : u_lay RX9 TX9 21 ∈ jTW := jt_5 (i := 102) (by decide +kernel) (by decide +kernel)
theorem wl_9_22 : u_lay RX9 TX9 22 ∈ jTW := jt_5 (i := 104) (by decide +kernel) (by decide +kernel)
theorem wl_9_23 : u_lay RX9 TX9 23 ∈ jTW := jt_5 (i := 106) (by decide +kernel) (by decide +kernel)
theorem wl_9_24 : u_lay RX9 TX9 24 ∈ jTW := jt_5 (i := 108) (by decide +kernel) (by decide +kernel)
theorem wl_9_25 : u_lay RX9 TX9 25 ∈ jTW := jt_5 (i := 110) (by decide +kernel) (by decide +kernel)
theorem wl_9_26 : u_lay RX9 TX9 26 ∈ jTW := jt_5 (i := 112) (by decide +kernel) (by decide +kernel)
theorem wl_9_27 : u_lay RX9 TX9 27 ∈ jTW := jt_5 (i := 114) (by decide +kernel) (by decide +kernel)
theorem wl_9_28 : u_lay RX9 TX9 28 ∈ jTW := jt_5 (i := 116) (by decide +kernel) (by decide +kernel)
theorem wl_9_29 : u_lay RX9 TX9 29 ∈ jTW := jt_5 (i := 118) (by decide +kernel) (by decide +kernel)
theorem wl_9_30 : u_lay RX9 TX9 30 ∈ jTW := jt_5 (i := 120) (by decide +kernel) (by decide +kernel)
theorem wl_9_31 : u_lay RX9 TX9 31 ∈ jTW := jt_5 (i := 122) (by decide +kernel) (by decide +kernel)
theorem wl_9_32 : u_lay RX9 TX9 32 ∈ jTW := jt_5 (i := 124) (by decide +kernel) (by decide +kernel)
theorem wl_9_33 : u_lay RX9 TX9 33 ∈ jTW := jt_5 (i := 126) (by decide +kernel) (by decide +kernel)
theorem wl_9_34 : u_lay RX9 TX9 34 ∈ jTW := jt_5 (i := 128) (by decide +kernel) (by decide +kernel)
theorem clw_9 : ∀ w ∈ u_ws RX9 TX9 35, w ∈ jTW := by
  intro w hw
  obtain ⟨k, hk, rfl⟩ := List.mem_map.mp hw
  have hk := List.mem_range.mp hk
  match k, hk with
  | 0, _ => exact wl_9_0
  | 1, _ => exact wl_9_1
  | 2, _ => exact wl_9_2
  | 3, _ => exact wl_9_3
  | 4, _ => exact wl_9_4
  | 5, _ => exact wl_9_5
  | 6, _ => exact wl_9_6
  | 7, _ => exact wl_9_7
  | 8, _ => exact wl_9_8
  | 9, _ => exact wl_9_9
  | 10, _ => exact wl_9_10
  | 11, _ => exact wl_9_11
  | 12, _ => exact wl_9_12
  | 13, _ => exact wl_9_13
  | 14, _ => exact wl_9_14
  | 15, _ => exact wl_9_15
  | 16, _ => exact wl_9_16
  | 17, _ => exact wl_9_17
  | 18, _ => exact wl_9_18
  | 19, _ => exact wl_9_19
  | 20, _ => exact wl_9_20
  | 21, _ => exact wl_9_21
  | 22, _ => exact wl_9_22
  | 23, _ => exact wl_9_23
  | 24, _ => exact wl_9_24
  | 25, _ => exact wl_9_25
  | 26, _ => exact wl_9_26
  | 27, _ => exact wl_9_27
  | 28, _ => exact wl_9_28
  | 29, _ => exact wl_9_29
  | 30, _ => exact wl_9_30
  | 31, _ => exact wl_9_31
  | 32, _ => exact wl_9_32
  | 33, _ => exact wl_9_33
  | 34, _ => exact wl_9_34
  | k + 35, h => exact absurd h (by omega)
theorem cls_9 : jCls 9 RX9 TX9 35 tyX9 := ⟨rfl, clw_9, tyX9_ok, nmX9, rfl, by decide⟩
theorem wc_X2_19 : Cond.constantLong RX2 19 (-1) ∈ jTW := jt_3 (i := 107) (by decide +kernel) (by decide +kernel)
theorem wc_X3_32 : Cond.constantLong RX3 32 (48) ∈ jTW := jt_4 (i := 168) (by decide +kernel) (by decide +kernel)
theorem wc_X3_34 : Cond.constantLong RX3 34 (10) ∈ jTW := jt_4 (i := 169) (by decide +kernel) (by decide +kernel)
theorem wc_X6_33 : Cond.constantLong RX6 33 (-9223372036854775808) ∈ jTW := jt_4 (i := 223) (by decide +kernel) (by decide +kernel)
theorem wc_X7_133 : Cond.constantLong RX7 133 (2) ∈ jTW := jt_3 (i := 38) (by decide +kernel) (by decide +kernel)
theorem wc_X7_148 : Cond.constantLong RX7 148 (4) ∈ jTW := jt_3 (i := 69) (by decide +kernel) (by decide +kernel)
theorem wc_X7_211 : Cond.constantLong RX7 211 (24) ∈ jTW := jt_3 (i := 141) (by decide +kernel) (by decide +kernel)
theorem wc_X7_229 : Cond.constantLong RX7 229 (12) ∈ jTW := jt_3 (i := 150) (by decide +kernel) (by decide +kernel)
theorem wc_X8_178 : Cond.constantLong RX8 178 (-9223372036854775808) ∈ jTW := jt_3 (i := 5) (by decide +kernel) (by decide +kernel)
theorem wc_X8_372 : Cond.constantLong RX8 372 (2) ∈ jTW := jt_4 (i := 181) (by decide +kernel) (by decide +kernel)
theorem wc_X9_100 : Cond.constantLong RX9 100 (-9) ∈ jTW := jt_5 (i := 169) (by decide +kernel) (by decide +kernel)
theorem wc_X9_102 : Cond.constantLong RX9 102 (9) ∈ jTW := jt_5 (i := 170) (by decide +kernel) (by decide +kernel)
theorem wc_X9_111 : Cond.constantLong RX9 111 (3) ∈ jTW := jt_5 (i := 203) (by decide +kernel) (by decide +kernel)
theorem wc_X9_150 : Cond.constantLong RX9 150 (4) ∈ jTW := jt_6 (i := 37) (by decide +kernel) (by decide +kernel)
theorem wc_X9_200 : Cond.constantLong RX9 200 (-9223372036854775808) ∈ jTW := jt_5 (i := 228) (by decide +kernel) (by decide +kernel)
theorem wc_X9_208 : Cond.constantLong RX9 208 (100) ∈ jTW := jt_6 (i := 74) (by decide +kernel) (by decide +kernel)
theorem wc_X9_216 : Cond.constantLong RX9 216 (6) ∈ jTW := jt_6 (i := 91) (by decide +kernel) (by decide +kernel)
theorem wc_X9_218 : Cond.constantLong RX9 218 (12) ∈ jTW := jt_6 (i := 92) (by decide +kernel) (by decide +kernel)
theorem wc_X9_223 : Cond.constantLong RX9 223 (24) ∈ jTW := jt_6 (i := 93) (by decide +kernel) (by decide +kernel)
theorem wc_X9_257 : Cond.constantLong RX9 257 (9999) ∈ jTW := jt_6 (i := 121) (by decide +kernel) (by decide +kernel)
theorem wc_X9_286 : Cond.constantLong RX9 286 (127) ∈ jTW := jt_6 (i := 181) (by decide +kernel) (by decide +kernel)
theorem wc_X9_291 : Cond.constantLong RX9 291 (97) ∈ jTW := jt_6 (i := 198) (by decide +kernel) (by decide +kernel)
theorem wc_X9_293 : Cond.constantLong RX9 293 (122) ∈ jTW := jt_6 (i := 199) (by decide +kernel) (by decide +kernel)
theorem wc_X9_298 : Cond.constantLong RX9 298 (48) ∈ jTW := jt_6 (i := 208) (by decide +kernel) (by decide +kernel)
theorem wc_X9_300 : Cond.constantLong RX9 300 (57) ∈ jTW := jt_6 (i := 209) (by decide +kernel) (by decide +kernel)
theorem wc_X9_86 : Cond.constantLong RX9 86 (2) ∈ jTW := jt_5 (i := 136) (by decide +kernel) (by decide +kernel)
theorem wc_X9_88 : Cond.constantLong RX9 88 (10) ∈ jTW := jt_5 (i := 137) (by decide +kernel) (by decide +kernel)
theorem wf_X0_15 : Cond.fieldLink RX0 15 (TX0 2).1 (TX0 2).2.1 (TX0 2).2.2.1 ∈ jTW := jt_1 (i := 39) (by decide +kernel) (by decide +kernel)
theorem wf_X0_19 : Cond.fieldLink RX0 19 (TX0 3).1 (TX0 3).2.1 (TX0 3).2.2.1 ∈ jTW := jt_1 (i := 42) (by decide +kernel) (by decide +kernel)
theorem wf_X0_22 : Cond.fieldLink RX0 22 (TX0 5).1 (TX0 5).2.1 (TX0 5).2.2.1 ∈ jTW := jt_1 (i := 48) (by decide +kernel) (by decide +kernel)
theorem wf_X0_25 : Cond.fieldLink RX0 25 (TX0 6).1 (TX0 6).2.1 (TX0 6).2.2.1 ∈ jTW := jt_1 (i := 51) (by decide +kernel) (by decide +kernel)
theorem wf_X0_28 : Cond.fieldLink RX0 28 (TX0 7).1 (TX0 7).2.1 (TX0 7).2.2.1 ∈ jTW := jt_1 (i := 54) (by decide +kernel) (by decide +kernel)
theorem wf_X0_31 : Cond.fieldLink RX0 31 (TX0 8).1 (TX0 8).2.1 (TX0 8).2.2.1 ∈ jTW := jt_1 (i := 57) (by decide +kernel) (by decide +kernel)
theorem wf_X0_34 : Cond.fieldLink RX0 34 (TX0 10).1 (TX0 10).2.1 (TX0 10).2.2.1 ∈ jTW := jt_1 (i := 62) (by decide +kernel) (by decide +kernel)
theorem wf_X0_37 : Cond.fieldLink RX0 37 (TX0 11).1 (TX0 11).2.1 (TX0 11).2.2.1 ∈ jTW := jt_1 (i := 64) (by decide +kernel) (by decide +kernel)
theorem wf_X0_40 : Cond.fieldLink RX0 40 (TX0 1).1 (TX0 1).2.1 (TX0 1).2.2.1 ∈ jTW := jt_1 (i := 36) (by decide +kernel) (by decide +kernel)
theorem wf_X0_49 : Cond.fieldLink RX0 49 (TX0 4).1 (TX0 4).2.1 (TX0 4).2.2.1 ∈ jTW := jt_1 (i := 45) (by decide +kernel) (by decide +kernel)
theorem wf_X0_52 : Cond.fieldLink RX0 52 (TX0 9).1 (TX0 9).2.1 (TX0 9).2.2.1 ∈ jTW := jt_1 (i := 60) (by decide +kernel) (by decide +kernel)
theorem wf_X0_9 : Cond.fieldLink RX0 9 (TX0 0).1 (TX0 0).2.1 (TX0 0).2.2.1 ∈ jTW := jt_1 (i := 33) (by decide +kernel) (by decide +kernel)
theorem wf_X1_11 : Cond.fieldLink RX1 11 (TX1 2).1 (TX1 2).2.1 (TX1 2).2.2.1 ∈ jTW := jt_1 (i := 104) (by decide +kernel) (by decide +kernel)
theorem wf_X1_18 : Cond.fieldLink RX1 18 (TX1 1).1 (TX1 1).2.1 (TX1 1).2.2.1 ∈ jTW := jt_1 (i := 103) (by decide +kernel) (by decide +kernel)
theorem wf_X1_26 : Cond.fieldLink RX1 26 (TX1 0).1 (TX1 0).2.1 (TX1 0).2.2.1 ∈ jTW := jt_1 (i := 101) (by decide +kernel) (by decide +kernel)
theorem wf_X2_24 : Cond.fieldLink RX2 24 (TX2 0).1 (TX2 0).2.1 (TX2 0).2.2.1 ∈ jTW := jt_1 (i := 130) (by decide +kernel) (by decide +kernel)
theorem wf_X2_9 : Cond.fieldLink RX2 9 (TX2 1).1 (TX2 1).2.1 (TX2 1).2.2.1 ∈ jTW := jt_1 (i := 134) (by decide +kernel) (by decide +kernel)
theorem wf_X3_15 : Cond.fieldLink RX3 15 (TX3 2).1 (TX3 2).2.1 (TX3 2).2.2.1 ∈ jTW := jt_2 (i := 30) (by decide +kernel) (by decide +kernel)
theorem wf_X3_18 : Cond.fieldLink RX3 18 (TX3 0).1 (TX3 0).2.1 (TX3 0).2.2.1 ∈ jTW := jt_2 (i := 26) (by decide +kernel) (by decide +kernel)
theorem wf_X3_36 : Cond.fieldLink RX3 36 (TX2 0).1 (TX2 0).2.1 (TX2 0).2.2.1 ∈ jTW := jt_1 (i := 131) (by decide +kernel) (by decide +kernel)
theorem wf_X3_46 : Cond.fieldLink RX3 46 (TX2 1).1 (TX2 1).2.1 (TX2 1).2.2.1 ∈ jTW := jt_1 (i := 135) (by decide +kernel) (by decide +kernel)
theorem wf_X3_9 : Cond.fieldLink RX3 9 (TX3 1).1 (TX3 1).2.1 (TX3 1).2.2.1 ∈ jTW := jt_2 (i := 28) (by decide +kernel) (by decide +kernel)
theorem wf_X4_10 : Cond.fieldLink RX4 10 (TX4 0).1 (TX4 0).2.1 (TX4 0).2.2.1 ∈ jTW := jt_1 (i := 143) (by decide +kernel) (by decide +kernel)
theorem wf_X4_16 : Cond.fieldLink RX4 16 (TX4 1).1 (TX4 1).2.1 (TX4 1).2.2.1 ∈ jTW := jt_1 (i := 146) (by decide +kernel) (by decide +kernel)
theorem wf_X4_19 : Cond.fieldLink RX4 19 (TX4 3).1 (TX4 3).2.1 (TX4 3).2.2.1 ∈ jTW := jt_1 (i := 150) (by decide +kernel) (by decide +kernel)
theorem wf_X4_23 : Cond.fieldLink RX4 23 (TX4 2).1 (TX4 2).2.1 (TX4 2).2.2.1 ∈ jTW := jt_1 (i := 148) (by decide +kernel) (by decide +kernel)
theorem wf_X5_12 : Cond.fieldLink RX5 12 (TX5 1).1 (TX5 1).2.1 (TX5 1).2.2.1 ∈ jTW := jt_2 (i := 0) (by decide +kernel) (by decide +kernel)
theorem wf_X5_18 : Cond.fieldLink RX5 18 (TX5 2).1 (TX5 2).2.1 (TX5 2).2.2.1 ∈ jTW := jt_2 (i := 2) (by decide +kernel) (by decide +kernel)
theorem wf_X5_22 : Cond.fieldLink RX5 22 (TX5 5).1 (TX5 5).2.1 (TX5 5).2.2.1 ∈ jTW := jt_2 (i := 5) (by decide +kernel) (by decide +kernel)
theorem wf_X5_26 : Cond.fieldLink RX5 26 (TX5 0).1 (TX5 0).2.1 (TX5 0).2.2.1 ∈ jTW := jt_1 (i := 238) (by decide +kernel) (by decide +kernel)
theorem wf_X5_38 : Cond.fieldLink RX5 38 (TX5 3).1 (TX5 3).2.1 (TX5 3).2.2.1 ∈ jTW := jt_2 (i := 3) (by decide +kernel) (by decide +kernel)
theorem wf_X5_59 : Cond.fieldLink RX5 59 (TX5 4).1 (TX5 4).2.1 (TX5 4).2.2.1 ∈ jTW := jt_2 (i := 4) (by decide +kernel) (by decide +kernel)
theorem wf_X5_62 : Cond.fieldLink RX5 62 RX5 "NUMBERS" "[I" ∈ jTW := jt_4 (i := 115) (by decide +kernel) (by decide +kernel)
theorem wf_X6_15 : Cond.fieldLink RX6 15 (TX6 1).1 (TX6 1).2.1 (TX6 1).2.2.1 ∈ jTW := jt_2 (i := 48) (by decide +kernel) (by decide +kernel)
theorem wf_X6_9 : Cond.fieldLink RX6 9 (TX6 0).1 (TX6 0).2.1 (TX6 0).2.2.1 ∈ jTW := jt_2 (i := 47) (by decide +kernel) (by decide +kernel)
theorem wf_X7_100 : Cond.fieldLink RX7 100 (TX0 8).1 (TX0 8).2.1 (TX0 8).2.2.1 ∈ jTW := jt_1 (i := 58) (by decide +kernel) (by decide +kernel)
theorem wf_X7_103 : Cond.fieldLink RX7 103 (TX0 5).1 (TX0 5).2.1 (TX0 5).2.2.1 ∈ jTW := jt_1 (i := 49) (by decide +kernel) (by decide +kernel)
theorem wf_X7_106 : Cond.fieldLink RX7 106 (TX0 7).1 (TX0 7).2.1 (TX0 7).2.2.1 ∈ jTW := jt_1 (i := 55) (by decide +kernel) (by decide +kernel)
theorem wf_X7_113 : Cond.fieldLink RX7 113 (TX0 6).1 (TX0 6).2.1 (TX0 6).2.2.1 ∈ jTW := jt_1 (i := 52) (by decide +kernel) (by decide +kernel)
theorem wf_X7_15 : Cond.fieldLink RX7 15 (TX7 3).1 (TX7 3).2.1 (TX7 3).2.2.1 ∈ jTW := jt_1 (i := 166) (by decide +kernel) (by decide +kernel)
theorem wf_X7_18 : Cond.fieldLink RX7 18 (TX7 4).1 (TX7 4).2.1 (TX7 4).2.2.1 ∈ jTW := jt_1 (i := 168) (by decide +kernel) (by decide +kernel)
theorem wf_X7_181 : Cond.fieldLink RX7 181 (TX4 2).1 (TX4 2).2.1 (TX4 2).2.2.1 ∈ jTW := jt_1 (i := 149) (by decide +kernel) (by decide +kernel)
theorem wf_X7_198 : Cond.fieldLink RX7 198 (TX4 0).1 (TX4 0).2.1 (TX4 0).2.2.1 ∈ jTW := jt_1 (i := 145) (by decide +kernel) (by decide +kernel)
theorem wf_X7_199 : Cond.fieldLink RX7 199 (TX2 0).1 (TX2 0).2.1 (TX2 0).2.2.1 ∈ jTW := jt_1 (i := 133) (by decide +kernel) (by decide +kernel)
theorem wf_X7_202 : Cond.fieldLink RX7 202 (TX2 1).1 (TX2 1).2.1 (TX2 1).2.2.1 ∈ jTW := jt_1 (i := 136) (by decide +kernel) (by decide +kernel)
theorem wf_X7_22 : Cond.fieldLink RX7 22 (TX7 5).1 (TX7 5).2.1 (TX7 5).2.2.1 ∈ jTW := jt_1 (i := 169) (by decide +kernel) (by decide +kernel)
theorem wf_X7_25 : Cond.fieldLink RX7 25 (TX7 6).1 (TX7 6).2.1 (TX7 6).2.2.1 ∈ jTW := jt_1 (i := 171) (by decide +kernel) (by decide +kernel)
theorem wf_X7_29 : Cond.fieldLink RX7 29 (TX7 7).1 (TX7 7).2.1 (TX7 7).2.2.1 ∈ jTW := jt_1 (i := 173) (by decide +kernel) (by decide +kernel)
theorem wf_X7_32 : Cond.fieldLink RX7 32 (TX7 8).1 (TX7 8).2.1 (TX7 8).2.2.1 ∈ jTW := jt_1 (i := 175) (by decide +kernel) (by decide +kernel)
theorem wf_X7_35 : Cond.fieldLink RX7 35 (TX7 9).1 (TX7 9).2.1 (TX7 9).2.2.1 ∈ jTW := jt_1 (i := 177) (by decide +kernel) (by decide +kernel)
theorem wf_X7_38 : Cond.fieldLink RX7 38 (TX7 10).1 (TX7 10).2.1 (TX7 10).2.2.1 ∈ jTW := jt_1 (i := 179) (by decide +kernel) (by decide +kernel)
theorem wf_X7_41 : Cond.fieldLink RX7 41 (TX7 11).1 (TX7 11).2.1 (TX7 11).2.2.1 ∈ jTW := jt_1 (i := 181) (by decide +kernel) (by decide +kernel)
theorem wf_X7_49 : Cond.fieldLink RX7 49 (TX7 12).1 (TX7 12).2.1 (TX7 12).2.2.1 ∈ jTW := jt_1 (i := 183) (by decide +kernel) (by decide +kernel)
theorem wf_X7_53 : Cond.fieldLink RX7 53 (TX7 13).1 (TX7 13).2.1 (TX7 13).2.2.1 ∈ jTW := jt_1 (i := 185) (by decide +kernel) (by decide +kernel)
theorem wf_X7_56 : Cond.fieldLink RX7 56 (TX7 14).1 (TX7 14).2.1 (TX7 14).2.2.1 ∈ jTW := jt_1 (i := 187) (by decide +kernel) (by decide +kernel)
theorem wf_X7_59 : Cond.fieldLink RX7 59 (TX7 15).1 (TX7 15).2.1 (TX7 15).2.2.1 ∈ jTW := jt_1 (i := 188) (by decide +kernel) (by decide +kernel)
theorem wf_X7_65 : Cond.fieldLink RX7 65 (TX7 16).1 (TX7 16).2.1 (TX7 16).2.2.1 ∈ jTW := jt_1 (i := 189) (by decide +kernel) (by decide +kernel)
theorem wf_X7_69 : Cond.fieldLink RX7 69 (TX7 17).1 (TX7 17).2.1 (TX7 17).2.2.1 ∈ jTW := jt_1 (i := 190) (by decide +kernel) (by decide +kernel)
theorem wf_X7_72 : Cond.fieldLink RX7 72 (TX0 0).1 (TX0 0).2.1 (TX0 0).2.2.1 ∈ jTW := jt_1 (i := 34) (by decide +kernel) (by decide +kernel)
theorem wf_X7_78 : Cond.fieldLink RX7 78 (TX7 0).1 (TX7 0).2.1 (TX7 0).2.2.1 ∈ jTW := jt_1 (i := 162) (by decide +kernel) (by decide +kernel)
theorem wf_X7_79 : Cond.fieldLink RX7 79 (TX0 1).1 (TX0 1).2.1 (TX0 1).2.2.1 ∈ jTW := jt_1 (i := 37) (by decide +kernel) (by decide +kernel)
theorem wf_X7_82 : Cond.fieldLink RX7 82 (TX7 1).1 (TX7 1).2.1 (TX7 1).2.2.1 ∈ jTW := jt_1 (i := 163) (by decide +kernel) (by decide +kernel)
theorem wf_X7_83 : Cond.fieldLink RX7 83 (TX0 2).1 (TX0 2).2.1 (TX0 2).2.2.1 ∈ jTW := jt_1 (i := 40) (by decide +kernel) (by decide +kernel)
theorem wf_X7_9 : Cond.fieldLink RX7 9 (TX7 2).1 (TX7 2).2.1 (TX7 2).2.2.1 ∈ jTW := jt_1 (i := 164) (by decide +kernel) (by decide +kernel)
theorem wf_X7_90 : Cond.fieldLink RX7 90 (TX0 3).1 (TX0 3).2.1 (TX0 3).2.2.1 ∈ jTW := jt_1 (i := 43) (by decide +kernel) (by decide +kernel)
theorem wf_X7_97 : Cond.fieldLink RX7 97 (TX0 4).1 (TX0 4).2.1 (TX0 4).2.2.1 ∈ jTW := jt_1 (i := 46) (by decide +kernel) (by decide +kernel)
theorem wf_X8_122 : Cond.fieldLink RX8 122 (TX0 7).1 (TX0 7).2.1 (TX0 7).2.2.1 ∈ jTW := jt_1 (i := 56) (by decide +kernel) (by decide +kernel)
theorem wf_X8_135 : Cond.fieldLink RX8 135 (TX0 9).1 (TX0 9).2.1 (TX0 9).2.2.1 ∈ jTW := jt_1 (i := 61) (by decide +kernel) (by decide +kernel)
theorem wf_X8_138 : Cond.fieldLink RX8 138 (TX0 5).1 (TX0 5).2.1 (TX0 5).2.2.1 ∈ jTW := jt_1 (i := 50) (by decide +kernel) (by decide +kernel)
theorem wf_X8_14 : Cond.fieldLink RX8 14 (TX8 0).1 (TX8 0).2.1 (TX8 0).2.2.1 ∈ jTW := jt_2 (i := 54) (by decide +kernel) (by decide +kernel)
theorem wf_X8_141 : Cond.fieldLink RX8 141 (TX0 6).1 (TX0 6).2.1 (TX0 6).2.2.1 ∈ jTW := jt_1 (i := 53) (by decide +kernel) (by decide +kernel)
theorem wf_X8_144 : Cond.fieldLink RX8 144 (TX0 8).1 (TX0 8).2.1 (TX0 8).2.2.1 ∈ jTW := jt_1 (i := 59) (by decide +kernel) (by decide +kernel)
theorem wf_X8_150 : Cond.fieldLink RX8 150 (TX0 2).1 (TX0 2).2.1 (TX0 2).2.2.1 ∈ jTW := jt_1 (i := 41) (by decide +kernel) (by decide +kernel)
theorem wf_X8_153 : Cond.fieldLink RX8 153 (TX0 3).1 (TX0 3).2.1 (TX0 3).2.2.1 ∈ jTW := jt_1 (i := 44) (by decide +kernel) (by decide +kernel)
theorem wf_X8_156 : Cond.fieldLink RX8 156 (TX0 1).1 (TX0 1).2.1 (TX0 1).2.2.1 ∈ jTW := jt_1 (i := 38) (by decide +kernel) (by decide +kernel)
theorem wf_X8_159 : Cond.fieldLink RX8 159 (TX0 4).1 (TX0 4).2.1 (TX0 4).2.2.1 ∈ jTW := jt_1 (i := 47) (by decide +kernel) (by decide +kernel)
theorem wf_X8_162 : Cond.fieldLink RX8 162 (TX1 0).1 (TX1 0).2.1 (TX1 0).2.2.1 ∈ jTW := jt_1 (i := 102) (by decide +kernel) (by decide +kernel)
theorem wf_X8_165 : Cond.fieldLink RX8 165 (TX5 0).1 (TX5 0).2.1 (TX5 0).2.2.1 ∈ jTW := jt_1 (i := 239) (by decide +kernel) (by decide +kernel)
theorem wf_X8_166 : Cond.fieldLink RX8 166 (TX3 0).1 (TX3 0).2.1 (TX3 0).2.2.1 ∈ jTW := jt_2 (i := 27) (by decide +kernel) (by decide +kernel)
theorem wf_X8_183 : Cond.fieldLink RX8 183 (TX7 7).1 (TX7 7).2.1 (TX7 7).2.2.1 ∈ jTW := jt_1 (i := 174) (by decide +kernel) (by decide +kernel)
theorem wf_X8_187 : Cond.fieldLink RX8 187 (TX7 6).1 (TX7 6).2.1 (TX7 6).2.2.1 ∈ jTW := jt_1 (i := 172) (by decide +kernel) (by decide +kernel)
theorem wf_X8_198 : Cond.fieldLink RX8 198 (TX7 8).1 (TX7 8).2.1 (TX7 8).2.2.1 ∈ jTW := jt_1 (i := 176) (by decide +kernel) (by decide +kernel)
theorem wf_X8_21 : Cond.fieldLink RX8 21 (TX8 1).1 (TX8 1).2.1 (TX8 1).2.2.1 ∈ jTW := jt_2 (i := 55) (by decide +kernel) (by decide +kernel)
theorem wf_X8_212 : Cond.fieldLink RX8 212 (TX7 11).1 (TX7 11).2.1 (TX7 11).2.2.1 ∈ jTW := jt_1 (i := 182) (by decide +kernel) (by decide +kernel)
theorem wf_X8_215 : Cond.fieldLink RX8 215 (TX7 10).1 (TX7 10).2.1 (TX7 10).2.2.1 ∈ jTW := jt_1 (i := 180) (by decide +kernel) (by decide +kernel)
theorem wf_X8_221 : Cond.fieldLink RX8 221 (TX7 12).1 (TX7 12).2.1 (TX7 12).2.2.1 ∈ jTW := jt_1 (i := 184) (by decide +kernel) (by decide +kernel)
theorem wf_X8_225 : Cond.fieldLink RX8 225 (TX7 13).1 (TX7 13).2.1 (TX7 13).2.2.1 ∈ jTW := jt_1 (i := 186) (by decide +kernel) (by decide +kernel)
theorem wf_X8_228 : Cond.fieldLink RX8 228 (TX4 0).1 (TX4 0).2.1 (TX4 0).2.2.1 ∈ jTW := jt_1 (i := 144) (by decide +kernel) (by decide +kernel)
theorem wf_X8_233 : Cond.fieldLink RX8 233 (TX4 1).1 (TX4 1).2.1 (TX4 1).2.2.1 ∈ jTW := jt_1 (i := 147) (by decide +kernel) (by decide +kernel)
theorem wf_X8_243 : Cond.fieldLink RX8 243 (TX2 0).1 (TX2 0).2.1 (TX2 0).2.2.1 ∈ jTW := jt_1 (i := 132) (by decide +kernel) (by decide +kernel)
theorem wf_X8_25 : Cond.fieldLink RX8 25 (TX8 2).1 (TX8 2).2.1 (TX8 2).2.2.1 ∈ jTW := jt_2 (i := 56) (by decide +kernel) (by decide +kernel)
theorem wf_X8_252 : Cond.fieldLink RX8 252 (TX7 9).1 (TX7 9).2.1 (TX7 9).2.2.1 ∈ jTW := jt_1 (i := 178) (by decide +kernel) (by decide +kernel)
theorem wf_X8_265 : Cond.fieldLink RX8 265 (TX7 2).1 (TX7 2).2.1 (TX7 2).2.2.1 ∈ jTW := jt_1 (i := 165) (by decide +kernel) (by decide +kernel)
theorem wf_X8_279 : Cond.fieldLink RX8 279 (TX7 3).1 (TX7 3).2.1 (TX7 3).2.2.1 ∈ jTW := jt_1 (i := 167) (by decide +kernel) (by decide +kernel)
theorem wf_X8_287 : Cond.fieldLink RX8 287 (TX5 1).1 (TX5 1).2.1 (TX5 1).2.2.1 ∈ jTW := jt_2 (i := 1) (by decide +kernel) (by decide +kernel)
theorem wf_X8_296 : Cond.fieldLink RX8 296 (TX3 1).1 (TX3 1).2.1 (TX3 1).2.2.1 ∈ jTW := jt_2 (i := 29) (by decide +kernel) (by decide +kernel)
theorem wf_X8_31 : Cond.fieldLink RX8 31 (TX8 4).1 (TX8 4).2.1 (TX8 4).2.2.1 ∈ jTW := jt_2 (i := 58) (by decide +kernel) (by decide +kernel)
theorem wf_X8_331 : Cond.fieldLink RX8 331 (TX8 3).1 (TX8 3).2.1 (TX8 3).2.2.1 ∈ jTW := jt_2 (i := 57) (by decide +kernel) (by decide +kernel)
theorem wf_X8_347 : Cond.fieldLink RX8 347 (TX0 10).1 (TX0 10).2.1 (TX0 10).2.2.1 ∈ jTW := jt_1 (i := 63) (by decide +kernel) (by decide +kernel)
theorem wf_X8_350 : Cond.fieldLink RX8 350 (TX0 11).1 (TX0 11).2.1 (TX0 11).2.2.1 ∈ jTW := jt_1 (i := 65) (by decide +kernel) (by decide +kernel)
theorem wf_X8_369 : Cond.fieldLink RX8 369 (TX7 5).1 (TX7 5).2.1 (TX7 5).2.2.1 ∈ jTW := jt_1 (i := 170) (by decide +kernel) (by decide +kernel)
theorem wf_X8_38 : Cond.fieldLink RX8 38 (TX8 5).1 (TX8 5).2.1 (TX8 5).2.2.1 ∈ jTW := jt_2 (i := 59) (by decide +kernel) (by decide +kernel)
theorem wf_X8_42 : Cond.fieldLink RX8 42 (TX8 6).1 (TX8 6).2.1 (TX8 6).2.2.1 ∈ jTW := jt_2 (i := 60) (by decide +kernel) (by decide +kernel)
theorem wf_X8_48 : Cond.fieldLink RX8 48 (TX8 7).1 (TX8 7).2.1 (TX8 7).2.2.1 ∈ jTW := jt_2 (i := 61) (by decide +kernel) (by decide +kernel)
theorem wf_X8_55 : Cond.fieldLink RX8 55 (TX8 8).1 (TX8 8).2.1 (TX8 8).2.2.1 ∈ jTW := jt_2 (i := 62) (by decide +kernel) (by decide +kernel)
theorem wf_X8_62 : Cond.fieldLink RX8 62 (TX8 9).1 (TX8 9).2.1 (TX8 9).2.2.1 ∈ jTW := jt_2 (i := 63) (by decide +kernel) (by decide +kernel)
theorem wf_X8_70 : Cond.fieldLink RX8 70 (TX0 0).1 (TX0 0).2.1 (TX0 0).2.2.1 ∈ jTW := jt_1 (i := 35) (by decide +kernel) (by decide +kernel)
theorem wf_X9_11 : Cond.fieldLink RX9 11 (TX9 0).1 (TX9 0).2.1 (TX9 0).2.2.1 ∈ jTW := jt_5 (i := 25) (by decide +kernel) (by decide +kernel)
theorem wf_X9_116 : Cond.fieldLink RX9 116 (TX9 23).1 (TX9 23).2.1 (TX9 23).2.2.1 ∈ jTW := jt_5 (i := 48) (by decide +kernel) (by decide +kernel)
theorem wf_X9_119 : Cond.fieldLink RX9 119 (TX9 32).1 (TX9 32).2.1 (TX9 32).2.2.1 ∈ jTW := jt_5 (i := 57) (by decide +kernel) (by decide +kernel)
theorem wf_X9_130 : Cond.fieldLink RX9 130 (TX9 5).1 (TX9 5).2.1 (TX9 5).2.2.1 ∈ jTW := jt_5 (i := 30) (by decide +kernel) (by decide +kernel)
theorem wf_X9_15 : Cond.fieldLink RX9 15 (TX9 1).1 (TX9 1).2.1 (TX9 1).2.2.1 ∈ jTW := jt_5 (i := 26) (by decide +kernel) (by decide +kernel)
theorem wf_X9_18 : Cond.fieldLink RX9 18 (TX9 3).1 (TX9 3).2.1 (TX9 3).2.2.1 ∈ jTW := jt_5 (i := 28) (by decide +kernel) (by decide +kernel)
theorem wf_X9_182 : Cond.fieldLink RX9 182 (TX9 13).1 (TX9 13).2.1 (TX9 13).2.2.1 ∈ jTW := jt_5 (i := 38) (by decide +kernel) (by decide +kernel)
theorem wf_X9_21 : Cond.fieldLink RX9 21 (TX9 6).1 (TX9 6).2.1 (TX9 6).2.2.1 ∈ jTW := jt_5 (i := 31) (by decide +kernel) (by decide +kernel)
theorem wf_X9_232 : Cond.fieldLink RX9 232 (TX9 16).1 (TX9 16).2.1 (TX9 16).2.2.1 ∈ jTW := jt_5 (i := 41) (by decide +kernel) (by decide +kernel)
theorem wf_X9_235 : Cond.fieldLink RX9 235 (TX9 15).1 (TX9 15).2.1 (TX9 15).2.2.1 ∈ jTW := jt_5 (i := 40) (by decide +kernel) (by decide +kernel)
theorem wf_X9_238 : Cond.fieldLink RX9 238 (TX9 17).1 (TX9 17).2.1 (TX9 17).2.2.1 ∈ jTW := jt_5 (i := 42) (by decide +kernel) (by decide +kernel)
theorem wf_X9_241 : Cond.fieldLink RX9 241 (TX9 18).1 (TX9 18).2.1 (TX9 18).2.2.1 ∈ jTW := jt_5 (i := 43) (by decide +kernel) (by decide +kernel)
theorem wf_X9_25 : Cond.fieldLink RX9 25 (TX9 7).1 (TX9 7).2.1 (TX9 7).2.2.1 ∈ jTW := jt_5 (i := 32) (by decide +kernel) (by decide +kernel)
theorem wf_X9_251 : Cond.fieldLink RX9 251 (TX9 19).1 (TX9 19).2.1 (TX9 19).2.2.1 ∈ jTW := jt_5 (i := 44) (by decide +kernel) (by decide +kernel)
theorem wf_X9_254 : Cond.fieldLink RX9 254 (TX9 20).1 (TX9 20).2.1 (TX9 20).2.2.1 ∈ jTW := jt_5 (i := 45) (by decide +kernel) (by decide +kernel)
theorem wf_X9_288 : Cond.fieldLink RX9 288 (TX9 28).1 (TX9 28).2.1 (TX9 28).2.2.1 ∈ jTW := jt_5 (i := 53) (by decide +kernel) (by decide +kernel)
theorem wf_X9_29 : Cond.fieldLink RX9 29 (TX9 8).1 (TX9 8).2.1 (TX9 8).2.2.1 ∈ jTW := jt_5 (i := 33) (by decide +kernel) (by decide +kernel)
theorem wf_X9_32 : Cond.fieldLink RX9 32 (TX9 9).1 (TX9 9).2.1 (TX9 9).2.2.1 ∈ jTW := jt_5 (i := 34) (by decide +kernel) (by decide +kernel)
theorem wf_X9_327 : Cond.fieldLink RX9 327 (TX9 29).1 (TX9 29).2.1 (TX9 29).2.2.1 ∈ jTW := jt_5 (i := 54) (by decide +kernel) (by decide +kernel)
theorem wf_X9_35 : Cond.fieldLink RX9 35 (TX9 10).1 (TX9 10).2.1 (TX9 10).2.2.1 ∈ jTW := jt_5 (i := 35) (by decide +kernel) (by decide +kernel)
theorem wf_X9_353 : Cond.fieldLink RX9 353 (TX9 2).1 (TX9 2).2.1 (TX9 2).2.2.1 ∈ jTW := jt_5 (i := 27) (by decide +kernel) (by decide +kernel)
theorem wf_X9_38 : Cond.fieldLink RX9 38 (TX9 11).1 (TX9 11).2.1 (TX9 11).2.2.1 ∈ jTW := jt_5 (i := 36) (by decide +kernel) (by decide +kernel)
theorem wf_X9_41 : Cond.fieldLink RX9 41 (TX9 12).1 (TX9 12).2.1 (TX9 12).2.2.1 ∈ jTW := jt_5 (i := 37) (by decide +kernel) (by decide +kernel)
theorem wf_X9_44 : Cond.fieldLink RX9 44 (TX9 14).1 (TX9 14).2.1 (TX9 14).2.2.1 ∈ jTW := jt_5 (i := 39) (by decide +kernel) (by decide +kernel)
theorem wf_X9_47 : Cond.fieldLink RX9 47 (TX9 21).1 (TX9 21).2.1 (TX9 21).2.2.1 ∈ jTW := jt_5 (i := 46) (by decide +kernel) (by decide +kernel)
theorem wf_X9_50 : Cond.fieldLink RX9 50 (TX9 22).1 (TX9 22).2.1 (TX9 22).2.2.1 ∈ jTW := jt_5 (i := 47) (by decide +kernel) (by decide +kernel)
theorem wf_X9_53 : Cond.fieldLink RX9 53 (TX9 24).1 (TX9 24).2.1 (TX9 24).2.2.1 ∈ jTW := jt_5 (i := 49) (by decide +kernel) (by decide +kernel)
theorem wf_X9_57 : Cond.fieldLink RX9 57 (TX9 25).1 (TX9 25).2.1 (TX9 25).2.2.1 ∈ jTW := jt_5 (i := 50) (by decide +kernel) (by decide +kernel)
theorem wf_X9_60 : Cond.fieldLink RX9 60 (TX9 26).1 (TX9 26).2.1 (TX9 26).2.2.1 ∈ jTW := jt_5 (i := 51) (by decide +kernel) (by decide +kernel)
theorem wf_X9_63 : Cond.fieldLink RX9 63 (TX9 27).1 (TX9 27).2.1 (TX9 27).2.2.1 ∈ jTW := jt_5 (i := 52) (by decide +kernel) (by decide +kernel)
theorem wf_X9_66 : Cond.fieldLink RX9 66 (TX9 30).1 (TX9 30).2.1 (TX9 30).2.2.1 ∈ jTW := jt_5 (i := 55) (by decide +kernel) (by decide +kernel)
theorem wf_X9_69 : Cond.fieldLink RX9 69 (TX9 31).1 (TX9 31).2.1 (TX9 31).2.2.1 ∈ jTW := jt_5 (i := 56) (by decide +kernel) (by decide +kernel)
theorem wf_X9_72 : Cond.fieldLink RX9 72 (TX9 33).1 (TX9 33).2.1 (TX9 33).2.2.1 ∈ jTW := jt_5 (i := 58) (by decide +kernel) (by decide +kernel)
theorem wf_X9_75 : Cond.fieldLink RX9 75 (TX9 34).1 (TX9 34).2.1 (TX9 34).2.2.1 ∈ jTW := jt_5 (i := 59) (by decide +kernel) (by decide +kernel)
theorem wf_X9_78 : Cond.fieldLink RX9 78 (TX9 4).1 (TX9 4).2.1 (TX9 4).2.2.1 ∈ jTW := jt_5 (i := 29) (by decide +kernel) (by decide +kernel)
theorem wm_X0_43 : Cond.methodLink RX0 43 arraycopyName ∈ jTW := jt_2 (i := 125) (by decide +kernel) (by decide +kernel)
theorem wm_X0_55 : Cond.methodLink RX0 55 yX0_isPlace ∈ jTW := jt_2 (i := 109) (by decide +kernel) (by decide +kernel)
theorem wm_X0_59 : Cond.methodLink RX0 59 yX0_numberAt ∈ jTW := jt_2 (i := 113) (by decide +kernel) (by decide +kernel)
theorem wm_X0_66 : Cond.methodLink RX0 66 yX0_isSupport ∈ jTW := jt_2 (i := 148) (by decide +kernel) (by decide +kernel)
theorem wm_X0_69 : Cond.methodLink RX0 69 yX0_isLoad ∈ jTW := jt_2 (i := 200) (by decide +kernel) (by decide +kernel)
theorem wm_X1_22 : Cond.methodLink RX1 22 yX0_become ∈ jTW := jt_2 (i := 121) (by decide +kernel) (by decide +kernel)
theorem wm_X1_29 : Cond.methodLink RX1 29 Lib.Math.min.name ∈ jTW := jt_2 (i := 128) (by decide +kernel) (by decide +kernel)
theorem wm_X1_35 : Cond.methodLink RX1 35 Lib.Math.max.name ∈ jTW := jt_5 (i := 8) (by decide +kernel) (by decide +kernel)
theorem wm_X2_27 : Cond.methodLink RX2 27 Lib.MathLoose.max_long.x ∈ jTW := jt_3 (i := 109) (by decide +kernel) (by decide +kernel)
theorem wm_X2_32 : Cond.methodLink RX2 32 yJ9_floorDiv_f86c9 ∈ jTW := jt_3 (i := 183) (by decide +kernel) (by decide +kernel)
theorem wm_X2_35 : Cond.methodLink RX2 35 yJ13_compare_74951 ∈ jTW := jt_3 (i := 186) (by decide +kernel) (by decide +kernel)
theorem wm_X3_22 : Cond.methodLink RX3 22 yX3_put ∈ jTW := jt_4 (i := 163) (by decide +kernel) (by decide +kernel)
theorem wm_X3_26 : Cond.methodLink RX3 26 Lib.MathLoose.abs_long.x ∈ jTW := jt_4 (i := 167) (by decide +kernel) (by decide +kernel)
theorem wm_X3_42 : Cond.methodLink RX3 42 yX3_putNumber ∈ jTW := jt_4 (i := 175) (by decide +kernel) (by decide +kernel)
theorem wm_X3_49 : Cond.methodLink RX3 49 yX3_putFraction ∈ jTW := jt_4 (i := 180) (by decide +kernel) (by decide +kernel)
theorem wm_X4_27 : Cond.methodLink RX4 27 yX2_against ∈ jTW := jt_3 (i := 179) (by decide +kernel) (by decide +kernel)
theorem wm_X4_31 : Cond.methodLink RX4 31 yX2_copy ∈ jTW := jt_3 (i := 189) (by decide +kernel) (by decide +kernel)
theorem wm_X5_104 : Cond.methodLink RX5 104 yX0_whyNotLength ∈ jTW := jt_4 (i := 134) (by decide +kernel) (by decide +kernel)
theorem wm_X5_108 : Cond.methodLink RX5 108 yX0_whyNotSupport ∈ jTW := jt_4 (i := 135) (by decide +kernel) (by decide +kernel)
theorem wm_X5_111 : Cond.methodLink RX5 111 yX0_whyNotAtSupport ∈ jTW := jt_4 (i := 136) (by decide +kernel) (by decide +kernel)
theorem wm_X5_114 : Cond.methodLink RX5 114 yX0_whyNotPoint ∈ jTW := jt_4 (i := 137) (by decide +kernel) (by decide +kernel)
theorem wm_X5_117 : Cond.methodLink RX5 117 yX0_whyNotSpread ∈ jTW := jt_4 (i := 138) (by decide +kernel) (by decide +kernel)
theorem wm_X5_121 : Cond.methodLink RX5 121 yX0_whyNotAxle ∈ jTW := jt_4 (i := 139) (by decide +kernel) (by decide +kernel)
theorem wm_X5_124 : Cond.methodLink RX5 124 yX0_clear ∈ jTW := jt_4 (i := 144) (by decide +kernel) (by decide +kernel)
theorem wm_X5_128 : Cond.methodLink RX5 128 yX0_putSupport ∈ jTW := jt_4 (i := 145) (by decide +kernel) (by decide +kernel)
theorem wm_X5_131 : Cond.methodLink RX5 131 yX0_numberAt ∈ jTW := jt_4 (i := 146) (by decide +kernel) (by decide +kernel)
theorem wm_X5_134 : Cond.methodLink RX5 134 yX0_putHinge ∈ jTW := jt_4 (i := 147) (by decide +kernel) (by decide +kernel)
theorem wm_X5_137 : Cond.methodLink RX5 137 yX0_putLoad ∈ jTW := jt_4 (i := 148) (by decide +kernel) (by decide +kernel)
theorem wm_X5_141 : Cond.methodLink RX5 141 yX0_putAxle ∈ jTW := jt_4 (i := 149) (by decide +kernel) (by decide +kernel)
theorem wm_X5_30 : Cond.methodLink RX5 30 yX5_placeOfNoText ∈ jTW := jt_4 (i := 39) (by decide +kernel) (by decide +kernel)
theorem wm_X5_34 : Cond.methodLink RX5 34 yX0_become ∈ jTW := jt_4 (i := 129) (by decide +kernel) (by decide +kernel)
theorem wm_X5_41 : Cond.methodLink RX5 41 yX5_readStatement ∈ jTW := jt_4 (i := 43) (by decide +kernel) (by decide +kernel)
theorem wm_X5_45 : Cond.methodLink RX5 45 yX5_whyNotStatement ∈ jTW := jt_4 (i := 130) (by decide +kernel) (by decide +kernel)
theorem wm_X5_48 : Cond.methodLink RX5 48 yX5_takeStatement ∈ jTW := jt_4 (i := 140) (by decide +kernel) (by decide +kernel)
theorem wm_X5_51 : Cond.methodLink RX5 51 yX5_isLetter ∈ jTW := jt_4 (i := 47) (by decide +kernel) (by decide +kernel)
theorem wm_X5_55 : Cond.methodLink RX5 55 yX5_wordWithin ∈ jTW := jt_4 (i := 50) (by decide +kernel) (by decide +kernel)
theorem wm_X5_65 : Cond.methodLink RX5 65 yX5_readNumber ∈ jTW := jt_4 (i := 117) (by decide +kernel) (by decide +kernel)
theorem wm_X5_69 : Cond.methodLink RX5 69 yX5_isNext ∈ jTW := jt_4 (i := 121) (by decide +kernel) (by decide +kernel)
theorem wm_X5_72 : Cond.methodLink RX5 72 yX5_isFigureNext ∈ jTW := jt_4 (i := 125) (by decide +kernel) (by decide +kernel)
theorem wm_X6_29 : Cond.methodLink RX6 29 yX6_has ∈ jTW := jt_4 (i := 214) (by decide +kernel) (by decide +kernel)
theorem wm_X7_109 : Cond.methodLink RX7 109 yX7_bearPoint ∈ jTW := jt_3 (i := 22) (by decide +kernel) (by decide +kernel)
theorem wm_X7_116 : Cond.methodLink RX7 116 yX7_solveOverSupports ∈ jTW := jt_3 (i := 30) (by decide +kernel) (by decide +kernel)
theorem wm_X7_119 : Cond.methodLink RX7 119 yX7_shearAlong ∈ jTW := jt_3 (i := 77) (by decide +kernel) (by decide +kernel)
theorem wm_X7_122 : Cond.methodLink RX7 122 yX7_bendAlong ∈ jTW := jt_3 (i := 89) (by decide +kernel) (by decide +kernel)
theorem wm_X7_125 : Cond.methodLink RX7 125 yX7_isInner ∈ jTW := jt_3 (i := 51) (by decide +kernel) (by decide +kernel)
theorem wm_X7_129 : Cond.methodLink RX7 129 yX7_span ∈ jTW := jt_3 (i := 34) (by decide +kernel) (by decide +kernel)
theorem wm_X7_135 : Cond.methodLink RX7 135 yX7_twiceOverFirst ∈ jTW := jt_3 (i := 39) (by decide +kernel) (by decide +kernel)
theorem wm_X7_139 : Cond.methodLink RX7 139 yX7_twiceOverLast ∈ jTW := jt_3 (i := 43) (by decide +kernel) (by decide +kernel)
theorem wm_X7_142 : Cond.methodLink RX7 142 yX7_hasRow ∈ jTW := jt_3 (i := 47) (by decide +kernel) (by decide +kernel)
theorem wm_X7_145 : Cond.methodLink RX7 145 yX7_leans ∈ jTW := jt_3 (i := 55) (by decide +kernel) (by decide +kernel)
theorem wm_X7_150 : Cond.methodLink RX7 150 yX7_leanToRight ∈ jTW := jt_3 (i := 59) (by decide +kernel) (by decide +kernel)
theorem wm_X7_157 : Cond.methodLink RX7 157 yX7_leanToLeft ∈ jTW := jt_3 (i := 73) (by decide +kernel) (by decide +kernel)
theorem wm_X7_160 : Cond.methodLink RX7 160 yX7_leanOfSpread ∈ jTW := jt_3 (i := 63) (by decide +kernel) (by decide +kernel)
theorem wm_X7_163 : Cond.methodLink RX7 163 yX7_leanOfPoint ∈ jTW := jt_3 (i := 66) (by decide +kernel) (by decide +kernel)
theorem wm_X7_166 : Cond.methodLink RX7 166 yX7_loadsBehind ∈ jTW := jt_3 (i := 81) (by decide +kernel) (by decide +kernel)
theorem wm_X7_169 : Cond.methodLink RX7 169 yX7_shearOfSpan ∈ jTW := jt_3 (i := 85) (by decide +kernel) (by decide +kernel)
theorem wm_X7_172 : Cond.methodLink RX7 172 Lib.MathLoose.min_long.x ∈ jTW := jt_3 (i := 129) (by decide +kernel) (by decide +kernel)
theorem wm_X7_177 : Cond.methodLink RX7 177 yX2_become ∈ jTW := jt_3 (i := 132) (by decide +kernel) (by decide +kernel)
theorem wm_X7_185 : Cond.methodLink RX7 185 yX7_offerPeak ∈ jTW := jt_3 (i := 171) (by decide +kernel) (by decide +kernel)
theorem wm_X7_188 : Cond.methodLink RX7 188 yX7_turnsWithin ∈ jTW := jt_3 (i := 193) (by decide +kernel) (by decide +kernel)
theorem wm_X7_191 : Cond.methodLink RX7 191 yX4_offer ∈ jTW := jt_3 (i := 175) (by decide +kernel) (by decide +kernel)
theorem wm_X7_195 : Cond.methodLink RX7 195 yX7_findPeaks ∈ jTW := jt_3 (i := 213) (by decide +kernel) (by decide +kernel)
theorem wm_X7_203 : Cond.methodLink RX7 203 yX2_against ∈ jTW := jt_3 (i := 214) (by decide +kernel) (by decide +kernel)
theorem wm_X7_207 : Cond.methodLink RX7 207 yX2_copy ∈ jTW := jt_3 (i := 215) (by decide +kernel) (by decide +kernel)
theorem wm_X7_213 : Cond.methodLink RX7 213 yX7_sagOfSpan ∈ jTW := jt_3 (i := 142) (by decide +kernel) (by decide +kernel)
theorem wm_X7_216 : Cond.methodLink RX7 216 yX7_sagAheadOfFirst ∈ jTW := jt_3 (i := 155) (by decide +kernel) (by decide +kernel)
theorem wm_X7_220 : Cond.methodLink RX7 220 yX7_sagBehindLast ∈ jTW := jt_3 (i := 159) (by decide +kernel) (by decide +kernel)
theorem wm_X7_223 : Cond.methodLink RX7 223 yX7_rise ∈ jTW := jt_3 (i := 146) (by decide +kernel) (by decide +kernel)
theorem wm_X7_226 : Cond.methodLink RX7 226 yX7_bending ∈ jTW := jt_3 (i := 151) (by decide +kernel) (by decide +kernel)
theorem wm_X7_84 : Cond.methodLink RX7 84 arraycopyName ∈ jTW := jt_3 (i := 14) (by decide +kernel) (by decide +kernel)
theorem wm_X7_91 : Cond.methodLink RX7 91 yJ7_fill_d0a16 ∈ jTW := jt_3 (i := 15) (by decide +kernel) (by decide +kernel)
theorem wm_X8_100 : Cond.methodLink RX8 100 yX0_putHinge ∈ jTW := jt_2 (i := 156) (by decide +kernel) (by decide +kernel)
theorem wm_X8_104 : Cond.methodLink RX8 104 yX0_whyNotPoint ∈ jTW := jt_2 (i := 164) (by decide +kernel) (by decide +kernel)
theorem wm_X8_107 : Cond.methodLink RX8 107 yX0_putLoad ∈ jTW := jt_2 (i := 171) (by decide +kernel) (by decide +kernel)
theorem wm_X8_111 : Cond.methodLink RX8 111 yX0_whyNotSpread ∈ jTW := jt_2 (i := 179) (by decide +kernel) (by decide +kernel)
theorem wm_X8_115 : Cond.methodLink RX8 115 yX0_isLoad ∈ jTW := jt_2 (i := 187) (by decide +kernel) (by decide +kernel)
theorem wm_X8_119 : Cond.methodLink RX8 119 yX8_isV ∈ jTW := jt_2 (i := 191) (by decide +kernel) (by decide +kernel)
theorem wm_X8_126 : Cond.methodLink RX8 126 yX0_takeLoad ∈ jTW := jt_2 (i := 196) (by decide +kernel) (by decide +kernel)
theorem wm_X8_129 : Cond.methodLink RX8 129 yX0_whyNotAxle ∈ jTW := jt_2 (i := 205) (by decide +kernel) (by decide +kernel)
theorem wm_X8_132 : Cond.methodLink RX8 132 yX0_putAxle ∈ jTW := jt_2 (i := 209) (by decide +kernel) (by decide +kernel)
theorem wm_X8_147 : Cond.methodLink RX8 147 yX0_isSupport ∈ jTW := jt_2 (i := 225) (by decide +kernel) (by decide +kernel)
theorem wm_X8_167 : Cond.methodLink RX8 167 yX0_together ∈ jTW := jt_2 (i := 230) (by decide +kernel) (by decide +kernel)
theorem wm_X8_171 : Cond.methodLink RX8 171 yX0_stands ∈ jTW := jt_2 (i := 238) (by decide +kernel) (by decide +kernel)
theorem wm_X8_175 : Cond.methodLink RX8 175 yX8_isPart ∈ jTW := jt_3 (i := 2) (by decide +kernel) (by decide +kernel)
theorem wm_X8_180 : Cond.methodLink RX8 180 yX8_solveAsItIs ∈ jTW := jt_3 (i := 6) (by decide +kernel) (by decide +kernel)
theorem wm_X8_191 : Cond.methodLink RX8 191 yX8_inLowest ∈ jTW := jt_3 (i := 93) (by decide +kernel) (by decide +kernel)
theorem wm_X8_195 : Cond.methodLink RX8 195 yX0_isPlace ∈ jTW := jt_3 (i := 120) (by decide +kernel) (by decide +kernel)
theorem wm_X8_201 : Cond.methodLink RX8 201 yX7_bendBetween ∈ jTW := jt_3 (i := 125) (by decide +kernel) (by decide +kernel)
theorem wm_X8_205 : Cond.methodLink RX8 205 yX2_told ∈ jTW := jt_3 (i := 112) (by decide +kernel) (by decide +kernel)
theorem wm_X8_209 : Cond.methodLink RX8 209 yX7_findSags ∈ jTW := jt_3 (i := 137) (by decide +kernel) (by decide +kernel)
theorem wm_X8_218 : Cond.methodLink RX8 218 yX7_findPeaks ∈ jTW := jt_3 (i := 167) (by decide +kernel) (by decide +kernel)
theorem wm_X8_236 : Cond.methodLink RX8 236 yX7_placeOfMostSag ∈ jTW := jt_3 (i := 201) (by decide +kernel) (by decide +kernel)
theorem wm_X8_239 : Cond.methodLink RX8 239 yX7_tellSpan ∈ jTW := jt_3 (i := 209) (by decide +kernel) (by decide +kernel)
theorem wm_X8_246 : Cond.methodLink RX8 246 yX8_timesWithin ∈ jTW := jt_3 (i := 216) (by decide +kernel) (by decide +kernel)
theorem wm_X8_249 : Cond.methodLink RX8 249 yX8_canRoll ∈ jTW := jt_3 (i := 225) (by decide +kernel) (by decide +kernel)
theorem wm_X8_255 : Cond.methodLink RX8 255 yX8_mostByRolling ∈ jTW := jt_3 (i := 229) (by decide +kernel) (by decide +kernel)
theorem wm_X8_259 : Cond.methodLink RX8 259 yX8_solveUnit ∈ jTW := jt_4 (i := 7) (by decide +kernel) (by decide +kernel)
theorem wm_X8_262 : Cond.methodLink RX8 262 yX7_frame ∈ jTW := jt_3 (i := 10) (by decide +kernel) (by decide +kernel)
theorem wm_X8_266 : Cond.methodLink RX8 266 yX7_bearLoads ∈ jTW := jt_3 (i := 18) (by decide +kernel) (by decide +kernel)
theorem wm_X8_269 : Cond.methodLink RX8 269 yX7_solve ∈ jTW := jt_3 (i := 26) (by decide +kernel) (by decide +kernel)
theorem wm_X8_272 : Cond.methodLink RX8 272 yX2_against ∈ jTW := jt_3 (i := 220) (by decide +kernel) (by decide +kernel)
theorem wm_X8_276 : Cond.methodLink RX8 276 yX2_copy ∈ jTW := jt_3 (i := 238) (by decide +kernel) (by decide +kernel)
theorem wm_X8_280 : Cond.methodLink RX8 280 yX5_take ∈ jTW := jt_4 (i := 27) (by decide +kernel) (by decide +kernel)
theorem wm_X8_283 : Cond.methodLink RX8 283 yX5_readOnto ∈ jTW := jt_4 (i := 35) (by decide +kernel) (by decide +kernel)
theorem wm_X8_290 : Cond.methodLink RX8 290 yX0_become ∈ jTW := jt_4 (i := 150) (by decide +kernel) (by decide +kernel)
theorem wm_X8_293 : Cond.methodLink RX8 293 yX8_printPiece ∈ jTW := jt_4 (i := 155) (by decide +kernel) (by decide +kernel)
theorem wm_X8_300 : Cond.methodLink RX8 300 yX8_isList ∈ jTW := jt_4 (i := 190) (by decide +kernel) (by decide +kernel)
theorem wm_X8_303 : Cond.methodLink RX8 303 yX6_begin ∈ jTW := jt_4 (i := 193) (by decide +kernel) (by decide +kernel)
theorem wm_X8_307 : Cond.methodLink RX8 307 yX6_isThere ∈ jTW := jt_4 (i := 202) (by decide +kernel) (by decide +kernel)
theorem wm_X8_310 : Cond.methodLink RX8 310 yX6_has ∈ jTW := jt_4 (i := 206) (by decide +kernel) (by decide +kernel)
theorem wm_X8_314 : Cond.methodLink RX8 314 yX6_put ∈ jTW := jt_4 (i := 210) (by decide +kernel) (by decide +kernel)
theorem wm_X8_318 : Cond.methodLink RX8 318 yX6_at ∈ jTW := jt_4 (i := 219) (by decide +kernel) (by decide +kernel)
theorem wm_X8_322 : Cond.methodLink RX8 322 yX8_numbersInAll ∈ jTW := jt_4 (i := 228) (by decide +kernel) (by decide +kernel)
theorem wm_X8_325 : Cond.methodLink RX8 325 yX8_numberOfMoments ∈ jTW := jt_4 (i := 232) (by decide +kernel) (by decide +kernel)
theorem wm_X8_328 : Cond.methodLink RX8 328 yX1_layBack ∈ jTW := jt_5 (i := 4) (by decide +kernel) (by decide +kernel)
theorem wm_X8_335 : Cond.methodLink RX8 335 Lib.MathLoose.abs_long.x ∈ jTW := jt_3 (i := 104) (by decide +kernel) (by decide +kernel)
theorem wm_X8_341 : Cond.methodLink RX8 341 yX2_become ∈ jTW := jt_3 (i := 97) (by decide +kernel) (by decide +kernel)
theorem wm_X8_344 : Cond.methodLink RX8 344 yX7_bearPoint ∈ jTW := jt_3 (i := 237) (by decide +kernel) (by decide +kernel)
theorem wm_X8_353 : Cond.methodLink RX8 353 yX8_solveRolling ∈ jTW := jt_3 (i := 233) (by decide +kernel) (by decide +kernel)
theorem wm_X8_356 : Cond.methodLink RX8 356 yX3_putNumber ∈ jTW := jt_4 (i := 159) (by decide +kernel) (by decide +kernel)
theorem wm_X8_360 : Cond.methodLink RX8 360 yX3_put ∈ jTW := jt_4 (i := 170) (by decide +kernel) (by decide +kernel)
theorem wm_X8_362 : Cond.methodLink RX8 362 yX3_putFraction ∈ jTW := jt_4 (i := 171) (by decide +kernel) (by decide +kernel)
theorem wm_X8_365 : Cond.methodLink RX8 365 yX3_putTerm ∈ jTW := jt_4 (i := 176) (by decide +kernel) (by decide +kernel)
theorem wm_X8_66 : Cond.methodLink RX8 66 yX0_whyNotLength ∈ jTW := jt_2 (i := 89) (by decide +kernel) (by decide +kernel)
theorem wm_X8_74 : Cond.methodLink RX8 74 yX0_clear ∈ jTW := jt_2 (i := 93) (by decide +kernel) (by decide +kernel)
theorem wm_X8_78 : Cond.methodLink RX8 78 yX1_forget ∈ jTW := jt_2 (i := 97) (by decide +kernel) (by decide +kernel)
theorem wm_X8_81 : Cond.methodLink RX8 81 yX0_whyNotSupport ∈ jTW := jt_2 (i := 105) (by decide +kernel) (by decide +kernel)
theorem wm_X8_84 : Cond.methodLink RX8 84 yX1_keep ∈ jTW := jt_2 (i := 117) (by decide +kernel) (by decide +kernel)
theorem wm_X8_88 : Cond.methodLink RX8 88 yX0_putSupport ∈ jTW := jt_2 (i := 131) (by decide +kernel) (by decide +kernel)
theorem wm_X8_91 : Cond.methodLink RX8 91 yX0_whyNotAtSupport ∈ jTW := jt_2 (i := 139) (by decide +kernel) (by decide +kernel)
theorem wm_X8_94 : Cond.methodLink RX8 94 yX0_numberAt ∈ jTW := jt_2 (i := 143) (by decide +kernel) (by decide +kernel)
theorem wm_X8_97 : Cond.methodLink RX8 97 yX0_takeSupport ∈ jTW := jt_2 (i := 144) (by decide +kernel) (by decide +kernel)
theorem wm_X9_104 : Cond.methodLink RX9 104 yX9_comes ∈ jTW := jt_5 (i := 171) (by decide +kernel) (by decide +kernel)
theorem wm_X9_108 : Cond.methodLink RX9 108 yX9_isLoad ∈ jTW := jt_5 (i := 183) (by decide +kernel) (by decide +kernel)
theorem wm_X9_113 : Cond.methodLink RX9 113 yX9_isSupport ∈ jTW := jt_5 (i := 208) (by decide +kernel) (by decide +kernel)
theorem wm_X9_122 : Cond.methodLink RX9 122 yX9_allLoads ∈ jTW := jt_5 (i := 216) (by decide +kernel) (by decide +kernel)
theorem wm_X9_126 : Cond.methodLink RX9 126 yX9_divisor ∈ jTW := jt_6 (i := 12) (by decide +kernel) (by decide +kernel)
theorem wm_X9_133 : Cond.methodLink RX9 133 yX9_is ∈ jTW := jt_6 (i := 8) (by decide +kernel) (by decide +kernel)
theorem wm_X9_137 : Cond.methodLink RX9 137 yX9_more ∈ jTW := jt_6 (i := 1) (by decide +kernel) (by decide +kernel)
theorem wm_X9_141 : Cond.methodLink RX9 141 yX9_less ∈ jTW := jt_6 (i := 31) (by decide +kernel) (by decide +kernel)
theorem wm_X9_144 : Cond.methodLink RX9 144 yX9_isSpread ∈ jTW := jt_6 (i := 4) (by decide +kernel) (by decide +kernel)
theorem wm_X9_147 : Cond.methodLink RX9 147 yX9_whole ∈ jTW := jt_6 (i := 34) (by decide +kernel) (by decide +kernel)
theorem wm_X9_152 : Cond.methodLink RX9 152 yX9_spanOf ∈ jTW := jt_6 (i := 23) (by decide +kernel) (by decide +kernel)
theorem wm_X9_155 : Cond.methodLink RX9 155 yX9_sums ∈ jTW := jt_6 (i := 27) (by decide +kernel) (by decide +kernel)
theorem wm_X9_159 : Cond.methodLink RX9 159 yX9_plus ∈ jTW := jt_6 (i := 38) (by decide +kernel) (by decide +kernel)
theorem wm_X9_162 : Cond.methodLink RX9 162 yX9_isLoose ∈ jTW := jt_6 (i := 42) (by decide +kernel) (by decide +kernel)
theorem wm_X9_165 : Cond.methodLink RX9 165 yX9_keeps ∈ jTW := jt_6 (i := 15) (by decide +kernel) (by decide +kernel)
theorem wm_X9_169 : Cond.methodLink RX9 169 yX9_beyond ∈ jTW := jt_5 (i := 237) (by decide +kernel) (by decide +kernel)
theorem wm_X9_173 : Cond.methodLink RX9 173 yX9_gives ∈ jTW := jt_6 (i := 19) (by decide +kernel) (by decide +kernel)
theorem wm_X9_176 : Cond.methodLink RX9 176 yX9_alone ∈ jTW := jt_6 (i := 46) (by decide +kernel) (by decide +kernel)
theorem wm_X9_179 : Cond.methodLink RX9 179 yX9_moments ∈ jTW := jt_5 (i := 233) (by decide +kernel) (by decide +kernel)
theorem wm_X9_185 : Cond.methodLink RX9 185 yX9_pointsAt ∈ jTW := jt_6 (i := 50) (by decide +kernel) (by decide +kernel)
theorem wm_X9_189 : Cond.methodLink RX9 189 yX9_beside ∈ jTW := jt_6 (i := 54) (by decide +kernel) (by decide +kernel)
theorem wm_X9_192 : Cond.methodLink RX9 192 yX9_bears ∈ jTW := jt_6 (i := 58) (by decide +kernel) (by decide +kernel)
theorem wm_X9_196 : Cond.methodLink RX9 196 yX9_stands ∈ jTW := jt_5 (i := 224) (by decide +kernel) (by decide +kernel)
theorem wm_X9_202 : Cond.methodLink RX9 202 yX9_reactions ∈ jTW := jt_5 (i := 229) (by decide +kernel) (by decide +kernel)
theorem wm_X9_205 : Cond.methodLink RX9 205 yX9_shearBehind ∈ jTW := jt_6 (i := 66) (by decide +kernel) (by decide +kernel)
theorem wm_X9_210 : Cond.methodLink RX9 210 yX9_momentAt ∈ jTW := jt_6 (i := 75) (by decide +kernel) (by decide +kernel)
theorem wm_X9_213 : Cond.methodLink RX9 213 yX9_spreadOn ∈ jTW := jt_6 (i := 87) (by decide +kernel) (by decide +kernel)
theorem wm_X9_220 : Cond.methodLink RX9 220 yX9_sagAt ∈ jTW := jt_6 (i := 83) (by decide +kernel) (by decide +kernel)
theorem wm_X9_225 : Cond.methodLink RX9 225 yX9_wideAt ∈ jTW := jt_6 (i := 94) (by decide +kernel) (by decide +kernel)
theorem wm_X9_228 : Cond.methodLink RX9 228 yX9_isLess ∈ jTW := jt_6 (i := 102) (by decide +kernel) (by decide +kernel)
theorem wm_X9_244 : Cond.methodLink RX9 244 yX9_tries ∈ jTW := jt_6 (i := 113) (by decide +kernel) (by decide +kernel)
theorem wm_X9_248 : Cond.methodLink RX9 248 yX9_looks ∈ jTW := jt_6 (i := 109) (by decide +kernel) (by decide +kernel)
theorem wm_X9_259 : Cond.methodLink RX9 259 yX9_span ∈ jTW := jt_6 (i := 122) (by decide +kernel) (by decide +kernel)
theorem wm_X9_262 : Cond.methodLink RX9 262 yX9_copies ∈ jTW := jt_6 (i := 138) (by decide +kernel) (by decide +kernel)
theorem wm_X9_266 : Cond.methodLink RX9 266 yX9_thinks ∈ jTW := jt_6 (i := 134) (by decide +kernel) (by decide +kernel)
theorem wm_X9_269 : Cond.methodLink RX9 269 yX9_alone_ ∈ jTW := jt_6 (i := 141) (by decide +kernel) (by decide +kernel)
theorem wm_X9_272 : Cond.methodLink RX9 272 yX9_asked ∈ jTW := jt_6 (i := 145) (by decide +kernel) (by decide +kernel)
theorem wm_X9_275 : Cond.methodLink RX9 275 yX9_laysBack ∈ jTW := jt_6 (i := 149) (by decide +kernel) (by decide +kernel)
theorem wm_X9_278 : Cond.methodLink RX9 278 yX9_most ∈ jTW := jt_6 (i := 130) (by decide +kernel) (by decide +kernel)
theorem wm_X9_282 : Cond.methodLink RX9 282 yX9_byUnit ∈ jTW := jt_6 (i := 161) (by decide +kernel) (by decide +kernel)
theorem wm_X9_295 : Cond.methodLink RX9 295 yX9_here ∈ jTW := jt_6 (i := 204) (by decide +kernel) (by decide +kernel)
theorem wm_X9_302 : Cond.methodLink RX9 302 yX9_beam ∈ jTW := jt_6 (i := 214) (by decide +kernel) (by decide +kernel)
theorem wm_X9_305 : Cond.methodLink RX9 305 yX9_support ∈ jTW := jt_6 (i := 215) (by decide +kernel) (by decide +kernel)
theorem wm_X9_308 : Cond.methodLink RX9 308 yX9_hinge ∈ jTW := jt_6 (i := 216) (by decide +kernel) (by decide +kernel)
theorem wm_X9_311 : Cond.methodLink RX9 311 yX9_point ∈ jTW := jt_6 (i := 217) (by decide +kernel) (by decide +kernel)
theorem wm_X9_314 : Cond.methodLink RX9 314 yX9_spread ∈ jTW := jt_6 (i := 218) (by decide +kernel) (by decide +kernel)
theorem wm_X9_317 : Cond.methodLink RX9 317 yX9_axle ∈ jTW := jt_6 (i := 219) (by decide +kernel) (by decide +kernel)
theorem wm_X9_320 : Cond.methodLink RX9 320 yX9_word ∈ jTW := jt_6 (i := 194) (by decide +kernel) (by decide +kernel)
theorem wm_X9_323 : Cond.methodLink RX9 323 yX9_takes ∈ jTW := jt_6 (i := 200) (by decide +kernel) (by decide +kernel)
theorem wm_X9_330 : Cond.methodLink RX9 330 yX9_does ∈ jTW := jt_6 (i := 210) (by decide +kernel) (by decide +kernel)
theorem wm_X9_333 : Cond.methodLink RX9 333 yX9_takesOne ∈ jTW := jt_6 (i := 190) (by decide +kernel) (by decide +kernel)
theorem wm_X9_336 : Cond.methodLink RX9 336 yX9_takesAll ∈ jTW := jt_6 (i := 186) (by decide +kernel) (by decide +kernel)
theorem wm_X9_339 : Cond.methodLink RX9 339 yX9_sign ∈ jTW := jt_6 (i := 228) (by decide +kernel) (by decide +kernel)
theorem wm_X9_342 : Cond.methodLink RX9 342 yX9_number ∈ jTW := jt_6 (i := 224) (by decide +kernel) (by decide +kernel)
theorem wm_X9_346 : Cond.methodLink RX9 346 yX9_fraction ∈ jTW := jt_6 (i := 232) (by decide +kernel) (by decide +kernel)
theorem wm_X9_350 : Cond.methodLink RX9 350 yX9_isList ∈ jTW := jt_7 (i := 4) (by decide +kernel) (by decide +kernel)
theorem wm_X9_82 : Cond.methodLink RX9 82 yX9_in ∈ jTW := jt_5 (i := 138) (by decide +kernel) (by decide +kernel)
theorem wm_X9_90 : Cond.methodLink RX9 90 yX9_isPlace ∈ jTW := jt_5 (i := 145) (by decide +kernel) (by decide +kernel)
theorem wm_X9_94 : Cond.methodLink RX9 94 yX9_supportAt ∈ jTW := jt_5 (i := 149) (by decide +kernel) (by decide +kernel)
theorem wm_X9_98 : Cond.methodLink RX9 98 yX9_changes ∈ jTW := jt_5 (i := 153) (by decide +kernel) (by decide +kernel)
theorem w_copy1 : Cond.native arraycopyName ∈ jTW := jt_2 (i := 127) (by decide +kernel) (by decide +kernel)
theorem w_copy2 : Cond.static arraycopyName ∈ jTW := jt_2 (i := 126) (by decide +kernel) (by decide +kernel)
theorem w_copy3 : Cond.initialized "java/lang/System" ∈ jTW := jt_1 (i := 12) (by decide +kernel) (by decide +kernel)
theorem w_math : Cond.initialized "java/lang/Math" ∈ jTW := jt_1 (i := 13) (by decide +kernel) (by decide +kernel)
theorem w_imax1 : Cond.static Lib.Math.max.name ∈ jTW := jt_5 (i := 9) (by decide +kernel) (by decide +kernel)
theorem w_imax2 : Cond.code Lib.Math.max.name Lib.Math.max.code 2 (some .int) ∈ jTW := jt_5 (i := 10) (by decide +kernel) (by decide +kernel)
theorem w_imin1 : Cond.static Lib.Math.min.name ∈ jTW := jt_2 (i := 129) (by decide +kernel) (by decide +kernel)
theorem w_imin2 : Cond.code Lib.Math.min.name Lib.Math.min.code 2 (some .int) ∈ jTW := jt_2 (i := 130) (by decide +kernel) (by decide +kernel)
theorem w_lmax1 : Cond.static Lib.MathLoose.max_long.x ∈ jTW := jt_3 (i := 110) (by decide +kernel) (by decide +kernel)
theorem w_lmax2 : Cond.code Lib.MathLoose.max_long.x Lib.MathLoose.max_long.code 4 (some .long) ∈ jTW := jt_3 (i := 111) (by decide +kernel) (by decide +kernel)
theorem w_lmin1 : Cond.static Lib.MathLoose.min_long.x ∈ jTW := jt_3 (i := 130) (by decide +kernel) (by decide +kernel)
theorem w_lmin2 : Cond.code Lib.MathLoose.min_long.x Lib.MathLoose.min_long.code 4 (some .long) ∈ jTW := jt_3 (i := 131) (by decide +kernel) (by decide +kernel)
theorem w_labs1 : Cond.static Lib.MathLoose.abs_long.x ∈ jTW := jt_3 (i := 105) (by decide +kernel) (by decide +kernel)
theorem w_labs2 : Cond.code Lib.MathLoose.abs_long.x Lib.MathLoose.abs_long.code 2 (some .long) ∈ jTW := jt_3 (i := 106) (by decide +kernel) (by decide +kernel)
theorem sg_X0_whyNotLength : jSg yX0_whyNotLength cX0_whyNotLength 2 (some .int) 1 := ⟨jt_2 (i := 92) rfl rfl, jt_1 (i := 2) (by decide +kernel) (by decide +kernel), by decide +kernel, by decide +kernel, by decide +kernel⟩
theorem sv_X0_whyNotLength : jSgV yX0_whyNotLength := ⟨jt_2 (i := 90) (by decide +kernel) (by decide +kernel), jt_2 (i := 91) (by decide +kernel) (by decide +kernel)⟩
theorem sg_X0_clear : jSg yX0_clear cX0_clear 2 none 1 := ⟨jt_2 (i := 96) rfl rfl, jt_1 (i := 2) (by decide +kernel) (by decide +kernel), by decide +kernel, by decide +kernel, by decide +kernel⟩
theorem sv_X0_clear : jSgV yX0_clear := ⟨jt_2 (i := 94) (by decide +kernel) (by decide +kernel), jt_2 (i := 95) (by decide +kernel) (by decide +kernel)⟩
theorem sg_X1_forget : jSg yX1_forget cX1_forget 1 none 0 := ⟨jt_2 (i := 100) rfl rfl, jt_1 (i := 3) (by decide +kernel) (by decide +kernel), by decide +kernel, by decide +kernel, by decide +kernel⟩
theorem sv_X1_forget : jSgV yX1_forget := ⟨jt_2 (i := 98) (by decide +kernel) (by decide +kernel), jt_2 (i := 99) (by decide +kernel) (by decide +kernel)⟩
theorem sg_X8_beam : jSg yX8_beam cX8_beam 3 (some .int) 1 := ⟨jt_2 (i := 88) rfl rfl, jt_1 (i := 1) (by decide +kernel) (by decide +kernel), by decide +kernel, by decide +kernel, by decide +kernel⟩
theorem sv_X8_beam : jSgV yX8_beam := ⟨jt_2 (i := 86) (by decide +kernel) (by decide +kernel), jt_2 (i := 87) (by decide +kernel) (by decide +kernel)⟩
theorem sg_X0_isPlace : jSg yX0_isPlace cX0_isPlace 2 (some .boolean) 1 := ⟨jt_2 (i := 112) rfl rfl, jt_1 (i := 2) (by decide +kernel) (by decide +kernel), by decide +kernel, by decide +kernel, by decide +kernel⟩
theorem sv_X0_isPlace : jSgV yX0_isPlace := ⟨jt_2 (i := 110) (by decide +kernel) (by decide +kernel), jt_2 (i := 111) (by decide +kernel) (by decide +kernel)⟩
theorem sg_X0_numberAt : jSg yX0_numberAt cX0_numberAt 3 (some .int) 1 := ⟨jt_2 (i := 116) rfl rfl, jt_1 (i := 2) (by decide +kernel) (by decide +kernel), by decide +kernel, by decide +kernel, by decide +kernel⟩
theorem sv_X0_numberAt : jSgV yX0_numberAt := ⟨jt_2 (i := 114) (by decide +kernel) (by decide +kernel), jt_2 (i := 115) (by decide +kernel) (by decide +kernel)⟩
theorem sg_X0_whyNotSupport : jSg yX0_whyNotSupport cX0_whyNotSupport 2 (some .int) 1 := ⟨jt_2 (i := 108) rfl rfl, jt_1 (i := 2) (by decide +kernel) (by decide +kernel), by decide +kernel, by decide +kernel, by decide +kernel⟩
theorem sv_X0_whyNotSupport : jSgV yX0_whyNotSupport := ⟨jt_2 (i := 106) (by decide +kernel) (by decide +kernel), jt_2 (i := 107) (by decide +kernel) (by decide +kernel)⟩
theorem sg_X0_become : jSg yX0_become cX0_become 2 none 1 := ⟨jt_2 (i := 124) rfl rfl, jt_1 (i := 2) (by decide +kernel) (by decide +kernel), by decide +kernel, by decide +kernel, by decide +kernel⟩
theorem sv_X0_become : jSgV yX0_become := ⟨jt_2 (i := 122) (by decide +kernel) (by decide +kernel), jt_2 (i := 123) (by decide +kernel) (by decide +kernel)⟩
theorem sg_X1_keep : jSg yX1_keep cX1_keep 3 none 1 := ⟨jt_2 (i := 120) rfl rfl, jt_1 (i := 3) (by decide +kernel) (by decide +kernel), by decide +kernel, by decide +kernel, by decide +kernel⟩
theorem sv_X1_keep : jSgV yX1_keep := ⟨jt_2 (i := 118) (by decide +kernel) (by decide +kernel), jt_2 (i := 119) (by decide +kernel) (by decide +kernel)⟩
theorem sg_X0_putSupport : jSg yX0_putSupport cX0_putSupport 3 (some .int) 1 := ⟨jt_2 (i := 134) rfl rfl, jt_1 (i := 2) (by decide +kernel) (by decide +kernel), by decide +kernel, by decide +kernel, by decide +kernel⟩
theorem sv_X0_putSupport : jSgV yX0_putSupport := ⟨jt_2 (i := 132) (by decide +kernel) (by decide +kernel), jt_2 (i := 133) (by decide +kernel) (by decide +kernel)⟩
theorem sg_X8_support : jSg yX8_support cX8_support 3 (some .int) 1 := ⟨jt_2 (i := 104) rfl rfl, jt_1 (i := 1) (by decide +kernel) (by decide +kernel), by decide +kernel, by decide +kernel, by decide +kernel⟩
theorem sv_X8_support : jSgV yX8_support := ⟨jt_2 (i := 102) (by decide +kernel) (by decide +kernel), jt_2 (i := 103) (by decide +kernel) (by decide +kernel)⟩
theorem sg_X0_whyNotAtSupport : jSg yX0_whyNotAtSupport cX0_whyNotAtSupport 2 (some .int) 1 := ⟨jt_2 (i := 142) rfl rfl, jt_1 (i := 2) (by decide +kernel) (by decide +kernel), by decide +kernel, by decide +kernel, by decide +kernel⟩
theorem sv_X0_whyNotAtSupport : jSgV yX0_whyNotAtSupport := ⟨jt_2 (i := 140) (by decide +kernel) (by decide +kernel), jt_2 (i := 141) (by decide +kernel) (by decide +kernel)⟩
theorem sg_X0_isSupport : jSg yX0_isSupport cX0_isSupport 2 (some .boolean) 1 := ⟨jt_2 (i := 151) rfl rfl, jt_1 (i := 2) (by decide +kernel) (by decide +kernel), by decide +kernel, by decide +kernel, by decide +kernel⟩
theorem sv_X0_isSupport : jSgV yX0_isSupport := ⟨jt_2 (i := 149) (by decide +kernel) (by decide +kernel), jt_2 (i := 150) (by decide +kernel) (by decide +kernel)⟩
theorem sg_X0_takeSupport : jSg yX0_takeSupport cX0_takeSupport 3 (some .int) 1 := ⟨jt_2 (i := 147) rfl rfl, jt_1 (i := 2) (by decide +kernel) (by decide +kernel), by decide +kernel, by decide +kernel, by decide +kernel⟩
theorem sv_X0_takeSupport : jSgV yX0_takeSupport := ⟨jt_2 (i := 145) (by decide +kernel) (by decide +kernel), jt_2 (i := 146) (by decide +kernel) (by decide +kernel)⟩
theorem sg_X8_drop : jSg yX8_drop cX8_drop 3 (some .int) 1 := ⟨jt_2 (i := 138) rfl rfl, jt_1 (i := 1) (by decide +kernel) (by decide +kernel), by decide +kernel, by decide +kernel, by decide +kernel⟩
theorem sv_X8_drop : jSgV yX8_drop := ⟨jt_2 (i := 136) (by decide +kernel) (by decide +kernel), jt_2 (i := 137) (by decide +kernel) (by decide +kernel)⟩
theorem sg_X0_putHinge : jSg yX0_putHinge cX0_putHinge 4 (some .int) 2 := ⟨jt_2 (i := 159) rfl rfl, jt_1 (i := 2) (by decide +kernel) (by decide +kernel), by decide +kernel, by decide +kernel, by decide +kernel⟩
theorem sv_X0_putHinge : jSgV yX0_putHinge := ⟨jt_2 (i := 157) (by decide +kernel) (by decide +kernel), jt_2 (i := 158) (by decide +kernel) (by decide +kernel)⟩
theorem sg_X8_hinge : jSg yX8_hinge cX8_hinge 4 (some .int) 2 := ⟨jt_2 (i := 155) rfl rfl, jt_1 (i := 1) (by decide +kernel) (by decide +kernel), by decide +kernel, by decide +kernel, by decide +kernel⟩
theorem sv_X8_hinge : jSgV yX8_hinge := ⟨jt_2 (i := 153) (by decide +kernel) (by decide +kernel), jt_2 (i := 154) (by decide +kernel) (by decide +kernel)⟩
theorem sg_X8_isV : jSg yX8_isV cX8_isV 1 (some .boolean) 1 := ⟨jt_2 (i := 170) rfl rfl, jt_1 (i := 1) (by decide +kernel) (by decide +kernel), by decide +kernel, by decide +kernel, by decide +kernel⟩
theorem ss_X8_isV : Cond.static yX8_isV ∈ jTW := jt_2 (i := 169) (by decide +kernel) (by decide +kernel)
theorem sg_X0_whyNotPoint : jSg yX0_whyNotPoint cX0_whyNotPoint 3 (some .int) 2 := ⟨jt_2 (i := 167) rfl rfl, jt_1 (i := 2) (by decide +kernel) (by decide +kernel), by decide +kernel, by decide +kernel, by decide +kernel⟩
theorem sv_X0_whyNotPoint : jSgV yX0_whyNotPoint := ⟨jt_2 (i := 165) (by decide +kernel) (by decide +kernel), jt_2 (i := 166) (by decide +kernel) (by decide +kernel)⟩
theorem sg_X0_putLoad : jSg yX0_putLoad cX0_putLoad 5 (some .int) 4 := ⟨jt_2 (i := 174) rfl rfl, jt_1 (i := 2) (by decide +kernel) (by decide +kernel), by decide +kernel, by decide +kernel, by decide +kernel⟩
theorem sv_X0_putLoad : jSgV yX0_putLoad := ⟨jt_2 (i := 172) (by decide +kernel) (by decide +kernel), jt_2 (i := 173) (by decide +kernel) (by decide +kernel)⟩
theorem sg_X8_point : jSg yX8_point cX8_point 4 (some .int) 2 := ⟨jt_2 (i := 163) rfl rfl, jt_1 (i := 1) (by decide +kernel) (by decide +kernel), by decide +kernel, by decide +kernel, by decide +kernel⟩
theorem sv_X8_point : jSgV yX8_point := ⟨jt_2 (i := 161) (by decide +kernel) (by decide +kernel), jt_2 (i := 162) (by decide +kernel) (by decide +kernel)⟩
theorem sg_X0_whyNotSpread : jSg yX0_whyNotSpread cX0_whyNotSpread 4 (some .int) 3 := ⟨jt_2 (i := 182) rfl rfl, jt_1 (i := 2) (by decide +kernel) (by decide +kernel), by decide +kernel, by decide +kernel, by decide +kernel⟩
theorem sv_X0_whyNotSpread : jSgV yX0_whyNotSpread := ⟨jt_2 (i := 180) (by decide +kernel) (by decide +kernel), jt_2 (i := 181) (by decide +kernel) (by decide +kernel)⟩
theorem sg_X8_spread : jSg yX8_spread cX8_spread 5 (some .int) 3 := ⟨jt_2 (i := 178) rfl rfl, jt_1 (i := 1) (by decide +kernel) (by decide +kernel), by decide +kernel, by decide +kernel, by decide +kernel⟩
theorem sv_X8_spread : jSgV yX8_spread := ⟨jt_2 (i := 176) (by decide +kernel) (by decide +kernel), jt_2 (i := 177) (by decide +kernel) (by decide +kernel)⟩
theorem sg_X0_isLoad : jSg yX0_isLoad cX0_isLoad 2 (some .boolean) 1 := ⟨jt_2 (i := 190) rfl rfl, jt_1 (i := 2) (by decide +kernel) (by decide +kernel), by decide +kernel, by decide +kernel, by decide +kernel⟩
theorem sv_X0_isLoad : jSgV yX0_isLoad := ⟨jt_2 (i := 188) (by decide +kernel) (by decide +kernel), jt_2 (i := 189) (by decide +kernel) (by decide +kernel)⟩
theorem sg_X8_heavier : jSg yX8_heavier cX8_heavier 4 (some .int) 2 := ⟨jt_2 (i := 186) rfl rfl, jt_1 (i := 1) (by decide +kernel) (by decide +kernel), by decide +kernel, by decide +kernel, by decide +kernel⟩
theorem sv_X8_heavier : jSgV yX8_heavier := ⟨jt_2 (i := 184) (by decide +kernel) (by decide +kernel), jt_2 (i := 185) (by decide +kernel) (by decide +kernel)⟩
theorem sg_X0_takeLoad : jSg yX0_takeLoad cX0_takeLoad 3 (some .int) 1 := ⟨jt_2 (i := 199) rfl rfl, jt_1 (i := 2) (by decide +kernel) (by decide +kernel), by decide +kernel, by decide +kernel, by decide +kernel⟩
theorem sv_X0_takeLoad : jSgV yX0_takeLoad := ⟨jt_2 (i := 197) (by decide +kernel) (by decide +kernel), jt_2 (i := 198) (by decide +kernel) (by decide +kernel)⟩
theorem sg_X8_lift : jSg yX8_lift cX8_lift 2 (some .int) 1 := ⟨jt_2 (i := 195) rfl rfl, jt_1 (i := 1) (by decide +kernel) (by decide +kernel), by decide +kernel, by decide +kernel, by decide +kernel⟩
theorem sv_X8_lift : jSgV yX8_lift := ⟨jt_2 (i := 193) (by decide +kernel) (by decide +kernel), jt_2 (i := 194) (by decide +kernel) (by decide +kernel)⟩
theorem sg_X0_whyNotAxle : jSg yX0_whyNotAxle cX0_whyNotAxle 3 (some .int) 2 := ⟨jt_2 (i := 208) rfl rfl, jt_1 (i := 2) (by decide +kernel) (by decide +kernel), by decide +kernel, by decide +kernel, by decide +kernel⟩
theorem sv_X0_whyNotAxle : jSgV yX0_whyNotAxle := ⟨jt_2 (i := 206) (by decide +kernel) (by decide +kernel), jt_2 (i := 207) (by decide +kernel) (by decide +kernel)⟩
theorem sg_X0_putAxle : jSg yX0_putAxle cX0_putAxle 3 (some .int) 2 := ⟨jt_2 (i := 212) rfl rfl, jt_1 (i := 2) (by decide +kernel) (by decide +kernel), by decide +kernel, by decide +kernel, by decide +kernel⟩
theorem sv_X0_putAxle : jSgV yX0_putAxle := ⟨jt_2 (i := 210) (by decide +kernel) (by decide +kernel), jt_2 (i := 211) (by decide +kernel) (by decide +kernel)⟩
theorem sg_X8_axle : jSg yX8_axle cX8_axle 4 (some .int) 2 := ⟨jt_2 (i := 204) rfl rfl, jt_1 (i := 1) (by decide +kernel) (by decide +kernel), by decide +kernel, by decide +kernel, by decide +kernel⟩
theorem sv_X8_axle : jSgV yX8_axle := ⟨jt_2 (i := 202) (by decide +kernel) (by decide +kernel), jt_2 (i := 203) (by decide +kernel) (by decide +kernel)⟩
theorem sg_X8_unhitch : jSg yX8_unhitch cX8_unhitch 2 (some .int) 0 := ⟨jt_2 (i := 216) rfl rfl, jt_1 (i := 1) (by decide +kernel) (by decide +kernel), by decide +kernel, by decide +kernel, by decide +kernel⟩
theorem sv_X8_unhitch : jSgV yX8_unhitch := ⟨jt_2 (i := 214) (by decide +kernel) (by decide +kernel), jt_2 (i := 215) (by decide +kernel) (by decide +kernel)⟩
theorem sg_X8_loadOf : jSg yX8_loadOf cX8_loadOf 3 (some .int) 2 := ⟨jt_2 (i := 220) rfl rfl, jt_1 (i := 1) (by decide +kernel) (by decide +kernel), by decide +kernel, by decide +kernel, by decide +kernel⟩
theorem sv_X8_loadOf : jSgV yX8_loadOf := ⟨jt_2 (i := 218) (by decide +kernel) (by decide +kernel), jt_2 (i := 219) (by decide +kernel) (by decide +kernel)⟩
theorem sg_X8_supportOf : jSg yX8_supportOf cX8_supportOf 3 (some .int) 2 := ⟨jt_2 (i := 224) rfl rfl, jt_1 (i := 1) (by decide +kernel) (by decide +kernel), by decide +kernel, by decide +kernel, by decide +kernel⟩
theorem sv_X8_supportOf : jSgV yX8_supportOf := ⟨jt_2 (i := 222) (by decide +kernel) (by decide +kernel), jt_2 (i := 223) (by decide +kernel) (by decide +kernel)⟩
theorem sg_X0_together : jSg yX0_together cX0_together 3 (some .int) 0 := ⟨jt_2 (i := 233) rfl rfl, jt_1 (i := 2) (by decide +kernel) (by decide +kernel), by decide +kernel, by decide +kernel, by decide +kernel⟩
theorem sv_X0_together : jSgV yX0_together := ⟨jt_2 (i := 231) (by decide +kernel) (by decide +kernel), jt_2 (i := 232) (by decide +kernel) (by decide +kernel)⟩
theorem sg_X8_count : jSg yX8_count cX8_count 2 (some .int) 1 := ⟨jt_2 (i := 229) rfl rfl, jt_1 (i := 1) (by decide +kernel) (by decide +kernel), by decide +kernel, by decide +kernel, by decide +kernel⟩
theorem sv_X8_count : jSgV yX8_count := ⟨jt_2 (i := 227) (by decide +kernel) (by decide +kernel), jt_2 (i := 228) (by decide +kernel) (by decide +kernel)⟩
theorem sg_X0_stands : jSg yX0_stands cX0_stands 1 (some .boolean) 0 := ⟨jt_3 (i := 1) rfl rfl, jt_1 (i := 2) (by decide +kernel) (by decide +kernel), by decide +kernel, by decide +kernel, by decide +kernel⟩
theorem sv_X0_stands : jSgV yX0_stands := ⟨jt_2 (i := 239) (by decide +kernel) (by decide +kernel), jt_3 (i := 0) (by decide +kernel) (by decide +kernel)⟩
theorem sg_X8_isPart : jSg yX8_isPart cX8_isPart 1 (some .boolean) 1 := ⟨jt_3 (i := 4) rfl rfl, jt_1 (i := 1) (by decide +kernel) (by decide +kernel), by decide +kernel, by decide +kernel, by decide +kernel⟩
theorem ss_X8_isPart : Cond.static yX8_isPart ∈ jTW := jt_3 (i := 3) (by decide +kernel) (by decide +kernel)
theorem sg_J7_fill_d0a16 : jSg yJ7_fill_d0a16 cJ7_fill_d0a16 5 none 2 := ⟨jt_3 (i := 17) rfl rfl, jt_1 (i := 10) (by decide +kernel) (by decide +kernel), by decide +kernel, by decide +kernel, by decide +kernel⟩
theorem ss_J7_fill_d0a16 : Cond.static yJ7_fill_d0a16 ∈ jTW := jt_3 (i := 16) (by decide +kernel) (by decide +kernel)
theorem sg_X7_frame : jSg yX7_frame cX7_frame 2 none 1 := ⟨jt_3 (i := 13) rfl rfl, jt_1 (i := 4) (by decide +kernel) (by decide +kernel), by decide +kernel, by decide +kernel, by decide +kernel⟩
theorem sv_X7_frame : jSgV yX7_frame := ⟨jt_3 (i := 11) (by decide +kernel) (by decide +kernel), jt_3 (i := 12) (by decide +kernel) (by decide +kernel)⟩
theorem sg_X7_bearPoint : jSg yX7_bearPoint cX7_bearPoint 3 none 2 := ⟨jt_3 (i := 25) rfl rfl, jt_1 (i := 4) (by decide +kernel) (by decide +kernel), by decide +kernel, by decide +kernel, by decide +kernel⟩
theorem sv_X7_bearPoint : jSgV yX7_bearPoint := ⟨jt_3 (i := 23) (by decide +kernel) (by decide +kernel), jt_3 (i := 24) (by decide +kernel) (by decide +kernel)⟩
theorem sg_X7_bearLoads : jSg yX7_bearLoads cX7_bearLoads 4 none 1 := ⟨jt_3 (i := 21) rfl rfl, jt_1 (i := 4) (by decide +kernel) (by decide +kernel), by decide +kernel, by decide +kernel, by decide +kernel⟩
theorem sv_X7_bearLoads : jSgV yX7_bearLoads := ⟨jt_3 (i := 19) (by decide +kernel) (by decide +kernel), jt_3 (i := 20) (by decide +kernel) (by decide +kernel)⟩
theorem sg_X7_span : jSg yX7_span cX7_span 2 (some .long) 1 := ⟨jt_3 (i := 37) rfl rfl, jt_1 (i := 4) (by decide +kernel) (by decide +kernel), by decide +kernel, by decide +kernel, by decide +kernel⟩
theorem sv_X7_span : jSgV yX7_span := ⟨jt_3 (i := 36) (by decide +kernel) (by decide +kernel), jt_p (i := 2) (by decide +kernel) (by decide +kernel)⟩
theorem sg_X7_twiceOverFirst : jSg yX7_twiceOverFirst cX7_twiceOverFirst 6 (some .long) 0 := ⟨jt_3 (i := 42) rfl rfl, jt_1 (i := 4) (by decide +kernel) (by decide +kernel), by decide +kernel, by decide +kernel, by decide +kernel⟩
theorem sv_X7_twiceOverFirst : jSgV yX7_twiceOverFirst := ⟨jt_3 (i := 41) (by decide +kernel) (by decide +kernel), jt_p (i := 3) (by decide +kernel) (by decide +kernel)⟩
theorem sg_X7_twiceOverLast : jSg yX7_twiceOverLast cX7_twiceOverLast 7 (some .long) 0 := ⟨jt_3 (i := 46) rfl rfl, jt_1 (i := 4) (by decide +kernel) (by decide +kernel), by decide +kernel, by decide +kernel, by decide +kernel⟩
theorem sv_X7_twiceOverLast : jSgV yX7_twiceOverLast := ⟨jt_3 (i := 45) (by decide +kernel) (by decide +kernel), jt_p (i := 4) (by decide +kernel) (by decide +kernel)⟩
theorem sg_X7_isInner : jSg yX7_isInner cX7_isInner 2 (some .boolean) 1 := ⟨jt_3 (i := 54) rfl rfl, jt_1 (i := 4) (by decide +kernel) (by decide +kernel), by decide +kernel, by decide +kernel, by decide +kernel⟩
theorem sv_X7_isInner : jSgV yX7_isInner := ⟨jt_3 (i := 53) (by decide +kernel) (by decide +kernel), jt_p (i := 6) (by decide +kernel) (by decide +kernel)⟩
theorem sg_X7_hasRow : jSg yX7_hasRow cX7_hasRow 2 (some .boolean) 1 := ⟨jt_3 (i := 50) rfl rfl, jt_1 (i := 4) (by decide +kernel) (by decide +kernel), by decide +kernel, by decide +kernel, by decide +kernel⟩
theorem sv_X7_hasRow : jSgV yX7_hasRow := ⟨jt_3 (i := 49) (by decide +kernel) (by decide +kernel), jt_p (i := 5) (by decide +kernel) (by decide +kernel)⟩
theorem sg_X7_leanOfSpread : jSg yX7_leanOfSpread cX7_leanOfSpread 4 (some .long) 2 := ⟨jt_3 (i := 65) rfl rfl, jt_1 (i := 4) (by decide +kernel) (by decide +kernel), by decide +kernel, by decide +kernel, by decide +kernel⟩
theorem ss_X7_leanOfSpread : Cond.static yX7_leanOfSpread ∈ jTW := jt_3 (i := 64) (by decide +kernel) (by decide +kernel)
theorem sg_X7_leanOfPoint : jSg yX7_leanOfPoint cX7_leanOfPoint 4 (some .long) 2 := ⟨jt_3 (i := 68) rfl rfl, jt_1 (i := 4) (by decide +kernel) (by decide +kernel), by decide +kernel, by decide +kernel, by decide +kernel⟩
theorem ss_X7_leanOfPoint : Cond.static yX7_leanOfPoint ∈ jTW := jt_3 (i := 67) (by decide +kernel) (by decide +kernel)
theorem sg_X7_leanToRight : jSg yX7_leanToRight cX7_leanToRight 8 (some .long) 1 := ⟨jt_3 (i := 62) rfl rfl, jt_1 (i := 4) (by decide +kernel) (by decide +kernel), by decide +kernel, by decide +kernel, by decide +kernel⟩
theorem sv_X7_leanToRight : jSgV yX7_leanToRight := ⟨jt_3 (i := 61) (by decide +kernel) (by decide +kernel), jt_p (i := 8) (by decide +kernel) (by decide +kernel)⟩
theorem sg_X8_divide : jSg yX8_divide cX8_divide 4 (some .long) 2 := ⟨jt_3 (i := 72) rfl rfl, jt_1 (i := 1) (by decide +kernel) (by decide +kernel), by decide +kernel, by decide +kernel, by decide +kernel⟩
theorem ss_X8_divide : Cond.static yX8_divide ∈ jTW := jt_3 (i := 71) (by decide +kernel) (by decide +kernel)
theorem sg_X7_leanToLeft : jSg yX7_leanToLeft cX7_leanToLeft 8 (some .long) 1 := ⟨jt_3 (i := 76) rfl rfl, jt_1 (i := 4) (by decide +kernel) (by decide +kernel), by decide +kernel, by decide +kernel, by decide +kernel⟩
theorem sv_X7_leanToLeft : jSgV yX7_leanToLeft := ⟨jt_3 (i := 75) (by decide +kernel) (by decide +kernel), jt_p (i := 9) (by decide +kernel) (by decide +kernel)⟩
theorem sg_X7_leans : jSg yX7_leans cX7_leans 2 (some .long) 1 := ⟨jt_3 (i := 58) rfl rfl, jt_1 (i := 4) (by decide +kernel) (by decide +kernel), by decide +kernel, by decide +kernel, by decide +kernel⟩
theorem sv_X7_leans : jSgV yX7_leans := ⟨jt_3 (i := 57) (by decide +kernel) (by decide +kernel), jt_p (i := 7) (by decide +kernel) (by decide +kernel)⟩
theorem sg_X7_solveOverSupports : jSg yX7_solveOverSupports cX7_solveOverSupports 18 none 0 := ⟨jt_3 (i := 33) rfl rfl, jt_1 (i := 4) (by decide +kernel) (by decide +kernel), by decide +kernel, by decide +kernel, by decide +kernel⟩
theorem sv_X7_solveOverSupports : jSgV yX7_solveOverSupports := ⟨jt_3 (i := 32) (by decide +kernel) (by decide +kernel), jt_p (i := 1) (by decide +kernel) (by decide +kernel)⟩
theorem sg_X7_loadsBehind : jSg yX7_loadsBehind cX7_loadsBehind 5 (some .long) 1 := ⟨jt_3 (i := 84) rfl rfl, jt_1 (i := 4) (by decide +kernel) (by decide +kernel), by decide +kernel, by decide +kernel, by decide +kernel⟩
theorem sv_X7_loadsBehind : jSgV yX7_loadsBehind := ⟨jt_3 (i := 83) (by decide +kernel) (by decide +kernel), jt_p (i := 11) (by decide +kernel) (by decide +kernel)⟩
theorem sg_X7_shearOfSpan : jSg yX7_shearOfSpan cX7_shearOfSpan 8 (some .long) 1 := ⟨jt_3 (i := 88) rfl rfl, jt_1 (i := 4) (by decide +kernel) (by decide +kernel), by decide +kernel, by decide +kernel, by decide +kernel⟩
theorem sv_X7_shearOfSpan : jSgV yX7_shearOfSpan := ⟨jt_3 (i := 87) (by decide +kernel) (by decide +kernel), jt_p (i := 12) (by decide +kernel) (by decide +kernel)⟩
theorem sg_X7_shearAlong : jSg yX7_shearAlong cX7_shearAlong 7 none 0 := ⟨jt_3 (i := 80) rfl rfl, jt_1 (i := 4) (by decide +kernel) (by decide +kernel), by decide +kernel, by decide +kernel, by decide +kernel⟩
theorem sv_X7_shearAlong : jSgV yX7_shearAlong := ⟨jt_3 (i := 79) (by decide +kernel) (by decide +kernel), jt_p (i := 10) (by decide +kernel) (by decide +kernel)⟩
theorem sg_X7_bendAlong : jSg yX7_bendAlong cX7_bendAlong 2 none 0 := ⟨jt_3 (i := 92) rfl rfl, jt_1 (i := 4) (by decide +kernel) (by decide +kernel), by decide +kernel, by decide +kernel, by decide +kernel⟩
theorem sv_X7_bendAlong : jSgV yX7_bendAlong := ⟨jt_3 (i := 91) (by decide +kernel) (by decide +kernel), jt_p (i := 13) (by decide +kernel) (by decide +kernel)⟩
theorem sg_X7_solve : jSg yX7_solve cX7_solve 1 none 0 := ⟨jt_3 (i := 29) rfl rfl, jt_1 (i := 4) (by decide +kernel) (by decide +kernel), by decide +kernel, by decide +kernel, by decide +kernel⟩
theorem sv_X7_solve : jSgV yX7_solve := ⟨jt_3 (i := 27) (by decide +kernel) (by decide +kernel), jt_3 (i := 28) (by decide +kernel) (by decide +kernel)⟩
theorem sg_X8_solveAsItIs : jSg yX8_solveAsItIs cX8_solveAsItIs 1 none 0 := ⟨jt_3 (i := 9) rfl rfl, jt_1 (i := 1) (by decide +kernel) (by decide +kernel), by decide +kernel, by decide +kernel, by decide +kernel⟩
theorem sv_X8_solveAsItIs : jSgV yX8_solveAsItIs := ⟨jt_3 (i := 8) (by decide +kernel) (by decide +kernel), jt_p (i := 0) (by decide +kernel) (by decide +kernel)⟩
theorem sg_X8_commonDivisor : jSg yX8_commonDivisor cX8_commonDivisor 11 (some .long) 2 := ⟨jt_3 (i := 103) rfl rfl, jt_1 (i := 1) (by decide +kernel) (by decide +kernel), by decide +kernel, by decide +kernel, by decide +kernel⟩
theorem ss_X8_commonDivisor : Cond.static yX8_commonDivisor ∈ jTW := jt_3 (i := 102) (by decide +kernel) (by decide +kernel)
theorem sg_X2_become : jSg yX2_become cX2_become 9 none 2 := ⟨jt_3 (i := 100) rfl rfl, jt_1 (i := 6) (by decide +kernel) (by decide +kernel), by decide +kernel, by decide +kernel, by decide +kernel⟩
theorem sv_X2_become : jSgV yX2_become := ⟨jt_3 (i := 98) (by decide +kernel) (by decide +kernel), jt_3 (i := 99) (by decide +kernel) (by decide +kernel)⟩
theorem sg_X2_told : jSg yX2_told cX2_told 2 (some .long) 1 := ⟨jt_3 (i := 115) rfl rfl, jt_1 (i := 6) (by decide +kernel) (by decide +kernel), by decide +kernel, by decide +kernel, by decide +kernel⟩
theorem sv_X2_told : jSgV yX2_told := ⟨jt_3 (i := 113) (by decide +kernel) (by decide +kernel), jt_3 (i := 114) (by decide +kernel) (by decide +kernel)⟩
theorem sg_X8_inLowest : jSg yX8_inLowest cX8_inLowest 6 (some .long) 3 := ⟨jt_3 (i := 96) rfl rfl, jt_1 (i := 1) (by decide +kernel) (by decide +kernel), by decide +kernel, by decide +kernel, by decide +kernel⟩
theorem sv_X8_inLowest : jSgV yX8_inLowest := ⟨jt_3 (i := 95) (by decide +kernel) (by decide +kernel), jt_p (i := 14) (by decide +kernel) (by decide +kernel)⟩
theorem sg_X8_reaction : jSg yX8_reaction cX8_reaction 3 (some .long) 2 := ⟨jt_2 (i := 237) rfl rfl, jt_1 (i := 1) (by decide +kernel) (by decide +kernel), by decide +kernel, by decide +kernel, by decide +kernel⟩
theorem sv_X8_reaction : jSgV yX8_reaction := ⟨jt_2 (i := 235) (by decide +kernel) (by decide +kernel), jt_2 (i := 236) (by decide +kernel) (by decide +kernel)⟩
theorem sg_X8_shear : jSg yX8_shear cX8_shear 3 (some .long) 2 := ⟨jt_3 (i := 119) rfl rfl, jt_1 (i := 1) (by decide +kernel) (by decide +kernel), by decide +kernel, by decide +kernel, by decide +kernel⟩
theorem sv_X8_shear : jSgV yX8_shear := ⟨jt_3 (i := 117) (by decide +kernel) (by decide +kernel), jt_3 (i := 118) (by decide +kernel) (by decide +kernel)⟩
theorem sg_X7_bendBetween : jSg yX7_bendBetween cX7_bendBetween 11 none 3 := ⟨jt_3 (i := 128) rfl rfl, jt_1 (i := 4) (by decide +kernel) (by decide +kernel), by decide +kernel, by decide +kernel, by decide +kernel⟩
theorem sv_X7_bendBetween : jSgV yX7_bendBetween := ⟨jt_3 (i := 126) (by decide +kernel) (by decide +kernel), jt_3 (i := 127) (by decide +kernel) (by decide +kernel)⟩
theorem sg_X8_moment : jSg yX8_moment cX8_moment 4 (some .long) 3 := ⟨jt_3 (i := 124) rfl rfl, jt_1 (i := 1) (by decide +kernel) (by decide +kernel), by decide +kernel, by decide +kernel, by decide +kernel⟩
theorem sv_X8_moment : jSgV yX8_moment := ⟨jt_3 (i := 122) (by decide +kernel) (by decide +kernel), jt_3 (i := 123) (by decide +kernel) (by decide +kernel)⟩
theorem sg_X7_rise : jSg yX7_rise cX7_rise 2 (some .long) 1 := ⟨jt_3 (i := 149) rfl rfl, jt_1 (i := 4) (by decide +kernel) (by decide +kernel), by decide +kernel, by decide +kernel, by decide +kernel⟩
theorem sv_X7_rise : jSgV yX7_rise := ⟨jt_3 (i := 148) (by decide +kernel) (by decide +kernel), jt_p (i := 16) (by decide +kernel) (by decide +kernel)⟩
theorem sg_X7_bending : jSg yX7_bending cX7_bending 2 (some .long) 1 := ⟨jt_3 (i := 154) rfl rfl, jt_1 (i := 4) (by decide +kernel) (by decide +kernel), by decide +kernel, by decide +kernel, by decide +kernel⟩
theorem sv_X7_bending : jSgV yX7_bending := ⟨jt_3 (i := 153) (by decide +kernel) (by decide +kernel), jt_p (i := 17) (by decide +kernel) (by decide +kernel)⟩
theorem sg_X7_sagOfSpan : jSg yX7_sagOfSpan cX7_sagOfSpan 7 (some .long) 1 := ⟨jt_3 (i := 145) rfl rfl, jt_1 (i := 4) (by decide +kernel) (by decide +kernel), by decide +kernel, by decide +kernel, by decide +kernel⟩
theorem sv_X7_sagOfSpan : jSgV yX7_sagOfSpan := ⟨jt_3 (i := 144) (by decide +kernel) (by decide +kernel), jt_p (i := 15) (by decide +kernel) (by decide +kernel)⟩
theorem sg_X7_sagAheadOfFirst : jSg yX7_sagAheadOfFirst cX7_sagAheadOfFirst 6 none 1 := ⟨jt_3 (i := 158) rfl rfl, jt_1 (i := 4) (by decide +kernel) (by decide +kernel), by decide +kernel, by decide +kernel, by decide +kernel⟩
theorem sv_X7_sagAheadOfFirst : jSgV yX7_sagAheadOfFirst := ⟨jt_3 (i := 157) (by decide +kernel) (by decide +kernel), jt_p (i := 18) (by decide +kernel) (by decide +kernel)⟩
theorem sg_X7_sagBehindLast : jSg yX7_sagBehindLast cX7_sagBehindLast 6 none 1 := ⟨jt_3 (i := 162) rfl rfl, jt_1 (i := 4) (by decide +kernel) (by decide +kernel), by decide +kernel, by decide +kernel, by decide +kernel⟩
theorem sv_X7_sagBehindLast : jSgV yX7_sagBehindLast := ⟨jt_3 (i := 161) (by decide +kernel) (by decide +kernel), jt_p (i := 19) (by decide +kernel) (by decide +kernel)⟩
theorem sg_X7_findSags : jSg yX7_findSags cX7_findSags 4 none 0 := ⟨jt_3 (i := 140) rfl rfl, jt_1 (i := 4) (by decide +kernel) (by decide +kernel), by decide +kernel, by decide +kernel, by decide +kernel⟩
theorem sv_X7_findSags : jSgV yX7_findSags := ⟨jt_3 (i := 138) (by decide +kernel) (by decide +kernel), jt_3 (i := 139) (by decide +kernel) (by decide +kernel)⟩
theorem sg_X8_sag : jSg yX8_sag cX8_sag 3 (some .long) 2 := ⟨jt_3 (i := 136) rfl rfl, jt_1 (i := 1) (by decide +kernel) (by decide +kernel), by decide +kernel, by decide +kernel, by decide +kernel⟩
theorem sv_X8_sag : jSgV yX8_sag := ⟨jt_3 (i := 134) (by decide +kernel) (by decide +kernel), jt_3 (i := 135) (by decide +kernel) (by decide +kernel)⟩
theorem sg_J13_compare_74951 : jSg yJ13_compare_74951 cJ13_compare_74951 4 (some .int) 2 := ⟨jt_3 (i := 188) rfl rfl, jt_1 (i := 14) (by decide +kernel) (by decide +kernel), by decide +kernel, by decide +kernel, by decide +kernel⟩
theorem ss_J13_compare_74951 : Cond.static yJ13_compare_74951 ∈ jTW := jt_3 (i := 187) (by decide +kernel) (by decide +kernel)
theorem sg_X2_against : jSg yX2_against cX2_against 19 (some .int) 1 := ⟨jt_3 (i := 182) rfl rfl, jt_1 (i := 6) (by decide +kernel) (by decide +kernel), by decide +kernel, by decide +kernel, by decide +kernel⟩
theorem sv_X2_against : jSgV yX2_against := ⟨jt_3 (i := 180) (by decide +kernel) (by decide +kernel), jt_3 (i := 181) (by decide +kernel) (by decide +kernel)⟩
theorem sg_X2_copy : jSg yX2_copy cX2_copy 2 none 1 := ⟨jt_3 (i := 192) rfl rfl, jt_1 (i := 6) (by decide +kernel) (by decide +kernel), by decide +kernel, by decide +kernel, by decide +kernel⟩
theorem sv_X2_copy : jSgV yX2_copy := ⟨jt_3 (i := 190) (by decide +kernel) (by decide +kernel), jt_3 (i := 191) (by decide +kernel) (by decide +kernel)⟩
theorem sg_X4_offer : jSg yX4_offer cX4_offer 3 none 2 := ⟨jt_3 (i := 178) rfl rfl, jt_1 (i := 5) (by decide +kernel) (by decide +kernel), by decide +kernel, by decide +kernel, by decide +kernel⟩
theorem sv_X4_offer : jSgV yX4_offer := ⟨jt_3 (i := 176) (by decide +kernel) (by decide +kernel), jt_3 (i := 177) (by decide +kernel) (by decide +kernel)⟩
theorem sg_X7_offerPeak : jSg yX7_offerPeak cX7_offerPeak 1 none 0 := ⟨jt_3 (i := 174) rfl rfl, jt_1 (i := 4) (by decide +kernel) (by decide +kernel), by decide +kernel, by decide +kernel, by decide +kernel⟩
theorem sv_X7_offerPeak : jSgV yX7_offerPeak := ⟨jt_3 (i := 173) (by decide +kernel) (by decide +kernel), jt_p (i := 20) (by decide +kernel) (by decide +kernel)⟩
theorem sg_X7_turnsWithin : jSg yX7_turnsWithin cX7_turnsWithin 4 (some .boolean) 1 := ⟨jt_3 (i := 196) rfl rfl, jt_1 (i := 4) (by decide +kernel) (by decide +kernel), by decide +kernel, by decide +kernel, by decide +kernel⟩
theorem sv_X7_turnsWithin : jSgV yX7_turnsWithin := ⟨jt_3 (i := 195) (by decide +kernel) (by decide +kernel), jt_p (i := 21) (by decide +kernel) (by decide +kernel)⟩
theorem sg_X7_findPeaks : jSg yX7_findPeaks cX7_findPeaks 4 none 0 := ⟨jt_3 (i := 170) rfl rfl, jt_1 (i := 4) (by decide +kernel) (by decide +kernel), by decide +kernel, by decide +kernel, by decide +kernel⟩
theorem sv_X7_findPeaks : jSgV yX7_findPeaks := ⟨jt_3 (i := 168) (by decide +kernel) (by decide +kernel), jt_3 (i := 169) (by decide +kernel) (by decide +kernel)⟩
theorem sg_X8_greatest : jSg yX8_greatest cX8_greatest 4 (some .long) 2 := ⟨jt_3 (i := 166) rfl rfl, jt_1 (i := 1) (by decide +kernel) (by decide +kernel), by decide +kernel, by decide +kernel, by decide +kernel⟩
theorem sv_X8_greatest : jSgV yX8_greatest := ⟨jt_3 (i := 164) (by decide +kernel) (by decide +kernel), jt_3 (i := 165) (by decide +kernel) (by decide +kernel)⟩
theorem sg_X7_placeOfMostSag : jSg yX7_placeOfMostSag cX7_placeOfMostSag 3 (some .int) 0 := ⟨jt_3 (i := 204) rfl rfl, jt_1 (i := 4) (by decide +kernel) (by decide +kernel), by decide +kernel, by decide +kernel, by decide +kernel⟩
theorem sv_X7_placeOfMostSag : jSgV yX7_placeOfMostSag := ⟨jt_3 (i := 202) (by decide +kernel) (by decide +kernel), jt_3 (i := 203) (by decide +kernel) (by decide +kernel)⟩
theorem sg_X8_lowest : jSg yX8_lowest cX8_lowest 1 (some .int) 0 := ⟨jt_3 (i := 200) rfl rfl, jt_1 (i := 1) (by decide +kernel) (by decide +kernel), by decide +kernel, by decide +kernel, by decide +kernel⟩
theorem sv_X8_lowest : jSgV yX8_lowest := ⟨jt_3 (i := 198) (by decide +kernel) (by decide +kernel), jt_3 (i := 199) (by decide +kernel) (by decide +kernel)⟩
theorem sg_X7_tellSpan : jSg yX7_tellSpan cX7_tellSpan 2 none 1 := ⟨jt_3 (i := 212) rfl rfl, jt_1 (i := 4) (by decide +kernel) (by decide +kernel), by decide +kernel, by decide +kernel, by decide +kernel⟩
theorem sv_X7_tellSpan : jSgV yX7_tellSpan := ⟨jt_3 (i := 210) (by decide +kernel) (by decide +kernel), jt_3 (i := 211) (by decide +kernel) (by decide +kernel)⟩
theorem sg_X8_timesWithin : jSg yX8_timesWithin cX8_timesWithin 3 (some .int) 1 := ⟨jt_3 (i := 219) rfl rfl, jt_1 (i := 1) (by decide +kernel) (by decide +kernel), by decide +kernel, by decide +kernel, by decide +kernel⟩
theorem sv_X8_timesWithin : jSgV yX8_timesWithin := ⟨jt_3 (i := 218) (by decide +kernel) (by decide +kernel), jt_p (i := 22) (by decide +kernel) (by decide +kernel)⟩
theorem sg_X8_times : jSg yX8_times cX8_times 2 (some .int) 1 := ⟨jt_3 (i := 208) rfl rfl, jt_1 (i := 1) (by decide +kernel) (by decide +kernel), by decide +kernel, by decide +kernel, by decide +kernel⟩
theorem sv_X8_times : jSgV yX8_times := ⟨jt_3 (i := 206) (by decide +kernel) (by decide +kernel), jt_3 (i := 207) (by decide +kernel) (by decide +kernel)⟩
theorem sg_X8_canRoll : jSg yX8_canRoll cX8_canRoll 2 (some .boolean) 1 := ⟨jt_3 (i := 228) rfl rfl, jt_1 (i := 1) (by decide +kernel) (by decide +kernel), by decide +kernel, by decide +kernel, by decide +kernel⟩
theorem sv_X8_canRoll : jSgV yX8_canRoll := ⟨jt_3 (i := 227) (by decide +kernel) (by decide +kernel), jt_p (i := 23) (by decide +kernel) (by decide +kernel)⟩
theorem sg_X8_solveRolling : jSg yX8_solveRolling cX8_solveRolling 3 none 1 := ⟨jt_3 (i := 236) rfl rfl, jt_1 (i := 1) (by decide +kernel) (by decide +kernel), by decide +kernel, by decide +kernel, by decide +kernel⟩
theorem sv_X8_solveRolling : jSgV yX8_solveRolling := ⟨jt_3 (i := 235) (by decide +kernel) (by decide +kernel), jt_p (i := 25) (by decide +kernel) (by decide +kernel)⟩
theorem sg_X8_mostByRolling : jSg yX8_mostByRolling cX8_mostByRolling 6 (some .long) 3 := ⟨jt_3 (i := 232) rfl rfl, jt_1 (i := 1) (by decide +kernel) (by decide +kernel), by decide +kernel, by decide +kernel, by decide +kernel⟩
theorem sv_X8_mostByRolling : jSgV yX8_mostByRolling := ⟨jt_3 (i := 231) (by decide +kernel) (by decide +kernel), jt_p (i := 24) (by decide +kernel) (by decide +kernel)⟩
theorem sg_X8_rolls : jSg yX8_rolls cX8_rolls 3 (some .long) 2 := ⟨jt_3 (i := 224) rfl rfl, jt_1 (i := 1) (by decide +kernel) (by decide +kernel), by decide +kernel, by decide +kernel, by decide +kernel⟩
theorem sv_X8_rolls : jSgV yX8_rolls := ⟨jt_3 (i := 222) (by decide +kernel) (by decide +kernel), jt_3 (i := 223) (by decide +kernel) (by decide +kernel)⟩
theorem sg_X8_presses : jSg yX8_presses cX8_presses 3 (some .long) 2 := ⟨jt_4 (i := 2) rfl rfl, jt_1 (i := 1) (by decide +kernel) (by decide +kernel), by decide +kernel, by decide +kernel, by decide +kernel⟩
theorem sv_X8_presses : jSgV yX8_presses := ⟨jt_4 (i := 0) (by decide +kernel) (by decide +kernel), jt_4 (i := 1) (by decide +kernel) (by decide +kernel)⟩
theorem sg_X8_solveUnit : jSg yX8_solveUnit cX8_solveUnit 2 none 1 := ⟨jt_4 (i := 10) rfl rfl, jt_1 (i := 1) (by decide +kernel) (by decide +kernel), by decide +kernel, by decide +kernel, by decide +kernel⟩
theorem sv_X8_solveUnit : jSgV yX8_solveUnit := ⟨jt_4 (i := 9) (by decide +kernel) (by decide +kernel), jt_p (i := 26) (by decide +kernel) (by decide +kernel)⟩
theorem sg_X8_unit : jSg yX8_unit cX8_unit 4 (some .long) 3 := ⟨jt_4 (i := 6) rfl rfl, jt_1 (i := 1) (by decide +kernel) (by decide +kernel), by decide +kernel, by decide +kernel, by decide +kernel⟩
theorem sv_X8_unit : jSgV yX8_unit := ⟨jt_4 (i := 4) (by decide +kernel) (by decide +kernel), jt_4 (i := 5) (by decide +kernel) (by decide +kernel)⟩
theorem sg_X8_bears : jSg yX8_bears cX8_bears 4 (some .long) 3 := ⟨jt_4 (i := 14) rfl rfl, jt_1 (i := 1) (by decide +kernel) (by decide +kernel), by decide +kernel, by decide +kernel, by decide +kernel⟩
theorem sv_X8_bears : jSgV yX8_bears := ⟨jt_4 (i := 12) (by decide +kernel) (by decide +kernel), jt_4 (i := 13) (by decide +kernel) (by decide +kernel)⟩
theorem sg_X8_best : jSg yX8_best cX8_best 6 (some .int) 1 := ⟨jt_4 (i := 18) rfl rfl, jt_1 (i := 1) (by decide +kernel) (by decide +kernel), by decide +kernel, by decide +kernel, by decide +kernel⟩
theorem sv_X8_best : jSgV yX8_best := ⟨jt_4 (i := 16) (by decide +kernel) (by decide +kernel), jt_4 (i := 17) (by decide +kernel) (by decide +kernel)⟩
theorem sg_X8_hinged : jSg yX8_hinged cX8_hinged 3 (some .long) 2 := ⟨jt_4 (i := 22) rfl rfl, jt_1 (i := 1) (by decide +kernel) (by decide +kernel), by decide +kernel, by decide +kernel, by decide +kernel⟩
theorem sv_X8_hinged : jSgV yX8_hinged := ⟨jt_4 (i := 20) (by decide +kernel) (by decide +kernel), jt_4 (i := 21) (by decide +kernel) (by decide +kernel)⟩
theorem sg_X5_take : jSg yX5_take cX5_take 2 (some .int) 1 := ⟨jt_4 (i := 30) rfl rfl, jt_1 (i := 7) (by decide +kernel) (by decide +kernel), by decide +kernel, by decide +kernel, by decide +kernel⟩
theorem sv_X5_take : jSgV yX5_take := ⟨jt_4 (i := 28) (by decide +kernel) (by decide +kernel), jt_4 (i := 29) (by decide +kernel) (by decide +kernel)⟩
theorem sg_X8_feed : jSg yX8_feed cX8_feed 2 (some .int) 1 := ⟨jt_4 (i := 26) rfl rfl, jt_1 (i := 1) (by decide +kernel) (by decide +kernel), by decide +kernel, by decide +kernel, by decide +kernel⟩
theorem sv_X8_feed : jSgV yX8_feed := ⟨jt_4 (i := 24) (by decide +kernel) (by decide +kernel), jt_4 (i := 25) (by decide +kernel) (by decide +kernel)⟩
theorem sg_X5_isLetter : jSg yX5_isLetter cX5_isLetter 1 (some .boolean) 1 := ⟨jt_4 (i := 49) rfl rfl, jt_1 (i := 7) (by decide +kernel) (by decide +kernel), by decide +kernel, by decide +kernel, by decide +kernel⟩
theorem ss_X5_isLetter : Cond.static yX5_isLetter ∈ jTW := jt_4 (i := 48) (by decide +kernel) (by decide +kernel)
theorem sg_X5_isNext : jSg yX5_isNext cX5_isNext 2 (some .boolean) 1 := ⟨jt_4 (i := 124) rfl rfl, jt_1 (i := 7) (by decide +kernel) (by decide +kernel), by decide +kernel, by decide +kernel, by decide +kernel⟩
theorem sv_X5_isNext : jSgV yX5_isNext := ⟨jt_4 (i := 123) (by decide +kernel) (by decide +kernel), jt_p (i := 32) (by decide +kernel) (by decide +kernel)⟩
theorem sg_X5_isFigureNext : jSg yX5_isFigureNext cX5_isFigureNext 1 (some .boolean) 0 := ⟨jt_4 (i := 128) rfl rfl, jt_1 (i := 7) (by decide +kernel) (by decide +kernel), by decide +kernel, by decide +kernel, by decide +kernel⟩
theorem sv_X5_isFigureNext : jSgV yX5_isFigureNext := ⟨jt_4 (i := 127) (by decide +kernel) (by decide +kernel), jt_p (i := 33) (by decide +kernel) (by decide +kernel)⟩
theorem sg_X5_readNumber : jSg yX5_readNumber cX5_readNumber 5 (some .boolean) 2 := ⟨jt_4 (i := 120) rfl rfl, jt_1 (i := 7) (by decide +kernel) (by decide +kernel), by decide +kernel, by decide +kernel, by decide +kernel⟩
theorem sv_X5_readNumber : jSgV yX5_readNumber := ⟨jt_4 (i := 119) (by decide +kernel) (by decide +kernel), jt_p (i := 31) (by decide +kernel) (by decide +kernel)⟩
theorem sg_X5_readStatement : jSg yX5_readStatement cX5_readStatement 4 (some .boolean) 0 := ⟨jt_4 (i := 46) rfl rfl, jt_1 (i := 7) (by decide +kernel) (by decide +kernel), by decide +kernel, by decide +kernel, by decide +kernel⟩
theorem sv_X5_readStatement : jSgV yX5_readStatement := ⟨jt_4 (i := 45) (by decide +kernel) (by decide +kernel), jt_p (i := 28) (by decide +kernel) (by decide +kernel)⟩
theorem sg_X5_placeOfNoText : jSg yX5_placeOfNoText cX5_placeOfNoText 2 (some .int) 0 := ⟨jt_4 (i := 42) rfl rfl, jt_1 (i := 7) (by decide +kernel) (by decide +kernel), by decide +kernel, by decide +kernel, by decide +kernel⟩
theorem sv_X5_placeOfNoText : jSgV yX5_placeOfNoText := ⟨jt_4 (i := 41) (by decide +kernel) (by decide +kernel), jt_p (i := 27) (by decide +kernel) (by decide +kernel)⟩
theorem sg_X5_whyNotStatement : jSg yX5_whyNotStatement cX5_whyNotStatement 1 (some .int) 0 := ⟨jt_4 (i := 133) rfl rfl, jt_1 (i := 7) (by decide +kernel) (by decide +kernel), by decide +kernel, by decide +kernel, by decide +kernel⟩
theorem sv_X5_whyNotStatement : jSgV yX5_whyNotStatement := ⟨jt_4 (i := 132) (by decide +kernel) (by decide +kernel), jt_p (i := 34) (by decide +kernel) (by decide +kernel)⟩
theorem sg_X5_takeStatement : jSg yX5_takeStatement cX5_takeStatement 1 none 0 := ⟨jt_4 (i := 143) rfl rfl, jt_1 (i := 7) (by decide +kernel) (by decide +kernel), by decide +kernel, by decide +kernel, by decide +kernel⟩
theorem sv_X5_takeStatement : jSgV yX5_takeStatement := ⟨jt_4 (i := 142) (by decide +kernel) (by decide +kernel), jt_p (i := 35) (by decide +kernel) (by decide +kernel)⟩
theorem sg_X5_readOnto : jSg yX5_readOnto cX5_readOnto 6 (some .int) 1 := ⟨jt_4 (i := 38) rfl rfl, jt_1 (i := 7) (by decide +kernel) (by decide +kernel), by decide +kernel, by decide +kernel, by decide +kernel⟩
theorem sv_X5_readOnto : jSgV yX5_readOnto := ⟨jt_4 (i := 36) (by decide +kernel) (by decide +kernel), jt_4 (i := 37) (by decide +kernel) (by decide +kernel)⟩
theorem sg_X8_reads : jSg yX8_reads cX8_reads 2 (some .int) 0 := ⟨jt_4 (i := 34) rfl rfl, jt_1 (i := 1) (by decide +kernel) (by decide +kernel), by decide +kernel, by decide +kernel, by decide +kernel⟩
theorem sv_X8_reads : jSgV yX8_reads := ⟨jt_4 (i := 32) (by decide +kernel) (by decide +kernel), jt_4 (i := 33) (by decide +kernel) (by decide +kernel)⟩
theorem sg_X3_put : jSg yX3_put cX3_put 2 none 1 := ⟨jt_4 (i := 166) rfl rfl, jt_1 (i := 8) (by decide +kernel) (by decide +kernel), by decide +kernel, by decide +kernel, by decide +kernel⟩
theorem sv_X3_put : jSgV yX3_put := ⟨jt_4 (i := 164) (by decide +kernel) (by decide +kernel), jt_4 (i := 165) (by decide +kernel) (by decide +kernel)⟩
theorem sg_X3_putNumber : jSg yX3_putNumber cX3_putNumber 7 none 1 := ⟨jt_4 (i := 162) rfl rfl, jt_1 (i := 8) (by decide +kernel) (by decide +kernel), by decide +kernel, by decide +kernel, by decide +kernel⟩
theorem sv_X3_putNumber : jSgV yX3_putNumber := ⟨jt_4 (i := 160) (by decide +kernel) (by decide +kernel), jt_4 (i := 161) (by decide +kernel) (by decide +kernel)⟩
theorem sg_X3_putFraction : jSg yX3_putFraction cX3_putFraction 2 none 1 := ⟨jt_4 (i := 174) rfl rfl, jt_1 (i := 8) (by decide +kernel) (by decide +kernel), by decide +kernel, by decide +kernel, by decide +kernel⟩
theorem sv_X3_putFraction : jSgV yX3_putFraction := ⟨jt_4 (i := 172) (by decide +kernel) (by decide +kernel), jt_4 (i := 173) (by decide +kernel) (by decide +kernel)⟩
theorem sg_X3_putTerm : jSg yX3_putTerm cX3_putTerm 4 none 2 := ⟨jt_4 (i := 179) rfl rfl, jt_1 (i := 8) (by decide +kernel) (by decide +kernel), by decide +kernel, by decide +kernel, by decide +kernel⟩
theorem sv_X3_putTerm : jSgV yX3_putTerm := ⟨jt_4 (i := 177) (by decide +kernel) (by decide +kernel), jt_4 (i := 178) (by decide +kernel) (by decide +kernel)⟩
theorem sg_X8_printPiece : jSg yX8_printPiece cX8_printPiece 2 none 1 := ⟨jt_4 (i := 158) rfl rfl, jt_1 (i := 1) (by decide +kernel) (by decide +kernel), by decide +kernel, by decide +kernel, by decide +kernel⟩
theorem sv_X8_printPiece : jSgV yX8_printPiece := ⟨jt_4 (i := 157) (by decide +kernel) (by decide +kernel), jt_p (i := 36) (by decide +kernel) (by decide +kernel)⟩
theorem sg_X8_prints : jSg yX8_prints cX8_prints 2 (some .int) 0 := ⟨jt_4 (i := 154) rfl rfl, jt_1 (i := 1) (by decide +kernel) (by decide +kernel), by decide +kernel, by decide +kernel, by decide +kernel⟩
theorem sv_X8_prints : jSgV yX8_prints := ⟨jt_4 (i := 152) (by decide +kernel) (by decide +kernel), jt_4 (i := 153) (by decide +kernel) (by decide +kernel)⟩
theorem sg_X8_paper : jSg yX8_paper cX8_paper 2 (some .int) 1 := ⟨jt_4 (i := 185) rfl rfl, jt_1 (i := 1) (by decide +kernel) (by decide +kernel), by decide +kernel, by decide +kernel, by decide +kernel⟩
theorem sv_X8_paper : jSgV yX8_paper := ⟨jt_4 (i := 183) (by decide +kernel) (by decide +kernel), jt_4 (i := 184) (by decide +kernel) (by decide +kernel)⟩
theorem sg_X8_isList : jSg yX8_isList cX8_isList 1 (some .boolean) 1 := ⟨jt_4 (i := 192) rfl rfl, jt_1 (i := 1) (by decide +kernel) (by decide +kernel), by decide +kernel, by decide +kernel, by decide +kernel⟩
theorem ss_X8_isList : Cond.static yX8_isList ∈ jTW := jt_4 (i := 191) (by decide +kernel) (by decide +kernel)
theorem sg_X6_begin : jSg yX6_begin cX6_begin 4 none 2 := ⟨jt_4 (i := 196) rfl rfl, jt_1 (i := 9) (by decide +kernel) (by decide +kernel), by decide +kernel, by decide +kernel, by decide +kernel⟩
theorem sv_X6_begin : jSgV yX6_begin := ⟨jt_4 (i := 194) (by decide +kernel) (by decide +kernel), jt_4 (i := 195) (by decide +kernel) (by decide +kernel)⟩
theorem sg_X8_list : jSg yX8_list cX8_list 3 (some .int) 2 := ⟨jt_4 (i := 189) rfl rfl, jt_1 (i := 1) (by decide +kernel) (by decide +kernel), by decide +kernel, by decide +kernel, by decide +kernel⟩
theorem sv_X8_list : jSgV yX8_list := ⟨jt_4 (i := 187) (by decide +kernel) (by decide +kernel), jt_4 (i := 188) (by decide +kernel) (by decide +kernel)⟩
theorem sg_X6_isThere : jSg yX6_isThere cX6_isThere 2 (some .boolean) 1 := ⟨jt_4 (i := 205) rfl rfl, jt_1 (i := 9) (by decide +kernel) (by decide +kernel), by decide +kernel, by decide +kernel, by decide +kernel⟩
theorem sv_X6_isThere : jSgV yX6_isThere := ⟨jt_4 (i := 203) (by decide +kernel) (by decide +kernel), jt_4 (i := 204) (by decide +kernel) (by decide +kernel)⟩
theorem sg_X6_has : jSg yX6_has cX6_has 3 (some .boolean) 2 := ⟨jt_4 (i := 209) rfl rfl, jt_1 (i := 9) (by decide +kernel) (by decide +kernel), by decide +kernel, by decide +kernel, by decide +kernel⟩
theorem sv_X6_has : jSgV yX6_has := ⟨jt_4 (i := 207) (by decide +kernel) (by decide +kernel), jt_4 (i := 208) (by decide +kernel) (by decide +kernel)⟩
theorem sg_X6_put : jSg yX6_put cX6_put 5 none 3 := ⟨jt_4 (i := 213) rfl rfl, jt_1 (i := 9) (by decide +kernel) (by decide +kernel), by decide +kernel, by decide +kernel, by decide +kernel⟩
theorem sv_X6_put : jSgV yX6_put := ⟨jt_4 (i := 211) (by decide +kernel) (by decide +kernel), jt_4 (i := 212) (by decide +kernel) (by decide +kernel)⟩
theorem sg_X8_set : jSg yX8_set cX8_set 5 (some .int) 3 := ⟨jt_4 (i := 201) rfl rfl, jt_1 (i := 1) (by decide +kernel) (by decide +kernel), by decide +kernel, by decide +kernel, by decide +kernel⟩
theorem sv_X8_set : jSgV yX8_set := ⟨jt_4 (i := 199) (by decide +kernel) (by decide +kernel), jt_4 (i := 200) (by decide +kernel) (by decide +kernel)⟩
theorem sg_X6_at : jSg yX6_at cX6_at 3 (some .long) 2 := ⟨jt_4 (i := 222) rfl rfl, jt_1 (i := 9) (by decide +kernel) (by decide +kernel), by decide +kernel, by decide +kernel, by decide +kernel⟩
theorem sv_X6_at : jSgV yX6_at := ⟨jt_4 (i := 220) (by decide +kernel) (by decide +kernel), jt_4 (i := 221) (by decide +kernel) (by decide +kernel)⟩
theorem sg_X8_get : jSg yX8_get cX8_get 3 (some .long) 2 := ⟨jt_4 (i := 218) rfl rfl, jt_1 (i := 1) (by decide +kernel) (by decide +kernel), by decide +kernel, by decide +kernel, by decide +kernel⟩
theorem sv_X8_get : jSgV yX8_get := ⟨jt_4 (i := 216) (by decide +kernel) (by decide +kernel), jt_4 (i := 217) (by decide +kernel) (by decide +kernel)⟩
theorem sg_X8_numbersInAll : jSg yX8_numbersInAll cX8_numbersInAll 1 (some .int) 0 := ⟨jt_4 (i := 231) rfl rfl, jt_1 (i := 1) (by decide +kernel) (by decide +kernel), by decide +kernel, by decide +kernel, by decide +kernel⟩
theorem sv_X8_numbersInAll : jSgV yX8_numbersInAll := ⟨jt_4 (i := 230) (by decide +kernel) (by decide +kernel), jt_p (i := 37) (by decide +kernel) (by decide +kernel)⟩
theorem sg_X8_numberOfMoments : jSg yX8_numberOfMoments cX8_numberOfMoments 2 (some .long) 1 := ⟨jt_4 (i := 235) rfl rfl, jt_1 (i := 1) (by decide +kernel) (by decide +kernel), by decide +kernel, by decide +kernel, by decide +kernel⟩
theorem sv_X8_numberOfMoments : jSgV yX8_numberOfMoments := ⟨jt_4 (i := 234) (by decide +kernel) (by decide +kernel), jt_p (i := 38) (by decide +kernel) (by decide +kernel)⟩
theorem sg_X8_into : jSg yX8_into cX8_into 5 (some .int) 2 := ⟨jt_4 (i := 227) rfl rfl, jt_1 (i := 1) (by decide +kernel) (by decide +kernel), by decide +kernel, by decide +kernel, by decide +kernel⟩
theorem sv_X8_into : jSgV yX8_into := ⟨jt_4 (i := 225) (by decide +kernel) (by decide +kernel), jt_4 (i := 226) (by decide +kernel) (by decide +kernel)⟩
theorem sg_X8_judge : jSg yX8_judge cX8_judge 5 (some .int) 2 := ⟨jt_4 (i := 239) rfl rfl, jt_1 (i := 1) (by decide +kernel) (by decide +kernel), by decide +kernel, by decide +kernel, by decide +kernel⟩
theorem sv_X8_judge : jSgV yX8_judge := ⟨jt_4 (i := 237) (by decide +kernel) (by decide +kernel), jt_4 (i := 238) (by decide +kernel) (by decide +kernel)⟩
theorem sg_X1_layBack : jSg yX1_layBack cX1_layBack 3 none 1 := ⟨jt_5 (i := 7) rfl rfl, jt_1 (i := 3) (by decide +kernel) (by decide +kernel), by decide +kernel, by decide +kernel, by decide +kernel⟩
theorem sv_X1_layBack : jSgV yX1_layBack := ⟨jt_5 (i := 5) (by decide +kernel) (by decide +kernel), jt_5 (i := 6) (by decide +kernel) (by decide +kernel)⟩
theorem sg_X8_undo : jSg yX8_undo cX8_undo 1 (some .int) 0 := ⟨jt_5 (i := 3) rfl rfl, jt_1 (i := 1) (by decide +kernel) (by decide +kernel), by decide +kernel, by decide +kernel, by decide +kernel⟩
theorem sv_X8_undo : jSgV yX8_undo := ⟨jt_5 (i := 1) (by decide +kernel) (by decide +kernel), jt_5 (i := 2) (by decide +kernel) (by decide +kernel)⟩
theorem sg_X8_image : jSg yX8_image cX8_image 1 (some .int) 0 := ⟨jt_5 (i := 14) rfl rfl, jt_1 (i := 1) (by decide +kernel) (by decide +kernel), by decide +kernel, by decide +kernel, by decide +kernel⟩
theorem sv_X8_image : jSgV yX8_image := ⟨jt_5 (i := 12) (by decide +kernel) (by decide +kernel), jt_5 (i := 13) (by decide +kernel) (by decide +kernel)⟩
theorem sg_X8_back : jSg yX8_back cX8_back 1 (some .int) 0 := ⟨jt_5 (i := 18) rfl rfl, jt_1 (i := 1) (by decide +kernel) (by decide +kernel), by decide +kernel, by decide +kernel, by decide +kernel⟩
theorem sv_X8_back : jSgV yX8_back := ⟨jt_5 (i := 16) (by decide +kernel) (by decide +kernel), jt_5 (i := 17) (by decide +kernel) (by decide +kernel)⟩
theorem sg_X9_in : jSg yX9_in cX9_in 6 (some .boolean) 3 := ⟨jt_5 (i := 140) rfl rfl, jt_1 (i := 11) (by decide +kernel) (by decide +kernel), by decide +kernel, by decide +kernel, by decide +kernel⟩
theorem ss_X9_in : Cond.static yX9_in ∈ jTW := jt_5 (i := 139) (by decide +kernel) (by decide +kernel)
theorem sg_X9_copies : jSg yX9_copies cX9_copies 3 none 2 := ⟨jt_6 (i := 140) rfl rfl, jt_1 (i := 11) (by decide +kernel) (by decide +kernel), by decide +kernel, by decide +kernel, by decide +kernel⟩
theorem ss_X9_copies : Cond.static yX9_copies ∈ jTW := jt_6 (i := 139) (by decide +kernel) (by decide +kernel)
theorem sg_X9_changes : jSg yX9_changes cX9_changes 2 none 0 := ⟨jt_5 (i := 156) rfl rfl, jt_1 (i := 11) (by decide +kernel) (by decide +kernel), by decide +kernel, by decide +kernel, by decide +kernel⟩
theorem sv_X9_changes : jSgV yX9_changes := ⟨jt_5 (i := 155) (by decide +kernel) (by decide +kernel), jt_p (i := 41) (by decide +kernel) (by decide +kernel)⟩
theorem sg_X9_isPlace : jSg yX9_isPlace cX9_isPlace 2 (some .boolean) 1 := ⟨jt_5 (i := 148) rfl rfl, jt_1 (i := 11) (by decide +kernel) (by decide +kernel), by decide +kernel, by decide +kernel, by decide +kernel⟩
theorem sv_X9_isPlace : jSgV yX9_isPlace := ⟨jt_5 (i := 147) (by decide +kernel) (by decide +kernel), jt_p (i := 39) (by decide +kernel) (by decide +kernel)⟩
theorem sg_X9_isSupport : jSg yX9_isSupport cX9_isSupport 2 (some .boolean) 1 := ⟨jt_5 (i := 211) rfl rfl, jt_1 (i := 11) (by decide +kernel) (by decide +kernel), by decide +kernel, by decide +kernel, by decide +kernel⟩
theorem sv_X9_isSupport : jSgV yX9_isSupport := ⟨jt_5 (i := 210) (by decide +kernel) (by decide +kernel), jt_p (i := 44) (by decide +kernel) (by decide +kernel)⟩
theorem sg_X9_isLoad : jSg yX9_isLoad cX9_isLoad 2 (some .boolean) 1 := ⟨jt_5 (i := 186) rfl rfl, jt_1 (i := 11) (by decide +kernel) (by decide +kernel), by decide +kernel, by decide +kernel, by decide +kernel⟩
theorem sv_X9_isLoad : jSgV yX9_isLoad := ⟨jt_5 (i := 185) (by decide +kernel) (by decide +kernel), jt_p (i := 43) (by decide +kernel) (by decide +kernel)⟩
theorem sg_X9_supportAt : jSg yX9_supportAt cX9_supportAt 3 (some .int) 1 := ⟨jt_5 (i := 152) rfl rfl, jt_1 (i := 11) (by decide +kernel) (by decide +kernel), by decide +kernel, by decide +kernel, by decide +kernel⟩
theorem sv_X9_supportAt : jSgV yX9_supportAt := ⟨jt_5 (i := 151) (by decide +kernel) (by decide +kernel), jt_p (i := 40) (by decide +kernel) (by decide +kernel)⟩
theorem sg_X9_beam : jSg yX9_beam cX9_beam 4 (some .int) 1 := ⟨jt_5 (i := 135) rfl rfl, jt_1 (i := 11) (by decide +kernel) (by decide +kernel), by decide +kernel, by decide +kernel, by decide +kernel⟩
theorem sv_X9_beam : jSgV yX9_beam := ⟨jt_5 (i := 133) (by decide +kernel) (by decide +kernel), jt_5 (i := 134) (by decide +kernel) (by decide +kernel)⟩
theorem sg_X9_support : jSg yX9_support cX9_support 3 (some .int) 1 := ⟨jt_5 (i := 144) rfl rfl, jt_1 (i := 11) (by decide +kernel) (by decide +kernel), by decide +kernel, by decide +kernel, by decide +kernel⟩
theorem sv_X9_support : jSgV yX9_support := ⟨jt_5 (i := 142) (by decide +kernel) (by decide +kernel), jt_5 (i := 143) (by decide +kernel) (by decide +kernel)⟩
theorem sg_X9_drop : jSg yX9_drop cX9_drop 4 (some .int) 1 := ⟨jt_5 (i := 160) rfl rfl, jt_1 (i := 11) (by decide +kernel) (by decide +kernel), by decide +kernel, by decide +kernel, by decide +kernel⟩
theorem sv_X9_drop : jSgV yX9_drop := ⟨jt_5 (i := 158) (by decide +kernel) (by decide +kernel), jt_5 (i := 159) (by decide +kernel) (by decide +kernel)⟩
theorem sg_X9_hinge : jSg yX9_hinge cX9_hinge 5 (some .int) 2 := ⟨jt_5 (i := 164) rfl rfl, jt_1 (i := 11) (by decide +kernel) (by decide +kernel), by decide +kernel, by decide +kernel, by decide +kernel⟩
theorem sv_X9_hinge : jSgV yX9_hinge := ⟨jt_5 (i := 162) (by decide +kernel) (by decide +kernel), jt_5 (i := 163) (by decide +kernel) (by decide +kernel)⟩
theorem sg_X9_comes : jSg yX9_comes cX9_comes 5 (some .int) 3 := ⟨jt_5 (i := 174) rfl rfl, jt_1 (i := 11) (by decide +kernel) (by decide +kernel), by decide +kernel, by decide +kernel, by decide +kernel⟩
theorem sv_X9_comes : jSgV yX9_comes := ⟨jt_5 (i := 173) (by decide +kernel) (by decide +kernel), jt_p (i := 42) (by decide +kernel) (by decide +kernel)⟩
theorem sg_X9_point : jSg yX9_point cX9_point 3 (some .int) 2 := ⟨jt_5 (i := 168) rfl rfl, jt_1 (i := 11) (by decide +kernel) (by decide +kernel), by decide +kernel, by decide +kernel, by decide +kernel⟩
theorem sv_X9_point : jSgV yX9_point := ⟨jt_5 (i := 166) (by decide +kernel) (by decide +kernel), jt_5 (i := 167) (by decide +kernel) (by decide +kernel)⟩
theorem sg_X9_spread : jSg yX9_spread cX9_spread 4 (some .int) 3 := ⟨jt_5 (i := 178) rfl rfl, jt_1 (i := 11) (by decide +kernel) (by decide +kernel), by decide +kernel, by decide +kernel, by decide +kernel⟩
theorem sv_X9_spread : jSgV yX9_spread := ⟨jt_5 (i := 176) (by decide +kernel) (by decide +kernel), jt_5 (i := 177) (by decide +kernel) (by decide +kernel)⟩
theorem sg_X9_heavier : jSg yX9_heavier cX9_heavier 4 (some .int) 2 := ⟨jt_5 (i := 182) rfl rfl, jt_1 (i := 11) (by decide +kernel) (by decide +kernel), by decide +kernel, by decide +kernel, by decide +kernel⟩
theorem sv_X9_heavier : jSgV yX9_heavier := ⟨jt_5 (i := 180) (by decide +kernel) (by decide +kernel), jt_5 (i := 181) (by decide +kernel) (by decide +kernel)⟩
theorem sg_X9_lift : jSg yX9_lift cX9_lift 3 (some .int) 1 := ⟨jt_5 (i := 190) rfl rfl, jt_1 (i := 11) (by decide +kernel) (by decide +kernel), by decide +kernel, by decide +kernel, by decide +kernel⟩
theorem sv_X9_lift : jSgV yX9_lift := ⟨jt_5 (i := 188) (by decide +kernel) (by decide +kernel), jt_5 (i := 189) (by decide +kernel) (by decide +kernel)⟩
theorem sg_X9_axle : jSg yX9_axle cX9_axle 3 (some .int) 2 := ⟨jt_5 (i := 194) rfl rfl, jt_1 (i := 11) (by decide +kernel) (by decide +kernel), by decide +kernel, by decide +kernel, by decide +kernel⟩
theorem sv_X9_axle : jSgV yX9_axle := ⟨jt_5 (i := 192) (by decide +kernel) (by decide +kernel), jt_5 (i := 193) (by decide +kernel) (by decide +kernel)⟩
theorem sg_X9_unhitch : jSg yX9_unhitch cX9_unhitch 2 (some .int) 0 := ⟨jt_5 (i := 198) rfl rfl, jt_1 (i := 11) (by decide +kernel) (by decide +kernel), by decide +kernel, by decide +kernel, by decide +kernel⟩
theorem sv_X9_unhitch : jSgV yX9_unhitch := ⟨jt_5 (i := 196) (by decide +kernel) (by decide +kernel), jt_5 (i := 197) (by decide +kernel) (by decide +kernel)⟩
theorem sg_X9_loadOf : jSg yX9_loadOf cX9_loadOf 5 (some .int) 2 := ⟨jt_5 (i := 202) rfl rfl, jt_1 (i := 11) (by decide +kernel) (by decide +kernel), by decide +kernel, by decide +kernel, by decide +kernel⟩
theorem sv_X9_loadOf : jSgV yX9_loadOf := ⟨jt_5 (i := 200) (by decide +kernel) (by decide +kernel), jt_5 (i := 201) (by decide +kernel) (by decide +kernel)⟩
theorem sg_X9_supportOf : jSg yX9_supportOf cX9_supportOf 3 (some .int) 2 := ⟨jt_5 (i := 207) rfl rfl, jt_1 (i := 11) (by decide +kernel) (by decide +kernel), by decide +kernel, by decide +kernel, by decide +kernel⟩
theorem sv_X9_supportOf : jSgV yX9_supportOf := ⟨jt_5 (i := 205) (by decide +kernel) (by decide +kernel), jt_5 (i := 206) (by decide +kernel) (by decide +kernel)⟩
theorem sg_X9_allLoads : jSg yX9_allLoads cX9_allLoads 4 (some .int) 0 := ⟨jt_5 (i := 219) rfl rfl, jt_1 (i := 11) (by decide +kernel) (by decide +kernel), by decide +kernel, by decide +kernel, by decide +kernel⟩
theorem sv_X9_allLoads : jSgV yX9_allLoads := ⟨jt_5 (i := 218) (by decide +kernel) (by decide +kernel), jt_p (i := 45) (by decide +kernel) (by decide +kernel)⟩
theorem sg_X9_count : jSg yX9_count cX9_count 2 (some .int) 1 := ⟨jt_5 (i := 215) rfl rfl, jt_1 (i := 11) (by decide +kernel) (by decide +kernel), by decide +kernel, by decide +kernel, by decide +kernel⟩
theorem sv_X9_count : jSgV yX9_count := ⟨jt_5 (i := 213) (by decide +kernel) (by decide +kernel), jt_5 (i := 214) (by decide +kernel) (by decide +kernel)⟩
theorem sg_X9_divisor : jSg yX9_divisor cX9_divisor 10 (some .long) 2 := ⟨jt_6 (i := 14) rfl rfl, jt_1 (i := 11) (by decide +kernel) (by decide +kernel), by decide +kernel, by decide +kernel, by decide +kernel⟩
theorem ss_X9_divisor : Cond.static yX9_divisor ∈ jTW := jt_6 (i := 13) (by decide +kernel) (by decide +kernel)
theorem sg_X9_is : jSg yX9_is cX9_is 7 none 2 := ⟨jt_6 (i := 11) rfl rfl, jt_1 (i := 11) (by decide +kernel) (by decide +kernel), by decide +kernel, by decide +kernel, by decide +kernel⟩
theorem sv_X9_is : jSgV yX9_is := ⟨jt_6 (i := 10) (by decide +kernel) (by decide +kernel), jt_p (i := 51) (by decide +kernel) (by decide +kernel)⟩
theorem sg_X9_plus : jSg yX9_plus cX9_plus 7 none 2 := ⟨jt_6 (i := 41) rfl rfl, jt_1 (i := 11) (by decide +kernel) (by decide +kernel), by decide +kernel, by decide +kernel, by decide +kernel⟩
theorem sv_X9_plus : jSgV yX9_plus := ⟨jt_6 (i := 40) (by decide +kernel) (by decide +kernel), jt_p (i := 56) (by decide +kernel) (by decide +kernel)⟩
theorem sg_X9_isLess : jSg yX9_isLess cX9_isLess 25 (some .boolean) 4 := ⟨jt_6 (i := 104) rfl rfl, jt_1 (i := 11) (by decide +kernel) (by decide +kernel), by decide +kernel, by decide +kernel, by decide +kernel⟩
theorem ss_X9_isLess : Cond.static yX9_isLess ∈ jTW := jt_6 (i := 103) (by decide +kernel) (by decide +kernel)
theorem sg_X9_spanOf : jSg yX9_spanOf cX9_spanOf 2 (some .int) 1 := ⟨jt_6 (i := 26) rfl rfl, jt_1 (i := 11) (by decide +kernel) (by decide +kernel), by decide +kernel, by decide +kernel, by decide +kernel⟩
theorem sv_X9_spanOf : jSgV yX9_spanOf := ⟨jt_6 (i := 25) (by decide +kernel) (by decide +kernel), jt_p (i := 54) (by decide +kernel) (by decide +kernel)⟩
theorem sg_X9_isSpread : jSg yX9_isSpread cX9_isSpread 2 (some .boolean) 1 := ⟨jt_6 (i := 7) rfl rfl, jt_1 (i := 11) (by decide +kernel) (by decide +kernel), by decide +kernel, by decide +kernel, by decide +kernel⟩
theorem sv_X9_isSpread : jSgV yX9_isSpread := ⟨jt_6 (i := 6) (by decide +kernel) (by decide +kernel), jt_p (i := 50) (by decide +kernel) (by decide +kernel)⟩
theorem sg_X9_less : jSg yX9_less cX9_less 2 (some .int) 2 := ⟨jt_6 (i := 33) rfl rfl, jt_1 (i := 11) (by decide +kernel) (by decide +kernel), by decide +kernel, by decide +kernel, by decide +kernel⟩
theorem ss_X9_less : Cond.static yX9_less ∈ jTW := jt_6 (i := 32) (by decide +kernel) (by decide +kernel)
theorem sg_X9_more : jSg yX9_more cX9_more 2 (some .int) 2 := ⟨jt_6 (i := 3) rfl rfl, jt_1 (i := 11) (by decide +kernel) (by decide +kernel), by decide +kernel, by decide +kernel, by decide +kernel⟩
theorem ss_X9_more : Cond.static yX9_more ∈ jTW := jt_6 (i := 2) (by decide +kernel) (by decide +kernel)
theorem sg_X9_whole : jSg yX9_whole cX9_whole 4 (some .long) 2 := ⟨jt_6 (i := 36) rfl rfl, jt_1 (i := 11) (by decide +kernel) (by decide +kernel), by decide +kernel, by decide +kernel, by decide +kernel⟩
theorem ss_X9_whole : Cond.static yX9_whole ∈ jTW := jt_6 (i := 35) (by decide +kernel) (by decide +kernel)
theorem sg_X9_sums : jSg yX9_sums cX9_sums 15 (some .long) 3 := ⟨jt_6 (i := 30) rfl rfl, jt_1 (i := 11) (by decide +kernel) (by decide +kernel), by decide +kernel, by decide +kernel, by decide +kernel⟩
theorem sv_X9_sums : jSgV yX9_sums := ⟨jt_6 (i := 29) (by decide +kernel) (by decide +kernel), jt_p (i := 55) (by decide +kernel) (by decide +kernel)⟩
theorem sg_X9_beyond : jSg yX9_beyond cX9_beyond 12 (some .long) 2 := ⟨jt_6 (i := 0) rfl rfl, jt_1 (i := 11) (by decide +kernel) (by decide +kernel), by decide +kernel, by decide +kernel, by decide +kernel⟩
theorem sv_X9_beyond : jSgV yX9_beyond := ⟨jt_5 (i := 239) (by decide +kernel) (by decide +kernel), jt_p (i := 49) (by decide +kernel) (by decide +kernel)⟩
theorem sg_X9_gives : jSg yX9_gives cX9_gives 4 none 1 := ⟨jt_6 (i := 22) rfl rfl, jt_1 (i := 11) (by decide +kernel) (by decide +kernel), by decide +kernel, by decide +kernel, by decide +kernel⟩
theorem sv_X9_gives : jSgV yX9_gives := ⟨jt_6 (i := 21) (by decide +kernel) (by decide +kernel), jt_p (i := 53) (by decide +kernel) (by decide +kernel)⟩
theorem sg_X9_keeps : jSg yX9_keeps cX9_keeps 2 none 1 := ⟨jt_6 (i := 18) rfl rfl, jt_1 (i := 11) (by decide +kernel) (by decide +kernel), by decide +kernel, by decide +kernel, by decide +kernel⟩
theorem sv_X9_keeps : jSgV yX9_keeps := ⟨jt_6 (i := 17) (by decide +kernel) (by decide +kernel), jt_p (i := 52) (by decide +kernel) (by decide +kernel)⟩
theorem sg_X9_isLoose : jSg yX9_isLoose cX9_isLoose 2 (some .boolean) 1 := ⟨jt_6 (i := 45) rfl rfl, jt_1 (i := 11) (by decide +kernel) (by decide +kernel), by decide +kernel, by decide +kernel, by decide +kernel⟩
theorem sv_X9_isLoose : jSgV yX9_isLoose := ⟨jt_6 (i := 44) (by decide +kernel) (by decide +kernel), jt_p (i := 57) (by decide +kernel) (by decide +kernel)⟩
theorem sg_X9_alone : jSg yX9_alone cX9_alone 3 none 1 := ⟨jt_6 (i := 49) rfl rfl, jt_1 (i := 11) (by decide +kernel) (by decide +kernel), by decide +kernel, by decide +kernel, by decide +kernel⟩
theorem sv_X9_alone : jSgV yX9_alone := ⟨jt_6 (i := 48) (by decide +kernel) (by decide +kernel), jt_p (i := 58) (by decide +kernel) (by decide +kernel)⟩
theorem sg_X9_moments : jSg yX9_moments cX9_moments 10 none 0 := ⟨jt_5 (i := 236) rfl rfl, jt_1 (i := 11) (by decide +kernel) (by decide +kernel), by decide +kernel, by decide +kernel, by decide +kernel⟩
theorem sv_X9_moments : jSgV yX9_moments := ⟨jt_5 (i := 235) (by decide +kernel) (by decide +kernel), jt_p (i := 48) (by decide +kernel) (by decide +kernel)⟩
theorem sg_X9_bears : jSg yX9_bears cX9_bears 14 none 3 := ⟨jt_6 (i := 61) rfl rfl, jt_1 (i := 11) (by decide +kernel) (by decide +kernel), by decide +kernel, by decide +kernel, by decide +kernel⟩
theorem sv_X9_bears : jSgV yX9_bears := ⟨jt_6 (i := 60) (by decide +kernel) (by decide +kernel), jt_p (i := 61) (by decide +kernel) (by decide +kernel)⟩
theorem sg_X9_beside : jSg yX9_beside cX9_beside 6 (some .long) 2 := ⟨jt_6 (i := 57) rfl rfl, jt_1 (i := 11) (by decide +kernel) (by decide +kernel), by decide +kernel, by decide +kernel, by decide +kernel⟩
theorem sv_X9_beside : jSgV yX9_beside := ⟨jt_6 (i := 56) (by decide +kernel) (by decide +kernel), jt_p (i := 60) (by decide +kernel) (by decide +kernel)⟩
theorem sg_X9_pointsAt : jSg yX9_pointsAt cX9_pointsAt 5 (some .long) 1 := ⟨jt_6 (i := 53) rfl rfl, jt_1 (i := 11) (by decide +kernel) (by decide +kernel), by decide +kernel, by decide +kernel, by decide +kernel⟩
theorem sv_X9_pointsAt : jSgV yX9_pointsAt := ⟨jt_6 (i := 52) (by decide +kernel) (by decide +kernel), jt_p (i := 59) (by decide +kernel) (by decide +kernel)⟩
theorem sg_X9_reactions : jSg yX9_reactions cX9_reactions 5 none 0 := ⟨jt_5 (i := 232) rfl rfl, jt_1 (i := 11) (by decide +kernel) (by decide +kernel), by decide +kernel, by decide +kernel, by decide +kernel⟩
theorem sv_X9_reactions : jSgV yX9_reactions := ⟨jt_5 (i := 231) (by decide +kernel) (by decide +kernel), jt_p (i := 47) (by decide +kernel) (by decide +kernel)⟩
theorem sg_X9_stands : jSg yX9_stands cX9_stands 1 (some .boolean) 0 := ⟨jt_5 (i := 227) rfl rfl, jt_1 (i := 11) (by decide +kernel) (by decide +kernel), by decide +kernel, by decide +kernel, by decide +kernel⟩
theorem sv_X9_stands : jSgV yX9_stands := ⟨jt_5 (i := 226) (by decide +kernel) (by decide +kernel), jt_p (i := 46) (by decide +kernel) (by decide +kernel)⟩
theorem sg_X9_reaction : jSg yX9_reaction cX9_reaction 3 (some .long) 2 := ⟨jt_5 (i := 223) rfl rfl, jt_1 (i := 11) (by decide +kernel) (by decide +kernel), by decide +kernel, by decide +kernel, by decide +kernel⟩
theorem sv_X9_reaction : jSgV yX9_reaction := ⟨jt_5 (i := 221) (by decide +kernel) (by decide +kernel), jt_5 (i := 222) (by decide +kernel) (by decide +kernel)⟩
theorem sg_X9_momentAt : jSg yX9_momentAt cX9_momentAt 14 (some .long) 2 := ⟨jt_6 (i := 78) rfl rfl, jt_1 (i := 11) (by decide +kernel) (by decide +kernel), by decide +kernel, by decide +kernel, by decide +kernel⟩
theorem sv_X9_momentAt : jSgV yX9_momentAt := ⟨jt_6 (i := 77) (by decide +kernel) (by decide +kernel), jt_p (i := 63) (by decide +kernel) (by decide +kernel)⟩
theorem sg_X9_shearBehind : jSg yX9_shearBehind cX9_shearBehind 6 (some .long) 1 := ⟨jt_6 (i := 69) rfl rfl, jt_1 (i := 11) (by decide +kernel) (by decide +kernel), by decide +kernel, by decide +kernel, by decide +kernel⟩
theorem sv_X9_shearBehind : jSgV yX9_shearBehind := ⟨jt_6 (i := 68) (by decide +kernel) (by decide +kernel), jt_p (i := 62) (by decide +kernel) (by decide +kernel)⟩
theorem sg_X9_spreadOn : jSg yX9_spreadOn cX9_spreadOn 4 (some .int) 1 := ⟨jt_6 (i := 90) rfl rfl, jt_1 (i := 11) (by decide +kernel) (by decide +kernel), by decide +kernel, by decide +kernel, by decide +kernel⟩
theorem sv_X9_spreadOn : jSgV yX9_spreadOn := ⟨jt_6 (i := 89) (by decide +kernel) (by decide +kernel), jt_p (i := 65) (by decide +kernel) (by decide +kernel)⟩
theorem sg_X9_shear : jSg yX9_shear cX9_shear 3 (some .long) 2 := ⟨jt_6 (i := 65) rfl rfl, jt_1 (i := 11) (by decide +kernel) (by decide +kernel), by decide +kernel, by decide +kernel, by decide +kernel⟩
theorem sv_X9_shear : jSgV yX9_shear := ⟨jt_6 (i := 63) (by decide +kernel) (by decide +kernel), jt_6 (i := 64) (by decide +kernel) (by decide +kernel)⟩
theorem sg_X9_moment : jSg yX9_moment cX9_moment 4 (some .long) 3 := ⟨jt_6 (i := 73) rfl rfl, jt_1 (i := 11) (by decide +kernel) (by decide +kernel), by decide +kernel, by decide +kernel, by decide +kernel⟩
theorem sv_X9_moment : jSgV yX9_moment := ⟨jt_6 (i := 71) (by decide +kernel) (by decide +kernel), jt_6 (i := 72) (by decide +kernel) (by decide +kernel)⟩
theorem sg_X9_sagAt : jSg yX9_sagAt cX9_sagAt 14 (some .long) 1 := ⟨jt_6 (i := 86) rfl rfl, jt_1 (i := 11) (by decide +kernel) (by decide +kernel), by decide +kernel, by decide +kernel, by decide +kernel⟩
theorem sv_X9_sagAt : jSgV yX9_sagAt := ⟨jt_6 (i := 85) (by decide +kernel) (by decide +kernel), jt_p (i := 64) (by decide +kernel) (by decide +kernel)⟩
theorem sg_X9_wideAt : jSg yX9_wideAt cX9_wideAt 3 (some .int) 1 := ⟨jt_6 (i := 97) rfl rfl, jt_1 (i := 11) (by decide +kernel) (by decide +kernel), by decide +kernel, by decide +kernel, by decide +kernel⟩
theorem sv_X9_wideAt : jSgV yX9_wideAt := ⟨jt_6 (i := 96) (by decide +kernel) (by decide +kernel), jt_p (i := 66) (by decide +kernel) (by decide +kernel)⟩
theorem sg_X9_sag : jSg yX9_sag cX9_sag 3 (some .long) 2 := ⟨jt_6 (i := 82) rfl rfl, jt_1 (i := 11) (by decide +kernel) (by decide +kernel), by decide +kernel, by decide +kernel, by decide +kernel⟩
theorem sv_X9_sag : jSgV yX9_sag := ⟨jt_6 (i := 80) (by decide +kernel) (by decide +kernel), jt_6 (i := 81) (by decide +kernel) (by decide +kernel)⟩
theorem sg_X9_lowest : jSg yX9_lowest cX9_lowest 3 (some .int) 0 := ⟨jt_6 (i := 101) rfl rfl, jt_1 (i := 11) (by decide +kernel) (by decide +kernel), by decide +kernel, by decide +kernel, by decide +kernel⟩
theorem sv_X9_lowest : jSgV yX9_lowest := ⟨jt_6 (i := 99) (by decide +kernel) (by decide +kernel), jt_6 (i := 100) (by decide +kernel) (by decide +kernel)⟩
theorem sg_X9_tries : jSg yX9_tries cX9_tries 9 none 4 := ⟨jt_6 (i := 116) rfl rfl, jt_1 (i := 11) (by decide +kernel) (by decide +kernel), by decide +kernel, by decide +kernel, by decide +kernel⟩
theorem sv_X9_tries : jSgV yX9_tries := ⟨jt_6 (i := 115) (by decide +kernel) (by decide +kernel), jt_p (i := 68) (by decide +kernel) (by decide +kernel)⟩
theorem sg_X9_looks : jSg yX9_looks cX9_looks 13 none 1 := ⟨jt_6 (i := 112) rfl rfl, jt_1 (i := 11) (by decide +kernel) (by decide +kernel), by decide +kernel, by decide +kernel, by decide +kernel⟩
theorem sv_X9_looks : jSgV yX9_looks := ⟨jt_6 (i := 111) (by decide +kernel) (by decide +kernel), jt_p (i := 67) (by decide +kernel) (by decide +kernel)⟩
theorem sg_X9_greatest : jSg yX9_greatest cX9_greatest 4 (some .long) 2 := ⟨jt_6 (i := 108) rfl rfl, jt_1 (i := 11) (by decide +kernel) (by decide +kernel), by decide +kernel, by decide +kernel, by decide +kernel⟩
theorem sv_X9_greatest : jSgV yX9_greatest := ⟨jt_6 (i := 106) (by decide +kernel) (by decide +kernel), jt_6 (i := 107) (by decide +kernel) (by decide +kernel)⟩
theorem sg_X9_span : jSg yX9_span cX9_span 6 none 0 := ⟨jt_6 (i := 125) rfl rfl, jt_1 (i := 11) (by decide +kernel) (by decide +kernel), by decide +kernel, by decide +kernel, by decide +kernel⟩
theorem sv_X9_span : jSgV yX9_span := ⟨jt_6 (i := 124) (by decide +kernel) (by decide +kernel), jt_p (i := 69) (by decide +kernel) (by decide +kernel)⟩
theorem sg_X9_times : jSg yX9_times cX9_times 3 (some .int) 1 := ⟨jt_6 (i := 120) rfl rfl, jt_1 (i := 11) (by decide +kernel) (by decide +kernel), by decide +kernel, by decide +kernel, by decide +kernel⟩
theorem sv_X9_times : jSgV yX9_times := ⟨jt_6 (i := 118) (by decide +kernel) (by decide +kernel), jt_6 (i := 119) (by decide +kernel) (by decide +kernel)⟩
theorem sg_X9_thinks : jSg yX9_thinks cX9_thinks 1 none 0 := ⟨jt_6 (i := 137) rfl rfl, jt_1 (i := 11) (by decide +kernel) (by decide +kernel), by decide +kernel, by decide +kernel, by decide +kernel⟩
theorem sv_X9_thinks : jSgV yX9_thinks := ⟨jt_6 (i := 136) (by decide +kernel) (by decide +kernel), jt_p (i := 71) (by decide +kernel) (by decide +kernel)⟩
theorem sg_X9_laysBack : jSg yX9_laysBack cX9_laysBack 1 none 0 := ⟨jt_6 (i := 152) rfl rfl, jt_1 (i := 11) (by decide +kernel) (by decide +kernel), by decide +kernel, by decide +kernel, by decide +kernel⟩
theorem sv_X9_laysBack : jSgV yX9_laysBack := ⟨jt_6 (i := 151) (by decide +kernel) (by decide +kernel), jt_p (i := 74) (by decide +kernel) (by decide +kernel)⟩
theorem sg_X9_alone_ : jSg yX9_alone_ cX9_alone_ 3 none 2 := ⟨jt_6 (i := 144) rfl rfl, jt_1 (i := 11) (by decide +kernel) (by decide +kernel), by decide +kernel, by decide +kernel, by decide +kernel⟩
theorem sv_X9_alone_ : jSgV yX9_alone_ := ⟨jt_6 (i := 143) (by decide +kernel) (by decide +kernel), jt_p (i := 72) (by decide +kernel) (by decide +kernel)⟩
theorem sg_X9_asked : jSg yX9_asked cX9_asked 3 none 2 := ⟨jt_6 (i := 148) rfl rfl, jt_1 (i := 11) (by decide +kernel) (by decide +kernel), by decide +kernel, by decide +kernel, by decide +kernel⟩
theorem sv_X9_asked : jSgV yX9_asked := ⟨jt_6 (i := 147) (by decide +kernel) (by decide +kernel), jt_p (i := 73) (by decide +kernel) (by decide +kernel)⟩
theorem sg_X9_most : jSg yX9_most cX9_most 6 (some .long) 3 := ⟨jt_6 (i := 133) rfl rfl, jt_1 (i := 11) (by decide +kernel) (by decide +kernel), by decide +kernel, by decide +kernel, by decide +kernel⟩
theorem sv_X9_most : jSgV yX9_most := ⟨jt_6 (i := 132) (by decide +kernel) (by decide +kernel), jt_p (i := 70) (by decide +kernel) (by decide +kernel)⟩
theorem sg_X9_rolls : jSg yX9_rolls cX9_rolls 3 (some .long) 2 := ⟨jt_6 (i := 129) rfl rfl, jt_1 (i := 11) (by decide +kernel) (by decide +kernel), by decide +kernel, by decide +kernel, by decide +kernel⟩
theorem sv_X9_rolls : jSgV yX9_rolls := ⟨jt_6 (i := 127) (by decide +kernel) (by decide +kernel), jt_6 (i := 128) (by decide +kernel) (by decide +kernel)⟩
theorem sg_X9_presses : jSg yX9_presses cX9_presses 3 (some .long) 2 := ⟨jt_6 (i := 156) rfl rfl, jt_1 (i := 11) (by decide +kernel) (by decide +kernel), by decide +kernel, by decide +kernel, by decide +kernel⟩
theorem sv_X9_presses : jSgV yX9_presses := ⟨jt_6 (i := 154) (by decide +kernel) (by decide +kernel), jt_6 (i := 155) (by decide +kernel) (by decide +kernel)⟩
theorem sg_X9_byUnit : jSg yX9_byUnit cX9_byUnit 5 (some .long) 4 := ⟨jt_6 (i := 164) rfl rfl, jt_1 (i := 11) (by decide +kernel) (by decide +kernel), by decide +kernel, by decide +kernel, by decide +kernel⟩
theorem sv_X9_byUnit : jSgV yX9_byUnit := ⟨jt_6 (i := 163) (by decide +kernel) (by decide +kernel), jt_p (i := 75) (by decide +kernel) (by decide +kernel)⟩
theorem sg_X9_unit : jSg yX9_unit cX9_unit 4 (some .long) 3 := ⟨jt_6 (i := 160) rfl rfl, jt_1 (i := 11) (by decide +kernel) (by decide +kernel), by decide +kernel, by decide +kernel, by decide +kernel⟩
theorem sv_X9_unit : jSgV yX9_unit := ⟨jt_6 (i := 158) (by decide +kernel) (by decide +kernel), jt_6 (i := 159) (by decide +kernel) (by decide +kernel)⟩
theorem sg_X9_bears_ : jSg yX9_bears_ cX9_bears_ 4 (some .long) 3 := ⟨jt_6 (i := 168) rfl rfl, jt_1 (i := 11) (by decide +kernel) (by decide +kernel), by decide +kernel, by decide +kernel, by decide +kernel⟩
theorem sv_X9_bears_ : jSgV yX9_bears_ := ⟨jt_6 (i := 166) (by decide +kernel) (by decide +kernel), jt_6 (i := 167) (by decide +kernel) (by decide +kernel)⟩
theorem sg_X9_best : jSg yX9_best cX9_best 10 (some .int) 1 := ⟨jt_6 (i := 172) rfl rfl, jt_1 (i := 11) (by decide +kernel) (by decide +kernel), by decide +kernel, by decide +kernel, by decide +kernel⟩
theorem sv_X9_best : jSgV yX9_best := ⟨jt_6 (i := 170) (by decide +kernel) (by decide +kernel), jt_6 (i := 171) (by decide +kernel) (by decide +kernel)⟩
theorem sg_X9_hinged : jSg yX9_hinged cX9_hinged 3 (some .long) 2 := ⟨jt_6 (i := 176) rfl rfl, jt_1 (i := 11) (by decide +kernel) (by decide +kernel), by decide +kernel, by decide +kernel, by decide +kernel⟩
theorem sv_X9_hinged : jSgV yX9_hinged := ⟨jt_6 (i := 174) (by decide +kernel) (by decide +kernel), jt_6 (i := 175) (by decide +kernel) (by decide +kernel)⟩
theorem sg_X9_feed : jSg yX9_feed cX9_feed 2 (some .int) 1 := ⟨jt_6 (i := 180) rfl rfl, jt_1 (i := 11) (by decide +kernel) (by decide +kernel), by decide +kernel, by decide +kernel, by decide +kernel⟩
theorem sv_X9_feed : jSgV yX9_feed := ⟨jt_6 (i := 178) (by decide +kernel) (by decide +kernel), jt_6 (i := 179) (by decide +kernel) (by decide +kernel)⟩
theorem sg_X9_here : jSg yX9_here cX9_here 1 (some .int) 0 := ⟨jt_6 (i := 207) rfl rfl, jt_1 (i := 11) (by decide +kernel) (by decide +kernel), by decide +kernel, by decide +kernel, by decide +kernel⟩
theorem sv_X9_here : jSgV yX9_here := ⟨jt_6 (i := 206) (by decide +kernel) (by decide +kernel), jt_p (i := 80) (by decide +kernel) (by decide +kernel)⟩
theorem sg_X9_word : jSg yX9_word cX9_word 5 (some .int) 0 := ⟨jt_6 (i := 197) rfl rfl, jt_1 (i := 11) (by decide +kernel) (by decide +kernel), by decide +kernel, by decide +kernel, by decide +kernel⟩
theorem sv_X9_word : jSgV yX9_word := ⟨jt_6 (i := 196) (by decide +kernel) (by decide +kernel), jt_p (i := 78) (by decide +kernel) (by decide +kernel)⟩
theorem sg_X9_takes : jSg yX9_takes cX9_takes 6 (some .boolean) 2 := ⟨jt_6 (i := 203) rfl rfl, jt_1 (i := 11) (by decide +kernel) (by decide +kernel), by decide +kernel, by decide +kernel, by decide +kernel⟩
theorem sv_X9_takes : jSgV yX9_takes := ⟨jt_6 (i := 202) (by decide +kernel) (by decide +kernel), jt_p (i := 79) (by decide +kernel) (by decide +kernel)⟩
theorem sg_X9_does : jSg yX9_does cX9_does 4 (some .int) 1 := ⟨jt_6 (i := 213) rfl rfl, jt_1 (i := 11) (by decide +kernel) (by decide +kernel), by decide +kernel, by decide +kernel, by decide +kernel⟩
theorem sv_X9_does : jSgV yX9_does := ⟨jt_6 (i := 212) (by decide +kernel) (by decide +kernel), jt_p (i := 81) (by decide +kernel) (by decide +kernel)⟩
theorem sg_X9_takesOne : jSg yX9_takesOne cX9_takesOne 4 (some .boolean) 0 := ⟨jt_6 (i := 193) rfl rfl, jt_1 (i := 11) (by decide +kernel) (by decide +kernel), by decide +kernel, by decide +kernel, by decide +kernel⟩
theorem sv_X9_takesOne : jSgV yX9_takesOne := ⟨jt_6 (i := 192) (by decide +kernel) (by decide +kernel), jt_p (i := 77) (by decide +kernel) (by decide +kernel)⟩
theorem sg_X9_takesAll : jSg yX9_takesAll cX9_takesAll 2 (some .int) 0 := ⟨jt_6 (i := 189) rfl rfl, jt_1 (i := 11) (by decide +kernel) (by decide +kernel), by decide +kernel, by decide +kernel, by decide +kernel⟩
theorem sv_X9_takesAll : jSgV yX9_takesAll := ⟨jt_6 (i := 188) (by decide +kernel) (by decide +kernel), jt_p (i := 76) (by decide +kernel) (by decide +kernel)⟩
theorem sg_X9_reads : jSg yX9_reads cX9_reads 4 (some .int) 0 := ⟨jt_6 (i := 185) rfl rfl, jt_1 (i := 11) (by decide +kernel) (by decide +kernel), by decide +kernel, by decide +kernel, by decide +kernel⟩
theorem sv_X9_reads : jSgV yX9_reads := ⟨jt_6 (i := 183) (by decide +kernel) (by decide +kernel), jt_6 (i := 184) (by decide +kernel) (by decide +kernel)⟩
theorem sg_X9_sign : jSg yX9_sign cX9_sign 2 none 1 := ⟨jt_6 (i := 231) rfl rfl, jt_1 (i := 11) (by decide +kernel) (by decide +kernel), by decide +kernel, by decide +kernel, by decide +kernel⟩
theorem sv_X9_sign : jSgV yX9_sign := ⟨jt_6 (i := 230) (by decide +kernel) (by decide +kernel), jt_p (i := 83) (by decide +kernel) (by decide +kernel)⟩
theorem sg_X9_number : jSg yX9_number cX9_number 5 none 1 := ⟨jt_6 (i := 227) rfl rfl, jt_1 (i := 11) (by decide +kernel) (by decide +kernel), by decide +kernel, by decide +kernel, by decide +kernel⟩
theorem sv_X9_number : jSgV yX9_number := ⟨jt_6 (i := 226) (by decide +kernel) (by decide +kernel), jt_p (i := 82) (by decide +kernel) (by decide +kernel)⟩
theorem sg_X9_fraction : jSg yX9_fraction cX9_fraction 6 none 3 := ⟨jt_6 (i := 235) rfl rfl, jt_1 (i := 11) (by decide +kernel) (by decide +kernel), by decide +kernel, by decide +kernel, by decide +kernel⟩
theorem sv_X9_fraction : jSgV yX9_fraction := ⟨jt_6 (i := 234) (by decide +kernel) (by decide +kernel), jt_p (i := 84) (by decide +kernel) (by decide +kernel)⟩
theorem sg_X9_prints : jSg yX9_prints cX9_prints 5 (some .int) 0 := ⟨jt_6 (i := 223) rfl rfl, jt_1 (i := 11) (by decide +kernel) (by decide +kernel), by decide +kernel, by decide +kernel, by decide +kernel⟩
theorem sv_X9_prints : jSgV yX9_prints := ⟨jt_6 (i := 221) (by decide +kernel) (by decide +kernel), jt_6 (i := 222) (by decide +kernel) (by decide +kernel)⟩
theorem sg_X9_paper : jSg yX9_paper cX9_paper 2 (some .int) 1 := ⟨jt_6 (i := 239) rfl rfl, jt_1 (i := 11) (by decide +kernel) (by decide +kernel), by decide +kernel, by decide +kernel, by decide +kernel⟩
theorem sv_X9_paper : jSgV yX9_paper := ⟨jt_6 (i := 237) (by decide +kernel) (by decide +kernel), jt_6 (i := 238) (by decide +kernel) (by decide +kernel)⟩
theorem sg_X9_isList : jSg yX9_isList cX9_isList 1 (some .boolean) 1 := ⟨jt_7 (i := 6) rfl rfl, jt_1 (i := 11) (by decide +kernel) (by decide +kernel), by decide +kernel, by decide +kernel, by decide +kernel⟩
theorem ss_X9_isList : Cond.static yX9_isList ∈ jTW := jt_7 (i := 5) (by decide +kernel) (by decide +kernel)
theorem sg_X9_list : jSg yX9_list cX9_list 4 (some .int) 2 := ⟨jt_7 (i := 3) rfl rfl, jt_1 (i := 11) (by decide +kernel) (by decide +kernel), by decide +kernel, by decide +kernel, by decide +kernel⟩
theorem sv_X9_list : jSgV yX9_list := ⟨jt_7 (i := 1) (by decide +kernel) (by decide +kernel), jt_7 (i := 2) (by decide +kernel) (by decide +kernel)⟩
theorem sg_X9_set : jSg yX9_set cX9_set 5 (some .int) 3 := ⟨jt_7 (i := 10) rfl rfl, jt_1 (i := 11) (by decide +kernel) (by decide +kernel), by decide +kernel, by decide +kernel, by decide +kernel⟩
theorem sv_X9_set : jSgV yX9_set := ⟨jt_7 (i := 8) (by decide +kernel) (by decide +kernel), jt_7 (i := 9) (by decide +kernel) (by decide +kernel)⟩
theorem sg_X9_get : jSg yX9_get cX9_get 3 (some .long) 2 := ⟨jt_7 (i := 14) rfl rfl, jt_1 (i := 11) (by decide +kernel) (by decide +kernel), by decide +kernel, by decide +kernel, by decide +kernel⟩
theorem sv_X9_get : jSgV yX9_get := ⟨jt_7 (i := 12) (by decide +kernel) (by decide +kernel), jt_7 (i := 13) (by decide +kernel) (by decide +kernel)⟩
theorem sg_X9_into : jSg yX9_into cX9_into 6 (some .int) 2 := ⟨jt_7 (i := 18) rfl rfl, jt_1 (i := 11) (by decide +kernel) (by decide +kernel), by decide +kernel, by decide +kernel, by decide +kernel⟩
theorem sv_X9_into : jSgV yX9_into := ⟨jt_7 (i := 16) (by decide +kernel) (by decide +kernel), jt_7 (i := 17) (by decide +kernel) (by decide +kernel)⟩
theorem sg_X9_judge : jSg yX9_judge cX9_judge 4 (some .int) 2 := ⟨jt_7 (i := 22) rfl rfl, jt_1 (i := 11) (by decide +kernel) (by decide +kernel), by decide +kernel, by decide +kernel, by decide +kernel⟩
theorem sv_X9_judge : jSgV yX9_judge := ⟨jt_7 (i := 20) (by decide +kernel) (by decide +kernel), jt_7 (i := 21) (by decide +kernel) (by decide +kernel)⟩
theorem sg_X9_undo : jSg yX9_undo cX9_undo 2 (some .int) 0 := ⟨jt_7 (i := 26) rfl rfl, jt_1 (i := 11) (by decide +kernel) (by decide +kernel), by decide +kernel, by decide +kernel, by decide +kernel⟩
theorem sv_X9_undo : jSgV yX9_undo := ⟨jt_7 (i := 24) (by decide +kernel) (by decide +kernel), jt_7 (i := 25) (by decide +kernel) (by decide +kernel)⟩
theorem sg_X9_image : jSg yX9_image cX9_image 1 (some .int) 0 := ⟨jt_7 (i := 30) rfl rfl, jt_1 (i := 11) (by decide +kernel) (by decide +kernel), by decide +kernel, by decide +kernel, by decide +kernel⟩
theorem sv_X9_image : jSgV yX9_image := ⟨jt_7 (i := 28) (by decide +kernel) (by decide +kernel), jt_7 (i := 29) (by decide +kernel) (by decide +kernel)⟩
theorem sg_X9_back : jSg yX9_back cX9_back 1 (some .int) 0 := ⟨jt_7 (i := 34) rfl rfl, jt_1 (i := 11) (by decide +kernel) (by decide +kernel), by decide +kernel, by decide +kernel, by decide +kernel⟩
theorem sv_X9_back : jSgV yX9_back := ⟨jt_7 (i := 32) (by decide +kernel) (by decide +kernel), jt_7 (i := 33) (by decide +kernel) (by decide +kernel)⟩
theorem sg_J9_floorDiv_f86c9 : jSg yJ9_floorDiv_f86c9 cJ9_floorDiv_f86c9 6 (some .long) 2 := ⟨jt_3 (i := 185) rfl rfl, jt_1 (i := 13) (by decide +kernel) (by decide +kernel), by decide +kernel, by decide +kernel, by decide +kernel⟩
theorem ss_J9_floorDiv_f86c9 : Cond.static yJ9_floorDiv_f86c9 ∈ jTW := jt_3 (i := 184) (by decide +kernel) (by decide +kernel)
theorem sg_X5_wordWithin : jSg yX5_wordWithin cX5_wordWithin 4 (some .int) 2 := ⟨jt_4 (i := 53) rfl rfl, jt_1 (i := 7) (by decide +kernel) (by decide +kernel), by decide +kernel, by decide +kernel, by decide +kernel⟩
theorem sv_X5_wordWithin : jSgV yX5_wordWithin := ⟨jt_4 (i := 52) (by decide +kernel) (by decide +kernel), jt_p (i := 29) (by decide +kernel) (by decide +kernel)⟩
theorem sg_X5_spells : jSg yX5_spells cX5_spells 5 (some .boolean) 3 := ⟨jt_4 (i := 66) rfl rfl, jt_1 (i := 7) (by decide +kernel) (by decide +kernel), by decide +kernel, by decide +kernel, by decide +kernel⟩
theorem sv_X5_spells : jSgV yX5_spells := ⟨jt_4 (i := 65) (by decide +kernel) (by decide +kernel), jt_p (i := 30) (by decide +kernel) (by decide +kernel)⟩
theorem sg_X5_spelled : jSg yX5_spelled cX5_spelled 1 (some (.object "java/lang/String")) 1 := ⟨jt_4 (i := 56) rfl rfl, jt_1 (i := 7) (by decide +kernel) (by decide +kernel), by decide +kernel, by decide +kernel, by decide +kernel⟩
theorem ss_X5_spelled : Cond.static yX5_spelled ∈ jTW := jt_4 (i := 55) (by decide +kernel) (by decide +kernel)
