theorem jl_1 {i : Nat} {w : Cond} (hi : tables_1_1[i]? = some w) : w ∈ lw_tbl := by
  have h : w ∈ tables_1_1 := List.mem_of_getElem? hi
  have h2 : w ∈ tables_1 := List.mem_append_left _ h
  exact List.mem_append_right _ h2
theorem jl_2 {i : Nat} {w : Cond} (hi : tables_1_2[i]? = some w) : w ∈ lw_tbl := by
  have h : w ∈ tables_1_2 := List.mem_of_getElem? hi
  have h2 : w ∈ tables_1 := List.mem_append_right _ (List.mem_append_left _ h)
  exact List.mem_append_right _ h2
theorem jl_3 {i : Nat} {w : Cond} (hi : tables_1_3[i]? = some w) : w ∈ lw_tbl := by
  have h : w ∈ tables_1_3 := List.mem_of_getElem? hi
  have h2 : w ∈ tables_1 := List.mem_append_right _ (List.mem_append_right _ (List.mem_append_left _ h))
  exact List.mem_append_right _ h2
theorem jl_4 {i : Nat} {w : Cond} (hi : tables_1_4[i]? = some w) : w ∈ lw_tbl := by
  have h : w ∈ tables_1_4 := List.mem_of_getElem? hi
  have h2 : w ∈ tables_1 := List.mem_append_right _ (List.mem_append_right _ (List.mem_append_right _ (List.mem_append_left _ h)))
  exact List.mem_append_right _ h2
theorem jl_5 {i : Nat} {w : Cond} (hi : tables_1_5[i]? = some w) : w ∈ lw_tbl := by
  have h : w ∈ tables_1_5 := List.mem_of_getElem? hi
  have h2 : w ∈ tables_1 := List.mem_append_right _ (List.mem_append_right _ (List.mem_append_right _ (List.mem_append_right _ (List.mem_append_left _ h))))
  exact List.mem_append_right _ h2
theorem jl_6 {i : Nat} {w : Cond} (hi : tables_1_6[i]? = some w) : w ∈ lw_tbl := by
  have h : w ∈ tables_1_6 := List.mem_of_getElem? hi
  have h2 : w ∈ tables_1 := List.mem_append_right _ (List.mem_append_right _ (List.mem_append_right _ (List.mem_append_right _ (List.mem_append_right _ (List.mem_append_left _ h)))))
  exact List.mem_append_right _ h2
theorem jl_7 {i : Nat} {w : Cond} (hi : tables_1_7[i]? = some w) : w ∈ lw_tbl := by
  have h : w ∈ tables_1_7 := List.mem_of_getElem? hi
  have h2 : w ∈ tables_1 := List.mem_append_right _ (List.mem_append_right _ (List.mem_append_right _ (List.mem_append_right _ (List.mem_append_right _ (List.mem_append_right _ (h))))))
  exact List.mem_append_right _ h2
theorem st_nest {args : Array Value} {s : State} (hts : ∀ w ∈ lw_tbl, w.before args s = true) : jNest s :=
  ⟨va_Nw.of rfl (hts _ (jl_2 (i := 168) (by decide +kernel))), va_Nw.of rfl (hts _ (jl_3 (i := 70) (by decide +kernel))), va_Nw.of rfl (hts _ (jl_3 (i := 101) (by decide +kernel))), va_Nw.of rfl (hts _ (jl_3 (i := 108) (by decide +kernel))), va_Nw.of rfl (hts _ (jl_4 (i := 197) (by decide +kernel))), va_AO.of (hts _ (jl_1 (i := 99) (by decide +kernel)))⟩
def jtm (i : Nat) : Term := .string "BeamPieces$Reader" (jTk.getD i 0)
def jFl : List Cond := flatC (Jvm.Cond.and given_1 narrow_1)
theorem st_words {args : Array Value} {s : State} {A : Nat → Prop} (hs : ∀ c ∈ jFl, c.before args s = true) (hA : ∀ a : Nat, a < s.heap.size → ¬ A a) : ∃ adK adV : Nat → Nat, vk_S 6 jTl jTb adK adV A s s.heap ∧ ∀ i : Nat, i < 6 → (jtm i).eval args s none [] s = some (.ref (adK i)) := by
  refine vk_Sof (N := 6) (tm := jtm) ?_ ?_ ?_ ?_ ?_ ?_ ?_ hA
  · intro i hi
    match i, hi with
    | 0, _ => decide
    | 1, _ => decide
    | 2, _ => decide
    | 3, _ => decide
    | 4, _ => decide
    | 5, _ => decide
    | i + 6, h => exact absurd h (by omega)
  · intro i hi
    match i, hi with
    | 0, _ => exact hs _ (by decide +kernel)
    | 1, _ => exact hs _ (by decide +kernel)
    | 2, _ => exact hs _ (by decide +kernel)
    | 3, _ => exact hs _ (by decide +kernel)
    | 4, _ => exact hs _ (by decide +kernel)
    | 5, _ => exact hs _ (by decide +kernel)
    | i + 6, h => exact absurd h (by omega)
  · intro i hi
    match i, hi with
    | 0, _ => exact hs _ (by decide +kernel)
    | 1, _ => exact hs _ (by decide +kernel)
    | 2, _ => exact hs _ (by decide +kernel)
    | 3, _ => exact hs _ (by decide +kernel)
    | 4, _ => exact hs _ (by decide +kernel)
    | 5, _ => exact hs _ (by decide +kernel)
    | i + 6, h => exact absurd h (by omega)
  · intro i hi
    match i, hi with
    | 0, _ => exact hs _ (by decide +kernel)
    | 1, _ => exact hs _ (by decide +kernel)
    | 2, _ => exact hs _ (by decide +kernel)
    | 3, _ => exact hs _ (by decide +kernel)
    | 4, _ => exact hs _ (by decide +kernel)
    | 5, _ => exact hs _ (by decide +kernel)
    | i + 6, h => exact absurd h (by omega)
  · intro i hi
    match i, hi with
    | 0, _ => exact hs _ (by decide +kernel)
    | 1, _ => exact hs _ (by decide +kernel)
    | 2, _ => exact hs _ (by decide +kernel)
    | 3, _ => exact hs _ (by decide +kernel)
    | 4, _ => exact hs _ (by decide +kernel)
    | 5, _ => exact hs _ (by decide +kernel)
    | i + 6, h => exact absurd h (by omega)
  · intro i hi
    match i, hi with
    | 0, _ => 
      intro j hj
      match j, hj with
      | 0, _ => exact hs _ (by decide +kernel)
      | 1, _ => exact hs _ (by decide +kernel)
      | 2, _ => exact hs _ (by decide +kernel)
      | 3, _ => exact hs _ (by decide +kernel)
      | j + 4, h => exact absurd h (by simp [jTl])
    | 1, _ => 
      intro j hj
      match j, hj with
      | 0, _ => exact hs _ (by decide +kernel)
      | 1, _ => exact hs _ (by decide +kernel)
      | 2, _ => exact hs _ (by decide +kernel)
      | 3, _ => exact hs _ (by decide +kernel)
      | 4, _ => exact hs _ (by decide +kernel)
      | 5, _ => exact hs _ (by decide +kernel)
      | 6, _ => exact hs _ (by decide +kernel)
      | j + 7, h => exact absurd h (by simp [jTl])
    | 2, _ => 
      intro j hj
      match j, hj with
      | 0, _ => exact hs _ (by decide +kernel)
      | 1, _ => exact hs _ (by decide +kernel)
      | 2, _ => exact hs _ (by decide +kernel)
      | 3, _ => exact hs _ (by decide +kernel)
      | 4, _ => exact hs _ (by decide +kernel)
      | j + 5, h => exact absurd h (by simp [jTl])
    | 3, _ => 
      intro j hj
      match j, hj with
      | 0, _ => exact hs _ (by decide +kernel)
      | 1, _ => exact hs _ (by decide +kernel)
      | 2, _ => exact hs _ (by decide +kernel)
      | 3, _ => exact hs _ (by decide +kernel)
      | 4, _ => exact hs _ (by decide +kernel)
      | j + 5, h => exact absurd h (by simp [jTl])
    | 4, _ => 
      intro j hj
      match j, hj with
      | 0, _ => exact hs _ (by decide +kernel)
      | 1, _ => exact hs _ (by decide +kernel)
      | 2, _ => exact hs _ (by decide +kernel)
      | 3, _ => exact hs _ (by decide +kernel)
      | 4, _ => exact hs _ (by decide +kernel)
      | 5, _ => exact hs _ (by decide +kernel)
      | j + 6, h => exact absurd h (by simp [jTl])
    | 5, _ => 
      intro j hj
      match j, hj with
      | 0, _ => exact hs _ (by decide +kernel)
      | 1, _ => exact hs _ (by decide +kernel)
      | 2, _ => exact hs _ (by decide +kernel)
      | 3, _ => exact hs _ (by decide +kernel)
      | j + 4, h => exact absurd h (by simp [jTl])
    | i + 6, h => exact absurd h (by omega)
  · intro i j hi hj hij
    match i, j, hi, hj with
    | 0, 0, _, _ => exact absurd rfl hij
    | 0, 1, _, _ => first | exact Or.inl (hs _ (by decide +kernel)) | exact Or.inr (hs _ (by decide +kernel))
    | 0, 2, _, _ => first | exact Or.inl (hs _ (by decide +kernel)) | exact Or.inr (hs _ (by decide +kernel))
    | 0, 3, _, _ => first | exact Or.inl (hs _ (by decide +kernel)) | exact Or.inr (hs _ (by decide +kernel))
    | 0, 4, _, _ => first | exact Or.inl (hs _ (by decide +kernel)) | exact Or.inr (hs _ (by decide +kernel))
    | 0, 5, _, _ => first | exact Or.inl (hs _ (by decide +kernel)) | exact Or.inr (hs _ (by decide +kernel))
    | 1, 0, _, _ => first | exact Or.inl (hs _ (by decide +kernel)) | exact Or.inr (hs _ (by decide +kernel))
    | 1, 1, _, _ => exact absurd rfl hij
    | 1, 2, _, _ => first | exact Or.inl (hs _ (by decide +kernel)) | exact Or.inr (hs _ (by decide +kernel))
    | 1, 3, _, _ => first | exact Or.inl (hs _ (by decide +kernel)) | exact Or.inr (hs _ (by decide +kernel))
    | 1, 4, _, _ => first | exact Or.inl (hs _ (by decide +kernel)) | exact Or.inr (hs _ (by decide +kernel))
    | 1, 5, _, _ => first | exact Or.inl (hs _ (by decide +kernel)) | exact Or.inr (hs _ (by decide +kernel))
    | 2, 0, _, _ => first | exact Or.inl (hs _ (by decide +kernel)) | exact Or.inr (hs _ (by decide +kernel))
    | 2, 1, _, _ => first | exact Or.inl (hs _ (by decide +kernel)) | exact Or.inr (hs _ (by decide +kernel))
    | 2, 2, _, _ => exact absurd rfl hij
    | 2, 3, _, _ => first | exact Or.inl (hs _ (by decide +kernel)) | exact Or.inr (hs _ (by decide +kernel))
    | 2, 4, _, _ => first | exact Or.inl (hs _ (by decide +kernel)) | exact Or.inr (hs _ (by decide +kernel))
    | 2, 5, _, _ => first | exact Or.inl (hs _ (by decide +kernel)) | exact Or.inr (hs _ (by decide +kernel))
    | 3, 0, _, _ => first | exact Or.inl (hs _ (by decide +kernel)) | exact Or.inr (hs _ (by decide +kernel))
    | 3, 1, _, _ => first | exact Or.inl (hs _ (by decide +kernel)) | exact Or.inr (hs _ (by decide +kernel))
    | 3, 2, _, _ => first | exact Or.inl (hs _ (by decide +kernel)) | exact Or.inr (hs _ (by decide +kernel))
    | 3, 3, _, _ => exact absurd rfl hij
    | 3, 4, _, _ => first | exact Or.inl (hs _ (by decide +kernel)) | exact Or.inr (hs _ (by decide +kernel))
    | 3, 5, _, _ => first | exact Or.inl (hs _ (by decide +kernel)) | exact Or.inr (hs _ (by decide +kernel))
    | 4, 0, _, _ => first | exact Or.inl (hs _ (by decide +kernel)) | exact Or.inr (hs _ (by decide +kernel))
    | 4, 1, _, _ => first | exact Or.inl (hs _ (by decide +kernel)) | exact Or.inr (hs _ (by decide +kernel))
    | 4, 2, _, _ => first | exact Or.inl (hs _ (by decide +kernel)) | exact Or.inr (hs _ (by decide +kernel))
    | 4, 3, _, _ => first | exact Or.inl (hs _ (by decide +kernel)) | exact Or.inr (hs _ (by decide +kernel))
    | 4, 4, _, _ => exact absurd rfl hij
    | 4, 5, _, _ => first | exact Or.inl (hs _ (by decide +kernel)) | exact Or.inr (hs _ (by decide +kernel))
    | 5, 0, _, _ => first | exact Or.inl (hs _ (by decide +kernel)) | exact Or.inr (hs _ (by decide +kernel))
    | 5, 1, _, _ => first | exact Or.inl (hs _ (by decide +kernel)) | exact Or.inr (hs _ (by decide +kernel))
    | 5, 2, _, _ => first | exact Or.inl (hs _ (by decide +kernel)) | exact Or.inr (hs _ (by decide +kernel))
    | 5, 3, _, _ => first | exact Or.inl (hs _ (by decide +kernel)) | exact Or.inr (hs _ (by decide +kernel))
    | 5, 4, _, _ => first | exact Or.inl (hs _ (by decide +kernel)) | exact Or.inr (hs _ (by decide +kernel))
    | 5, 5, _, _ => exact absurd rfl hij
    | i + 6, _, h, _ => exact absurd h (by omega)
    | _, j + 6, _, h => exact absurd h (by omega)
theorem st_stat {args : Array Value} {s : State} (hts : ∀ w ∈ lw_tbl, w.before args s = true) (hs : ∀ c ∈ jFl, c.before args s = true) : ∃ (adK adV : Nat → Nat) (tN : Nat), jStat s.heap.size adK adV tN s := by
  have hA : ∀ a : Nat, a < s.heap.size → ¬ jA s.heap.size a := fun a h => Nat.not_le.mpr h
  obtain ⟨adK, adV, h1, h2⟩ := st_words hs hA
  obtain ⟨tN, h3, h4⟩ := va_Tof (args := args) (tm := .static RX5 "NUMBERS" "[I") (ty := .int) (N := 6) (f := jNums) (by decide) (hs _ (by decide +kernel)) (va_eqt (hs _ (by decide +kernel))) (fun j hj => by
    match j, hj with
    | 0, _ => exact va_eqt (hs _ (by decide +kernel))
    | 1, _ => exact va_eqt (hs _ (by decide +kernel))
    | 2, _ => exact va_eqt (hs _ (by decide +kernel))
    | 3, _ => exact va_eqt (hs _ (by decide +kernel))
    | 4, _ => exact va_eqt (hs _ (by decide +kernel))
    | 5, _ => exact va_eqt (hs _ (by decide +kernel))
    | j + 6, h => exact absurd h (by omega)) hA
  refine ⟨adK, adV, tN, va_Zof (hts _ (jl_4 (i := 116) (by decide +kernel))) (hts _ (jl_1 (i := 7) (by decide +kernel))) h3 hA, h4, h1, ?_, va_Zof (hts _ (jl_4 (i := 76) (by decide +kernel))) (hts _ (jl_1 (i := 15) (by decide +kernel))) (va_eqi (hs _ (by decide +kernel))) hA, va_Zqof (hts _ (jl_4 (i := 92) (by decide +kernel))) (hts _ (jl_1 (i := 17) (by decide +kernel))) (hs _ (by decide +kernel)) hA⟩
  intro i hi
  match i, hi with
  | 0, _ => exact vk_R.of (A := args) (hts _ (jl_4 (i := 57) (by decide +kernel))) (h2 0 (by decide))
  | 1, _ => exact vk_R.of (A := args) (hts _ (jl_4 (i := 58) (by decide +kernel))) (h2 1 (by decide))
  | 2, _ => exact vk_R.of (A := args) (hts _ (jl_4 (i := 59) (by decide +kernel))) (h2 2 (by decide))
  | 3, _ => exact vk_R.of (A := args) (hts _ (jl_4 (i := 60) (by decide +kernel))) (h2 3 (by decide))
  | 4, _ => exact vk_R.of (A := args) (hts _ (jl_4 (i := 61) (by decide +kernel))) (h2 4 (by decide))
  | 5, _ => exact vk_R.of (A := args) (hts _ (jl_4 (i := 62) (by decide +kernel))) (h2 5 (by decide))
  | i + 6, h => exact absurd h (by omega)
theorem st_arr {args : Array Value} {s : State} (hts : ∀ w ∈ lw_tbl, w.before args s = true) : ∃ cy : jCy, ∀ (k : Nat) (q : ClassId × FieldType), (jtys cy)[k]? = some q → ArrOfT s q.1 q.2 ∧ va_RA s q.1 q.2 := by
  have prim : ∀ ty : FieldType, (Cond.arrayClass ty).before args s = true → ∃ cA : ClassId, ArrOfT s cA ty ∧ s.vm.findClass ("[" ++ ty.toString) = some cA := by
    intro ty h
    obtain ⟨cA, kA, comp, h1, h2, h3⟩ := Cond.arrayClass_spec h
    exact ⟨cA, fun n z => ⟨fun k h => (by cases h), kA, h2, comp, h3⟩, h1⟩
  obtain ⟨c0, a0, b0⟩ := prim .byte (hts _ (jl_2 (i := 19) (by decide +kernel)))
  obtain ⟨c1, a1, b1⟩ := prim .char (hts _ (jl_5 (i := 131) (by decide +kernel)))
  obtain ⟨c2, a2, b2⟩ := prim .int (hts _ (jl_1 (i := 91) (by decide +kernel)))
  obtain ⟨c3, a3, b3⟩ := prim .long (hts _ (jl_1 (i := 142) (by decide +kernel)))
  obtain ⟨comp, c4, kA, h1, h2, h3, h4, h5⟩ := Cond.arrayOver_spec (n := "BeamPieces$Beam") (hts _ (jl_1 (i := 99) (by decide +kernel)))
  refine ⟨(c0, c1, c2, c3, c4), fun k q hk => ?_⟩
  match k, hk with
  | 0, hk => cases hk; exact ⟨a0, b0⟩
  | 1, hk => cases hk; exact ⟨a1, b1⟩
  | 2, hk => cases hk; exact ⟨a2, b2⟩
  | 3, hk => cases hk; exact ⟨a3, b3⟩
  | 4, hk => cases hk; exact ⟨fun n z => ⟨fun k h => (by cases h), kA, h3, comp, h4⟩, kA, comp, h3, h4, h1, h5⟩
  | k + 5, hk => simp [jtys] at hk
theorem st_cls {args : Array Value} {s : State} (hts : ∀ w ∈ jTW, w.before args s = true) : ∃ (dC : Nat → ClassId) (dI : Nat → Nat → Nat), ∀ (k : Nat) (q : vw_C), vwCl[k]? = some q → u_Kn s q.1 q.2.1 q.2.2 (dC k) (dI k) := by
  obtain ⟨c0, iS0, hK0⟩ := u_known (C := RX0) (T := TX0) (N := 12) (n := 12) hts clw_0 (hts _ winst_0)
  obtain ⟨c1, iS1, hK1⟩ := u_known (C := RX1) (T := TX1) (N := 3) (n := 3) hts clw_1 (hts _ winst_1)
  obtain ⟨c2, iS2, hK2⟩ := u_known (C := RX2) (T := TX2) (N := 2) (n := 2) hts clw_2 (hts _ winst_2)
  obtain ⟨c3, iS3, hK3⟩ := u_known (C := RX3) (T := TX3) (N := 3) (n := 3) hts clw_3 (hts _ winst_3)
  obtain ⟨c4, iS4, hK4⟩ := u_known (C := RX4) (T := TX4) (N := 4) (n := 4) hts clw_4 (hts _ winst_4)
  obtain ⟨c5, iS5, hK5⟩ := u_known (C := RX5) (T := TX5) (N := 6) (n := 6) hts clw_5 (hts _ winst_5)
  obtain ⟨c6, iS6, hK6⟩ := u_known (C := RX6) (T := TX6) (N := 2) (n := 2) hts clw_6 (hts _ winst_6)
  obtain ⟨c7, iS7, hK7⟩ := u_known (C := RX7) (T := TX7) (N := 18) (n := 18) hts clw_7 (hts _ winst_7)
  obtain ⟨c8, iS8, hK8⟩ := u_known (C := RX8) (T := TX8) (N := 10) (n := 10) hts clw_8 (hts _ winst_8)
  obtain ⟨c9, iS9, hK9⟩ := u_known (C := RX9) (T := TX9) (N := 35) (n := 35) hts clw_9 (hts _ winst_9)
  refine ⟨fun k => [c0, c1, c2, c3, c4, c5, c6, c7, c8, c9].getD k c0, fun k => [iS0, iS1, iS2, iS3, iS4, iS5, iS6, iS7, iS8, iS9].getD k iS0, ?_⟩
  intro k q hq
  match k, hq with
  | 0, hq => cases hq; exact hK0
  | 1, hq => cases hq; exact hK1
  | 2, hq => cases hq; exact hK2
  | 3, hq => cases hq; exact hK3
  | 4, hq => cases hq; exact hK4
  | 5, hq => cases hq; exact hK5
  | 6, hq => cases hq; exact hK6
  | 7, hq => cases hq; exact hK7
  | 8, hq => cases hq; exact hK8
  | 9, hq => cases hq; exact hK9
  | k + 10, hq => simp [vwCl] at hq
/-- the memory behind both constructors -/
def mem0 : Mem := memX9_init (memX8_init (fun _ _ => 0))
def nu0 : Nul := nuX9_init (nuX8_init (fun _ _ => true))
theorem nu0_obj : ∀ c, c < 170 → ∀ k, k < 35 → (jFields.getD (kd c) []).getD k (0, 0) ≠ (0, 0) → (((jFields.getD (kd c) []).getD k (0, 0)).1 < 2 ∨ nu0 c k = false) := by decide +kernel
theorem nu0_arr : ∀ i, i < 10 → nu0 11 i = false := by decide +kernel
theorem kd24 : ∀ c, c < 170 → (kd c < 10 ∨ kd c = 20 ∨ kd c = 21 ∨ kd c = 22 ∨ kd c = 23 ∨ c = 11) := by decide +kernel
theorem flen : ∀ c, c < 170 → kd c < 10 → (jFields.getD (kd c) []).length ≤ 35 := by decide +kernel
theorem vwk_vws {D : va_G} {cy : jCy} {base : Nat} {mem : Mem} {H : Heap} (h : va_P D vwCl (vwk cy base mem nu0 170) H) : va_P D vwCl (vws cy base mem) H := by
  intro k q hk
  obtain ⟨hk2, rfl⟩ := vws_lt hk
  have h1 := h k _ (vwk_at hk2)
  rcases kd24 k hk2 with g | g | g | g | g | g
  · have e : cellE cy base mem k = cellK cy base mem nu0 k := by
      rw [cellE_obj rfl g, cellK_obj rfl g]
      congr 2
      apply List.ext_getElem?
      intro j
      rw [List.getElem?_mapIdx, List.getElem?_mapIdx]
      cases hq : (jFields.getD (kd k) [])[j]? with
      | none => rfl
      | some q =>
        have hj : j < 35 := Nat.lt_of_lt_of_le (List.getElem?_eq_some_iff.mp hq).1 (flen k hk2 g)
        have e3 : (jFields.getD (kd k) []).getD j (0, 0) = q := by
          generalize jFields.getD (kd k) [] = L at hq ⊢
          rw [List.getD_eq_getElem?_getD, hq]
          rfl
        have n0 := nu0_obj k hk2 j hj
        rw [e3] at n0
        show some (fv base mem k j q) = some (fvk base mem nu0 k j q)
        obtain ⟨t, f⟩ := q
        unfold fv fvk
        by_cases z : t = 0
        · simp [z]
        · by_cases z1 : t = 1
          · simp [z1]
          · have := n0 (fun w => z (congrArg Prod.fst w))
            rcases this with w | w
            · exact absurd w (by show ¬ t < 2; omega)
            · simp [z, z1, w]
    rw [e]; exact h1
  · rw [cellE_arrI g]; rw [cellK_arrI g] at h1; exact h1
  · rw [cellE_arrL g]; rw [cellK_arrL g] at h1; exact h1
  · rw [cellE_arrB g]; rw [cellK_arrB g] at h1; exact h1
  · rw [cellE_arrC g]; rw [cellK_arrC g] at h1; exact h1
  · subst g
    rw [cellE_arrR kd_11]
    rw [cellK_arrR kd_11] at h1
    refine Eq.trans h1 ?_
    rw [ln_11]
    dsimp only
    rw [vp_cell_q, vp_cell_q]
    congr 1
theorem KJ {u : jU} {p : Program} {e : Env} {R : Room} {s : State} {m : MethodId} {args : Array Value} {below : List Frame} {meth : Method} {c : Code} {nL cells slots pc : Nat} {lv : List (Nat × Value)} {st : List Value} {mem : Mem} {α : Type} {Qf : α → State → Prop} {a : α} {c1 c2 : Nat} (h : J u (p, e, R, s, m, args, below, meth, c, cells, slots) nL Qf pc lv st mem (some a)) : K u (p, e, R, s, m, args, below, meth, c, c1, c2) nL (Qf a) pc lv st mem nu0 170 cells slots := by
  intro H locs ls hP hz hZ hN hS hh
  exact h a rfl H locs ls (vwk_vws hP) hS hh
