section JO
variable {α : Type} {u : jU} {x : jX} {cc : ByteArray} {own : String} {nL : Nat} {ret : Option FieldType} {rm : Room} {Qf : α → State → Prop} {pc : Nat} {lv : List (Nat × Value)} {st : List Value} {mem : Mem} {o o' : Option α} {a b : Int}
theorem J_split {P : Prop} [Decidable P] (k1 : P → J u x nL Qf pc lv st mem o) (k2 : ¬ P → J u x nL Qf pc lv st mem o') : J u x nL Qf pc lv st mem (if P then o else o') := by
  by_cases h : P
  · rw [if_pos h]; exact k1 h
  · rw [if_neg h]; exact k2 h
theorem J_tableIn {dflt lo hi off v : Int} {offs : Array Int} {len : Nat} (tgt : Nat) (G : jG u x cc own nL ret rm) (hd : decode cc pc = .ok (.tableswitch dflt lo hi offs, len)) (hx : s32 a = v) (h1 : ¬ v < lo) (h2 : ¬ hi < v) (ho : offs[(v - lo).toNat]? = some off) (ht : (pc : Int) + off = (tgt : Int)) (k : J u x nL Qf tgt lv st mem o) : J u x nL Qf pc lv (vI a :: st) mem o := by
  obtain ⟨p, e, R, s, m, args, below, meth, c, cells, slots⟩ := x
  intro r hr H locs ls hP hS hh
  subst hx
  exact lv_tableIn G.1 G.2.1 hd (by rw [s32_toInt]; exact h1) (by rw [s32_toInt]; exact h2) (by rw [s32_toInt]; exact ho) ht (k r hr H locs ls hP hS hh)
theorem J_tableOut {dflt lo hi : Int} {offs : Array Int} {len : Nat} (tgt : Nat) (G : jG u x cc own nL ret rm) (hd : decode cc pc = .ok (.tableswitch dflt lo hi offs, len)) (hx : s32 a < lo ∨ hi < s32 a) (ht : (pc : Int) + dflt = (tgt : Int)) (k : J u x nL Qf tgt lv st mem o) : J u x nL Qf pc lv (vI a :: st) mem o := by
  obtain ⟨p, e, R, s, m, args, below, meth, c, cells, slots⟩ := x
  intro r hr H locs ls hP hS hh
  exact lv_tableOut G.1 G.2.1 hd (by rw [s32_toInt]; exact hx) ht (k r hr H locs ls hP hS hh)
theorem J_lookup {dflt off : Int} {ps : Array (Int × Int)} {len : Nat} (tgt : Nat) (G : jG u x cc own nL ret rm) (hd : decode cc pc = .ok (.lookupswitch dflt ps, len)) (hp : (ps.toList.zip (ps.toList.drop 1)).all (fun (a, next) => a.1 < next.1) = true) (ho : Op.lookupswitch.offset ps.toList dflt (s32 a) = off) (ht : (pc : Int) + off = (tgt : Int)) (k : J u x nL Qf tgt lv st mem o) : J u x nL Qf pc lv (vI a :: st) mem o := by
  obtain ⟨p, e, R, s, m, args, below, meth, c, cells, slots⟩ := x
  intro r hr H locs ls hP hS hh
  exact lv_lookup G.1 G.2.1 hd hp (by rw [s32_toInt]; exact ho) ht (k r hr H locs ls hP hS hh)
def mcpy (m : Mem) (c d : Nat) (n : Int) : Mem := fun c' i => if c' = d ∧ 0 ≤ i ∧ i < n then m c i else m c' i
theorem mcpy_ne (m : Mem) (c d : Nat) (n : Int) {c' : Nat} (h : c' ≠ d) : mcpy m c d n c' = m c' := by funext i; simp [mcpy, h]
theorem mcpy_va (mem : Mem) (c d n : Nat) : (fun j : Nat => Int32.ofInt (mcpy mem c d (n : Int) d j)) = va_cpy (fun j : Nat => Int32.ofInt (mem c j)) (fun j : Nat => Int32.ofInt (mem d j)) 0 0 n := by
  funext j
  unfold mcpy va_cpy
  by_cases hj : j < n
  · rw [if_pos ⟨rfl, by omega, by omega⟩, if_pos ⟨Nat.zero_le _, by omega⟩]
    simp
  · rw [if_neg (by omega), if_neg (by omega)]
theorem cpy_n {n : Nat} (h3 : n < 2147483648) : (Int32.ofInt (n : Int)).toNatClampNeg = n ∧ ¬ Int32.ofInt (n : Int) < 0 := by
  have sn : s32 (n : Int) = (n : Int) := by unfold s32; rw [Int.bmod_eq_of_le] <;> omega
  refine ⟨by rw [i32_clamp, sn]; exact Int.toNat_natCast n, by rw [i32_lt0, sn]; omega⟩
theorem J_copyI {c d idx n : Nat} {ni : Int} (G : jG u x cc own nL ret rm) (hw : Cond.methodLink own idx arraycopyName ∈ jTW) (hn1 : Cond.native arraycopyName ∈ jTW) (hn2 : Cond.static arraycopyName ∈ jTW) (hn3 : Cond.initialized "java/lang/System" ∈ jTW) (hkc : kd c = 20) (hkd : kd d = 20) (h1 : n ≤ ln c) (h2 : n ≤ ln d) (h3 : n < 2147483648) (hi : ((n : Nat) : Int) = ni)
    (hR : 1 ≤ rm.frames ∧ (st.map fun v => v.category).sum + (nativeFrameWords "java/lang/System" "arraycopy" 5 + 11) ≤ rm.locals) (hd : decode cc pc = .ok (.invokestatic idx, 3))
    (kk : J u x nL Qf (pc + 3) lv st (mcpy mem c d ni) o) : J u x nL Qf pc lv (vI ni :: vI 0 :: vR (uB u) d :: vI 0 :: vR (uB u) c :: st) mem o := by
  subst hi
  obtain ⟨p, e, R, s, m, args, below, meth, cd, cells, slots⟩ := x
  intro r hr H locs ls hP hS hh
  obtain ⟨hx, hb, hml, hown, hts, hK, hE, hlk, hrt, hc1, hc2, hRe⟩ := G
  subst hRe
  have hcN := kd_lt hkc (by decide)
  have hdN := kd_lt hkd (by decide)
  have z0 : (Int32.ofInt 0).toNatClampNeg = 0 := by decide +kernel
  obtain ⟨zn, zp⟩ := cpy_n h3
  refine va_copyi (sp := Int32.ofInt 0) (dp := Int32.ofInt 0) (n := Int32.ofInt (n : Int)) hx hb (hml.trans hh.1.symm) hown (hts _ hw) (hts _ hn1) (hts _ hn2) (hts _ hn3) hK hP (vws_D _ _ _) hS c d 2 2 (by rw [vws_at _ _ _ hcN, cellE_arrI hkc]) (by rw [vws_at _ _ _ hdN, cellE_arrI hkd]) rfl rfl rfl (by decide +kernel) (by decide +kernel) zp (by rw [z0, zn, Nat.zero_add]; exact h1) (by rw [z0, zn, Nat.zero_add]; exact h2) (fun i _ => rfl) hR.1 hR.2 hd ?_
  intro H1 locs1 hP1 _ hS1
  refine kk r hr H1 locs1 ls ?_ hS1 hh
  have hset := vws_set (cy := u.2.2.1) (base := uB u) (mem := mem) (mem' := mcpy mem c d (n : Int)) hdN (fun c' hc' => cellE_congr (mcpy_ne _ _ _ _ hc'))
  rw [cellE_arrI hkd] at hset
  rw [← hset]
  have hf := mcpy_va mem c d n
  rw [z0, zn] at hP1
  rw [hf]
  exact hP1
theorem J_imax {idx : Nat} (G : jG u x cc own nL ret rm) (hw : Cond.methodLink own idx Lib.Math.max.name ∈ jTW) (h1 : Cond.static Lib.Math.max.name ∈ jTW) (h2 : Cond.initialized "java/lang/Math" ∈ jTW) (h3 : Cond.code Lib.Math.max.name Lib.Math.max.code 2 (some .int) ∈ jTW) (hR : 1 ≤ rm.frames ∧ (st.map fun v => v.category).sum + 13 ≤ rm.locals) (hd : decode cc pc = .ok (.invokestatic idx, 3)) (kk : J u x nL Qf (pc + 3) lv (vI (if s32 a < s32 b then b else a) :: st) mem o) : J u x nL Qf pc lv (vI b :: vI a :: st) mem o := by
  obtain ⟨p, e, R, s, m, args, below, meth, cd, cells, slots⟩ := x
  intro r hr H locs ls hP hS hh
  obtain ⟨hx, hb, hml, hown, hts, hK, hE, hlk, hrt, hc1, hc2, hRe⟩ := G
  subst hRe
  refine va_mmax hx hb (hml.trans hh.1.symm) hown (hts _ hw) (hts _ h1) (hts _ h2) (hts _ h3) hR.1 hR.2 hc1 hc2 hd ?_
  have k := kk r hr H locs ls hP hS hh
  by_cases h : s32 a < s32 b
  · rw [if_pos h] at k; rw [if_pos ((i32_lt a b).mpr h)]; exact k
  · rw [if_neg h] at k; rw [if_neg (fun z => h ((i32_lt a b).mp z))]; exact k
theorem J_imin {idx : Nat} (G : jG u x cc own nL ret rm) (hw : Cond.methodLink own idx Lib.Math.min.name ∈ jTW) (h1 : Cond.static Lib.Math.min.name ∈ jTW) (h2 : Cond.initialized "java/lang/Math" ∈ jTW) (h3 : Cond.code Lib.Math.min.name Lib.Math.min.code 2 (some .int) ∈ jTW) (hR : 1 ≤ rm.frames ∧ (st.map fun v => v.category).sum + 13 ≤ rm.locals) (hd : decode cc pc = .ok (.invokestatic idx, 3)) (kk : J u x nL Qf (pc + 3) lv (vI (if s32 b < s32 a then b else a) :: st) mem o) : J u x nL Qf pc lv (vI b :: vI a :: st) mem o := by
  obtain ⟨p, e, R, s, m, args, below, meth, cd, cells, slots⟩ := x
  intro r hr H locs ls hP hS hh
  obtain ⟨hx, hb, hml, hown, hts, hK, hE, hlk, hrt, hc1, hc2, hRe⟩ := G
  subst hRe
  refine va_mmin hx hb (hml.trans hh.1.symm) hown (hts _ hw) (hts _ h1) (hts _ h2) (hts _ h3) hR.1 hR.2 hc1 hc2 hd ?_
  have k := kk r hr H locs ls hP hS hh
  by_cases h : s32 b < s32 a
  · rw [if_pos h] at k; rw [if_pos ((i32_lt b a).mpr h)]; exact k
  · rw [if_neg h] at k; rw [if_neg (fun z => h ((i32_lt b a).mp z))]; exact k
theorem J_lmax {idx : Nat} (G : jG u x cc own nL ret rm) (hw : Cond.methodLink own idx Lib.MathLoose.max_long.x ∈ jTW) (h1 : Cond.static Lib.MathLoose.max_long.x ∈ jTW) (h2 : Cond.initialized "java/lang/Math" ∈ jTW) (h3 : Cond.code Lib.MathLoose.max_long.x Lib.MathLoose.max_long.code 4 (some .long) ∈ jTW) (hR : 1 ≤ rm.frames ∧ (st.map fun v => v.category).sum + 15 ≤ rm.locals) (hd : decode cc pc = .ok (.invokestatic idx, 3)) (kk : J u x nL Qf (pc + 3) lv (vL (if s64 b < s64 a then a else b) :: st) mem o) : J u x nL Qf pc lv (vL b :: vL a :: st) mem o := by
  obtain ⟨p, e, R, s, m, args, below, meth, cd, cells, slots⟩ := x
  intro r hr H locs ls hP hS hh
  obtain ⟨hx, hb, hml, hown, hts, hK, hE, hlk, hrt, hc1, hc2, hRe⟩ := G
  subst hRe
  refine va_mmax_long hx hb (hml.trans hh.1.symm) hown (hts _ hw) (hts _ h1) (hts _ h2) (hts _ h3) hR.1 hR.2 hc1 hc2 hd ?_
  have k := kk r hr H locs ls hP hS hh
  by_cases h : s64 b < s64 a
  · rw [if_pos h] at k; rw [if_pos ((i64_lt b a).mpr h)]; exact k
  · rw [if_neg h] at k; rw [if_neg (fun z => h ((i64_lt b a).mp z))]; exact k
theorem J_lmin {idx : Nat} (G : jG u x cc own nL ret rm) (hw : Cond.methodLink own idx Lib.MathLoose.min_long.x ∈ jTW) (h1 : Cond.static Lib.MathLoose.min_long.x ∈ jTW) (h2 : Cond.initialized "java/lang/Math" ∈ jTW) (h3 : Cond.code Lib.MathLoose.min_long.x Lib.MathLoose.min_long.code 4 (some .long) ∈ jTW) (hR : 1 ≤ rm.frames ∧ (st.map fun v => v.category).sum + 15 ≤ rm.locals) (hd : decode cc pc = .ok (.invokestatic idx, 3)) (kk : J u x nL Qf (pc + 3) lv (vL (if s64 b < s64 a then b else a) :: st) mem o) : J u x nL Qf pc lv (vL b :: vL a :: st) mem o := by
  obtain ⟨p, e, R, s, m, args, below, meth, cd, cells, slots⟩ := x
  intro r hr H locs ls hP hS hh
  obtain ⟨hx, hb, hml, hown, hts, hK, hE, hlk, hrt, hc1, hc2, hRe⟩ := G
  subst hRe
  refine va_mmin_long hx hb (hml.trans hh.1.symm) hown (hts _ hw) (hts _ h1) (hts _ h2) (hts _ h3) hR.1 hR.2 hc1 hc2 hd ?_
  have k := kk r hr H locs ls hP hS hh
  by_cases h : s64 b < s64 a
  · rw [if_pos h] at k; rw [if_pos ((i64_lt b a).mpr h)]; exact k
  · rw [if_neg h] at k; rw [if_neg (fun z => h ((i64_lt b a).mp z))]; exact k
theorem J_labs {idx : Nat} (G : jG u x cc own nL ret rm) (hw : Cond.methodLink own idx Lib.MathLoose.abs_long.x ∈ jTW) (h1 : Cond.static Lib.MathLoose.abs_long.x ∈ jTW) (h2 : Cond.initialized "java/lang/Math" ∈ jTW) (h3 : Cond.code Lib.MathLoose.abs_long.x Lib.MathLoose.abs_long.code 2 (some .long) ∈ jTW) (hR : 1 ≤ rm.frames ∧ (st.map fun v => v.category).sum + 13 ≤ rm.locals) (hd : decode cc pc = .ok (.invokestatic idx, 3)) (kk : J u x nL Qf (pc + 3) lv (vL (if 0 < s64 a then a else -a) :: st) mem o) : J u x nL Qf pc lv (vL a :: st) mem o := by
  obtain ⟨p, e, R, s, m, args, below, meth, cd, cells, slots⟩ := x
  intro r hr H locs ls hP hS hh
  obtain ⟨hx, hb, hml, hown, hts, hK, hE, hlk, hrt, hc1, hc2, hRe⟩ := G
  subst hRe
  refine va_mabs_long hx hb (hml.trans hh.1.symm) hown (hts _ hw) (hts _ h1) (hts _ h2) (hts _ h3) hR.1 hR.2 hc1 hc2 hd ?_
  have k := kk r hr H locs ls hP hS hh
  have i0 : 0 < Int64.ofInt a ↔ 0 < s64 a := by rw [show (0 : Int64) = Int64.ofInt 0 by decide +kernel, i64_lt, s64_0]
  by_cases h : 0 < s64 a
  · rw [if_pos h] at k; rw [if_pos (i0.mpr h)]; exact k
  · rw [if_neg h, vL, Int64.ofInt_neg] at k; rw [if_neg (fun z => h (i0.mp z))]; exact k
theorem J_lxor (G : jG u x cc own nL ret rm) (hd : decode cc pc = .ok (.lxor, 1)) (k : J u x nL Qf (pc + 1) lv (vL (Int64.ofInt a ^^^ Int64.ofInt b).toInt :: st) mem o) : J u x nL Qf pc lv (vL b :: vL a :: st) mem o := by
  obtain ⟨p, e, R, s, m, args, below, meth, c, cells, slots⟩ := x
  intro r hr H locs ls hP hS hl
  have k := k r hr H locs ls hP hS hl
  rw [vL, i64_of] at k
  exact lv_lxor G.1 G.2.1 hd k
end JO
section JZ
variable {α β : Type} {u : jU} {x : jX} {cc : ByteArray} {own : String} {nL : Nat} {ret : Option FieldType} {rm : Room} {Qf : α → State → Prop} {pc : Nat} {lv : List (Nat × Value)} {st : List Value} {mem : Mem} {o o' : Option α} {a b : Int} {E : β → Option Value × Mem}
def bz {α : Type} (r : Int) (k : Option α) : Option α := if r = 0 ∨ r = 1 then k else none
theorem J_zretB {bb : β} (G : jG u x cc own nL (some .boolean) rm) (hd : decode cc pc = .ok (.ireturn, 1)) (hE : E bb = (some (vI a), mem)) : J u x nL (jQ u x E) pc lv [vI a] mem (bz a (some bb)) := by
  unfold bz
  refine J_split (fun h => ?_) (fun _ => J_none)
  exact J_zret G hd (by rcases h with rfl | rfl <;> decide) hE
abbrev uN (u : jU) : Nat := u.2.2.2.2.2.2
def numsF (i : Int) : Int := ([1, 1, 1, 2, 3, 2] : List Int).getD i.toNat 0
theorem J_getNums {idx : Nat} (G : jG u x cc own nL ret rm) (hw : Cond.fieldLink own idx RX5 "NUMBERS" "[I" ∈ jTW) (hd : decode cc pc = .ok (.getstatic idx, 3)) (kk : J u x nL Qf (pc + 3) lv (.ref (uN u) :: st) mem o) : J u x nL Qf pc lv st mem o := by
  obtain ⟨p, e, R, s, m, args, below, meth, c, cells, slots⟩ := x
  intro r hr H locs ls hP hS hh
  exact va_gets G.1 G.2.1 G.2.2.2.2.2.2.1.2.1 hS G.2.2.2.1 (G.2.2.2.2.1 _ hw) (fun _ h => h) hd (kk r hr H locs ls hP hS hh)
theorem nums_at {i : Int} (h : 0 ≤ s32 i ∧ s32 i < (6 : Nat)) : jNums (Int32.ofInt i).toNatClampNeg = vI (numsF (s32 i)) := by
  rw [i32_clamp]
  have key : ∀ j : Nat, j < 6 → jNums j = vI (numsF (j : Int)) := by
    intro j hj
    match j, hj with
    | 0, _ => rfl
    | 1, _ => rfl
    | 2, _ => rfl
    | 3, _ => rfl
    | 4, _ => rfl
    | 5, _ => rfl
  rw [key _ (by omega), Int.toNat_of_nonneg h.1]
theorem J_nums {i : Int} (G : jG u x cc own nL ret rm) (hd : decode cc pc = .ok (.iaload, 1)) (kk : J u x nL Qf (pc + 1) lv (vI (numsF (s32 i)) :: st) mem o) : J u x nL Qf pc lv (vI i :: .ref (uN u) :: st) mem (ck i 6 o) := by
  obtain ⟨p, e, R, s, m, args, below, meth, c, cells, slots⟩ := x
  intro r hr H locs ls hP hS hh
  obtain ⟨hc, hk⟩ := ck_some hr
  exact va_ti G.1 G.2.1 G.2.2.2.2.2.2.1.2.2.1 hS (ck_in hc) (nums_at hc) hd (kk r hk H locs ls hP hS hh)
end JZ
