/-! constructors: a world that grows. Cells below n are there; nu tells which references are still null -/
abbrev Nul : Type := Nat → Nat → Bool
def nset (nu : Nul) (c k : Nat) : Nul := fun c' k' => if c' = c ∧ k' = k then false else nu c' k'
def fvk (base : Nat) (mem : Mem) (nu : Nul) (c : Nat) (k : Nat) (q : Nat × Nat) : Value := if q.1 = 0 then vI (mem c k) else if q.1 = 1 then vL (mem c k) else if nu c k = true then .null else vR base (c + q.2)
def cellK (cy : jCy) (base : Nat) (mem : Mem) (nu : Nul) (c : Nat) : va_E :=
  if kd c < 10 then .inr (kd c, (jFields.getD (kd c) []).mapIdx (fvk base mem nu c))
  else if kd c = 20 then .inl (cy.2.2.1, ln c, .inl (fun i => Int32.ofInt (mem c i)))
  else if kd c = 21 then .inl (cy.2.2.2.1, ln c, .inr (.inl (fun i => Int64.ofInt (mem c i))))
  else if kd c = 22 then .inl (cy.1, ln c, .inl (fun i => Int32.ofInt (mem c i)))
  else if kd c = 23 then .inl (cy.2.1, ln c, .inl (fun i => Int32.ofInt (mem c i)))
  else .inl (cy.2.2.2.2, ln c, .inr (.inr (.inr (.inr (fun i => if nu c i = true then none else some (base + (c + 1 + 9 * i)))))))
def vwk (cy : jCy) (base : Nat) (mem : Mem) (nu : Nul) (n : Nat) : va_W := (List.range n).map (fun c => (base + c, cellK cy base mem nu c))
def kZ (mem : Mem) (n : Nat) : Prop := ∀ (c : Nat) (i : Int), n ≤ c → mem c i = 0
def kN (nu : Nul) (n : Nat) : Prop := ∀ (c k : Nat), n ≤ c → nu c k = true
theorem kZ.set {mem : Mem} {n c : Nat} {i v : Int} (h : kZ mem n) (hc : c < n) : kZ (mset mem c i v) n := fun c' i' h' => by
  rw [mset_ne _ _ _ _ (by omega)]; exact h c' i' h'
theorem kN.set {nu : Nul} {n c k : Nat} (h : kN nu n) (hc : c < n) : kN (nset nu c k) n := fun c' k' h' => by
  unfold nset; rw [if_neg (by omega)]; exact h c' k' h'
theorem kZ.up {mem : Mem} {n : Nat} (h : kZ mem n) : kZ mem (n + 1) := fun c i h' => h c i (by omega)
theorem kN.up {nu : Nul} {n : Nat} (h : kN nu n) : kN nu (n + 1) := fun c k h' => h c k (by omega)
section KW
variable {cy : jCy} {base : Nat} {mem mem' : Mem} {nu nu' : Nul} {n c ci k : Nat}
theorem vwk_at (h : c < n) : (vwk cy base mem nu n)[c]? = some (base + c, cellK cy base mem nu c) := by
  unfold vwk
  rw [List.getElem?_map, List.getElem?_range h]
  rfl
theorem vwk_lt {q : Nat × va_E} (h : (vwk cy base mem nu n)[c]? = some q) : c < n ∧ q = (base + c, cellK cy base mem nu c) := by
  have h1 : c < (vwk cy base mem nu n).length := (List.getElem?_eq_some_iff.mp h).1
  have h2 : c < n := by simpa [vwk] using h1
  rw [vwk_at h2] at h
  exact ⟨h2, (Option.some.inj h).symm⟩
theorem vwk_D : va_D (jA base) (vwk cy base mem nu n) := by
  refine ⟨fun i j p q hi hj h => ?_, fun k q hk => ?_⟩
  · obtain ⟨-, e1⟩ := vwk_lt hi
    obtain ⟨-, e2⟩ := vwk_lt hj
    rw [e1, e2] at h
    have : base + i = base + j := h
    omega
  · obtain ⟨-, e1⟩ := vwk_lt hk
    rw [e1]
    exact Nat.le_add_right _ _
theorem vwk_set (hc : c < n) (h : ∀ c', c' ≠ c → cellK cy base mem' nu' c' = cellK cy base mem nu c') : (vwk cy base mem nu n).set c (base + c, cellK cy base mem' nu' c) = vwk cy base mem' nu' n := by
  apply List.ext_getElem?
  intro k
  by_cases hk : k = c
  · subst hk
    rw [List.getElem?_set_self (by simpa [vwk] using hc), vwk_at hc]
  · rw [List.getElem?_set_ne (Ne.symm hk)]
    by_cases hl : k < n
    · rw [vwk_at hl, vwk_at hl, h k hk]
    · rw [List.getElem?_eq_none (by simpa [vwk] using Nat.le_of_not_lt hl), List.getElem?_eq_none (by simpa [vwk] using Nat.le_of_not_lt hl)]
theorem vwk_push : vwk cy base mem nu (n + 1) = vwk cy base mem nu n ++ [(base + n, cellK cy base mem nu n)] := by
  unfold vwk
  rw [List.range_succ, List.map_append]
  rfl
theorem cellK_congr (h : mem' c = mem c) (h2 : nu' c = nu c) : cellK cy base mem' nu' c = cellK cy base mem nu c := by
  unfold cellK fvk
  rw [h, h2]
theorem nset_ne {c' : Nat} (h : c' ≠ c) : nset nu c k c' = nu c' := by funext i; simp [nset, h]
theorem cellK_obj (h : kd c = ci) (hc : ci < 10) : cellK cy base mem nu c = .inr (ci, (jFields.getD ci []).mapIdx (fvk base mem nu c)) := by
  subst h
  unfold cellK
  rw [if_pos hc]
theorem cellK_arrI (h : kd c = 20) : cellK cy base mem nu c = .inl (cy.2.2.1, ln c, .inl (fun i => Int32.ofInt (mem c i))) := by unfold cellK; rw [h]; rfl
theorem cellK_arrL (h : kd c = 21) : cellK cy base mem nu c = .inl (cy.2.2.2.1, ln c, .inr (.inl (fun i => Int64.ofInt (mem c i)))) := by unfold cellK; rw [h]; rfl
theorem cellK_arrB (h : kd c = 22) : cellK cy base mem nu c = .inl (cy.1, ln c, .inl (fun i => Int32.ofInt (mem c i))) := by unfold cellK; rw [h]; rfl
theorem cellK_arrC (h : kd c = 23) : cellK cy base mem nu c = .inl (cy.2.1, ln c, .inl (fun i => Int32.ofInt (mem c i))) := by unfold cellK; rw [h]; rfl
theorem cellK_arrR (h : kd c = 24) : cellK cy base mem nu c = .inl (cy.2.2.2.2, ln c, .inr (.inr (.inr (.inr (fun i => if nu c i = true then none else some (base + (c + 1 + 9 * i))))))) := by unfold cellK; rw [h]; rfl
theorem fieldsK_at {q : Nat × Nat} (h : (jFields.getD ci [])[k]? = some q) : ((jFields.getD ci []).mapIdx (fvk base mem nu c))[k]? = some (fvk base mem nu c k q) := by
  rw [List.getElem?_mapIdx, h]
  rfl
theorem fieldsK_set {q : Nat × Nat} {v : Int} (h : (jFields.getD ci [])[k]? = some q) : ((jFields.getD ci []).mapIdx (fvk base mem nu c)).set k (fvk base (mset mem c k v) nu c k q) = (jFields.getD ci []).mapIdx (fvk base (mset mem c k v) nu c) := by
  apply List.ext_getElem?
  intro j
  by_cases hj : j = k
  · subst hj
    have hl : j < (jFields.getD ci []).length := (List.getElem?_eq_some_iff.mp h).1
    rw [List.getElem?_set_self (by simpa using hl), fieldsK_at h]
  · rw [List.getElem?_set_ne (Ne.symm hj), List.getElem?_mapIdx, List.getElem?_mapIdx]
    congr 1
    funext q'
    have hne : (j : Int) ≠ (k : Int) := by omega
    simp [fvk, mset, hne]
theorem fieldsK_nset {q : Nat × Nat} (h : (jFields.getD ci [])[k]? = some q) : ((jFields.getD ci []).mapIdx (fvk base mem nu c)).set k (fvk base mem (nset nu c k) c k q) = (jFields.getD ci []).mapIdx (fvk base mem (nset nu c k) c) := by
  apply List.ext_getElem?
  intro j
  by_cases hj : j = k
  · subst hj
    have hl : j < (jFields.getD ci []).length := (List.getElem?_eq_some_iff.mp h).1
    rw [List.getElem?_set_self (by simpa using hl), fieldsK_at h]
  · rw [List.getElem?_set_ne (Ne.symm hj), List.getElem?_mapIdx, List.getElem?_mapIdx]
    congr 1
    funext q'
    simp [fvk, nset, hj]
end KW
def kPic (u : jU) (mem : Mem) (nu : Nul) (n : Nat) (U : State) : Prop := va_P u.2.1 vwCl (vwk u.2.2.1 (uB u) mem nu n) U.heap ∧ U.heap.size = uB u + n ∧ kZ mem n ∧ kN nu n ∧ va_K u.2.1 vwCl (jtys u.2.2.1) U ∧ jEnv u U
def kRm (f l mc ms : Nat) : Room := { frames := f, cells := mc, slots := ms, locals := l }
def kMet (u : jU) (y : MethodName) (cc : ByteArray) (nL : Nat) (rm : Room) (as : List Value) (mem : Mem) (nu : Nul) (n : Nat) (mem' : Mem) (nu' : Nul) (n' : Nat) : Prop :=
  Met u.1 y (.code y cc nL none :: jTW) rm (va_Pc as (kPic u mem nu n)) (fun _ st oc t => (oc = .returned none ∧ kPic u mem' nu' n' t) ∧ va_F (jA (uB u)) st t) rm.cells rm.slots (jA (uB u))
def K (u : jU) (x : jX) (nL : Nat) (Q : State → Prop) (pc : Nat) (lv : List (Nat × Value)) (st : List Value) (mem : Mem) (nu : Nul) (n cells slots : Nat) : Prop := match x with
  | (p, e, R, s, m, args, below, meth, c, _, _) => ∀ (H : Heap) (locs : List Loc) (ls : Array Slot), va_P u.2.1 vwCl (vwk u.2.2.1 (uB u) mem nu n) H → H.size = uB u + n → kZ mem n → kN nu n → va_S (jA (uB u)) s.heap H locs → lv_has ls nL lv → W p u.1 e R s m args below meth c H locs cells slots Q (F0 m pc ls st)
def kG (u : jU) (x : jX) (cc : ByteArray) (own : String) (nL : Nat) (ret : Option FieldType) (rm : Room) : Prop := jG u x cc own nL ret rm ∧ (match x with | (_, _, _, s, _, _, _, _, _, _, _) => uB u ≤ s.heap.size)
def kI (x : jX) : Prop := match x with | (_, _, _, _, _, _, _, meth, _, _, _) => meth.name = "<init>"
section KR
variable {u : jU} {x : jX} {cc : ByteArray} {own : String} {nL : Nat} {ret : Option FieldType} {rm : Room} {Q : State → Prop} {pc : Nat} {lv : List (Nat × Value)} {st : List Value} {mem : Mem} {nu : Nul} {n cells slots : Nat} {a b : Int}
theorem K_iconst {v : Int} (G : kG u x cc own nL ret rm) (hd : decode cc pc = .ok (.iconst v, 1)) (k : K u x nL Q (pc + 1) lv (vI v :: st) mem nu n cells slots) : K u x nL Q pc lv (st) mem nu n cells slots := by
  obtain ⟨p, e, R, s, m, args, below, meth, cd, c1, c2⟩ := x
  intro H locs ls hP hz hZ hN hS hh
  exact lv_iconst G.1.1 G.1.2.1 hd rfl (k H locs ls hP hz hZ hN hS hh)
theorem K_bipush {v : Int} (G : kG u x cc own nL ret rm) (hv : (Int8.ofInt v).toInt32 = Int32.ofInt v) (hd : decode cc pc = .ok (.bipush v, 2)) (k : K u x nL Q (pc + 2) lv (vI v :: st) mem nu n cells slots) : K u x nL Q pc lv (st) mem nu n cells slots := by
  obtain ⟨p, e, R, s, m, args, below, meth, cd, c1, c2⟩ := x
  intro H locs ls hP hz hZ hN hS hh
  exact lv_bipush G.1.1 G.1.2.1 hd hv (k H locs ls hP hz hZ hN hS hh)
theorem K_sipush {v : Int} (G : kG u x cc own nL ret rm) (hv : (Int16.ofInt v).toInt32 = Int32.ofInt v) (hd : decode cc pc = .ok (.sipush v, 3)) (k : K u x nL Q (pc + 3) lv (vI v :: st) mem nu n cells slots) : K u x nL Q pc lv (st) mem nu n cells slots := by
  obtain ⟨p, e, R, s, m, args, below, meth, cd, c1, c2⟩ := x
  intro H locs ls hP hz hZ hN hS hh
  exact lv_sipush G.1.1 G.1.2.1 hd hv (k H locs ls hP hz hZ hN hS hh)
theorem K_lconst {f : Fin 2} {v : Int} (G : kG u x cc own nL ret rm) (hv : Int64.ofNat (f : Nat) = Int64.ofInt v) (hd : decode cc pc = .ok (.lconst f, 1)) (k : K u x nL Q (pc + 1) lv (vL v :: st) mem nu n cells slots) : K u x nL Q pc lv (st) mem nu n cells slots := by
  obtain ⟨p, e, R, s, m, args, below, meth, cd, c1, c2⟩ := x
  intro H locs ls hP hz hZ hN hS hh
  exact lv_lconst G.1.1 G.1.2.1 hd hv (k H locs ls hP hz hZ hN hS hh)
theorem K_dup {v : Value} (G : kG u x cc own nL ret rm) (hv : v.category = 1) (hd : decode cc pc = .ok (.dup, 1)) (k : K u x nL Q (pc + 1) lv (v :: v :: st) mem nu n cells slots) : K u x nL Q pc lv (v :: st) mem nu n cells slots := by
  obtain ⟨p, e, R, s, m, args, below, meth, cd, c1, c2⟩ := x
  intro H locs ls hP hz hZ hN hS hh
  exact lv_dup G.1.1 G.1.2.1 hd hv (k H locs ls hP hz hZ hN hS hh)
theorem K_aload_n {q : Fin 4} {d : Nat} (G : kG u x cc own nL ret rm) (i : Nat) (hl : lv[i]? = some ((q : Nat), vR (uB u) d)) (hd : decode cc pc = .ok (.aload_n q, 1)) (k : K u x nL Q (pc + 1) lv (vR (uB u) d :: st) mem nu n cells slots) : K u x nL Q pc lv (st) mem nu n cells slots := by
  obtain ⟨p, e, R, s, m, args, below, meth, cd, c1, c2⟩ := x
  intro H locs ls hP hz hZ hN hS hh
  exact lv_aload_n G.1.1 G.1.2.1 hd rfl (lv_at hh i hl) (k H locs ls hP hz hZ hN hS hh)
theorem K_iload_n {q : Fin 4} (G : kG u x cc own nL ret rm) (i : Nat) (hl : lv[i]? = some ((q : Nat), vI a)) (hd : decode cc pc = .ok (.iload_n q, 1)) (k : K u x nL Q (pc + 1) lv (vI a :: st) mem nu n cells slots) : K u x nL Q pc lv (st) mem nu n cells slots := by
  obtain ⟨p, e, R, s, m, args, below, meth, cd, c1, c2⟩ := x
  intro H locs ls hP hz hZ hN hS hh
  exact lv_iload_n G.1.1 G.1.2.1 hd rfl (lv_at hh i hl) (k H locs ls hP hz hZ hN hS hh)
theorem K_istore_n {f : Fin 4} {i : Nat} {lv' : List (Nat × Value)} (G : kG u x cc own nL ret rm) (hd : decode cc pc = .ok (.istore_n f, 1)) (hi : (f : Nat) = i) (hn : i < nL) (hl : (i, vI a) :: lv.filter (fun q => !(q.1 == i) && !(q.1 + 1 == i && q.2.category == 2)) = lv') (k : K u x nL Q (pc + 1) lv' st mem nu n cells slots) : K u x nL Q pc lv (vI a :: st) mem nu n cells slots := by
  obtain ⟨p, e, R, s, m, args, below, meth, cd, c1, c2⟩ := x
  intro H locs ls hP hz hZ hN hS hh
  exact lv_istore_n G.1.1 G.1.2.1 hd hi hh hn hl (fun ls' hh' => k H locs ls' hP hz hZ hN hS hh')
theorem K_iinc {i : Nat} {z : Int} {lv' : List (Nat × Value)} (G : kG u x cc own nL ret rm) (j : Nat) (hd : decode cc pc = .ok (.iinc i z, 3)) (hk : lv[j]? = some (i, vI a)) (hb : a + z = b) (hn : i < nL) (hl : (i, vI b) :: lv.filter (fun q => !(q.1 == i) && !(q.1 + 1 == i && q.2.category == 2)) = lv') (k : K u x nL Q (pc + 3) lv' st mem nu n cells slots) : K u x nL Q pc lv st mem nu n cells slots := by
  obtain ⟨p, e, R, s, m, args, below, meth, cd, c1, c2⟩ := x
  intro H locs ls hP hz hZ hN hS hh
  subst hb
  exact lv_iinc G.1.1 G.1.2.1 hd hh hk (by rw [← Int32.ofInt_add]) hn hl (fun ls' hh' => k H locs ls' hP hz hZ hN hS hh')
theorem K_goto {off : Int} (tgt : Nat) (G : kG u x cc own nL ret rm) (hd : decode cc pc = .ok (.goto off, 3)) (ht : (pc : Int) + off = (tgt : Int)) (k : K u x nL Q tgt lv st mem nu n cells slots) : K u x nL Q pc lv st mem nu n cells slots := by
  obtain ⟨p, e, R, s, m, args, below, meth, cd, c1, c2⟩ := x
  intro H locs ls hP hz hZ hN hS hh
  exact lv_goto G.1.1 G.1.2.1 hd ht (k H locs ls hP hz hZ hN hS hh)
theorem K_icmp_geT {off : Int} (tgt : Nat) (G : kG u x cc own nL ret rm) (hd : decode cc pc = .ok (.if_icmp .ge off, 3)) (ht : (pc : Int) + off = (tgt : Int)) (hc : s32 b ≤ s32 a) (k : K u x nL Q tgt lv st mem nu n cells slots) : K u x nL Q pc lv (vI b :: vI a :: st) mem nu n cells slots := by
  obtain ⟨p, e, R, s, m, args, below, meth, cd, c1, c2⟩ := x
  intro H locs ls hP hz hZ hN hS hh
  exact lv_icmp_ge G.1.1 G.1.2.1 hd ht (fun _ => k H locs ls hP hz hZ hN hS hh) (fun q => absurd ((i32_le b a).mpr hc) q)
theorem K_icmp_geF {off : Int} (tgt : Nat) (G : kG u x cc own nL ret rm) (hd : decode cc pc = .ok (.if_icmp .ge off, 3)) (ht : (pc : Int) + off = (tgt : Int)) (hc : ¬ s32 b ≤ s32 a) (k : K u x nL Q (pc + 3) lv st mem nu n cells slots) : K u x nL Q pc lv (vI b :: vI a :: st) mem nu n cells slots := by
  obtain ⟨p, e, R, s, m, args, below, meth, cd, c1, c2⟩ := x
  intro H locs ls hP hz hZ hN hS hh
  exact lv_icmp_ge G.1.1 G.1.2.1 hd ht (fun q => absurd ((i32_le b a).mp q) hc) (fun _ => k H locs ls hP hz hZ hN hS hh)
theorem K_objInit {idx d : Nat} (G : kG u x cc own nL ret rm) (hw : Cond.methodLink own idx Lib.objectInit ∈ jTW) (h1 : Cond.instanceMethod Lib.objectInit ∈ jTW) (h2 : Cond.code Lib.objectInit ⟨#[0xb1]⟩ 1 none ∈ jTW) (hR : 1 ≤ rm.frames ∧ (st.map fun v => v.category).sum + 12 ≤ rm.locals) (hd : decode cc pc = .ok (.invokespecial idx, 3)) (k : K u x nL Q (pc + 3) lv st mem nu n cells slots) : K u x nL Q pc lv (vR (uB u) d :: st) mem nu n cells slots := by
  obtain ⟨p, e, R, s, m, args, below, meth, cd, c1, c2⟩ := x
  intro H locs ls hP hz hZ hN hS hh
  obtain ⟨hx, hb, hml, hown, hts, hK, hE, hlk, hrt, hc1, hc2, hRe⟩ := G.1
  subst hRe
  exact W.objInit hx hb hown (hts _ hw) (hts _ h1) (hts _ h2) rfl (hh.1.trans hml.symm) rfl hd hR.1 (by show 2 * 0 + _ + 12 ≤ _; omega) (k H locs ls hP hz hZ hN hS hh)
theorem K_new {idx ci N n' c' s' : Nat} {C : String} {T : u_T} {ty : Nat → FieldType} (G : kG u x cc own nL ret rm) (hC : jCls ci C T N ty) (hdef : ∀ j, j < N → defaultValue (ty j) = (match (jFields.getD ci []).getD j (0, 0) with | (0, _) => Value.int 0 | (1, _) => .long 0 | _ => .null)) (hw1 : Cond.classLink own idx C ∈ jTW) (hw2 : Cond.instantiable C N ∈ jTW) (hw3 : Cond.initialized C ∈ jTW) (hkd : kd n = ci) (hn : n + 1 = n') (hc' : cells + 1 = c') (hs' : slots + N = s') (hR : c' ≤ rm.cells ∧ s' ≤ rm.slots) (hd : decode cc pc = .ok (.new idx, 3)) (k : K u x nL Q (pc + 3) lv (vR (uB u) n :: st) mem nu n' c' s') : K u x nL Q pc lv st mem nu n cells slots := by
  obtain ⟨p, e, R, s, m, args, below, meth, cd, c1, c2⟩ := x
  intro H locs ls hP hz hZ hN hS hh
  subst hn; subst hc'; subst hs'
  obtain ⟨hx, hb, hml, hown, hts, hK, hE, hlk, hrt, hc1, hc2, hRe⟩ := G.1
  subst hRe
  obtain ⟨h1, h2, h3, h4, h5, h6⟩ := hC
  have hKn := hK.1 ci _ h1
  refine W.newcK hx hb hown (hts _ hw1) (hts _ hw2) (hts _ hw3) rfl hd hR.1 hR.2 hKn.2.1 hz fun H1 kC hkC e1 z1 o1 => ?_
  refine k H1 locs ls ?_ (by rw [z1]; omega) hZ.up hN.up ⟨Nat.le_trans hS.1 (by omega), fun q g1 g2 => (o1 q (by have := hS.1; omega)).trans (hS.2.1 q g1 g2), hS.2.2⟩ hh
  rw [vwk_push]
  have hk : ∀ (k : Nat) (x : Nat × va_E), (vwk u.2.2.1 (uB u) mem nu n)[k]? = some x → H1[x.1]? = H[x.1]? := fun k x hx => o1 x.1 (by have := (hP k x hx).lt; omega)
  refine (hP.kept hk).app (fun j y hj => ?_)
  have hj0 : j < 1 := (List.getElem?_eq_some_iff.mp hj).1
  rw [show j = 0 by omega] at hj
  cases hj
  rw [cellK_obj hkd h6]
  refine ⟨_, h1, (u_born ty hts h2 hKn hkC e1 h3).to (fun j hj => ?_)⟩
  rw [hdef j hj]
  have hl : j < (jFields.getD ci []).length := by rw [h5]; exact hj
  obtain ⟨q, hq⟩ : ∃ q, (jFields.getD ci [])[j]? = some q := ⟨_, List.getElem?_eq_getElem hl⟩
  have e3 : (jFields.getD ci []).getD j (0, 0) = q := by
    generalize jFields.getD ci [] = L at hq ⊢
    rw [List.getD_eq_getElem?_getD, hq]
    rfl
  have e4 := fieldsK_at (base := uB u) (mem := mem) (nu := nu) (c := n) hq
  rw [e3]
  have e5 : vp_V ((jFields.getD ci []).mapIdx (fvk (uB u) mem nu n)) j = fvk (uB u) mem nu n j q := by
    generalize (jFields.getD ci []).mapIdx (fvk (uB u) mem nu n) = L2 at e4 ⊢
    unfold vp_V
    rw [List.getD_eq_getElem?_getD, e4]
    rfl
  refine Eq.trans ?_ e5.symm
  obtain ⟨t, f⟩ := q
  show _ = fvk (uB u) mem nu n j (t, f)
  have e0 : mem n (j : Int) = 0 := hZ n j (Nat.le_refl n)
  have e2 : nu n j = true := hN n j (Nat.le_refl n)
  unfold fvk
  rw [e0, e2]
  match t with
  | 0 => rfl
  | 1 => rfl
  | t + 2 => simp
theorem K_newI {N n' c' s' : Nat} {i : Int} (G : kG u x cc own nL ret rm) (hw : Cond.arrayClass .int ∈ jTW) (hkd : kd n = 20) (hln : ln n = N) (hi : ((N : Nat) : Int) = i) (hN0 : N < 100000) (hn : n + 1 = n') (hc' : cells + 1 = c') (hs' : slots + N = s') (hR : c' ≤ rm.cells ∧ s' ≤ rm.slots) (hd : decode cc pc = .ok (.newarray .int, 2)) (k : K u x nL Q (pc + 2) lv (vR (uB u) n :: st) mem nu n' c' s') : K u x nL Q pc lv (vI i :: st) mem nu n cells slots := by
  subst hn; subst hc'; subst hs'; subst hi
  obtain ⟨p, e, R, s, m, args, below, meth, cd, c1, c2⟩ := x
  intro H locs ls hP hz hZ hN hS hh
  obtain ⟨hx, hb, hml, hown, hts, hK, hE, hlk, hrt, hc1, hc2, hRe⟩ := G.1
  subst hRe
  obtain ⟨zn, zp⟩ := cpy_n (n := N) (by omega)
  refine va_newaK (N := N) hx hb (atype := .int) (hts _ hw) rfl hd rfl zp zn (by show N * _ ≤ _; simp only [newarray.typeOf, componentBytes]; omega) hR.1 hR.2 hz fun H1 cA e1 z1 o1 hAr hNm => ?_
  have hcA : cA = u.2.2.1.2.2.1 := by
    have q := (hK.2 2 _ rfl).2
    exact Option.some.inj (hNm.symm.trans q)
  subst hcA
  refine k H1 locs ls ?_ (by rw [z1]; omega) hZ.up hN.up ⟨Nat.le_trans hS.1 (by omega), fun q g1 g2 => (o1 q (by have := hS.1; omega)).trans (hS.2.1 q g1 g2), hS.2.2⟩ hh
  rw [vwk_push]
  have hk : ∀ (k : Nat) (x : Nat × va_E), (vwk u.2.2.1 (uB u) mem nu n)[k]? = some x → H1[x.1]? = H[x.1]? := fun k x hx => o1 x.1 (by have := (hP k x hx).lt; omega)
  refine (hP.kept hk).app (fun j y hj => ?_)
  have hj0 : j < 1 := (List.getElem?_eq_some_iff.mp hj).1
  rw [show j = 0 by omega] at hj
  cases hj
  rw [cellK_arrI hkd, hln]
  refine e1.trans ?_
  have hf : (fun i : Nat => Int32.ofInt (mem n i)) = fun _ => 0 := by
    funext i
    rw [hZ n i (Nat.le_refl n)]
    decide
  rw [hf]
  rfl
theorem K_newL {N n' c' s' : Nat} {i : Int} (G : kG u x cc own nL ret rm) (hw : Cond.arrayClass .long ∈ jTW) (hkd : kd n = 21) (hln : ln n = N) (hi : ((N : Nat) : Int) = i) (hN0 : N < 100000) (hn : n + 1 = n') (hc' : cells + 1 = c') (hs' : slots + N = s') (hR : c' ≤ rm.cells ∧ s' ≤ rm.slots) (hd : decode cc pc = .ok (.newarray .long, 2)) (k : K u x nL Q (pc + 2) lv (vR (uB u) n :: st) mem nu n' c' s') : K u x nL Q pc lv (vI i :: st) mem nu n cells slots := by
  subst hn; subst hc'; subst hs'; subst hi
  obtain ⟨p, e, R, s, m, args, below, meth, cd, c1, c2⟩ := x
  intro H locs ls hP hz hZ hN hS hh
  obtain ⟨hx, hb, hml, hown, hts, hK, hE, hlk, hrt, hc1, hc2, hRe⟩ := G.1
  subst hRe
  obtain ⟨zn, zp⟩ := cpy_n (n := N) (by omega)
  refine va_newaK (N := N) hx hb (atype := .long) (hts _ hw) rfl hd rfl zp zn (by show N * _ ≤ _; simp only [newarray.typeOf, componentBytes]; omega) hR.1 hR.2 hz fun H1 cA e1 z1 o1 hAr hNm => ?_
  have hcA : cA = u.2.2.1.2.2.2.1 := by
    have q := (hK.2 3 _ rfl).2
    exact Option.some.inj (hNm.symm.trans q)
  subst hcA
  refine k H1 locs ls ?_ (by rw [z1]; omega) hZ.up hN.up ⟨Nat.le_trans hS.1 (by omega), fun q g1 g2 => (o1 q (by have := hS.1; omega)).trans (hS.2.1 q g1 g2), hS.2.2⟩ hh
  rw [vwk_push]
  have hk : ∀ (k : Nat) (x : Nat × va_E), (vwk u.2.2.1 (uB u) mem nu n)[k]? = some x → H1[x.1]? = H[x.1]? := fun k x hx => o1 x.1 (by have := (hP k x hx).lt; omega)
  refine (hP.kept hk).app (fun j y hj => ?_)
  have hj0 : j < 1 := (List.getElem?_eq_some_iff.mp hj).1
  rw [show j = 0 by omega] at hj
  cases hj
  rw [cellK_arrL hkd, hln]
  refine e1.trans ?_
  have hf : (fun i : Nat => Int64.ofInt (mem n i)) = fun _ => 0 := by
    funext i
    rw [hZ n i (Nat.le_refl n)]
    decide
  rw [hf]
  rfl
theorem K_newB {N n' c' s' : Nat} {i : Int} (G : kG u x cc own nL ret rm) (hw : Cond.arrayClass .byte ∈ jTW) (hkd : kd n = 22) (hln : ln n = N) (hi : ((N : Nat) : Int) = i) (hN0 : N < 100000) (hn : n + 1 = n') (hc' : cells + 1 = c') (hs' : slots + N = s') (hR : c' ≤ rm.cells ∧ s' ≤ rm.slots) (hd : decode cc pc = .ok (.newarray .byte, 2)) (k : K u x nL Q (pc + 2) lv (vR (uB u) n :: st) mem nu n' c' s') : K u x nL Q pc lv (vI i :: st) mem nu n cells slots := by
  subst hn; subst hc'; subst hs'; subst hi
  obtain ⟨p, e, R, s, m, args, below, meth, cd, c1, c2⟩ := x
  intro H locs ls hP hz hZ hN hS hh
  obtain ⟨hx, hb, hml, hown, hts, hK, hE, hlk, hrt, hc1, hc2, hRe⟩ := G.1
  subst hRe
  obtain ⟨zn, zp⟩ := cpy_n (n := N) (by omega)
  refine va_newaK (N := N) hx hb (atype := .byte) (hts _ hw) rfl hd rfl zp zn (by show N * _ ≤ _; simp only [newarray.typeOf, componentBytes]; omega) hR.1 hR.2 hz fun H1 cA e1 z1 o1 hAr hNm => ?_
  have hcA : cA = u.2.2.1.1 := by
    have q := (hK.2 0 _ rfl).2
    exact Option.some.inj (hNm.symm.trans q)
  subst hcA
  refine k H1 locs ls ?_ (by rw [z1]; omega) hZ.up hN.up ⟨Nat.le_trans hS.1 (by omega), fun q g1 g2 => (o1 q (by have := hS.1; omega)).trans (hS.2.1 q g1 g2), hS.2.2⟩ hh
  rw [vwk_push]
  have hk : ∀ (k : Nat) (x : Nat × va_E), (vwk u.2.2.1 (uB u) mem nu n)[k]? = some x → H1[x.1]? = H[x.1]? := fun k x hx => o1 x.1 (by have := (hP k x hx).lt; omega)
  refine (hP.kept hk).app (fun j y hj => ?_)
  have hj0 : j < 1 := (List.getElem?_eq_some_iff.mp hj).1
  rw [show j = 0 by omega] at hj
  cases hj
  rw [cellK_arrB hkd, hln]
  refine e1.trans ?_
  have hf : (fun i : Nat => Int32.ofInt (mem n i)) = fun _ => 0 := by
    funext i
    rw [hZ n i (Nat.le_refl n)]
    decide
  rw [hf]
  rfl
theorem K_newC {N n' c' s' : Nat} {i : Int} (G : kG u x cc own nL ret rm) (hw : Cond.arrayClass .char ∈ jTW) (hkd : kd n = 23) (hln : ln n = N) (hi : ((N : Nat) : Int) = i) (hN0 : N < 100000) (hn : n + 1 = n') (hc' : cells + 1 = c') (hs' : slots + N = s') (hR : c' ≤ rm.cells ∧ s' ≤ rm.slots) (hd : decode cc pc = .ok (.newarray .char, 2)) (k : K u x nL Q (pc + 2) lv (vR (uB u) n :: st) mem nu n' c' s') : K u x nL Q pc lv (vI i :: st) mem nu n cells slots := by
  subst hn; subst hc'; subst hs'; subst hi
  obtain ⟨p, e, R, s, m, args, below, meth, cd, c1, c2⟩ := x
  intro H locs ls hP hz hZ hN hS hh
  obtain ⟨hx, hb, hml, hown, hts, hK, hE, hlk, hrt, hc1, hc2, hRe⟩ := G.1
  subst hRe
  obtain ⟨zn, zp⟩ := cpy_n (n := N) (by omega)
  refine va_newaK (N := N) hx hb (atype := .char) (hts _ hw) rfl hd rfl zp zn (by show N * _ ≤ _; simp only [newarray.typeOf, componentBytes]; omega) hR.1 hR.2 hz fun H1 cA e1 z1 o1 hAr hNm => ?_
  have hcA : cA = u.2.2.1.2.1 := by
    have q := (hK.2 1 _ rfl).2
    exact Option.some.inj (hNm.symm.trans q)
  subst hcA
  refine k H1 locs ls ?_ (by rw [z1]; omega) hZ.up hN.up ⟨Nat.le_trans hS.1 (by omega), fun q g1 g2 => (o1 q (by have := hS.1; omega)).trans (hS.2.1 q g1 g2), hS.2.2⟩ hh
  rw [vwk_push]
  have hk : ∀ (k : Nat) (x : Nat × va_E), (vwk u.2.2.1 (uB u) mem nu n)[k]? = some x → H1[x.1]? = H[x.1]? := fun k x hx => o1 x.1 (by have := (hP k x hx).lt; omega)
  refine (hP.kept hk).app (fun j y hj => ?_)
  have hj0 : j < 1 := (List.getElem?_eq_some_iff.mp hj).1
  rw [show j = 0 by omega] at hj
  cases hj
  rw [cellK_arrC hkd, hln]
  refine e1.trans ?_
  have hf : (fun i : Nat => Int32.ofInt (mem n i)) = fun _ => 0 := by
    funext i
    rw [hZ n i (Nat.le_refl n)]
    decide
  rw [hf]
  rfl
theorem K_newR {idx n' c' s' : Nat} (G : kG u x cc own nL ret rm) (hw1 : Cond.classLink own idx "BeamPieces$Beam" ∈ jTW) (hkd : kd n = 24) (hln : ln n = 10) (hn : n + 1 = n') (hc' : cells + 1 = c') (hs' : slots + 10 = s') (hR : c' ≤ rm.cells ∧ s' ≤ rm.slots) (hd : decode cc pc = .ok (.anewarray idx, 3)) (k : K u x nL Q (pc + 3) lv (vR (uB u) n :: st) mem nu n' c' s') : K u x nL Q pc lv (vI 10 :: st) mem nu n cells slots := by
  subst hn; subst hc'; subst hs'
  obtain ⟨p, e, R, s, m, args, below, meth, cd, c1, c2⟩ := x
  intro H locs ls hP hz hZ hN hS hh
  obtain ⟨hx, hb, hml, hown, hts, hK, hE, hlk, hrt, hc1, hc2, hRe⟩ := G.1
  subst hRe
  obtain ⟨zn, zp⟩ := cpy_n (n := 10) (by omega)
  refine W.anew (n := Int32.ofInt 10) hx hb hown (hts _ hw1) (va_AO.use hE.1.2.2.2.2.2) rfl hd rfl zp (by decide +kernel) hR.1 (by rw [show (Int32.ofInt 10).toNatClampNeg = 10 by decide +kernel]; exact hR.2) fun cA kA comp f1 f2 f3 f4 => ?_
  rw [show (Int32.ofInt 10).toNatClampNeg = 10 by decide +kernel]
  generalize hH1 : H.push ({ cls := cA, slots := Array.replicate 10 .null, vm := .none } : Cell) = H1
  have z1 : H1.size = H.size + 1 := by rw [← hH1, Array.size_push]
  have e1 : H1[H.size]? = some (arrV cA 10 (fun _ => .null)) := by rw [← hH1, Array.getElem?_push_size, ← arrV_new]
  have o1 : ∀ q : Nat, q < H.size → H1[q]? = H[q]? := fun q hq => by rw [← hH1, Array.getElem?_push, if_neg (Nat.ne_of_lt hq)]
  have hcA : cA = u.2.2.1.2.2.2.2 := by
    obtain ⟨kA', comp', g1, g2, g3, g4⟩ := (hK.2 4 _ rfl).2
    exact Option.some.inj (f1.symm.trans g4)
  subst hcA
  have k := k H1 locs ls ?_ (by rw [z1, hz]; omega) hZ.up hN.up ⟨Nat.le_trans hS.1 (by omega), fun q g1 g2 => (o1 q (by have := hS.1; omega)).trans (hS.2.1 q g1 g2), hS.2.2⟩ hh
  · rw [vR, ← hz] at k
    exact k
  rw [vwk_push]
  have hk : ∀ (k : Nat) (x : Nat × va_E), (vwk u.2.2.1 (uB u) mem nu n)[k]? = some x → H1[x.1]? = H[x.1]? := fun k x hx => o1 x.1 (by have := (hP k x hx).lt; omega)
  refine (hP.kept hk).app (fun j y hj => ?_)
  have hj0 : j < 1 := (List.getElem?_eq_some_iff.mp hj).1
  rw [show j = 0 by omega] at hj
  cases hj
  rw [cellK_arrR hkd, hln, ← hz]
  refine e1.trans ?_
  have hf : (fun i : Nat => if nu n i = true then none else some (uB u + (n + 1 + 9 * i))) = fun _ => none := by
    funext i
    rw [if_pos (hN n i (Nat.le_refl n))]
  rw [hf]
  rfl
theorem K_putf {c ci k idx : Nat} {C : String} {T : u_T} {N : Nat} {ty : Nat → FieldType} {q : Nat × Nat} {V : Value} {mem' : Mem} {nu' : Nul} (hI : (T k).2.2.2 = true → kI x ∧ (T k).1 = own) (G : kG u x cc own nL ret rm) (hC : jCls ci C T N ty) (hw : Cond.fieldLink own idx (T k).1 (T k).2.1 (T k).2.2.1 ∈ jTW) (hkd : kd c = ci) (hcn : c < n) (hq : (jFields.getD ci [])[k]? = some q)
    (hset : ((jFields.getD ci []).mapIdx (fvk (uB u) mem nu c)).set k V = (jFields.getD ci []).mapIdx (fvk (uB u) mem' nu' c)) (hm : ∀ c', c' ≠ c → mem' c' = mem c' ∧ nu' c' = nu c') (hn : narrow (ty k) V = V) (hft : fits (ty k) V = true) (hd : decode cc pc = .ok (.putfield idx, 3)) (hZ' : kZ mem n → kZ mem' n) (hN' : kN nu n → kN nu' n) (kk : K u x nL Q (pc + 3) lv st mem' nu' n cells slots) : K u x nL Q pc lv (V :: vR (uB u) c :: st) mem nu n cells slots := by
  obtain ⟨p, e, R, s, m, args, below, meth, cd, c1, c2⟩ := x
  intro H locs ls hP hz hZ hN hS hh
  obtain ⟨h1, h2, h3, h4, h5, h6⟩ := hC
  have G := G.1
  have hl : k < N := h5 ▸ (List.getElem?_eq_some_iff.mp hq).1
  have he : (vwk u.2.2.1 (uB u) mem nu n)[c]? = some (uB u + c, .inr (ci, (jFields.getD ci []).mapIdx (fvk (uB u) mem nu c))) := by rw [vwk_at hcn, cellK_obj hkd h6]
  have hws := vwk_set (cy := u.2.2.1) (base := uB u) (mem := mem) (nu := nu) (mem' := mem') (nu' := nu') hcn (fun c' hc' => cellK_congr (hm c' hc').1 (hm c' hc').2)
  rw [cellK_obj hkd h6, ← hset] at hws
  have fin : ∀ (H1 : Heap) (locs1 : List Loc), va_P u.2.1 vwCl ((vwk u.2.2.1 (uB u) mem nu n).set c (uB u + c, .inr (ci, ((jFields.getD ci []).mapIdx (fvk (uB u) mem nu c)).set k V))) H1 → H1.size = H.size → va_S (jA (uB u)) s.heap H1 locs1 → W p u.1 e R s m args below meth cd H1 locs1 cells slots Q (F0 m (pc + 3) ls st) := fun H1 locs1 hP1 hz1 hS1 => kk H1 locs1 ls (by rw [← hws]; exact hP1) (by rw [hz1, hz]) (hZ' hZ) (hN' hN) hS1 hh
  have hD := vwk_D (cy := u.2.2.1) (base := uB u) (mem := mem) (nu := nu) (n := n)
  obtain ⟨hx, hb, hml, hown, hts, hK, hE, hlk, hrt, hc1, hc2, hRe⟩ := G
  have hap := va_apart (own := own) hts h2 ty h3 h4 hK h1
  obtain ⟨r, e0, cell, q1, q2, q3, q4⟩ := hP c _ he
  obtain rfl : r = (C, T, N) := Option.some.inj (e0.symm.trans h1)
  obtain ⟨hSl, hfc, kC, hkC, hkind⟩ := hK.1 ci _ h1
  obtain ⟨cf, kf, fi, fld0, hi, hsl⟩ := hSl k hl
  have hlay := hts _ (h2 _ (u_in_lay hl))
  have hst := (u_facts hfc hkC (u_lays hts h2 hl) hi).1
  have hll : k < ((jFields.getD ci []).mapIdx (fvk (uB u) mem nu c)).length := by rw [List.length_mapIdx, h5]; exact hl
  unfold u_lay at hlay
  by_cases hfin : (T k).2.2.2 = true
  · rw [if_pos hfin] at hlay
    obtain ⟨hini, hdecl⟩ := hI hfin
    have hcf : m.cls = cf := by
      obtain ⟨_, _, c', _, _, _, -, -, hf', -, -, -, hown2, -⟩ := Cond.laysFinal_spec hlay
      have e1 : c' = cf := by have := hi.symm.trans hf'; simp at this; exact this.1.symm
      rw [hdecl] at hown2
      rw [← e1]; exact Option.some.inj (hown.symm.trans hown2)
    refine W.putFinK hx hb hown (hts _ hw) hi hst hcf hini (by rw [q2]; exact u_fits hfc hkC hkind (Or.inr hlay) hi (h3 k hl) hn hft) q1 q3 (by rw [hsl]; exact k2_hasslot (q4 k hl)) rfl rfl hd fun H' e1 e2 e3 => ?_
    rw [hsl] at e1 ⊢
    exact fin H' _ (hP.set hD he ⟨_, h1, t_OB.to (V := updV (vp_V _) k V) ⟨_, e1, q2, q3, t_set q4 hap hl V⟩ (fun j _ => vp_updV_set hll V j)⟩ e3) e2 (hS.put e2 e3 (hD.2 c _ he))
  · rw [if_neg hfin] at hlay
    refine W.putK hx hb (f := fld0) ⟨hown, hts _ hw, ⟨_, _, _, hi⟩, hst⟩ (by rw [q2]; exact u_store hfc hkC hkind hlay hi (h3 k hl) hn hft) q1 q3 (by rw [hsl]; exact k2_hasslot (q4 k hl)) rfl rfl hd fun H' e1 e2 e3 => ?_
    rw [hsl] at e1 ⊢
    exact fin H' _ (hP.set hD he ⟨_, h1, t_OB.to (V := updV (vp_V _) k V) ⟨_, e1, q2, q3, t_set q4 hap hl V⟩ (fun j _ => vp_updV_set hll V j)⟩ e3) e2 (hS.put e2 e3 (hD.2 c _ he))
theorem K_putI {c ci k idx : Nat} {i : Int} {C : String} {T : u_T} {N : Nat} {ty : Nat → FieldType} {v : Int} (hI : (T k).2.2.2 = true → kI x ∧ (T k).1 = own) (G : kG u x cc own nL ret rm) (hC : jCls ci C T N ty) (hw : Cond.fieldLink own idx (T k).1 (T k).2.1 (T k).2.2.1 ∈ jTW) (hkd : kd c = ci) (hcn : c < n) (hi : ((k : Nat) : Int) = i) (hq : (jFields.getD ci [])[k]? = some (0, 0)) (hty : ty k = .int) (hd : decode cc pc = .ok (.putfield idx, 3)) (kk : K u x nL Q (pc + 3) lv st (mset mem c i v) nu n cells slots) : K u x nL Q pc lv (vI v :: vR (uB u) c :: st) mem nu n cells slots := by
  subst hi
  refine K_putf (mem' := mset mem c k v) (nu' := nu) hI G hC hw hkd hcn hq ?_ (fun c' h => ⟨mset_ne _ _ _ _ h, rfl⟩) (by rw [hty]; rfl) (by rw [hty]; rfl) hd (fun z => z.set hcn) id kk
  rw [← fieldsK_set hq]
  show _ = List.set _ _ (vI (mset mem c k v c k))
  rw [mset_self]
theorem K_putL {c ci k idx : Nat} {i : Int} {C : String} {T : u_T} {N : Nat} {ty : Nat → FieldType} {v : Int} (hI : (T k).2.2.2 = true → kI x ∧ (T k).1 = own) (G : kG u x cc own nL ret rm) (hC : jCls ci C T N ty) (hw : Cond.fieldLink own idx (T k).1 (T k).2.1 (T k).2.2.1 ∈ jTW) (hkd : kd c = ci) (hcn : c < n) (hi : ((k : Nat) : Int) = i) (hq : (jFields.getD ci [])[k]? = some (1, 0)) (hty : ty k = .long) (hd : decode cc pc = .ok (.putfield idx, 3)) (kk : K u x nL Q (pc + 3) lv st (mset mem c i v) nu n cells slots) : K u x nL Q pc lv (vL v :: vR (uB u) c :: st) mem nu n cells slots := by
  subst hi
  refine K_putf (mem' := mset mem c k v) (nu' := nu) hI G hC hw hkd hcn hq ?_ (fun c' h => ⟨mset_ne _ _ _ _ h, rfl⟩) (by rw [hty]; rfl) (by rw [hty]; rfl) hd (fun z => z.set hcn) id kk
  rw [← fieldsK_set hq]
  show _ = List.set _ _ (vL (mset mem c k v c k))
  rw [mset_self]
theorem K_putR {c ci k idx f d : Nat} {C : String} {T : u_T} {N : Nat} {ty : Nat → FieldType} (hI : (T k).2.2.2 = true → kI x ∧ (T k).1 = own) (G : kG u x cc own nL ret rm) (hC : jCls ci C T N ty) (hw : Cond.fieldLink own idx (T k).1 (T k).2.1 (T k).2.2.1 ∈ jTW) (hkd : kd c = ci) (hcn : c < n) (hq : (jFields.getD ci [])[k]? = some (2, f)) (hdf : c + f = d) (hn : narrow (ty k) (vR (uB u) d) = vR (uB u) d) (hft : fits (ty k) (vR (uB u) d) = true) (hd : decode cc pc = .ok (.putfield idx, 3)) (kk : K u x nL Q (pc + 3) lv st mem (nset nu c k) n cells slots) : K u x nL Q pc lv (vR (uB u) d :: vR (uB u) c :: st) mem nu n cells slots := by
  subst hdf
  refine K_putf (mem' := mem) (nu' := nset nu c k) hI G hC hw hkd hcn hq ?_ (fun c' h => ⟨rfl, nset_ne h⟩) hn hft hd id (fun z => z.set hcn) kk
  rw [← fieldsK_nset hq]
  have e : fvk (uB u) mem (nset nu c k) c k (2, f) = vR (uB u) (c + f) := by simp [fvk, nset]
  rw [e]
theorem K_getR {c ci k idx f d : Nat} {C : String} {T : u_T} {N : Nat} {ty : Nat → FieldType} (G : kG u x cc own nL ret rm) (hC : jCls ci C T N ty) (hw : Cond.fieldLink own idx (T k).1 (T k).2.1 (T k).2.2.1 ∈ jTW) (hkd : kd c = ci) (hcn : c < n) (hq : (jFields.getD ci [])[k]? = some (2, f)) (hdf : c + f = d) (hnu : nu c k = false) (hd : decode cc pc = .ok (.getfield idx, 3)) (kk : K u x nL Q (pc + 3) lv (vR (uB u) d :: st) mem nu n cells slots) : K u x nL Q pc lv (vR (uB u) c :: st) mem nu n cells slots := by
  subst hdf
  obtain ⟨p, e, R, s, m, args, below, meth, cd, c1, c2⟩ := x
  intro H locs ls hP hz hZ hN hS hh
  obtain ⟨h1, h2, h3, h4, h5, h6⟩ := hC
  have G := G.1
  have hl : k < N := h5 ▸ (List.getElem?_eq_some_iff.mp hq).1
  refine va_get G.1 G.2.1 (C := C) (T := T) (N := N) (ref := (T k).1) (index := idx) G.2.2.2.2.1 h2 G.2.2.2.1 G.2.2.2.2.2.1 hP c (by rw [vwk_at hcn, cellK_obj hkd h6]) h1 k hl (G.2.2.2.2.1 _ hw) (fun _ h => h) (v := vR (uB u) (c + f)) ?_ hd (kk H locs ls hP hz hZ hN hS hh)
  have e : fvk (uB u) mem nu c k (2, f) = vR (uB u) (c + f) := by simp [fvk, hnu]
  rw [← e]
  exact fieldsK_at hq
theorem K_iast {c N : Nat} {i v : Int} (G : kG u x cc own nL ret rm) (hkd : kd c = 20) (hln : ln c = N) (hcn : c < n) (hi : 0 ≤ i ∧ i < (N : Int) ∧ i < 2147483648) (hd : decode cc pc = .ok (.iastore, 1)) (kk : K u x nL Q (pc + 1) lv st (mset mem c i v) nu n cells slots) : K u x nL Q pc lv (vI v :: vI i :: vR (uB u) c :: st) mem nu n cells slots := by
  obtain ⟨p, e, R, s, m, args, below, meth, cd, c1, c2⟩ := x
  intro H locs ls hP hz hZ hN hS hh
  have hs : s32 i = i := by unfold s32; rw [Int.bmod_eq_of_le] <;> omega
  have hc : 0 ≤ s32 i ∧ s32 i < (N : Int) := by rw [hs]; exact ⟨hi.1, hi.2.1⟩
  have hx0 := ck_ix hc
  rw [hs] at hx0
  have hD := vwk_D (cy := u.2.2.1) (base := uB u) (mem := mem) (nu := nu) (n := n)
  have he : (vwk u.2.2.1 (uB u) mem nu n)[c]? = some (uB u + c, .inl (u.2.2.1.2.2.1, N, .inl (fun j : Nat => Int32.ofInt (mem c j)))) := by rw [vwk_at hcn, cellK_arrI hkd, hln]
  have hws := vwk_set (cy := u.2.2.1) (base := uB u) (mem := mem) (nu := nu) (mem' := mset mem c i v) (nu' := nu) hcn (fun c' hc' => cellK_congr (mset_ne _ _ _ _ hc') rfl)
  rw [cellK_arrI hkd, hln] at hws
  refine W.iast G.1.1 G.1.2.1 (hP c _ he) ((G.1.2.2.2.2.2.1.2 2 _ rfl).1 N (fun j => .int (Int32.ofInt (mem c j)))) (fun q => by cases q) (by show ¬ (_ < 0 ∨ (arrV _ _ _).slots.size ≤ _); rw [arrV_size]; exact ck_in hc) rfl rfl hd fun H1 e z oq => ?_
  refine kk H1 _ ls ?_ (by rw [z, hz]) (hZ.set hcn) hN (hS.put z oq (hD.2 c _ he)) hh
  rw [← hws]
  refine hP.set hD he ?_ oq
  show H1[uB u + c]? = some (vp_cell _ _)
  rw [e, vp_cell_i, vp_cell_i, arrV_store]
  congr 2
  funext q
  by_cases hq : q = (Int32.ofInt i).toNatClampNeg
  · subst hq; rw [hx0]; simp [updV, mset]
  · have h2 : ¬ (q : Int) = i := by rw [← hx0]; omega
    simp [updV, mset, hq, h2]
theorem K_cast {c N : Nat} {i v : Int} (G : kG u x cc own nL ret rm) (hkd : kd c = 23) (hln : ln c = N) (hcn : c < n) (hi : 0 ≤ i ∧ i < (N : Int) ∧ i < 2147483648) (hv : narrow .char (.int (Int32.ofInt v)) = .int (Int32.ofInt v)) (hd : decode cc pc = .ok (.castore, 1)) (kk : K u x nL Q (pc + 1) lv st (mset mem c i v) nu n cells slots) : K u x nL Q pc lv (vI v :: vI i :: vR (uB u) c :: st) mem nu n cells slots := by
  obtain ⟨p, e, R, s, m, args, below, meth, cd, c1, c2⟩ := x
  intro H locs ls hP hz hZ hN hS hh
  have hs : s32 i = i := by unfold s32; rw [Int.bmod_eq_of_le] <;> omega
  have hc : 0 ≤ s32 i ∧ s32 i < (N : Int) := by rw [hs]; exact ⟨hi.1, hi.2.1⟩
  have hx0 := ck_ix hc
  rw [hs] at hx0
  have hD := vwk_D (cy := u.2.2.1) (base := uB u) (mem := mem) (nu := nu) (n := n)
  have he : (vwk u.2.2.1 (uB u) mem nu n)[c]? = some (uB u + c, .inl (u.2.2.1.2.1, N, .inl (fun j : Nat => Int32.ofInt (mem c j)))) := by rw [vwk_at hcn, cellK_arrC hkd, hln]
  have hws := vwk_set (cy := u.2.2.1) (base := uB u) (mem := mem) (nu := nu) (mem' := mset mem c i v) (nu' := nu) hcn (fun c' hc' => cellK_congr (mset_ne _ _ _ _ hc') rfl)
  rw [cellK_arrC hkd, hln] at hws
  refine W.cast G.1.1 G.1.2.1 (hP c _ he) ((G.1.2.2.2.2.2.1.2 1 _ rfl).1 N (fun j => .int (Int32.ofInt (mem c j)))) (fun q => by cases q) (by show ¬ (_ < 0 ∨ (arrV _ _ _).slots.size ≤ _); rw [arrV_size]; exact ck_in hc) rfl rfl hd fun H1 e z oq => ?_
  refine kk H1 _ ls ?_ (by rw [z, hz]) (hZ.set hcn) hN (hS.put z oq (hD.2 c _ he)) hh
  rw [← hws]
  refine hP.set hD he ?_ oq
  show H1[uB u + c]? = some (vp_cell _ _)
  rw [e, vp_cell_i, vp_cell_i, arrV_store]
  congr 2
  funext q
  by_cases hq : q = (Int32.ofInt i).toNatClampNeg
  · subst hq; rw [hx0]; simp [updV, mset]; exact hv
  · have h2 : ¬ (q : Int) = i := by rw [← hx0]; omega
    simp [updV, mset, hq, h2]
theorem K_aast {c d k : Nat} {i : Int} (G : kG u x cc own nL ret rm) (hkd : kd c = 24) (hln : ln c = 10) (hcn : c < n) (hkdd : kd d = 0) (hdn : d < n) (hi : ((k : Nat) : Int) = i) (hk : k < 10) (hd0 : c + 1 + 9 * k = d) (hd : decode cc pc = .ok (.aastore, 1)) (kk : K u x nL Q (pc + 1) lv st mem (nset nu c k) n cells slots) : K u x nL Q pc lv (vR (uB u) d :: vI i :: vR (uB u) c :: st) mem nu n cells slots := by
  subst hi
  obtain ⟨p, e, R, s, m, args, below, meth, cd, c1, c2⟩ := x
  intro H locs ls hP hz hZ hN hS hh
  obtain ⟨zn, zp⟩ := cpy_n (n := k) (by omega)
  have hD := vwk_D (cy := u.2.2.1) (base := uB u) (mem := mem) (nu := nu) (n := n)
  have ha : (vwk u.2.2.1 (uB u) mem nu n)[c]? = some (uB u + c, .inl (u.2.2.1.2.2.2.2, 10, .inr (.inr (.inr (.inr (fun j => if nu c j = true then none else some (uB u + (c + 1 + 9 * j)))))))) := by rw [vwk_at hcn, cellK_arrR hkd, hln]
  have hv : (vwk u.2.2.1 (uB u) mem nu n)[d]? = some (uB u + d, .inr (0, (jFields.getD 0 []).mapIdx (fvk (uB u) mem nu d))) := by rw [vwk_at hdn, cellK_obj hkdd (by decide)]
  have hws := vwk_set (cy := u.2.2.1) (base := uB u) (mem := mem) (nu := nu) (mem' := mem) (nu' := nset nu c k) hcn (fun c' hc' => cellK_congr rfl (nset_ne hc'))
  rw [cellK_arrR hkd, hln] at hws
  obtain ⟨r', hr', cellV, g1, g2, g3, -⟩ := hP d _ hv
  obtain rfl : r' = (RX0, TX0, 12) := Option.some.inj (hr'.symm.trans rfl)
  have hcls := (G.1.2.2.2.2.2.1.1 0 _ rfl).2
  obtain ⟨kA, comp, k1, k2, k3, -⟩ := (G.1.2.2.2.2.2.1.2 4 _ rfl).2
  have hcomp : comp = u.2.1.1 0 := Option.some.inj (k3.symm.trans hcls.1)
  subst hcomp
  obtain ⟨kC, hkC, -⟩ := hcls.2
  refine W.aast G.1.1 G.1.2.1 (hP c _ ha) (fun q h => by cases h) (fun h => by cases h) k1 k2 rfl hkC ⟨zp, by show _ < (arrV _ _ _).slots.size; rw [arrV_size, zn]; exact hk⟩ g1 (fun q h => by rw [g3] at h; cases h) (by rw [g2]; exact hkC) (by rw [g2]; exact va_assign hcls) rfl rfl hd fun H1 e z oq => ?_
  refine kk H1 _ ls ?_ (by rw [z, hz]) hZ (hN.set hcn) (hS.put z oq (hD.2 c _ ha)) hh
  rw [← hws]
  refine hP.set hD ha ?_ oq
  show H1[uB u + c]? = some (vp_cell _ _)
  rw [e, vp_cell_q, vp_cell_q, arrV_store, zn]
  congr 2
  funext q
  by_cases hq : q = k
  · subst hq; subst hd0; simp [updV, nset, va_rf]
  · simp [updV, nset, hq]
/-- a call of a constructor -/
theorem K_init {y : MethodName} {cY : ByteArray} {nY f l mc ms idx c m' n' c' s' : Nat} {As stk : List Value} {mem' : Mem} {nu' : Nul} (G : kG u x cc own nL ret rm) (hM : kMet u y cY nY (kRm f l mc ms) (vR (uB u) c :: As) mem nu n mem' nu' n') (hs : jSg y cY nY none m') (hv : Cond.instanceMethod y ∈ jTW) (hy : y.name = "<init>") (hw : Cond.methodLink own idx y ∈ jTW)
    (hR : f + 1 ≤ rm.frames ∧ 8 + (nY + 11) + l ≤ rm.locals) (hstk : stk = As.reverse ++ vR (uB u) c :: st) (hn : As.length = m') (hcat : (st.map fun v => v.category).sum ≤ 8) (hc' : cells + mc = c') (hs' : slots + ms = s') (hR2 : c' ≤ rm.cells ∧ s' ≤ rm.slots) (hd : decode cc pc = .ok (.invokespecial idx, 3))
    (kk : K u x nL Q (pc + 3) lv st mem' nu' n' c' s') : K u x nL Q pc lv stk mem nu n cells slots := by
  subst hc'; subst hs'
  obtain ⟨p, e, R, s, m, args, below, meth, cd, c1, c2⟩ := x
  intro H locs ls hP hz hZ hN hS hh
  obtain ⟨⟨hx, hb, hml, hown, hts, hK, hE, hlk, hrt, hc1, hc2, hRe⟩, hbs⟩ := G
  subst hRe
  have run := va_runI (p := p) (l := u.1) (e := e) (R := R) (s := s) (m := m) (args := args) (below := below) (meth := meth) (c := cd) (H := H) (locs := locs) (cells := cells) (slots := slots) (As := As) (rest := st) (n := m') (b := uB u + c) (g := F0 m pc ls stk) ⟨hx, hb, hml, hown, hts⟩ hM ⟨callB_of m' hts (jTW_good hs.1) rfl rfl rfl (hts _ hs.2.1) (hts _ hw) hs.2.2 hR, hy, hts _ hv⟩ ⟨?_, ?_⟩ rfl hn hh.1 hstk (by show 2 * 0 + _ ≤ 8; omega) hd hR2
  · intro T hT X
    obtain ⟨v, st₀, t, T', L, h0, X', hL, e1, e2, ⟨⟨hv, hp⟩, hz1, hk⟩, stp⟩ := run T hT X
    cases hv
    rw [h0] at hz1 hk
    obtain ⟨p1, p2, p3, p4, p5, p6⟩ := hp
    obtain ⟨t2, a1, b1⟩ := kk T'.heap (locs ++ L) ls (by rw [e1]; exact p1) (by rw [e1]; exact p2) p3 p4 ⟨Nat.le_trans hS.1 (by rw [e1]; exact hz1), fun q h1 h2 => by rw [e1, hk q (Nat.lt_of_lt_of_le h1 hS.1) h2]; exact hS.2.1 q h1 h2, fun q hq => by
        rcases List.mem_append.mp hq with h | h
        · exact hS.2.2 q h
        · exact hL q h⟩ hh T' rfl X'
    exact ⟨t2, stp t2 a1, b1⟩
  · intro a U g mk h
    obtain ⟨g0, g1, g2, g3, g4, g5, g6⟩ := h
    exact ⟨g0, g1, g2, g3, g4, va_K.moved (u := U) (U := U.calling g mk a) (Vm.Alike.refl U.vm) g5, g6.same rfl rfl⟩
  · exact fun U hU hW => ⟨rfl, by rw [hU]; exact hP, by rw [hU]; exact hz, hZ, hN, hK.moved hW.alike, hE.to hW (fun q h1 h2 => by rw [hU]; exact hS.2.1 q h1 h2)⟩
theorem K_vret (G : kG u x cc own nL none rm) (hd : decode cc pc = .ok (.return_, 1)) : K u x nL (match x with | (_, _, _, s, _, args, below, _, _, _, _) => MQ below (fun _ st oc t => (oc = .returned none ∧ kPic u mem nu n t) ∧ va_F (jA (uB u)) st t) args s cells slots (jA (uB u))) pc lv [] mem nu n cells slots := by
  obtain ⟨p, e, R, s, m, args, below, meth, cd, c1, c2⟩ := x
  intro H locs ls hP hz hZ hN hS hh
  refine W.vret G.1.1 G.1.2.1 G.1.2.2.2.2.2.2.2.2.1 (fun t ht hW => ?_) hS.2.2 hd G.1.2.2.2.2.2.2.2.1
  exact ⟨⟨rfl, by rw [ht]; exact hP, by rw [ht]; exact hz, hZ, hN, G.1.2.2.2.2.2.1.moved hW.alike, G.1.2.2.2.2.2.2.1.to hW (fun q h1 h2 => by rw [ht]; exact hS.2.1 q h1 h2)⟩, hS.F ht⟩
theorem kMet_of {y : MethodName} {cY : ByteArray} {nY : Nat} {as : List Value} {mem' : Mem} {nu' : Nul} {n' : Nat} (hy : plainName y.cls = true) (hl : (lg_sl as).length ≤ nY)
    (body : ∀ x : jX, kG u x cY y.cls nY none rm → (y.name = "<init>" → kI x) → K u x nY (match x with | (_, _, _, s, _, args, below, _, _, _, _) => MQ below (fun _ st oc t => (oc = .returned none ∧ kPic u mem' nu' n' t) ∧ va_F (jA (uB u)) st t) args s rm.cells rm.slots (jA (uB u))) 0 (lv_args 0 as) [] mem nu n 0 0) : kMet u y cY nY rm as mem nu n mem' nu' n' := by
  refine Met.ofW (cc := cY) (maxL := nY) (ret := none) hy rfl ?_
  intro p e s m args below meth c s₁ B hml hv
  obtain ⟨rfl, hP, hz, hZ, hN, hK, hE⟩ := hv
  have hts := atoms_spec (ws := .code y cY nY none :: jTW) B.pre
  have h := body (p, e, rm, s, m, as.toArray, below, meth, c, 0, 0) ⟨⟨B.exec, B.bytes, hml, findClass_of_methodNamed B.named, fun w hw => hts w (List.mem_cons_of_mem _ hw), hK, hE, B.notSynchronized, B.returns, Nat.zero_le _, Nat.zero_le _, rfl⟩, by show uB u ≤ s.heap.size; omega⟩ (fun hyn => (name_of_methodNamed B.named B.method).1.trans hyn)
  rw [lg_entry_eq]
  exact h s.heap [] _ hP hz hZ hN va_S.rf (lv_entry as hl)
theorem K_alen {c N : Nat} {i : Int} (G : kG u x cc own nL ret rm) (hkd : kd c = 20) (hln : ln c = N) (hi : ((N : Nat) : Int) = i) (hcn : c < n) (hd : decode cc pc = .ok (.arraylength, 1)) (kk : K u x nL Q (pc + 1) lv (vI i :: st) mem nu n cells slots) : K u x nL Q pc lv (vR (uB u) c :: st) mem nu n cells slots := by
  subst hi
  obtain ⟨p, e, R, s, m, args, below, meth, cd, c1, c2⟩ := x
  intro H locs ls hP hz hZ hN hS hh
  have e0 : ∀ n : Nat, Int32.ofNat n = Int32.ofInt (n : Int) := fun n => by first | rfl | exact (Int32.ofInt_eq_ofNat).symm | simp
  exact va_alen (ty := .int) G.1.1 G.1.2.1 G.1.2.2.2.2.2.1 hP c 2 (by rw [vwk_at hcn, cellK_arrI hkd]) rfl (by rw [← hln]; exact e0 _) hd (kk H locs ls hP hz hZ hN hS hh)
theorem K_astore_n {f : Fin 4} {i d : Nat} {lv' : List (Nat × Value)} (G : kG u x cc own nL ret rm) (hd : decode cc pc = .ok (.astore_n f, 1)) (hi : (f : Nat) = i) (hn : i < nL) (hl : (i, vR (uB u) d) :: lv.filter (fun q => !(q.1 == i) && !(q.1 + 1 == i && q.2.category == 2)) = lv') (k : K u x nL Q (pc + 1) lv' st mem nu n cells slots) : K u x nL Q pc lv (vR (uB u) d :: st) mem nu n cells slots := by
  obtain ⟨p, e, R, s, m, args, below, meth, cd, c1, c2⟩ := x
  intro H locs ls hP hz hZ hN hS hh
  exact lv_astore_n G.1.1 G.1.2.1 hd hi hh hn hl (fun ls' hh' => k H locs ls' hP hz hZ hN hS hh')
theorem K_stat {y : MethodName} {cY : ByteArray} {nY f l mc ms idx m' n' c' s' : Nat} {As stk : List Value} {mem' : Mem} {nu' : Nul} (G : kG u x cc own nL ret rm) (hM : kMet u y cY nY (kRm f l mc ms) As mem nu n mem' nu' n') (hs : jSg y cY nY none m') (hv : Cond.static y ∈ jTW) (hw : Cond.methodLink own idx y ∈ jTW)
    (hR : f + 1 ≤ rm.frames ∧ 8 + (nY + 11) + l ≤ rm.locals) (hstk : stk = As.reverse ++ st) (hn : As.length = m') (hcat : (st.map fun v => v.category).sum ≤ 8) (hc' : cells + mc = c') (hs' : slots + ms = s') (hR2 : c' ≤ rm.cells ∧ s' ≤ rm.slots) (hd : decode cc pc = .ok (.invokestatic idx, 3))
    (kk : K u x nL Q (pc + 3) lv st mem' nu' n' c' s') : K u x nL Q pc lv stk mem nu n cells slots := by
  subst hc'; subst hs'
  obtain ⟨p, e, R, s, m, args, below, meth, cd, c1, c2⟩ := x
  intro H locs ls hP hz hZ hN hS hh
  obtain ⟨⟨hx, hb, hml, hown, hts, hK, hE, hlk, hrt, hc1, hc2, hRe⟩, hbs⟩ := G
  subst hRe
  have run := va_runS (p := p) (l := u.1) (e := e) (R := R) (s := s) (m := m) (args := args) (below := below) (meth := meth) (c := cd) (H := H) (locs := locs) (cells := cells) (slots := slots) (As := As) (rest := st) (n := m') (g := F0 m pc ls stk) ⟨hx, hb, hml, hown, hts⟩ hM ⟨callB_of m' hts (jTW_good hs.1) rfl rfl rfl (hts _ hs.2.1) (hts _ hw) hs.2.2 hR, hts _ hv⟩ ⟨?_, ?_⟩ rfl hn hh.1 hstk (by show 2 * 0 + _ ≤ 8; omega) hd hR2
  · intro T hT X
    obtain ⟨v, st₀, t, T', L, h0, X', hL, e1, e2, ⟨⟨hv, hp⟩, hz1, hk⟩, stp⟩ := run T hT X
    cases hv
    rw [h0] at hz1 hk
    obtain ⟨p1, p2, p3, p4, p5, p6⟩ := hp
    obtain ⟨t2, a1, b1⟩ := kk T'.heap (locs ++ L) ls (by rw [e1]; exact p1) (by rw [e1]; exact p2) p3 p4 ⟨Nat.le_trans hS.1 (by rw [e1]; exact hz1), fun q h1 h2 => by rw [e1, hk q (Nat.lt_of_lt_of_le h1 hS.1) h2]; exact hS.2.1 q h1 h2, fun q hq => by
        rcases List.mem_append.mp hq with h | h
        · exact hS.2.2 q h
        · exact hL q h⟩ hh T' rfl X'
    exact ⟨t2, stp t2 a1, b1⟩
  · intro a U g mk h
    obtain ⟨g0, g1, g2, g3, g4, g5, g6⟩ := h
    exact ⟨g0, g1, g2, g3, g4, va_K.moved (u := U) (U := U.calling g mk a) (Vm.Alike.refl U.vm) g5, g6.same rfl rfl⟩
  · exact fun U hU hW => ⟨rfl, by rw [hU]; exact hP, by rw [hU]; exact hz, hZ, hN, hK.moved hW.alike, hE.to hW (fun q h1 h2 => by rw [hU]; exact hS.2.1 q h1 h2)⟩
end KR
