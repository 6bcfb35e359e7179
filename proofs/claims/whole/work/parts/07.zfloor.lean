section JFD
variable {α : Type} {u : jU} {x : jX} {cc : ByteArray} {own : String} {nL : Nat} {ret : Option FieldType} {rm : Room} {Qf : α → State → Prop} {pc : Nat} {lv : List (Nat × Value)} {st : List Value} {mem : Mem} {o o' : Option α} {a b : Int}
theorem J_floorDiv {idx : Nat} (G : jG u x cc own nL ret rm) (hw : Cond.methodLink own idx yJ9_floorDiv_f86c9 ∈ jTW) (hR : 1 ≤ rm.frames ∧ (st.map fun v => v.category).sum + 17 ≤ rm.locals) (hd : decode cc pc = .ok (.invokestatic idx, 3)) (kk : J u x nL Qf (pc + 3) lv (vL ((s64 a).fdiv (s64 b)) :: st) mem o) : J u x nL Qf pc lv (vL b :: vL a :: st) mem (dv (s64 b) o) := by
  sorry
end JFD
