theorem gdV {own : String} {idx maxL : Nat} {y : MethodName} {yb : ByteArray} {ret : Option FieldType} {c0 : Jvm.Cond} (h1 : Jvm.Cond.methodLink own idx y ∈ W0) (h2 : Jvm.Cond.instanceMethod y ∈ W0) (h3 : Jvm.Cond.selects y.cls y y ∈ W0) (h4 : Jvm.Cond.initialized y.cls ∈ W0) (h5 : Jvm.Cond.code y yb maxL ret ∈ W0) : GoodIn (c0 :: W0) (wsV own idx y.cls y (.code y yb maxL ret :: W0)) := gd0 (fun w hw => by
  unfold wsV at hw
  rcases List.mem_append.mp hw with h | h
  · simp only [List.mem_cons, List.not_mem_nil, or_false] at h
    rcases h with rfl | rfl | rfl | rfl
    · exact h1
    · exact h2
    · exact h3
    · exact h4
  · rcases List.mem_cons.mp h with rfl | h
    · exact h5
    · exact h)
theorem gdS {own : String} {idx maxL : Nat} {y : MethodName} {yb : ByteArray} {ret : Option FieldType} {c0 : Jvm.Cond} (h1 : Jvm.Cond.methodLink own idx y ∈ W0) (h2 : Jvm.Cond.static y ∈ W0) (h4 : Jvm.Cond.initialized y.cls ∈ W0) (h5 : Jvm.Cond.code y yb maxL ret ∈ W0) : GoodIn (c0 :: W0) (va_wsS own idx y (.code y yb maxL ret :: W0)) := gd0 (fun w hw => by
  unfold va_wsS at hw
  rcases List.mem_append.mp hw with h | h
  · simp only [List.mem_cons, List.not_mem_nil, or_false] at h
    rcases h with rfl | rfl | rfl
    · exact h1
    · exact h2
    · exact h4
  · rcases List.mem_cons.mp h with rfl | h
    · exact h5
    · exact h)
theorem wp_u {bytes : ByteArray} {fl : FLT} {lc : Nat → Option Int} {ct : Nat → Option Ctr} {post : Option Int → FN → FN → Prop} {rt : Nat} {mx : Nat × Nat} {wr cut : List Nat} {G : WT} {n : Nat} {q : Nat × Nat} {pc : Nat} {ls : Lc} {st : List AV} {I A : FN} : wp bytes fl lc ct post rt mx wr cut G n q pc ls st I A = (if n = 0 then False else if cut.elem pc = true then G q pc ls st I A else exD fl lc ct post rt mx wr (wp bytes fl lc ct post rt mx wr cut G (n - 1)) (decode bytes pc) q pc ls st I A) := by
  cases n with
  | zero => rfl
  | succ n => simp only [wp, Nat.add_sub_cancel, Nat.add_one_ne_zero, if_false]
theorem bI_cg {a b : Prop} (h : a ↔ b) : bI a = bI b := by rw [propext h]
