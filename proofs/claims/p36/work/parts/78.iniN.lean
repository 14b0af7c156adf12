/-! ===== the constructors of the class and of the reference ===== -/
def rl (r N : Nat) : List Nat := (List.range N).map (fun i => r + i)
theorem rl_mem {r N x : Nat} (h0 : r ≤ x) (h1 : x < r + N) : x ∈ rl r N := List.mem_map.mpr ⟨x - r, List.mem_range.mpr (by omega), by omega⟩
theorem rl_of {r N x : Nat} (h : x ∈ rl r N) : r ≤ x ∧ x < r + N := by
  obtain ⟨i, hi, rfl⟩ := List.mem_map.mp h
  have := List.mem_range.mp hi
  omega
theorem kF_big {k j : Nat} (h : 23 ≤ j) : kF k j = (0, 0, 0) := by
  have e : ∀ k, k < 10 → (kfs.getD k []).length ≤ 23 := by decide +kernel
  unfold kF
  by_cases hk : k < 10
  · rw [List.getD_eq_getElem?_getD (l := kfs.getD k []), List.getElem?_eq_none (by have := e k hk; omega)]
    rfl
  · rw [List.getD_eq_getElem?_getD (l := kfs), List.getElem?_eq_none (by have : kfs.length = 10 := rfl; omega)]
    rfl
theorem LvOk_of {lv : List Nat} (h1 : ∀ r ∈ lv, ∀ j, j < 23 → (kF (rk r) j).1 ≠ 0 → r + (kF (rk r) j).2.2 ∈ lv ∧ rk (r + (kF (rk r) j).2.2) = (kF (rk r) j).2.1) (h2 : ∀ r ∈ lv, rk r = 40005 → ∀ i, i < 5 → r + 1 + 13 * i ∈ lv ∧ rk (r + 1 + 13 * i) = 6) : LvOk lv := by
  refine ⟨fun r hr j hj => ?_, h2⟩
  by_cases h : j < 23
  · exact h1 r hr j h hj
  · rw [kF_big (by omega)] at hj
    exact absurd rfl hj
theorem lvC : LvOk (rl 0 97) := LvOk_of (by decide +kernel) (by decide +kernel)
theorem lvM : LvOk (rl 300 12) := LvOk_of (by decide +kernel) (by decide +kernel)
theorem CI_new {I A : FN} (q : GQ Z0 Z0 1 I A) : CI I A ∧ I 0 7 = 0 ∧ I 77 = Z0 77 ∧ A 78 = Z0 78 := by
  obtain ⟨q1, q2, q3⟩ := q
  have z : ∀ r, R2 (Z0 r) 0 200 := fun r i _ => ⟨by show (0 : Int) ≤ 0; omega, by show (0 : Int) ≤ 200; omega⟩
  have e0 : I 0 7 = 0 := by rw [q2 0 (by omega)]; rfl
  have e7 : I 77 = Z0 77 := q2 77 (by omega)
  refine ⟨⟨q1, by rw [q3 94 (by omega)]; exact z 94, by rw [q3 95 (by omega)]; exact z 95, by omega, fun i hi h => ?_⟩, e0, e7, q3 78 (by omega)⟩
  rw [e7] at h
  exact absurd rfl h
theorem Rg_z {r : Nat} : Rg (Z0 r) := by
  intro i
  intro _
  exact ⟨by show (0 : Int) ≤ 0; omega, by show (0 : Int) < 200; omega⟩
theorem MI_new {I A : FN} (h : Mm (A 301)) (f : F1 Z0 A) (h3 : I 300 3 = 0) (hj : ∀ j : Nat, j ≠ 3 → I 300 j = Z0 300 j) : MI I A ∧ I 300 17 = 0 ∧ I 300 3 = 0 := by
  have e : ∀ j : Nat, j ≠ 3 → I 300 j = 0 := fun j h => hj j h
  have a := e 4 (by omega)
  have b := e 7 (by omega)
  have c := e 9 (by omega)
  have d := e 13 (by omega)
  have g := e 17 (by omega)
  refine ⟨⟨h, by omega, by rw [f 303 (by omega)]; exact Rg_z, by omega, by rw [f 305 (by omega)]; exact Rg_z, by omega, by omega, by omega, Or.inl h3, fun z => by omega, fun z => by omega⟩, g, h3⟩
def QcN (D : va_G) (cy : Nat → ClassId) (a ci : Nat) (fs : List Value) (r N sz : Nat) (PO : FN → FN → Prop) : Array Value → State → Outcome → State → Prop := fun _ st oc t => (oc = .returned none ∧ ∃ (L : Nat → Nat) (I A : FN), L r = a ∧ okF I ∧ okF A ∧ PO I A ∧ va_P D vwCl (wd cy L (rl r N) I A) t.heap ∧ va_D (va_A [(a, .inr (ci, fs))] sz) (wd cy L (rl r N) I A)) ∧ va_F (va_A [(a, .inr (ci, fs))] sz) st t
def MetN (y : MethodName) (ws : List Jvm.Cond) (d ci : Nat) (fs : List Value) (r N mc ms : Nat) (PO : FN → FN → Prop) : Prop := ∀ (l : Launch) (D : va_G) (cy : Nat → ClassId) (a sz : Nat), Met l y ws (rmD d (mc, ms)) (PcI D cy a ci fs [] sz) (QcN D cy a ci fs r N sz PO) mc ms (va_A [(a, .inr (ci, fs))] sz)
def POC (I A : FN) : Prop := CI I A ∧ I 0 7 = 0 ∧ I 77 = Z0 77 ∧ A 78 = Z0 78
def POM (I A : FN) : Prop := MI I A ∧ I 300 17 = 0 ∧ I 300 3 = 0
theorem MetN_of {y : MethodName} {bytes : ByteArray} {maxL d ci r N mc ms : Nat} {fs : List Value} {PO : FN → FN → Prop} (hpl : plainName y.cls = true) (hy : y.name = "<init>") (hlen : ∀ a : Nat, (lg_sl [.ref a]).length ≤ maxL)
    (body : ∀ (p : Program) (l : Launch) (e : Env) (s : State) (m : MethodId) (args : Array Value) (below : List Frame) (meth : Method) (c : Code) (la : Array Slot) (D : va_G) (cy : Nat → ClassId) (a : Nat) (S : Nat → Prop), S = va_A [(a, .inr (ci, fs))] s.heap.size → IFx y.cls bytes maxL (.code y bytes maxL none :: W0) D cy p s m args meth c → lv_has la maxL (lv_args 0 [.ref a]) → (∀ q, s.heap.size ≤ q → S q) → va_P D vwCl [(a, .inr (ci, fs))] s.heap → va_D S [(a, .inr (ci, fs))] → va_S S s.heap s.heap [] →
      W p l e (rmD d (mc, ms)) s m args below meth c s.heap [] 0 0 (MQ below (QcN D cy a ci fs r N s.heap.size PO) args s mc ms S) (F0 m 0 la [])) : MetN y (.code y bytes maxL none :: W0) d ci fs r N mc ms PO := by
  intro l D cy a sz
  refine Met.ofW (cc := bytes) (maxL := maxL) (ret := none) hpl rfl ?_
  intro p e s m args below meth c s₁ B hml hv
  obtain ⟨rfl, hsz, hP, hK, hKA⟩ := hv
  subst hsz
  have hl := lv_entry [.ref a] (n := maxL) (hlen a)
  rw [lg_entry_eq]
  generalize (lg_sl [.ref a] ++ List.replicate (maxL - (lg_sl [.ref a]).length) Slot.unset).toArray = la at hl ⊢
  exact body p l e s m _ below meth c la D cy a _ rfl ⟨⟨B.exec, B.bytes, hml, findClass_of_methodNamed B.named, atoms_spec (ws := .code y bytes maxL none :: W0) B.pre⟩, B.returns, B.notSynchronized, (name_of_methodNamed B.named B.method).1.trans hy, hK, hKA⟩ hl (fun q h => Or.inr h) hP (D_1 (Or.inl ⟨0, _, rfl⟩)) va_S.rf
