/-! ===== making: blocks of roles ===== -/
def Z0 : FN := fun _ _ => 0
theorem Z0_ok : okF Z0 := fun _ _ => inI_0
def BD (cy : Nat → ClassId) (L : Nat → Nat) (r N : Nat) : va_W := (List.range N).map (fun i => (L (r + i), ce cy L Z0 Z0 (r + i)))
theorem BD_wd {cy : Nat → ClassId} {L : Nat → Nat} {r N : Nat} : BD cy L r N = wd cy L ((List.range N).map (fun i => r + i)) Z0 Z0 := by
  unfold BD wd
  rw [List.map_map]
  rfl
theorem BD_len {cy : Nat → ClassId} {L : Nat → Nat} {r N : Nat} : (BD cy L r N).length = N := by simp [BD]
theorem BD_get {cy : Nat → ClassId} {L : Nat → Nat} {r N i : Nat} (h : i < N) : (BD cy L r N)[i]? = some (L (r + i), ce cy L Z0 Z0 (r + i)) := by
  unfold BD
  rw [List.getElem?_map, List.getElem?_range h]
  rfl
theorem BD_of {cy : Nat → ClassId} {L : Nat → Nat} {r N i : Nat} {q : Nat × va_E} (h : (BD cy L r N)[i]? = some q) : i < N ∧ q = (L (r + i), ce cy L Z0 Z0 (r + i)) := by
  have hi : i < N := by
    have := (List.getElem?_eq_some_iff.mp h).1
    rwa [BD_len] at this
  rw [BD_get hi] at h
  exact ⟨hi, (Option.some.inj h).symm⟩
def clo (pat : List Nat) : Prop := ∀ i, i < pat.length → (pat.getD i 0 < 100 → ∀ j, j < kN (pat.getD i 0) → (kF (pat.getD i 0) j).1 = 0 ∨ ((kF (pat.getD i 0) j).1 = 1 ∧ i + (kF (pat.getD i 0) j).2.2 < pat.length) ∨ ((kF (pat.getD i 0) j).1 = 2 ∧ i + 2 < pat.length)) ∧ (¬ pat.getD i 0 < 100 → pat.getD i 0 / 10000 ≠ 4 ∨ (pat.getD i 0 = 40005 ∧ i + 53 < pat.length))
def rkp (r : Nat) (pat : List Nat) : Prop := ∀ i, i < pat.length → rk (r + i) = pat.getD i 0
theorem arrV_cg {cI : ClassId} {N : Nat} {f g : Nat → Value} (h : ∀ j, j < N → f j = g j) : arrV cI N f = arrV cI N g := by
  unfold arrV
  congr 2
  funext j
  exact h j.val j.isLt
theorem ce_a {cy : Nat → ClassId} {L : Nat → Nat} {x k : Nat} (h : rk x = k) (h1 : ¬ k < 100) (h3 : k / 10000 ≤ 3) : ce cy L Z0 Z0 x = .inl (cy (k / 10000), k % 10000, .inl (fun _ => 0)) := by
  unfold ce
  rw [h, if_neg h1, if_pos h3]
  rfl
theorem ce_cg {D : va_G} {cy : Nat → ClassId} {L L1 : Nat → Nat} {r i x : Nat} {pat : List Nat} {H : Heap} (hp : rkp r pat) (hc : clo pat) (hL : ∀ i, i < pat.length → L (r + i) = L1 (r + i)) (hi : i < pat.length) (h : va_at D vwCl (x, ce cy L1 Z0 Z0 (r + i)) H) : va_at D vwCl (x, ce cy L Z0 Z0 (r + i)) H := by
  have hk := hp i hi
  obtain ⟨c1, c2⟩ := hc i hi
  generalize pat.getD i 0 = k at hk c1 c2
  by_cases h100 : k < 100
  · have e : ce cy L Z0 Z0 (r + i) = ce cy L1 Z0 Z0 (r + i) := by
      rw [ce_obj hk h100, ce_obj hk h100]
      congr 2
      apply List.map_congr_left
      intro j hj
      unfold fv
      rcases c1 h100 j (List.mem_range.mp hj) with a | ⟨a, b⟩ | ⟨a, b⟩
      · rw [if_pos a, if_pos a]
      · rw [if_neg (by omega), if_pos a, if_neg (by omega), if_pos a, Nat.add_assoc, hL _ b]
      · have n0 : ¬ (kF k j).1 = 0 := by omega
        have n1 : ¬ (kF k j).1 = 1 := by omega
        have z : Z0 (r + i) j = 0 := rfl
        simp only [n0, n1, z, if_true, if_false]
        rw [Nat.add_assoc, hL _ b]
    rw [e]
    exact h
  · by_cases h3 : k / 10000 ≤ 3
    · rw [ce_a hk h100 h3] at h ⊢
      exact h
    · by_cases h4 : k / 10000 = 4
      · rcases c2 h100 with a | ⟨rfl, b⟩
        · exact absurd h4 a
        · have e1 : ∀ L : Nat → Nat, ce cy L Z0 Z0 (r + i) = .inl (cy 4, 5, .inr (.inr (.inr (.inr (fun q => some (L (r + i + 1 + 13 * q))))))) := fun L => by simp [ce, hk]
          rw [e1] at h ⊢
          have h' : H[x]? = some (vp_cell (cy 4) (5, .inr (.inr (.inr (.inr (fun q => some (L1 (r + i + 1 + 13 * q)))))))) := h
          show H[x]? = some (vp_cell (cy 4) (5, .inr (.inr (.inr (.inr (fun q => some (L (r + i + 1 + 13 * q))))))))
          rw [h', vp_cell_q, vp_cell_q]
          congr 1
          apply arrV_cg
          intro j hj
          rw [show r + i + 1 + 13 * j = r + (i + 1 + 13 * j) by omega, hL (i + 1 + 13 * j) (by omega)]
      · have e1 : ∀ L : Nat → Nat, ce cy L Z0 Z0 (r + i) = .inl (cy (k / 10000), k % 10000, .inr (.inr (.inr (.inr (fun _ => none))))) := fun L => by
          unfold ce
          rw [hk, if_neg h100, if_neg h3, if_neg h4]
          rfl
        rw [e1] at h ⊢
        exact h
theorem BD_P {D : va_G} {cy : Nat → ClassId} {L L1 : Nat → Nat} {r : Nat} {pat : List Nat} {H : Heap} (hp : rkp r pat) (hc : clo pat) (hL : ∀ i, i < pat.length → L (r + i) = L1 (r + i)) (h : va_P D vwCl (BD cy L1 r pat.length) H) : va_P D vwCl (BD cy L r pat.length) H := fun k q hq => by
  obtain ⟨hk, rfl⟩ := BD_of hq
  have := h k _ (BD_get hk)
  rw [← hL k hk] at this
  exact ce_cg hp hc hL hk this
theorem BD_at {D : va_G} {cy : Nat → ClassId} {L : Nat → Nat} {r n x : Nat} {H : Heap} (h : va_P D vwCl (BD cy L r n) H) (h0 : r ≤ x) (h1 : x < r + n) : va_at D vwCl (L x, ce cy L Z0 Z0 x) H := by
  have := h (x - r) _ (BD_get (by omega))
  rwa [show r + (x - r) = x by omega] at this
theorem BD_D {S : Nat → Prop} {ws : va_W} {cy : Nat → ClassId} {L : Nat → Nat} {r N : Nat} (hD : va_D S ws) (h : ∀ i, i < N → ∃ e, ws[i]? = some (L (r + i), e)) : va_D S (BD cy L r N) := by
  refine ⟨fun i j p q hi hj he => ?_, fun k q hk => ?_⟩
  · obtain ⟨hi', rfl⟩ := BD_of hi
    obtain ⟨hj', rfl⟩ := BD_of hj
    obtain ⟨e1, w1⟩ := h i hi'
    obtain ⟨e2, w2⟩ := h j hj'
    exact hD.1 i j _ _ w1 w2 he
  · obtain ⟨hk', rfl⟩ := BD_of hk
    obtain ⟨e1, w1⟩ := h k hk'
    exact hD.2 k (L (r + k), e1) w1
theorem P_suf {D : va_G} {cl : List vw_C} {w1 w2 : va_W} {H : Heap} (h : va_P D cl (w1 ++ w2) H) : va_P D cl w2 H := fun k q hq => h (w1.length + k) q (by rw [List.getElem?_append_right (by omega), show w1.length + k - w1.length = k by omega]; exact hq)
/-- roles by how far they lie from the first -/
def LO (r : Nat) (f : Nat → Nat) : Nat → Nat := fun x => f (x - r)
theorem LO_at {r i : Nat} {f : Nat → Nat} : LO r f (r + i) = f i := by
  unfold LO
  rw [Nat.add_sub_cancel_left]
def fo (f : Nat → Nat) (i : Nat) (d : Nat × Nat × Nat) : Value := if d.1 = 0 then .int 0 else if d.1 = 1 then .ref (f (i + d.2.2)) else .ref (f (i + 2))
theorem ce_o {cy : Nat → ClassId} {r i k : Nat} {f : Nat → Nat} (h : rk (r + i) = k) (hk : k < 100) : ce cy (LO r f) Z0 Z0 (r + i) = .inr (kci k, (List.range (kN k)).map (fun j => fo f i (kF k j))) := by
  rw [ce_obj h hk]
  congr 2
  apply List.map_congr_left
  intro j _
  unfold fv fo
  split
  · rfl
  · split
    · rw [Nat.add_assoc, LO_at]
    · have z : Z0 (r + i) j = 0 := rfl
      simp only [z, if_true]
      rw [Nat.add_assoc, LO_at]
/-! constructors -/
def KA (U : State) : Prop := va_AO "MovingList$Site" U ∧ va_AO "MovingList$Group" U
theorem KA.moved {u U : State} (h : u.vm.Alike U.vm) (k : KA u) : KA U := ⟨k.1.moved h, k.2.moved h⟩
def PcI (D : va_G) (cy : Nat → ClassId) (a ci : Nat) (fs vs : List Value) (sz : Nat) : Array Value → State → Prop := va_Pc (.ref a :: vs) (fun U => U.heap.size = sz ∧ va_P D vwCl [(a, .inr (ci, fs))] U.heap ∧ KK D cy U ∧ KA U)
def QcI (D : va_G) (cy : Nat → ClassId) (a ci : Nat) (fs : List Value) (r N sz : Nat) : Array Value → State → Outcome → State → Prop := fun _ st oc t => (oc = .returned none ∧ ∃ L : Nat → Nat, L r = a ∧ va_P D vwCl (BD cy L r N) t.heap ∧ va_D (va_A [(a, .inr (ci, fs))] sz) (BD cy L r N)) ∧ va_F (va_A [(a, .inr (ci, fs))] sz) st t
def MetI (y : MethodName) (ws : List Jvm.Cond) (d ci : Nat) (fs vs : List Value) (r N mc ms : Nat) : Prop := ∀ (l : Launch) (D : va_G) (cy : Nat → ClassId) (a sz : Nat), Met l y ws (rmD d (mc, ms)) (PcI D cy a ci fs vs sz) (QcI D cy a ci fs r N sz) mc ms (va_A [(a, .inr (ci, fs))] sz)
theorem PcI_blind {D : va_G} {cy : Nat → ClassId} {a ci sz : Nat} {fs vs : List Value} : FrameBlind (PcI D cy a ci fs vs sz) := fun x U g mk h => by
  obtain ⟨h1, h2, h3, h4, h5⟩ := h
  exact ⟨h1, h2, h3, KK.vm (s := U) (U := U.calling g mk x) rfl h4, h5.moved (U := U.calling g mk x) (Vm.Alike.refl _)⟩
theorem D_1 {S : Nat → Prop} {a : Nat} {e : va_E} (h : S a) : va_D S [(a, e)] := by
  refine ⟨fun i j p q hi hj _ => ?_, fun k q hk => ?_⟩
  · have h1 : i < 1 := (List.getElem?_eq_some_iff.mp hi).1
    have h2 : j < 1 := (List.getElem?_eq_some_iff.mp hj).1
    omega
  · have h1 : k < 1 := (List.getElem?_eq_some_iff.mp hk).1
    rw [show k = 0 by omega] at hk
    cases hk
    exact h
def IFx (own : String) (bytes : ByteArray) (maxL : Nat) (Ts : List Jvm.Cond) (D : va_G) (cy : Nat → ClassId) (p : Program) (s : State) (m : MethodId) (args : Array Value) (meth : Method) (c : Code) : Prop := CallFix p m c bytes maxL s args Ts own ∧ meth.sig.returnType = none ∧ meth.locks = false ∧ meth.name = "<init>" ∧ KK D cy s ∧ KA s
theorem MetI_of {y : MethodName} {bytes : ByteArray} {maxL d ci r N mc ms : Nat} {fs vs : List Value} (hpl : plainName y.cls = true) (hy : y.name = "<init>") (hlen : ∀ a : Nat, (lg_sl (.ref a :: vs)).length ≤ maxL)
    (body : ∀ (p : Program) (l : Launch) (e : Env) (s : State) (m : MethodId) (args : Array Value) (below : List Frame) (meth : Method) (c : Code) (la : Array Slot) (D : va_G) (cy : Nat → ClassId) (a : Nat) (S : Nat → Prop), S = va_A [(a, .inr (ci, fs))] s.heap.size → IFx y.cls bytes maxL (.code y bytes maxL none :: W0) D cy p s m args meth c → lv_has la maxL (lv_args 0 (.ref a :: vs)) → (∀ q, s.heap.size ≤ q → S q) → va_P D vwCl [(a, .inr (ci, fs))] s.heap → va_D S [(a, .inr (ci, fs))] → va_S S s.heap s.heap [] →
      W p l e (rmD d (mc, ms)) s m args below meth c s.heap [] 0 0 (MQ below (QcI D cy a ci fs r N s.heap.size) args s mc ms S) (F0 m 0 la [])) : MetI y (.code y bytes maxL none :: W0) d ci fs vs r N mc ms := by
  intro l D cy a sz
  refine Met.ofW (cc := bytes) (maxL := maxL) (ret := none) hpl rfl ?_
  intro p e s m args below meth c s₁ B hml hv
  obtain ⟨rfl, hsz, hP, hK, hKA⟩ := hv
  subst hsz
  have hl := lv_entry (.ref a :: vs) (n := maxL) (hlen a)
  rw [lg_entry_eq]
  generalize (lg_sl (.ref a :: vs) ++ List.replicate (maxL - (lg_sl (.ref a :: vs)).length) Slot.unset).toArray = la at hl ⊢
  exact body p l e s m _ below meth c la D cy a _ rfl ⟨⟨B.exec, B.bytes, hml, findClass_of_methodNamed B.named, atoms_spec (ws := .code y bytes maxL none :: W0) B.pre⟩, B.returns, B.notSynchronized, (name_of_methodNamed B.named B.method).1.trans hy, hK, hKA⟩ hl (fun q h => Or.inr h) hP (D_1 (Or.inl ⟨0, _, rfl⟩)) va_S.rf
section MK
variable {p : Program} {l : Launch} {e : Env} {R : Room} {s : State} {m : MethodId} {args : Array Value} {below : List Frame} {meth : Method} {c : Code} {H : Heap} {locs : List Loc} {cells slots : Nat} {Qf : State → Prop} {D : va_G} {cy : Nat → ClassId} {S : Nat → Prop} {own : String} {bytes : ByteArray} {Ts : List Jvm.Cond} {nL pc : Nat} {la : Array Slot} {rest : List Value} {B X : va_W}
theorem w_putF (CF : CallFix p m c bytes nL s args Ts own) (hK : KK D cy s) (hin : meth.name = "<init>") {a ci : Nat} {fs : List Value} (hP : va_P D vwCl ((a, .inr (ci, fs)) :: B) H) (hD : va_D S ((a, .inr (ci, fs)) :: B)) (hS : va_S S s.heap H locs) {idx k j : Nat} (hf : FL own Ts idx k j) {C : String} {T : u_T} {N : Nat} {ty : FieldType} {v : Value} (hci : kci k = ci) (hT : vwCl[ci]? = some (C, T, N)) (hfin : (T j).2.2.2 = true) (hdecl : (T j).1 = own) (hty : parseFieldDescriptor (T j).2.2.1 = some ty) (hnar : narrow ty v = v) (hfit : fits ty v = true) (hl : j < fs.length) (hd : decode bytes pc = .ok (.putfield idx, 3))
    (kk : ∀ (H1 : Heap) (locs1 : List Loc), va_P D vwCl ((a, .inr (ci, fs.set j v)) :: B) H1 → va_D S ((a, .inr (ci, fs.set j v)) :: B) → va_S S s.heap H1 locs1 → W p l e R s m args below meth c H1 locs1 cells slots Qf (F0 m (pc + 3) la rest)) : W p l e R s m args below meth c H locs cells slots Qf (F0 m pc la (v :: .ref a :: rest)) := by
  obtain ⟨hx, hb, hml, hown, hts⟩ := CF
  obtain ⟨h100, hj, C', T', ty0, hc, hu, hlk2, hp, hn, -, -⟩ := hf
  rw [hci] at hc
  have e := hT.symm.trans hc
  simp only [Option.some.injEq, Prod.mk.injEq] at e
  obtain ⟨rfl, rfl, rfl⟩ := e
  exact va_putF (ty := ty) hx hb hts hu ty0 hp hn hown hK.1 hP hD hS 0 rfl hc j hj (hts _ hlk2) (fun _ h9 => h9) hfin hin hdecl hty hnar hfit hl hd (fun H1 locs1 h1 h2 h3 => kk H1 locs1 h1 h2 h3)
theorem w_put (CF : CallFix p m c bytes nL s args Ts own) (hK : KK D cy s) {a ci : Nat} {fs : List Value} (hP : va_P D vwCl ((a, .inr (ci, fs)) :: B) H) (hD : va_D S ((a, .inr (ci, fs)) :: B)) (hS : va_S S s.heap H locs) {idx k j : Nat} (hf : FL own Ts idx k j) {C : String} {T : u_T} {N : Nat} {ty : FieldType} {v : Value} (hci : kci k = ci) (hT : vwCl[ci]? = some (C, T, N)) (hfin : (T j).2.2.2 = false) (hty : parseFieldDescriptor (T j).2.2.1 = some ty) (hnar : narrow ty v = v) (hfit : fits ty v = true) (hl : j < fs.length) (hd : decode bytes pc = .ok (.putfield idx, 3))
    (kk : ∀ (H1 : Heap) (locs1 : List Loc), va_P D vwCl ((a, .inr (ci, fs.set j v)) :: B) H1 → va_D S ((a, .inr (ci, fs.set j v)) :: B) → va_S S s.heap H1 locs1 → W p l e R s m args below meth c H1 locs1 cells slots Qf (F0 m (pc + 3) la rest)) : W p l e R s m args below meth c H locs cells slots Qf (F0 m pc la (v :: .ref a :: rest)) := by
  obtain ⟨hx, hb, hml, hown, hts⟩ := CF
  obtain ⟨h100, hj, C', T', ty0, hc, hu, hlk2, hp, hn, -, -⟩ := hf
  rw [hci] at hc
  have e := hT.symm.trans hc
  simp only [Option.some.injEq, Prod.mk.injEq] at e
  obtain ⟨rfl, rfl, rfl⟩ := e
  exact va_put (v := v) (ty := ty) hx hb hts hu ty0 hp hn hown hK.1 hP hD hS 0 rfl hc j hj (hts _ hlk2) (fun _ h9 => h9) hfin hty hnar hfit hl hd (fun H1 locs1 h1 h2 h3 => kk H1 locs1 h1 h2 h3)
theorem w_na (CF : CallFix p m c bytes nL s args Ts own) (hK : KK D cy s) (hP : va_P D vwCl X H) (hD : va_D S X) (hS : va_S S s.heap H locs) (hSz : ∀ q, s.heap.size ≤ q → S q) {aty : ArrayType} {t N : Nat} {n : Int32} (ht : (aty = .int ∧ t = 1) ∨ (aty = .byte ∧ t = 2) ∨ (aty = .boolean ∧ t = 3)) (hac : Jvm.Cond.arrayClass (newarray.typeOf aty) ∈ Ts) (hn : ¬ n < 0) (hN : n.toNatClampNeg = N) (hNb : N ≤ 10000) (hc1 : cells + 1 ≤ R.cells) (hc2 : slots + N ≤ R.slots) (hd : decode bytes pc = .ok (.newarray aty, 2))
    (kk : ∀ (b : Nat) (H1 : Heap), va_P D vwCl (X ++ [(b, .inl (cy t, N, .inl (fun _ => 0)))]) H1 → va_D S (X ++ [(b, .inl (cy t, N, .inl (fun _ => 0)))]) → va_S S s.heap H1 locs → W p l e R s m args below meth c H1 locs (cells + 1) (slots + N) Qf (F0 m (pc + 2) la (.ref b :: rest))) : W p l e R s m args below meth c H locs cells slots Qf (F0 m pc la (.int n :: rest)) := by
  obtain ⟨hx, hb, hml, hown, hts⟩ := CF
  rcases ht with ⟨rfl, rfl⟩ | ⟨rfl, rfl⟩ | ⟨rfl, rfl⟩
  · refine va_newa (atype := .int) (ty := .int) (a0 := (N, .inl (fun _ => 0))) hx hb (hts _ hac) rfl hK.1 hP hD hS hSz (fun cA => rfl) hn hN (by show N * 4 ≤ 536870912; omega) hc1 hc2 hd (fun a cA H1 hK1 hP1 hD1 hS1 => ?_)
    have hcA : cA = cy 1 := Option.some.inj ((va_nm_int (hK1.2 5 (cA, .int) rfl).2).symm.trans (va_nm_int (hK1.2 0 (cy 1, .int) rfl).2))
    subst hcA
    exact kk a H1 hP1 hD1 hS1
  · refine va_newa (atype := .byte) (ty := .byte) (a0 := (N, .inl (fun _ => 0))) hx hb (hts _ hac) rfl hK.1 hP hD hS hSz (fun cA => rfl) hn hN (by show N * 1 ≤ 536870912; omega) hc1 hc2 hd (fun a cA H1 hK1 hP1 hD1 hS1 => ?_)
    have hcA : cA = cy 2 := Option.some.inj ((va_nm_byte (hK1.2 5 (cA, .byte) rfl).2).symm.trans (va_nm_byte (hK1.2 1 (cy 2, .byte) rfl).2))
    subst hcA
    exact kk a H1 hP1 hD1 hS1
  · refine va_newa (atype := .boolean) (ty := .boolean) (a0 := (N, .inl (fun _ => 0))) hx hb (hts _ hac) rfl hK.1 hP hD hS hSz (fun cA => rfl) hn hN (by show N * 1 ≤ 536870912; omega) hc1 hc2 hd (fun a cA H1 hK1 hP1 hD1 hS1 => ?_)
    have hcA : cA = cy 3 := Option.some.inj ((va_nm_boolean (hK1.2 5 (cA, .boolean) rfl).2).symm.trans (va_nm_boolean (hK1.2 2 (cy 3, .boolean) rfl).2))
    subst hcA
    exact kk a H1 hP1 hD1 hS1
theorem w_nq (CF : CallFix p m c bytes nL s args Ts own) (hK : KK D cy s) (hP : va_P D vwCl X H) (hD : va_D S X) (hS : va_S S s.heap H locs) (hSz : ∀ q, s.heap.size ≤ q → S q) {C : String} {idx t N : Nat} {n : Int32} (ht : (C = "MovingList$Site" ∧ t = 4) ∨ (C = "MovingList$Group" ∧ t = 5)) (hAO : va_AO C s) (hcl : Jvm.Cond.classLink own idx C ∈ Ts) (hn : ¬ n < 0) (hN : n.toNatClampNeg = N) (hNb : N ≤ 10000) (hc1 : cells + 1 ≤ R.cells) (hc2 : slots + N ≤ R.slots) (hd : decode bytes pc = .ok (.anewarray idx, 3))
    (kk : ∀ (b : Nat) (H1 : Heap), va_P D vwCl (X ++ [(b, .inl (cy t, N, .inr (.inr (.inr (.inr (fun _ => none))))))]) H1 → va_D S (X ++ [(b, .inl (cy t, N, .inr (.inr (.inr (.inr (fun _ => none))))))]) → va_S S s.heap H1 locs → W p l e R s m args below meth c H1 locs (cells + 1) (slots + N) Qf (F0 m (pc + 3) la (.ref b :: rest))) : W p l e R s m args below meth c H locs cells slots Qf (F0 m pc la (.int n :: rest)) := by
  obtain ⟨hx, hb, hml, hown, hts⟩ := CF
  refine va_newq hx hb hown (hts _ hcl) hAO hK.1 hP hD hS hSz hn hN (by omega) hc1 hc2 hd (fun a cA H1 hK1 hP1 hD1 hS1 => ?_)
  have hcA : cA = cy t := by
    rcases ht with ⟨rfl, rfl⟩ | ⟨rfl, rfl⟩
    · exact Option.some.inj ((va_nmO (hK1.2 5 (cA, .object "MovingList$Site") rfl).2 rfl).symm.trans (va_nmO (hK1.2 3 (cy 4, .object "MovingList$Site") rfl).2 rfl))
    · exact Option.some.inj ((va_nmO (hK1.2 5 (cA, .object "MovingList$Group") rfl).2 rfl).symm.trans (va_nmO (hK1.2 4 (cy 5, .object "MovingList$Group") rfl).2 rfl))
  subst hcA
  exact kk a H1 hP1 hD1 hS1
theorem w_new (CF : CallFix p m c bytes nL s args Ts own) (hK : KK D cy s) (hP : va_P D vwCl X H) (hD : va_D S X) (hS : va_S S s.heap H locs) (hSz : ∀ q, s.heap.size ≤ q → S q) {C : String} {T : u_T} {N ci idx : Nat} (hT : vwCl[ci]? = some (C, T, N)) (hu : ∀ w ∈ u_ws C T N, w ∈ Ts) (ty : Nat → FieldType) (hty : ∀ k, k < N → parseFieldDescriptor (T k).2.2.1 = some (ty k)) (hcl : Jvm.Cond.classLink own idx C ∈ Ts) (hinst : Jvm.Cond.instantiable C N ∈ Ts) (hini : Jvm.Cond.initialized C ∈ Ts) {fs : List Value} (hfs : ∀ j, j < N → defaultValue (ty j) = vp_V fs j) (hc1 : cells + 1 ≤ R.cells) (hc2 : slots + N ≤ R.slots) (hd : decode bytes pc = .ok (.new idx, 3)) (hd2 : decode bytes (pc + 3) = .ok (.dup, 1))
    (kk : ∀ (q : Nat) (H1 : Heap), va_P D vwCl (X ++ [(q, .inr (ci, fs))]) H1 → va_D S (X ++ [(q, .inr (ci, fs))]) → va_S S s.heap H1 locs → W p l e R s m args below meth c H1 locs (cells + 1) (slots + N) Qf (F0 m (pc + 4) la (.ref q :: .ref q :: rest))) : W p l e R s m args below meth c H locs cells slots Qf (F0 m pc la rest) := by
  obtain ⟨hx, hb, hml, hown, hts⟩ := CF
  refine va_new hx hb hts hu ty hty hown (hts _ hcl) (hts _ hinst) (hts _ hini) hK.1 hP hD hS hSz hT hfs hc1 hc2 hd (fun q H1 hP1 hD1 hS1 => ?_)
  exact lv_dup hx hb hd2 rfl (kk q H1 hP1 hD1 hS1)
theorem i_core {st0 : List Value} {q ci mc ms r N : Nat} {fs : List Value} {a : Array Value}
    (hr : va_Run p l e R s m args below meth c H locs cells slots mc ms (F0 m pc la st0) rest (QcI D cy q ci fs r N H.size a) (va_A [(q, .inr (ci, fs))] H.size))
    (hP : va_P D vwCl (X ++ [(q, .inr (ci, fs))]) H) (hD : va_D S (X ++ [(q, .inr (ci, fs))])) (hS : va_S S s.heap H locs) (hSz : ∀ q, s.heap.size ≤ q → S q)
    (kk : ∀ (L : Nat → Nat) (H1 : Heap) (locs1 : List Loc), L r = q → va_P D vwCl (X ++ BD cy L r N) H1 → va_D S (X ++ BD cy L r N) → va_S S s.heap H1 locs1 → W p l e R s m args below meth c H1 locs1 (cells + mc) (slots + ms) Qf (F0 m (pc + 3) la rest)) : W p l e R s m args below meth c H locs cells slots Qf (F0 m pc la st0) := by
  have hq : (X ++ [(q, .inr (ci, fs))])[X.length]? = some (q, .inr (ci, fs)) := by rw [List.getElem?_append_right (Nat.le_refl _), Nat.sub_self]; rfl
  have hX : ∀ (k : Nat) (x : Nat × va_E), X[k]? = some x → (X ++ [(q, Sum.inr (ci, fs))])[k]? = some x := fun k x hx => by rw [List.getElem?_append_left (List.getElem?_eq_some_iff.mp hx).1]; exact hx
  have h1 : ∀ {k : Nat} {z : Nat × va_E}, [(q, Sum.inr (ci, fs))][k]? = some z → z.1 = q := by
    intro k z hz
    have h1 : k < 1 := (List.getElem?_eq_some_iff.mp hz).1
    rw [show k = 0 by omega] at hz
    cases hz
    rfl
  have hfree : ∀ z, va_A [(q, .inr (ci, fs))] H.size z → S z := fun z hz => by
    rcases hz with ⟨k, e1, hk⟩ | hz
    · have := h1 hk
      simp only at this
      rw [this]
      exact hD.2 _ _ hq
    · exact hSz z (Nat.le_trans hS.1 hz)
  have apart : ∀ (k : Nat) (x : Nat × va_E), X[k]? = some x → x.1 < H.size ∧ ¬ va_A [(q, .inr (ci, fs))] H.size x.1 := by
    intro k x hx
    have hl := (hP k x (hX k x hx)).lt
    refine ⟨hl, fun h => ?_⟩
    rcases h with ⟨k2, e1, hk⟩ | h
    · have h2 := h1 hk
      have h3 := hD.1 k X.length x _ (hX k x hx) hq h2
      have := (List.getElem?_eq_some_iff.mp hx).1
      omega
    · omega
  intro T hT Xs
  obtain ⟨v, st₀, t, T', Lc', h0, X', hL', e1, e2, ⟨⟨hv, L, hLr, hP', hD'⟩, hz, hk⟩, stp⟩ := hr T hT Xs
  cases hv
  rw [h0] at hz hk
  obtain ⟨t2, a1, b1⟩ := kk L T'.heap (locs ++ Lc') hLr
    (va_P.app (fun k x hx => ((hP k x (hX k x hx)).kept (by rw [e1]; exact hk x.1 (apart k x hx).1 (apart k x hx).2))) (by rw [e1]; exact hP'))
    (va_D.app (D_pre hD) (hD'.weaken (fun _ z _ h => hfree z.1 h)) (fun i j x z hx hz h => (apart i x hx).2 (by rw [h]; exact hD'.2 j z hz)))
    ⟨Nat.le_trans hS.1 (by rw [e1]; exact hz), fun z h1 h2 => by rw [e1, hk z (Nat.lt_of_lt_of_le h1 hS.1) (fun zz => h2 (hfree z zz))]; exact hS.2.1 z h1 h2, fun z hz => by
      rcases List.mem_append.mp hz with h | h
      · exact hS.2.2 z h
      · exact hfree _ (hL' z h)⟩ T' rfl X'
  exact ⟨t2, stp t2 a1, b1⟩
theorem w_ctorI {c0 : Jvm.Cond} {d d' idx n maxL q ci r N mc ms : Nat} {mx : Nat × Nat} {y : MethodName} {yb : ByteArray} {fs vs : List Value} (hM : MetI y (.code y yb maxL none :: W0) d' ci fs vs r N mc ms) (hdd : d' + 1 ≤ d) (hmx : maxL ≤ 21) (CF : CallFix p m c bytes nL s args (c0 :: W0) own) (hK : KK D cy s) (hKA : KA s) (hcode : Jvm.Cond.code y yb maxL none ∈ W0) (hini : Jvm.Cond.initialized y.cls ∈ W0) (hlk : Jvm.Cond.methodLink own idx y ∈ W0) (hins : Jvm.Cond.instanceMethod y ∈ W0) (hy1 : y.name = "<init>")
    (hy : y.cls ≠ "java/lang/invoke/MethodHandle" ∧ y.cls ≠ "java/lang/invoke/VarHandle" ∧ (parseMethodDescriptor y.desc).map (fun d => d.parameters.length) = some n) (hn : vs.length = n) (hla : la.size = nL) (hroom : (rest.map fun v => v.category).sum ≤ 8)
    (hP : va_P D vwCl (X ++ [(q, .inr (ci, fs))]) H) (hD : va_D S (X ++ [(q, .inr (ci, fs))])) (hS : va_S S s.heap H locs) (hSz : ∀ q, s.heap.size ≤ q → S q) (hc : cells + mc ≤ mx.1 ∧ slots + ms ≤ mx.2) (hd : decode bytes pc = .ok (.invokespecial idx, 3))
    (kk : ∀ (L : Nat → Nat) (H1 : Heap) (locs1 : List Loc), L r = q → va_P D vwCl (X ++ BD cy L r N) H1 → va_D S (X ++ BD cy L r N) → va_S S s.heap H1 locs1 → W p l e (rmD d mx) s m args below meth c H1 locs1 (cells + mc) (slots + ms) Qf (F0 m (pc + 3) la rest)) : W p l e (rmD d mx) s m args below meth c H locs cells slots Qf (F0 m pc la (vs.reverse ++ .ref q :: rest)) := by
  have hG : GoodIn (c0 :: W0) (.code y yb maxL none :: W0) := gd0 (fun w hw => (List.mem_cons.mp hw).elim (fun e => e ▸ hcode) id)
  have cw := cwI (R := rmD d mx) (own := own) (index := idx) (y := y) (bytes := yb) (maxL := maxL) (rm := rmD d' (mc, ms)) (mc := mc) (ms := ms) n CF.2.2.2.2 hG rfl rfl rfl (CF.2.2.2.2 _ (List.mem_cons_of_mem _ hini)) (CF.2.2.2.2 _ (List.mem_cons_of_mem _ hlk)) (CF.2.2.2.2 _ (List.mem_cons_of_mem _ hins)) hy1 hy ⟨hdd, by show 8 + (maxL + 11) + 40 * d' ≤ 40 * d; omega⟩
  have hrun := va_runI (g := F0 m pc la (vs.reverse ++ .ref q :: rest)) (locs := locs) (H := H) (b := q) (As := vs) (rest := rest) (p := p) (e := e) (below := below) (meth := meth) (cells := cells) (slots := slots) CF (hM l D cy q H.size) cw
    ⟨PcI_blind, fun U hU hW => ⟨rfl, by rw [hU], by rw [hU]; exact P_suf hP, KK.warm hW hK, hKA.moved hW.alike⟩⟩ rfl hn hla rfl (lv_room hroom) hd ⟨hc.1, hc.2⟩
  exact i_core hrun hP hD hS hSz kk
theorem w_ctorN {c0 : Jvm.Cond} {d d' idx n maxL q ci r N mc ms : Nat} {mx : Nat × Nat} {y : MethodName} {host : String} {yb : ByteArray} {fs vs : List Value} (hM : MetI y (.code y yb maxL none :: W0) d' ci fs vs r N mc ms) (hdd : d' + 1 ≤ d) (hmx : maxL ≤ 21) (CF : CallFix p m c bytes nL s args (c0 :: W0) own) (hK : KK D cy s) (hKA : KA s) (hcode : Jvm.Cond.code y yb maxL none ∈ W0) (hini : Jvm.Cond.initialized y.cls ∈ W0) (hnw : (own, idx, y, host) ∈ nwL) (hins : Jvm.Cond.instanceMethod y ∈ W0) (hy1 : y.name = "<init>")
    (hy : y.cls ≠ "java/lang/invoke/MethodHandle" ∧ y.cls ≠ "java/lang/invoke/VarHandle" ∧ (parseMethodDescriptor y.desc).map (fun d => d.parameters.length) = some n) (hn : vs.length = n) (hla : la.size = nL) (hroom : (rest.map fun v => v.category).sum ≤ 8)
    (hP : va_P D vwCl (X ++ [(q, .inr (ci, fs))]) H) (hD : va_D S (X ++ [(q, .inr (ci, fs))])) (hS : va_S S s.heap H locs) (hSz : ∀ q, s.heap.size ≤ q → S q) (hc : cells + mc ≤ mx.1 ∧ slots + ms ≤ mx.2) (hd : decode bytes pc = .ok (.invokespecial idx, 3))
    (kk : ∀ (L : Nat → Nat) (H1 : Heap) (locs1 : List Loc), L r = q → va_P D vwCl (X ++ BD cy L r N) H1 → va_D S (X ++ BD cy L r N) → va_S S s.heap H1 locs1 → W p l e (rmD d mx) s m args below meth c H1 locs1 (cells + mc) (slots + ms) Qf (F0 m (pc + 3) la rest)) : W p l e (rmD d mx) s m args below meth c H locs cells slots Qf (F0 m pc la (vs.reverse ++ .ref q :: rest)) := by
  have hG : GoodIn (c0 :: W0) (.code y yb maxL none :: W0) := gd0 (fun w hw => (List.mem_cons.mp hw).elim (fun e => e ▸ hcode) id)
  have cb := va_cnB (R := rmD d mx) (own := own) (host := host) (index := idx) (maxL := maxL) (mc := mc) (ms := ms) (y := y) (bytes := yb) (ret := none) (rm := rmD d' (mc, ms)) n CF.2.2.2.2 hG rfl rfl rfl (hK.2 _ hnw) (CF.2.2.2.2 _ (List.mem_cons_of_mem _ hini)) hy ⟨hdd, by show 8 + (maxL + 11) + 40 * d' ≤ 40 * d; omega⟩
  have hrun := va_runIN (g := F0 m pc la (vs.reverse ++ .ref q :: rest)) (locs := locs) (H := H) (b := q) (As := vs) (rest := rest) (p := p) (e := e) (below := below) (meth := meth) (cells := cells) (slots := slots) CF (hM l D cy q H.size) ⟨cb, hy1, CF.2.2.2.2 _ (List.mem_cons_of_mem _ hins)⟩
    ⟨PcI_blind, fun U hU hW => ⟨rfl, by rw [hU], by rw [hU]; exact P_suf hP, KK.warm hW hK, hKA.moved hW.alike⟩⟩ rfl hn hla rfl (lv_room hroom) hd ⟨hc.1, hc.2⟩
  exact i_core hrun hP hD hS hSz kk
end MK
