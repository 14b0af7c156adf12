/-! ===== the law: calls ===== -/
def apt (L : Nat → Nat) (lv : List Nat) (w2 : va_W) : Prop := ∀ (k : Nat) (q : Nat × va_E), w2[k]? = some q → ∀ r ∈ lv, q.1 ≠ L r
theorem oI_ad (x y : Int) : oI x + oI y = oI (x + y) := (Int32.ofInt_add x y).symm
def REL (I A J : FN) : Prop := I 0 7 = J 300 17 ∧ ∀ i : Int, 0 ≤ i → i ≤ 1 → ((A 78 i.toNat ≠ 0 ∧ I 77 i.toNat ≠ 0) ↔ bitB (J 300 3) i)
theorem REL_q {I A J I' A' J' : FN} (h : REL I A J) (q : CQ I A I' A') (f : Fm J J') : REL I' A' J' := by
  obtain ⟨h1, h2⟩ := h
  obtain ⟨-, q1, q2, q3, -, -⟩ := q
  obtain ⟨f1, f2, -⟩ := f
  exact ⟨by rw [q1, f1]; exact h1, fun i a b => by rw [q2, q3, f2]; exact h2 i a b⟩
theorem Fm_t {J J' : FN} (f : Fm J J') : J' 300 17 = J 300 17 := f.1
/-- the two objects and the row, in a heap -/
def LH (D : va_G) (cy : Nat → ClassId) (S0 : Nat → Prop) (ao : Nat) (cL : ClassId) (H : Heap) (L : Nat → Nat) (lv : List Nat) (I A : FN) (M : Nat → Nat) (J B : FN) (g : Nat → Int64) : Prop :=
  (va_P D vwCl (wd cy L lv I A) H ∧ va_P D vwCl (wd cy M (rl 300 12) J B) H ∧ va_P D vwCl [(ao, .inl (cL, 1, .inr (.inl g)))] H) ∧ (va_D S0 (wd cy L lv I A) ∧ va_D S0 (wd cy M (rl 300 12) J B) ∧ S0 ao) ∧
  ((∀ r ∈ lv, ∀ x ∈ rl 300 12, M x ≠ L r) ∧ (∀ r ∈ lv, ao ≠ L r) ∧ ∀ x ∈ rl 300 12, ao ≠ M x) ∧ (okF I ∧ okF A ∧ CWd lv I) ∧ okF J ∧ okF B
def LFx (p : Program) (l : Launch) (s : State) (m : MethodId) (args : Array Value) (c : Code) (D : va_G) (cy : Nat → ClassId) (S0 : Nat → Prop) (P0 : KP) (T : Nat × Nat) (b Lx : Nat) (xs : Nat → Int32) (cL : ClassId) : Prop :=
  CallFix p m c cL_law 7 s args (.initialized RX9 :: W0) RL ∧ (KK D cy s ∧ KA s ∧ KH P0 S0 s s.heap ∧ KN s ∧ KE T S0 s s.heap ∧ va_K D vwCl (tysOf cy ++ [(cL, .long)]) s) ∧ (∀ w ∈ WX, w.before args s = true) ∧ (∀ q, s.heap.size ≤ q → S0 q) ∧ (va_X b Lx xs s s.heap ∧ b < s.heap.size ∧ ¬ S0 b) ∧ l.stackTraces = false
theorem wd_ix {cy : Nat → ClassId} {L : Nat → Nat} {lv : List Nat} {I A : FN} {k : Nat} {q : Nat × va_E} (h : (wd cy L lv I A)[k]? = some q) : ∃ r ∈ lv, q.1 = L r := by
  unfold wd at h
  rw [List.getElem?_map] at h
  cases hn : lv[k]? with
  | none => rw [hn] at h; cases h
  | some r =>
    rw [hn] at h
    have := Option.some.inj h
    exact ⟨r, List.mem_of_getElem? hn, by rw [← this]⟩
theorem apt_app {L : Nat → Nat} {lv : List Nat} {w v : va_W} (h1 : apt L lv w) (h2 : apt L lv v) : apt L lv (w ++ v) := fun k q hq => by
  by_cases hl : k < w.length
  · rw [List.getElem?_append_left hl] at hq
    exact h1 k q hq
  · rw [List.getElem?_append_right (by omega)] at hq
    exact h2 _ q hq
theorem apt_wd {L M : Nat → Nat} {lv lw : List Nat} {cy : Nat → ClassId} {J B : FN} (h : ∀ r ∈ lv, ∀ x ∈ lw, M x ≠ L r) : apt L lv (wd cy M lw J B) := fun k q hq r hr => by
  obtain ⟨x, hx, e⟩ := wd_ix hq
  rw [e]
  exact h r hr x hx
theorem apt_1 {L : Nat → Nat} {lv : List Nat} {a : Nat} {e : va_E} (h : ∀ r ∈ lv, a ≠ L r) : apt L lv [(a, e)] := fun k q hq r hr => by
  have h1 : k < 1 := (List.getElem?_eq_some_iff.mp hq).1
  rw [show k = 0 by omega] at hq
  cases hq
  exact h r hr
section LW
variable {p : Program} {l : Launch} {e : Env} {R : Room} {s : State} {m : MethodId} {args : Array Value} {below : List Frame} {meth : Method} {c : Code} {H : Heap} {locs : List Loc} {cells slots : Nat} {Qf : State → Prop} {D : va_G} {cy : Nat → ClassId} {S : Nat → Prop} {bytes : ByteArray} {nL pc : Nat} {la : Array Slot} {rest : List Value} {w2 : va_W} {L : Nat → Nat} {lv : List Nat} {I A : FN}
theorem keep2 {H1 : Heap} (hP2 : va_P D vwCl w2 H) (hap : apt L lv w2) (hk : ∀ z : Nat, z < H.size → ¬ va_A (wd cy L lv I A) H.size z → H1[z]? = H[z]?) : va_P D vwCl w2 H1 := fun k q hq => (hP2 k q hq).kept (hk q.1 (hP2 k q hq).lt (fun h => by
  rcases h with ⟨k2, e1, h⟩ | h
  · obtain ⟨r, hr, e2⟩ := wd_ix h
    exact hap k q hq r hr e2
  · have := (hP2 k q hq).lt
    omega))
theorem free_wd {S : Nat → Prop} (hD : va_D S (wd cy L lv I A)) (hS : va_S S s.heap H locs) (hSz : ∀ q, s.heap.size ≤ q → S q) : ∀ z, va_A (wd cy L lv I A) H.size z → S z := fun z hz => by
  rcases hz with ⟨k, e1, hk⟩ | hz
  · exact hD.2 k _ hk
  · exact hSz z (Nat.le_trans hS.1 hz)
theorem run_S {A1 : Nat → Prop} {st₀ t T' : State} {Lc' : List Loc} (hfree : ∀ z, A1 z → S z) (hS : va_S S s.heap H locs) (e1 : T'.heap = t.heap) (hz : H.size ≤ t.heap.size) (hk : ∀ z : Nat, z < H.size → ¬ A1 z → t.heap[z]? = H[z]?) (hL' : ∀ q ∈ Lc', A1 q.base) : va_S S s.heap T'.heap (locs ++ Lc') :=
  ⟨Nat.le_trans hS.1 (by rw [e1]; exact hz), fun z h1 h2 => by rw [e1, hk z (Nat.lt_of_lt_of_le h1 hS.1) (fun zz => h2 (hfree z zz))]; exact hS.2.1 z h1 h2, fun z hz => by
    rcases List.mem_append.mp hz with h | h
    · exact hS.2.2 z h
    · exact hfree _ (hL' z h)⟩
theorem call_core2 {mc ms : Nat} {st0 : List Value} {as : List AV} {rv : Bool} {Q : QT} {a : Array Value}
    (hr : va_Run p l e R s m args below meth c H locs cells slots mc ms (F0 m pc la st0) rest (QcX D cy L lv as I A H.size rv Q a) (va_A (wd cy L lv I A) H.size))
    (hD : va_D S (wd cy L lv I A)) (hS : va_S S s.heap H locs) (hSz : ∀ q, s.heap.size ≤ q → S q) (hP2 : va_P D vwCl w2 H) (hap : apt L lv w2)
    (kk : ∀ r I' A' H1 locs1, r.isSome = rv → (∀ x, r = some x → inI x) → okF I' → okF A' → I' 77 = I 77 → Q as I A r I' A' → va_P D vwCl (wd cy L lv I' A') H1 → va_P D vwCl w2 H1 → va_S S s.heap H1 locs1 → W p l e R s m args below meth c H1 locs1 (cells + mc) (slots + ms) Qf (F0 m (pc + 3) la ((r.map (fun x => Value.int (oI x))).toList ++ rest))) :
    W p l e R s m args below meth c H locs cells slots Qf (F0 m pc la st0) := by
  have hfree := free_wd hD hS hSz
  intro T hT Xs
  obtain ⟨v, st₀, t, T', Lc', h0, X', hL', e1, e2, ⟨⟨r, I', A', hv, hrv, hin, hI', hA', h77, hQ, hP'⟩, hz, hk⟩, stp⟩ := hr T hT Xs
  cases hv
  rw [h0] at hz hk
  obtain ⟨t2, a1, b1⟩ := kk r I' A' T'.heap (locs ++ Lc') hrv hin hI' hA' h77 hQ (by rw [e1]; exact hP') (by rw [e1]; exact keep2 hP2 hap hk) (run_S (st₀ := st₀) hfree hS e1 hz hk hL') T' rfl X'
  exact ⟨t2, stp t2 a1, b1⟩
theorem law_V {c0 : Jvm.Cond} (CF : CallFix p m c bytes nL s args (c0 :: W0) RL) (hK : KK D cy s) {d idx n maxL ci k0 r0 : Nat} {y : MethodName} {yb : ByteArray} {ret : Option FieldType} {rv : Bool} {P : PT} {Q : QT} {al : AT} {T : u_T} {N : Nat} (hM : MetC y (.code y yb maxL ret :: W0) d rv P Q al) (hdd : d ≤ 300) (hmx : maxL ≤ 21) (hG : GoodIn (c0 :: W0) (wsV RL idx y.cls y (.code y yb maxL ret :: W0))) (hcl : vwCl[ci]? = some (y.cls, T, N))
    (hy : y.cls ≠ "java/lang/invoke/MethodHandle" ∧ y.cls ≠ "java/lang/invoke/VarHandle" ∧ (parseMethodDescriptor y.desc).map (fun d => d.parameters.length) = some n) (hk100 : k0 < 100) (hkc : kci k0 = ci) (hlv : LvOk lv) (hI : okF I) (hA : okF A) (him : 77 ∈ lv → ∀ i, i < 2 → I 77 i ≠ 0 → 97 + 76 * i ∈ lv) {as' : List AV} (has : okS lv (.inr (some (k0, r0)) :: as')) (hPP : P (.inr (some (k0, r0)) :: as') I A) (hn : as'.length = n) (hla : la.size = nL) (hroom : (rest.map fun v => v.category).sum ≤ 8)
    (hP : va_P D vwCl (wd cy L lv I A) H) (hD : va_D S (wd cy L lv I A)) (hS : va_S S s.heap H locs) (hSz : ∀ q, s.heap.size ≤ q → S q) (hP2 : va_P D vwCl w2 H) (hap : apt L lv w2) (hc : cells + (al (.inr (some (k0, r0)) :: as') I A).1 ≤ 601024 ∧ slots + (al (.inr (some (k0, r0)) :: as') I A).2 ≤ 7293034) (hd : decode bytes pc = .ok (.invokevirtual idx, 3))
    (kk : ∀ r I' A' H1 locs1, r.isSome = rv → (∀ x, r = some x → inI x) → okF I' → okF A' → I' 77 = I 77 → Q (.inr (some (k0, r0)) :: as') I A r I' A' → va_P D vwCl (wd cy L lv I' A') H1 → va_P D vwCl w2 H1 → va_S S s.heap H1 locs1 → W p l e room_1 s m args below meth c H1 locs1 (cells + (al (.inr (some (k0, r0)) :: as') I A).1) (slots + (al (.inr (some (k0, r0)) :: as') I A).2) Qf (F0 m (pc + 3) la ((r.map (fun x => Value.int (oI x))).toList ++ rest))) :
    W p l e room_1 s m args below meth c H locs cells slots Qf (F0 m pc la ((as'.map (vv L)).reverse ++ .ref (L r0) :: rest)) := by
  obtain ⟨hm, hr⟩ : r0 ∈ lv ∧ rk r0 = k0 := okS_h has
  obtain ⟨q0, -, hq⟩ := wd_mem (cy := cy) (L := L) (I := I) (A := A) hm
  rw [ce_obj hr hk100, hkc] at hq
  have hMet := hM l D cy L lv H.size _ I A hlv hI hA him has hPP
  have cw := cwV (R := room_1) (own := RL) (index := idx) (C := y.cls) (y := y) (bytes := yb) (maxL := maxL) (ret := ret) (rm := rmD d (al (.inr (some (k0, r0)) :: as') I A)) (mc := (al (.inr (some (k0, r0)) :: as') I A).1) (ms := (al (.inr (some (k0, r0)) :: as') I A).2) n CF.2.2.2.2 hG rfl rfl rfl ⟨rfl, hy⟩ ⟨by show d + 1 ≤ 2048; omega, by show 8 + (maxL + 11) + 40 * d ≤ 84000; omega⟩
  have hrun := va_runV (g := F0 m pc la ((as'.map (vv L)).reverse ++ .ref (L r0) :: rest)) (locs := locs) (H := H) (b := L r0) (As := as'.map (vv L)) (rest := rest) (p := p) (e := e) (below := below) (meth := meth) (cells := cells) (slots := slots) CF hMet cw
    ⟨PcX_blind, va_recv hK.1 hP hcl hq, fun U hU hW => ⟨rfl, by rw [hU], by rw [hU]; exact hP, KK.warm hW hK, wd_D (hD.weaken (fun _ _ _ _ => trivial))⟩⟩ rfl (by simpa using hn) hla rfl (lv_room hroom) hd hc
  exact call_core2 hrun hD hS hSz hP2 hap kk
theorem law_VK {c0 : Jvm.Cond} {P0 : KP} (CF : CallFix p m c bytes nL s args (c0 :: W0) RL) (hK : KK D cy s) (hKH : KH P0 S s s.heap) (hKN : KN s) {d idx n maxL ci k0 r0 : Nat} {y : MethodName} {yb : ByteArray} {ret : Option FieldType} {rv : Bool} {P : PT} {Q : QT} {al : AT} {T : u_T} {N : Nat} (hM : MetK y (.code y yb maxL ret :: W0) d rv P Q al) (hdd : d ≤ 300) (hmx : maxL ≤ 21) (hG : GoodIn (c0 :: W0) (wsV RL idx y.cls y (.code y yb maxL ret :: W0))) (hcl : vwCl[ci]? = some (y.cls, T, N))
    (hy : y.cls ≠ "java/lang/invoke/MethodHandle" ∧ y.cls ≠ "java/lang/invoke/VarHandle" ∧ (parseMethodDescriptor y.desc).map (fun d => d.parameters.length) = some n) (hk100 : k0 < 100) (hkc : kci k0 = ci) (hlv : LvOk lv) (hI : okF I) (hA : okF A) (him : 77 ∈ lv → ∀ i, i < 2 → I 77 i ≠ 0 → 97 + 76 * i ∈ lv) {as' : List AV} (has : okS lv (.inr (some (k0, r0)) :: as')) (hPP : P (.inr (some (k0, r0)) :: as') I A) (hn : as'.length = n) (hla : la.size = nL) (hroom : (rest.map fun v => v.category).sum ≤ 8)
    (hP : va_P D vwCl (wd cy L lv I A) H) (hD : va_D S (wd cy L lv I A)) (hS : va_S S s.heap H locs) (hSz : ∀ q, s.heap.size ≤ q → S q) (hP2 : va_P D vwCl w2 H) (hap : apt L lv w2) (hc : cells + (al (.inr (some (k0, r0)) :: as') I A).1 ≤ 601024 ∧ slots + (al (.inr (some (k0, r0)) :: as') I A).2 ≤ 7293034) (hd : decode bytes pc = .ok (.invokevirtual idx, 3))
    (kk : ∀ r I' A' H1 locs1, r.isSome = rv → (∀ x, r = some x → inI x) → okF I' → okF A' → I' 77 = I 77 → Q (.inr (some (k0, r0)) :: as') I A r I' A' → va_P D vwCl (wd cy L lv I' A') H1 → va_P D vwCl w2 H1 → va_S S s.heap H1 locs1 → W p l e room_1 s m args below meth c H1 locs1 (cells + (al (.inr (some (k0, r0)) :: as') I A).1) (slots + (al (.inr (some (k0, r0)) :: as') I A).2) Qf (F0 m (pc + 3) la ((r.map (fun x => Value.int (oI x))).toList ++ rest))) :
    W p l e room_1 s m args below meth c H locs cells slots Qf (F0 m pc la ((as'.map (vv L)).reverse ++ .ref (L r0) :: rest)) := by
  obtain ⟨hm, hr⟩ : r0 ∈ lv ∧ rk r0 = k0 := okS_h has
  obtain ⟨q0, -, hq⟩ := wd_mem (cy := cy) (L := L) (I := I) (A := A) hm
  rw [ce_obj hr hk100, hkc] at hq
  have hKH2 : KH P0 (va_A (wd cy L lv I A) H.size) s H := (hKH.kept hS.2.1).narrow (free_wd hD hS hSz)
  have hMet := hM P0 l D cy L lv H.size _ I A hlv hI hA him has hPP
  have cw := cwV (R := room_1) (own := RL) (index := idx) (C := y.cls) (y := y) (bytes := yb) (maxL := maxL) (ret := ret) (rm := rmD d (al (.inr (some (k0, r0)) :: as') I A)) (mc := (al (.inr (some (k0, r0)) :: as') I A).1) (ms := (al (.inr (some (k0, r0)) :: as') I A).2) n CF.2.2.2.2 hG rfl rfl rfl ⟨rfl, hy⟩ ⟨by show d + 1 ≤ 2048; omega, by show 8 + (maxL + 11) + 40 * d ≤ 84000; omega⟩
  have hrun := va_runV (g := F0 m pc la ((as'.map (vv L)).reverse ++ .ref (L r0) :: rest)) (locs := locs) (H := H) (b := L r0) (As := as'.map (vv L)) (rest := rest) (p := p) (e := e) (below := below) (meth := meth) (cells := cells) (slots := slots) CF hMet cw
    ⟨PcK_blind, va_recv hK.1 hP hcl hq, fun U hU hW => ⟨rfl, ⟨by rw [hU], by rw [hU]; exact hP, KK.warm hW hK, wd_D (hD.weaken (fun _ _ _ _ => trivial))⟩, by rw [hU]; exact hKH2.moved hW.alike, va_Nw.warmF hW hKN⟩⟩ rfl (by simpa using hn) hla rfl (lv_room hroom) hd hc
  exact call_core2 hrun hD hS hSz hP2 hap kk
/-- an int of the script -/
def xi (xs : Nat → Int32) (i : Int) (k : Nat) : Int := (xs (i.toNat + k)).toInt
theorem xi_in {xs : Nat → Int32} {i : Int} {k : Nat} : inI (xi xs i k) := oI_in _
theorem law_arg {b Lx : Nat} {xs : Nat → Int32} {i : Int} {k : Nat} {st : List Value} (hx : p.tables.exec = Jvm.exec) (hb : c.code = bytes) (hX : va_X b Lx xs s s.heap) (hbl : b < s.heap.size) (hbS : ¬ S b) (hS : va_S S s.heap H locs) (h0 : la[0]? = some (.val (.ref b))) (h4 : la[4]? = some (.val (.int (oI i)))) (hi0 : 0 ≤ i) (hik : i + k < Lx) (hLx : Lx ≤ 3072)
    (d0 : decode bytes pc = .ok (.aload_n 0, 1)) (d1 : decode bytes (pc + 1) = .ok (.iload 4, 2)) (d3 : decode bytes (pc + 3) = .ok (.iconst k, 1)) (d4 : decode bytes (pc + 4) = .ok (.iadd, 1)) (d5 : decode bytes (pc + 5) = .ok (.iaload, 1))
    (kk : W p l e R s m args below meth c H locs cells slots Qf (F0 m (pc + 6) la (.int (oI (xi xs i k)) :: st))) : W p l e R s m args below meth c H locs cells slots Qf (F0 m pc la st) := by
  refine lv_aload_n hx hb d0 rfl h0 ?_
  refine lv_iload hx hb d1 h4 ?_
  refine lv_iconst hx hb d3 (v := oI k) rfl ?_
  refine lv_iadd hx hb d4 ?_
  rw [oI_ad]
  obtain ⟨hin, hcl⟩ := vp_in_n (i := i + k) (N := Lx) (by omega) hik (by omega)
  refine va_sld hx hb hX hbl hbS hS hin d5 ?_
  rw [hcl]
  have e1 : oI (xi xs i k) = xs (i + k).toNat := by
    unfold xi
    rw [oI_toI, show (i + (k : Int)).toNat = i.toNat + k by omega]
  rw [e1] at kk
  exact kk
end LW
