/-! ===== pure readers of the constants ===== -/
def JQ (x : Option Value) : Array Value → State → Outcome → State → Prop := fun _ st oc t => oc = .returned x ∧ t.heap = st.heap
def JPc (P0 : KP) (vs : List Value) : Array Value → State → Prop := va_Pc vs (fun U => KH P0 (fun _ => False) U U.heap)
def MetJ (y : MethodName) (ws : List Jvm.Cond) (d : Nat) (P0 : KP) (vs : List Value) (x : Option Value) : Prop := ∀ l : Launch, Met l y ws (rmD d (0, 0)) (JPc P0 vs) (JQ x) 0 0 (fun _ => False)
theorem JPc_blind {P0 : KP} {vs : List Value} : FrameBlind (JPc P0 vs) := fun a U g mk h => ⟨h.1, h.2.moved (U := U.calling g mk a) (Vm.Alike.refl _)⟩
def JFx (y : MethodName) (bytes : ByteArray) (maxL : Nat) (ret : Option FieldType) (P0 : KP) (p : Program) (s : State) (m : MethodId) (args : Array Value) (meth : Method) (c : Code) : Prop :=
  p.tables.exec = Jvm.exec ∧ c.code = bytes ∧ c.maxLocals = maxL ∧ s.vm.findClass y.cls = some m.cls ∧ (∀ w ∈ (.code y bytes maxL ret :: W0 : List Jvm.Cond), w.before args s = true) ∧ meth.sig.returnType = ret ∧ meth.locks = false ∧ KH P0 (fun _ => False) s s.heap
theorem MetJ_of {y : MethodName} {bytes : ByteArray} {maxL d : Nat} {ret : Option FieldType} {P0 : KP} {vs : List Value} {x : Option Value} (hpl : plainName y.cls = true) (hlen : (lg_sl vs).length ≤ maxL)
    (body : ∀ (p : Program) (l : Launch) (e : Env) (s : State) (m : MethodId) (args : Array Value) (below : List Frame) (meth : Method) (c : Code) (la : Array Slot), JFx y bytes maxL ret P0 p s m args meth c → lv_has la maxL (lv_args 0 vs) → W p l e (rmD d (0, 0)) s m args below meth c s.heap [] 0 0 (MQ below (JQ x) args s 0 0 (fun _ => False)) (F0 m 0 la [])) :
    MetJ y (.code y bytes maxL ret :: W0) d P0 vs x := by
  intro l
  refine Met.ofW (cc := bytes) (maxL := maxL) (ret := ret) hpl rfl ?_
  intro p e s m args below meth c s₁ B hml hv
  obtain ⟨rfl, hKH⟩ := hv
  have hl := lv_entry vs (n := maxL) hlen
  rw [lg_entry_eq]
  generalize (lg_sl vs ++ List.replicate (maxL - (lg_sl vs).length) Slot.unset).toArray = la at hl ⊢
  exact body p l e s m _ below meth c la ⟨B.exec, B.bytes, hml, findClass_of_methodNamed B.named, atoms_spec (ws := .code y bytes maxL ret :: W0) B.pre, B.returns, B.notSynchronized, hKH⟩ hl
section J
variable {p : Program} {l : Launch} {e : Env} {s : State} {m : MethodId} {args : Array Value} {below : List Frame} {meth : Method} {c : Code} {H : Heap} {locs : List Loc} {cells slots : Nat} {Q : State → Prop} {S : Nat → Prop} {P0 : KP} {own : String} {bytes : ByteArray} {nL : Nat} {Ts : List Jvm.Cond}
theorem j_core {R : Room} {la : Array Slot} {st0 rest : List Value} {pc : Nat} {x : Option Value} {a : Array Value}
    (hr : va_Run p l e R s m args below meth c H locs cells slots 0 0 (F0 m pc la st0) rest (JQ x a) (fun _ => False))
    (kk : W p l e R s m args below meth c H locs cells slots Q (F0 m (pc + 3) la (x.toList ++ rest))) : W p l e R s m args below meth c H locs cells slots Q (F0 m pc la st0) := by
  intro T hT Xs
  obtain ⟨v, st₀, t, T', Lc', h0, X', hL', e1, e2, ⟨hv, hh⟩, stp⟩ := hr T hT Xs
  cases hv
  have hn : Lc' = [] := by
    cases Lc' with
    | nil => rfl
    | cons q t => exact (hL' q List.mem_cons_self).elim
  subst hn
  rw [List.append_nil] at X'
  obtain ⟨t2, a1, b1⟩ := kk T' (by rw [e1, hh, h0]) X'
  exact ⟨t2, stp t2 a1, b1⟩
theorem j_V {d d' idx n maxL pc b : Nat} {mx : Nat × Nat} {y : MethodName} {yb : ByteArray} {ret : Option FieldType} {ws' : List Jvm.Cond} {As rest : List Value} {x : Option Value} {la : Array Slot}
    (hM : MetJ y (.code y yb maxL ret :: ws') d' P0 (.ref b :: As) x) (hdd : d' + 1 ≤ d) (hmx : maxL ≤ 21) (CF : CallFix p m c bytes nL s args Ts own) (hKH : KH P0 S s s.heap) (hS : va_S S s.heap H locs) (hG : GoodIn Ts (wsV own idx y.cls y (.code y yb maxL ret :: ws')))
    (hy : y.cls ≠ "java/lang/invoke/MethodHandle" ∧ y.cls ≠ "java/lang/invoke/VarHandle" ∧ (parseMethodDescriptor y.desc).map (fun d => d.parameters.length) = some n) (hrc : ∃ cell : Cell, H[b]? = some cell ∧ cell.vm.isStatics = false ∧ s.vm.findClass y.cls = some cell.cls)
    (hn : As.length = n) (hla : la.size = nL) (hroom : (rest.map fun v => v.category).sum ≤ 8) (hc : cells ≤ mx.1 ∧ slots ≤ mx.2) (hd : decode bytes pc = .ok (.invokevirtual idx, 3))
    (kk : W p l e (rmD d mx) s m args below meth c H locs cells slots Q (F0 m (pc + 3) la (x.toList ++ rest))) : W p l e (rmD d mx) s m args below meth c H locs cells slots Q (F0 m pc la (As.reverse ++ .ref b :: rest)) := by
  have cw := cwV (R := rmD d mx) (own := own) (index := idx) (C := y.cls) (y := y) (bytes := yb) (maxL := maxL) (ret := ret) (rm := rmD d' (0, 0)) (mc := 0) (ms := 0) n CF.2.2.2.2 hG rfl rfl rfl ⟨rfl, hy⟩ ⟨hdd, by show 8 + (maxL + 11) + 40 * d' ≤ 40 * d; omega⟩
  have hrun := va_runV (g := F0 m pc la (As.reverse ++ .ref b :: rest)) (locs := locs) (H := H) (b := b) (As := As) (rest := rest) (p := p) (e := e) (below := below) (meth := meth) (cells := cells) (slots := slots) CF (hM l) cw
    ⟨JPc_blind, hrc, fun U hU hW => ⟨rfl, by show KH P0 (fun _ => False) U U.heap; rw [hU]; exact ((hKH.kept hS.2.1).narrow (fun _ h => h.elim)).moved hW.alike⟩⟩ rfl hn hla rfl (lv_room hroom) hd ⟨hc.1, hc.2⟩
  exact j_core hrun kk
theorem j_S {d d' idx n maxL pc : Nat} {mx : Nat × Nat} {y : MethodName} {yb : ByteArray} {ret : Option FieldType} {ws' : List Jvm.Cond} {As rest : List Value} {x : Option Value} {la : Array Slot}
    (hM : MetJ y (.code y yb maxL ret :: ws') d' P0 As x) (hdd : d' + 1 ≤ d) (hmx : maxL ≤ 21) (CF : CallFix p m c bytes nL s args Ts own) (hKH : KH P0 S s s.heap) (hS : va_S S s.heap H locs) (hG : GoodIn Ts (va_wsS own idx y (.code y yb maxL ret :: ws')))
    (hy : y.cls ≠ "java/lang/invoke/MethodHandle" ∧ y.cls ≠ "java/lang/invoke/VarHandle" ∧ (parseMethodDescriptor y.desc).map (fun d => d.parameters.length) = some n)
    (hn : As.length = n) (hla : la.size = nL) (hroom : (rest.map fun v => v.category).sum ≤ 8) (hc : cells ≤ mx.1 ∧ slots ≤ mx.2) (hd : decode bytes pc = .ok (.invokestatic idx, 3))
    (kk : W p l e (rmD d mx) s m args below meth c H locs cells slots Q (F0 m (pc + 3) la (x.toList ++ rest))) : W p l e (rmD d mx) s m args below meth c H locs cells slots Q (F0 m pc la (As.reverse ++ rest)) := by
  have ok : ∀ w ∈ va_wsS own idx y (.code y yb maxL ret :: ws'), w.before args s = true := fun w h => CF.2.2.2.2 w (hG w h).1
  have cb : CallB (rmD d mx) s args own idx y yb maxL ret (.code y yb maxL ret :: ws') (rmD d' (0, 0)) 0 0 n := callB_of n CF.2.2.2.2 (fun w h => hG w (by unfold va_wsS; exact List.mem_append_right _ h)) rfl rfl rfl (ok _ (by simp [va_wsS])) (ok _ (by simp [va_wsS])) hy ⟨hdd, by show 8 + (maxL + 11) + 40 * d' ≤ 40 * d; omega⟩
  have hrun := va_runS (g := F0 m pc la (As.reverse ++ rest)) (locs := locs) (H := H) (As := As) (rest := rest) (p := p) (e := e) (below := below) (meth := meth) (cells := cells) (slots := slots) CF (hM l) ⟨cb, ok _ (by simp [va_wsS])⟩
    ⟨JPc_blind, fun U hU hW => ⟨rfl, by show KH P0 (fun _ => False) U U.heap; rw [hU]; exact ((hKH.kept hS.2.1).narrow (fun _ h => h.elim)).moved hW.alike⟩⟩ rfl hn hla rfl (lv_room hroom) hd ⟨hc.1, hc.2⟩
  exact j_core hrun kk
end J
theorem j0_S {s : State} {S : Nat → Prop} : va_S S s.heap s.heap [] := va_S.rf

theorem j_coder {P0 : KP} {i : Nat} (hi : i < 11) : MetJ yJ0_coder_7d493 (.code yJ0_coder_7d493 cJ0_coder_7d493 1 (some .byte) :: W0) 1 P0 [.ref (P0.2.1 i)] (some (.int 0)) := by
  refine MetJ_of (by decide) (by simp [lg_sl, Value.category]) ?_
  intro p l e s m args below meth c la hF hl
  obtain ⟨hx, hb, hml, hown, hts, hr, hlk, hKH⟩ := hF
  have hS : va_S (fun _ => False) s.heap s.heap [] := va_S.rf
  have hsz : la.size = 1 := hl.1
  refine va_gets hx hb hKH.2.2.2.2.2.2.1 hS hown (hts _ (List.mem_cons_of_mem _ (mW3 (List.mem_of_getElem? (i := 38) rfl)))) (fun _ h9 => h9) dJ0_coder_7d493_0 ?_
  refine lv_if_eq hx hb (tgt := 13) dJ0_coder_7d493_3 rfl (fun z => absurd z (by decide)) (fun _ => ?_)
  refine lv_aload_n hx hb dJ0_coder_7d493_6 rfl (lv_at hl 0 rfl) ?_
  refine vk_getf hx hb (hKH.2.2.2.1.1 i hi).2.1 hS hown (hts _ (List.mem_cons_of_mem _ (mW3 (List.mem_of_getElem? (i := 39) rfl)))) (fun _ h9 => h9) dJ0_coder_7d493_7 ?_
  refine lv_goto hx hb (tgt := 14) dJ0_coder_7d493_10 rfl ?_
  exact W.zret (v := 0) hx hb hr rfl (fun t ht hW => ⟨rfl, ht⟩) (fun q hq => by cases hq) dJ0_coder_7d493_14

theorem j_isLatin1 {P0 : KP} {i : Nat} (hi : i < 11) : MetJ yJ0_isLatin1_aae02 (.code yJ0_isLatin1_aae02 cJ0_isLatin1_aae02 1 (some .boolean) :: W0) 1 P0 [.ref (P0.2.1 i)] (some (.int 1)) := by
  refine MetJ_of (by decide) (by simp [lg_sl, Value.category]) ?_
  intro p l e s m args below meth c la hF hl
  obtain ⟨hx, hb, hml, hown, hts, hr, hlk, hKH⟩ := hF
  have hS : va_S (fun _ => False) s.heap s.heap [] := va_S.rf
  have hsz : la.size = 1 := hl.1
  refine va_gets hx hb hKH.2.2.2.2.2.2.1 hS hown (hts _ (List.mem_cons_of_mem _ (mW3 (List.mem_of_getElem? (i := 38) rfl)))) (fun _ h9 => h9) dJ0_isLatin1_aae02_0 ?_
  refine lv_if_eq hx hb (tgt := 17) dJ0_isLatin1_aae02_3 rfl (fun z => absurd z (by decide)) (fun _ => ?_)
  refine lv_aload_n hx hb dJ0_isLatin1_aae02_6 rfl (lv_at hl 0 rfl) ?_
  refine vk_getf hx hb (hKH.2.2.2.1.1 i hi).2.1 hS hown (hts _ (List.mem_cons_of_mem _ (mW3 (List.mem_of_getElem? (i := 39) rfl)))) (fun _ h9 => h9) dJ0_isLatin1_aae02_7 ?_
  refine lv_if_ne hx hb (tgt := 17) dJ0_isLatin1_aae02_10 rfl (fun z => absurd rfl z) (fun _ => ?_)
  refine lv_iconst hx hb dJ0_isLatin1_aae02_13 (v := 1) rfl ?_
  refine lv_goto hx hb (tgt := 18) dJ0_isLatin1_aae02_14 rfl ?_
  exact W.zret (v := 1) hx hb hr rfl (fun t ht hW => ⟨rfl, ht⟩) (fun q hq => by cases hq) dJ0_isLatin1_aae02_18

theorem wLen_shr : ∀ i, i < 11 → Int32.ofNat (wLen.getD i 0) >>> ((0 : Int32) &&& 31) = Int32.ofNat (wLen.getD i 0) := by decide +kernel
theorem j_length {P0 : KP} {i : Nat} (hi : i < 11) : MetJ yJ0_length_8abf5 (.code yJ0_length_8abf5 cJ0_length_8abf5 1 (some .int) :: W0) 2 P0 [.ref (P0.2.1 i)] (some (.int (Int32.ofNat (wLen.getD i 0)))) := by
  refine MetJ_of (by decide) (by simp [lg_sl, Value.category]) ?_
  intro p l e s m args below meth c la hF hl
  obtain ⟨hx, hb, hml, hown, hts, hr, hlk, hKH⟩ := hF
  have hS : va_S (fun _ => False) s.heap s.heap [] := va_S.rf
  have hsz : la.size = 1 := hl.1
  refine lv_aload_n hx hb dJ0_length_8abf5_0 rfl (lv_at hl 0 rfl) ?_
  refine vk_getf hx hb (hKH.2.2.2.1.1 i hi).2.2.1 hS hown (hts _ (List.mem_cons_of_mem _ (mW3 (List.mem_of_getElem? (i := 41) rfl)))) (fun _ h9 => h9) dJ0_length_8abf5_1 ?_
  refine va_tlen hx hb (hKH.2.2.2.1.1 i hi).2.2.2 hS rfl dJ0_length_8abf5_4 ?_
  refine lv_aload_n hx hb dJ0_length_8abf5_5 rfl (lv_at hl 0 rfl) ?_
  refine j_V (j_coder hi) (As := []) (n := 0) (by decide) (by decide) ⟨hx, hb, hml, hown, hts⟩ hKH hS (gdV (mW3 (List.mem_of_getElem? (i := 42) rfl)) (mW3 (List.mem_of_getElem? (i := 43) rfl)) (mW3 (List.mem_of_getElem? (i := 44) rfl)) (mW3 (List.mem_of_getElem? (i := 45) rfl)) (mW3 (List.mem_of_getElem? (i := 37) rfl))) (by decide +kernel) (vk_recv hKH.2.2.2.1 hi hS) rfl hsz (by simp [Value.category]) ⟨Nat.le_refl _, Nat.le_refl _⟩ dJ0_length_8abf5_6 ?_
  refine lv_ishr hx hb dJ0_length_8abf5_9 ?_
  rw [wLen_shr i hi]
  exact W.iret hx hb hr (fun t ht hW => ⟨rfl, ht⟩) (fun q hq => by cases hq) dJ0_length_8abf5_10

theorem j_checkIndex3 {P0 : KP} {a b : Int32} {w : Value} (hw : w.category = 1) (h0 : ¬ a < 0) (h1 : a < b) : MetJ yJ3_checkIndex_8e157 (.code yJ3_checkIndex_8e157 cJ3_checkIndex_8e157 3 (some .int) :: W0) 1 P0 [.int a, .int b, w] (some (.int a)) := by
  refine MetJ_of (by decide) (by simp [lg_sl, hw]; simp [Value.category]) ?_
  intro p l e s m args below meth c la hF hl
  obtain ⟨hx, hb, hml, hown, hts, hr, hlk, hKH⟩ := hF
  have hS : va_S (fun _ => False) s.heap s.heap [] := va_S.rf
  have hsz : la.size = 3 := hl.1
  refine lv_iload_n hx hb dJ3_checkIndex_8e157_0 rfl (lv_at hl 0 rfl) ?_
  refine lv_if_lt hx hb (tgt := 9) dJ3_checkIndex_8e157_1 rfl (fun z => absurd z h0) (fun _ => ?_)
  refine lv_iload_n hx hb dJ3_checkIndex_8e157_4 rfl (lv_at hl 0 rfl) ?_
  refine lv_iload_n hx hb dJ3_checkIndex_8e157_5 rfl (lv_at hl 1 rfl) ?_
  refine lv_icmp_lt hx hb (tgt := 16) dJ3_checkIndex_8e157_6 rfl (fun _ => ?_) (fun z => absurd h1 z)
  refine lv_iload_n hx hb dJ3_checkIndex_8e157_16 rfl (lv_at hl 0 rfl) ?_
  exact W.iret hx hb hr (fun t ht hW => ⟨rfl, ht⟩) (fun q hq => by cases hq) dJ3_checkIndex_8e157_17

theorem j_checkIndex0 {P0 : KP} {a b : Int32} (h0 : ¬ a < 0) (h1 : a < b) : MetJ yJ0_checkIndex_df160 (.code yJ0_checkIndex_df160 cJ0_checkIndex_df160 2 none :: W0) 2 P0 [.int a, .int b] none := by
  refine MetJ_of (by decide) (by simp [lg_sl, Value.category]) ?_
  intro p l e s m args below meth c la hF hl
  obtain ⟨hx, hb, hml, hown, hts, hr, hlk, hKH⟩ := hF
  have hS : va_S (fun _ => False) s.heap s.heap [] := va_S.rf
  have hsz : la.size = 2 := hl.1
  have core : ∀ w : Value, w.category = 1 → va_Z "jdk/internal/util/Preconditions" "SIOOBE_FORMATTER" "Ljava/util/function/BiFunction;" w (fun _ => False) s s.heap → W p l e (rmD 2 (0, 0)) s m args below meth c s.heap [] 0 0 (MQ below (JQ none) args s 0 0 (fun _ => False)) (F0 m 0 la []) := by
    intro w hw hZ
    refine lv_iload_n hx hb dJ0_checkIndex_df160_0 rfl (lv_at hl 0 rfl) ?_
    refine lv_iload_n hx hb dJ0_checkIndex_df160_1 rfl (lv_at hl 1 rfl) ?_
    refine va_gets hx hb hZ hS hown (hts _ (List.mem_cons_of_mem _ (mW3 (List.mem_of_getElem? (i := 49) rfl)))) (fun _ h9 => h9) dJ0_checkIndex_df160_2 ?_
    refine j_S (j_checkIndex3 hw h0 h1) (n := 3) (rest := []) (by decide) (by decide) ⟨hx, hb, hml, hown, hts⟩ hKH hS (gdS (mW3 (List.mem_of_getElem? (i := 50) rfl)) (mW3 (List.mem_of_getElem? (i := 51) rfl)) (mW3 (List.mem_of_getElem? (i := 52) rfl)) (mW3 (List.mem_of_getElem? (i := 47) rfl))) (by decide +kernel) rfl hsz (by simp [Value.category]) ⟨Nat.le_refl _, Nat.le_refl _⟩ dJ0_checkIndex_df160_5 ?_
    refine lv_pop hx hb dJ0_checkIndex_df160_8 rfl ?_
    exact W.vret hx hb hr (fun t ht hW => ⟨rfl, ht⟩) (fun q hq => by cases hq) dJ0_checkIndex_df160_9
  rcases hKH.2.2.2.2.2.2.2 with h | ⟨t, h⟩
  · exact core .null rfl h
  · exact core (.ref t) rfl h

def wCh (i k : Nat) : Int32 := (wByt.getD i []).getD k 0 &&& 255
theorem j_charAt1 {P0 : KP} {i : Nat} {k : Int} (hi : i < 11) (h0 : 0 ≤ k) (h1 : k < (wLen.getD i 0 : Nat)) : MetJ yJ1_charAt_3b067 (.code yJ1_charAt_3b067 cJ1_charAt_3b067 2 (some .char) :: W0) 3 P0 [.ref (P0.2.2.1 i), .int (oI k)] (some (.int (wCh i k.toNat))) := by
  have hlt : ∀ i, i < 11 → wLen.getD i 0 < 8 := by decide
  have h8 := hlt i hi
  obtain ⟨hin, hcl⟩ := vp_in_n h0 h1 (by omega)
  have g0 : ¬ oI k < 0 := fun z => hin (Or.inl z)
  have g1 : oI k < Int32.ofNat (wLen.getD i 0) := by
    have e : Int32.ofNat (wLen.getD i 0) = oI ((wLen.getD i 0 : Nat) : Int) := rfl
    rw [e]
    exact (oI_lt ⟨by omega, by omega⟩ ⟨by omega, by omega⟩).mpr h1
  refine MetJ_of (by decide) (by simp [lg_sl, Value.category]) ?_
  intro p l e s m args below meth c la hF hl
  obtain ⟨hx, hb, hml, hown, hts, hr, hlk, hKH⟩ := hF
  have hS : va_S (fun _ => False) s.heap s.heap [] := va_S.rf
  have hsz : la.size = 2 := hl.1
  have hT := (hKH.2.2.2.1.1 i hi).2.2.2
  refine lv_iload_n hx hb dJ1_charAt_3b067_0 rfl (lv_at hl 1 rfl) ?_
  refine lv_aload_n hx hb dJ1_charAt_3b067_1 rfl (lv_at hl 0 rfl) ?_
  refine va_tlen hx hb hT hS rfl dJ1_charAt_3b067_2 ?_
  refine j_S (j_checkIndex0 g0 g1) (n := 2) (rest := []) (by decide) (by decide) ⟨hx, hb, hml, hown, hts⟩ hKH hS (gdS (mW3 (List.mem_of_getElem? (i := 54) rfl)) (mW3 (List.mem_of_getElem? (i := 55) rfl)) (mW3 (List.mem_of_getElem? (i := 45) rfl)) (mW3 (List.mem_of_getElem? (i := 48) rfl))) (by decide +kernel) rfl hsz (by simp [Value.category]) ⟨Nat.le_refl _, Nat.le_refl _⟩ dJ1_charAt_3b067_3 ?_
  refine lv_aload_n hx hb dJ1_charAt_3b067_6 rfl (lv_at hl 0 rfl) ?_
  refine lv_iload_n hx hb dJ1_charAt_3b067_7 rfl (lv_at hl 1 rfl) ?_
  refine va_tb hx hb hT hS hin (v := .int ((wByt.getD i []).getD k.toNat 0)) (by rw [hcl]) dJ1_charAt_3b067_8 ?_
  refine lv_sipush hx hb dJ1_charAt_3b067_9 (v := 255) rfl ?_
  refine lv_iand hx hb dJ1_charAt_3b067_12 ?_
  refine lv_i2c hx hb dJ1_charAt_3b067_13 (sc_c2 _) ?_
  exact W.zret (v := wCh i k.toNat) hx hb hr (sc_nar _) (fun t ht hW => ⟨rfl, ht⟩) (fun q hq => by cases hq) dJ1_charAt_3b067_14

theorem j_charAt {P0 : KP} {i : Nat} {k : Int} (hi : i < 11) (h0 : 0 ≤ k) (h1 : k < (wLen.getD i 0 : Nat)) : MetJ yJ0_charAt_5068e (.code yJ0_charAt_5068e cJ0_charAt_5068e 2 (some .char) :: W0) 4 P0 [.ref (P0.2.1 i), .int (oI k)] (some (.int (wCh i k.toNat))) := by
  refine MetJ_of (by decide) (by simp [lg_sl, Value.category]) ?_
  intro p l e s m args below meth c la hF hl
  obtain ⟨hx, hb, hml, hown, hts, hr, hlk, hKH⟩ := hF
  have hS : va_S (fun _ => False) s.heap s.heap [] := va_S.rf
  have hsz : la.size = 2 := hl.1
  refine lv_aload_n hx hb dJ0_charAt_5068e_0 rfl (lv_at hl 0 rfl) ?_
  refine j_V (j_isLatin1 hi) (As := []) (n := 0) (by decide) (by decide) ⟨hx, hb, hml, hown, hts⟩ hKH hS (gdV (mW4 (List.mem_of_getElem? (i := 7) rfl)) (mW4 (List.mem_of_getElem? (i := 8) rfl)) (mW4 (List.mem_of_getElem? (i := 9) rfl)) (mW3 (List.mem_of_getElem? (i := 45) rfl)) (mW3 (List.mem_of_getElem? (i := 46) rfl))) (by decide +kernel) (vk_recv hKH.2.2.2.1 hi hS) rfl hsz (by simp [Value.category]) ⟨Nat.le_refl _, Nat.le_refl _⟩ dJ0_charAt_5068e_1 ?_
  refine lv_if_eq hx hb (tgt := 16) dJ0_charAt_5068e_4 rfl (fun z => absurd z (by decide)) (fun _ => ?_)
  refine lv_aload_n hx hb dJ0_charAt_5068e_7 rfl (lv_at hl 0 rfl) ?_
  refine vk_getf hx hb (hKH.2.2.2.1.1 i hi).2.2.1 hS hown (hts _ (List.mem_cons_of_mem _ (mW3 (List.mem_of_getElem? (i := 41) rfl)))) (fun _ h9 => h9) dJ0_charAt_5068e_8 ?_
  refine lv_iload_n hx hb dJ0_charAt_5068e_11 rfl (lv_at hl 1 rfl) ?_
  refine j_S (j_charAt1 hi h0 h1) (n := 2) (rest := []) (by decide) (by decide) ⟨hx, hb, hml, hown, hts⟩ hKH hS (gdS (mW4 (List.mem_of_getElem? (i := 10) rfl)) (mW4 (List.mem_of_getElem? (i := 11) rfl)) (mW4 (List.mem_of_getElem? (i := 12) rfl)) (mW3 (List.mem_of_getElem? (i := 53) rfl))) (by decide +kernel) rfl hsz (by simp [Value.category]) ⟨Nat.le_refl _, Nat.le_refl _⟩ dJ0_charAt_5068e_12 ?_
  exact W.zret (v := wCh i k.toNat) hx hb hr (sc_nar _) (fun t ht hW => ⟨rfl, ht⟩) (fun q hq => by cases hq) dJ0_charAt_5068e_15
