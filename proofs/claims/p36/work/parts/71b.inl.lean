/-! ===== a callee that is walked, not taken by a contract (its class need not be known to be initialised) ===== -/
section Inl
variable {p : Program} {l : Launch} {e : Env} {R : Room} {s : State} {sargs : Array Value} {below : List Frame} {y : MethodName} {len wt : Nat}
def InB (p : Program) (y : MethodName) (bytes : ByteArray) (maxL : Nat) (ret : Option FieldType) (s s' : State) (m' : MethodId) (meth' : Method) (c' : Code) : Prop :=
  p.tables.exec = Jvm.exec ∧ c'.code = bytes ∧ c'.maxLocals = maxL ∧ meth'.locks = false ∧ meth'.sig.returnType = ret ∧ s'.methodNamed? y = some m' ∧ s.WarmedH s'.vm
theorem back_in {rm : Room} {Pc : Array Value → State → Prop} {Qc : Array Value → State → Outcome → State → Prop} {mc ms : Nat} {free : Addr → Prop} {bytes : ByteArray} {maxL : Nat} {ret : Option FieldType}
    (hy : plainName y.cls = true) (hblind : FrameBlind Pc) (hrc : rm.cells = mc) (hrs : rm.slots = ms) (hframes : rm.frames + 1 ≤ R.frames) (hlocals : wt + (maxL + 11) + rm.locals ≤ R.locals)
    (hcode : ∀ a' U, s.WarmedH U.vm → (Cond.code y bytes maxL ret).before a' U = true)
    (body : ∀ (s' : State) (m' : MethodId) (a' : Array Value) (below' : List Frame) (meth' : Method) (c' : Code), InB p y bytes maxL ret s s' m' meth' c' → Pc a' s' → W p l e rm s' m' a' below' meth' c' s'.heap [] 0 0 (MQ below' Qc a' s' mc ms free) (entryFrame m' a' maxL)) :
    Back l R p e below s sargs y len wt (PreOf R mc ms Pc) (PostOf Qc mc ms free) := by
  intro m meth c A g ig mk a X hg hsize hdg hW hn hp
  obtain ⟨U, Ls, c0, s0⟩ := A
  obtain ⟨p1, p2, p3⟩ := hp
  dsimp only [Pt.U, Pt.locs, Pt.cells, Pt.slots] at p1 p2 p3 X hn ⊢
  obtain ⟨methY, cY, hmY, hcY, hbY, hlY, hrY, hkY, -⟩ := Cond.code_spec hn (hcode a U X.warmed)
  have h : At U g.method c below := by rw [hg]; exact X.here
  have hroom : (U.calling g mk a).hasRoom e.platform rm = true := X.room_calling (g := g) (R' := rm) hsize hmY hcY hframes (by rw [hlY]; omega) (by omega) (by omega)
  have hf' : (U.calling g mk a).frames = .invoking mk a :: .java g :: U.frames.tail := State.frames_calling h.top g mk a
  have hcal : U.calling g mk a = U.setFrames (.invoking mk a :: .java g :: U.frames.tail) := State.calling_eq h.top g mk a
  have hhears : (U.calling g mk a).hears mk (.java g :: U.frames.tail) = true := by
    have hcode : (U.calling g mk a).code? g.method = some c := by
      have := h.code
      rw [State.code?_eq] at this ⊢
      simpa [State.calling, State.pushFrame, State.setFrames] using this
    simp [State.hears, hcode, hdg, Except.toOption]
  have hcur := State.cur_lt_of_frames hf'
  have hf1 : ((U.calling g mk a).setFrames (.java (entryFrame mk a maxL) :: .java g :: U.frames.tail)).frames = .java (entryFrame mk a maxL) :: .java g :: U.frames.tail := State.frames_setFrames _ hcur
  have ht1 := State.topJava?_of_frames hf1
  have hvm : (U.calling g mk a).vm = U.vm := by rw [hcal]; rfl
  have hplain : ((U.calling g mk a).setFrames (.java (entryFrame mk a maxL) :: .java g :: U.frames.tail)).plainMethod mk := by
    refine State.plainMethod.of_name ?_
    intro k hk
    obtain ⟨k', hk', hn'⟩ := className_of_methodNamed hn
    have hk2 : U.vm.classes[mk.cls]? = some k := by rw [← hvm]; exact hk
    cases hk2.symm.trans hk'
    rw [hn']; exact hy
  have hmY' : (U.calling g mk a).vm.method? mk = some methY := by rw [hvm]; exact hmY
  have hAt : At ((U.calling g mk a).setFrames (.java (entryFrame mk a maxL) :: .java g :: U.frames.tail)) mk cY (.java g :: U.frames.tail) :=
    ⟨by rw [ht1]; rfl, ⟨[], by rw [hf1]; rfl⟩, h.running, by simpa [State.calling] using h.runnable, by simpa [State.calling] using h.alone,
      by rw [State.code?_eq]; simp [State.setFrames, hmY', hcY], hplain⟩
  obtain ⟨tt, htt, -⟩ := State.frames_cons hf'
  have X' : Stand p l e rm (U.calling g mk a) mk a (.java g :: U.frames.tail) methY cY ((U.calling g mk a).setFrames (.java (entryFrame mk a maxL) :: .java g :: U.frames.tail)) [] 0 0 :=
    ⟨X.admits, X.cas, X.clock, hf', hroom, hhears, hmY', hcY, hAt, by rw [hf1]; rfl, State.WarmedH.refl _, by rw [State.stackLimits_setFrames], by rw [State.stackBytes_setFrames],
      (State.sameButNew.refl _ htt).setFrames (.java (entryFrame mk a maxL) :: .java g :: U.frames.tail) hcur⟩
  have hin : InB p y bytes maxL ret s (U.calling g mk a) mk methY cY := ⟨by cases p <;> rfl, hbY, hlY, hkY, hrY, hn, by rw [hvm]; exact X.warmed⟩
  obtain ⟨s₂, hs, o, hrun, hend, hq, L, hfe, hL⟩ := body (U.calling g mk a) mk a (.java g :: U.frames.tail) methY cY hin (hblind _ _ _ _ p3) ((U.calling g mk a).setFrames (.java (entryFrame mk a maxL) :: .java g :: U.frames.tail)) rfl X'
  have hstep : (doInvoke e (U.setTop g) [] mk a).1 = ((U.calling g mk a).setFrames (.java (entryFrame mk a maxL) :: .java g :: U.frames.tail)).setTop (entryFrame mk a maxL) := by
    have hfull : e.platform.stackFull ((U.calling g mk a).setFrames (.java g :: U.frames.tail)).me ((U.calling g mk a).setFrames (.java g :: U.frames.tail)).frames cY.maxLocals = false := by
      obtain ⟨-, h1, -, h2⟩ := State.hasRoom_stack hroom
      rw [hf', List.length_cons] at h1
      rw [State.localsInUse_invoking hf' hmY' hcY] at h2
      have hw := stackUse_le_stackWeight (.java g :: U.frames.tail)
      rw [State.frames_setFrames _ hcur]
      exact Platform.stackFull_eq_false (by rw [State.stackLimits_setFrames]; omega) (by rw [State.stackLimits_setFrames]; omega)
    have h1 : (stepThread p.tables e (U.calling g mk a)).1 = ((U.calling g mk a).setFrames (.java (entryFrame mk a maxL) :: .java g :: U.frames.tail)).setTop (entryFrame mk a maxL) := by
      rw [stepThread_invoking hf', (doInvoke_java (s := (U.calling g mk a).setFrames (.java g :: U.frames.tail)) (e := e) (meth := methY) (code := cY) hmY' hcY hkY hfull).1, State.setTop_self ht1]
      simp only [State.pushFrame, State.frames_setFrames _ hcur, State.setFrames_setFrames, hlY, entryFrame]
    rw [← h1]
    have hfT : (U.setTop g).frames = .java g :: U.frames.tail := State.frames_setTop' g h.top
    obtain ⟨t2, ht2, -⟩ := State.frames_cons hfT
    rw [stepThread_invoking hf', doInvoke_state e (U.setTop g) []]
    have e0 : (U.calling g mk a).setFrames (.java g :: U.frames.tail) = U.setTop g := by
      rw [← hfT]
      show ((U.setTop g).pushFrame (.invoking mk a)).setFrames (U.setTop g).frames = U.setTop g
      rw [State.pushFrame, State.setFrames_setFrames, State.setFrames_self ht2]
    rw [e0]
  obtain ⟨⟨v, rfl⟩, hW₂, e2, q2, q3, q4, q5, q6⟩ := id hfe
  have e3 : s₂ = ({ (U.calling g mk a).setFrames s₂.frames with heap := s₂.heap, slotsUsed := s₂.slotsUsed } : State).setVm s₂.vm := by
    have : s₂ = ({ s₂ with vm := (U.calling g mk a).vm } : State).setVm s₂.vm := rfl
    rw [e2] at this
    exact this
  obtain ⟨c₂, i₂, len₂, hc₂, hd₂, hf₂⟩ := hend
  have hW' : U.WarmedH s₂.vm := hW₂
  have hcc : c₂ = c := by
    have h1 : s₂.code? g.method = U.code? g.method := by
      rw [State.code?_eq, State.code?_eq, hW'.alike.method?]
    exact Option.some.inj (hc₂.symm.trans (h1.trans h.code))
  subst hcc
  have hlen : len₂ = len := by rw [hdg] at hd₂; cases hd₂; rfl
  subst hlen
  obtain ⟨g₀, hg0⟩ := Option.isSome_iff_exists.mp h.top
  obtain ⟨r, hr⟩ := State.topJava?_eq_some.mp hg0
  have hs₂ : s₂ = (({ U with heap := s₂.heap, slotsUsed := s₂.slotsUsed } : State).setVm s₂.vm).setTop { g with pc := g.pc + len₂, stack := v.toList ++ g.stack } := by
    have hr' : (({ U with heap := s₂.heap, slotsUsed := s₂.slotsUsed } : State).setVm s₂.vm).frames = .java g₀ :: r := hr
    refine e3.trans ?_
    rw [hf₂, State.calling_eq h.top, State.setFrames_setFrames, State.setTop_of_frames _ hr', hr]
    rfl
  have hsame : U.sameButNew ({ U with heap := s₂.heap, slotsUsed := s₂.slotsUsed } : State) L mc ms := by
    refine ⟨?_, q2, q3, q4, q5, q6⟩
    obtain ⟨t, ht, -⟩ := State.frames_cons hr
    show ({ U with heap := s₂.heap, slotsUsed := s₂.slotsUsed } : State) = { U.setFrames U.frames with heap := s₂.heap, slotsUsed := s₂.slotsUsed }
    rw [State.setFrames_self ht]
  obtain ⟨mid, hmid⟩ := X.here.above
  subst hg
  refine ⟨v, ⟨(({ U with heap := s₂.heap, slotsUsed := s₂.slotsUsed } : State).setVm s₂.vm), Ls ++ L, c0 + mc, s0 + ms⟩,
    ⟨X.admits, X.cas, X.clock, X.frames, X.room, X.hears, X.method, X.code, (X.here.setHeapUsed s₂.heap s₂.slotsUsed).setVm hW'.alike, X.tail, State.WarmedH.trans X.warmed hW', X.limits, X.bytes, X.same.trans (hsame.setVm s.vm)⟩,
    ⟨g, mk, s₂, L, rfl, rfl, hq, rfl, hL, rfl, rfl⟩, ?_⟩
  show Steps p.tables e below _ ((({ U with heap := s₂.heap, slotsUsed := s₂.slotsUsed } : State).setVm s₂.vm).setTop { g with pc := g.pc + len₂, stack := v.toList ++ g.stack })
  rw [← hs₂, hstep]
  obtain ⟨n, hn1, hn2⟩ := hs
  refine ⟨n, hn1, fun k hk => ?_⟩
  have hw := hn2 k hk
  rw [X.tail] at hw ⊢
  exact Within.weaken (mid := [.java g]) hw
variable {m : MethodId} {args : Array Value} {meth : Method} {c : Code} {H : Heap} {locs : List Loc} {cells slots : Nat}
theorem run_in {x : MethodName} {bytes cc : ByteArray} {maxL nL mc ms n index : Nat} {ret : Option FieldType} {rm : Room} {Pc : Array Value → State → Prop} {Qc : Array Value → State → Outcome → State → Prop} {free : Addr → Prop} {Ts : List Jvm.Cond} {own C owner : String} {b : Addr} {As rest : List Value} {g : JFrame}
    (F : CallFix p m c cc nL s args Ts own) (hy : plainName y.cls = true) (hrm : rm.cells = mc ∧ rm.slots = ms ∧ rm.frames + 1 ≤ R.frames ∧ 8 + (maxL + 11) + rm.locals ≤ R.locals)
    (w1 : (Cond.methodLink own index x).before args s = true) (w2 : (Cond.sameMethod x.cls owner x.name x.desc).before args s = true) (w3 : (Cond.selects C x y).before args s = true) (w4 : (Cond.instanceMethod y).before args s = true) (w5 : (Cond.code y bytes maxL ret).before args s = true)
    (hyx : y = ⟨owner, x.name, x.desc⟩) (hmh : owner ≠ "java/lang/invoke/MethodHandle" ∧ owner ≠ "java/lang/invoke/VarHandle") (hpd : (parseMethodDescriptor x.desc).map (fun d => d.parameters.length) = some n) (hp : PreV s H C b Pc As)
    (body : ∀ (s' : State) (m' : MethodId) (a' : Array Value) (below' : List Frame) (meth' : Method) (c' : Code), InB p y bytes maxL ret s s' m' meth' c' → Pc a' s' → W p l e rm s' m' a' below' meth' c' s'.heap [] 0 0 (MQ below' Qc a' s' mc ms free) (entryFrame m' a' maxL))
    (hg : g.method = m) (hn : As.length = n) (hsize : g.locals.size = nL) (hstack : g.stack = As.reverse ++ .ref b :: rest) (hW : 2 * g.monitorRoom + (rest.map fun v => v.category).sum ≤ 8) (hdg : decode cc g.pc = .ok (.invokevirtual index, 3)) (hf : cells + mc ≤ R.cells ∧ slots + ms ≤ R.slots) :
    va_Run p l e R s m args below meth c H locs cells slots mc ms g rest (Qc (Value.ref b :: As).toArray) free := by
  obtain ⟨hrc, hrs, hfr, hlo⟩ := hrm
  have hK : Back l R p e below s args y 3 8 (PreOf R mc ms Pc) (PostOf Qc mc ms free) := back_in (bytes := bytes) (maxL := maxL) (ret := ret) hy hp.1 hrc hrs hfr hlo (fun a' U hW => word_at hW (Or.inl (by first | rfl | simp [Cond.onTables, Cond.keeps, Cond.steady])) w5) body
  obtain ⟨hx, hb, hml, ho, -⟩ := F
  obtain ⟨-, ⟨cellB, hcB, hoB, hclB⟩, hPc⟩ := hp
  have hlen : ∀ sig, parseMethodDescriptor x.desc = some sig → As.length = sig.parameters.length := fun sig h => by
    rw [h] at hpd
    exact hn.trans (Option.some.inj hpd).symm
  have hdecl : va_Decl s ⟨owner, x.name, x.desc⟩ := by
    subst hyx
    exact va_Decl.of w4 w5
  intro T hT X
  obtain ⟨v, vm₁, ⟨U', l2, c2, s2⟩, hW₁, X', ⟨g', mk, t, L, e1, e2, hq, h1, hL, h2, h3⟩, st⟩ := va_callVU X hx (C := C) (owner := owner) (bytes := bytes) (maxL := maxL) (ret := ret) ho w1 w2 hdecl hmh w3 w4 w5 hK (by rw [hT]; exact hcB) hoB hclB hg (hsize.trans hml.symm) (argsL := As) (rest := rest) hlen hstack hW (by rw [hb]; exact hdg)
    (fun vm₁ hW₁ => ⟨hf.1, hf.2, hPc (T.setVm vm₁) hT hW₁⟩)
  dsimp only [Pt.U, Pt.locs, Pt.cells, Pt.slots] at X' e1 e2 h1 h2 h3 st
  subst h1; subst h2; subst h3
  exact ⟨v, (T.setVm vm₁).calling g' mk (Value.ref b :: As).toArray, t, U', L, hT, X', hL, e1, e2, hq, st⟩
end Inl
