/-! ===== at ===== -/
/-- X9_at -/
def P_X9_at : PT := fun as I A => ∃ (s : Int) (i : Int) (w : Int), as = [.inr (some (7, 0)), .inl s, .inl i, .inl w] ∧ (CI I A)
theorem P_X9_at_c {s : Int} {i : Int} {w : Int} {I A : FN} : P_X9_at [.inr (some (7, 0)), .inl s, .inl i, .inl w] I A = (CI I A) := propext ⟨fun ⟨_, _, _, e, h⟩ => by cases e; exact h, fun h => ⟨_, _, _, rfl, h⟩⟩
def Q_X9_at : QT := fun as I A r I' A' => ∀ (s : Int) (i : Int) (w : Int), as = [.inr (some (7, 0)), .inl s, .inl i, .inl w] → ∀ x : Int, r = some x → (CQ I A I' A')
theorem Q_X9_at_c {s : Int} {i : Int} {w : Int} {I A : FN} {x : Int} {I' A' : FN} : Q_X9_at [.inr (some (7, 0)), .inl s, .inl i, .inl w] I A (some x) I' A' = (CQ I A I' A') := propext ⟨fun h => h _ _ _ rfl x rfl, fun h _ _ _ e _ e2 => by cases e; cases e2; exact h⟩
abbrev ct_X9_at : List (Nat × Ctr) := [(82, (0, 3, true, P_X9_elementAt, Q_X9_elementAt, al0)), (149, (1, 1, true, P_X9_nameOf, Q_X9_nameOf, al0)), (116, (0, 3, true, P_X4_letterOf, Q_X4_letterOf, al0))]
theorem dNS_0 : decode prog_28_method_4_code 0 = .ok (.aload_n 0, 1) := by decide +kernel
theorem dNS_1 : decode prog_28_method_4_code 1 = .ok (.aload_n 1, 1) := by decide +kernel
theorem dNS_2 : decode prog_28_method_4_code 2 = .ok (.invokespecial 13, 3) := by decide +kernel
theorem dNS_5 : decode prog_28_method_4_code 5 = .ok (.return_, 1) := by decide +kernel
def exL : List Jvm.Cond := (oaX RX9 184 "java/util/NoSuchElementException" "java/lang/RuntimeException" ["java/lang/Exception"] 13 prog_28_method_4_code).filter vx_no
def exB : List Jvm.Cond := [.declares ⟨"java/lang/RuntimeException", "<init>", "(Ljava/lang/String;)V"⟩, .declares ⟨"java/lang/Exception", "<init>", "(Ljava/lang/String;)V"⟩, .declares ⟨"java/lang/Throwable", "<init>", "(Ljava/lang/String;)V"⟩, .castable "java/util/NoSuchElementException" "java/util/NoSuchElementException"]
def WX : List Jvm.Cond := W0 ++ exL.filter goodWord
/-- what a throw stands on: two statics of Throwable, the texts, four words of the tables -/
def KE (T : Nat × Nat) (S : Nat → Prop) (U : State) (H : Heap) : Prop := (vx_Zq Bundle.tN "UNASSIGNED_STACK" Bundle.steD S U H ∧ vx_Zq Bundle.tN "SUPPRESSED_SENTINEL" Bundle.listD S U H) ∧ (vk_R RX9 182 "no element there" T.1 U ∧ vk_R RX9 193 "no such thing of an element" T.2 U) ∧ ∀ w ∈ exB, va_Nw w U
theorem KE.kept {T : Nat × Nat} {S : Nat → Prop} {U : State} {H H1 : Heap} (h : KE T S U H) (hq : ∀ a : Nat, a < H.size → ¬ S a → H1[a]? = H[a]?) : KE T S U H1 := ⟨⟨h.1.1.kept hq, h.1.2.kept hq⟩, h.2⟩
theorem KE.narrow {T : Nat × Nat} {S S' : Nat → Prop} {U : State} {H : Heap} (h : KE T S U H) (hS : ∀ q, S' q → S q) : KE T S' U H := ⟨⟨h.1.1.narrow hS, h.1.2.narrow hS⟩, h.2⟩
theorem KE.warm {T : Nat × Nat} {S : Nat → Prop} {s U : State} {H : Heap} (hW : s.WarmedH U.vm) (h : KE T S s H) : KE T S U H := ⟨⟨h.1.1.moved hW.alike, h.1.2.moved hW.alike⟩, ⟨h.2.1.1.warm hW, h.2.1.2.warm hW⟩, fun w hw => by
  have h0 := h.2.2 w hw
  simp only [exB, List.mem_cons, List.not_mem_nil, or_false] at hw
  rcases hw with rfl | rfl | rfl | rfl
  · exact va_Nw.warmD hW h0
  · exact va_Nw.warmD hW h0
  · exact va_Nw.warmD hW h0
  · exact va_Nw.warmC hW h0⟩
theorem KE.vm {T : Nat × Nat} {S : Nat → Prop} {s U : State} {H : Heap} (hv : s.vm = U.vm) (h : KE T S s H) : KE T S U H := ⟨⟨h.1.1.moved (by rw [hv]; exact Vm.Alike.refl _), h.1.2.moved (by rw [hv]; exact Vm.Alike.refl _)⟩, ⟨h.2.1.1.same hv.symm, h.2.1.2.same hv.symm⟩, fun w hw => by
  have h0 := h.2.2 w hw
  have ht : w.onTables = true := by
    have : ∀ w ∈ exB, w.onTables = true := by decide +kernel
    exact this w hw
  exact va_Nw.same ht hv h0⟩
theorem ex_hat {args : Array Value} {s : State} (h1 : ∀ w ∈ exL.filter goodWord, w.before args s = true) (h2 : ∀ w ∈ exB, va_Nw w s) : ∀ w ∈ exL, w.before args s = true := vx_hat h1 (by decide +kernel) (fun w hw => va_Nw.use (by
  have : ∀ w ∈ exB, w.onTables = true := by decide +kernel
  exact this w hw) (h2 w hw))
def PcA (T : Nat × Nat) (D : va_G) (cy : Nat → ClassId) (L : Nat → Nat) (lv : List Nat) (as : List AV) (I A : FN) (sz : Nat) : Array Value → State → Prop := va_Pc (as.map (vv L)) (fun U => (U.heap.size = sz ∧ va_P D vwCl (wd cy L lv I A) U.heap ∧ KK D cy U ∧ va_D (fun _ => True) (wd cy L lv I A)) ∧ KE T (va_A (wd cy L lv I A) sz) U U.heap)
theorem PcA_blind {T : Nat × Nat} {D : va_G} {cy : Nat → ClassId} {L : Nat → Nat} {lv : List Nat} {as : List AV} {I A : FN} {sz : Nat} : FrameBlind (PcA T D cy L lv as I A sz) := fun a U g mk h => by
  obtain ⟨h1, ⟨h2, h3, h4, h5⟩, h6⟩ := h
  have h7 : KE T (va_A (wd cy L lv I A) sz) (U.calling g mk a) U.heap := KE.vm (s := U) rfl h6
  exact ⟨h1, ⟨h2, h3, KK.vm (s := U) (U := U.calling g mk a) rfl h4, h5⟩, h7⟩
def XCA (D : va_G) (cy : Nat → ClassId) (L : Nat → Nat) (lv : List Nat) (I A : FN) (sz : Nat) : String → State → State → Prop := fun E st t => E = "java/util/NoSuchElementException" ∧ (∃ I' A' : FN, okF I' ∧ okF A' ∧ I' 77 = I 77 ∧ CQ I A I' A' ∧ va_P D vwCl (wd cy L lv I' A') t.heap) ∧ va_F (va_A (wd cy L lv I A) sz) st t
set_option maxHeartbeats 8000000 in
set_option maxRecDepth 100000 in
theorem c_at {l : Launch} (hfl : l.stackTraces = false) {T : Nat × Nat} {D : va_G} {cy : Nat → ClassId} {L : Nat → Nat} {lv : List Nat} {sz : Nat} {s0 i0 w0 : Int} {I A : FN} (hlv : LvOk lv) (hI : okF I) (hA : okF A) (him : 77 ∈ lv → ∀ i, i < 2 → I 77 i ≠ 0 → 97 + 76 * i ∈ lv) (h00 : 0 ∈ lv) (hp : CI I A) (hs0 : inI s0) (hi0 : inI i0) (hw0 : inI w0) :
    vx_Met l yX9_at (.code yX9_at cX9_at 6 (some .int) :: WX) (rmD 7 (1, 6)) (PcA T D cy L lv [.inr (some (7, 0)), .inl s0, .inl i0, .inl w0] I A sz) (QcX D cy L lv [.inr (some (7, 0)), .inl s0, .inl i0, .inl w0] I A sz true Q_X9_at) (XCA D cy L lv I A sz) 1 6 (va_A (wd cy L lv I A) sz) := by
  refine vx_ofW (cc := cX9_at) (maxL := 6) (ret := some .int) (by decide) rfl ?_
  intro p e s m args below meth c s₁ B hml hempty hv
  obtain ⟨rfl, ⟨hsz, hPP, hK, hD0⟩, hKE⟩ := hv
  subst hsz
  have hx := B.exec
  have hb := B.bytes
  have hr := B.returns
  have htsX := atoms_spec (ws := .code yX9_at cX9_at 6 (some .int) :: WX) B.pre
  have hts : ∀ w ∈ (.code yX9_at cX9_at 6 (some .int) :: W0 : List Jvm.Cond), w.before ([.inr (some (7, 0)), .inl s0, .inl i0, .inl w0].map (vv L)).toArray s = true := fun w hw => htsX w ((List.mem_cons.mp hw).elim (fun e => e ▸ List.mem_cons_self) (fun h => List.mem_cons_of_mem _ (List.mem_append_left _ h)))
  have hex : ∀ w ∈ exL, w.before ([.inr (some (7, 0)), .inl s0, .inl i0, .inl w0].map (vv L)).toArray s = true := ex_hat (fun w hw => htsX w (List.mem_cons_of_mem _ (List.mem_append_right _ hw))) hKE.2.2
  have hown : s.vm.findClass yX9_at.cls = some m.cls := findClass_of_methodNamed B.named
  have hlocks := B.notSynchronized
  have hDD := hD0.self (sz := s.heap.size)
  have hl := lv_entry ([.inr (some (7, 0)), .inl s0, .inl i0, .inl w0].map (vv L)) (n := 6) (by simp [lg_sl, Value.category, vv])
  rw [lg_entry_eq]
  show W p l e (rmD 7 (1, 6)) s m _ below meth c s.heap [] 0 0 _ (F0 m 0 _ [])
  generalize (lg_sl ([.inr (some (7, 0)), .inl s0, .inl i0, .inl w0].map (vv L)) ++ List.replicate (6 - (lg_sl ([.inr (some (7, 0)), .inl s0, .inl i0, .inl w0].map (vv L))).length) Slot.unset).toArray = la at hl ⊢
  generalize ([.inr (some (7, 0)), .inl s0, .inl i0, .inl w0].map (vv L)).toArray = args at hts hex ⊢
  have hSz : ∀ q, s.heap.size ≤ q → va_A (wd cy L lv I A) s.heap.size q := fun q h => Or.inr h
  have hT : RtX (p, l, e, rmD 7 (1, 6), s, m, args, below, meth, c, vx_MQ below (QcX D cy L lv [.inr (some (7, 0)), .inl s0, .inl i0, .inl w0] I A s.heap.size true Q_X9_at) (XCA D cy L lv I A s.heap.size) args s 1 6 (va_A (wd cy L lv I A) s.heap.size), D, cy, L, lv, va_A (wd cy L lv I A) s.heap.size, 6, I 77) cX9_at 1 (Q_X9_at [.inr (some (7, 0)), .inl s0, .inl i0, .inl w0] I A) (1, 6) := by
    refine ⟨fun q pc ls I' A' hq1 hq2 hd h0 hpost => ?_, fun q pc ls x I' A' hq1 hq2 hd h0 hpost => ?_⟩
    · cases h0
    · intro hI' hA' h77 hst hls H locs la' hP' hD' hS' hL'
      refine vx_ret (W.widen hq1 hq2 ?_)
      have hxI : inI x := okS_h hst
      exact W.iret (v := oI x) hx hb hr (fun t ht hW => ⟨⟨some x, I', A', rfl, rfl, fun z hz => by cases hz; exact hxI, hI', hA', h77, hpost, by rw [ht]; exact hP'⟩, hS'.F ht⟩) hS'.2.2 hd
  have thr : ∀ (pc is sa : Nat) (tx : String) (ls : Lc) (J B : FN), vk_R RX9 is tx sa s → CQ I A J B → decode cX9_at pc = .ok (.new 180, 3) → decode cX9_at (pc + 3) = .ok (.dup, 1) → decode cX9_at (pc + 4) = .ok (.ldc is, 2) → decode cX9_at (pc + 6) = .ok (.invokespecial 184, 3) → decode cX9_at (pc + 9) = .ok (.athrow, 1) → Go (p, l, e, rmD 7 (1, 6), s, m, args, below, meth, c, vx_MQ below (QcX D cy L lv [.inr (some (7, 0)), .inl s0, .inl i0, .inl w0] I A s.heap.size true Q_X9_at) (XCA D cy L lv I A s.heap.size) args s 1 6 (va_A (wd cy L lv I A) s.heap.size), D, cy, L, lv, va_A (wd cy L lv I A) s.heap.size, 6, I 77) (0, 0) pc ls [] J B := by
    intro pc is sa tx ls J B hstr hcq d0 d3 d4 d6 d9 hJ hB h77 hst hls H locs la' hP hD hS hL
    have hla : la'.size = c.maxLocals := by
      obtain ⟨-, lv0, hl1, -⟩ := hL
      rw [hml]
      exact hl1.1
    refine vx_throwX (A := va_A (wd cy L lv I A) s.heap.size) (text := tx) (sa := sa) (Y0 := "java/lang/RuntimeException") (names := ["java/lang/Exception"]) (cls := "java/util/NoSuchElementException") (ix := 13) (rx := prog_28_method_4_code) hx hb hfl dNS_0 dNS_1 dNS_2 dNS_5 (by decide +kernel) hown (by decide +kernel) (by decide +kernel) (hts _ (List.mem_cons_of_mem _ (mW7 (List.mem_of_getElem? (i := 52) rfl)))) (hts _ (List.mem_cons_of_mem _ (mW7 (List.mem_of_getElem? (i := 53) rfl)))) hstr hex (by decide +kernel) hKE.1.1 hKE.1.2 hS hla d0 d3 d4 d6 d9 (by decide) (Nat.le_of_ble_eq_true rfl) (by decide) (by decide) (fun q ce H1 hz hk hce hcv hcl => vx_out (fun x hx => (hempty x hx).elim) hlocks hce hcv hcl (fun t ht _ => ⟨rfl, ⟨J, B, hJ, hB, h77, hcq, fun k q hq => ?_⟩, ?_, fun q h1 h2 => ?_⟩) hS.2.2 (by decide) (by decide))
    · rw [ht]; exact (hP k q hq).kept (hk q.1 (hP k q hq).lt)
    · rw [ht]; exact Nat.le_trans hS.1 hz
    · rw [ht, hk q (Nat.lt_of_lt_of_le h1 hS.1)]
      exact hS.2.1 q h1 h2
  have hX : Fx (p, l, e, rmD 7 (1, 6), s, m, args, below, meth, c, vx_MQ below (QcX D cy L lv [.inr (some (7, 0)), .inl s0, .inl i0, .inl w0] I A s.heap.size true Q_X9_at) (XCA D cy L lv I A s.heap.size) args s 1 6 (va_A (wd cy L lv I A) s.heap.size), D, cy, L, lv, va_A (wd cy L lv I A) s.heap.size, 6, I 77) RX9 cX9_at (.code yX9_at cX9_at 6 (some .int) :: W0) := ⟨hx, hb, hml, hown, hts, hK, hSz, hlv, hlocks, him⟩
  have hgo : Go (p, l, e, rmD 7 (1, 6), s, m, args, below, meth, c, vx_MQ below (QcX D cy L lv [.inr (some (7, 0)), .inl s0, .inl i0, .inl w0] I A s.heap.size true Q_X9_at) (XCA D cy L lv I A s.heap.size) args s 1 6 (va_A (wd cy L lv I A) s.heap.size), D, cy, L, lv, va_A (wd cy L lv I A) s.heap.size, 6, I 77) (0, 0) 0 [some (.inr (some (7, 0))), some (.inl s0), some (.inl i0), some (.inl w0), none, none] [] I A := by
    have t1 := fun ls J B (h : CQ I A J B) => thr 13 182 T.1 _ ls J B hKE.2.1.1 h dX9_at_13 dX9_at_16 dX9_at_17 dX9_at_19 dX9_at_22
    have t2 := fun ls J B (h : CQ I A J B) => thr 110 193 T.2 _ ls J B hKE.2.1.2 h dX9_at_110 dX9_at_113 dX9_at_114 dX9_at_116 dX9_at_119
    have hR : RmX (p, l, e, rmD 7 (1, 6), s, m, args, below, meth, c, vx_MQ below (QcX D cy L lv [.inr (some (7, 0)), .inl s0, .inl i0, .inl w0] I A s.heap.size true Q_X9_at) (XCA D cy L lv I A s.heap.size) args s 1 6 (va_A (wd cy L lv I A) s.heap.size), D, cy, L, lv, va_A (wd cy L lv I A) s.heap.size, 6, I 77) 7 (1, 6) := rfl
    clear thr
    generalize (p, l, e, rmD 7 (1, 6), s, m, args, below, meth, c, vx_MQ below (QcX D cy L lv [.inr (some (7, 0)), .inl s0, .inl i0, .inl w0] I A s.heap.size true Q_X9_at) (XCA D cy L lv I A s.heap.size) args s 1 6 (va_A (wd cy L lv I A) s.heap.size), D, cy, L, lv, va_A (wd cy L lv I A) s.heap.size, 6, I 77) = X at hX hR hT t1 t2 ⊢
    have E : Env0 X RX9 cX9_at _ flX9 lcX9 (lk ct_X9_at) _ 1 (1, 6) := ⟨hX, flk_ok _ ftX9_ok, lcX9_ok, lk_ok _ (List.forall_mem_cons.mpr ⟨r_X9_82 hX hR (by decide), List.forall_mem_cons.mpr ⟨r_X9_149 hX hR (by decide), List.forall_mem_cons.mpr ⟨r_X9_116 hX hR (by decide), (fun _ h => absurd h List.not_mem_nil)⟩⟩⟩), hT⟩
    have h2 : 0 ≤ s0 → s0 < 5 → SiI I A 2 (12 + 13 * s0.toNat) := fun a b => hp.1.s1 a b
    have hC : 2 ≤ I 2 8 ∧ I 2 8 ≤ 5 := hp.1.1.sites
    refine wp_sound E (wr := []) (cut := [13, 110]) 400 _ _ _ _ _ _ ?_
    simp (maxSteps := 10000000) only [entL, List.map_cons, List.map_nil, List.length_cons, List.length_nil, Nat.reduceAdd, Nat.reduceSub, Nat.reduceDiv, Nat.reduceMod, Nat.reduceLeDiff, Nat.reduceEqDiff, List.replicate, List.append_nil, List.cons_append, List.nil_append, wp_u, List.elem_nil, List.elem_cons, Nat.reduceBEq, Bool.or_false, Bool.false_or, Bool.true_or, Bool.or_true, ↓reduceIte, Bool.false_eq_true, if_false, if_true, e_ok, f4_0, f4_1, f4_2, f4_3, lgetK, lputK, isI_c, isR_c, popR_c, popI_c, popV_c, fget_0, fget_1, fget_2, fput_0, fput_2, true_and, and_true, rtOk_1, rtOk_2, cmpP, spl, arI_t, arI_f, dvI_t, dvI_f, rmI_t, rmI_f, al0_e, Nat.add_zero, Nat.zero_add, Nat.le_refl, and_imp, ne_eq, Option.some.injEq, swc, swOk, reduceCtorEq, false_or, or_false, Nat.zero_le, Classical.not_not, gt_iff_lt, ge_iff_le, forall_eq, bI_e0, bI_e1, bI_0e, bI_1e, bI_01, bI_lo, bI_hi, true_implies, forall_const, or_true, true_or, not_true_eq_false, not_false_eq_true, Int.reduceLE, Int.reduceNeg, false_implies, implies_true, Int.toNat_zero, up2_ud, up2_rn, ud_s, ud_n, dX9_at_0, dX9_at_1, dX9_at_2, dX9_at_3, dX9_at_6, dX9_at_8, dX9_at_10, (show tg 10 13 = 23 from rfl), (eq_true (by decide) : (0 ≤ ((10 : Nat) : Int) + 13) = True), dX9_at_13, dX9_at_16, dX9_at_17, dX9_at_19, dX9_at_22, dX9_at_23, dX9_at_24, dX9_at_27, dX9_at_30, dX9_at_31, dX9_at_32, dX9_at_35, dX9_at_37, dX9_at_38, (show tg 38 30 = 68 from rfl), (eq_true (by decide) : (0 ≤ ((38 : Nat) : Int) + 30) = True), (show tg 38 36 = 74 from rfl), (eq_true (by decide) : (0 ≤ ((38 : Nat) : Int) + 36) = True), (show tg 38 51 = 89 from rfl), (eq_true (by decide) : (0 ≤ ((38 : Nat) : Int) + 51) = True), (show tg 38 63 = 101 from rfl), (eq_true (by decide) : (0 ≤ ((38 : Nat) : Int) + 63) = True), (show tg 38 72 = 110 from rfl), (eq_true (by decide) : (0 ≤ ((38 : Nat) : Int) + 72) = True), dX9_at_68, dX9_at_70, dX9_at_73, dX9_at_74, dX9_at_76, dX9_at_77, dX9_at_80, dX9_at_83, dX9_at_85, dX9_at_88, dX9_at_89, dX9_at_91, dX9_at_94, dX9_at_96, dX9_at_97, dX9_at_100, dX9_at_101, dX9_at_103, dX9_at_106, dX9_at_108, dX9_at_109, dX9_at_110, dX9_at_113, dX9_at_114, dX9_at_116, dX9_at_119, e_aaload, e_aload, e_aload_n, e_astore, e_dup, e_getfield, e_iaload, e_ifCond, e_iload, e_iload_n, e_invokestatic, e_invokevirtual, e_ireturn, e_istore, e_tableswitch, fX9_12_7, fX9_101_1, fX9_105_6, fX9_85_1, fX9_187_2, fX9_190_2, cal_ti (show lk ct_X9_at 82 = some (0, 3, true, P_X9_elementAt, Q_X9_elementAt, al0) from rfl) Q_X9_elementAt_iro, P_X9_elementAt_c, Q_X9_elementAt_c0, cal_r (show lk ct_X9_at 149 = some (1, 1, true, P_X9_nameOf, Q_X9_nameOf, al0) from rfl) Q_X9_nameOf_ro, P_X9_nameOf_c, Q_X9_nameOf_c0, cal_r (show lk ct_X9_at 116 = some (0, 3, true, P_X4_letterOf, Q_X4_letterOf, al0) from rfl) Q_X4_letterOf_ro, P_X4_letterOf_c, Q_X4_letterOf_c0, Q_X9_at_c, false_and, false_or, or_false]
    clear E hT hR hX
    (repeat' first | (with_reducible intro _) | (with_reducible refine And.intro ?_ ?_) | (with_reducible refine t1 _ _ _ ?_) | (with_reducible refine t2 _ _ _ ?_))
    all_goals first | with_reducible assumption | omega | (with_reducible rfl) | (exact CQ_d (d := 94) (by assumption) (by assumption) hp (Or.inl rfl)) | (have c := CQ_d (d := 94) (by assumption) (by assumption) hp (Or.inl rfl); have z := (c.1.1.s1 (s := s0) (by omega) (by omega)).l1.t; exact z) | (have c := CQ_d (d := 94) (by assumption) (by assumption) hp (Or.inl rfl); have z := R2_at (c.1.1.s1 (s := s0) (by omega) (by omega)).l1.s (by assumption) (by assumption); first | exact z.1 | exact z.2) | skip
  refine hgo hI hA rfl (fun v hv => absurd hv List.not_mem_nil) (fun v hv => ?_) s.heap [] la hPP hDD va_S.rf ⟨rfl, _, hl, fun n v hn => ?_⟩
  · simp only [List.mem_cons, Option.some.injEq, List.not_mem_nil, or_false, reduceCtorEq] at hv
    rcases hv with rfl | rfl | rfl | rfl
    · exact ⟨h00, rfl⟩
    · exact hs0
    · exact hi0
    · exact hw0
  · match n, hn with
    | 0, hn => cases hn; exact List.mem_cons_self
    | 1, hn => cases hn; exact List.mem_cons_of_mem _ List.mem_cons_self
    | 2, hn => cases hn; exact List.mem_cons_of_mem _ (List.mem_cons_of_mem _ List.mem_cons_self)
    | 3, hn => cases hn; exact List.mem_cons_of_mem _ (List.mem_cons_of_mem _ (List.mem_cons_of_mem _ List.mem_cons_self))
    | 4, hn => cases hn
    | 5, hn => cases hn
    | n + 6, hn => exact absurd hn (by cases n <;> simp [lget])
