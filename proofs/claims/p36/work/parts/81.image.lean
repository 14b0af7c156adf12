/-! ===== image ===== -/
/-- X9_image -/
def P_X9_image : PT := fun as I A => ∃ (i : Int), as = [.inr (some (7, 0)), .inl i] ∧ (CI I A)
theorem P_X9_image_c {i : Int} {I A : FN} : P_X9_image [.inr (some (7, 0)), .inl i] I A = (CI I A) := propext ⟨fun ⟨_, e, h⟩ => by cases e; exact h, fun h => ⟨_, rfl, h⟩⟩
def Q_X9_image : QT := fun as I A r I' A' => ∀ (i : Int), as = [.inr (some (7, 0)), .inl i] → ∀ x : Int, r = some x → (IMQ i I A x I' A')
theorem Q_X9_image_c {i : Int} {I A : FN} {x : Int} {I' A' : FN} : Q_X9_image [.inr (some (7, 0)), .inl i] I A (some x) I' A' = (IMQ i I A x I' A') := propext ⟨fun h => h _ rfl x rfl, fun h _ e _ e2 => by cases e; cases e2; exact h⟩
abbrev ct_X9_image : List (Nat × Ctr) := [(318, (0, 2, false, P_X3_copy, Q_X3_copy, al0))]
def PcIm (D : va_G) (cy : Nat → ClassId) (L : Nat → Nat) (lv : List Nat) (i : Int) (I A : FN) (sz : Nat) : Array Value → State → Prop := va_Pc [.ref (L 0), .int (oI i)] (fun U => (U.heap.size = sz ∧ va_P D vwCl (wd cy L lv I A) U.heap ∧ KK D cy U ∧ va_D (fun _ => True) (wd cy L lv I A)) ∧ KA U)
theorem PcIm_blind {D : va_G} {cy : Nat → ClassId} {L : Nat → Nat} {lv : List Nat} {i : Int} {I A : FN} {sz : Nat} : FrameBlind (PcIm D cy L lv i I A sz) := fun a U g mk h => by
  obtain ⟨h1, ⟨h2, h3, h4, h5⟩, h6⟩ := h
  exact ⟨h1, ⟨h2, h3, KK.vm (s := U) (U := U.calling g mk a) rfl h4, h5⟩, h6.moved (U := U.calling g mk a) (Vm.Alike.refl _)⟩
def QcIm (D : va_G) (cy : Nat → ClassId) (L : Nat → Nat) (lv : List Nat) (i : Int) (I A : FN) (sz : Nat) : Array Value → State → Outcome → State → Prop := fun _ st oc t => (∃ (x : Int) (I' A' : FN) (M : Nat → Nat) (lw : List Nat), oc = .returned (some (.int (oI x))) ∧ okF I' ∧ okF A' ∧ M 0 = L 0 ∧ CWd lw I' ∧ IMQ i I A x I' A' ∧ va_P D vwCl (wd cy M lw I' A') t.heap ∧ va_D (va_A (wd cy L lv I A) sz) (wd cy M lw I' A')) ∧ va_F (va_A (wd cy L lv I A) sz) st t
set_option maxHeartbeats 8000000 in
set_option maxRecDepth 100000 in
theorem c_image {l : Launch} {D : va_G} {cy : Nat → ClassId} {L : Nat → Nat} {lv : List Nat} {sz : Nat} {i : Int} {I A : FN} (hc : CWd lv I) (hI : okF I) (hA : okF A) (hp : CI I A) (hi : inI i) : Met l yX9_image (.code yX9_image cX9_image 2 (some .boolean) :: W0) (rmD 5 (76, 8789)) (PcIm D cy L lv i I A sz) (QcIm D cy L lv i I A sz) 76 8789 (va_A (wd cy L lv I A) sz) := by
  refine Met.ofW (cc := cX9_image) (maxL := 2) (ret := some .boolean) (by decide) rfl ?_
  intro p e s m args below meth c s₁ B hml hv
  obtain ⟨rfl, ⟨hsz, hPP, hK, hD0⟩, hKA⟩ := hv
  subst hsz
  have hx := B.exec
  have hb := B.bytes
  have hr := B.returns
  have hts := atoms_spec (ws := .code yX9_image cX9_image 2 (some .boolean) :: W0) B.pre
  have hown : s.vm.findClass yX9_image.cls = some m.cls := findClass_of_methodNamed B.named
  have hlocks := B.notSynchronized
  have hDD := hD0.self (sz := s.heap.size)
  have hl := lv_entry [.ref (L 0), .int (oI i)] (n := 2) (by simp [lg_sl, Value.category])
  rw [lg_entry_eq]
  show W p l e (rmD 5 (76, 8789)) s m _ below meth c s.heap [] 0 0 _ (F0 m 0 _ [])
  generalize (lg_sl [.ref (L 0), .int (oI i)] ++ List.replicate (2 - (lg_sl [.ref (L 0), .int (oI i)]).length) Slot.unset).toArray = la at hl ⊢
  generalize ([.ref (L 0), .int (oI i)] : List Value).toArray = args at hts ⊢
  have hSz : ∀ q, s.heap.size ≤ q → va_A (wd cy L lv I A) s.heap.size q := fun q h => Or.inr h
  have rtx : ∀ (M : Nat → Nat) (lw : List Nat) (J : FN), M 0 = L 0 → CWd lw J → RtX (p, l, e, rmD 5 (76, 8789), s, m, args, below, meth, c, MQ below (QcIm D cy L lv i I A s.heap.size) args s 76 8789 (va_A (wd cy L lv I A) s.heap.size), D, cy, M, lw, va_A (wd cy L lv I A) s.heap.size, 2, J 77) cX9_image 2 (Q_X9_image [.inr (some (7, 0)), .inl i] I A) (76, 8789) := by
    intro M lw J hM hc
    refine ⟨fun q pc ls I' A' hq1 hq2 hd h0 hpost => ?_, fun q pc ls x I' A' hq1 hq2 hd h0 hpost => ?_⟩
    · cases h0
    · intro hI' hA' h77 hst hls H locs la' hP' hD' hS' hL'
      refine W.widen hq1 hq2 ?_
      have hx01 : x = 0 ∨ x = 1 := by
        rcases h0 with h0 | h0
        · omega
        · exact h0.2
      rw [Q_X9_image_c] at hpost
      exact W.zret (v := oI x) hx hb hr (by rcases hx01 with rfl | rfl <;> rfl) (fun t ht hW => ⟨⟨x, I', A', M, lw, rfl, hI', hA', hM, hc.eq h77, hpost, by rw [ht]; exact hP', hD'⟩, hS'.F ht⟩) hS'.2.2 hd
  have fx : ∀ (M : Nat → Nat) (lw : List Nat) (J : FN), CWd lw J → Fx (p, l, e, rmD 5 (76, 8789), s, m, args, below, meth, c, MQ below (QcIm D cy L lv i I A s.heap.size) args s 76 8789 (va_A (wd cy L lv I A) s.heap.size), D, cy, M, lw, va_A (wd cy L lv I A) s.heap.size, 2, J 77) RX9 cX9_image (.code yX9_image cX9_image 2 (some .boolean) :: W0) := fun M lw J hc => ⟨hx, hb, hml, hown, hts, hK, hSz, hc.1, hlocks, fun _ => hc.2.2.1⟩
  have tail : ∀ (M : Nat → Nat) (lw : List Nat) (J B : FN) (q : Nat × Nat), M 0 = L 0 → CWd lw J → CIx i I A J B → 0 ≤ i → i < 2 → q.1 ≤ 76 → q.2 ≤ 8789 → Go (p, l, e, rmD 5 (76, 8789), s, m, args, below, meth, c, MQ below (QcIm D cy L lv i I A s.heap.size) args s 76 8789 (va_A (wd cy L lv I A) s.heap.size), D, cy, M, lw, va_A (wd cy L lv I A) s.heap.size, 2, J 77) q 33 [some (.inr (some (7, 0))), some (.inl i)] [] J B := by
    intro M lw J B q hM hcw hcx h0 h2 hq1 hq2
    have hX := fx M lw J hcw
    have hR : RmX (p, l, e, rmD 5 (76, 8789), s, m, args, below, meth, c, MQ below (QcIm D cy L lv i I A s.heap.size) args s 76 8789 (va_A (wd cy L lv I A) s.heap.size), D, cy, M, lw, va_A (wd cy L lv I A) s.heap.size, 2, J 77) 5 (76, 8789) := rfl
    have hT := rtx M lw J hM hcw
    have hnz := hcx.2.2.2.2.2.2.2.1
    generalize (p, l, e, rmD 5 (76, 8789), s, m, args, below, meth, c, MQ below (QcIm D cy L lv i I A s.heap.size) args s 76 8789 (va_A (wd cy L lv I A) s.heap.size), D, cy, M, lw, va_A (wd cy L lv I A) s.heap.size, 2, J 77) = X at hX hR hT ⊢
    have E : Env0 X RX9 cX9_image _ flX9 lcX9 (lk ct_X9_image) _ 2 (76, 8789) := ⟨hX, flk_ok _ ftX9_ok, lcX9_ok, lk_ok _ (List.forall_mem_cons.mpr ⟨r_X9_318 hX hR (by decide), (fun _ h => absurd h List.not_mem_nil)⟩), hT⟩
    refine wp_sound E (wr := []) (cut := []) 400 _ _ _ _ _ _ ?_
    simp (maxSteps := 10000000) only [entL, List.map_cons, List.map_nil, List.length_cons, List.length_nil, Nat.reduceAdd, Nat.reduceSub, Nat.reduceDiv, Nat.reduceMod, Nat.reduceLeDiff, Nat.reduceEqDiff, List.replicate, List.append_nil, List.cons_append, List.nil_append, wp_u, List.elem_nil, List.elem_cons, Nat.reduceBEq, Bool.or_false, Bool.false_or, Bool.true_or, Bool.or_true, ↓reduceIte, Bool.false_eq_true, if_false, if_true, e_ok, f4_0, f4_1, f4_2, f4_3, lgetK, lputK, isI_c, isR_c, popR_c, popI_c, popV_c, fget_0, fget_1, fget_2, fput_0, fput_2, true_and, and_true, rtOk_1, rtOk_2, cmpP, spl, arI_t, arI_f, dvI_t, dvI_f, rmI_t, rmI_f, al0_e, Nat.add_zero, Nat.zero_add, Nat.le_refl, and_imp, ne_eq, Option.some.injEq, swc, swOk, reduceCtorEq, false_or, or_false, Nat.zero_le, Classical.not_not, gt_iff_lt, ge_iff_le, forall_eq, bI_e0, bI_e1, bI_0e, bI_1e, bI_01, bI_lo, bI_hi, true_implies, forall_const, or_true, true_or, not_true_eq_false, not_false_eq_true, Int.reduceLE, Int.reduceNeg, false_implies, implies_true, Int.toNat_zero, up2_ud, up2_rn, ud_s, ud_n, dX9_image_0, dX9_image_1, (show tg 1 8 = 9 from rfl), (eq_true (by decide) : (0 ≤ ((1 : Nat) : Int) + 8) = True), dX9_image_4, dX9_image_5, dX9_image_6, (show tg 6 5 = 11 from rfl), (eq_true (by decide) : (0 ≤ ((6 : Nat) : Int) + 5) = True), dX9_image_9, dX9_image_10, dX9_image_11, dX9_image_12, dX9_image_15, dX9_image_16, dX9_image_17, (show tg 17 16 = 33 from rfl), (eq_true (by decide) : (0 ≤ ((17 : Nat) : Int) + 16) = True), dX9_image_20, dX9_image_21, dX9_image_24, dX9_image_25, dX9_image_28, dX9_image_29, dX9_image_32, dX9_image_33, dX9_image_34, dX9_image_37, dX9_image_38, dX9_image_39, dX9_image_40, dX9_image_43, dX9_image_46, dX9_image_47, dX9_image_50, dX9_image_51, dX9_image_52, dX9_image_53, dX9_image_54, e_aaload, e_aload_n, e_bastore, e_getfield, e_iconst, e_ifCond, e_if_icmp, e_ifnonnull, e_iload_n, e_invokevirtual, e_ireturn, fX9_12_7, fX9_16_7, fX9_20_7, cal_f (show lk ct_X9_image 318 = some (0, 2, false, P_X3_copy, Q_X3_copy, al0) from rfl), P_X3_copy_c, Q_X3_copy_c, Q_X9_image_c, false_and, false_or, or_false]
    clear E hT hR hX
    (repeat' first | (with_reducible intro _) | (with_reducible refine And.intro ?_ ?_))
    all_goals first | with_reducible assumption | omega | (with_reducible rfl) | (exact hcx.1) | (exact IMQ_of hcx h0 h2 (by assumption)) | (exact Or.inl rfl) | (exact Or.inr rfl) | grind | skip
  have mk : 0 ≤ i → i < 2 → I 77 i.toNat = 0 → Go (p, l, e, rmD 5 (76, 8789), s, m, args, below, meth, c, MQ below (QcIm D cy L lv i I A s.heap.size) args s 76 8789 (va_A (wd cy L lv I A) s.heap.size), D, cy, L, lv, va_A (wd cy L lv I A) s.heap.size, 2, I 77) (0, 0) 20 [some (.inr (some (7, 0))), some (.inl i)] [] I A := by
    intro h0 h2 hz hI hA hg hst hls H locs la hP hD hS hL
    have hk : i.toNat < 2 := by omega
    have CF : CallFix p m c cX9_image 2 s args (.code yX9_image cX9_image 2 (some .boolean) :: W0) RX9 := ⟨hx, hb, hml, hown, hts⟩
    have hla : la.size = 2 := by
      obtain ⟨-, lv0, hl1, -⟩ := hL
      exact hl1.1
    refine lv_aload_n hx hb dX9_image_20 rfl (hL.get (i := 0) rfl) ?_
    refine w_get CF hK hP (idx := 16) (k := 7) (j := 1) (r := 0) (v := .ref (L 77)) (ftX9_ok (16, 7, 1, 1, 50002, 77) (by decide)).1 (hc.2.1 0 (by omega)) rfl rfl dX9_image_21 ?_
    refine lv_iload_n hx hb dX9_image_24 rfl (hL.get (i := 1) rfl) ?_
    refine w_new CF hK hP hD hS hSz (C := RX3) (T := TX3) (N := 3) (ci := 1) rfl infX3 tyX3 tyX3_ok (List.mem_cons_of_mem _ (mW5 (List.mem_of_getElem? (i := 29) rfl))) (List.mem_cons_of_mem _ (mW5 (List.mem_of_getElem? (i := 30) rfl))) (List.mem_cons_of_mem _ (mW0 (List.mem_of_getElem? (i := 38) rfl))) (fs := [.null, .null, .int 0]) (by decide +kernel) (Nat.le_of_ble_eq_true rfl) (Nat.le_of_ble_eq_true rfl) dX9_image_25 dX9_image_28 ?_
    intro q H1 hP1 hD1 hS1
    have hrk : rkp (97 + 76 * i.toNat) pX3 := by
      rcases (show i.toNat = 0 ∨ i.toNat = 1 by omega) with z | z
      · rw [z]
        unfold rkp
        decide +kernel
      · rw [z]
        unfold rkp
        decide +kernel
    refine w_ctorI (i_X3 (r := 97 + 76 * i.toNat) hrk) (by decide) (by decide) CF hK hKA (mW1 (List.mem_of_getElem? (i := 41) rfl)) (mW0 (List.mem_of_getElem? (i := 38) rfl)) (mW5 (List.mem_of_getElem? (i := 47) rfl)) (mW5 (List.mem_of_getElem? (i := 48) rfl)) rfl (n := 0) (by decide +kernel) rfl hla (by simp [Value.category]) hP1 hD1 hS1 hSz ⟨Nat.le_of_ble_eq_true rfl, Nat.le_of_ble_eq_true rfl⟩ dX9_image_29 ?_
    intro Lg H2 locs2 hq hP2 hD2 hS2
    subst hq
    obtain ⟨q0, hq0, hq1⟩ := wd_mem (cy := cy) (L := L) (I := I) (A := A) (hc.2.1 77 (by omega))
    have hlen : (wd cy L lv I A).length = lv.length := by simp [wd]
    have hq2 : (wd cy L lv I A ++ BD cy Lg (97 + 76 * i.toNat) 76)[q0]? = some (L 77, .inl (cy 5, 2, .inr (.inr (.inr (.inr (fun i => if I 77 i = 0 then none else some (L (77 + 20 + 76 * i)))))))) := by
      rw [List.getElem?_append_left (by rw [hlen]; exact (List.getElem?_eq_some_iff.mp hq0).1), hq1, show ce cy L I A 77 = .inl (cy 5, 2, .inr (.inr (.inr (.inr (fun i => if I 77 i = 0 then none else some (L (77 + 20 + 76 * i))))))) from by simp [ce, show rk 77 = 50002 from rfl]]
    have hv : (wd cy L lv I A ++ BD cy Lg (97 + 76 * i.toNat) 76)[lv.length + 0]? = some (Lg (97 + 76 * i.toNat + 0), ce cy Lg Z0 Z0 (97 + 76 * i.toNat + 0)) := by
      rw [List.getElem?_append_right (by rw [hlen]; omega), hlen, show lv.length + 0 - lv.length = 0 by omega]
      exact BD_get (by omega)
    rw [ce_obj (k := 1) (show rk (97 + 76 * i.toNat + 0) = 1 from hrk 0 (by decide)) (by decide)] at hv
    refine va_astq hx hb hK.1 hP2 hD2 hS2 q0 4 (lv.length + 0) 1 (r := (RX3, TX3, 3)) hq2 rfl hv rfl (oI_vp hi h0 h2) dX9_image_32 ?_
    intro H3 locs3 hP3 hD3 hS3
    rw [oI_cl hi] at hP3 hD3
    have gr := wd_grow hc hk hz hq0 hD2 hP3
    have hcn := CWd_n hc hk hz
    have hM0 : Lm L Lg (97 + 76 * i.toNat) 0 = L 0 := by
      unfold Lm
      rw [if_neg (by omega)]
    have tl := tail (Lm L Lg (97 + 76 * i.toNat)) (lv ++ rl (97 + 76 * i.toNat) 76) _ _ (76, 8789) hM0 hcn (CIx_n hp h0 h2) h0 h2 (Nat.le_refl _) (Nat.le_refl _)
    refine tl (Im2_ok hI) (Am2_ok hA) rfl (fun v hv => absurd hv List.not_mem_nil) (fun v hv => ?_) H3 locs3 la gr.1 gr.2 hS3 ⟨rfl, ?_⟩
    · rcases List.mem_cons.mp hv with z | z
      · cases z
        exact ⟨List.mem_append_left _ (hc.2.1 0 (by omega)), rfl⟩
      · rcases List.mem_cons.mp z with z | z
        · cases z
          exact hi
        · exact absurd z List.not_mem_nil
    · obtain ⟨-, lv0, hl1, hl2⟩ := hL
      refine ⟨lv0, hl1, fun n v hn => ?_⟩
      match n, hn with
      | 0, hn =>
        cases hn
        have := hl2 0 _ rfl
        show (0, Value.ref (Lm L Lg (97 + 76 * i.toNat) 0)) ∈ lv0
        rw [hM0]
        exact this
      | 1, hn =>
        cases hn
        exact hl2 1 _ rfl
      | n + 2, hn => exact absurd hn (by cases n <;> simp [lget])
  have hX := fx L lv I hc
  have hT := rtx L lv I rfl hc
  have tl := fun hz h0 h2 => tail L lv I A (0, 0) rfl hc (CIx_0 hp hz) h0 h2 (Nat.zero_le _) (Nat.zero_le _)
  have hgo : Go (p, l, e, rmD 5 (76, 8789), s, m, args, below, meth, c, MQ below (QcIm D cy L lv i I A s.heap.size) args s 76 8789 (va_A (wd cy L lv I A) s.heap.size), D, cy, L, lv, va_A (wd cy L lv I A) s.heap.size, 2, I 77) (0, 0) 0 [some (.inr (some (7, 0))), some (.inl i)] [] I A := by
    have hR : RmX (p, l, e, rmD 5 (76, 8789), s, m, args, below, meth, c, MQ below (QcIm D cy L lv i I A s.heap.size) args s 76 8789 (va_A (wd cy L lv I A) s.heap.size), D, cy, L, lv, va_A (wd cy L lv I A) s.heap.size, 2, I 77) 5 (76, 8789) := rfl
    generalize (p, l, e, rmD 5 (76, 8789), s, m, args, below, meth, c, MQ below (QcIm D cy L lv i I A s.heap.size) args s 76 8789 (va_A (wd cy L lv I A) s.heap.size), D, cy, L, lv, va_A (wd cy L lv I A) s.heap.size, 2, I 77) = X at hX hR hT tl mk ⊢
    have E : Env0 X RX9 cX9_image _ flX9 lcX9 (lk ct_X9_image) _ 2 (76, 8789) := ⟨hX, flk_ok _ ftX9_ok, lcX9_ok, lk_ok _ (List.forall_mem_cons.mpr ⟨r_X9_318 hX hR (by decide), (fun _ h => absurd h List.not_mem_nil)⟩), hT⟩
    refine wp_sound E (wr := []) (cut := [20, 33]) 400 _ _ _ _ _ _ ?_
    simp (maxSteps := 10000000) only [entL, List.map_cons, List.map_nil, List.length_cons, List.length_nil, Nat.reduceAdd, Nat.reduceSub, Nat.reduceDiv, Nat.reduceMod, Nat.reduceLeDiff, Nat.reduceEqDiff, List.replicate, List.append_nil, List.cons_append, List.nil_append, wp_u, List.elem_nil, List.elem_cons, Nat.reduceBEq, Bool.or_false, Bool.false_or, Bool.true_or, Bool.or_true, ↓reduceIte, Bool.false_eq_true, if_false, if_true, e_ok, f4_0, f4_1, f4_2, f4_3, lgetK, lputK, isI_c, isR_c, popR_c, popI_c, popV_c, fget_0, fget_1, fget_2, fput_0, fput_2, true_and, and_true, rtOk_1, rtOk_2, cmpP, spl, arI_t, arI_f, dvI_t, dvI_f, rmI_t, rmI_f, al0_e, Nat.add_zero, Nat.zero_add, Nat.le_refl, and_imp, ne_eq, Option.some.injEq, swc, swOk, reduceCtorEq, false_or, or_false, Nat.zero_le, Classical.not_not, gt_iff_lt, ge_iff_le, forall_eq, bI_e0, bI_e1, bI_0e, bI_1e, bI_01, bI_lo, bI_hi, true_implies, forall_const, or_true, true_or, not_true_eq_false, not_false_eq_true, Int.reduceLE, Int.reduceNeg, false_implies, implies_true, Int.toNat_zero, up2_ud, up2_rn, ud_s, ud_n, dX9_image_0, dX9_image_1, (show tg 1 8 = 9 from rfl), (eq_true (by decide) : (0 ≤ ((1 : Nat) : Int) + 8) = True), dX9_image_4, dX9_image_5, dX9_image_6, (show tg 6 5 = 11 from rfl), (eq_true (by decide) : (0 ≤ ((6 : Nat) : Int) + 5) = True), dX9_image_9, dX9_image_10, dX9_image_11, dX9_image_12, dX9_image_15, dX9_image_16, dX9_image_17, (show tg 17 16 = 33 from rfl), (eq_true (by decide) : (0 ≤ ((17 : Nat) : Int) + 16) = True), dX9_image_20, dX9_image_21, dX9_image_24, dX9_image_25, dX9_image_28, dX9_image_29, dX9_image_32, dX9_image_33, dX9_image_34, dX9_image_37, dX9_image_38, dX9_image_39, dX9_image_40, dX9_image_43, dX9_image_46, dX9_image_47, dX9_image_50, dX9_image_51, dX9_image_52, dX9_image_53, dX9_image_54, e_aaload, e_aload_n, e_bastore, e_getfield, e_iconst, e_ifCond, e_if_icmp, e_ifnonnull, e_iload_n, e_invokevirtual, e_ireturn, fX9_12_7, fX9_16_7, fX9_20_7, cal_f (show lk ct_X9_image 318 = some (0, 2, false, P_X3_copy, Q_X3_copy, al0) from rfl), P_X3_copy_c, Q_X3_copy_c, Q_X9_image_c, false_and, false_or, or_false]
    clear E hT hR hX
    (repeat' first | (with_reducible intro _) | (with_reducible refine And.intro ?_ ?_) | (with_reducible refine mk ?_ ?_ ?_) | (with_reducible refine tl ?_ ?_ ?_))
    all_goals first | with_reducible assumption | omega | (with_reducible rfl) | (exact IMQ_no hp (by omega)) | (exact Or.inl rfl) | (exact Or.inr rfl) | grind | skip
  refine hgo hI hA rfl (fun v hv => absurd hv List.not_mem_nil) (fun v hv => ?_) s.heap [] la hPP hDD va_S.rf ⟨rfl, _, hl, fun n v hn => ?_⟩
  · rcases List.mem_cons.mp hv with z | z
    · cases z
      exact ⟨hc.2.1 0 (by omega), rfl⟩
    · rcases List.mem_cons.mp z with z | z
      · cases z
        exact hi
      · exact absurd z List.not_mem_nil
  · match n, hn with
    | 0, hn =>
      cases hn
      exact List.mem_cons_self
    | 1, hn =>
      cases hn
      exact List.mem_cons_of_mem _ List.mem_cons_self
    | n + 2, hn => exact absurd hn (by cases n <;> simp [lget])
