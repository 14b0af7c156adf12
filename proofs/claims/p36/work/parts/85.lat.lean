/-! ===== the law's at ===== -/
def ow (ao : Nat) (cL : ClassId) (g : Nat → Int64) : va_W := [(ao, .inl (cL, 1, .inr (.inl g)))]
def PcL (T : Nat × Nat) (D : va_G) (cy : Nat → ClassId) (L : Nat → Nat) (lv : List Nat) (ao : Nat) (cL : ClassId) (g : Nat → Int64) (s0 i0 w0 : Int) (I A : FN) (sz : Nat) : Array Value → State → Prop := va_Pc [.ref (L 0), .int (oI s0), .int (oI i0), .int (oI w0), .ref ao] (fun U => (U.heap.size = sz ∧ va_P D vwCl (apw (wd cy L lv I A) (ow ao cL g)) U.heap ∧ KK D cy U ∧ va_K D vwCl (tysOf cy ++ [(cL, .long)]) U ∧ va_D (fun _ => True) (apw (wd cy L lv I A) (ow ao cL g))) ∧ KE T (va_A (apw (wd cy L lv I A) (ow ao cL g)) sz) U U.heap)
def QcL (D : va_G) (cy : Nat → ClassId) (L : Nat → Nat) (lv : List Nat) (ao : Nat) (cL : ClassId) (g : Nat → Int64) (I A : FN) (sz : Nat) : Array Value → State → Outcome → State → Prop := fun _ st oc t => (∃ (x : Int) (I' A' : FN) (g' : Nat → Int64), oc = .returned (some (.int (oI x))) ∧ okF I' ∧ okF A' ∧ I' 77 = I 77 ∧ CQ I A I' A' ∧ va_P D vwCl (apw (wd cy L lv I' A') (ow ao cL g')) t.heap) ∧ va_F (va_A (apw (wd cy L lv I A) (ow ao cL g)) sz) st t
theorem PcL_blind {T : Nat × Nat} {D : va_G} {cy : Nat → ClassId} {L : Nat → Nat} {lv : List Nat} {ao : Nat} {cL : ClassId} {g : Nat → Int64} {s0 i0 w0 : Int} {I A : FN} {sz : Nat} : FrameBlind (PcL T D cy L lv ao cL g s0 i0 w0 I A sz) := fun a U f mk h => by
  obtain ⟨h1, ⟨h2, h3, h4, h5, h6⟩, h7⟩ := h
  have h8 : KE T (va_A (apw (wd cy L lv I A) (ow ao cL g)) sz) (U.calling f mk a) U.heap := KE.vm (s := U) rfl h7
  exact ⟨h1, ⟨h2, h3, KK.vm (s := U) (U := U.calling f mk a) rfl h4, va_K.moved (U := U.calling f mk a) (Vm.Alike.refl _) h5, h6⟩, h8⟩
def WXL : List Jvm.Cond := .code yX9_at cX9_at 6 (some .int) :: .classLink RL 13 "java/util/NoSuchElementException" :: WX
theorem app_ix {w : va_W} {ao : Nat} {e : va_E} : (w ++ [(ao, e)])[w.length]? = some (ao, e) := by
  rw [List.getElem?_append_right (Nat.le_refl _), Nat.sub_self]
  rfl
theorem set_app {w : va_W} {x y : Nat × va_E} : (w ++ [x]).set w.length y = w ++ [y] := by
  rw [List.set_append_right _ _ (Nat.le_refl _), Nat.sub_self]
  rfl
theorem gdXL {c0 : Jvm.Cond} : GoodIn (c0 :: WXL) (wsV RL 7 RX9 yX9_at (.code yX9_at cX9_at 6 (some .int) :: WX)) := by
  have hW : ∀ w ∈ W0, w ∈ c0 :: WXL := fun w h => List.mem_cons_of_mem _ (List.mem_cons_of_mem _ (List.mem_cons_of_mem _ (List.mem_append_left _ h)))
  have hE : ∀ w ∈ exL.filter goodWord, goodWord w = true := fun w h => (List.mem_filter.mp h).2
  have g0 : ∀ w ∈ W0, w ∈ c0 :: WXL ∧ ((w.onTables && w.keeps) = true ∨ ∃ ty, w = .arrayClass ty) := fun w h => ⟨hW w h, gW_in h⟩
  intro w hw
  unfold wsV at hw
  rcases List.mem_append.mp hw with h | h
  · simp only [List.mem_cons, List.not_mem_nil, or_false] at h
    rcases h with rfl | rfl | rfl | rfl
    · exact g0 _ (mW15 (List.mem_of_getElem? (i := 63) rfl))
    · exact g0 _ (mW16 (List.mem_of_getElem? (i := 0) rfl))
    · exact g0 _ (mW16 (List.mem_of_getElem? (i := 1) rfl))
    · exact g0 _ (mW0 (List.mem_of_getElem? (i := 24) rfl))
  · rcases List.mem_cons.mp h with rfl | h
    · exact g0 _ (mW7 (List.mem_of_getElem? (i := 55) rfl))
    · rcases List.mem_append.mp h with h | h
      · exact g0 w h
      · exact ⟨List.mem_cons_of_mem _ (List.mem_cons_of_mem _ (List.mem_cons_of_mem _ (List.mem_append_right _ h))), good_of_word (hE w h)⟩
set_option maxHeartbeats 8000000 in
set_option maxRecDepth 100000 in
theorem c_Lat {l : Launch} (hfl : l.stackTraces = false) {T : Nat × Nat} {D : va_G} {cy : Nat → ClassId} {L : Nat → Nat} {lv : List Nat} {ao : Nat} {cL : ClassId} {g : Nat → Int64} {s0 i0 w0 : Int} {I A : FN} {sz : Nat} (hc : CWd lv I) (hI : okF I) (hA : okF A) (hp : CI I A) (hs0 : inI s0) (hi0 : inI i0) (hw0 : inI w0) :
    Met l yL_at (.codeWith yL_at cL_at 6 (some .int) [(0, 12, 15, 13)] :: WXL) (rmD 8 (1, 6)) (PcL T D cy L lv ao cL g s0 i0 w0 I A sz) (QcL D cy L lv ao cL g I A sz) 1 6 (va_A (apw (wd cy L lv I A) (ow ao cL g)) sz) := by
  refine va_MetW (cc := cL_at) (maxL := 6) (ret := some .int) (by decide) rfl ?_
  intro p e s m args below meth c s₁ B hml hv
  obtain ⟨rfl, ⟨hsz, hPP, hK, hKL, hD0⟩, hKE⟩ := hv
  subst hsz
  have hx := B.exec
  have hb := B.bytes
  have hr := B.returns
  have hts := atoms_spec (ws := .codeWith yL_at cL_at 6 (some .int) [(0, 12, 15, 13)] :: WXL) B.pre
  have htab := vx_table (x := yL_at) B (hts _ List.mem_cons_self)
  have hown : s.vm.findClass RL = some m.cls := findClass_of_methodNamed B.named
  have hlocks := B.notSynchronized
  have hD := hD0.self (sz := s.heap.size)
  have hSz : ∀ q, s.heap.size ≤ q → va_A (apw (wd cy L lv I A) (ow ao cL g)) s.heap.size q := fun q h => Or.inr h
  generalize hSe : va_A (apw (wd cy L lv I A) (ow ao cL g)) s.heap.size = S at hD hSz hKE ⊢
  have hS : va_S S s.heap s.heap [] := va_S.rf
  have hl := lv_entry [.ref (L 0), .int (oI s0), .int (oI i0), .int (oI w0), .ref ao] (n := 6) (by simp [lg_sl, Value.category])
  rw [lg_entry_eq]
  show W p l e (rmD 8 (1, 6)) s m _ below meth c s.heap [] 0 0 _ (F0 m 0 _ [])
  generalize (lg_sl [.ref (L 0), .int (oI s0), .int (oI i0), .int (oI w0), .ref ao] ++ List.replicate (6 - (lg_sl [.ref (L 0), .int (oI s0), .int (oI i0), .int (oI w0), .ref ao]).length) Slot.unset).toArray = la at hl ⊢
  replace hl : lv_has la 6 [(0, .ref (L 0)), (1, .int (oI s0)), (2, .int (oI i0)), (3, .int (oI w0)), (4, .ref ao)] := hl
  have hP1 : va_P D vwCl (wd cy L lv I A) s.heap := P_pre hPP
  have hP2 : va_P D vwCl (ow ao cL g) s.heap := P_suf hPP
  have hD1 : va_D S (wd cy L lv I A) := D_pre hD
  have hSao : S ao := hD.2 _ _ app_ix
  have hap : apt L lv (ow ao cL g) := apt_1 (fun r hr he => by
    obtain ⟨q0, hq0, hq⟩ := wd_mem (cy := cy) (L := L) (I := I) (A := A) hr
    have hlt := (List.getElem?_eq_some_iff.mp hq).1
    have := hD.1 q0 (wd cy L lv I A).length _ _ (by unfold apw; rw [List.getElem?_append_left hlt]; exact hq) app_ix he.symm
    omega)
  have h00 : 0 ∈ lv := hc.2.1 0 (by omega)
  refine lv_aload hx hb dL_at_0 (lv_at hl 4 rfl) ?_
  refine lv_iconst hx hb dL_at_2 (v := 0) rfl ?_
  refine lv_aload_n hx hb dL_at_3 rfl (lv_at hl 0 rfl) ?_
  refine lv_iload_n hx hb dL_at_4 rfl (lv_at hl 1 rfl) ?_
  refine lv_iload_n hx hb dL_at_5 rfl (lv_at hl 2 rfl) ?_
  refine lv_iload_n hx hb dL_at_6 rfl (lv_at hl 3 rfl) ?_
  have hfree : ∀ z, va_A (wd cy L lv I A) s.heap.size z → S z := free_wd hD1 hS hSz
  have hMet := c_at (l := l) hfl (T := T) (D := D) (cy := cy) (L := L) (sz := s.heap.size) hc.1 hI hA (fun _ => hc.2.2.1) h00 hp hs0 hi0 hw0
  obtain ⟨q0, -, hq⟩ := wd_mem (cy := cy) (L := L) (I := I) (A := A) h00
  rw [ce_obj (k := 7) rfl (by decide)] at hq
  have cw := cwV (R := rmD 8 (1, 6)) (own := RL) (index := 7) (C := RX9) (y := yX9_at) (bytes := cX9_at) (maxL := 6) (ret := some .int) (rm := rmD 7 (1, 6)) (mc := 1) (ms := 6) 3 hts gdXL rfl rfl rfl ⟨rfl, by decide +kernel⟩ ⟨by decide, by decide⟩
  have hrun := vx_runV (g := F0 m 7 la [.int (oI w0), .int (oI i0), .int (oI s0), .ref (L 0), .int 0, .ref ao]) (locs := []) (H := s.heap) (b := L 0) (As := [.int (oI s0), .int (oI i0), .int (oI w0)]) (rest := [.int 0, .ref ao]) (p := p) (e := e) (below := below) (meth := meth) (cells := 0) (slots := 0) ⟨hx, hb, hml, hown, hts⟩ hMet cw
    ⟨PcA_blind, va_recv hK.1 hP1 (ci := 7) rfl hq, fun U hU hW => ⟨rfl, ⟨by rw [hU], by rw [hU]; exact hP1, KK.warm hW hK, wd_D (hD1.weaken (fun _ _ _ _ => trivial))⟩, by rw [hU]; exact (hKE.narrow hfree).warm hW⟩⟩ rfl rfl hl.1 rfl (lv_room (by simp [Value.category])) dL_at_7 ⟨by decide, by decide⟩
  intro T0 hT Xs
  rcases hrun T0 hT Xs with ⟨v, st₀, t, T', Lc', h0, X', hL', e1, e2, ⟨⟨r, I', A', hv, hrv, hin, hI', hA', h77, hQ, hP'⟩, hz, hk⟩, stp⟩ | ⟨q9, st₀, t, T', Lc', E, ce9, h0, X', hL', e1, e2, ⟨hE, ⟨I', A', hI', hA', h77, hcq, hP'⟩, hz, hk⟩, hce, hcv, hcl, stp⟩
  · cases hv
    rw [h0] at hz hk
    cases r with
    | none => cases hrv
    | some x =>
      rw [Q_X9_at_c] at hQ
      have hPo : va_P D vwCl (ow ao cL g) T'.heap := by rw [e1]; exact keep2 hP2 hap hk
      have hPn : va_P D vwCl (apw (wd cy L lv I' A') (ow ao cL g)) T'.heap := va_P.app (by rw [e1]; exact hP') hPo
      have hDn : va_D S (apw (wd cy L lv I' A') (ow ao cL g)) := va_D.app (wd_D hD1) (D_1 hSao) (fun i j x z hx hz he => by
        obtain ⟨r, hr, e3⟩ := wd_ix hx
        exact hap j z hz r hr (by rw [← he]; exact e3))
      have hSn : va_S S s.heap T'.heap ([] ++ Lc') := run_S (st₀ := st₀) hfree hS e1 hz hk hL'
      have goal : W p l e (rmD 8 (1, 6)) s m (([.ref (L 0), .int (oI s0), .int (oI i0), .int (oI w0), .ref ao] : List Value).toArray) below meth c T'.heap ([] ++ Lc') 1 6 (MQ below (QcL D cy L lv ao cL g I A s.heap.size) (([.ref (L 0), .int (oI s0), .int (oI i0), .int (oI w0), .ref ao] : List Value).toArray) s 1 6 S) (F0 m 10 la [.int (oI x), .int 0, .ref ao]) := by
        refine lv_i2l hx hb dL_at_10 rfl ?_
        refine va_last hx hb hKL hPn hDn hSn (wd cy L lv I' A').length 5 app_ix rfl (vp_in_iff.mpr (by decide)) dL_at_11 ?_
        intro H1 locs1 hP3 hD3 hS3
        have hP4 : va_P D vwCl (apw (wd cy L lv I' A') (ow ao cL (vp_updL g 0 (oI x).toInt64))) H1 := by
          have z := hP3
          unfold apw ow at z
          rw [set_app] at z
          exact z
        refine lv_goto hx hb (tgt := 19) dL_at_12 rfl ?_
        refine lv_iconst hx hb dL_at_19 (v := oI 0) rfl ?_
        subst hSe
        exact W.iret (v := oI 0) hx hb hr (fun t ht hW => ⟨⟨0, I', A', _, rfl, hI', hA', h77, hQ, by rw [ht]; exact hP4⟩, hS3.F ht⟩) hS3.2.2 dL_at_20
      obtain ⟨t2, a1, b1⟩ := goal T' rfl X'
      exact ⟨t2, stp t2 a1, b1⟩
  · rw [h0] at hz hk
    have hPo : va_P D vwCl (ow ao cL g) T'.heap := by rw [e1]; exact keep2 hP2 hap hk
    have hPn : va_P D vwCl (apw (wd cy L lv I' A') (ow ao cL g)) T'.heap := va_P.app (by rw [e1]; exact hP') hPo
    have hSn : va_S S s.heap T'.heap ([] ++ Lc') := run_S (st₀ := st₀) hfree hS e1 hz hk hL'
    have goal : vx_W p l e (rmD 8 (1, 6)) s m (([.ref (L 0), .int (oI s0), .int (oI i0), .int (oI w0), .ref ao] : List Value).toArray) below meth c T'.heap ([] ++ Lc') 1 6 (MQ below (QcL D cy L lv ao cL g I A s.heap.size) (([.ref (L 0), .int (oI s0), .int (oI i0), .int (oI w0), .ref ao] : List Value).toArray) s 1 6 S) (F0 m 7 la [.int 0, .ref ao]) q9 := by
      subst hE
      refine vx_catch (own := RL) (name := "java/util/NoSuchElementException") hown [] ⟨0, 12, 15, 13⟩ [] (by rw [htab]; rfl) (fun z hz => absurd hz List.not_mem_nil) (by decide) (by decide) (hts _ (List.mem_cons_of_mem _ (List.mem_cons_of_mem _ List.mem_cons_self))) (va_Nw.use rfl (hKE.2.2 _ (by simp [exB]))) (by rw [e1]; exact hce) hcv hcl ?_
      refine lv_astore hx hb dL_at_15 hl (by decide) rfl ?_
      intro la2 hl2
      refine lv_iconst hx hb dL_at_17 (v := oI 1) rfl ?_
      subst hSe
      exact W.iret (v := oI 1) hx hb hr (fun t ht hW => ⟨⟨1, I', A', g, rfl, hI', hA', h77, hcq, by rw [ht]; exact hPn⟩, hSn.F ht⟩) hSn.2.2 dL_at_18
    obtain ⟨t2, a1, b1⟩ := goal T' rfl X'
    exact ⟨t2, stp.trans a1, b1⟩
