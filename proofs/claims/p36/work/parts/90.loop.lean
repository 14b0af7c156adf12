/-! ===== the law's loop ===== -/
theorem D_suf {S : Nat → Prop} {w1 w2 : va_W} (h : va_D S (w1 ++ w2)) : va_D S w2 := by
  have ix : ∀ k (q : Nat × va_E), w2[k]? = some q → (w1 ++ w2)[w1.length + k]? = some q := fun k q hq => by rw [List.getElem?_append_right (by omega), show w1.length + k - w1.length = k by omega]; exact hq
  refine ⟨fun i j p q hi hj he => ?_, fun k q hq => h.2 _ q (ix k q hq)⟩
  have := h.1 _ _ p q (ix i p hi) (ix j q hj) he
  omega
theorem D_ap {S : Nat → Prop} {w1 w2 : va_W} (h : va_D S (w1 ++ w2)) {i j : Nat} {p q : Nat × va_E} (hi : w1[i]? = some p) (hj : w2[j]? = some q) : p.1 ≠ q.1 := fun he => by
  have hl := (List.getElem?_eq_some_iff.mp hi).1
  have := h.1 i (w1.length + j) p q (by rw [List.getElem?_append_left hl]; exact hi) (by rw [List.getElem?_append_right (by omega), show w1.length + j - w1.length = j by omega]; exact hj) he
  omega
section LP
variable {p : Program} {l : Launch} {e : Env} {s : State} {m : MethodId} {args : Array Value} {below : List Frame} {meth : Method} {c : Code} {H : Heap} {locs : List Loc} {cells slots : Nat} {Qf : State → Prop} {D : va_G} {cy : Nat → ClassId} {S : Nat → Prop} {P0 : KP} {T : Nat × Nat} {b Lx : Nat} {xs : Nat → Int32} {cL : ClassId} {ao pc : Nat} {la : Array Slot} {rest : List Value} {L : Nat → Nat} {lv : List Nat} {I A : FN} {M : Nat → Nat} {J B : FN} {g : Nat → Int64}
theorem n_core {R : Room} {X : va_W} {st0 : List Value} {q ci mc ms r N : Nat} {fs : List Value} {a : Array Value} {PO : FN → FN → Prop}
    (hr : va_Run p l e R s m args below meth c H locs cells slots mc ms (F0 m pc la st0) rest (QcN D cy q ci fs r N H.size PO a) (va_A [(q, .inr (ci, fs))] H.size))
    (hP : va_P D vwCl (X ++ [(q, .inr (ci, fs))]) H) (hD : va_D S (X ++ [(q, .inr (ci, fs))])) (hS : va_S S s.heap H locs) (hSz : ∀ q, s.heap.size ≤ q → S q)
    (kk : ∀ (L : Nat → Nat) (I A : FN) (H1 : Heap) (locs1 : List Loc), L r = q → okF I → okF A → PO I A → va_P D vwCl (X ++ wd cy L (rl r N) I A) H1 → va_D S (X ++ wd cy L (rl r N) I A) → va_S S s.heap H1 locs1 → W p l e R s m args below meth c H1 locs1 (cells + mc) (slots + ms) Qf (F0 m (pc + 3) la rest)) : W p l e R s m args below meth c H locs cells slots Qf (F0 m pc la st0) := by
  have hq : (X ++ [(q, .inr (ci, fs))])[X.length]? = some (q, .inr (ci, fs)) := app_ix
  have hX : ∀ (k : Nat) (x : Nat × va_E), X[k]? = some x → (X ++ [(q, Sum.inr (ci, fs))])[k]? = some x := fun k x hx => by rw [List.getElem?_append_left (List.getElem?_eq_some_iff.mp hx).1]; exact hx
  have h1 : ∀ {k : Nat} {z : Nat × va_E}, [(q, Sum.inr (ci, fs))][k]? = some z → z.1 = q := by
    intro k z hz
    have h1 : k < 1 := (List.getElem?_eq_some_iff.mp hz).1
    rw [show k = 0 by omega] at hz
    cases hz
    rfl
  have hfree : ∀ z, va_A [(q, .inr (ci, fs))] H.size z → S z := fun z hz => by
    rcases hz with ⟨k, e1, hk⟩ | hz
    · have := h1 hk
      simp only at this
      rw [this]
      exact hD.2 _ _ hq
    · exact hSz z (Nat.le_trans hS.1 hz)
  have apart : ∀ (k : Nat) (x : Nat × va_E), X[k]? = some x → x.1 < H.size ∧ ¬ va_A [(q, .inr (ci, fs))] H.size x.1 := by
    intro k x hx
    have hl := (hP k x (hX k x hx)).lt
    refine ⟨hl, fun h => ?_⟩
    rcases h with ⟨k2, e1, hk⟩ | h
    · have h2 := h1 hk
      have h3 := hD.1 k X.length x _ (hX k x hx) hq h2
      have := (List.getElem?_eq_some_iff.mp hx).1
      omega
    · omega
  intro T0 hT Xs
  obtain ⟨v, st₀, t, T', Lc', h0, X', hL', e1, e2, ⟨⟨hv, L, I, A, hLr, hI, hA, hPO, hP', hD'⟩, hz, hk⟩, stp⟩ := hr T0 hT Xs
  cases hv
  rw [h0] at hz hk
  obtain ⟨t2, a1, b1⟩ := kk L I A T'.heap (locs ++ Lc') hLr hI hA hPO
    (va_P.app (fun k x hx => ((hP k x (hX k x hx)).kept (by rw [e1]; exact hk x.1 (apart k x hx).1 (apart k x hx).2))) (by rw [e1]; exact hP'))
    (va_D.app (D_pre hD) (hD'.weaken (fun _ z _ h => hfree z.1 h)) (fun i j x z hx hz h => (apart i x hx).2 (by rw [h]; exact hD'.2 j z hz)))
    (run_S (st₀ := st₀) hfree hS e1 hz hk hL') T' rfl X'
  exact ⟨t2, stp t2 a1, b1⟩
theorem w_ctorM {c0 : Jvm.Cond} {X : va_W} {d' idx maxL q ci r N mc ms : Nat} {y : MethodName} {yb : ByteArray} {fs : List Value} {PO : FN → FN → Prop} (hM : MetN y (.code y yb maxL none :: W0) d' ci fs r N mc ms PO) (hdd : d' ≤ 300) (hmx : maxL ≤ 21) (CF : CallFix p m c cL_law 7 s args (c0 :: W0) RL) (hK : KK D cy s) (hKA : KA s) (hcode : Jvm.Cond.code y yb maxL none ∈ W0) (hini : Jvm.Cond.initialized y.cls ∈ W0) (hlk : Jvm.Cond.methodLink RL idx y ∈ W0) (hins : Jvm.Cond.instanceMethod y ∈ W0) (hy1 : y.name = "<init>")
    (hy : y.cls ≠ "java/lang/invoke/MethodHandle" ∧ y.cls ≠ "java/lang/invoke/VarHandle" ∧ (parseMethodDescriptor y.desc).map (fun d => d.parameters.length) = some 0) (hla : la.size = 7) (hroom : (rest.map fun v => v.category).sum ≤ 8)
    (hP : va_P D vwCl (X ++ [(q, .inr (ci, fs))]) H) (hD : va_D S (X ++ [(q, .inr (ci, fs))])) (hS : va_S S s.heap H locs) (hSz : ∀ q, s.heap.size ≤ q → S q) (hc : cells + mc ≤ 601024 ∧ slots + ms ≤ 7293034) (hd : decode cL_law pc = .ok (.invokespecial idx, 3))
    (kk : ∀ (L : Nat → Nat) (I A : FN) (H1 : Heap) (locs1 : List Loc), L r = q → okF I → okF A → PO I A → va_P D vwCl (X ++ wd cy L (rl r N) I A) H1 → va_D S (X ++ wd cy L (rl r N) I A) → va_S S s.heap H1 locs1 → W p l e room_1 s m args below meth c H1 locs1 (cells + mc) (slots + ms) Qf (F0 m (pc + 3) la rest)) : W p l e room_1 s m args below meth c H locs cells slots Qf (F0 m pc la (.ref q :: rest)) := by
  have hG : GoodIn (c0 :: W0) (.code y yb maxL none :: W0) := gd0 (fun w hw => (List.mem_cons.mp hw).elim (fun e => e ▸ hcode) id)
  have cw := cwI (R := room_1) (own := RL) (index := idx) (y := y) (bytes := yb) (maxL := maxL) (rm := rmD d' (mc, ms)) (mc := mc) (ms := ms) 0 CF.2.2.2.2 hG rfl rfl rfl (CF.2.2.2.2 _ (List.mem_cons_of_mem _ hini)) (CF.2.2.2.2 _ (List.mem_cons_of_mem _ hlk)) (CF.2.2.2.2 _ (List.mem_cons_of_mem _ hins)) hy1 hy ⟨by show d' + 1 ≤ 2048; omega, by show 8 + (maxL + 11) + 40 * d' ≤ 84000; omega⟩
  have hrun := va_runI (g := F0 m pc la (.ref q :: rest)) (locs := locs) (H := H) (b := q) (As := []) (rest := rest) (p := p) (e := e) (below := below) (meth := meth) (cells := cells) (slots := slots) CF (hM l D cy q H.size) cw
    ⟨PcI_blind, fun U hU hW => ⟨rfl, by rw [hU], by rw [hU]; exact P_suf hP, KK.warm hW hK, hKA.moved hW.alike⟩⟩ rfl rfl hla rfl (lv_room hroom) hd ⟨hc.1, hc.2⟩
  exact n_core hrun hP hD hS hSz kk
set_option maxHeartbeats 4000000 in
set_option maxRecDepth 100000 in
theorem law_loop (hF : LFx p l s m args c D cy S P0 T b Lx xs cL) (hLx : Lx ≤ 3072) (fin : ∀ (cells slots : Nat) (H : Heap) (locs : List Loc) (la : Array Slot), cells ≤ 601024 → slots ≤ 7293034 → va_S S s.heap H locs → W p l e room_1 s m args below meth c H locs cells slots Qf (F0 m 1553 la [])) :
    ∀ (n k cells slots : Nat) (L : Nat → Nat) (lv : List Nat) (I A J B : FN) (g : Nat → Int64) (H : Heap) (locs : List Loc) (la : Array Slot), Lx < 6 * k + 6 * n → (6 * k ≤ Lx ∨ k = 0) → LH D cy S ao cL H L lv I A M J B g → CI I A → MI J B → REL I A J → va_S S s.heap H locs → lv_has la 7 [(4, .int (oI (6 * k))), (3, .ref ao), (2, .ref (M 300)), (1, .ref (L 0)), (0, .ref b)] → cells + 11 * (J 300 17).toNat ≤ 1000 + 700 * k → slots + 77 * (J 300 17).toNat ≤ 40000 + 14000 * k → W p l e room_1 s m args below meth c H locs cells slots Qf (F0 m 23 la []) := by
  intro n
  induction n with
  | zero => intro k cells slots L lv I A J B g H locs la h1 h2; omega
  | succ n ih =>
    intro k cells slots L lv I A J B g H locs la hn hk hH hC hMI hRel hS hl hc1 hc2
    have hF0 := hF
    obtain ⟨⟨hx, hb, hml, hown, hts⟩, -, -, -, ⟨hX, hbl, hbS⟩, -⟩ := hF0
    have e6 : Int32.ofNat Lx - oI 6 = oI ((Lx : Int) - 6) := (Int32.ofInt_sub (Lx : Int) 6).symm
    refine lv_iload hx hb dL_law_23 (lv_at hl 0 rfl) ?_
    refine lv_aload_n hx hb dL_law_25 rfl (lv_at hl 4 rfl) ?_
    refine va_slen hx hb hX hbl hbS hS dL_law_26 ?_
    refine lv_bipush hx hb dL_law_27 (v := oI 6) rfl ?_
    refine lv_isub hx hb dL_law_29 ?_
    rw [e6]
    refine lv_icmp_gt hx hb (tgt := 1553) dL_law_30 rfl (fun _ => fin _ _ _ _ _ (by omega) (by omega) hS) (fun hg => ?_)
    have h6 : (6 * k : Int) + 6 ≤ Lx := by
      rcases Int.lt_or_le ((Lx : Int) - 6) (6 * k) with h | h
      · exact absurd ((oI_lt ⟨by omega, by omega⟩ ⟨by omega, by omega⟩).mpr h) hg
      · omega
    refine lv_aload_n hx hb dL_law_33 rfl (lv_at hl 4 rfl) ?_
    refine lv_iload hx hb dL_law_34 (lv_at hl 0 rfl) ?_
    refine va_sld hx hb hX hbl hbS hS (vp_in_n (i := 6 * k) (N := Lx) (by omega) (by omega) (by omega)).1 dL_law_36 ?_
    refine lv_bipush hx hb dL_law_37 (v := 63) rfl ?_
    refine lv_iand hx hb dL_law_39 ?_
    generalize xs (oI (6 * k)).toNatClampNeg &&& 63 = v
    have next : ∀ (cells' slots' : Nat) (L' : Nat → Nat) (lv' : List Nat) (I' A' J' B' : FN) (g' : Nat → Int64) (H1 : Heap) (locs1 : List Loc) (la' : Array Slot), L' 0 = L 0 → LH D cy S ao cL H1 L' lv' I' A' M J' B' g' → CI I' A' → MI J' B' → REL I' A' J' → va_S S s.heap H1 locs1 → lv_has la' 7 [(4, .int (oI (6 * k))), (3, .ref ao), (2, .ref (M 300)), (1, .ref (L 0)), (0, .ref b)] → cells' + 11 * (J' 300 17).toNat ≤ cells + 11 * (J 300 17).toNat + 700 → slots' + 77 * (J' 300 17).toNat ≤ slots + 77 * (J 300 17).toNat + 14000 → W p l e room_1 s m args below meth c H1 locs1 cells' slots' Qf (F0 m 1547 la' []) := by
      intro cells' slots' L' lv' I' A' J' B' g' H1 locs1 la' hL0 hH1 hC1 hM1 hR1 hS1 hl1 hq1 hq2
      refine lv_iinc hx hb dL_law_1547 hl1 (k := 0) rfl (v := oI (6 * ((k + 1 : Nat) : Int))) ?_ (by decide) rfl ?_
      · rw [show Int32.ofInt 6 = oI 6 from rfl, oI_ad, show (6 * (k : Int) + 6) = 6 * ((k + 1 : Nat) : Int) by omega]
      · intro la2 hl2
        refine lv_goto hx hb (tgt := 23) dL_law_1550 rfl ?_
        refine ih (k + 1) cells' slots' L' lv' I' A' J' B' g' H1 locs1 la2 (by omega) (by omega) hH1 hC1 hM1 hR1 hS1 ?_ (by omega) (by omega)
        rw [hL0]
        exact hl2
    have hk512 : k ≤ 512 := by omega
    have hcc : cells ≤ 580000 ∧ slots ≤ 7230000 := ⟨by omega, by omega⟩
    have out : W p l e room_1 s m args below meth c H locs cells slots Qf (F0 m 1547 la []) := next cells slots L lv I A J B g H locs la rfl hH hC hMI hRel hS hl (by omega) (by omega)
    by_cases h1 : v.toInt < 0
    · exact lv_tableOut hx hb dL_law_40 (Or.inl h1) (tgt := 1547) rfl out
    by_cases h2 : 35 < v.toInt
    · exact lv_tableOut hx hb dL_law_40 (Or.inr h2) (tgt := 1547) rfl out
    have hv : v.toInt = ((v.toInt.toNat : Nat) : Int) := by omega
    have hlt : v.toInt.toNat < 36 := by omega
    generalize v.toInt.toNat = j at hv hlt
    match j, hlt with
    | 0, _ => exact lv_tableIn hx hb dL_law_40 h1 h2 (off := 160) (by rw [hv]; rfl) (tgt := 200) rfl (cs_200 hF hH hC hMI hRel hS hl (by omega) (by omega) hLx hcc next)
    | 1, _ => exact lv_tableIn hx hb dL_law_40 h1 h2 (off := 185) (by rw [hv]; rfl) (tgt := 225) rfl (cs_225 hF hH hC hMI hRel hS hl (by omega) (by omega) hLx hcc next)
    | 2, _ => exact lv_tableIn hx hb dL_law_40 h1 h2 (off := 234) (by rw [hv]; rfl) (tgt := 274) rfl (cs_274 hF hH hC hMI hRel hS hl (by omega) (by omega) hLx hcc next)
    | 3, _ => exact lv_tableIn hx hb dL_law_40 h1 h2 (off := 283) (by rw [hv]; rfl) (tgt := 323) rfl (cs_323 hF hH hC hMI hRel hS hl (by omega) (by omega) hLx hcc next)
    | 4, _ => exact lv_tableIn hx hb dL_law_40 h1 h2 (off := 320) (by rw [hv]; rfl) (tgt := 360) rfl (cs_360 hF hH hC hMI hRel hS hl (by omega) (by omega) hLx hcc next)
    | 5, _ => exact lv_tableIn hx hb dL_law_40 h1 h2 (off := 369) (by rw [hv]; rfl) (tgt := 409) rfl (cs_409 hF hH hC hMI hRel hS hl (by omega) (by omega) hLx hcc next)
    | 6, _ => exact lv_tableIn hx hb dL_law_40 h1 h2 (off := 394) (by rw [hv]; rfl) (tgt := 434) rfl (cs_434 hF hH hC hMI hRel hS hl (by omega) (by omega) hLx hcc next)
    | 7, _ => exact lv_tableIn hx hb dL_law_40 h1 h2 (off := 431) (by rw [hv]; rfl) (tgt := 471) rfl (cs_471 hF hH hC hMI hRel hS hl (by omega) (by omega) hLx hcc next)
    | 8, _ => exact lv_tableIn hx hb dL_law_40 h1 h2 (off := 468) (by rw [hv]; rfl) (tgt := 508) rfl (cs_508 hF hH hC hMI hRel hS hl (by omega) (by omega) hLx hcc next)
    | 9, _ => exact lv_tableIn hx hb dL_law_40 h1 h2 (off := 505) (by rw [hv]; rfl) (tgt := 545) rfl (cs_545 hF hH hC hMI hRel hS hl (by omega) (by omega) hLx hcc next)
    | 10, _ => exact lv_tableIn hx hb dL_law_40 h1 h2 (off := 542) (by rw [hv]; rfl) (tgt := 582) rfl (cs_582 hF hH hC hMI hRel hS hl (by omega) (by omega) hLx hcc next)
    | 11, _ => exact lv_tableIn hx hb dL_law_40 h1 h2 (off := 579) (by rw [hv]; rfl) (tgt := 619) rfl (cs_619 hF hH hC hMI hRel hS hl (by omega) (by omega) hLx hcc next)
    | 12, _ => exact lv_tableIn hx hb dL_law_40 h1 h2 (off := 616) (by rw [hv]; rfl) (tgt := 656) rfl (cs_656 hF hH hC hMI hRel hS hl (by omega) (by omega) hLx hcc next)
    | 13, _ => exact lv_tableIn hx hb dL_law_40 h1 h2 (off := 641) (by rw [hv]; rfl) (tgt := 681) rfl (cs_681 hF hH hC hMI hRel hS hl (by omega) (by omega) hLx hcc next)
    | 14, _ => exact lv_tableIn hx hb dL_law_40 h1 h2 (off := 666) (by rw [hv]; rfl) (tgt := 706) rfl (cs_706 hF hH hC hMI hRel hS hl (by omega) (by omega) hLx hcc next)
    | 15, _ => exact lv_tableIn hx hb dL_law_40 h1 h2 (off := 718) (by rw [hv]; rfl) (tgt := 758) rfl (cs_758 hF hH hC hMI hRel hS hl (by omega) (by omega) hLx hcc next)
    | 16, _ => exact lv_tableIn hx hb dL_law_40 h1 h2 (off := 755) (by rw [hv]; rfl) (tgt := 795) rfl (cs_795 hF hH hC hMI hRel hS hl (by omega) (by omega) hLx hcc next)
    | 17, _ => exact lv_tableIn hx hb dL_law_40 h1 h2 (off := 792) (by rw [hv]; rfl) (tgt := 832) rfl (cs_832 hF hH hC hMI hRel hS hl (by omega) (by omega) hLx hcc next)
    | 18, _ => exact lv_tableIn hx hb dL_law_40 h1 h2 (off := 841) (by rw [hv]; rfl) (tgt := 881) rfl (cs_881 hF hH hC hMI hRel hS hl (by omega) (by omega) hLx hcc next)
    | 19, _ => exact lv_tableIn hx hb dL_law_40 h1 h2 (off := 878) (by rw [hv]; rfl) (tgt := 918) rfl (cs_918 hF hH hC hMI hRel hS hl (by omega) (by omega) hLx hcc next)
    | 20, _ => exact lv_tableIn hx hb dL_law_40 h1 h2 (off := 927) (by rw [hv]; rfl) (tgt := 967) rfl (cs_967 hF hH hC hMI hRel hS hl (by omega) (by omega) hLx hcc next)
    | 21, _ => exact lv_tableIn hx hb dL_law_40 h1 h2 (off := 964) (by rw [hv]; rfl) (tgt := 1004) rfl (cs_1004 hF hH hC hMI hRel hS hl (by omega) (by omega) hLx hcc next)
    | 22, _ => exact lv_tableIn hx hb dL_law_40 h1 h2 (off := 1001) (by rw [hv]; rfl) (tgt := 1041) rfl (cs_1041 hF hH hC hMI hRel hS hl (by omega) (by omega) hLx hcc next)
    | 23, _ => exact lv_tableIn hx hb dL_law_40 h1 h2 (off := 1038) (by rw [hv]; rfl) (tgt := 1078) rfl (cs_1078 hF hH hC hMI hRel hS hl (by omega) (by omega) hLx hcc next)
    | 24, _ => exact lv_tableIn hx hb dL_law_40 h1 h2 (off := 1075) (by rw [hv]; rfl) (tgt := 1115) rfl (cs_1115 hF hH hC hMI hRel hS hl (by omega) (by omega) hLx hcc next)
    | 25, _ => exact lv_tableIn hx hb dL_law_40 h1 h2 (off := 1112) (by rw [hv]; rfl) (tgt := 1152) rfl (cs_1152 hF hH hC hMI hRel hS hl (by omega) (by omega) hLx hcc next)
    | 26, _ => exact lv_tableIn hx hb dL_law_40 h1 h2 (off := 1149) (by rw [hv]; rfl) (tgt := 1189) rfl (cs_1189 hF hH hC hMI hRel hS hl (by omega) (by omega) hLx hcc next)
    | 27, _ => exact lv_tableIn hx hb dL_law_40 h1 h2 (off := 1186) (by rw [hv]; rfl) (tgt := 1226) rfl (cs_1226 hF hH hC hMI hRel hS hl (by omega) (by omega) hLx hcc next)
    | 28, _ => exact lv_tableIn hx hb dL_law_40 h1 h2 (off := 1223) (by rw [hv]; rfl) (tgt := 1263) rfl (cs_1263 hF hH hC hMI hRel hS hl (by omega) (by omega) hLx hcc next)
    | 29, _ => exact lv_tableIn hx hb dL_law_40 h1 h2 (off := 1260) (by rw [hv]; rfl) (tgt := 1300) rfl (cs_1300 hF hH hC hMI hRel hS hl (by omega) (by omega) hLx hcc next)
    | 30, _ => exact lv_tableIn hx hb dL_law_40 h1 h2 (off := 1297) (by rw [hv]; rfl) (tgt := 1337) rfl (cs_1337 hF hH hC hMI hRel hS hl (by omega) (by omega) hLx hcc next)
    | 31, _ => exact lv_tableIn hx hb dL_law_40 h1 h2 (off := 1334) (by rw [hv]; rfl) (tgt := 1374) rfl (cs_1374 hF hH hC hMI hRel hS hl (by omega) (by omega) hLx hcc next)
    | 32, _ => exact lv_tableIn hx hb dL_law_40 h1 h2 (off := 1407) (by rw [hv]; rfl) (tgt := 1447) rfl (cs_1447 hF hH hC hMI hRel hS hl (by omega) (by omega) hLx hcc next)
    | 33, _ => exact lv_tableIn hx hb dL_law_40 h1 h2 (off := 1432) (by rw [hv]; rfl) (tgt := 1472) rfl (cs_1472 hF hH hC hMI hRel hS hl (by omega) (by omega) hLx hcc next)
    | 34, _ => exact lv_tableIn hx hb dL_law_40 h1 h2 (off := 1457) (by rw [hv]; rfl) (tgt := 1497) rfl (cs_1497 hF hH hC hMI hRel hS hl (by omega) (by omega) hLx hcc next)
    | 35, _ => exact lv_tableIn hx hb dL_law_40 h1 h2 (off := 1482) (by rw [hv]; rfl) (tgt := 1522) rfl (cs_1522 hF hH hC hMI hRel hS hl (by omega) (by omega) hLx hcc next)
    | j + 36, h => exact absurd h (by omega)
end LP
