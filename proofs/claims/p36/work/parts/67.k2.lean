/-! ===== isWord ===== -/
section WG
variable {p : Program} {l : Launch} {e : Env} {R : Room} {s : State} {m : MethodId} {args : Array Value} {below : List Frame} {meth : Method} {c : Code} {H : Heap} {locs : List Loc} {cells slots : Nat} {Qf : State → Prop} {D : va_G} {cy : Nat → ClassId} {L : Nat → Nat} {lv : List Nat} {I A : FN} {own : String} {bytes : ByteArray} {Ts : List Jvm.Cond} {nL pc : Nat} {la : Array Slot} {rest : List Value}
theorem w_get (CF : CallFix p m c bytes nL s args Ts own) (hK : KK D cy s) (hP : va_P D vwCl (wd cy L lv I A) H) {idx k j r : Nat} {v : Value} (hf : FL own Ts idx k j) (hm : r ∈ lv) (hr : rk r = k) (hv : v = fv L I r j (kF k j)) (hd : decode bytes pc = .ok (.getfield idx, 3))
    (kk : W p l e R s m args below meth c H locs cells slots Qf (F0 m (pc + 3) la (v :: rest))) : W p l e R s m args below meth c H locs cells slots Qf (F0 m pc la (.ref (L r) :: rest)) := by
  obtain ⟨hx, hb, hml, hown, hts⟩ := CF
  obtain ⟨h100, hj, C, T, ty0, hc, hu, hlk2, -, -, -, -⟩ := hf
  obtain ⟨q0, -, hq⟩ := wd_mem (cy := cy) (L := L) (I := I) (A := A) hm
  rw [ce_obj hr h100] at hq
  refine va_get (v := v) hx hb hts hu hown hK.1 hP q0 hq hc j hj (hts _ hlk2) (fun _ h9 => h9) ?_ hd kk
  rw [List.getElem?_map, List.getElem?_range hj, hv]
  rfl
end WG
def PcW (P0 : KP) (D : va_G) (cy : Nat → ClassId) (L : Nat → Nat) (lv : List Nat) (i : Nat) (st : Int) (I A : FN) (sz : Nat) : Array Value → State → Prop := va_Pc [.ref (L 90), .ref (P0.2.1 i), .int (oI st)] (fun U => (U.heap.size = sz ∧ va_P D vwCl (wd cy L lv I A) U.heap ∧ KK D cy U ∧ va_D (fun _ => True) (wd cy L lv I A)) ∧ KH P0 (va_A (wd cy L lv I A) sz) U U.heap)
theorem PcW_blind {P0 : KP} {D : va_G} {cy : Nat → ClassId} {L : Nat → Nat} {lv : List Nat} {i : Nat} {st : Int} {I A : FN} {sz : Nat} : FrameBlind (PcW P0 D cy L lv i st I A sz) := fun a U g mk h => by
  obtain ⟨h1, ⟨h2, h3, h4, h5⟩, h6⟩ := h
  exact ⟨h1, ⟨h2, h3, KK.vm (s := U) (U := U.calling g mk a) rfl h4, h5⟩, h6.moved (U := U.calling g mk a) (Vm.Alike.refl _)⟩
def Q_isWord : QT := fun _ I A r I' A' => I' = I ∧ A' = A ∧ (r = some 0 ∨ r = some 1)
theorem oI_ofNat (n : Nat) : Int32.ofNat n = oI (n : Int) := rfl
theorem wLen_8 : ∀ i, i < 11 → wLen.getD i 0 < 8 := by decide
theorem c_isWord {l : Launch} {P0 : KP} {D : va_G} {cy : Nat → ClassId} {L : Nat → Nat} {lv : List Nat} {sz i : Nat} {st : Int} {I A : FN} (hlv : LvOk lv) (hI : okF I) (hA : okF A) (him : 77 ∈ lv → ∀ i, i < 2 → I 77 i ≠ 0 → 97 + 76 * i ∈ lv) (h90 : 90 ∈ lv) (hst : inI st) (hi : i < 11) (h3 : I 90 3 ≠ 0 ∧ I 90 4 ≤ 400) :
    Met l yX7_isWord (.code yX7_isWord cX7_isWord 4 (some .boolean) :: W0) (rmD 5 (0, 0)) (PcW P0 D cy L lv i st I A sz) (QcX D cy L lv [] I A sz true Q_isWord) 0 0 (va_A (wd cy L lv I A) sz) := by
  refine Met.ofW (cc := cX7_isWord) (maxL := 4) (ret := some .boolean) (by decide) rfl ?_
  intro p e s m args below meth c s₁ B hml hv
  obtain ⟨rfl, ⟨hsz, hPP, hK, hD0⟩, hKH⟩ := hv
  subst hsz
  have hx := B.exec
  have hb := B.bytes
  have hr := B.returns
  have hts := atoms_spec (ws := .code yX7_isWord cX7_isWord 4 (some .boolean) :: W0) B.pre
  have hown : s.vm.findClass yX7_isWord.cls = some m.cls := findClass_of_methodNamed B.named
  have hlocks := B.notSynchronized
  have hD := hD0.self (sz := s.heap.size)
  have hl := lv_entry [.ref (L 90), .ref (P0.2.1 i), .int (oI st)] (n := 4) (by simp [lg_sl, Value.category])
  rw [lg_entry_eq]
  show W p l e (rmD 5 (0, 0)) s m _ below meth c s.heap [] 0 0 _ (F0 m 0 _ [])
  generalize (lg_sl [.ref (L 90), .ref (P0.2.1 i), .int (oI st)] ++ List.replicate (4 - (lg_sl [.ref (L 90), .ref (P0.2.1 i), .int (oI st)]).length) Slot.unset).toArray = la at hl ⊢
  have hSz : ∀ q, s.heap.size ≤ q → va_A (wd cy L lv I A) s.heap.size q := fun q h => Or.inr h
  have h8 := wLen_8 i hi
  have ret : ∀ (x : Int) (pc : Nat) (H : Heap) (locs : List Loc) (la : Array Slot), x = 0 ∨ x = 1 → decode cX7_isWord pc = .ok (.ireturn, 1) → va_P D vwCl (wd cy L lv I A) H → va_S (va_A (wd cy L lv I A) s.heap.size) s.heap H locs →
      W p l e (rmD 5 (0, 0)) s m [.ref (L 90), .ref (P0.2.1 i), .int (oI st)].toArray below meth c H locs 0 0 (MQ below (QcX D cy L lv [] I A s.heap.size true Q_isWord) [.ref (L 90), .ref (P0.2.1 i), .int (oI st)].toArray s 0 0 (va_A (wd cy L lv I A) s.heap.size)) (F0 m pc la [.int (oI x)]) := by
    intro x pc H locs la hx01 hd hP hS
    exact W.zret (v := oI x) hx hb hr (by rcases hx01 with rfl | rfl <;> rfl) (fun t ht hW => ⟨⟨some x, I, A, rfl, rfl, fun z hz => by cases hz; rcases hx01 with rfl | rfl <;> exact ⟨by omega, by omega⟩, hI, hA, rfl, ⟨rfl, rfl, by rcases hx01 with rfl | rfl <;> simp⟩, by rw [ht]; exact hP⟩, hS.F ht⟩) hS.2.2 hd
  have loop : ∀ (f : Nat) (k : Int) (H : Heap) (locs : List Loc) (la : Array Slot), 0 ≤ k → k ≤ (wLen.getD i 0 : Nat) → ((wLen.getD i 0 : Nat) : Int) - k < f → va_P D vwCl (wd cy L lv I A) H → va_S (va_A (wd cy L lv I A) s.heap.size) s.heap H locs → lv_has la 4 [(3, .int (oI k)), (0, .ref (L 90)), (1, .ref (P0.2.1 i)), (2, .int (oI st))] →
      W p l e (rmD 5 (0, 0)) s m [.ref (L 90), .ref (P0.2.1 i), .int (oI st)].toArray below meth c H locs 0 0 (MQ below (QcX D cy L lv [] I A s.heap.size true Q_isWord) [.ref (L 90), .ref (P0.2.1 i), .int (oI st)].toArray s 0 0 (va_A (wd cy L lv I A) s.heap.size)) (F0 m 17 la []) := by
    intro f
    induction f with
    | zero => intro k H locs la h0 h1 hf; omega
    | succ f ih =>
      intro k H locs la h0 h1 hf hP hS hl
      refine lv_iload_n hx hb dX7_isWord_17 rfl (lv_at hl 0 rfl) ?_
      refine lv_aload_n hx hb dX7_isWord_18 rfl (lv_at hl 2 rfl) ?_
      refine j_V (j_length hi) (As := []) (n := 0) (by decide) (by decide) ⟨hx, hb, hml, hown, hts⟩ hKH hS (gdV (mW4 (List.mem_of_getElem? (i := 16) rfl)) (mW4 (List.mem_of_getElem? (i := 17) rfl)) (mW4 (List.mem_of_getElem? (i := 18) rfl)) (mW3 (List.mem_of_getElem? (i := 45) rfl)) (mW3 (List.mem_of_getElem? (i := 40) rfl))) (by decide +kernel) (vk_recv hKH.2.2.2.1 hi hS) rfl hl.1 (by simp [Value.category]) ⟨Nat.le_refl _, Nat.le_refl _⟩ dX7_isWord_19 ?_
      refine lv_icmp_ge hx hb (tgt := 48) dX7_isWord_22 rfl (fun _ => ?_) (fun hlt => ?_)
      · refine lv_iconst hx hb dX7_isWord_48 (v := oI 1) rfl ?_
        exact ret 1 49 H locs la (Or.inr rfl) dX7_isWord_49 hP hS
      · have hk : k < (wLen.getD i 0 : Nat) := by
          rcases Int.lt_or_le k (wLen.getD i 0 : Nat) with h | h
          · exact h
          · exfalso
            apply hlt
            have : k = (wLen.getD i 0 : Nat) := by omega
            rw [this, oI_ofNat]
            exact Int32.le_refl _
        refine lv_aload_n hx hb dX7_isWord_25 rfl (lv_at hl 1 rfl) ?_
        refine lv_iload_n hx hb dX7_isWord_26 rfl (lv_at hl 3 rfl) ?_
        refine lv_iload_n hx hb dX7_isWord_27 rfl (lv_at hl 0 rfl) ?_
        refine lv_iadd hx hb dX7_isWord_28 ?_
        have hpI : inI (oI st + oI k).toInt := ⟨by have := Int32.le_toInt (oI st + oI k); omega, by have := Int32.toInt_lt (oI st + oI k); omega⟩
        have hsas : okS lv [.inr (some (5, 90)), .inl (oI st + oI k).toInt] := okS_c (okS_c (fun v hv => absurd hv List.not_mem_nil) hpI) ⟨h90, rfl⟩
        have hPre : P_X7_byteAt [.inr (some (5, 90)), .inl (oI st + oI k).toInt] I A := ⟨_, rfl, h3⟩
        have hMet := c_X7_byteAt l D cy L lv H.size _ I A hlv hI hA him hsas hPre
        obtain ⟨q0, -, hq⟩ := wd_mem (cy := cy) (L := L) (I := I) (A := A) h90
        rw [ce_obj (k := 5) rfl (by decide)] at hq
        have cw := cwV (R := rmD 5 (0, 0)) (own := yX7_isWord.cls) (index := 73) (C := yX7_byteAt.cls) (y := yX7_byteAt) (bytes := cX7_byteAt) (maxL := 2) (ret := some .int) (rm := rmD 1 (0, 0)) (mc := 0) (ms := 0) 1 hts (gdV (mW3 (List.mem_of_getElem? (i := 29) rfl)) (mW3 (List.mem_of_getElem? (i := 30) rfl)) (mW3 (List.mem_of_getElem? (i := 31) rfl)) (mW3 (List.mem_of_getElem? (i := 32) rfl)) (mW3 (List.mem_of_getElem? (i := 25) rfl))) rfl rfl rfl ⟨rfl, by decide +kernel⟩ ⟨by decide, by decide⟩
        have hrun := va_runV (g := F0 m 29 la [.int (oI st + oI k), .ref (L 90)]) (locs := locs) (H := H) (b := L 90) (As := [.int (oI st + oI k)]) (rest := []) (p := p) (e := e) (below := below) (meth := meth) (cells := 0) (slots := 0) ⟨hx, hb, hml, hown, hts⟩ hMet cw
          ⟨PcX_blind, va_recv hK.1 hP (ci := 5) rfl hq, fun U hU hW => ⟨by simp only [List.map, vv, oI_toI], by rw [hU], by rw [hU]; exact hP, KK.warm hW hK, wd_D (hD.weaken (fun _ _ _ _ => trivial))⟩⟩ rfl rfl hl.1 rfl (lv_room (by decide)) dX7_isWord_29 ⟨Nat.le_refl _, Nat.le_refl _⟩
        refine call_core (q := (0, 0)) (rest := []) hrun hD hS hSz (fun r2 I' A' H1 locs1 g1 g2 g3 g4 g5 g6 g7 g8 => ?_)
        obtain ⟨rfl, rfl⟩ := g6.1
        cases r2 with
        | none => cases g1
        | some x =>
          refine lv_aload_n hx hb dX7_isWord_32 rfl (lv_at hl 2 rfl) ?_
          refine lv_iload_n hx hb dX7_isWord_33 rfl (lv_at hl 0 rfl) ?_
          refine j_V (j_charAt hi h0 hk) (As := [.int (oI k)]) (n := 1) (by decide) (by decide) ⟨hx, hb, hml, hown, hts⟩ hKH g8 (gdV (mW4 (List.mem_of_getElem? (i := 19) rfl)) (mW4 (List.mem_of_getElem? (i := 20) rfl)) (mW4 (List.mem_of_getElem? (i := 21) rfl)) (mW3 (List.mem_of_getElem? (i := 45) rfl)) (mW4 (List.mem_of_getElem? (i := 15) rfl))) (by decide +kernel) (vk_recv hKH.2.2.2.1 hi g8) rfl hl.1 (by simp [psh, vv, Value.category]) ⟨Nat.le_refl _, Nat.le_refl _⟩ dX7_isWord_34 ?_
          refine lv_icmp_eq hx hb (tgt := 42) dX7_isWord_37 rfl (fun _ => ?_) (fun _ => ?_)
          · refine lv_iinc hx hb dX7_isWord_42 hl (k := 0) rfl (v := oI (k + 1)) (Int32.ofInt_add _ _).symm (by decide) rfl (fun la' hl' => ?_)
            refine lv_goto hx hb (tgt := 17) dX7_isWord_45 rfl ?_
            exact ih (k + 1) H1 locs1 la' (by omega) (by omega) (by omega) g7 g8 hl'
          · refine lv_iconst hx hb dX7_isWord_40 (v := oI 0) rfl ?_
            exact ret 0 41 H1 locs1 la (Or.inl rfl) dX7_isWord_41 g7 g8
  have hS0 : va_S (va_A (wd cy L lv I A) s.heap.size) s.heap s.heap [] := va_S.rf
  refine lv_aload_n hx hb dX7_isWord_0 rfl (lv_at hl 0 rfl) ?_
  refine w_get ⟨hx, hb, hml, hown, hts⟩ hK hPP (idx := 29) (k := 5) (j := 5) (r := 90) (v := .int (oI (I 90 5))) (ftX7_ok (29, 5, 5, 0, 0, 0) (by decide)).1 h90 rfl rfl dX7_isWord_1 ?_
  refine lv_iload_n hx hb dX7_isWord_4 rfl (lv_at hl 2 rfl) ?_
  refine lv_isub hx hb dX7_isWord_5 ?_
  refine lv_aload_n hx hb dX7_isWord_6 rfl (lv_at hl 1 rfl) ?_
  refine j_V (j_length hi) (As := []) (n := 0) (by decide) (by decide) ⟨hx, hb, hml, hown, hts⟩ hKH hS0 (gdV (mW4 (List.mem_of_getElem? (i := 16) rfl)) (mW4 (List.mem_of_getElem? (i := 17) rfl)) (mW4 (List.mem_of_getElem? (i := 18) rfl)) (mW3 (List.mem_of_getElem? (i := 45) rfl)) (mW3 (List.mem_of_getElem? (i := 40) rfl))) (by decide +kernel) (vk_recv hKH.2.2.2.1 hi hS0) rfl hl.1 (by simp [Value.category]) ⟨Nat.le_refl _, Nat.le_refl _⟩ dX7_isWord_7 ?_
  refine lv_icmp_eq hx hb (tgt := 15) dX7_isWord_10 rfl (fun _ => ?_) (fun _ => ?_)
  · refine lv_iconst hx hb dX7_isWord_15 (v := oI 0) rfl ?_
    refine lv_istore_n hx hb dX7_isWord_16 rfl hl (by decide) rfl (fun la' hl' => ?_)
    exact loop 9 0 s.heap [] la' (by omega) (by omega) (by omega) hPP hS0 hl'
  · refine lv_iconst hx hb dX7_isWord_13 (v := oI 0) rfl ?_
    exact ret 0 14 s.heap [] la (Or.inl rfl) dX7_isWord_14 hPP hS0
