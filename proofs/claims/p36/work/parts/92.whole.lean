/-! THE CLAIM OUT OF ONE WALK OF THE LAW'S BODY. Your part is whole_start (and what it stands on); all else here is the same for every law, but numbers. -/
def R_law : String := "MovingListLaw"
def lw_P (b : Addr) (xs : List Int32) (args : Array Value) (s : State) : Prop := args = #[.ref b] ∧ s.IntsAt b xs ∧ xs.length ≤ 3072 ∧ (Jvm.Cond.and given_1 narrow_1).before args s = true
def lw_Q (_ : Array Value) (s : State) (o : Outcome) (t : State) : Prop := o = .returned (some (.int 1)) ∧ Framed s o t [] 601024 7293034
def lw_Z (below : List Frame) (a : Array Value) (s : State) : State → Prop := fun t => ∃ o, t.status = .running ∧ Ended t below o ∧ lw_Q a s o t
/-- the law's own end, with 1 on the stack, nothing written that was there before, its room as the claim has it -/
theorem lw_ret {p : Program} {l : Launch} {e : Env} {s : State} {m : MethodId} {below : List Frame} {meth : Method} {c : Code} {b : Nat} (hx : p.tables.exec = Jvm.exec) (hb : c.code = code) (hr : meth.sig.returnType = ret) (hlocks : meth.locks = false) {pc : Nat} {H : Heap} {ls : Array Slot} (hdg : decode code pc = .ok (.ireturn, 1)) : W p l e room_1 s m #[Value.ref b] below meth c H [] 601024 7293034 (lw_Z below #[Value.ref b] s) (F0 m pc ls [.int 1]) := by
  intro T hT X
  obtain ⟨fs, hret, hrun, hended, hW, hframe⟩ := X.leave (v := some (.int 1)) (hlocks := hlocks) (fun h => by rw [hr] at h; cases h)
  have hmeth' : T.vm.method? m = some meth := X.method'
  refine ⟨T.setFrames fs, ?_, .returned (some (.int 1)), hrun, hended, rfl, ⟨_, rfl⟩, hW, hframe⟩
  jvm_step X.here [X.here.top, hx, hb, hdg, hmeth', hr, ret, narrow_b1]
  (try refine ⟨rfl, ?_⟩); (try refine ⟨rfl, ?_⟩)
  first | (intro acts; rw [hret _ acts rfl rfl rfl]) | rw [hret _ _ rfl rfl rfl]
  exact Steps.refl _
/-- what holds at the law's entry: the machine, the code, the tables' words (any of lw_tbl by 'hts w (by decide +kernel)'), the script of L ints xs at the cell b, what the Statement gives of the start (any of its parts by flat_of_before) -/
def lw_At (p : Program) (s : State) (m : MethodId) (meth : Method) (c : Code) (b L : Nat) (xs : Nat → Int32) : Prop :=
  p.tables.exec = Jvm.exec ∧ c.code = code ∧ meth.sig.returnType = ret ∧ c.maxLocals = 7 ∧ s.vm.findClass R_law = some m.cls ∧ (∀ w ∈ lw_tbl, w.before #[Value.ref b] s = true) ∧ va_X b L xs s s.heap ∧ b < s.heap.size ∧ meth.locks = false ∧ (Jvm.Cond.and given_1 narrow_1).before #[Value.ref b] s = true
set_option maxHeartbeats 8000000 in
set_option maxRecDepth 100000 in
theorem whole_start {p : Program} {e : Env} {s : State} {m : MethodId} {below : List Frame} {meth : Method} {c : Code} (l : Launch) (hflags : l.flags = flags0) {b L : Nat} {xs : Nat → Int32} (hL : L ≤ 3072) (C0 : lw_At p s m meth c b L xs) : W p l e room_1 s m #[Value.ref b] below meth c s.heap [] 0 0 (lw_Z below #[Value.ref b] s) (entryFrame m ([Value.ref b] : List Value).toArray 7) := by
  obtain ⟨hx, hb, hr, hml, hown, hts, hX, hbl, hlocks, hgv⟩ := C0
  have hfl : l.stackTraces = false := by
    unfold Launch.stackTraces
    rw [hflags]
    decide +kernel
  obtain ⟨D, cy, hK⟩ := start_KK hts
  obtain ⟨P0, hKH⟩ := start_KH hgv hts
  obtain ⟨T, hKE⟩ := start_KE hgv hts
  have hKN := start_KN hts
  have hKA := start_KA hts
  obtain ⟨S, hSe⟩ : ∃ S : Nat → Prop, S = fun q => s.heap.size ≤ q := ⟨_, rfl⟩
  rw [← hSe] at hKH hKE
  have hSz : ∀ q, s.heap.size ≤ q → S q := fun q h => by rw [hSe]; exact h
  have hSb : ¬ S b := fun h => by
    rw [hSe] at h
    have h : s.heap.size ≤ b := h
    omega
  have hS : va_S S s.heap s.heap [] := va_S.rf
  have CF : CallFix p m c cL_law 7 s #[Value.ref b] (.initialized RX9 :: W0) RL := ⟨hx, hb, hml, hown, fun w h => hts w ((List.mem_cons.mp h).elim (fun e => e ▸ inW _ (mW0 (List.mem_of_getElem? (i := 24) rfl))) (inW w))⟩
  have hl := lv_entry ([.ref b]) (n := 7) (by simp [lg_sl, Value.category])
  rw [lg_entry_eq]
  generalize (lg_sl ([.ref b]) ++ List.replicate (7 - (lg_sl ([.ref b])).length) Slot.unset).toArray = la at hl ⊢
  replace hl : lv_has la 7 [(0, .ref b)] := hl
  have hP : va_P D vwCl ([] : va_W) s.heap := fun k q hq => by simp at hq
  have hD : va_D S ([] : va_W) := ⟨fun i j p q hq => by simp at hq, fun k q hq => by simp at hq⟩
  refine w_new CF hK (X := []) hP hD hS hSz (C := RX9) (T := TX9) (N := 12) (ci := 7) rfl infX9 tyX9 tyX9_ok (List.mem_cons_of_mem _ (mW16 (List.mem_of_getElem? (i := 3) rfl))) (List.mem_cons_of_mem _ (mW16 (List.mem_of_getElem? (i := 4) rfl))) (List.mem_cons_of_mem _ (mW0 (List.mem_of_getElem? (i := 24) rfl))) (fs := [.null, .null, .null, .null, .null, .null, .null, .int 0, .int 0, .null, .null, .null]) (by decide +kernel) (by decide +kernel) (by decide +kernel) dL_law_0 dL_law_3 ?_
  intro q H1 hP hD hS
  refine w_ctorM i_X9 (by decide) (by decide) CF hK hKA (mW5 (List.mem_of_getElem? (i := 55) rfl)) (mW0 (List.mem_of_getElem? (i := 24) rfl)) (mW16 (List.mem_of_getElem? (i := 8) rfl)) (mW16 (List.mem_of_getElem? (i := 9) rfl)) rfl (by decide +kernel) hl.1 (by simp [Value.category]) (X := []) hP hD hS hSz ⟨by decide +kernel, by decide +kernel⟩ dL_law_4 ?_
  intro L1 I A H1 locs1 hq hI hA hPO hP9 hD9 hS9
  subst hq
  replace hP : va_P D vwCl (wd cy L1 (rl 0 97) I A) H1 := hP9
  replace hD : va_D S (wd cy L1 (rl 0 97) I A) := hD9
  replace hS := hS9
  refine lv_astore_n hx hb dL_law_7 rfl hl (by decide) rfl ?_
  intro la hl
  replace hl : lv_has la 7 [(1, .ref (L1 0)), (0, .ref b)] := hl
  refine w_new CF hK hP hD hS hSz (C := RX10) (T := TX10) (N := 23) (ci := 8) rfl infX10 tyX10 tyX10_ok (List.mem_cons_of_mem _ (mW16 (List.mem_of_getElem? (i := 5) rfl))) (List.mem_cons_of_mem _ (mW16 (List.mem_of_getElem? (i := 6) rfl))) (List.mem_cons_of_mem _ (mW10 (List.mem_of_getElem? (i := 20) rfl))) (fs := [.int 0, .null, .null, .int 0, .int 0, .null, .null, .int 0, .null, .int 0, .null, .null, .null, .int 0, .int 0, .null, .null, .int 0, .int 0, .int 0, .int 0, .null, .int 0]) (by decide +kernel) (by decide +kernel) (by decide +kernel) dL_law_8 dL_law_11 ?_
  intro q H2 hP hD hS
  refine w_ctorM i_X10 (by decide) (by decide) CF hK hKA (mW10 (List.mem_of_getElem? (i := 5) rfl)) (mW10 (List.mem_of_getElem? (i := 20) rfl)) (mW16 (List.mem_of_getElem? (i := 10) rfl)) (mW16 (List.mem_of_getElem? (i := 11) rfl)) rfl (by decide +kernel) hl.1 (by simp [Value.category]) hP hD hS hSz ⟨by decide +kernel, by decide +kernel⟩ dL_law_12 ?_
  intro M J B H2 locs2 hq hJ hB hPM hP9 hD9 hS9
  subst hq
  replace hP := hP9
  replace hD := hD9
  replace hS := hS9
  refine lv_astore_n hx hb dL_law_15 rfl hl (by decide) rfl ?_
  intro la hl
  replace hl : lv_has la 7 [(2, .ref (M 300)), (1, .ref (L1 0)), (0, .ref b)] := hl
  refine lv_iconst hx hb dL_law_16 (v := 1) rfl ?_
  refine va_newa (atype := .long) (ty := .long) (a0 := (1, .inr (.inl (fun _ => 0)))) (N' := 1) hx hb (hts _ t_ao.2.2.2.2.2) rfl hK.1 hP hD hS hSz (fun cA => rfl) (by decide) (by decide +kernel) (by decide) (by decide +kernel) (by decide +kernel) dL_law_17 ?_
  intro ao cL H3 hK3 hP hD hS
  refine lv_astore_n hx hb dL_law_19 rfl hl (by decide) rfl ?_
  intro la hl
  replace hl : lv_has la 7 [(3, .ref ao), (2, .ref (M 300)), (1, .ref (L1 0)), (0, .ref b)] := hl
  refine lv_iconst hx hb dL_law_20 (v := oI (6 * ((0 : Nat) : Int))) rfl ?_
  refine lv_istore hx hb dL_law_21 hl (by decide) rfl ?_
  intro la hl
  replace hl : lv_has la 7 [(4, .int (oI (6 * ((0 : Nat) : Int)))), (3, .ref ao), (2, .ref (M 300)), (1, .ref (L1 0)), (0, .ref b)] := hl
  have hF : LFx p l s m #[Value.ref b] c D cy S P0 T b L xs cL := ⟨CF, ⟨hK, hKA, hKH, hKN, hKE, hK3⟩, fun w h => hts w (inWX w h), hSz, ⟨hX, hbl, hSb⟩, hfl⟩
  have hCW : CWd (rl 0 97) I := by
    refine ⟨lvC, fun x hx => rl_mem (by omega) (by omega), fun i hi h => ?_, fun i hi h x a b hm => ?_, fun x hx => ?_⟩
    · rw [hPO.2.2.1] at h
      exact absurd rfl h
    · have := rl_of hm
      omega
    · have := rl_of hx
      omega
  have hH : LH D cy S ao cL H3 L1 (rl 0 97) I A M J B (fun _ => 0) := by
    refine ⟨⟨P_pre (P_pre hP), P_suf (P_pre hP), P_suf hP⟩, ⟨D_pre (D_pre hD), D_suf (D_pre hD), hD.2 _ _ app_ix⟩, ⟨fun r hr x hx he => ?_, fun r hr he => ?_, fun x hx he => ?_⟩, ⟨hI, hA, hCW⟩, hJ, hB⟩
    · obtain ⟨n1, -, h1⟩ := wd_mem (cy := cy) (L := L1) (I := I) (A := A) hr
      obtain ⟨n2, -, h2⟩ := wd_mem (cy := cy) (L := M) (I := J) (A := B) hx
      exact D_ap (D_pre hD) h1 h2 he.symm
    · obtain ⟨n1, -, h1⟩ := wd_mem (cy := cy) (L := L1) (I := I) (A := A) hr
      exact D_ap hD (i := n1) (j := 0) (by rw [List.getElem?_append_left (List.getElem?_eq_some_iff.mp h1).1]; exact h1) rfl he.symm
    · obtain ⟨n2, -, h2⟩ := wd_mem (cy := cy) (L := M) (I := J) (A := B) hx
      exact D_ap hD (i := (wd cy L1 (rl 0 97) I A).length + n2) (j := 0) (by rw [List.getElem?_append_right (by omega), Nat.add_sub_cancel_left]; exact h2) rfl he.symm
  have hRel : REL I A J := by
    refine ⟨by rw [hPO.2.1, hPM.2.1], fun i a b => ?_⟩
    rw [hPO.2.2.1, hPM.2.2]
    constructor
    · intro z; exact absurd rfl z.2
    · intro z; unfold bitB at z; omega
  refine law_loop hF hL (fun cells slots H locs la h1 h2 h3 => ?_) 600 0 _ _ L1 (rl 0 97) I A J B (fun _ => 0) H3 _ la (by omega) (Or.inr rfl) hH hPO.1 hPM.1 hRel hS hl (by rw [hPM.2.1]; decide +kernel) (by rw [hPM.2.1]; decide +kernel)
  refine lv_iconst hx hb dL_law_1553 (v := 1) rfl ?_
  refine va_forget (fun q hq => by have := h3.2.2 q hq; rw [hSe] at this; exact this) (W.widen h1 h2 ?_)
  exact lw_ret hx hb hr hlocks dL_law_1554
