/-! ===== the law's calls over the two objects ===== -/
section LX
variable {p : Program} {l : Launch} {e : Env} {s : State} {m : MethodId} {args : Array Value} {below : List Frame} {meth : Method} {c : Code} {H : Heap} {locs : List Loc} {cells slots : Nat} {Qf : State → Prop} {D : va_G} {cy : Nat → ClassId} {S : Nat → Prop} {P0 : KP} {T : Nat × Nat} {b Lx : Nat} {xs : Nat → Int32} {cL : ClassId} {ao pc : Nat} {la : Array Slot} {rest : List Value} {L : Nat → Nat} {lv : List Nat} {I A : FN} {M : Nat → Nat} {J B : FN} {g : Nat → Int64}
theorem LH.c2 (hH : LH D cy S ao cL H L lv I A M J B g) {I' A' : FN} {H1 : Heap} (h77 : I' 77 = I 77) (hI : okF I') (hA : okF A') (h1 : va_P D vwCl (wd cy L lv I' A') H1) (h2 : va_P D vwCl (wd cy M (rl 300 12) J B ++ [(ao, .inl (cL, 1, .inr (.inl g)))]) H1) : LH D cy S ao cL H1 L lv I' A' M J B g := by
  obtain ⟨⟨a1, a2, a3⟩, ⟨b1, b2, b3⟩, cc, ⟨d1, d2, d3⟩, ee⟩ := hH
  exact ⟨⟨h1, P_pre h2, P_suf h2⟩, ⟨wd_D b1, b2, b3⟩, cc, ⟨hI, hA, d3.eq h77⟩, ee⟩
theorem LH.r2 (hH : LH D cy S ao cL H L lv I A M J B g) {J' B' : FN} {H1 : Heap} (hJ : okF J') (hB : okF B') (h1 : va_P D vwCl (wd cy M (rl 300 12) J' B') H1) (h2 : va_P D vwCl (wd cy L lv I A ++ [(ao, .inl (cL, 1, .inr (.inl g)))]) H1) : LH D cy S ao cL H1 L lv I A M J' B' g := by
  obtain ⟨⟨a1, a2, a3⟩, ⟨b1, b2, b3⟩, cc, dd, ee⟩ := hH
  exact ⟨⟨P_pre h2, h1, P_suf h2⟩, ⟨b1, wd_D b2, b3⟩, cc, dd, hJ, hB⟩
theorem LH.wc (hH : LH D cy S ao cL H L lv I A M J B g) : va_P D vwCl (wd cy M (rl 300 12) J B ++ [(ao, .inl (cL, 1, .inr (.inl g)))]) H ∧ apt L lv (wd cy M (rl 300 12) J B ++ [(ao, .inl (cL, 1, .inr (.inl g)))]) := ⟨va_P.app hH.1.2.1 hH.1.2.2, apt_app (apt_wd hH.2.2.1.1) (apt_1 hH.2.2.1.2.1)⟩
theorem LH.wr (hH : LH D cy S ao cL H L lv I A M J B g) : va_P D vwCl (wd cy L lv I A ++ [(ao, .inl (cL, 1, .inr (.inl g)))]) H ∧ apt M (rl 300 12) (wd cy L lv I A ++ [(ao, .inl (cL, 1, .inr (.inl g)))]) := ⟨va_P.app hH.1.1 hH.1.2.2, apt_app (apt_wd (fun x hx r hr => (hH.2.2.1.1 r hr x hx).symm)) (apt_1 hH.2.2.1.2.2)⟩
theorem law_C (hF : LFx p l s m args c D cy S P0 T b Lx xs cL) (hH : LH D cy S ao cL H L lv I A M J B g) (hS : va_S S s.heap H locs) {d idx n maxL : Nat} {y : MethodName} {yb : ByteArray} {ret : Option FieldType} {P : PT} {Q : QT} (hM : MetC y (.code y yb maxL ret :: W0) d true P Q al0) (hdd : d ≤ 300) (hmx : maxL ≤ 21) (hG : GoodIn (.initialized RX9 :: W0) (wsV RL idx y.cls y (.code y yb maxL ret :: W0))) (hcls : y.cls = RX9)
    (hy : y.cls ≠ "java/lang/invoke/MethodHandle" ∧ y.cls ≠ "java/lang/invoke/VarHandle" ∧ (parseMethodDescriptor y.desc).map (fun d => d.parameters.length) = some n) {as' : List AV} (has : okS lv as') (hPP : P (.inr (some (7, 0)) :: as') I A) (hn : as'.length = n) (hla : la.size = 7) (hroom : (rest.map fun v => v.category).sum ≤ 8) (hc : cells ≤ 601024 ∧ slots ≤ 7293034) (hd : decode cL_law pc = .ok (.invokevirtual idx, 3))
    (kk : ∀ x I' A' H1 locs1, inI x → Q (.inr (some (7, 0)) :: as') I A (some x) I' A' → I' 77 = I 77 → LH D cy S ao cL H1 L lv I' A' M J B g → va_S S s.heap H1 locs1 → W p l e room_1 s m args below meth c H1 locs1 cells slots Qf (F0 m (pc + 3) la (.int (oI x) :: rest))) :
    W p l e room_1 s m args below meth c H locs cells slots Qf (F0 m pc la ((as'.map (vv L)).reverse ++ .ref (L 0) :: rest)) := by
  obtain ⟨CF, ⟨hK, -⟩, -, hSz, -, -⟩ := hF
  obtain ⟨hd1, hd2, hd3⟩ := hH.2.2.2.1
  refine law_V (ci := 7) (k0 := 7) (r0 := 0) (T := TX9) (N := 12) CF hK hM hdd hmx hG (by rw [hcls]; rfl) hy (by decide) rfl hd3.1 hd1 hd2 (fun _ => hd3.2.2.1) (okS_c has ⟨hd3.2.1 0 (by omega), rfl⟩) hPP hn hla hroom hH.1.1 hH.2.1.1 hS hSz hH.wc.1 hH.wc.2 hc hd (fun r I' A' H1 locs1 g1 g2 g3 g4 g5 g6 g7 g8 g9 => ?_)
  cases r with
  | none => cases g1
  | some x => exact kk x I' A' H1 locs1 (g2 x rfl) g6 g5 (hH.c2 g5 g3 g4 g7 g8) g9
theorem law_S (hF : LFx p l s m args c D cy S P0 T b Lx xs cL) (hH : LH D cy S ao cL H L lv I A M J B g) (hS : va_S S s.heap H locs) {d idx n maxL : Nat} {y : MethodName} {yb : ByteArray} {ret : Option FieldType} {P : PT} {Q : QT} (hM : MetK y (.code y yb maxL ret :: W0) d true P Q al0) (hdd : d ≤ 300) (hmx : maxL ≤ 21) (hG : GoodIn (.initialized RX9 :: W0) (wsV RL idx y.cls y (.code y yb maxL ret :: W0))) (hcls : y.cls = RX9)
    (hy : y.cls ≠ "java/lang/invoke/MethodHandle" ∧ y.cls ≠ "java/lang/invoke/VarHandle" ∧ (parseMethodDescriptor y.desc).map (fun d => d.parameters.length) = some n) {as' : List AV} (has : okS lv as') (hPP : P (.inr (some (7, 0)) :: as') I A) (hn : as'.length = n) (hla : la.size = 7) (hroom : (rest.map fun v => v.category).sum ≤ 8) (hc : cells ≤ 601024 ∧ slots ≤ 7293034) (hd : decode cL_law pc = .ok (.invokevirtual idx, 3))
    (kk : ∀ x I' A' H1 locs1, inI x → Q (.inr (some (7, 0)) :: as') I A (some x) I' A' → I' 77 = I 77 → LH D cy S ao cL H1 L lv I' A' M J B g → va_S S s.heap H1 locs1 → W p l e room_1 s m args below meth c H1 locs1 cells slots Qf (F0 m (pc + 3) la (.int (oI x) :: rest))) :
    W p l e room_1 s m args below meth c H locs cells slots Qf (F0 m pc la ((as'.map (vv L)).reverse ++ .ref (L 0) :: rest)) := by
  obtain ⟨CF, ⟨hK, -, hKH, hKN, -⟩, -, hSz, -, -⟩ := hF
  obtain ⟨hd1, hd2, hd3⟩ := hH.2.2.2.1
  refine law_VK (ci := 7) (k0 := 7) (r0 := 0) (T := TX9) (N := 12) CF hK hKH hKN hM hdd hmx hG (by rw [hcls]; rfl) hy (by decide) rfl hd3.1 hd1 hd2 (fun _ => hd3.2.2.1) (okS_c has ⟨hd3.2.1 0 (by omega), rfl⟩) hPP hn hla hroom hH.1.1 hH.2.1.1 hS hSz hH.wc.1 hH.wc.2 hc hd (fun r I' A' H1 locs1 g1 g2 g3 g4 g5 g6 g7 g8 g9 => ?_)
  cases r with
  | none => cases g1
  | some x => exact kk x I' A' H1 locs1 (g2 x rfl) g6 g5 (hH.c2 g5 g3 g4 g7 g8) g9
theorem law_R (hF : LFx p l s m args c D cy S P0 T b Lx xs cL) (hH : LH D cy S ao cL H L lv I A M J B g) (hS : va_S S s.heap H locs) {d idx n maxL : Nat} {y : MethodName} {yb : ByteArray} {ret : Option FieldType} {P : PT} {Q : QT} {al : AT} (hM : MetC y (.code y yb maxL ret :: W0) d true P Q al) (hdd : d ≤ 300) (hmx : maxL ≤ 21) (hG : GoodIn (.initialized RX9 :: W0) (wsV RL idx y.cls y (.code y yb maxL ret :: W0))) (hcls : y.cls = RX10)
    (hy : y.cls ≠ "java/lang/invoke/MethodHandle" ∧ y.cls ≠ "java/lang/invoke/VarHandle" ∧ (parseMethodDescriptor y.desc).map (fun d => d.parameters.length) = some n) {as' : List AV} (has : okS (rl 300 12) as') (hPP : P (.inr (some (8, 300)) :: as') J B) (hn : as'.length = n) (hla : la.size = 7) (hroom : (rest.map fun v => v.category).sum ≤ 8) (hc : cells + (al (.inr (some (8, 300)) :: as') J B).1 ≤ 601024 ∧ slots + (al (.inr (some (8, 300)) :: as') J B).2 ≤ 7293034) (hd : decode cL_law pc = .ok (.invokevirtual idx, 3))
    (kk : ∀ x J' B' H1 locs1, inI x → Q (.inr (some (8, 300)) :: as') J B (some x) J' B' → LH D cy S ao cL H1 L lv I A M J' B' g → va_S S s.heap H1 locs1 → W p l e room_1 s m args below meth c H1 locs1 (cells + (al (.inr (some (8, 300)) :: as') J B).1) (slots + (al (.inr (some (8, 300)) :: as') J B).2) Qf (F0 m (pc + 3) la (.int (oI x) :: rest))) :
    W p l e room_1 s m args below meth c H locs cells slots Qf (F0 m pc la ((as'.map (vv M)).reverse ++ .ref (M 300) :: rest)) := by
  obtain ⟨CF, ⟨hK, -⟩, -, hSz, -, -⟩ := hF
  refine law_V (ci := 8) (k0 := 8) (r0 := 300) (T := TX10) (N := 23) CF hK hM hdd hmx hG (by rw [hcls]; rfl) hy (by decide) rfl lvM hH.2.2.2.2.1 hH.2.2.2.2.2 (fun h => absurd (rl_of h) (by omega)) (okS_c has ⟨rl_mem (by omega) (by omega), rfl⟩) hPP hn hla hroom hH.1.2.1 hH.2.1.2.1 hS hSz hH.wr.1 hH.wr.2 hc hd (fun r I' A' H1 locs1 g1 g2 g3 g4 g5 g6 g7 g8 g9 => ?_)
  cases r with
  | none => cases g1
  | some x => exact kk x I' A' H1 locs1 (g2 x rfl) g6 (hH.r2 g3 g4 g7 g8) g9
theorem law_I (hF : LFx p l s m args c D cy S P0 T b Lx xs cL) (hH : LH D cy S ao cL H L lv I A M J B g) (hS : va_S S s.heap H locs) (hp : CI I A) {i : Int} (hi : inI i) (hla : la.size = 7) (hroom : (rest.map fun v => v.category).sum ≤ 8) (hc : cells + 76 ≤ 601024 ∧ slots + 8789 ≤ 7293034) (hd : decode cL_law pc = .ok (.invokevirtual 158, 3))
    (kk : ∀ x I' A' L' lv' H1 locs1, L' 0 = L 0 → IMQ i I A x I' A' → LH D cy S ao cL H1 L' lv' I' A' M J B g → va_S S s.heap H1 locs1 → W p l e room_1 s m args below meth c H1 locs1 (cells + 76) (slots + 8789) Qf (F0 m (pc + 3) la (.int (oI x) :: rest))) :
    W p l e room_1 s m args below meth c H locs cells slots Qf (F0 m pc la (.int (oI i) :: .ref (L 0) :: rest)) := by
  obtain ⟨CF, ⟨hK, hKA, -⟩, -, hSz, -, -⟩ := hF
  have hH0 := hH
  obtain ⟨⟨a1, a2, a3⟩, ⟨b1, b2, b3⟩, ⟨c1, c2, c3⟩, ⟨d1, d2, d3⟩, e1, e2⟩ := hH
  obtain ⟨q0, -, hq⟩ := wd_mem (cy := cy) (L := L) (I := I) (A := A) (d3.2.1 0 (by omega))
  rw [ce_obj (k := 7) rfl (by decide)] at hq
  have hMet := c_image (l := l) (D := D) (cy := cy) (L := L) (sz := H.size) d3 d1 d2 hp hi
  have cw := cwV (R := room_1) (own := RL) (index := 158) (C := RX9) (y := yX9_image) (bytes := cX9_image) (maxL := 2) (ret := some .boolean) (rm := rmD 5 (76, 8789)) (mc := 76) (ms := 8789) 1 CF.2.2.2.2 (gdV (mW18 (List.mem_of_getElem? (i := 42) rfl)) (mW18 (List.mem_of_getElem? (i := 43) rfl)) (mW18 (List.mem_of_getElem? (i := 44) rfl)) (mW0 (List.mem_of_getElem? (i := 24) rfl)) (mW10 (List.mem_of_getElem? (i := 0) rfl))) rfl rfl rfl ⟨rfl, by decide +kernel⟩ ⟨by decide, by decide⟩
  have hrun := va_runV (g := F0 m pc la (.int (oI i) :: .ref (L 0) :: rest)) (locs := locs) (H := H) (b := L 0) (As := [.int (oI i)]) (rest := rest) (p := p) (e := e) (below := below) (meth := meth) (cells := cells) (slots := slots) CF hMet cw
    ⟨PcIm_blind, va_recv hK.1 a1 (ci := 7) rfl hq, fun U hU hW => ⟨rfl, ⟨by rw [hU], by rw [hU]; exact a1, KK.warm hW hK, wd_D (b1.weaken (fun _ _ _ _ => trivial))⟩, hKA.moved hW.alike⟩⟩ rfl rfl hla rfl (lv_room hroom) hd hc
  have hfree := free_wd b1 hS hSz
  intro T0 hT Xs
  obtain ⟨v, st₀, t, T', Lc', h0, X', hL', f1, f2, ⟨⟨x, I', A', L', lv', hv, hI', hA', hL0, hcw, hQ, hP', hD'⟩, hz, hk⟩, stp⟩ := hrun T0 hT Xs
  cases hv
  rw [h0] at hz hk
  have hLr : ∀ r ∈ lv', (∃ r0 ∈ lv, L' r = L r0) ∨ H.size ≤ L' r := fun r hr => by
    obtain ⟨n, -, hn⟩ := wd_mem (cy := cy) (L := L') (I := I') (A := A') hr
    rcases hD'.2 n _ hn with ⟨k2, e3, h2⟩ | h2
    · obtain ⟨r0, hr0, e4⟩ := wd_ix h2
      exact Or.inl ⟨r0, hr0, e4⟩
    · exact Or.inr h2
  have hMlt : ∀ x ∈ rl 300 12, M x < H.size := fun x hx => by
    obtain ⟨n, -, hn⟩ := wd_mem (cy := cy) (L := M) (I := J) (A := B) hx
    exact (a2 n _ hn).lt
  have haolt : ao < H.size := (a3 0 _ rfl).lt
  obtain ⟨t2, z1, z2⟩ := kk x I' A' L' lv' T'.heap (locs ++ Lc') hL0 hQ
    ⟨⟨by rw [f1]; exact hP', by rw [f1]; exact keep2 a2 (apt_wd c1) hk, by rw [f1]; exact keep2 a3 (apt_1 c2) hk⟩, ⟨hD'.weaken (fun _ z _ h => hfree z.1 h), b2, b3⟩, ⟨fun r hr x hx he => by
        rcases hLr r hr with ⟨r0, hr0, e4⟩ | h
        · exact c1 r0 hr0 x hx (he.trans e4)
        · have := hMlt x hx; omega, fun r hr he => by
        rcases hLr r hr with ⟨r0, hr0, e4⟩ | h
        · exact c2 r0 hr0 (he.trans e4)
        · omega, c3⟩, ⟨hI', hA', hcw⟩, e1, e2⟩ (run_S (st₀ := st₀) hfree hS f1 hz hk hL') T' rfl X'
  exact ⟨t2, stp t2 z1, z2⟩
theorem gdLA : GoodIn WX (va_wsS RL 79 yL_at (.codeWith yL_at cL_at 6 (some .int) [(0, 12, 15, 13)] :: WXL)) := by
  have g0 : ∀ w ∈ W0, w ∈ WX ∧ ((w.onTables && w.keeps) = true ∨ ∃ ty, w = .arrayClass ty) := fun w h => ⟨List.mem_append_left _ h, gW_in h⟩
  intro w hw
  unfold va_wsS at hw
  rcases List.mem_append.mp hw with h | h
  · simp only [List.mem_cons, List.not_mem_nil, or_false] at h
    rcases h with rfl | rfl | rfl
    · exact g0 _ (mW16 (List.mem_of_getElem? (i := 56) rfl))
    · exact g0 _ (mW16 (List.mem_of_getElem? (i := 57) rfl))
    · exact g0 _ (mW16 (List.mem_of_getElem? (i := 58) rfl))
  · rcases List.mem_cons.mp h with rfl | h
    · exact g0 _ (mW16 (List.mem_of_getElem? (i := 2) rfl))
    · rcases List.mem_cons.mp h with rfl | h
      · exact g0 _ (mW7 (List.mem_of_getElem? (i := 55) rfl))
      · rcases List.mem_cons.mp h with rfl | h
        · exact g0 _ (mW15 (List.mem_of_getElem? (i := 62) rfl))
        · refine ⟨h, ?_⟩
          rcases List.mem_append.mp h with h | h
          · exact gW_in h
          · exact good_of_word (List.mem_filter.mp h).2
theorem law_A (hF : LFx p l s m args c D cy S P0 T b Lx xs cL) (hH : LH D cy S ao cL H L lv I A M J B g) (hS : va_S S s.heap H locs) (hp : CI I A) {s0 i0 w0 : Int} (hs0 : inI s0) (hi0 : inI i0) (hw0 : inI w0) (hla : la.size = 7) (hroom : (rest.map fun v => v.category).sum ≤ 8) (hc : cells + 1 ≤ 601024 ∧ slots + 6 ≤ 7293034) (hd : decode cL_law pc = .ok (.invokestatic 79, 3))
    (kk : ∀ x I' A' g' H1 locs1, CQ I A I' A' → LH D cy S ao cL H1 L lv I' A' M J B g' → va_S S s.heap H1 locs1 → W p l e room_1 s m args below meth c H1 locs1 (cells + 1) (slots + 6) Qf (F0 m (pc + 3) la (.int (oI x) :: rest))) :
    W p l e room_1 s m args below meth c H locs cells slots Qf (F0 m pc la (.ref ao :: .int (oI w0) :: .int (oI i0) :: .int (oI s0) :: .ref (L 0) :: rest)) := by
  obtain ⟨CF, ⟨hK, -, -, -, hKE, hKL⟩, hWX, hSz, -, hfl⟩ := hF
  have hH0 := hH
  obtain ⟨⟨a1, a2, a3⟩, ⟨b1, b2, b3⟩, ⟨c1, c2, c3⟩, ⟨d1, d2, d3⟩, e1, e2⟩ := hH
  have hPn : va_P D vwCl (apw (wd cy L lv I A) (ow ao cL g)) H := va_P.app a1 a3
  have hap : apt L lv (ow ao cL g) := apt_1 c2
  have hDn : va_D S (apw (wd cy L lv I A) (ow ao cL g)) := va_D.app b1 (D_1 b3) (fun i j x z hx hz he => by
    obtain ⟨r, hr, e3⟩ := wd_ix hx
    exact hap j z hz r hr (by rw [← he]; exact e3))
  have hfree : ∀ z, va_A (apw (wd cy L lv I A) (ow ao cL g)) H.size z → S z := fun z hz => by
    rcases hz with ⟨k, e3, hk⟩ | hz
    · exact hDn.2 k _ hk
    · exact hSz z (Nat.le_trans hS.1 hz)
  have hMet := c_Lat (l := l) hfl (T := T) (D := D) (cy := cy) (L := L) (ao := ao) (cL := cL) (g := g) (sz := H.size) d3 d1 d2 hp hs0 hi0 hw0
  have cw := vx_cwSW (R := room_1) (own := RL) (index := 79) (y := yL_at) (bytes := cL_at) (maxL := 6) (ret := some .int) (hh := [(0, 12, 15, 13)]) (rm := rmD 8 (1, 6)) (mc := 1) (ms := 6) 5 hWX gdLA rfl rfl rfl (by decide +kernel) ⟨by decide, by decide⟩
  have hrun := vx_runSW (g := F0 m pc la (.ref ao :: .int (oI w0) :: .int (oI i0) :: .int (oI s0) :: .ref (L 0) :: rest)) (locs := locs) (H := H) (As := [.ref (L 0), .int (oI s0), .int (oI i0), .int (oI w0), .ref ao]) (rest := rest) (p := p) (e := e) (below := below) (meth := meth) (cells := cells) (slots := slots) CF hMet cw
    ⟨PcL_blind, fun U hU hW => ⟨rfl, ⟨by rw [hU], by rw [hU]; exact hPn, KK.warm hW hK, va_K.moved hW.alike hKL, hDn.weaken (fun _ _ _ _ => trivial)⟩, by rw [hU]; exact ((hKE.kept hS.2.1).narrow hfree).warm hW⟩⟩ rfl rfl hla rfl (lv_room hroom) hd hc
  intro T0 hT Xs
  obtain ⟨v, st₀, t, T', Lc', h0, X', hL', f1, f2, ⟨⟨x, I', A', g', hv, hI', hA', h77, hQ, hP'⟩, hz, hk⟩, stp⟩ := hrun T0 hT Xs
  cases hv
  rw [h0] at hz hk
  have hPM : va_P D vwCl (wd cy M (rl 300 12) J B) T'.heap := fun k q hq => (a2 k q hq).kept (by
    rw [f1]
    refine hk q.1 (a2 k q hq).lt (fun h => ?_)
    obtain ⟨x2, hx2, e5⟩ := wd_ix hq
    rcases h with ⟨k2, e3, h⟩ | h
    · by_cases hlt : k2 < (wd cy L lv I A).length
      · unfold apw at h
        rw [List.getElem?_append_left hlt] at h
        obtain ⟨r, hr, e4⟩ := wd_ix h
        exact c1 r hr x2 hx2 (e5.symm.trans e4)
      · unfold apw at h
        rw [List.getElem?_append_right (by omega)] at h
        have h1 : k2 - (wd cy L lv I A).length < 1 := (List.getElem?_eq_some_iff.mp h).1
        unfold ow at h
        rw [show k2 - (wd cy L lv I A).length = 0 by omega] at h
        have := congrArg Prod.fst (Option.some.inj h)
        exact c3 x2 hx2 (this.trans e5)
    · have := (a2 k q hq).lt
      omega)
  have hPc : va_P D vwCl (apw (wd cy L lv I' A') (ow ao cL g')) T'.heap := by rw [f1]; exact hP'
  obtain ⟨t2, z1, z2⟩ := kk x I' A' g' T'.heap (locs ++ Lc') hQ ⟨⟨P_pre hPc, hPM, P_suf hPc⟩, ⟨wd_D b1, b2, b3⟩, ⟨c1, c2, c3⟩, ⟨hI', hA', d3.eq h77⟩, e1, e2⟩ (run_S (st₀ := st₀) hfree hS f1 hz hk hL') T' rfl X'
  exact ⟨t2, stp t2 z1, z2⟩
end LX
