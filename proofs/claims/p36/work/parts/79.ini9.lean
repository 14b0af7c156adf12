def pX9 : List Nat := [7, 1, 3, 10005, 10201, 10201, 10201, 10201, 10201, 11005, 10201, 40005, 6, 10005, 10025, 4, 10060, 9, 10201, 2, 10201, 10201, 10201, 10201, 10201, 6, 10005, 10025, 4, 10060, 9, 10201, 2, 10201, 10201, 10201, 10201, 10201, 6, 10005, 10025, 4, 10060, 9, 10201, 2, 10201, 10201, 10201, 10201, 10201, 6, 10005, 10025, 4, 10060, 9, 10201, 2, 10201, 10201, 10201, 10201, 10201, 6, 10005, 10025, 4, 10060, 9, 10201, 2, 10201, 10201, 10201, 10201, 10201, 50002, 30002, 2, 10201, 10201, 10201, 10201, 10201, 0, 10005, 10201, 10201, 10201, 5, 10400, 20000, 20400, 10201, 10201, 10201]
def fX9 (r : Nat) (a : Nat) (L1 : Nat → Nat) (b77 : Nat) (b78 : Nat) (L79 : Nat → Nat) (L85 : Nat → Nat) (L90 : Nat → Nat) (b93 : Nat) (b94 : Nat) (b95 : Nat) (b96 : Nat) : Nat → Nat := fun i => if i = 0 then a else if i < 77 then L1 (r + i) else if i < 78 then b77 else if i < 79 then b78 else if i < 85 then L79 (r + i) else if i < 90 then L85 (r + i) else if i < 93 then L90 (r + i) else if i < 94 then b93 else if i < 95 then b94 else if i < 96 then b95 else b96
set_option maxHeartbeats 8000000 in
set_option maxRecDepth 100000 in
theorem i_X9 : MetN yX9_init (.code yX9_init cX9_init 1 none :: W0) 5 7 [.null, .null, .null, .null, .null, .null, .null, .int 0, .int 0, .null, .null, .null] 0 97 96 11824 POC := by
  refine MetN_of (by decide) rfl (fun a => by simp [lg_sl, Value.category]) ?_
  intro p l e s m args below meth c la D cy a S hSe hF hl hSz hP hD hS
  obtain ⟨CF, hr0, hlk, hin, hK, hKA⟩ := hF
  have CF0 := CF
  obtain ⟨hx, hb, hml, hown, hts⟩ := CF0
  have hla : la.size = 1 := hl.1
  obtain ⟨r, hre⟩ : ∃ r : Nat, r = 0 := ⟨_, rfl⟩
  have hr : rkp r pX9 := by
    subst hre
    unfold rkp
    decide +kernel
  refine lv_aload_n hx hb dX9_init_0 rfl (lv_at hl 0 rfl) ?_
  refine W.objInit hx hb hown (hts _ (List.mem_cons_of_mem _ (mW5 (List.mem_of_getElem? (i := 28) rfl)))) (hts _ (List.mem_cons_of_mem _ (mW0 (List.mem_of_getElem? (i := 2) rfl)))) (hts _ (List.mem_cons_of_mem _ (mW0 (List.mem_of_getElem? (i := 3) rfl)))) rfl (by rw [hml]; exact hl.1) rfl dX9_init_1 (by decide) (Nat.le_of_ble_eq_true rfl) ?_
  refine W.eq (g2 := F0 m 4 la []) rfl ?_
  refine lv_aload_n hx hb dX9_init_4 rfl (lv_at hl 0 rfl) ?_
  refine w_new CF hK (X := ((a, .inr (7, [.null, .null, .null, .null, .null, .null, .null, .int 0, .int 0, .null, .null, .null])) :: [])) hP hD hS hSz (C := RX3) (T := TX3) (N := 3) (ci := 1) rfl infX3 tyX3 tyX3_ok (List.mem_cons_of_mem _ (mW5 (List.mem_of_getElem? (i := 29) rfl))) (List.mem_cons_of_mem _ (mW5 (List.mem_of_getElem? (i := 30) rfl))) (List.mem_cons_of_mem _ (mW0 (List.mem_of_getElem? (i := 38) rfl))) (fs := [.null, .null, .int 0]) (by decide +kernel) (by decide +kernel) (by decide +kernel) dX9_init_5 dX9_init_8 ?_
  intro q H2 hP hD hS
  refine w_ctorI (i_X3 (r := r + 1) (rkp_sub hr (o := 1) (by decide) (by decide +kernel))) (by decide) (by decide) CF hK hKA (mW1 (List.mem_of_getElem? (i := 41) rfl)) (mW0 (List.mem_of_getElem? (i := 38) rfl)) (mW5 (List.mem_of_getElem? (i := 47) rfl)) (mW5 (List.mem_of_getElem? (i := 48) rfl)) rfl (n := 0) (by decide +kernel) rfl hla (by simp [Value.category]) (X := ((a, .inr (7, [.null, .null, .null, .null, .null, .null, .null, .int 0, .int 0, .null, .null, .null])) :: [])) hP hD hS hSz ⟨by decide +kernel, by decide +kernel⟩ dX9_init_9 ?_
  intro L1 H2 locs2 hq hP9 hD9 hS9
  subst hq
  replace hP : va_P D vwCl ((a, .inr (7, [.null, .null, .null, .null, .null, .null, .null, .int 0, .int 0, .null, .null, .null])) :: (BD cy L1 (r + 1) 76)) H2 := hP9
  replace hD : va_D S ((a, .inr (7, [.null, .null, .null, .null, .null, .null, .null, .int 0, .int 0, .null, .null, .null])) :: (BD cy L1 (r + 1) 76)) := hD9
  replace hS := hS9
  refine w_putF CF hK hin (a := a) (ci := 7) (fs := [.null, .null, .null, .null, .null, .null, .null, .int 0, .int 0, .null, .null, .null]) (B := (BD cy L1 (r + 1) 76)) hP hD hS (v := .ref (L1 (r + 1))) (ftX9_ok (12, 7, 0, 1, 1, 1) (by decide)).1 rfl rfl rfl rfl (tyX9_ok 0 (by decide)) rfl rfl (by simp) dX9_init_12 ?_
  intro H2 locs2 hP hD hS
  refine W.eq (g2 := F0 m 15 la []) rfl ?_
  replace hP : va_P D vwCl ((a, .inr (7, [.ref (L1 (r + 1)), .null, .null, .null, .null, .null, .null, .int 0, .int 0, .null, .null, .null])) :: (BD cy L1 (r + 1) 76)) H2 := hP
  replace hD : va_D S ((a, .inr (7, [.ref (L1 (r + 1)), .null, .null, .null, .null, .null, .null, .int 0, .int 0, .null, .null, .null])) :: (BD cy L1 (r + 1) 76)) := hD
  refine lv_aload_n hx hb dX9_init_15 rfl (lv_at hl 0 rfl) ?_
  refine lv_iconst hx hb dX9_init_16 (v := 2) (by decide +kernel) ?_
  refine w_nq CF hK (X := ((a, .inr (7, [.ref (L1 (r + 1)), .null, .null, .null, .null, .null, .null, .int 0, .int 0, .null, .null, .null])) :: (BD cy L1 (r + 1) 76))) hP hD hS hSz (C := RX3) (Or.inr ⟨rfl, rfl⟩) hKA.2 (List.mem_cons_of_mem _ (mW5 (List.mem_of_getElem? (i := 29) rfl))) (by decide) (N := 2) (by decide +kernel) (by decide +kernel) (by decide +kernel) (by decide +kernel) dX9_init_17 ?_
  intro b77 H2 hP hD hS
  replace hP : va_P D vwCl ((a, .inr (7, [.ref (L1 (r + 1)), .null, .null, .null, .null, .null, .null, .int 0, .int 0, .null, .null, .null])) :: (apw (BD cy L1 (r + 1) 76) ([(b77, .inl (cy 5, 2, .inr (.inr (.inr (.inr (fun _ => none))))))]))) H2 := hP
  replace hD : va_D S ((a, .inr (7, [.ref (L1 (r + 1)), .null, .null, .null, .null, .null, .null, .int 0, .int 0, .null, .null, .null])) :: (apw (BD cy L1 (r + 1) 76) ([(b77, .inl (cy 5, 2, .inr (.inr (.inr (.inr (fun _ => none))))))]))) := hD
  refine w_putF CF hK hin (a := a) (ci := 7) (fs := [.ref (L1 (r + 1)), .null, .null, .null, .null, .null, .null, .int 0, .int 0, .null, .null, .null]) (B := (apw (BD cy L1 (r + 1) 76) ([(b77, .inl (cy 5, 2, .inr (.inr (.inr (.inr (fun _ => none))))))]))) hP hD hS (v := .ref b77) (ftX9_ok (16, 7, 1, 1, 50002, 77) (by decide)).1 rfl rfl rfl rfl (tyX9_ok 1 (by decide)) rfl rfl (by simp) dX9_init_20 ?_
  intro H2 locs2 hP hD hS
  refine W.eq (g2 := F0 m 23 la []) rfl ?_
  replace hP : va_P D vwCl ((a, .inr (7, [.ref (L1 (r + 1)), .ref b77, .null, .null, .null, .null, .null, .int 0, .int 0, .null, .null, .null])) :: (apw (BD cy L1 (r + 1) 76) ([(b77, .inl (cy 5, 2, .inr (.inr (.inr (.inr (fun _ => none))))))]))) H2 := hP
  replace hD : va_D S ((a, .inr (7, [.ref (L1 (r + 1)), .ref b77, .null, .null, .null, .null, .null, .int 0, .int 0, .null, .null, .null])) :: (apw (BD cy L1 (r + 1) 76) ([(b77, .inl (cy 5, 2, .inr (.inr (.inr (.inr (fun _ => none))))))]))) := hD
  refine lv_aload_n hx hb dX9_init_23 rfl (lv_at hl 0 rfl) ?_
  refine lv_iconst hx hb dX9_init_24 (v := 2) (by decide +kernel) ?_
  refine w_na CF hK (X := ((a, .inr (7, [.ref (L1 (r + 1)), .ref b77, .null, .null, .null, .null, .null, .int 0, .int 0, .null, .null, .null])) :: (apw (BD cy L1 (r + 1) 76) ([(b77, .inl (cy 5, 2, .inr (.inr (.inr (.inr (fun _ => none))))))])))) hP hD hS hSz (Or.inr (Or.inr ⟨rfl, rfl⟩)) (List.mem_cons_of_mem _ (mW5 (List.mem_of_getElem? (i := 33) rfl))) (by decide) (N := 2) (by decide +kernel) (by decide +kernel) (by decide +kernel) (by decide +kernel) dX9_init_25 ?_
  intro b78 H2 hP hD hS
  replace hP : va_P D vwCl ((a, .inr (7, [.ref (L1 (r + 1)), .ref b77, .null, .null, .null, .null, .null, .int 0, .int 0, .null, .null, .null])) :: (apw (apw (BD cy L1 (r + 1) 76) ([(b77, .inl (cy 5, 2, .inr (.inr (.inr (.inr (fun _ => none))))))])) ([(b78, .inl (cy 3, 2, .inl (fun _ => 0)))]))) H2 := hP
  replace hD : va_D S ((a, .inr (7, [.ref (L1 (r + 1)), .ref b77, .null, .null, .null, .null, .null, .int 0, .int 0, .null, .null, .null])) :: (apw (apw (BD cy L1 (r + 1) 76) ([(b77, .inl (cy 5, 2, .inr (.inr (.inr (.inr (fun _ => none))))))])) ([(b78, .inl (cy 3, 2, .inl (fun _ => 0)))]))) := hD
  refine w_putF CF hK hin (a := a) (ci := 7) (fs := [.ref (L1 (r + 1)), .ref b77, .null, .null, .null, .null, .null, .int 0, .int 0, .null, .null, .null]) (B := (apw (apw (BD cy L1 (r + 1) 76) ([(b77, .inl (cy 5, 2, .inr (.inr (.inr (.inr (fun _ => none))))))])) ([(b78, .inl (cy 3, 2, .inl (fun _ => 0)))]))) hP hD hS (v := .ref b78) (ftX9_ok (20, 7, 2, 1, 30002, 78) (by decide)).1 rfl rfl rfl rfl (tyX9_ok 2 (by decide)) rfl rfl (by simp) dX9_init_27 ?_
  intro H2 locs2 hP hD hS
  refine W.eq (g2 := F0 m 30 la []) rfl ?_
  replace hP : va_P D vwCl ((a, .inr (7, [.ref (L1 (r + 1)), .ref b77, .ref b78, .null, .null, .null, .null, .int 0, .int 0, .null, .null, .null])) :: (apw (apw (BD cy L1 (r + 1) 76) ([(b77, .inl (cy 5, 2, .inr (.inr (.inr (.inr (fun _ => none))))))])) ([(b78, .inl (cy 3, 2, .inl (fun _ => 0)))]))) H2 := hP
  replace hD : va_D S ((a, .inr (7, [.ref (L1 (r + 1)), .ref b77, .ref b78, .null, .null, .null, .null, .int 0, .int 0, .null, .null, .null])) :: (apw (apw (BD cy L1 (r + 1) 76) ([(b77, .inl (cy 5, 2, .inr (.inr (.inr (.inr (fun _ => none))))))])) ([(b78, .inl (cy 3, 2, .inl (fun _ => 0)))]))) := hD
  refine lv_aload_n hx hb dX9_init_30 rfl (lv_at hl 0 rfl) ?_
  refine w_new CF hK (X := ((a, .inr (7, [.ref (L1 (r + 1)), .ref b77, .ref b78, .null, .null, .null, .null, .int 0, .int 0, .null, .null, .null])) :: (apw (apw (BD cy L1 (r + 1) 76) ([(b77, .inl (cy 5, 2, .inr (.inr (.inr (.inr (fun _ => none))))))])) ([(b78, .inl (cy 3, 2, .inl (fun _ => 0)))])))) hP hD hS hSz (C := RX4) (T := TX4) (N := 5) (ci := 2) rfl infX4 tyX4 tyX4_ok (List.mem_cons_of_mem _ (mW5 (List.mem_of_getElem? (i := 35) rfl))) (List.mem_cons_of_mem _ (mW1 (List.mem_of_getElem? (i := 26) rfl))) (List.mem_cons_of_mem _ (mW0 (List.mem_of_getElem? (i := 57) rfl))) (fs := [.null, .null, .null, .null, .null]) (by decide +kernel) (by decide +kernel) (by decide +kernel) dX9_init_31 dX9_init_34 ?_
  intro q H2 hP hD hS
  refine w_ctorN (host := RX9) (i_X4 (r := r + 79) (rkp_sub hr (o := 79) (by decide) (by decide +kernel))) (by decide) (by decide) CF hK hKA (mW1 (List.mem_of_getElem? (i := 11) rfl)) (mW0 (List.mem_of_getElem? (i := 57) rfl)) (by decide) (mW1 (List.mem_of_getElem? (i := 30) rfl)) rfl (n := 0) (by decide +kernel) rfl hla (by simp [Value.category]) (X := ((a, .inr (7, [.ref (L1 (r + 1)), .ref b77, .ref b78, .null, .null, .null, .null, .int 0, .int 0, .null, .null, .null])) :: (apw (apw (BD cy L1 (r + 1) 76) ([(b77, .inl (cy 5, 2, .inr (.inr (.inr (.inr (fun _ => none))))))])) ([(b78, .inl (cy 3, 2, .inl (fun _ => 0)))])))) hP hD hS hSz ⟨by decide +kernel, by decide +kernel⟩ dX9_init_35 ?_
  intro L79 H2 locs2 hq hP9 hD9 hS9
  subst hq
  replace hP : va_P D vwCl ((a, .inr (7, [.ref (L1 (r + 1)), .ref b77, .ref b78, .null, .null, .null, .null, .int 0, .int 0, .null, .null, .null])) :: (apw (apw (apw (BD cy L1 (r + 1) 76) ([(b77, .inl (cy 5, 2, .inr (.inr (.inr (.inr (fun _ => none))))))])) ([(b78, .inl (cy 3, 2, .inl (fun _ => 0)))])) (BD cy L79 (r + 79) 6))) H2 := hP9
  replace hD : va_D S ((a, .inr (7, [.ref (L1 (r + 1)), .ref b77, .ref b78, .null, .null, .null, .null, .int 0, .int 0, .null, .null, .null])) :: (apw (apw (apw (BD cy L1 (r + 1) 76) ([(b77, .inl (cy 5, 2, .inr (.inr (.inr (.inr (fun _ => none))))))])) ([(b78, .inl (cy 3, 2, .inl (fun _ => 0)))])) (BD cy L79 (r + 79) 6))) := hD9
  replace hS := hS9
  refine w_putF CF hK hin (a := a) (ci := 7) (fs := [.ref (L1 (r + 1)), .ref b77, .ref b78, .null, .null, .null, .null, .int 0, .int 0, .null, .null, .null]) (B := (apw (apw (apw (BD cy L1 (r + 1) 76) ([(b77, .inl (cy 5, 2, .inr (.inr (.inr (.inr (fun _ => none))))))])) ([(b78, .inl (cy 3, 2, .inl (fun _ => 0)))])) (BD cy L79 (r + 79) 6))) hP hD hS (v := .ref (L79 (r + 79))) (ftX9_ok (27, 7, 3, 1, 2, 79) (by decide)).1 rfl rfl rfl rfl (tyX9_ok 3 (by decide)) rfl rfl (by simp) dX9_init_38 ?_
  intro H2 locs2 hP hD hS
  refine W.eq (g2 := F0 m 41 la []) rfl ?_
  replace hP : va_P D vwCl ((a, .inr (7, [.ref (L1 (r + 1)), .ref b77, .ref b78, .ref (L79 (r + 79)), .null, .null, .null, .int 0, .int 0, .null, .null, .null])) :: (apw (apw (apw (BD cy L1 (r + 1) 76) ([(b77, .inl (cy 5, 2, .inr (.inr (.inr (.inr (fun _ => none))))))])) ([(b78, .inl (cy 3, 2, .inl (fun _ => 0)))])) (BD cy L79 (r + 79) 6))) H2 := hP
  replace hD : va_D S ((a, .inr (7, [.ref (L1 (r + 1)), .ref b77, .ref b78, .ref (L79 (r + 79)), .null, .null, .null, .int 0, .int 0, .null, .null, .null])) :: (apw (apw (apw (BD cy L1 (r + 1) 76) ([(b77, .inl (cy 5, 2, .inr (.inr (.inr (.inr (fun _ => none))))))])) ([(b78, .inl (cy 3, 2, .inl (fun _ => 0)))])) (BD cy L79 (r + 79) 6))) := hD
  refine lv_aload_n hx hb dX9_init_41 rfl (lv_at hl 0 rfl) ?_
  refine w_new CF hK (X := ((a, .inr (7, [.ref (L1 (r + 1)), .ref b77, .ref b78, .ref (L79 (r + 79)), .null, .null, .null, .int 0, .int 0, .null, .null, .null])) :: (apw (apw (apw (BD cy L1 (r + 1) 76) ([(b77, .inl (cy 5, 2, .inr (.inr (.inr (.inr (fun _ => none))))))])) ([(b78, .inl (cy 3, 2, .inl (fun _ => 0)))])) (BD cy L79 (r + 79) 6)))) hP hD hS hSz (C := RX1) (T := TX1) (N := 4) (ci := 0) rfl infX1 tyX1 tyX1_ok (List.mem_cons_of_mem _ (mW5 (List.mem_of_getElem? (i := 37) rfl))) (List.mem_cons_of_mem _ (mW5 (List.mem_of_getElem? (i := 38) rfl))) (List.mem_cons_of_mem _ (mW0 (List.mem_of_getElem? (i := 42) rfl))) (fs := [.null, .null, .null, .null]) (by decide +kernel) (by decide +kernel) (by decide +kernel) dX9_init_42 dX9_init_45 ?_
  intro q H2 hP hD hS
  refine w_ctorN (host := RX9) (i_X1 (r := r + 85) (rkp_sub hr (o := 85) (by decide) (by decide +kernel))) (by decide) (by decide) CF hK hKA (mW0 (List.mem_of_getElem? (i := 0) rfl)) (mW0 (List.mem_of_getElem? (i := 42) rfl)) (by decide) (mW5 (List.mem_of_getElem? (i := 49) rfl)) rfl (n := 0) (by decide +kernel) rfl hla (by simp [Value.category]) (X := ((a, .inr (7, [.ref (L1 (r + 1)), .ref b77, .ref b78, .ref (L79 (r + 79)), .null, .null, .null, .int 0, .int 0, .null, .null, .null])) :: (apw (apw (apw (BD cy L1 (r + 1) 76) ([(b77, .inl (cy 5, 2, .inr (.inr (.inr (.inr (fun _ => none))))))])) ([(b78, .inl (cy 3, 2, .inl (fun _ => 0)))])) (BD cy L79 (r + 79) 6)))) hP hD hS hSz ⟨by decide +kernel, by decide +kernel⟩ dX9_init_46 ?_
  intro L85 H2 locs2 hq hP9 hD9 hS9
  subst hq
  replace hP : va_P D vwCl ((a, .inr (7, [.ref (L1 (r + 1)), .ref b77, .ref b78, .ref (L79 (r + 79)), .null, .null, .null, .int 0, .int 0, .null, .null, .null])) :: (apw (apw (apw (apw (BD cy L1 (r + 1) 76) ([(b77, .inl (cy 5, 2, .inr (.inr (.inr (.inr (fun _ => none))))))])) ([(b78, .inl (cy 3, 2, .inl (fun _ => 0)))])) (BD cy L79 (r + 79) 6)) (BD cy L85 (r + 85) 5))) H2 := hP9
  replace hD : va_D S ((a, .inr (7, [.ref (L1 (r + 1)), .ref b77, .ref b78, .ref (L79 (r + 79)), .null, .null, .null, .int 0, .int 0, .null, .null, .null])) :: (apw (apw (apw (apw (BD cy L1 (r + 1) 76) ([(b77, .inl (cy 5, 2, .inr (.inr (.inr (.inr (fun _ => none))))))])) ([(b78, .inl (cy 3, 2, .inl (fun _ => 0)))])) (BD cy L79 (r + 79) 6)) (BD cy L85 (r + 85) 5))) := hD9
  replace hS := hS9
  refine w_putF CF hK hin (a := a) (ci := 7) (fs := [.ref (L1 (r + 1)), .ref b77, .ref b78, .ref (L79 (r + 79)), .null, .null, .null, .int 0, .int 0, .null, .null, .null]) (B := (apw (apw (apw (apw (BD cy L1 (r + 1) 76) ([(b77, .inl (cy 5, 2, .inr (.inr (.inr (.inr (fun _ => none))))))])) ([(b78, .inl (cy 3, 2, .inl (fun _ => 0)))])) (BD cy L79 (r + 79) 6)) (BD cy L85 (r + 85) 5))) hP hD hS (v := .ref (L85 (r + 85))) (ftX9_ok (34, 7, 4, 1, 0, 85) (by decide)).1 rfl rfl rfl rfl (tyX9_ok 4 (by decide)) rfl rfl (by simp) dX9_init_49 ?_
  intro H2 locs2 hP hD hS
  refine W.eq (g2 := F0 m 52 la []) rfl ?_
  replace hP : va_P D vwCl ((a, .inr (7, [.ref (L1 (r + 1)), .ref b77, .ref b78, .ref (L79 (r + 79)), .ref (L85 (r + 85)), .null, .null, .int 0, .int 0, .null, .null, .null])) :: (apw (apw (apw (apw (BD cy L1 (r + 1) 76) ([(b77, .inl (cy 5, 2, .inr (.inr (.inr (.inr (fun _ => none))))))])) ([(b78, .inl (cy 3, 2, .inl (fun _ => 0)))])) (BD cy L79 (r + 79) 6)) (BD cy L85 (r + 85) 5))) H2 := hP
  replace hD : va_D S ((a, .inr (7, [.ref (L1 (r + 1)), .ref b77, .ref b78, .ref (L79 (r + 79)), .ref (L85 (r + 85)), .null, .null, .int 0, .int 0, .null, .null, .null])) :: (apw (apw (apw (apw (BD cy L1 (r + 1) 76) ([(b77, .inl (cy 5, 2, .inr (.inr (.inr (.inr (fun _ => none))))))])) ([(b78, .inl (cy 3, 2, .inl (fun _ => 0)))])) (BD cy L79 (r + 79) 6)) (BD cy L85 (r + 85) 5))) := hD
  refine lv_aload_n hx hb dX9_init_52 rfl (lv_at hl 0 rfl) ?_
  refine w_new CF hK (X := ((a, .inr (7, [.ref (L1 (r + 1)), .ref b77, .ref b78, .ref (L79 (r + 79)), .ref (L85 (r + 85)), .null, .null, .int 0, .int 0, .null, .null, .null])) :: (apw (apw (apw (apw (BD cy L1 (r + 1) 76) ([(b77, .inl (cy 5, 2, .inr (.inr (.inr (.inr (fun _ => none))))))])) ([(b78, .inl (cy 3, 2, .inl (fun _ => 0)))])) (BD cy L79 (r + 79) 6)) (BD cy L85 (r + 85) 5)))) hP hD hS hSz (C := RX7) (T := TX7) (N := 6) (ci := 5) rfl infX7 tyX7 tyX7_ok (List.mem_cons_of_mem _ (mW5 (List.mem_of_getElem? (i := 40) rfl))) (List.mem_cons_of_mem _ (mW5 (List.mem_of_getElem? (i := 41) rfl))) (List.mem_cons_of_mem _ (mW3 (List.mem_of_getElem? (i := 32) rfl))) (fs := [.null, .int 0, .int 0, .null, .int 0, .int 0]) (by decide +kernel) (by decide +kernel) (by decide +kernel) dX9_init_53 dX9_init_56 ?_
  intro q H2 hP hD hS
  refine w_ctorI (i_X7 (r := r + 90) (rkp_sub hr (o := 90) (by decide) (by decide +kernel))) (by decide) (by decide) CF hK hKA (mW3 (List.mem_of_getElem? (i := 20) rfl)) (mW3 (List.mem_of_getElem? (i := 32) rfl)) (mW5 (List.mem_of_getElem? (i := 50) rfl)) (mW5 (List.mem_of_getElem? (i := 51) rfl)) rfl (n := 0) (by decide +kernel) rfl hla (by simp [Value.category]) (X := ((a, .inr (7, [.ref (L1 (r + 1)), .ref b77, .ref b78, .ref (L79 (r + 79)), .ref (L85 (r + 85)), .null, .null, .int 0, .int 0, .null, .null, .null])) :: (apw (apw (apw (apw (BD cy L1 (r + 1) 76) ([(b77, .inl (cy 5, 2, .inr (.inr (.inr (.inr (fun _ => none))))))])) ([(b78, .inl (cy 3, 2, .inl (fun _ => 0)))])) (BD cy L79 (r + 79) 6)) (BD cy L85 (r + 85) 5)))) hP hD hS hSz ⟨by decide +kernel, by decide +kernel⟩ dX9_init_57 ?_
  intro L90 H2 locs2 hq hP9 hD9 hS9
  subst hq
  replace hP : va_P D vwCl ((a, .inr (7, [.ref (L1 (r + 1)), .ref b77, .ref b78, .ref (L79 (r + 79)), .ref (L85 (r + 85)), .null, .null, .int 0, .int 0, .null, .null, .null])) :: (apw (apw (apw (apw (apw (BD cy L1 (r + 1) 76) ([(b77, .inl (cy 5, 2, .inr (.inr (.inr (.inr (fun _ => none))))))])) ([(b78, .inl (cy 3, 2, .inl (fun _ => 0)))])) (BD cy L79 (r + 79) 6)) (BD cy L85 (r + 85) 5)) (BD cy L90 (r + 90) 3))) H2 := hP9
  replace hD : va_D S ((a, .inr (7, [.ref (L1 (r + 1)), .ref b77, .ref b78, .ref (L79 (r + 79)), .ref (L85 (r + 85)), .null, .null, .int 0, .int 0, .null, .null, .null])) :: (apw (apw (apw (apw (apw (BD cy L1 (r + 1) 76) ([(b77, .inl (cy 5, 2, .inr (.inr (.inr (.inr (fun _ => none))))))])) ([(b78, .inl (cy 3, 2, .inl (fun _ => 0)))])) (BD cy L79 (r + 79) 6)) (BD cy L85 (r + 85) 5)) (BD cy L90 (r + 90) 3))) := hD9
  replace hS := hS9
  refine w_putF CF hK hin (a := a) (ci := 7) (fs := [.ref (L1 (r + 1)), .ref b77, .ref b78, .ref (L79 (r + 79)), .ref (L85 (r + 85)), .null, .null, .int 0, .int 0, .null, .null, .null]) (B := (apw (apw (apw (apw (apw (BD cy L1 (r + 1) 76) ([(b77, .inl (cy 5, 2, .inr (.inr (.inr (.inr (fun _ => none))))))])) ([(b78, .inl (cy 3, 2, .inl (fun _ => 0)))])) (BD cy L79 (r + 79) 6)) (BD cy L85 (r + 85) 5)) (BD cy L90 (r + 90) 3))) hP hD hS (v := .ref (L90 (r + 90))) (ftX9_ok (41, 7, 5, 1, 5, 90) (by decide)).1 rfl rfl rfl rfl (tyX9_ok 5 (by decide)) rfl rfl (by simp) dX9_init_60 ?_
  intro H2 locs2 hP hD hS
  refine W.eq (g2 := F0 m 63 la []) rfl ?_
  replace hP : va_P D vwCl ((a, .inr (7, [.ref (L1 (r + 1)), .ref b77, .ref b78, .ref (L79 (r + 79)), .ref (L85 (r + 85)), .ref (L90 (r + 90)), .null, .int 0, .int 0, .null, .null, .null])) :: (apw (apw (apw (apw (apw (BD cy L1 (r + 1) 76) ([(b77, .inl (cy 5, 2, .inr (.inr (.inr (.inr (fun _ => none))))))])) ([(b78, .inl (cy 3, 2, .inl (fun _ => 0)))])) (BD cy L79 (r + 79) 6)) (BD cy L85 (r + 85) 5)) (BD cy L90 (r + 90) 3))) H2 := hP
  replace hD : va_D S ((a, .inr (7, [.ref (L1 (r + 1)), .ref b77, .ref b78, .ref (L79 (r + 79)), .ref (L85 (r + 85)), .ref (L90 (r + 90)), .null, .int 0, .int 0, .null, .null, .null])) :: (apw (apw (apw (apw (apw (BD cy L1 (r + 1) 76) ([(b77, .inl (cy 5, 2, .inr (.inr (.inr (.inr (fun _ => none))))))])) ([(b78, .inl (cy 3, 2, .inl (fun _ => 0)))])) (BD cy L79 (r + 79) 6)) (BD cy L85 (r + 85) 5)) (BD cy L90 (r + 90) 3))) := hD
  refine lv_aload_n hx hb dX9_init_63 rfl (lv_at hl 0 rfl) ?_
  refine lv_sipush hx hb dX9_init_64 (v := 400) (by decide +kernel) ?_
  refine w_na CF hK (X := ((a, .inr (7, [.ref (L1 (r + 1)), .ref b77, .ref b78, .ref (L79 (r + 79)), .ref (L85 (r + 85)), .ref (L90 (r + 90)), .null, .int 0, .int 0, .null, .null, .null])) :: (apw (apw (apw (apw (apw (BD cy L1 (r + 1) 76) ([(b77, .inl (cy 5, 2, .inr (.inr (.inr (.inr (fun _ => none))))))])) ([(b78, .inl (cy 3, 2, .inl (fun _ => 0)))])) (BD cy L79 (r + 79) 6)) (BD cy L85 (r + 85) 5)) (BD cy L90 (r + 90) 3)))) hP hD hS hSz (Or.inr (Or.inl ⟨rfl, rfl⟩)) (List.mem_cons_of_mem _ (mW3 (List.mem_of_getElem? (i := 23) rfl))) (by decide) (N := 400) (by decide +kernel) (by decide +kernel) (by decide +kernel) (by decide +kernel) dX9_init_67 ?_
  intro b93 H2 hP hD hS
  replace hP : va_P D vwCl ((a, .inr (7, [.ref (L1 (r + 1)), .ref b77, .ref b78, .ref (L79 (r + 79)), .ref (L85 (r + 85)), .ref (L90 (r + 90)), .null, .int 0, .int 0, .null, .null, .null])) :: (apw (apw (apw (apw (apw (apw (BD cy L1 (r + 1) 76) ([(b77, .inl (cy 5, 2, .inr (.inr (.inr (.inr (fun _ => none))))))])) ([(b78, .inl (cy 3, 2, .inl (fun _ => 0)))])) (BD cy L79 (r + 79) 6)) (BD cy L85 (r + 85) 5)) (BD cy L90 (r + 90) 3)) ([(b93, .inl (cy 2, 400, .inl (fun _ => 0)))]))) H2 := hP
  replace hD : va_D S ((a, .inr (7, [.ref (L1 (r + 1)), .ref b77, .ref b78, .ref (L79 (r + 79)), .ref (L85 (r + 85)), .ref (L90 (r + 90)), .null, .int 0, .int 0, .null, .null, .null])) :: (apw (apw (apw (apw (apw (apw (BD cy L1 (r + 1) 76) ([(b77, .inl (cy 5, 2, .inr (.inr (.inr (.inr (fun _ => none))))))])) ([(b78, .inl (cy 3, 2, .inl (fun _ => 0)))])) (BD cy L79 (r + 79) 6)) (BD cy L85 (r + 85) 5)) (BD cy L90 (r + 90) 3)) ([(b93, .inl (cy 2, 400, .inl (fun _ => 0)))]))) := hD
  refine w_putF CF hK hin (a := a) (ci := 7) (fs := [.ref (L1 (r + 1)), .ref b77, .ref b78, .ref (L79 (r + 79)), .ref (L85 (r + 85)), .ref (L90 (r + 90)), .null, .int 0, .int 0, .null, .null, .null]) (B := (apw (apw (apw (apw (apw (apw (BD cy L1 (r + 1) 76) ([(b77, .inl (cy 5, 2, .inr (.inr (.inr (.inr (fun _ => none))))))])) ([(b78, .inl (cy 3, 2, .inl (fun _ => 0)))])) (BD cy L79 (r + 79) 6)) (BD cy L85 (r + 85) 5)) (BD cy L90 (r + 90) 3)) ([(b93, .inl (cy 2, 400, .inl (fun _ => 0)))]))) hP hD hS (v := .ref b93) (ftX9_ok (45, 7, 6, 1, 20400, 93) (by decide)).1 rfl rfl rfl rfl (tyX9_ok 6 (by decide)) rfl rfl (by simp) dX9_init_69 ?_
  intro H2 locs2 hP hD hS
  refine W.eq (g2 := F0 m 72 la []) rfl ?_
  replace hP : va_P D vwCl ((a, .inr (7, [.ref (L1 (r + 1)), .ref b77, .ref b78, .ref (L79 (r + 79)), .ref (L85 (r + 85)), .ref (L90 (r + 90)), .ref b93, .int 0, .int 0, .null, .null, .null])) :: (apw (apw (apw (apw (apw (apw (BD cy L1 (r + 1) 76) ([(b77, .inl (cy 5, 2, .inr (.inr (.inr (.inr (fun _ => none))))))])) ([(b78, .inl (cy 3, 2, .inl (fun _ => 0)))])) (BD cy L79 (r + 79) 6)) (BD cy L85 (r + 85) 5)) (BD cy L90 (r + 90) 3)) ([(b93, .inl (cy 2, 400, .inl (fun _ => 0)))]))) H2 := hP
  replace hD : va_D S ((a, .inr (7, [.ref (L1 (r + 1)), .ref b77, .ref b78, .ref (L79 (r + 79)), .ref (L85 (r + 85)), .ref (L90 (r + 90)), .ref b93, .int 0, .int 0, .null, .null, .null])) :: (apw (apw (apw (apw (apw (apw (BD cy L1 (r + 1) 76) ([(b77, .inl (cy 5, 2, .inr (.inr (.inr (.inr (fun _ => none))))))])) ([(b78, .inl (cy 3, 2, .inl (fun _ => 0)))])) (BD cy L79 (r + 79) 6)) (BD cy L85 (r + 85) 5)) (BD cy L90 (r + 90) 3)) ([(b93, .inl (cy 2, 400, .inl (fun _ => 0)))]))) := hD
  refine lv_aload_n hx hb dX9_init_72 rfl (lv_at hl 0 rfl) ?_
  refine lv_sipush hx hb dX9_init_73 (v := 201) (by decide +kernel) ?_
  refine w_na CF hK (X := ((a, .inr (7, [.ref (L1 (r + 1)), .ref b77, .ref b78, .ref (L79 (r + 79)), .ref (L85 (r + 85)), .ref (L90 (r + 90)), .ref b93, .int 0, .int 0, .null, .null, .null])) :: (apw (apw (apw (apw (apw (apw (BD cy L1 (r + 1) 76) ([(b77, .inl (cy 5, 2, .inr (.inr (.inr (.inr (fun _ => none))))))])) ([(b78, .inl (cy 3, 2, .inl (fun _ => 0)))])) (BD cy L79 (r + 79) 6)) (BD cy L85 (r + 85) 5)) (BD cy L90 (r + 90) 3)) ([(b93, .inl (cy 2, 400, .inl (fun _ => 0)))])))) hP hD hS hSz (Or.inl ⟨rfl, rfl⟩) (List.mem_cons_of_mem _ (mW0 (List.mem_of_getElem? (i := 4) rfl))) (by decide) (N := 201) (by decide +kernel) (by decide +kernel) (by decide +kernel) (by decide +kernel) dX9_init_76 ?_
  intro b94 H2 hP hD hS
  replace hP : va_P D vwCl ((a, .inr (7, [.ref (L1 (r + 1)), .ref b77, .ref b78, .ref (L79 (r + 79)), .ref (L85 (r + 85)), .ref (L90 (r + 90)), .ref b93, .int 0, .int 0, .null, .null, .null])) :: (apw (apw (apw (apw (apw (apw (apw (BD cy L1 (r + 1) 76) ([(b77, .inl (cy 5, 2, .inr (.inr (.inr (.inr (fun _ => none))))))])) ([(b78, .inl (cy 3, 2, .inl (fun _ => 0)))])) (BD cy L79 (r + 79) 6)) (BD cy L85 (r + 85) 5)) (BD cy L90 (r + 90) 3)) ([(b93, .inl (cy 2, 400, .inl (fun _ => 0)))])) ([(b94, .inl (cy 1, 201, .inl (fun _ => 0)))]))) H2 := hP
  replace hD : va_D S ((a, .inr (7, [.ref (L1 (r + 1)), .ref b77, .ref b78, .ref (L79 (r + 79)), .ref (L85 (r + 85)), .ref (L90 (r + 90)), .ref b93, .int 0, .int 0, .null, .null, .null])) :: (apw (apw (apw (apw (apw (apw (apw (BD cy L1 (r + 1) 76) ([(b77, .inl (cy 5, 2, .inr (.inr (.inr (.inr (fun _ => none))))))])) ([(b78, .inl (cy 3, 2, .inl (fun _ => 0)))])) (BD cy L79 (r + 79) 6)) (BD cy L85 (r + 85) 5)) (BD cy L90 (r + 90) 3)) ([(b93, .inl (cy 2, 400, .inl (fun _ => 0)))])) ([(b94, .inl (cy 1, 201, .inl (fun _ => 0)))]))) := hD
  refine w_putF CF hK hin (a := a) (ci := 7) (fs := [.ref (L1 (r + 1)), .ref b77, .ref b78, .ref (L79 (r + 79)), .ref (L85 (r + 85)), .ref (L90 (r + 90)), .ref b93, .int 0, .int 0, .null, .null, .null]) (B := (apw (apw (apw (apw (apw (apw (apw (BD cy L1 (r + 1) 76) ([(b77, .inl (cy 5, 2, .inr (.inr (.inr (.inr (fun _ => none))))))])) ([(b78, .inl (cy 3, 2, .inl (fun _ => 0)))])) (BD cy L79 (r + 79) 6)) (BD cy L85 (r + 85) 5)) (BD cy L90 (r + 90) 3)) ([(b93, .inl (cy 2, 400, .inl (fun _ => 0)))])) ([(b94, .inl (cy 1, 201, .inl (fun _ => 0)))]))) hP hD hS (v := .ref b94) (ftX9_ok (49, 7, 9, 1, 10201, 94) (by decide)).1 rfl rfl rfl rfl (tyX9_ok 9 (by decide)) rfl rfl (by simp) dX9_init_78 ?_
  intro H2 locs2 hP hD hS
  refine W.eq (g2 := F0 m 81 la []) rfl ?_
  replace hP : va_P D vwCl ((a, .inr (7, [.ref (L1 (r + 1)), .ref b77, .ref b78, .ref (L79 (r + 79)), .ref (L85 (r + 85)), .ref (L90 (r + 90)), .ref b93, .int 0, .int 0, .ref b94, .null, .null])) :: (apw (apw (apw (apw (apw (apw (apw (BD cy L1 (r + 1) 76) ([(b77, .inl (cy 5, 2, .inr (.inr (.inr (.inr (fun _ => none))))))])) ([(b78, .inl (cy 3, 2, .inl (fun _ => 0)))])) (BD cy L79 (r + 79) 6)) (BD cy L85 (r + 85) 5)) (BD cy L90 (r + 90) 3)) ([(b93, .inl (cy 2, 400, .inl (fun _ => 0)))])) ([(b94, .inl (cy 1, 201, .inl (fun _ => 0)))]))) H2 := hP
  replace hD : va_D S ((a, .inr (7, [.ref (L1 (r + 1)), .ref b77, .ref b78, .ref (L79 (r + 79)), .ref (L85 (r + 85)), .ref (L90 (r + 90)), .ref b93, .int 0, .int 0, .ref b94, .null, .null])) :: (apw (apw (apw (apw (apw (apw (apw (BD cy L1 (r + 1) 76) ([(b77, .inl (cy 5, 2, .inr (.inr (.inr (.inr (fun _ => none))))))])) ([(b78, .inl (cy 3, 2, .inl (fun _ => 0)))])) (BD cy L79 (r + 79) 6)) (BD cy L85 (r + 85) 5)) (BD cy L90 (r + 90) 3)) ([(b93, .inl (cy 2, 400, .inl (fun _ => 0)))])) ([(b94, .inl (cy 1, 201, .inl (fun _ => 0)))]))) := hD
  refine lv_aload_n hx hb dX9_init_81 rfl (lv_at hl 0 rfl) ?_
  refine lv_sipush hx hb dX9_init_82 (v := 201) (by decide +kernel) ?_
  refine w_na CF hK (X := ((a, .inr (7, [.ref (L1 (r + 1)), .ref b77, .ref b78, .ref (L79 (r + 79)), .ref (L85 (r + 85)), .ref (L90 (r + 90)), .ref b93, .int 0, .int 0, .ref b94, .null, .null])) :: (apw (apw (apw (apw (apw (apw (apw (BD cy L1 (r + 1) 76) ([(b77, .inl (cy 5, 2, .inr (.inr (.inr (.inr (fun _ => none))))))])) ([(b78, .inl (cy 3, 2, .inl (fun _ => 0)))])) (BD cy L79 (r + 79) 6)) (BD cy L85 (r + 85) 5)) (BD cy L90 (r + 90) 3)) ([(b93, .inl (cy 2, 400, .inl (fun _ => 0)))])) ([(b94, .inl (cy 1, 201, .inl (fun _ => 0)))])))) hP hD hS hSz (Or.inl ⟨rfl, rfl⟩) (List.mem_cons_of_mem _ (mW0 (List.mem_of_getElem? (i := 4) rfl))) (by decide) (N := 201) (by decide +kernel) (by decide +kernel) (by decide +kernel) (by decide +kernel) dX9_init_85 ?_
  intro b95 H2 hP hD hS
  replace hP : va_P D vwCl ((a, .inr (7, [.ref (L1 (r + 1)), .ref b77, .ref b78, .ref (L79 (r + 79)), .ref (L85 (r + 85)), .ref (L90 (r + 90)), .ref b93, .int 0, .int 0, .ref b94, .null, .null])) :: (apw (apw (apw (apw (apw (apw (apw (apw (BD cy L1 (r + 1) 76) ([(b77, .inl (cy 5, 2, .inr (.inr (.inr (.inr (fun _ => none))))))])) ([(b78, .inl (cy 3, 2, .inl (fun _ => 0)))])) (BD cy L79 (r + 79) 6)) (BD cy L85 (r + 85) 5)) (BD cy L90 (r + 90) 3)) ([(b93, .inl (cy 2, 400, .inl (fun _ => 0)))])) ([(b94, .inl (cy 1, 201, .inl (fun _ => 0)))])) ([(b95, .inl (cy 1, 201, .inl (fun _ => 0)))]))) H2 := hP
  replace hD : va_D S ((a, .inr (7, [.ref (L1 (r + 1)), .ref b77, .ref b78, .ref (L79 (r + 79)), .ref (L85 (r + 85)), .ref (L90 (r + 90)), .ref b93, .int 0, .int 0, .ref b94, .null, .null])) :: (apw (apw (apw (apw (apw (apw (apw (apw (BD cy L1 (r + 1) 76) ([(b77, .inl (cy 5, 2, .inr (.inr (.inr (.inr (fun _ => none))))))])) ([(b78, .inl (cy 3, 2, .inl (fun _ => 0)))])) (BD cy L79 (r + 79) 6)) (BD cy L85 (r + 85) 5)) (BD cy L90 (r + 90) 3)) ([(b93, .inl (cy 2, 400, .inl (fun _ => 0)))])) ([(b94, .inl (cy 1, 201, .inl (fun _ => 0)))])) ([(b95, .inl (cy 1, 201, .inl (fun _ => 0)))]))) := hD
  refine w_putF CF hK hin (a := a) (ci := 7) (fs := [.ref (L1 (r + 1)), .ref b77, .ref b78, .ref (L79 (r + 79)), .ref (L85 (r + 85)), .ref (L90 (r + 90)), .ref b93, .int 0, .int 0, .ref b94, .null, .null]) (B := (apw (apw (apw (apw (apw (apw (apw (apw (BD cy L1 (r + 1) 76) ([(b77, .inl (cy 5, 2, .inr (.inr (.inr (.inr (fun _ => none))))))])) ([(b78, .inl (cy 3, 2, .inl (fun _ => 0)))])) (BD cy L79 (r + 79) 6)) (BD cy L85 (r + 85) 5)) (BD cy L90 (r + 90) 3)) ([(b93, .inl (cy 2, 400, .inl (fun _ => 0)))])) ([(b94, .inl (cy 1, 201, .inl (fun _ => 0)))])) ([(b95, .inl (cy 1, 201, .inl (fun _ => 0)))]))) hP hD hS (v := .ref b95) (ftX9_ok (53, 7, 10, 1, 10201, 95) (by decide)).1 rfl rfl rfl rfl (tyX9_ok 10 (by decide)) rfl rfl (by simp) dX9_init_87 ?_
  intro H2 locs2 hP hD hS
  refine W.eq (g2 := F0 m 90 la []) rfl ?_
  replace hP : va_P D vwCl ((a, .inr (7, [.ref (L1 (r + 1)), .ref b77, .ref b78, .ref (L79 (r + 79)), .ref (L85 (r + 85)), .ref (L90 (r + 90)), .ref b93, .int 0, .int 0, .ref b94, .ref b95, .null])) :: (apw (apw (apw (apw (apw (apw (apw (apw (BD cy L1 (r + 1) 76) ([(b77, .inl (cy 5, 2, .inr (.inr (.inr (.inr (fun _ => none))))))])) ([(b78, .inl (cy 3, 2, .inl (fun _ => 0)))])) (BD cy L79 (r + 79) 6)) (BD cy L85 (r + 85) 5)) (BD cy L90 (r + 90) 3)) ([(b93, .inl (cy 2, 400, .inl (fun _ => 0)))])) ([(b94, .inl (cy 1, 201, .inl (fun _ => 0)))])) ([(b95, .inl (cy 1, 201, .inl (fun _ => 0)))]))) H2 := hP
  replace hD : va_D S ((a, .inr (7, [.ref (L1 (r + 1)), .ref b77, .ref b78, .ref (L79 (r + 79)), .ref (L85 (r + 85)), .ref (L90 (r + 90)), .ref b93, .int 0, .int 0, .ref b94, .ref b95, .null])) :: (apw (apw (apw (apw (apw (apw (apw (apw (BD cy L1 (r + 1) 76) ([(b77, .inl (cy 5, 2, .inr (.inr (.inr (.inr (fun _ => none))))))])) ([(b78, .inl (cy 3, 2, .inl (fun _ => 0)))])) (BD cy L79 (r + 79) 6)) (BD cy L85 (r + 85) 5)) (BD cy L90 (r + 90) 3)) ([(b93, .inl (cy 2, 400, .inl (fun _ => 0)))])) ([(b94, .inl (cy 1, 201, .inl (fun _ => 0)))])) ([(b95, .inl (cy 1, 201, .inl (fun _ => 0)))]))) := hD
  refine lv_aload_n hx hb dX9_init_90 rfl (lv_at hl 0 rfl) ?_
  refine lv_sipush hx hb dX9_init_91 (v := 201) (by decide +kernel) ?_
  refine w_na CF hK (X := ((a, .inr (7, [.ref (L1 (r + 1)), .ref b77, .ref b78, .ref (L79 (r + 79)), .ref (L85 (r + 85)), .ref (L90 (r + 90)), .ref b93, .int 0, .int 0, .ref b94, .ref b95, .null])) :: (apw (apw (apw (apw (apw (apw (apw (apw (BD cy L1 (r + 1) 76) ([(b77, .inl (cy 5, 2, .inr (.inr (.inr (.inr (fun _ => none))))))])) ([(b78, .inl (cy 3, 2, .inl (fun _ => 0)))])) (BD cy L79 (r + 79) 6)) (BD cy L85 (r + 85) 5)) (BD cy L90 (r + 90) 3)) ([(b93, .inl (cy 2, 400, .inl (fun _ => 0)))])) ([(b94, .inl (cy 1, 201, .inl (fun _ => 0)))])) ([(b95, .inl (cy 1, 201, .inl (fun _ => 0)))])))) hP hD hS hSz (Or.inl ⟨rfl, rfl⟩) (List.mem_cons_of_mem _ (mW0 (List.mem_of_getElem? (i := 4) rfl))) (by decide) (N := 201) (by decide +kernel) (by decide +kernel) (by decide +kernel) (by decide +kernel) dX9_init_94 ?_
  intro b96 H2 hP hD hS
  replace hP : va_P D vwCl ((a, .inr (7, [.ref (L1 (r + 1)), .ref b77, .ref b78, .ref (L79 (r + 79)), .ref (L85 (r + 85)), .ref (L90 (r + 90)), .ref b93, .int 0, .int 0, .ref b94, .ref b95, .null])) :: (apw (apw (apw (apw (apw (apw (apw (apw (apw (BD cy L1 (r + 1) 76) ([(b77, .inl (cy 5, 2, .inr (.inr (.inr (.inr (fun _ => none))))))])) ([(b78, .inl (cy 3, 2, .inl (fun _ => 0)))])) (BD cy L79 (r + 79) 6)) (BD cy L85 (r + 85) 5)) (BD cy L90 (r + 90) 3)) ([(b93, .inl (cy 2, 400, .inl (fun _ => 0)))])) ([(b94, .inl (cy 1, 201, .inl (fun _ => 0)))])) ([(b95, .inl (cy 1, 201, .inl (fun _ => 0)))])) ([(b96, .inl (cy 1, 201, .inl (fun _ => 0)))]))) H2 := hP
  replace hD : va_D S ((a, .inr (7, [.ref (L1 (r + 1)), .ref b77, .ref b78, .ref (L79 (r + 79)), .ref (L85 (r + 85)), .ref (L90 (r + 90)), .ref b93, .int 0, .int 0, .ref b94, .ref b95, .null])) :: (apw (apw (apw (apw (apw (apw (apw (apw (apw (BD cy L1 (r + 1) 76) ([(b77, .inl (cy 5, 2, .inr (.inr (.inr (.inr (fun _ => none))))))])) ([(b78, .inl (cy 3, 2, .inl (fun _ => 0)))])) (BD cy L79 (r + 79) 6)) (BD cy L85 (r + 85) 5)) (BD cy L90 (r + 90) 3)) ([(b93, .inl (cy 2, 400, .inl (fun _ => 0)))])) ([(b94, .inl (cy 1, 201, .inl (fun _ => 0)))])) ([(b95, .inl (cy 1, 201, .inl (fun _ => 0)))])) ([(b96, .inl (cy 1, 201, .inl (fun _ => 0)))]))) := hD
  refine w_putF CF hK hin (a := a) (ci := 7) (fs := [.ref (L1 (r + 1)), .ref b77, .ref b78, .ref (L79 (r + 79)), .ref (L85 (r + 85)), .ref (L90 (r + 90)), .ref b93, .int 0, .int 0, .ref b94, .ref b95, .null]) (B := (apw (apw (apw (apw (apw (apw (apw (apw (apw (BD cy L1 (r + 1) 76) ([(b77, .inl (cy 5, 2, .inr (.inr (.inr (.inr (fun _ => none))))))])) ([(b78, .inl (cy 3, 2, .inl (fun _ => 0)))])) (BD cy L79 (r + 79) 6)) (BD cy L85 (r + 85) 5)) (BD cy L90 (r + 90) 3)) ([(b93, .inl (cy 2, 400, .inl (fun _ => 0)))])) ([(b94, .inl (cy 1, 201, .inl (fun _ => 0)))])) ([(b95, .inl (cy 1, 201, .inl (fun _ => 0)))])) ([(b96, .inl (cy 1, 201, .inl (fun _ => 0)))]))) hP hD hS (v := .ref b96) (ftX9_ok (56, 7, 11, 1, 10201, 96) (by decide)).1 rfl rfl rfl rfl (tyX9_ok 11 (by decide)) rfl rfl (by simp) dX9_init_96 ?_
  intro H2 locs2 hP hD hS
  refine W.eq (g2 := F0 m 99 la []) rfl ?_
  replace hP : va_P D vwCl ((a, .inr (7, [.ref (L1 (r + 1)), .ref b77, .ref b78, .ref (L79 (r + 79)), .ref (L85 (r + 85)), .ref (L90 (r + 90)), .ref b93, .int 0, .int 0, .ref b94, .ref b95, .ref b96])) :: (apw (apw (apw (apw (apw (apw (apw (apw (apw (BD cy L1 (r + 1) 76) ([(b77, .inl (cy 5, 2, .inr (.inr (.inr (.inr (fun _ => none))))))])) ([(b78, .inl (cy 3, 2, .inl (fun _ => 0)))])) (BD cy L79 (r + 79) 6)) (BD cy L85 (r + 85) 5)) (BD cy L90 (r + 90) 3)) ([(b93, .inl (cy 2, 400, .inl (fun _ => 0)))])) ([(b94, .inl (cy 1, 201, .inl (fun _ => 0)))])) ([(b95, .inl (cy 1, 201, .inl (fun _ => 0)))])) ([(b96, .inl (cy 1, 201, .inl (fun _ => 0)))]))) H2 := hP
  replace hD : va_D S ((a, .inr (7, [.ref (L1 (r + 1)), .ref b77, .ref b78, .ref (L79 (r + 79)), .ref (L85 (r + 85)), .ref (L90 (r + 90)), .ref b93, .int 0, .int 0, .ref b94, .ref b95, .ref b96])) :: (apw (apw (apw (apw (apw (apw (apw (apw (apw (BD cy L1 (r + 1) 76) ([(b77, .inl (cy 5, 2, .inr (.inr (.inr (.inr (fun _ => none))))))])) ([(b78, .inl (cy 3, 2, .inl (fun _ => 0)))])) (BD cy L79 (r + 79) 6)) (BD cy L85 (r + 85) 5)) (BD cy L90 (r + 90) 3)) ([(b93, .inl (cy 2, 400, .inl (fun _ => 0)))])) ([(b94, .inl (cy 1, 201, .inl (fun _ => 0)))])) ([(b95, .inl (cy 1, 201, .inl (fun _ => 0)))])) ([(b96, .inl (cy 1, 201, .inl (fun _ => 0)))]))) := hD
  have q9 : va_P D vwCl (apw ((a, .inr (7, [.ref (L1 (r + 1)), .ref b77, .ref b78, .ref (L79 (r + 79)), .ref (L85 (r + 85)), .ref (L90 (r + 90)), .ref b93, .int 0, .int 0, .ref b94, .ref b95, .ref b96])) :: (apw (apw (apw (apw (apw (apw (apw (apw (BD cy L1 (r + 1) 76) ([(b77, .inl (cy 5, 2, .inr (.inr (.inr (.inr (fun _ => none))))))])) ([(b78, .inl (cy 3, 2, .inl (fun _ => 0)))])) (BD cy L79 (r + 79) 6)) (BD cy L85 (r + 85) 5)) (BD cy L90 (r + 90) 3)) ([(b93, .inl (cy 2, 400, .inl (fun _ => 0)))])) ([(b94, .inl (cy 1, 201, .inl (fun _ => 0)))])) ([(b95, .inl (cy 1, 201, .inl (fun _ => 0)))]))) ([(b96, .inl (cy 1, 201, .inl (fun _ => 0)))])) H2 := hP
  have q8 : va_P D vwCl (apw ((a, .inr (7, [.ref (L1 (r + 1)), .ref b77, .ref b78, .ref (L79 (r + 79)), .ref (L85 (r + 85)), .ref (L90 (r + 90)), .ref b93, .int 0, .int 0, .ref b94, .ref b95, .ref b96])) :: (apw (apw (apw (apw (apw (apw (apw (BD cy L1 (r + 1) 76) ([(b77, .inl (cy 5, 2, .inr (.inr (.inr (.inr (fun _ => none))))))])) ([(b78, .inl (cy 3, 2, .inl (fun _ => 0)))])) (BD cy L79 (r + 79) 6)) (BD cy L85 (r + 85) 5)) (BD cy L90 (r + 90) 3)) ([(b93, .inl (cy 2, 400, .inl (fun _ => 0)))])) ([(b94, .inl (cy 1, 201, .inl (fun _ => 0)))]))) ([(b95, .inl (cy 1, 201, .inl (fun _ => 0)))])) H2 := P_pre q9
  have q7 : va_P D vwCl (apw ((a, .inr (7, [.ref (L1 (r + 1)), .ref b77, .ref b78, .ref (L79 (r + 79)), .ref (L85 (r + 85)), .ref (L90 (r + 90)), .ref b93, .int 0, .int 0, .ref b94, .ref b95, .ref b96])) :: (apw (apw (apw (apw (apw (apw (BD cy L1 (r + 1) 76) ([(b77, .inl (cy 5, 2, .inr (.inr (.inr (.inr (fun _ => none))))))])) ([(b78, .inl (cy 3, 2, .inl (fun _ => 0)))])) (BD cy L79 (r + 79) 6)) (BD cy L85 (r + 85) 5)) (BD cy L90 (r + 90) 3)) ([(b93, .inl (cy 2, 400, .inl (fun _ => 0)))]))) ([(b94, .inl (cy 1, 201, .inl (fun _ => 0)))])) H2 := P_pre q8
  have q6 : va_P D vwCl (apw ((a, .inr (7, [.ref (L1 (r + 1)), .ref b77, .ref b78, .ref (L79 (r + 79)), .ref (L85 (r + 85)), .ref (L90 (r + 90)), .ref b93, .int 0, .int 0, .ref b94, .ref b95, .ref b96])) :: (apw (apw (apw (apw (apw (BD cy L1 (r + 1) 76) ([(b77, .inl (cy 5, 2, .inr (.inr (.inr (.inr (fun _ => none))))))])) ([(b78, .inl (cy 3, 2, .inl (fun _ => 0)))])) (BD cy L79 (r + 79) 6)) (BD cy L85 (r + 85) 5)) (BD cy L90 (r + 90) 3))) ([(b93, .inl (cy 2, 400, .inl (fun _ => 0)))])) H2 := P_pre q7
  have q5 : va_P D vwCl (apw ((a, .inr (7, [.ref (L1 (r + 1)), .ref b77, .ref b78, .ref (L79 (r + 79)), .ref (L85 (r + 85)), .ref (L90 (r + 90)), .ref b93, .int 0, .int 0, .ref b94, .ref b95, .ref b96])) :: (apw (apw (apw (apw (BD cy L1 (r + 1) 76) ([(b77, .inl (cy 5, 2, .inr (.inr (.inr (.inr (fun _ => none))))))])) ([(b78, .inl (cy 3, 2, .inl (fun _ => 0)))])) (BD cy L79 (r + 79) 6)) (BD cy L85 (r + 85) 5))) (BD cy L90 (r + 90) 3)) H2 := P_pre q6
  have b90 : va_P D vwCl (BD cy (LO r (fX9 r a L1 b77 b78 L79 L85 L90 b93 b94 b95 b96)) (r + 90) 3) H2 := BD_P (pat := pX7) (rkp_sub hr (o := 90) (by decide) (by decide +kernel)) clo_X7 (fun i hi => by
      have hi : i < 3 := hi
      rw [Nat.add_assoc, LO_at]
      show fX9 r a L1 b77 b78 L79 L85 L90 b93 b94 b95 b96 (90 + i) = _
      unfold fX9
      rw [if_neg (by omega), if_neg (by omega), if_neg (by omega), if_neg (by omega), if_neg (by omega), if_neg (by omega), if_pos (by omega)]) (P_suf q5)
  have q4 : va_P D vwCl (apw ((a, .inr (7, [.ref (L1 (r + 1)), .ref b77, .ref b78, .ref (L79 (r + 79)), .ref (L85 (r + 85)), .ref (L90 (r + 90)), .ref b93, .int 0, .int 0, .ref b94, .ref b95, .ref b96])) :: (apw (apw (apw (BD cy L1 (r + 1) 76) ([(b77, .inl (cy 5, 2, .inr (.inr (.inr (.inr (fun _ => none))))))])) ([(b78, .inl (cy 3, 2, .inl (fun _ => 0)))])) (BD cy L79 (r + 79) 6))) (BD cy L85 (r + 85) 5)) H2 := P_pre q5
  have b85 : va_P D vwCl (BD cy (LO r (fX9 r a L1 b77 b78 L79 L85 L90 b93 b94 b95 b96)) (r + 85) 5) H2 := BD_P (pat := pX1) (rkp_sub hr (o := 85) (by decide) (by decide +kernel)) clo_X1 (fun i hi => by
      have hi : i < 5 := hi
      rw [Nat.add_assoc, LO_at]
      show fX9 r a L1 b77 b78 L79 L85 L90 b93 b94 b95 b96 (85 + i) = _
      unfold fX9
      rw [if_neg (by omega), if_neg (by omega), if_neg (by omega), if_neg (by omega), if_neg (by omega), if_pos (by omega)]) (P_suf q4)
  have q3 : va_P D vwCl (apw ((a, .inr (7, [.ref (L1 (r + 1)), .ref b77, .ref b78, .ref (L79 (r + 79)), .ref (L85 (r + 85)), .ref (L90 (r + 90)), .ref b93, .int 0, .int 0, .ref b94, .ref b95, .ref b96])) :: (apw (apw (BD cy L1 (r + 1) 76) ([(b77, .inl (cy 5, 2, .inr (.inr (.inr (.inr (fun _ => none))))))])) ([(b78, .inl (cy 3, 2, .inl (fun _ => 0)))]))) (BD cy L79 (r + 79) 6)) H2 := P_pre q4
  have b79 : va_P D vwCl (BD cy (LO r (fX9 r a L1 b77 b78 L79 L85 L90 b93 b94 b95 b96)) (r + 79) 6) H2 := BD_P (pat := pX4) (rkp_sub hr (o := 79) (by decide) (by decide +kernel)) clo_X4 (fun i hi => by
      have hi : i < 6 := hi
      rw [Nat.add_assoc, LO_at]
      show fX9 r a L1 b77 b78 L79 L85 L90 b93 b94 b95 b96 (79 + i) = _
      unfold fX9
      rw [if_neg (by omega), if_neg (by omega), if_neg (by omega), if_neg (by omega), if_pos (by omega)]) (P_suf q3)
  have q2 : va_P D vwCl (apw ((a, .inr (7, [.ref (L1 (r + 1)), .ref b77, .ref b78, .ref (L79 (r + 79)), .ref (L85 (r + 85)), .ref (L90 (r + 90)), .ref b93, .int 0, .int 0, .ref b94, .ref b95, .ref b96])) :: (apw (BD cy L1 (r + 1) 76) ([(b77, .inl (cy 5, 2, .inr (.inr (.inr (.inr (fun _ => none))))))]))) ([(b78, .inl (cy 3, 2, .inl (fun _ => 0)))])) H2 := P_pre q3
  have q1 : va_P D vwCl (apw ((a, .inr (7, [.ref (L1 (r + 1)), .ref b77, .ref b78, .ref (L79 (r + 79)), .ref (L85 (r + 85)), .ref (L90 (r + 90)), .ref b93, .int 0, .int 0, .ref b94, .ref b95, .ref b96])) :: (BD cy L1 (r + 1) 76)) ([(b77, .inl (cy 5, 2, .inr (.inr (.inr (.inr (fun _ => none))))))])) H2 := P_pre q2
  have q0 : va_P D vwCl (apw ((a, .inr (7, [.ref (L1 (r + 1)), .ref b77, .ref b78, .ref (L79 (r + 79)), .ref (L85 (r + 85)), .ref (L90 (r + 90)), .ref b93, .int 0, .int 0, .ref b94, .ref b95, .ref b96])) :: []) (BD cy L1 (r + 1) 76)) H2 := P_pre q1
  have b1 : va_P D vwCl (BD cy (LO r (fX9 r a L1 b77 b78 L79 L85 L90 b93 b94 b95 b96)) (r + 1) 76) H2 := BD_P (pat := pX3) (rkp_sub hr (o := 1) (by decide) (by decide +kernel)) clo_X3 (fun i hi => by
      have hi : i < 76 := hi
      rw [Nat.add_assoc, LO_at]
      show fX9 r a L1 b77 b78 L79 L85 L90 b93 b94 b95 b96 (1 + i) = _
      unfold fX9
      rw [if_neg (by omega), if_pos (by omega)]) (P_suf q0)
  have hB : va_P D vwCl (BD cy (LO r (fX9 r a L1 b77 b78 L79 L85 L90 b93 b94 b95 b96)) r 97) H2 := by
    intro i q hq
    obtain ⟨hi, rfl⟩ := BD_of hq
    by_cases c0 : i = 0
    · subst c0
      rw [LO_at, ce_o (k := 7) (hr 0 (by decide)) (by decide)]
      exact (P_pre q0) 0 _ rfl
    by_cases c1 : i < 77
    · exact BD_at b1 (by omega) (by omega)
    by_cases c77 : i < 78
    · obtain rfl : i = 77 := by omega
      rw [LO_at, show ce cy _ Z0 Z0 (r + 77) = .inl (cy 5, 2, .inr (.inr (.inr (.inr (fun _ => none))))) from by
          unfold ce
          rw [show rk (r + 77) = 50002 from hr 77 (by decide)]
          rfl]
      exact (P_suf q1) 0 _ rfl
    by_cases c78 : i < 79
    · obtain rfl : i = 78 := by omega
      rw [LO_at, ce_a (k := 30002) (hr 78 (by decide)) (by decide) (by decide)]
      exact (P_suf q2) 0 _ rfl
    by_cases c79 : i < 85
    · exact BD_at b79 (by omega) (by omega)
    by_cases c85 : i < 90
    · exact BD_at b85 (by omega) (by omega)
    by_cases c90 : i < 93
    · exact BD_at b90 (by omega) (by omega)
    by_cases c93 : i < 94
    · obtain rfl : i = 93 := by omega
      rw [LO_at, ce_a (k := 20400) (hr 93 (by decide)) (by decide) (by decide)]
      exact (P_suf q6) 0 _ rfl
    by_cases c94 : i < 95
    · obtain rfl : i = 94 := by omega
      rw [LO_at, ce_a (k := 10201) (hr 94 (by decide)) (by decide) (by decide)]
      exact (P_suf q7) 0 _ rfl
    by_cases c95 : i < 96
    · obtain rfl : i = 95 := by omega
      rw [LO_at, ce_a (k := 10201) (hr 95 (by decide)) (by decide) (by decide)]
      exact (P_suf q8) 0 _ rfl
    by_cases c96 : i < 97
    · obtain rfl : i = 96 := by omega
      rw [LO_at, ce_a (k := 10201) (hr 96 (by decide)) (by decide) (by decide)]
      exact (P_suf q9) 0 _ rfl
    exact absurd hi (by omega)
  have hE : va_D S (BD cy (LO r (fX9 r a L1 b77 b78 L79 L85 L90 b93 b94 b95 b96)) r 97) := by
    have hx9 : IX (apw (apw (apw (apw (apw (apw (apw (apw (apw (apw [(a, .inr (7, [.ref (L1 (r + 1)), .ref b77, .ref b78, .ref (L79 (r + 79)), .ref (L85 (r + 85)), .ref (L90 (r + 90)), .ref b93, .int 0, .int 0, .ref b94, .ref b95, .ref b96]))] (BD cy L1 (r + 1) 76)) ([(b77, .inl (cy 5, 2, .inr (.inr (.inr (.inr (fun _ => none))))))])) ([(b78, .inl (cy 3, 2, .inl (fun _ => 0)))])) (BD cy L79 (r + 79) 6)) (BD cy L85 (r + 85) 5)) (BD cy L90 (r + 90) 3)) ([(b93, .inl (cy 2, 400, .inl (fun _ => 0)))])) ([(b94, .inl (cy 1, 201, .inl (fun _ => 0)))])) ([(b95, .inl (cy 1, 201, .inl (fun _ => 0)))])) ([(b96, .inl (cy 1, 201, .inl (fun _ => 0)))])) (fX9 r a L1 b77 b78 L79 L85 L90 b93 b94 b95 b96) 97 := (ix_s (ix_s (ix_s (ix_s (ix_b (ix_b (ix_b (ix_s (ix_s (ix_b (ix_1 (f := (fX9 r a L1 b77 b78 L79 L85 L90 b93 b94 b95 b96)) rfl) (fun i hi => by
      have hi : i < 76 := hi
      show fX9 r a L1 b77 b78 L79 L85 L90 b93 b94 b95 b96 (1 + i) = _
      unfold fX9
      rw [if_neg (by omega), if_pos (by omega), Nat.add_assoc])) rfl) rfl) (fun i hi => by
      have hi : i < 6 := hi
      show fX9 r a L1 b77 b78 L79 L85 L90 b93 b94 b95 b96 (79 + i) = _
      unfold fX9
      rw [if_neg (by omega), if_neg (by omega), if_neg (by omega), if_neg (by omega), if_pos (by omega), Nat.add_assoc])) (fun i hi => by
      have hi : i < 5 := hi
      show fX9 r a L1 b77 b78 L79 L85 L90 b93 b94 b95 b96 (85 + i) = _
      unfold fX9
      rw [if_neg (by omega), if_neg (by omega), if_neg (by omega), if_neg (by omega), if_neg (by omega), if_pos (by omega), Nat.add_assoc])) (fun i hi => by
      have hi : i < 3 := hi
      show fX9 r a L1 b77 b78 L79 L85 L90 b93 b94 b95 b96 (90 + i) = _
      unfold fX9
      rw [if_neg (by omega), if_neg (by omega), if_neg (by omega), if_neg (by omega), if_neg (by omega), if_neg (by omega), if_pos (by omega), Nat.add_assoc])) rfl) rfl) rfl) rfl)
    refine BD_D (show va_D S (apw (apw (apw (apw (apw (apw (apw (apw (apw (apw [(a, .inr (7, [.ref (L1 (r + 1)), .ref b77, .ref b78, .ref (L79 (r + 79)), .ref (L85 (r + 85)), .ref (L90 (r + 90)), .ref b93, .int 0, .int 0, .ref b94, .ref b95, .ref b96]))] (BD cy L1 (r + 1) 76)) ([(b77, .inl (cy 5, 2, .inr (.inr (.inr (.inr (fun _ => none))))))])) ([(b78, .inl (cy 3, 2, .inl (fun _ => 0)))])) (BD cy L79 (r + 79) 6)) (BD cy L85 (r + 85) 5)) (BD cy L90 (r + 90) 3)) ([(b93, .inl (cy 2, 400, .inl (fun _ => 0)))])) ([(b94, .inl (cy 1, 201, .inl (fun _ => 0)))])) ([(b95, .inl (cy 1, 201, .inl (fun _ => 0)))])) ([(b96, .inl (cy 1, 201, .inl (fun _ => 0)))])) from hD) (fun i hi => ?_)
    rw [LO_at]
    exact hx9.2 i hi
  have hL0 : (LO r (fX9 r a L1 b77 b78 L79 L85 L90 b93 b94 b95 b96)) r = a := by
    show LO r _ r = a
    unfold LO
    rw [Nat.sub_self]
    rfl
  rw [BD_wd] at hB hE
  generalize (LO r (fX9 r a L1 b77 b78 L79 L85 L90 b93 b94 b95 b96)) = L at hB hE hL0
  replace hB : va_P D vwCl (wd cy L (rl r 97) Z0 Z0) H2 := hB
  replace hE : va_D S (wd cy L (rl r 97) Z0 Z0) := hE
  subst hre
  have hl0 : la[0]? = some (.val (.ref (L 0))) := by rw [hL0]; exact lv_at hl 0 rfl
  refine lv_aload_n hx hb dX9_init_99 rfl hl0 ?_
  refine w_get CF hK hB (idx := 12) (k := 7) (j := 0) (r := 0) (v := .ref (L 1)) (ftX9_ok (12, 7, 0, 1, 1, 1) (by decide)).1 (rl_mem (by decide) (by decide)) rfl rfl dX9_init_100 ?_
  refine lv_iconst hx hb dX9_init_103 (v := oI 3) rfl ?_
  have hsas : okS (rl 0 97) [.inr (some (1, 1)), .inl 3] := okS_c (okS_c (fun v hv => absurd hv List.not_mem_nil) ⟨by omega, by omega⟩) ⟨rl_mem (by decide) (by decide), rfl⟩
  have hMet := c_X3_clear l D cy L (rl 0 97) H2.size _ Z0 Z0 lvC Z0_ok Z0_ok (fun _ i _ h => absurd rfl h) hsas ⟨1, 3, rfl, by omega, by omega, fun i _ => ⟨by show (0 : Int) ≤ 0; omega, by show (0 : Int) ≤ 200; omega⟩, fun i _ => ⟨by show (-1 : Int) ≤ 0; omega, by show (0 : Int) ≤ 200; omega⟩⟩
  obtain ⟨q0, -, hq⟩ := wd_mem (cy := cy) (L := L) (lv := rl 0 97) (I := Z0) (A := Z0) (r := 1) (rl_mem (by decide) (by decide))
  rw [ce_obj (k := 1) rfl (by decide)] at hq
  have cw := cwV (R := rmD 5 (96, 11824)) (own := RX9) (index := 59) (C := yX3_clear.cls) (y := yX3_clear) (bytes := cX3_clear) (maxL := 3) (ret := none) (rm := rmD 4 (0, 0)) (mc := 0) (ms := 0) 1 hts (gdV (mW5 (List.mem_of_getElem? (i := 52) rfl)) (mW5 (List.mem_of_getElem? (i := 53) rfl)) (mW5 (List.mem_of_getElem? (i := 54) rfl)) (mW0 (List.mem_of_getElem? (i := 38) rfl)) (mW1 (List.mem_of_getElem? (i := 62) rfl))) rfl rfl rfl ⟨rfl, by decide +kernel⟩ ⟨by decide, by decide⟩
  have hrun := va_runV (g := F0 m 104 la [.int (oI 3), .ref (L 1)]) (locs := locs2) (H := H2) (b := L 1) (As := [.int (oI 3)]) (rest := []) (p := p) (e := e) (below := below) (meth := meth) (cells := 96) (slots := 11824) CF hMet cw
    ⟨PcX_blind, va_recv hK.1 hB (ci := 1) rfl hq, fun U hU hW => ⟨rfl, by rw [hU], by rw [hU]; exact hB, KK.warm hW hK, wd_D (hE.weaken (fun _ _ _ _ => trivial))⟩⟩ rfl rfl hla rfl (lv_room (by decide)) dX9_init_104 ⟨Nat.le_refl _, Nat.le_refl _⟩
  refine call_core (q := (96, 11824)) (rest := []) hrun hE hS hSz (fun r2 I2 A2 H3 locs3 g1 g2 g3 g4 g5 g6 g7 g8 => ?_)
  cases r2 with
  | some z => cases g1
  | none =>
    rw [Q_X3_clear_c] at g6
    subst hSe
    exact W.vret hx hb hr0 (fun t ht hW => ⟨⟨rfl, L, I2, A2, hL0, g3, g4, CI_new g6, by rw [ht]; exact g7, wd_D hE⟩, g8.F ht⟩) g8.2.2 dX9_init_107
