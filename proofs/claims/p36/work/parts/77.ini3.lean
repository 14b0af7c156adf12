def pX3 : List Nat := [1, 3, 10005, 10201, 10201, 10201, 10201, 10201, 11005, 10201, 40005, 6, 10005, 10025, 4, 10060, 9, 10201, 2, 10201, 10201, 10201, 10201, 10201, 6, 10005, 10025, 4, 10060, 9, 10201, 2, 10201, 10201, 10201, 10201, 10201, 6, 10005, 10025, 4, 10060, 9, 10201, 2, 10201, 10201, 10201, 10201, 10201, 6, 10005, 10025, 4, 10060, 9, 10201, 2, 10201, 10201, 10201, 10201, 10201, 6, 10005, 10025, 4, 10060, 9, 10201, 2, 10201, 10201, 10201, 10201, 10201]
theorem clo_X3 : clo pX3 := by
  unfold clo
  decide +kernel
def fX3 (r : Nat) (a : Nat) (L1 : Nat → Nat) (b10 : Nat) (S0 : Nat → Nat) (S1 : Nat → Nat) (S2 : Nat → Nat) (S3 : Nat → Nat) (S4 : Nat → Nat) : Nat → Nat := fun i => if i = 0 then a else if i < 10 then L1 (r + i) else if i < 11 then b10 else if i < 24 then S0 (r + i) else if i < 37 then S1 (r + i) else if i < 50 then S2 (r + i) else if i < 63 then S3 (r + i) else S4 (r + i)
set_option maxHeartbeats 8000000 in
set_option maxRecDepth 100000 in
theorem i_X3 {r : Nat} (hr : rkp r pX3) : MetI yX3_init (.code yX3_init cX3_init 2 none :: W0) 3 1 [.null, .null, .int 0] [] r 76 75 8786 := by
  refine MetI_of (by decide) rfl (fun a => by simp [lg_sl, Value.category]) ?_
  intro p l e s m args below meth c la D cy a S hSe hF hl hSz hP hD hS
  obtain ⟨CF, hr0, hlk, hin, hK, hKA⟩ := hF
  have CF0 := CF
  obtain ⟨hx, hb, hml, hown, hts⟩ := CF0
  have hla : la.size = 2 := hl.1
  refine lv_aload_n hx hb dX3_init_0 rfl (lv_at hl 0 rfl) ?_
  refine W.objInit hx hb hown (hts _ (List.mem_cons_of_mem _ (mW1 (List.mem_of_getElem? (i := 32) rfl)))) (hts _ (List.mem_cons_of_mem _ (mW0 (List.mem_of_getElem? (i := 2) rfl)))) (hts _ (List.mem_cons_of_mem _ (mW0 (List.mem_of_getElem? (i := 3) rfl)))) rfl (by rw [hml]; exact hl.1) rfl dX3_init_1 (by decide) (Nat.le_of_ble_eq_true rfl) ?_
  refine W.eq (g2 := F0 m 4 la []) rfl ?_
  refine lv_aload_n hx hb dX3_init_4 rfl (lv_at hl 0 rfl) ?_
  refine w_new CF hK (X := ((a, .inr (1, [.null, .null, .int 0])) :: [])) hP hD hS hSz (C := RX5) (T := TX5) (N := 10) (ci := 3) rfl infX5 tyX5 tyX5_ok (List.mem_cons_of_mem _ (mW1 (List.mem_of_getElem? (i := 33) rfl))) (List.mem_cons_of_mem _ (mW1 (List.mem_of_getElem? (i := 34) rfl))) (List.mem_cons_of_mem _ (mW1 (List.mem_of_getElem? (i := 35) rfl))) (fs := [.null, .null, .null, .null, .null, .null, .null, .null, .int 0, .int 0]) (by decide +kernel) (by decide +kernel) (by decide +kernel) dX3_init_5 dX3_init_8 ?_
  intro q H2 hP hD hS
  refine w_ctorN (host := RX9) (i_X5 (r := r + 1) (rkp_sub hr (o := 1) (by decide) (by decide +kernel))) (by decide) (by decide) CF hK hKA (mW0 (List.mem_of_getElem? (i := 62) rfl)) (mW1 (List.mem_of_getElem? (i := 35) rfl)) (by decide) (mW1 (List.mem_of_getElem? (i := 39) rfl)) rfl (n := 0) (by decide +kernel) rfl hla (by simp [Value.category]) (X := ((a, .inr (1, [.null, .null, .int 0])) :: [])) hP hD hS hSz ⟨by decide +kernel, by decide +kernel⟩ dX3_init_9 ?_
  intro L1 H2 locs2 hq hP9 hD9 hS9
  subst hq
  replace hP : va_P D vwCl ((a, .inr (1, [.null, .null, .int 0])) :: (BD cy L1 (r + 1) 9)) H2 := hP9
  replace hD : va_D S ((a, .inr (1, [.null, .null, .int 0])) :: (BD cy L1 (r + 1) 9)) := hD9
  replace hS := hS9
  refine w_putF CF hK hin (a := a) (ci := 1) (fs := [.null, .null, .int 0]) (B := (BD cy L1 (r + 1) 9)) hP hD hS (v := .ref (L1 (r + 1))) (ftX3_ok (12, 1, 0, 1, 3, 1) (by decide)).1 rfl rfl rfl rfl (tyX3_ok 0 (by decide)) rfl rfl (by simp) dX3_init_12 ?_
  intro H2 locs2 hP hD hS
  refine W.eq (g2 := F0 m 15 la []) rfl ?_
  replace hP : va_P D vwCl ((a, .inr (1, [.ref (L1 (r + 1)), .null, .int 0])) :: (BD cy L1 (r + 1) 9)) H2 := hP
  replace hD : va_D S ((a, .inr (1, [.ref (L1 (r + 1)), .null, .int 0])) :: (BD cy L1 (r + 1) 9)) := hD
  refine lv_aload_n hx hb dX3_init_15 rfl (lv_at hl 0 rfl) ?_
  refine lv_iconst hx hb dX3_init_16 (v := 5) (by decide +kernel) ?_
  refine w_nq CF hK (X := ((a, .inr (1, [.ref (L1 (r + 1)), .null, .int 0])) :: (BD cy L1 (r + 1) 9))) hP hD hS hSz (C := RX8) (Or.inl ⟨rfl, rfl⟩) hKA.1 (List.mem_cons_of_mem _ (mW1 (List.mem_of_getElem? (i := 36) rfl))) (by decide) (N := 5) (by decide +kernel) (by decide +kernel) (by decide +kernel) (by decide +kernel) dX3_init_17 ?_
  intro b10 H2 hP hD hS
  replace hP : va_P D vwCl ((a, .inr (1, [.ref (L1 (r + 1)), .null, .int 0])) :: (apw (BD cy L1 (r + 1) 9) ([(b10, .inl (cy 4, 5, .inr (.inr (.inr (.inr (fun _ => none))))))]))) H2 := hP
  replace hD : va_D S ((a, .inr (1, [.ref (L1 (r + 1)), .null, .int 0])) :: (apw (BD cy L1 (r + 1) 9) ([(b10, .inl (cy 4, 5, .inr (.inr (.inr (.inr (fun _ => none))))))]))) := hD
  refine w_putF CF hK hin (a := a) (ci := 1) (fs := [.ref (L1 (r + 1)), .null, .int 0]) (B := (apw (BD cy L1 (r + 1) 9) ([(b10, .inl (cy 4, 5, .inr (.inr (.inr (.inr (fun _ => none))))))]))) hP hD hS (v := .ref b10) (ftX3_ok (20, 1, 1, 1, 40005, 10) (by decide)).1 rfl rfl rfl rfl (tyX3_ok 1 (by decide)) rfl rfl (by simp) dX3_init_20 ?_
  intro H2 locs2 hP hD hS
  refine W.eq (g2 := F0 m 23 la []) rfl ?_
  replace hP : va_P D vwCl ((a, .inr (1, [.ref (L1 (r + 1)), .ref b10, .int 0])) :: (apw (BD cy L1 (r + 1) 9) ([(b10, .inl (cy 4, 5, .inr (.inr (.inr (.inr (fun _ => none))))))]))) H2 := hP
  replace hD : va_D S ((a, .inr (1, [.ref (L1 (r + 1)), .ref b10, .int 0])) :: (apw (BD cy L1 (r + 1) 9) ([(b10, .inl (cy 4, 5, .inr (.inr (.inr (.inr (fun _ => none))))))]))) := hD
  refine lv_iconst hx hb dX3_init_23 (v := 0) rfl ?_
  refine lv_istore_n hx hb dX3_init_24 rfl hl (by decide) rfl ?_
  intro la hl
  replace hl : lv_has la 2 [(1, .int 0), (0, .ref a)] := hl
  refine lv_iload_n hx hb dX3_init_25 rfl (lv_at hl 0 rfl) ?_
  refine lv_iconst hx hb dX3_init_26 (v := 5) rfl ?_
  refine lv_icmp_ge hx hb (tgt := 49) dX3_init_27 rfl (fun z => absurd z (by decide)) (fun _ => ?_)
  refine lv_aload_n hx hb dX3_init_30 rfl (lv_at hl 1 rfl) ?_
  refine va_get (v := .ref b10) hx hb hts infX3 hown hK.1 hP 0 rfl rfl 1 (by decide) (hts _ (List.mem_cons_of_mem _ (mW0 (List.mem_of_getElem? (i := 11) rfl)))) (fun _ h9 => h9) rfl dX3_init_31 ?_
  refine lv_iload_n hx hb dX3_init_34 rfl (lv_at hl 0 rfl) ?_
  refine w_new CF hK (X := ((a, .inr (1, [.ref (L1 (r + 1)), .ref b10, .int 0])) :: (apw (BD cy L1 (r + 1) 9) ([(b10, .inl (cy 4, 5, .inr (.inr (.inr (.inr (fun _ => none))))))])))) hP hD hS hSz (C := RX8) (T := TX8) (N := 6) (ci := 6) rfl infX8 tyX8 tyX8_ok (List.mem_cons_of_mem _ (mW1 (List.mem_of_getElem? (i := 36) rfl))) (List.mem_cons_of_mem _ (mW1 (List.mem_of_getElem? (i := 37) rfl))) (List.mem_cons_of_mem _ (mW1 (List.mem_of_getElem? (i := 38) rfl))) (fs := [.null, .null, .null, .null, .null, .int 0]) (by decide +kernel) (by decide +kernel) (by decide +kernel) dX3_init_35 dX3_init_38 ?_
  intro q H2 hP hD hS
  refine w_ctorN (host := RX9) (i_X8 (r := r + 11) (rkp_sub hr (o := 11) (by decide) (by decide +kernel))) (by decide) (by decide) CF hK hKA (mW1 (List.mem_of_getElem? (i := 31) rfl)) (mW1 (List.mem_of_getElem? (i := 38) rfl)) (by decide) (mW1 (List.mem_of_getElem? (i := 40) rfl)) rfl (n := 0) (by decide +kernel) rfl hl.1 (by simp [Value.category]) (X := ((a, .inr (1, [.ref (L1 (r + 1)), .ref b10, .int 0])) :: (apw (BD cy L1 (r + 1) 9) ([(b10, .inl (cy 4, 5, .inr (.inr (.inr (.inr (fun _ => none))))))])))) hP hD hS hSz ⟨by decide +kernel, by decide +kernel⟩ dX3_init_39 ?_
  intro S0 H2 locs2 hq hP9 hD9 hS9
  subst hq
  replace hP : va_P D vwCl ((a, .inr (1, [.ref (L1 (r + 1)), .ref b10, .int 0])) :: (apw (apw (BD cy L1 (r + 1) 9) ([(b10, .inl (cy 4, 5, .inr (.inr (.inr (.inr (fun _ => none))))))])) (BD cy S0 (r + 11) 13))) H2 := hP9
  replace hD : va_D S ((a, .inr (1, [.ref (L1 (r + 1)), .ref b10, .int 0])) :: (apw (apw (BD cy L1 (r + 1) 9) ([(b10, .inl (cy 4, 5, .inr (.inr (.inr (.inr (fun _ => none))))))])) (BD cy S0 (r + 11) 13))) := hD9
  replace hS := hS9
  have hv : (((a, .inr (1, [.ref (L1 (r + 1)), .ref b10, .int 0])) :: (apw (apw (BD cy L1 (r + 1) 9) ([(b10, .inl (cy 4, 5, .inr (.inr (.inr (.inr (fun _ => none))))))])) (BD cy S0 (r + 11) 13))) : va_W)[11]? = some (S0 (r + 11 + 0), ce cy S0 Z0 Z0 (r + 11 + 0)) := rfl
  rw [ce_obj (k := 6) (show rk (r + 11 + 0) = 6 from hr 11 (by decide)) (by decide)] at hv
  refine va_astq hx hb hK.1 hP hD hS 10 3 11 6 (r := (RX8, TX8, 6)) rfl rfl hv rfl (vp_in_iff.mpr (by decide)) dX3_init_42 ?_
  intro H2 locs2 hP hD hS
  replace hP : va_P D vwCl ((a, .inr (1, [.ref (L1 (r + 1)), .ref b10, .int 0])) :: (apw (apw (BD cy L1 (r + 1) 9) ([(b10, .inl (cy 4, 5, .inr (.inr (.inr (.inr (va_up (fun _ => none) 0 (some (S0 (r + 11)))))))))])) (BD cy S0 (r + 11) 13))) H2 := hP
  replace hD : va_D S ((a, .inr (1, [.ref (L1 (r + 1)), .ref b10, .int 0])) :: (apw (apw (BD cy L1 (r + 1) 9) ([(b10, .inl (cy 4, 5, .inr (.inr (.inr (.inr (va_up (fun _ => none) 0 (some (S0 (r + 11)))))))))])) (BD cy S0 (r + 11) 13))) := hD
  refine lv_iinc hx hb dX3_init_43 hl (k := 0) rfl (v := 1) rfl (by decide) rfl ?_
  intro la hl
  replace hl : lv_has la 2 [(1, .int 1), (0, .ref a)] := hl
  refine lv_goto hx hb (tgt := 25) dX3_init_46 rfl ?_
  refine lv_iload_n hx hb dX3_init_25 rfl (lv_at hl 0 rfl) ?_
  refine lv_iconst hx hb dX3_init_26 (v := 5) rfl ?_
  refine lv_icmp_ge hx hb (tgt := 49) dX3_init_27 rfl (fun z => absurd z (by decide)) (fun _ => ?_)
  refine lv_aload_n hx hb dX3_init_30 rfl (lv_at hl 1 rfl) ?_
  refine va_get (v := .ref b10) hx hb hts infX3 hown hK.1 hP 0 rfl rfl 1 (by decide) (hts _ (List.mem_cons_of_mem _ (mW0 (List.mem_of_getElem? (i := 11) rfl)))) (fun _ h9 => h9) rfl dX3_init_31 ?_
  refine lv_iload_n hx hb dX3_init_34 rfl (lv_at hl 0 rfl) ?_
  refine w_new CF hK (X := ((a, .inr (1, [.ref (L1 (r + 1)), .ref b10, .int 0])) :: (apw (apw (BD cy L1 (r + 1) 9) ([(b10, .inl (cy 4, 5, .inr (.inr (.inr (.inr (va_up (fun _ => none) 0 (some (S0 (r + 11)))))))))])) (BD cy S0 (r + 11) 13)))) hP hD hS hSz (C := RX8) (T := TX8) (N := 6) (ci := 6) rfl infX8 tyX8 tyX8_ok (List.mem_cons_of_mem _ (mW1 (List.mem_of_getElem? (i := 36) rfl))) (List.mem_cons_of_mem _ (mW1 (List.mem_of_getElem? (i := 37) rfl))) (List.mem_cons_of_mem _ (mW1 (List.mem_of_getElem? (i := 38) rfl))) (fs := [.null, .null, .null, .null, .null, .int 0]) (by decide +kernel) (by decide +kernel) (by decide +kernel) dX3_init_35 dX3_init_38 ?_
  intro q H2 hP hD hS
  refine w_ctorN (host := RX9) (i_X8 (r := r + 24) (rkp_sub hr (o := 24) (by decide) (by decide +kernel))) (by decide) (by decide) CF hK hKA (mW1 (List.mem_of_getElem? (i := 31) rfl)) (mW1 (List.mem_of_getElem? (i := 38) rfl)) (by decide) (mW1 (List.mem_of_getElem? (i := 40) rfl)) rfl (n := 0) (by decide +kernel) rfl hl.1 (by simp [Value.category]) (X := ((a, .inr (1, [.ref (L1 (r + 1)), .ref b10, .int 0])) :: (apw (apw (BD cy L1 (r + 1) 9) ([(b10, .inl (cy 4, 5, .inr (.inr (.inr (.inr (va_up (fun _ => none) 0 (some (S0 (r + 11)))))))))])) (BD cy S0 (r + 11) 13)))) hP hD hS hSz ⟨by decide +kernel, by decide +kernel⟩ dX3_init_39 ?_
  intro S1 H2 locs2 hq hP9 hD9 hS9
  subst hq
  replace hP : va_P D vwCl ((a, .inr (1, [.ref (L1 (r + 1)), .ref b10, .int 0])) :: (apw (apw (apw (BD cy L1 (r + 1) 9) ([(b10, .inl (cy 4, 5, .inr (.inr (.inr (.inr (va_up (fun _ => none) 0 (some (S0 (r + 11)))))))))])) (BD cy S0 (r + 11) 13)) (BD cy S1 (r + 24) 13))) H2 := hP9
  replace hD : va_D S ((a, .inr (1, [.ref (L1 (r + 1)), .ref b10, .int 0])) :: (apw (apw (apw (BD cy L1 (r + 1) 9) ([(b10, .inl (cy 4, 5, .inr (.inr (.inr (.inr (va_up (fun _ => none) 0 (some (S0 (r + 11)))))))))])) (BD cy S0 (r + 11) 13)) (BD cy S1 (r + 24) 13))) := hD9
  replace hS := hS9
  have hv : (((a, .inr (1, [.ref (L1 (r + 1)), .ref b10, .int 0])) :: (apw (apw (apw (BD cy L1 (r + 1) 9) ([(b10, .inl (cy 4, 5, .inr (.inr (.inr (.inr (va_up (fun _ => none) 0 (some (S0 (r + 11)))))))))])) (BD cy S0 (r + 11) 13)) (BD cy S1 (r + 24) 13))) : va_W)[24]? = some (S1 (r + 24 + 0), ce cy S1 Z0 Z0 (r + 24 + 0)) := rfl
  rw [ce_obj (k := 6) (show rk (r + 24 + 0) = 6 from hr 24 (by decide)) (by decide)] at hv
  refine va_astq hx hb hK.1 hP hD hS 10 3 24 6 (r := (RX8, TX8, 6)) rfl rfl hv rfl (vp_in_iff.mpr (by decide)) dX3_init_42 ?_
  intro H2 locs2 hP hD hS
  replace hP : va_P D vwCl ((a, .inr (1, [.ref (L1 (r + 1)), .ref b10, .int 0])) :: (apw (apw (apw (BD cy L1 (r + 1) 9) ([(b10, .inl (cy 4, 5, .inr (.inr (.inr (.inr (va_up (va_up (fun _ => none) 0 (some (S0 (r + 11)))) 1 (some (S1 (r + 24)))))))))])) (BD cy S0 (r + 11) 13)) (BD cy S1 (r + 24) 13))) H2 := hP
  replace hD : va_D S ((a, .inr (1, [.ref (L1 (r + 1)), .ref b10, .int 0])) :: (apw (apw (apw (BD cy L1 (r + 1) 9) ([(b10, .inl (cy 4, 5, .inr (.inr (.inr (.inr (va_up (va_up (fun _ => none) 0 (some (S0 (r + 11)))) 1 (some (S1 (r + 24)))))))))])) (BD cy S0 (r + 11) 13)) (BD cy S1 (r + 24) 13))) := hD
  refine lv_iinc hx hb dX3_init_43 hl (k := 0) rfl (v := 2) rfl (by decide) rfl ?_
  intro la hl
  replace hl : lv_has la 2 [(1, .int 2), (0, .ref a)] := hl
  refine lv_goto hx hb (tgt := 25) dX3_init_46 rfl ?_
  refine lv_iload_n hx hb dX3_init_25 rfl (lv_at hl 0 rfl) ?_
  refine lv_iconst hx hb dX3_init_26 (v := 5) rfl ?_
  refine lv_icmp_ge hx hb (tgt := 49) dX3_init_27 rfl (fun z => absurd z (by decide)) (fun _ => ?_)
  refine lv_aload_n hx hb dX3_init_30 rfl (lv_at hl 1 rfl) ?_
  refine va_get (v := .ref b10) hx hb hts infX3 hown hK.1 hP 0 rfl rfl 1 (by decide) (hts _ (List.mem_cons_of_mem _ (mW0 (List.mem_of_getElem? (i := 11) rfl)))) (fun _ h9 => h9) rfl dX3_init_31 ?_
  refine lv_iload_n hx hb dX3_init_34 rfl (lv_at hl 0 rfl) ?_
  refine w_new CF hK (X := ((a, .inr (1, [.ref (L1 (r + 1)), .ref b10, .int 0])) :: (apw (apw (apw (BD cy L1 (r + 1) 9) ([(b10, .inl (cy 4, 5, .inr (.inr (.inr (.inr (va_up (va_up (fun _ => none) 0 (some (S0 (r + 11)))) 1 (some (S1 (r + 24)))))))))])) (BD cy S0 (r + 11) 13)) (BD cy S1 (r + 24) 13)))) hP hD hS hSz (C := RX8) (T := TX8) (N := 6) (ci := 6) rfl infX8 tyX8 tyX8_ok (List.mem_cons_of_mem _ (mW1 (List.mem_of_getElem? (i := 36) rfl))) (List.mem_cons_of_mem _ (mW1 (List.mem_of_getElem? (i := 37) rfl))) (List.mem_cons_of_mem _ (mW1 (List.mem_of_getElem? (i := 38) rfl))) (fs := [.null, .null, .null, .null, .null, .int 0]) (by decide +kernel) (by decide +kernel) (by decide +kernel) dX3_init_35 dX3_init_38 ?_
  intro q H2 hP hD hS
  refine w_ctorN (host := RX9) (i_X8 (r := r + 37) (rkp_sub hr (o := 37) (by decide) (by decide +kernel))) (by decide) (by decide) CF hK hKA (mW1 (List.mem_of_getElem? (i := 31) rfl)) (mW1 (List.mem_of_getElem? (i := 38) rfl)) (by decide) (mW1 (List.mem_of_getElem? (i := 40) rfl)) rfl (n := 0) (by decide +kernel) rfl hl.1 (by simp [Value.category]) (X := ((a, .inr (1, [.ref (L1 (r + 1)), .ref b10, .int 0])) :: (apw (apw (apw (BD cy L1 (r + 1) 9) ([(b10, .inl (cy 4, 5, .inr (.inr (.inr (.inr (va_up (va_up (fun _ => none) 0 (some (S0 (r + 11)))) 1 (some (S1 (r + 24)))))))))])) (BD cy S0 (r + 11) 13)) (BD cy S1 (r + 24) 13)))) hP hD hS hSz ⟨by decide +kernel, by decide +kernel⟩ dX3_init_39 ?_
  intro S2 H2 locs2 hq hP9 hD9 hS9
  subst hq
  replace hP : va_P D vwCl ((a, .inr (1, [.ref (L1 (r + 1)), .ref b10, .int 0])) :: (apw (apw (apw (apw (BD cy L1 (r + 1) 9) ([(b10, .inl (cy 4, 5, .inr (.inr (.inr (.inr (va_up (va_up (fun _ => none) 0 (some (S0 (r + 11)))) 1 (some (S1 (r + 24)))))))))])) (BD cy S0 (r + 11) 13)) (BD cy S1 (r + 24) 13)) (BD cy S2 (r + 37) 13))) H2 := hP9
  replace hD : va_D S ((a, .inr (1, [.ref (L1 (r + 1)), .ref b10, .int 0])) :: (apw (apw (apw (apw (BD cy L1 (r + 1) 9) ([(b10, .inl (cy 4, 5, .inr (.inr (.inr (.inr (va_up (va_up (fun _ => none) 0 (some (S0 (r + 11)))) 1 (some (S1 (r + 24)))))))))])) (BD cy S0 (r + 11) 13)) (BD cy S1 (r + 24) 13)) (BD cy S2 (r + 37) 13))) := hD9
  replace hS := hS9
  have hv : (((a, .inr (1, [.ref (L1 (r + 1)), .ref b10, .int 0])) :: (apw (apw (apw (apw (BD cy L1 (r + 1) 9) ([(b10, .inl (cy 4, 5, .inr (.inr (.inr (.inr (va_up (va_up (fun _ => none) 0 (some (S0 (r + 11)))) 1 (some (S1 (r + 24)))))))))])) (BD cy S0 (r + 11) 13)) (BD cy S1 (r + 24) 13)) (BD cy S2 (r + 37) 13))) : va_W)[37]? = some (S2 (r + 37 + 0), ce cy S2 Z0 Z0 (r + 37 + 0)) := rfl
  rw [ce_obj (k := 6) (show rk (r + 37 + 0) = 6 from hr 37 (by decide)) (by decide)] at hv
  refine va_astq hx hb hK.1 hP hD hS 10 3 37 6 (r := (RX8, TX8, 6)) rfl rfl hv rfl (vp_in_iff.mpr (by decide)) dX3_init_42 ?_
  intro H2 locs2 hP hD hS
  replace hP : va_P D vwCl ((a, .inr (1, [.ref (L1 (r + 1)), .ref b10, .int 0])) :: (apw (apw (apw (apw (BD cy L1 (r + 1) 9) ([(b10, .inl (cy 4, 5, .inr (.inr (.inr (.inr (va_up (va_up (va_up (fun _ => none) 0 (some (S0 (r + 11)))) 1 (some (S1 (r + 24)))) 2 (some (S2 (r + 37)))))))))])) (BD cy S0 (r + 11) 13)) (BD cy S1 (r + 24) 13)) (BD cy S2 (r + 37) 13))) H2 := hP
  replace hD : va_D S ((a, .inr (1, [.ref (L1 (r + 1)), .ref b10, .int 0])) :: (apw (apw (apw (apw (BD cy L1 (r + 1) 9) ([(b10, .inl (cy 4, 5, .inr (.inr (.inr (.inr (va_up (va_up (va_up (fun _ => none) 0 (some (S0 (r + 11)))) 1 (some (S1 (r + 24)))) 2 (some (S2 (r + 37)))))))))])) (BD cy S0 (r + 11) 13)) (BD cy S1 (r + 24) 13)) (BD cy S2 (r + 37) 13))) := hD
  refine lv_iinc hx hb dX3_init_43 hl (k := 0) rfl (v := 3) rfl (by decide) rfl ?_
  intro la hl
  replace hl : lv_has la 2 [(1, .int 3), (0, .ref a)] := hl
  refine lv_goto hx hb (tgt := 25) dX3_init_46 rfl ?_
  refine lv_iload_n hx hb dX3_init_25 rfl (lv_at hl 0 rfl) ?_
  refine lv_iconst hx hb dX3_init_26 (v := 5) rfl ?_
  refine lv_icmp_ge hx hb (tgt := 49) dX3_init_27 rfl (fun z => absurd z (by decide)) (fun _ => ?_)
  refine lv_aload_n hx hb dX3_init_30 rfl (lv_at hl 1 rfl) ?_
  refine va_get (v := .ref b10) hx hb hts infX3 hown hK.1 hP 0 rfl rfl 1 (by decide) (hts _ (List.mem_cons_of_mem _ (mW0 (List.mem_of_getElem? (i := 11) rfl)))) (fun _ h9 => h9) rfl dX3_init_31 ?_
  refine lv_iload_n hx hb dX3_init_34 rfl (lv_at hl 0 rfl) ?_
  refine w_new CF hK (X := ((a, .inr (1, [.ref (L1 (r + 1)), .ref b10, .int 0])) :: (apw (apw (apw (apw (BD cy L1 (r + 1) 9) ([(b10, .inl (cy 4, 5, .inr (.inr (.inr (.inr (va_up (va_up (va_up (fun _ => none) 0 (some (S0 (r + 11)))) 1 (some (S1 (r + 24)))) 2 (some (S2 (r + 37)))))))))])) (BD cy S0 (r + 11) 13)) (BD cy S1 (r + 24) 13)) (BD cy S2 (r + 37) 13)))) hP hD hS hSz (C := RX8) (T := TX8) (N := 6) (ci := 6) rfl infX8 tyX8 tyX8_ok (List.mem_cons_of_mem _ (mW1 (List.mem_of_getElem? (i := 36) rfl))) (List.mem_cons_of_mem _ (mW1 (List.mem_of_getElem? (i := 37) rfl))) (List.mem_cons_of_mem _ (mW1 (List.mem_of_getElem? (i := 38) rfl))) (fs := [.null, .null, .null, .null, .null, .int 0]) (by decide +kernel) (by decide +kernel) (by decide +kernel) dX3_init_35 dX3_init_38 ?_
  intro q H2 hP hD hS
  refine w_ctorN (host := RX9) (i_X8 (r := r + 50) (rkp_sub hr (o := 50) (by decide) (by decide +kernel))) (by decide) (by decide) CF hK hKA (mW1 (List.mem_of_getElem? (i := 31) rfl)) (mW1 (List.mem_of_getElem? (i := 38) rfl)) (by decide) (mW1 (List.mem_of_getElem? (i := 40) rfl)) rfl (n := 0) (by decide +kernel) rfl hl.1 (by simp [Value.category]) (X := ((a, .inr (1, [.ref (L1 (r + 1)), .ref b10, .int 0])) :: (apw (apw (apw (apw (BD cy L1 (r + 1) 9) ([(b10, .inl (cy 4, 5, .inr (.inr (.inr (.inr (va_up (va_up (va_up (fun _ => none) 0 (some (S0 (r + 11)))) 1 (some (S1 (r + 24)))) 2 (some (S2 (r + 37)))))))))])) (BD cy S0 (r + 11) 13)) (BD cy S1 (r + 24) 13)) (BD cy S2 (r + 37) 13)))) hP hD hS hSz ⟨by decide +kernel, by decide +kernel⟩ dX3_init_39 ?_
  intro S3 H2 locs2 hq hP9 hD9 hS9
  subst hq
  replace hP : va_P D vwCl ((a, .inr (1, [.ref (L1 (r + 1)), .ref b10, .int 0])) :: (apw (apw (apw (apw (apw (BD cy L1 (r + 1) 9) ([(b10, .inl (cy 4, 5, .inr (.inr (.inr (.inr (va_up (va_up (va_up (fun _ => none) 0 (some (S0 (r + 11)))) 1 (some (S1 (r + 24)))) 2 (some (S2 (r + 37)))))))))])) (BD cy S0 (r + 11) 13)) (BD cy S1 (r + 24) 13)) (BD cy S2 (r + 37) 13)) (BD cy S3 (r + 50) 13))) H2 := hP9
  replace hD : va_D S ((a, .inr (1, [.ref (L1 (r + 1)), .ref b10, .int 0])) :: (apw (apw (apw (apw (apw (BD cy L1 (r + 1) 9) ([(b10, .inl (cy 4, 5, .inr (.inr (.inr (.inr (va_up (va_up (va_up (fun _ => none) 0 (some (S0 (r + 11)))) 1 (some (S1 (r + 24)))) 2 (some (S2 (r + 37)))))))))])) (BD cy S0 (r + 11) 13)) (BD cy S1 (r + 24) 13)) (BD cy S2 (r + 37) 13)) (BD cy S3 (r + 50) 13))) := hD9
  replace hS := hS9
  have hv : (((a, .inr (1, [.ref (L1 (r + 1)), .ref b10, .int 0])) :: (apw (apw (apw (apw (apw (BD cy L1 (r + 1) 9) ([(b10, .inl (cy 4, 5, .inr (.inr (.inr (.inr (va_up (va_up (va_up (fun _ => none) 0 (some (S0 (r + 11)))) 1 (some (S1 (r + 24)))) 2 (some (S2 (r + 37)))))))))])) (BD cy S0 (r + 11) 13)) (BD cy S1 (r + 24) 13)) (BD cy S2 (r + 37) 13)) (BD cy S3 (r + 50) 13))) : va_W)[50]? = some (S3 (r + 50 + 0), ce cy S3 Z0 Z0 (r + 50 + 0)) := rfl
  rw [ce_obj (k := 6) (show rk (r + 50 + 0) = 6 from hr 50 (by decide)) (by decide)] at hv
  refine va_astq hx hb hK.1 hP hD hS 10 3 50 6 (r := (RX8, TX8, 6)) rfl rfl hv rfl (vp_in_iff.mpr (by decide)) dX3_init_42 ?_
  intro H2 locs2 hP hD hS
  replace hP : va_P D vwCl ((a, .inr (1, [.ref (L1 (r + 1)), .ref b10, .int 0])) :: (apw (apw (apw (apw (apw (BD cy L1 (r + 1) 9) ([(b10, .inl (cy 4, 5, .inr (.inr (.inr (.inr (va_up (va_up (va_up (va_up (fun _ => none) 0 (some (S0 (r + 11)))) 1 (some (S1 (r + 24)))) 2 (some (S2 (r + 37)))) 3 (some (S3 (r + 50)))))))))])) (BD cy S0 (r + 11) 13)) (BD cy S1 (r + 24) 13)) (BD cy S2 (r + 37) 13)) (BD cy S3 (r + 50) 13))) H2 := hP
  replace hD : va_D S ((a, .inr (1, [.ref (L1 (r + 1)), .ref b10, .int 0])) :: (apw (apw (apw (apw (apw (BD cy L1 (r + 1) 9) ([(b10, .inl (cy 4, 5, .inr (.inr (.inr (.inr (va_up (va_up (va_up (va_up (fun _ => none) 0 (some (S0 (r + 11)))) 1 (some (S1 (r + 24)))) 2 (some (S2 (r + 37)))) 3 (some (S3 (r + 50)))))))))])) (BD cy S0 (r + 11) 13)) (BD cy S1 (r + 24) 13)) (BD cy S2 (r + 37) 13)) (BD cy S3 (r + 50) 13))) := hD
  refine lv_iinc hx hb dX3_init_43 hl (k := 0) rfl (v := 4) rfl (by decide) rfl ?_
  intro la hl
  replace hl : lv_has la 2 [(1, .int 4), (0, .ref a)] := hl
  refine lv_goto hx hb (tgt := 25) dX3_init_46 rfl ?_
  refine lv_iload_n hx hb dX3_init_25 rfl (lv_at hl 0 rfl) ?_
  refine lv_iconst hx hb dX3_init_26 (v := 5) rfl ?_
  refine lv_icmp_ge hx hb (tgt := 49) dX3_init_27 rfl (fun z => absurd z (by decide)) (fun _ => ?_)
  refine lv_aload_n hx hb dX3_init_30 rfl (lv_at hl 1 rfl) ?_
  refine va_get (v := .ref b10) hx hb hts infX3 hown hK.1 hP 0 rfl rfl 1 (by decide) (hts _ (List.mem_cons_of_mem _ (mW0 (List.mem_of_getElem? (i := 11) rfl)))) (fun _ h9 => h9) rfl dX3_init_31 ?_
  refine lv_iload_n hx hb dX3_init_34 rfl (lv_at hl 0 rfl) ?_
  refine w_new CF hK (X := ((a, .inr (1, [.ref (L1 (r + 1)), .ref b10, .int 0])) :: (apw (apw (apw (apw (apw (BD cy L1 (r + 1) 9) ([(b10, .inl (cy 4, 5, .inr (.inr (.inr (.inr (va_up (va_up (va_up (va_up (fun _ => none) 0 (some (S0 (r + 11)))) 1 (some (S1 (r + 24)))) 2 (some (S2 (r + 37)))) 3 (some (S3 (r + 50)))))))))])) (BD cy S0 (r + 11) 13)) (BD cy S1 (r + 24) 13)) (BD cy S2 (r + 37) 13)) (BD cy S3 (r + 50) 13)))) hP hD hS hSz (C := RX8) (T := TX8) (N := 6) (ci := 6) rfl infX8 tyX8 tyX8_ok (List.mem_cons_of_mem _ (mW1 (List.mem_of_getElem? (i := 36) rfl))) (List.mem_cons_of_mem _ (mW1 (List.mem_of_getElem? (i := 37) rfl))) (List.mem_cons_of_mem _ (mW1 (List.mem_of_getElem? (i := 38) rfl))) (fs := [.null, .null, .null, .null, .null, .int 0]) (by decide +kernel) (by decide +kernel) (by decide +kernel) dX3_init_35 dX3_init_38 ?_
  intro q H2 hP hD hS
  refine w_ctorN (host := RX9) (i_X8 (r := r + 63) (rkp_sub hr (o := 63) (by decide) (by decide +kernel))) (by decide) (by decide) CF hK hKA (mW1 (List.mem_of_getElem? (i := 31) rfl)) (mW1 (List.mem_of_getElem? (i := 38) rfl)) (by decide) (mW1 (List.mem_of_getElem? (i := 40) rfl)) rfl (n := 0) (by decide +kernel) rfl hl.1 (by simp [Value.category]) (X := ((a, .inr (1, [.ref (L1 (r + 1)), .ref b10, .int 0])) :: (apw (apw (apw (apw (apw (BD cy L1 (r + 1) 9) ([(b10, .inl (cy 4, 5, .inr (.inr (.inr (.inr (va_up (va_up (va_up (va_up (fun _ => none) 0 (some (S0 (r + 11)))) 1 (some (S1 (r + 24)))) 2 (some (S2 (r + 37)))) 3 (some (S3 (r + 50)))))))))])) (BD cy S0 (r + 11) 13)) (BD cy S1 (r + 24) 13)) (BD cy S2 (r + 37) 13)) (BD cy S3 (r + 50) 13)))) hP hD hS hSz ⟨by decide +kernel, by decide +kernel⟩ dX3_init_39 ?_
  intro S4 H2 locs2 hq hP9 hD9 hS9
  subst hq
  replace hP : va_P D vwCl ((a, .inr (1, [.ref (L1 (r + 1)), .ref b10, .int 0])) :: (apw (apw (apw (apw (apw (apw (BD cy L1 (r + 1) 9) ([(b10, .inl (cy 4, 5, .inr (.inr (.inr (.inr (va_up (va_up (va_up (va_up (fun _ => none) 0 (some (S0 (r + 11)))) 1 (some (S1 (r + 24)))) 2 (some (S2 (r + 37)))) 3 (some (S3 (r + 50)))))))))])) (BD cy S0 (r + 11) 13)) (BD cy S1 (r + 24) 13)) (BD cy S2 (r + 37) 13)) (BD cy S3 (r + 50) 13)) (BD cy S4 (r + 63) 13))) H2 := hP9
  replace hD : va_D S ((a, .inr (1, [.ref (L1 (r + 1)), .ref b10, .int 0])) :: (apw (apw (apw (apw (apw (apw (BD cy L1 (r + 1) 9) ([(b10, .inl (cy 4, 5, .inr (.inr (.inr (.inr (va_up (va_up (va_up (va_up (fun _ => none) 0 (some (S0 (r + 11)))) 1 (some (S1 (r + 24)))) 2 (some (S2 (r + 37)))) 3 (some (S3 (r + 50)))))))))])) (BD cy S0 (r + 11) 13)) (BD cy S1 (r + 24) 13)) (BD cy S2 (r + 37) 13)) (BD cy S3 (r + 50) 13)) (BD cy S4 (r + 63) 13))) := hD9
  replace hS := hS9
  have hv : (((a, .inr (1, [.ref (L1 (r + 1)), .ref b10, .int 0])) :: (apw (apw (apw (apw (apw (apw (BD cy L1 (r + 1) 9) ([(b10, .inl (cy 4, 5, .inr (.inr (.inr (.inr (va_up (va_up (va_up (va_up (fun _ => none) 0 (some (S0 (r + 11)))) 1 (some (S1 (r + 24)))) 2 (some (S2 (r + 37)))) 3 (some (S3 (r + 50)))))))))])) (BD cy S0 (r + 11) 13)) (BD cy S1 (r + 24) 13)) (BD cy S2 (r + 37) 13)) (BD cy S3 (r + 50) 13)) (BD cy S4 (r + 63) 13))) : va_W)[63]? = some (S4 (r + 63 + 0), ce cy S4 Z0 Z0 (r + 63 + 0)) := rfl
  rw [ce_obj (k := 6) (show rk (r + 63 + 0) = 6 from hr 63 (by decide)) (by decide)] at hv
  refine va_astq hx hb hK.1 hP hD hS 10 3 63 6 (r := (RX8, TX8, 6)) rfl rfl hv rfl (vp_in_iff.mpr (by decide)) dX3_init_42 ?_
  intro H2 locs2 hP hD hS
  replace hP : va_P D vwCl ((a, .inr (1, [.ref (L1 (r + 1)), .ref b10, .int 0])) :: (apw (apw (apw (apw (apw (apw (BD cy L1 (r + 1) 9) ([(b10, .inl (cy 4, 5, .inr (.inr (.inr (.inr (va_up (va_up (va_up (va_up (va_up (fun _ => none) 0 (some (S0 (r + 11)))) 1 (some (S1 (r + 24)))) 2 (some (S2 (r + 37)))) 3 (some (S3 (r + 50)))) 4 (some (S4 (r + 63)))))))))])) (BD cy S0 (r + 11) 13)) (BD cy S1 (r + 24) 13)) (BD cy S2 (r + 37) 13)) (BD cy S3 (r + 50) 13)) (BD cy S4 (r + 63) 13))) H2 := hP
  replace hD : va_D S ((a, .inr (1, [.ref (L1 (r + 1)), .ref b10, .int 0])) :: (apw (apw (apw (apw (apw (apw (BD cy L1 (r + 1) 9) ([(b10, .inl (cy 4, 5, .inr (.inr (.inr (.inr (va_up (va_up (va_up (va_up (va_up (fun _ => none) 0 (some (S0 (r + 11)))) 1 (some (S1 (r + 24)))) 2 (some (S2 (r + 37)))) 3 (some (S3 (r + 50)))) 4 (some (S4 (r + 63)))))))))])) (BD cy S0 (r + 11) 13)) (BD cy S1 (r + 24) 13)) (BD cy S2 (r + 37) 13)) (BD cy S3 (r + 50) 13)) (BD cy S4 (r + 63) 13))) := hD
  refine lv_iinc hx hb dX3_init_43 hl (k := 0) rfl (v := 5) rfl (by decide) rfl ?_
  intro la hl
  replace hl : lv_has la 2 [(1, .int 5), (0, .ref a)] := hl
  refine lv_goto hx hb (tgt := 25) dX3_init_46 rfl ?_
  refine lv_iload_n hx hb dX3_init_25 rfl (lv_at hl 0 rfl) ?_
  refine lv_iconst hx hb dX3_init_26 (v := 5) rfl ?_
  refine lv_icmp_ge hx hb (tgt := 49) dX3_init_27 rfl (fun _ => ?_) (fun z => absurd (by decide) z)
  have q6 : va_P D vwCl (apw ((a, .inr (1, [.ref (L1 (r + 1)), .ref b10, .int 0])) :: (apw (apw (apw (apw (apw (BD cy L1 (r + 1) 9) ([(b10, .inl (cy 4, 5, .inr (.inr (.inr (.inr (va_up (va_up (va_up (va_up (va_up (fun _ => none) 0 (some (S0 (r + 11)))) 1 (some (S1 (r + 24)))) 2 (some (S2 (r + 37)))) 3 (some (S3 (r + 50)))) 4 (some (S4 (r + 63)))))))))])) (BD cy S0 (r + 11) 13)) (BD cy S1 (r + 24) 13)) (BD cy S2 (r + 37) 13)) (BD cy S3 (r + 50) 13))) (BD cy S4 (r + 63) 13)) H2 := hP
  have b63 : va_P D vwCl (BD cy (LO r (fX3 r a L1 b10 S0 S1 S2 S3 S4)) (r + 63) 13) H2 := BD_P (pat := pX8) (rkp_sub hr (o := 63) (by decide) (by decide +kernel)) clo_X8 (fun i hi => by
      have hi : i < 13 := hi
      rw [Nat.add_assoc, LO_at]
      show fX3 r a L1 b10 S0 S1 S2 S3 S4 (63 + i) = _
      unfold fX3
      rw [if_neg (by omega), if_neg (by omega), if_neg (by omega), if_neg (by omega), if_neg (by omega), if_neg (by omega), if_neg (by omega)]) (P_suf q6)
  have q5 : va_P D vwCl (apw ((a, .inr (1, [.ref (L1 (r + 1)), .ref b10, .int 0])) :: (apw (apw (apw (apw (BD cy L1 (r + 1) 9) ([(b10, .inl (cy 4, 5, .inr (.inr (.inr (.inr (va_up (va_up (va_up (va_up (va_up (fun _ => none) 0 (some (S0 (r + 11)))) 1 (some (S1 (r + 24)))) 2 (some (S2 (r + 37)))) 3 (some (S3 (r + 50)))) 4 (some (S4 (r + 63)))))))))])) (BD cy S0 (r + 11) 13)) (BD cy S1 (r + 24) 13)) (BD cy S2 (r + 37) 13))) (BD cy S3 (r + 50) 13)) H2 := P_pre q6
  have b50 : va_P D vwCl (BD cy (LO r (fX3 r a L1 b10 S0 S1 S2 S3 S4)) (r + 50) 13) H2 := BD_P (pat := pX8) (rkp_sub hr (o := 50) (by decide) (by decide +kernel)) clo_X8 (fun i hi => by
      have hi : i < 13 := hi
      rw [Nat.add_assoc, LO_at]
      show fX3 r a L1 b10 S0 S1 S2 S3 S4 (50 + i) = _
      unfold fX3
      rw [if_neg (by omega), if_neg (by omega), if_neg (by omega), if_neg (by omega), if_neg (by omega), if_neg (by omega), if_pos (by omega)]) (P_suf q5)
  have q4 : va_P D vwCl (apw ((a, .inr (1, [.ref (L1 (r + 1)), .ref b10, .int 0])) :: (apw (apw (apw (BD cy L1 (r + 1) 9) ([(b10, .inl (cy 4, 5, .inr (.inr (.inr (.inr (va_up (va_up (va_up (va_up (va_up (fun _ => none) 0 (some (S0 (r + 11)))) 1 (some (S1 (r + 24)))) 2 (some (S2 (r + 37)))) 3 (some (S3 (r + 50)))) 4 (some (S4 (r + 63)))))))))])) (BD cy S0 (r + 11) 13)) (BD cy S1 (r + 24) 13))) (BD cy S2 (r + 37) 13)) H2 := P_pre q5
  have b37 : va_P D vwCl (BD cy (LO r (fX3 r a L1 b10 S0 S1 S2 S3 S4)) (r + 37) 13) H2 := BD_P (pat := pX8) (rkp_sub hr (o := 37) (by decide) (by decide +kernel)) clo_X8 (fun i hi => by
      have hi : i < 13 := hi
      rw [Nat.add_assoc, LO_at]
      show fX3 r a L1 b10 S0 S1 S2 S3 S4 (37 + i) = _
      unfold fX3
      rw [if_neg (by omega), if_neg (by omega), if_neg (by omega), if_neg (by omega), if_neg (by omega), if_pos (by omega)]) (P_suf q4)
  have q3 : va_P D vwCl (apw ((a, .inr (1, [.ref (L1 (r + 1)), .ref b10, .int 0])) :: (apw (apw (BD cy L1 (r + 1) 9) ([(b10, .inl (cy 4, 5, .inr (.inr (.inr (.inr (va_up (va_up (va_up (va_up (va_up (fun _ => none) 0 (some (S0 (r + 11)))) 1 (some (S1 (r + 24)))) 2 (some (S2 (r + 37)))) 3 (some (S3 (r + 50)))) 4 (some (S4 (r + 63)))))))))])) (BD cy S0 (r + 11) 13))) (BD cy S1 (r + 24) 13)) H2 := P_pre q4
  have b24 : va_P D vwCl (BD cy (LO r (fX3 r a L1 b10 S0 S1 S2 S3 S4)) (r + 24) 13) H2 := BD_P (pat := pX8) (rkp_sub hr (o := 24) (by decide) (by decide +kernel)) clo_X8 (fun i hi => by
      have hi : i < 13 := hi
      rw [Nat.add_assoc, LO_at]
      show fX3 r a L1 b10 S0 S1 S2 S3 S4 (24 + i) = _
      unfold fX3
      rw [if_neg (by omega), if_neg (by omega), if_neg (by omega), if_neg (by omega), if_pos (by omega)]) (P_suf q3)
  have q2 : va_P D vwCl (apw ((a, .inr (1, [.ref (L1 (r + 1)), .ref b10, .int 0])) :: (apw (BD cy L1 (r + 1) 9) ([(b10, .inl (cy 4, 5, .inr (.inr (.inr (.inr (va_up (va_up (va_up (va_up (va_up (fun _ => none) 0 (some (S0 (r + 11)))) 1 (some (S1 (r + 24)))) 2 (some (S2 (r + 37)))) 3 (some (S3 (r + 50)))) 4 (some (S4 (r + 63)))))))))]))) (BD cy S0 (r + 11) 13)) H2 := P_pre q3
  have b11 : va_P D vwCl (BD cy (LO r (fX3 r a L1 b10 S0 S1 S2 S3 S4)) (r + 11) 13) H2 := BD_P (pat := pX8) (rkp_sub hr (o := 11) (by decide) (by decide +kernel)) clo_X8 (fun i hi => by
      have hi : i < 13 := hi
      rw [Nat.add_assoc, LO_at]
      show fX3 r a L1 b10 S0 S1 S2 S3 S4 (11 + i) = _
      unfold fX3
      rw [if_neg (by omega), if_neg (by omega), if_neg (by omega), if_pos (by omega)]) (P_suf q2)
  have q1 : va_P D vwCl (apw ((a, .inr (1, [.ref (L1 (r + 1)), .ref b10, .int 0])) :: (BD cy L1 (r + 1) 9)) ([(b10, .inl (cy 4, 5, .inr (.inr (.inr (.inr (va_up (va_up (va_up (va_up (va_up (fun _ => none) 0 (some (S0 (r + 11)))) 1 (some (S1 (r + 24)))) 2 (some (S2 (r + 37)))) 3 (some (S3 (r + 50)))) 4 (some (S4 (r + 63)))))))))])) H2 := P_pre q2
  have q0 : va_P D vwCl (apw ((a, .inr (1, [.ref (L1 (r + 1)), .ref b10, .int 0])) :: []) (BD cy L1 (r + 1) 9)) H2 := P_pre q1
  have b1 : va_P D vwCl (BD cy (LO r (fX3 r a L1 b10 S0 S1 S2 S3 S4)) (r + 1) 9) H2 := BD_P (pat := pX5) (rkp_sub hr (o := 1) (by decide) (by decide +kernel)) clo_X5 (fun i hi => by
      have hi : i < 9 := hi
      rw [Nat.add_assoc, LO_at]
      show fX3 r a L1 b10 S0 S1 S2 S3 S4 (1 + i) = _
      unfold fX3
      rw [if_neg (by omega), if_pos (by omega)]) (P_suf q0)
  have hB : va_P D vwCl (BD cy (LO r (fX3 r a L1 b10 S0 S1 S2 S3 S4)) r 76) H2 := by
    intro i q hq
    obtain ⟨hi, rfl⟩ := BD_of hq
    by_cases c0 : i = 0
    · subst c0
      rw [LO_at, ce_o (k := 1) (hr 0 (by decide)) (by decide)]
      exact (P_pre q0) 0 _ rfl
    by_cases c1 : i < 10
    · exact BD_at b1 (by omega) (by omega)
    by_cases c10 : i < 11
    · obtain rfl : i = 10 := by omega
      have e1 : ce cy (LO r (fX3 r a L1 b10 S0 S1 S2 S3 S4)) Z0 Z0 (r + 10) = .inl (cy 4, 5, .inr (.inr (.inr (.inr (fun q => some ((LO r (fX3 r a L1 b10 S0 S1 S2 S3 S4)) (r + 10 + 1 + 13 * q))))))) := by simp [ce, show rk (r + 10) = 40005 from hr 10 (by decide)]
      rw [LO_at, e1]
      have h2 : H2[b10]? = some (vp_cell (cy 4) (5, .inr (.inr (.inr (.inr (va_up (va_up (va_up (va_up (va_up (fun _ => none) 0 (some (S0 (r + 11)))) 1 (some (S1 (r + 24)))) 2 (some (S2 (r + 37)))) 3 (some (S3 (r + 50)))) 4 (some (S4 (r + 63))))))))) := hP 10 _ rfl
      show H2[b10]? = some (vp_cell (cy 4) (5, .inr (.inr (.inr (.inr (fun q => some ((LO r (fX3 r a L1 b10 S0 S1 S2 S3 S4)) (r + 10 + 1 + 13 * q))))))))
      rw [h2, vp_cell_q, vp_cell_q]
      congr 1
      apply arrV_cg
      intro j hj
      match j, hj with
      | 0, _ => rw [show r + 10 + 1 + 13 * 0 = r + 11 by omega, LO_at]; rfl
      | 1, _ => rw [show r + 10 + 1 + 13 * 1 = r + 24 by omega, LO_at]; rfl
      | 2, _ => rw [show r + 10 + 1 + 13 * 2 = r + 37 by omega, LO_at]; rfl
      | 3, _ => rw [show r + 10 + 1 + 13 * 3 = r + 50 by omega, LO_at]; rfl
      | 4, _ => rw [show r + 10 + 1 + 13 * 4 = r + 63 by omega, LO_at]; rfl
      | n + 5, h => exact absurd h (by omega)
    by_cases c11 : i < 24
    · exact BD_at b11 (by omega) (by omega)
    by_cases c24 : i < 37
    · exact BD_at b24 (by omega) (by omega)
    by_cases c37 : i < 50
    · exact BD_at b37 (by omega) (by omega)
    by_cases c50 : i < 63
    · exact BD_at b50 (by omega) (by omega)
    by_cases c63 : i < 76
    · exact BD_at b63 (by omega) (by omega)
    exact absurd hi (by omega)
  have hE : va_D S (BD cy (LO r (fX3 r a L1 b10 S0 S1 S2 S3 S4)) r 76) := by
    have hx9 : IX (apw (apw (apw (apw (apw (apw (apw [(a, .inr (1, [.ref (L1 (r + 1)), .ref b10, .int 0]))] (BD cy L1 (r + 1) 9)) ([(b10, .inl (cy 4, 5, .inr (.inr (.inr (.inr (va_up (va_up (va_up (va_up (va_up (fun _ => none) 0 (some (S0 (r + 11)))) 1 (some (S1 (r + 24)))) 2 (some (S2 (r + 37)))) 3 (some (S3 (r + 50)))) 4 (some (S4 (r + 63)))))))))])) (BD cy S0 (r + 11) 13)) (BD cy S1 (r + 24) 13)) (BD cy S2 (r + 37) 13)) (BD cy S3 (r + 50) 13)) (BD cy S4 (r + 63) 13)) (fX3 r a L1 b10 S0 S1 S2 S3 S4) 76 := (ix_b (ix_b (ix_b (ix_b (ix_b (ix_s (ix_b (ix_1 (f := (fX3 r a L1 b10 S0 S1 S2 S3 S4)) rfl) (fun i hi => by
      have hi : i < 9 := hi
      show fX3 r a L1 b10 S0 S1 S2 S3 S4 (1 + i) = _
      unfold fX3
      rw [if_neg (by omega), if_pos (by omega), Nat.add_assoc])) rfl) (fun i hi => by
      have hi : i < 13 := hi
      show fX3 r a L1 b10 S0 S1 S2 S3 S4 (11 + i) = _
      unfold fX3
      rw [if_neg (by omega), if_neg (by omega), if_neg (by omega), if_pos (by omega), Nat.add_assoc])) (fun i hi => by
      have hi : i < 13 := hi
      show fX3 r a L1 b10 S0 S1 S2 S3 S4 (24 + i) = _
      unfold fX3
      rw [if_neg (by omega), if_neg (by omega), if_neg (by omega), if_neg (by omega), if_pos (by omega), Nat.add_assoc])) (fun i hi => by
      have hi : i < 13 := hi
      show fX3 r a L1 b10 S0 S1 S2 S3 S4 (37 + i) = _
      unfold fX3
      rw [if_neg (by omega), if_neg (by omega), if_neg (by omega), if_neg (by omega), if_neg (by omega), if_pos (by omega), Nat.add_assoc])) (fun i hi => by
      have hi : i < 13 := hi
      show fX3 r a L1 b10 S0 S1 S2 S3 S4 (50 + i) = _
      unfold fX3
      rw [if_neg (by omega), if_neg (by omega), if_neg (by omega), if_neg (by omega), if_neg (by omega), if_neg (by omega), if_pos (by omega), Nat.add_assoc])) (fun i hi => by
      have hi : i < 13 := hi
      show fX3 r a L1 b10 S0 S1 S2 S3 S4 (63 + i) = _
      unfold fX3
      rw [if_neg (by omega), if_neg (by omega), if_neg (by omega), if_neg (by omega), if_neg (by omega), if_neg (by omega), if_neg (by omega), Nat.add_assoc]))
    refine BD_D (show va_D S (apw (apw (apw (apw (apw (apw (apw [(a, .inr (1, [.ref (L1 (r + 1)), .ref b10, .int 0]))] (BD cy L1 (r + 1) 9)) ([(b10, .inl (cy 4, 5, .inr (.inr (.inr (.inr (va_up (va_up (va_up (va_up (va_up (fun _ => none) 0 (some (S0 (r + 11)))) 1 (some (S1 (r + 24)))) 2 (some (S2 (r + 37)))) 3 (some (S3 (r + 50)))) 4 (some (S4 (r + 63)))))))))])) (BD cy S0 (r + 11) 13)) (BD cy S1 (r + 24) 13)) (BD cy S2 (r + 37) 13)) (BD cy S3 (r + 50) 13)) (BD cy S4 (r + 63) 13)) from hD) (fun i hi => ?_)
    rw [LO_at]
    exact hx9.2 i hi
  subst hSe
  refine W.vret hx hb hr0 (fun t ht hW => ⟨⟨rfl, (LO r (fX3 r a L1 b10 S0 S1 S2 S3 S4)), ?_, by rw [ht]; exact hB, hE⟩, hS.F ht⟩) hS.2.2 dX3_init_49
  show LO r _ r = a
  unfold LO
  rw [Nat.sub_self]
  rfl
