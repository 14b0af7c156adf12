def fX8 (r : Nat) (a : Nat) (b1 : Nat) (b2 : Nat) (L3 : Nat → Nat) (L5 : Nat → Nat) (L7 : Nat → Nat) : Nat → Nat := fun i => if i = 0 then a else if i < 2 then b1 else if i < 3 then b2 else if i < 5 then L3 (r + i) else if i < 7 then L5 (r + i) else L7 (r + i)
set_option maxHeartbeats 4000000 in
set_option maxRecDepth 100000 in
theorem i_X8 {r : Nat} (hr : rkp r pX8) : MetI yX8_init (.code yX8_init cX8_init 1 none :: W0) 2 6 [.null, .null, .null, .null, .null, .int 0] [] r 13 12 1305 := by
  refine MetI_of (by decide) rfl (fun a => by simp [lg_sl, Value.category]) ?_
  intro p l e s m args below meth c la D cy a S hSe hF hl hSz hP hD hS
  obtain ⟨CF, hr0, hlk, hin, hK, hKA⟩ := hF
  have CF0 := CF
  obtain ⟨hx, hb, hml, hown, hts⟩ := CF0
  have hla : la.size = 1 := hl.1
  refine lv_aload_n hx hb dX8_init_0 rfl (lv_at hl 0 rfl) ?_
  refine W.objInit hx hb hown (hts _ (List.mem_cons_of_mem _ (mW1 (List.mem_of_getElem? (i := 17) rfl)))) (hts _ (List.mem_cons_of_mem _ (mW0 (List.mem_of_getElem? (i := 2) rfl)))) (hts _ (List.mem_cons_of_mem _ (mW0 (List.mem_of_getElem? (i := 3) rfl)))) rfl (by rw [hml]; exact hl.1) rfl dX8_init_1 (by decide) (Nat.le_of_ble_eq_true rfl) ?_
  refine W.eq (g2 := F0 m 4 la []) rfl ?_
  refine lv_aload_n hx hb dX8_init_4 rfl (lv_at hl 0 rfl) ?_
  refine lv_iconst hx hb dX8_init_5 (v := 5) (by decide +kernel) ?_
  refine w_na CF hK (X := ((a, .inr (6, [.null, .null, .null, .null, .null, .int 0])) :: [])) hP hD hS hSz (Or.inl ⟨rfl, rfl⟩) (List.mem_cons_of_mem _ (mW0 (List.mem_of_getElem? (i := 4) rfl))) (by decide) (N := 5) (by decide +kernel) (by decide +kernel) (by decide +kernel) (by decide +kernel) dX8_init_6 ?_
  intro b1 H2 hP hD hS
  replace hP : va_P D vwCl ((a, .inr (6, [.null, .null, .null, .null, .null, .int 0])) :: ([(b1, .inl (cy 1, 5, .inl (fun _ => 0)))])) H2 := hP
  replace hD : va_D S ((a, .inr (6, [.null, .null, .null, .null, .null, .int 0])) :: ([(b1, .inl (cy 1, 5, .inl (fun _ => 0)))])) := hD
  refine w_putF CF hK hin (a := a) (ci := 6) (fs := [.null, .null, .null, .null, .null, .int 0]) (B := ([(b1, .inl (cy 1, 5, .inl (fun _ => 0)))])) hP hD hS (v := .ref b1) (ftX8_ok (9, 6, 0, 1, 10005, 1) (by decide)).1 rfl rfl rfl rfl (tyX8_ok 0 (by decide)) rfl rfl (by simp) dX8_init_8 ?_
  intro H2 locs2 hP hD hS
  refine W.eq (g2 := F0 m 11 la []) rfl ?_
  replace hP : va_P D vwCl ((a, .inr (6, [.ref b1, .null, .null, .null, .null, .int 0])) :: ([(b1, .inl (cy 1, 5, .inl (fun _ => 0)))])) H2 := hP
  replace hD : va_D S ((a, .inr (6, [.ref b1, .null, .null, .null, .null, .int 0])) :: ([(b1, .inl (cy 1, 5, .inl (fun _ => 0)))])) := hD
  refine lv_aload_n hx hb dX8_init_11 rfl (lv_at hl 0 rfl) ?_
  refine lv_bipush hx hb dX8_init_12 (v := 25) (by decide +kernel) ?_
  refine w_na CF hK (X := ((a, .inr (6, [.ref b1, .null, .null, .null, .null, .int 0])) :: ([(b1, .inl (cy 1, 5, .inl (fun _ => 0)))]))) hP hD hS hSz (Or.inl ⟨rfl, rfl⟩) (List.mem_cons_of_mem _ (mW0 (List.mem_of_getElem? (i := 4) rfl))) (by decide) (N := 25) (by decide +kernel) (by decide +kernel) (by decide +kernel) (by decide +kernel) dX8_init_14 ?_
  intro b2 H2 hP hD hS
  replace hP : va_P D vwCl ((a, .inr (6, [.ref b1, .null, .null, .null, .null, .int 0])) :: (apw ([(b1, .inl (cy 1, 5, .inl (fun _ => 0)))]) ([(b2, .inl (cy 1, 25, .inl (fun _ => 0)))]))) H2 := hP
  replace hD : va_D S ((a, .inr (6, [.ref b1, .null, .null, .null, .null, .int 0])) :: (apw ([(b1, .inl (cy 1, 5, .inl (fun _ => 0)))]) ([(b2, .inl (cy 1, 25, .inl (fun _ => 0)))]))) := hD
  refine w_putF CF hK hin (a := a) (ci := 6) (fs := [.ref b1, .null, .null, .null, .null, .int 0]) (B := (apw ([(b1, .inl (cy 1, 5, .inl (fun _ => 0)))]) ([(b2, .inl (cy 1, 25, .inl (fun _ => 0)))]))) hP hD hS (v := .ref b2) (ftX8_ok (15, 6, 1, 1, 10025, 2) (by decide)).1 rfl rfl rfl rfl (tyX8_ok 1 (by decide)) rfl rfl (by simp) dX8_init_16 ?_
  intro H2 locs2 hP hD hS
  refine W.eq (g2 := F0 m 19 la []) rfl ?_
  replace hP : va_P D vwCl ((a, .inr (6, [.ref b1, .ref b2, .null, .null, .null, .int 0])) :: (apw ([(b1, .inl (cy 1, 5, .inl (fun _ => 0)))]) ([(b2, .inl (cy 1, 25, .inl (fun _ => 0)))]))) H2 := hP
  replace hD : va_D S ((a, .inr (6, [.ref b1, .ref b2, .null, .null, .null, .int 0])) :: (apw ([(b1, .inl (cy 1, 5, .inl (fun _ => 0)))]) ([(b2, .inl (cy 1, 25, .inl (fun _ => 0)))]))) := hD
  refine lv_aload_n hx hb dX8_init_19 rfl (lv_at hl 0 rfl) ?_
  refine w_new CF hK (X := ((a, .inr (6, [.ref b1, .ref b2, .null, .null, .null, .int 0])) :: (apw ([(b1, .inl (cy 1, 5, .inl (fun _ => 0)))]) ([(b2, .inl (cy 1, 25, .inl (fun _ => 0)))])))) hP hD hS hSz (C := RX6) (T := TX6) (N := 2) (ci := 4) rfl infX6 tyX6 tyX6_ok (List.mem_cons_of_mem _ (mW1 (List.mem_of_getElem? (i := 20) rfl))) (List.mem_cons_of_mem _ (mW1 (List.mem_of_getElem? (i := 21) rfl))) (List.mem_cons_of_mem _ (mW1 (List.mem_of_getElem? (i := 22) rfl))) (fs := [.null, .int 0]) (by decide +kernel) (by decide +kernel) (by decide +kernel) dX8_init_20 dX8_init_23 ?_
  intro q H2 hP hD hS
  refine lv_bipush hx hb dX8_init_24 (v := 60) (by decide +kernel) ?_
  refine w_ctorI (i_X6a (r := r + 3) (rkp_sub hr (o := 3) (by decide) (by decide +kernel))) (by decide) (by decide) CF hK hKA (mW1 (List.mem_of_getElem? (i := 8) rfl)) (mW1 (List.mem_of_getElem? (i := 22) rfl)) (mW1 (List.mem_of_getElem? (i := 28) rfl)) (mW1 (List.mem_of_getElem? (i := 29) rfl)) rfl (n := 1) (by decide +kernel) rfl hla (by simp [Value.category]) (X := ((a, .inr (6, [.ref b1, .ref b2, .null, .null, .null, .int 0])) :: (apw ([(b1, .inl (cy 1, 5, .inl (fun _ => 0)))]) ([(b2, .inl (cy 1, 25, .inl (fun _ => 0)))])))) hP hD hS hSz ⟨by decide +kernel, by decide +kernel⟩ dX8_init_26 ?_
  intro L3 H2 locs2 hq hP9 hD9 hS9
  subst hq
  replace hP : va_P D vwCl ((a, .inr (6, [.ref b1, .ref b2, .null, .null, .null, .int 0])) :: (apw (apw ([(b1, .inl (cy 1, 5, .inl (fun _ => 0)))]) ([(b2, .inl (cy 1, 25, .inl (fun _ => 0)))])) (BD cy L3 (r + 3) 2))) H2 := hP9
  replace hD : va_D S ((a, .inr (6, [.ref b1, .ref b2, .null, .null, .null, .int 0])) :: (apw (apw ([(b1, .inl (cy 1, 5, .inl (fun _ => 0)))]) ([(b2, .inl (cy 1, 25, .inl (fun _ => 0)))])) (BD cy L3 (r + 3) 2))) := hD9
  replace hS := hS9
  refine w_putF CF hK hin (a := a) (ci := 6) (fs := [.ref b1, .ref b2, .null, .null, .null, .int 0]) (B := (apw (apw ([(b1, .inl (cy 1, 5, .inl (fun _ => 0)))]) ([(b2, .inl (cy 1, 25, .inl (fun _ => 0)))])) (BD cy L3 (r + 3) 2))) hP hD hS (v := .ref (L3 (r + 3))) (ftX8_ok (23, 6, 2, 1, 4, 3) (by decide)).1 rfl rfl rfl rfl (tyX8_ok 2 (by decide)) rfl rfl (by simp) dX8_init_29 ?_
  intro H2 locs2 hP hD hS
  refine W.eq (g2 := F0 m 32 la []) rfl ?_
  replace hP : va_P D vwCl ((a, .inr (6, [.ref b1, .ref b2, .ref (L3 (r + 3)), .null, .null, .int 0])) :: (apw (apw ([(b1, .inl (cy 1, 5, .inl (fun _ => 0)))]) ([(b2, .inl (cy 1, 25, .inl (fun _ => 0)))])) (BD cy L3 (r + 3) 2))) H2 := hP
  replace hD : va_D S ((a, .inr (6, [.ref b1, .ref b2, .ref (L3 (r + 3)), .null, .null, .int 0])) :: (apw (apw ([(b1, .inl (cy 1, 5, .inl (fun _ => 0)))]) ([(b2, .inl (cy 1, 25, .inl (fun _ => 0)))])) (BD cy L3 (r + 3) 2))) := hD
  refine lv_aload_n hx hb dX8_init_32 rfl (lv_at hl 0 rfl) ?_
  refine w_new CF hK (X := ((a, .inr (6, [.ref b1, .ref b2, .ref (L3 (r + 3)), .null, .null, .int 0])) :: (apw (apw ([(b1, .inl (cy 1, 5, .inl (fun _ => 0)))]) ([(b2, .inl (cy 1, 25, .inl (fun _ => 0)))])) (BD cy L3 (r + 3) 2)))) hP hD hS hSz (C := RX6) (T := TX6) (N := 2) (ci := 4) rfl infX6 tyX6 tyX6_ok (List.mem_cons_of_mem _ (mW1 (List.mem_of_getElem? (i := 20) rfl))) (List.mem_cons_of_mem _ (mW1 (List.mem_of_getElem? (i := 21) rfl))) (List.mem_cons_of_mem _ (mW1 (List.mem_of_getElem? (i := 22) rfl))) (fs := [.null, .int 0]) (by decide +kernel) (by decide +kernel) (by decide +kernel) dX8_init_33 dX8_init_36 ?_
  intro q H2 hP hD hS
  refine lv_sipush hx hb dX8_init_37 (v := 201) (by decide +kernel) ?_
  refine w_ctorI (i_X6b (r := r + 5) (rkp_sub hr (o := 5) (by decide) (by decide +kernel))) (by decide) (by decide) CF hK hKA (mW1 (List.mem_of_getElem? (i := 8) rfl)) (mW1 (List.mem_of_getElem? (i := 22) rfl)) (mW1 (List.mem_of_getElem? (i := 28) rfl)) (mW1 (List.mem_of_getElem? (i := 29) rfl)) rfl (n := 1) (by decide +kernel) rfl hla (by simp [Value.category]) (X := ((a, .inr (6, [.ref b1, .ref b2, .ref (L3 (r + 3)), .null, .null, .int 0])) :: (apw (apw ([(b1, .inl (cy 1, 5, .inl (fun _ => 0)))]) ([(b2, .inl (cy 1, 25, .inl (fun _ => 0)))])) (BD cy L3 (r + 3) 2)))) hP hD hS hSz ⟨by decide +kernel, by decide +kernel⟩ dX8_init_40 ?_
  intro L5 H2 locs2 hq hP9 hD9 hS9
  subst hq
  replace hP : va_P D vwCl ((a, .inr (6, [.ref b1, .ref b2, .ref (L3 (r + 3)), .null, .null, .int 0])) :: (apw (apw (apw ([(b1, .inl (cy 1, 5, .inl (fun _ => 0)))]) ([(b2, .inl (cy 1, 25, .inl (fun _ => 0)))])) (BD cy L3 (r + 3) 2)) (BD cy L5 (r + 5) 2))) H2 := hP9
  replace hD : va_D S ((a, .inr (6, [.ref b1, .ref b2, .ref (L3 (r + 3)), .null, .null, .int 0])) :: (apw (apw (apw ([(b1, .inl (cy 1, 5, .inl (fun _ => 0)))]) ([(b2, .inl (cy 1, 25, .inl (fun _ => 0)))])) (BD cy L3 (r + 3) 2)) (BD cy L5 (r + 5) 2))) := hD9
  replace hS := hS9
  refine w_putF CF hK hin (a := a) (ci := 6) (fs := [.ref b1, .ref b2, .ref (L3 (r + 3)), .null, .null, .int 0]) (B := (apw (apw (apw ([(b1, .inl (cy 1, 5, .inl (fun _ => 0)))]) ([(b2, .inl (cy 1, 25, .inl (fun _ => 0)))])) (BD cy L3 (r + 3) 2)) (BD cy L5 (r + 5) 2))) hP hD hS (v := .ref (L5 (r + 5))) (ftX8_ok (27, 6, 3, 1, 9, 5) (by decide)).1 rfl rfl rfl rfl (tyX8_ok 3 (by decide)) rfl rfl (by simp) dX8_init_43 ?_
  intro H2 locs2 hP hD hS
  refine W.eq (g2 := F0 m 46 la []) rfl ?_
  replace hP : va_P D vwCl ((a, .inr (6, [.ref b1, .ref b2, .ref (L3 (r + 3)), .ref (L5 (r + 5)), .null, .int 0])) :: (apw (apw (apw ([(b1, .inl (cy 1, 5, .inl (fun _ => 0)))]) ([(b2, .inl (cy 1, 25, .inl (fun _ => 0)))])) (BD cy L3 (r + 3) 2)) (BD cy L5 (r + 5) 2))) H2 := hP
  replace hD : va_D S ((a, .inr (6, [.ref b1, .ref b2, .ref (L3 (r + 3)), .ref (L5 (r + 5)), .null, .int 0])) :: (apw (apw (apw ([(b1, .inl (cy 1, 5, .inl (fun _ => 0)))]) ([(b2, .inl (cy 1, 25, .inl (fun _ => 0)))])) (BD cy L3 (r + 3) 2)) (BD cy L5 (r + 5) 2))) := hD
  refine lv_aload_n hx hb dX8_init_46 rfl (lv_at hl 0 rfl) ?_
  refine w_new CF hK (X := ((a, .inr (6, [.ref b1, .ref b2, .ref (L3 (r + 3)), .ref (L5 (r + 5)), .null, .int 0])) :: (apw (apw (apw ([(b1, .inl (cy 1, 5, .inl (fun _ => 0)))]) ([(b2, .inl (cy 1, 25, .inl (fun _ => 0)))])) (BD cy L3 (r + 3) 2)) (BD cy L5 (r + 5) 2)))) hP hD hS hSz (C := RX4) (T := TX4) (N := 5) (ci := 2) rfl infX4 tyX4 tyX4_ok (List.mem_cons_of_mem _ (mW1 (List.mem_of_getElem? (i := 25) rfl))) (List.mem_cons_of_mem _ (mW1 (List.mem_of_getElem? (i := 26) rfl))) (List.mem_cons_of_mem _ (mW0 (List.mem_of_getElem? (i := 57) rfl))) (fs := [.null, .null, .null, .null, .null]) (by decide +kernel) (by decide +kernel) (by decide +kernel) dX8_init_47 dX8_init_50 ?_
  intro q H2 hP hD hS
  refine w_ctorN (host := RX9) (i_X4 (r := r + 7) (rkp_sub hr (o := 7) (by decide) (by decide +kernel))) (by decide) (by decide) CF hK hKA (mW1 (List.mem_of_getElem? (i := 11) rfl)) (mW0 (List.mem_of_getElem? (i := 57) rfl)) (by decide) (mW1 (List.mem_of_getElem? (i := 30) rfl)) rfl (n := 0) (by decide +kernel) rfl hla (by simp [Value.category]) (X := ((a, .inr (6, [.ref b1, .ref b2, .ref (L3 (r + 3)), .ref (L5 (r + 5)), .null, .int 0])) :: (apw (apw (apw ([(b1, .inl (cy 1, 5, .inl (fun _ => 0)))]) ([(b2, .inl (cy 1, 25, .inl (fun _ => 0)))])) (BD cy L3 (r + 3) 2)) (BD cy L5 (r + 5) 2)))) hP hD hS hSz ⟨by decide +kernel, by decide +kernel⟩ dX8_init_51 ?_
  intro L7 H2 locs2 hq hP9 hD9 hS9
  subst hq
  replace hP : va_P D vwCl ((a, .inr (6, [.ref b1, .ref b2, .ref (L3 (r + 3)), .ref (L5 (r + 5)), .null, .int 0])) :: (apw (apw (apw (apw ([(b1, .inl (cy 1, 5, .inl (fun _ => 0)))]) ([(b2, .inl (cy 1, 25, .inl (fun _ => 0)))])) (BD cy L3 (r + 3) 2)) (BD cy L5 (r + 5) 2)) (BD cy L7 (r + 7) 6))) H2 := hP9
  replace hD : va_D S ((a, .inr (6, [.ref b1, .ref b2, .ref (L3 (r + 3)), .ref (L5 (r + 5)), .null, .int 0])) :: (apw (apw (apw (apw ([(b1, .inl (cy 1, 5, .inl (fun _ => 0)))]) ([(b2, .inl (cy 1, 25, .inl (fun _ => 0)))])) (BD cy L3 (r + 3) 2)) (BD cy L5 (r + 5) 2)) (BD cy L7 (r + 7) 6))) := hD9
  replace hS := hS9
  refine w_putF CF hK hin (a := a) (ci := 6) (fs := [.ref b1, .ref b2, .ref (L3 (r + 3)), .ref (L5 (r + 5)), .null, .int 0]) (B := (apw (apw (apw (apw ([(b1, .inl (cy 1, 5, .inl (fun _ => 0)))]) ([(b2, .inl (cy 1, 25, .inl (fun _ => 0)))])) (BD cy L3 (r + 3) 2)) (BD cy L5 (r + 5) 2)) (BD cy L7 (r + 7) 6))) hP hD hS (v := .ref (L7 (r + 7))) (ftX8_ok (33, 6, 4, 1, 2, 7) (by decide)).1 rfl rfl rfl rfl (tyX8_ok 4 (by decide)) rfl rfl (by simp) dX8_init_54 ?_
  intro H2 locs2 hP hD hS
  refine W.eq (g2 := F0 m 57 la []) rfl ?_
  replace hP : va_P D vwCl ((a, .inr (6, [.ref b1, .ref b2, .ref (L3 (r + 3)), .ref (L5 (r + 5)), .ref (L7 (r + 7)), .int 0])) :: (apw (apw (apw (apw ([(b1, .inl (cy 1, 5, .inl (fun _ => 0)))]) ([(b2, .inl (cy 1, 25, .inl (fun _ => 0)))])) (BD cy L3 (r + 3) 2)) (BD cy L5 (r + 5) 2)) (BD cy L7 (r + 7) 6))) H2 := hP
  replace hD : va_D S ((a, .inr (6, [.ref b1, .ref b2, .ref (L3 (r + 3)), .ref (L5 (r + 5)), .ref (L7 (r + 7)), .int 0])) :: (apw (apw (apw (apw ([(b1, .inl (cy 1, 5, .inl (fun _ => 0)))]) ([(b2, .inl (cy 1, 25, .inl (fun _ => 0)))])) (BD cy L3 (r + 3) 2)) (BD cy L5 (r + 5) 2)) (BD cy L7 (r + 7) 6))) := hD
  have q4 : va_P D vwCl (apw ((a, .inr (6, [.ref b1, .ref b2, .ref (L3 (r + 3)), .ref (L5 (r + 5)), .ref (L7 (r + 7)), .int 0])) :: (apw (apw (apw ([(b1, .inl (cy 1, 5, .inl (fun _ => 0)))]) ([(b2, .inl (cy 1, 25, .inl (fun _ => 0)))])) (BD cy L3 (r + 3) 2)) (BD cy L5 (r + 5) 2))) (BD cy L7 (r + 7) 6)) H2 := hP
  have b7 : va_P D vwCl (BD cy (LO r (fX8 r a b1 b2 L3 L5 L7)) (r + 7) 6) H2 := BD_P (pat := pX4) (rkp_sub hr (o := 7) (by decide) (by decide +kernel)) clo_X4 (fun i hi => by
      have hi : i < 6 := hi
      rw [Nat.add_assoc, LO_at]
      show fX8 r a b1 b2 L3 L5 L7 (7 + i) = _
      unfold fX8
      rw [if_neg (by omega), if_neg (by omega), if_neg (by omega), if_neg (by omega), if_neg (by omega)]) (P_suf q4)
  have q3 : va_P D vwCl (apw ((a, .inr (6, [.ref b1, .ref b2, .ref (L3 (r + 3)), .ref (L5 (r + 5)), .ref (L7 (r + 7)), .int 0])) :: (apw (apw ([(b1, .inl (cy 1, 5, .inl (fun _ => 0)))]) ([(b2, .inl (cy 1, 25, .inl (fun _ => 0)))])) (BD cy L3 (r + 3) 2))) (BD cy L5 (r + 5) 2)) H2 := P_pre q4
  have b5 : va_P D vwCl (BD cy (LO r (fX8 r a b1 b2 L3 L5 L7)) (r + 5) 2) H2 := BD_P (pat := pX6b) (rkp_sub hr (o := 5) (by decide) (by decide +kernel)) clo_X6b (fun i hi => by
      have hi : i < 2 := hi
      rw [Nat.add_assoc, LO_at]
      show fX8 r a b1 b2 L3 L5 L7 (5 + i) = _
      unfold fX8
      rw [if_neg (by omega), if_neg (by omega), if_neg (by omega), if_neg (by omega), if_pos (by omega)]) (P_suf q3)
  have q2 : va_P D vwCl (apw ((a, .inr (6, [.ref b1, .ref b2, .ref (L3 (r + 3)), .ref (L5 (r + 5)), .ref (L7 (r + 7)), .int 0])) :: (apw ([(b1, .inl (cy 1, 5, .inl (fun _ => 0)))]) ([(b2, .inl (cy 1, 25, .inl (fun _ => 0)))]))) (BD cy L3 (r + 3) 2)) H2 := P_pre q3
  have b3 : va_P D vwCl (BD cy (LO r (fX8 r a b1 b2 L3 L5 L7)) (r + 3) 2) H2 := BD_P (pat := pX6a) (rkp_sub hr (o := 3) (by decide) (by decide +kernel)) clo_X6a (fun i hi => by
      have hi : i < 2 := hi
      rw [Nat.add_assoc, LO_at]
      show fX8 r a b1 b2 L3 L5 L7 (3 + i) = _
      unfold fX8
      rw [if_neg (by omega), if_neg (by omega), if_neg (by omega), if_pos (by omega)]) (P_suf q2)
  have q1 : va_P D vwCl (apw ((a, .inr (6, [.ref b1, .ref b2, .ref (L3 (r + 3)), .ref (L5 (r + 5)), .ref (L7 (r + 7)), .int 0])) :: ([(b1, .inl (cy 1, 5, .inl (fun _ => 0)))])) ([(b2, .inl (cy 1, 25, .inl (fun _ => 0)))])) H2 := P_pre q2
  have q0 : va_P D vwCl (apw ((a, .inr (6, [.ref b1, .ref b2, .ref (L3 (r + 3)), .ref (L5 (r + 5)), .ref (L7 (r + 7)), .int 0])) :: []) ([(b1, .inl (cy 1, 5, .inl (fun _ => 0)))])) H2 := P_pre q1
  have hB : va_P D vwCl (BD cy (LO r (fX8 r a b1 b2 L3 L5 L7)) r 13) H2 := by
    intro i q hq
    obtain ⟨hi, rfl⟩ := BD_of hq
    by_cases c0 : i = 0
    · subst c0
      rw [LO_at, ce_o (k := 6) (hr 0 (by decide)) (by decide)]
      exact (P_pre q0) 0 _ rfl
    by_cases c1 : i < 2
    · obtain rfl : i = 1 := by omega
      rw [LO_at, ce_a (k := 10005) (hr 1 (by decide)) (by decide) (by decide)]
      exact (P_suf q0) 0 _ rfl
    by_cases c2 : i < 3
    · obtain rfl : i = 2 := by omega
      rw [LO_at, ce_a (k := 10025) (hr 2 (by decide)) (by decide) (by decide)]
      exact (P_suf q1) 0 _ rfl
    by_cases c3 : i < 5
    · exact BD_at b3 (by omega) (by omega)
    by_cases c5 : i < 7
    · exact BD_at b5 (by omega) (by omega)
    by_cases c7 : i < 13
    · exact BD_at b7 (by omega) (by omega)
    exact absurd hi (by omega)
  have hE : va_D S (BD cy (LO r (fX8 r a b1 b2 L3 L5 L7)) r 13) := by
    have hx9 : IX (apw (apw (apw (apw (apw [(a, .inr (6, [.ref b1, .ref b2, .ref (L3 (r + 3)), .ref (L5 (r + 5)), .ref (L7 (r + 7)), .int 0]))] ([(b1, .inl (cy 1, 5, .inl (fun _ => 0)))])) ([(b2, .inl (cy 1, 25, .inl (fun _ => 0)))])) (BD cy L3 (r + 3) 2)) (BD cy L5 (r + 5) 2)) (BD cy L7 (r + 7) 6)) (fX8 r a b1 b2 L3 L5 L7) 13 := (ix_b (ix_b (ix_b (ix_s (ix_s (ix_1 (f := (fX8 r a b1 b2 L3 L5 L7)) rfl) rfl) rfl) (fun i hi => by
      have hi : i < 2 := hi
      show fX8 r a b1 b2 L3 L5 L7 (3 + i) = _
      unfold fX8
      rw [if_neg (by omega), if_neg (by omega), if_neg (by omega), if_pos (by omega), Nat.add_assoc])) (fun i hi => by
      have hi : i < 2 := hi
      show fX8 r a b1 b2 L3 L5 L7 (5 + i) = _
      unfold fX8
      rw [if_neg (by omega), if_neg (by omega), if_neg (by omega), if_neg (by omega), if_pos (by omega), Nat.add_assoc])) (fun i hi => by
      have hi : i < 6 := hi
      show fX8 r a b1 b2 L3 L5 L7 (7 + i) = _
      unfold fX8
      rw [if_neg (by omega), if_neg (by omega), if_neg (by omega), if_neg (by omega), if_neg (by omega), Nat.add_assoc]))
    refine BD_D (show va_D S (apw (apw (apw (apw (apw [(a, .inr (6, [.ref b1, .ref b2, .ref (L3 (r + 3)), .ref (L5 (r + 5)), .ref (L7 (r + 7)), .int 0]))] ([(b1, .inl (cy 1, 5, .inl (fun _ => 0)))])) ([(b2, .inl (cy 1, 25, .inl (fun _ => 0)))])) (BD cy L3 (r + 3) 2)) (BD cy L5 (r + 5) 2)) (BD cy L7 (r + 7) 6)) from hD) (fun i hi => ?_)
    rw [LO_at]
    exact hx9.2 i hi
  subst hSe
  refine W.vret hx hb hr0 (fun t ht hW => ⟨⟨rfl, (LO r (fX8 r a b1 b2 L3 L5 L7)), ?_, by rw [ht]; exact hB, hE⟩, hS.F ht⟩) hS.2.2 dX8_init_57
  show LO r _ r = a
  unfold LO
  rw [Nat.sub_self]
  rfl
