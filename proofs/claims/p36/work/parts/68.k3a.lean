/-! ===== the call of isWord ===== -/
theorem g_isWord {X : Cx} {bytes : ByteArray} {c0 : Jvm.Cond} {q : Nat × Nat} {pc : Nat} {ls : Lc} {I A : FN} {P0 : KP} (hKX : KX P0 X) (hX : Fx X RX7 bytes (c0 :: W0)) {d : Nat} {mx : Nat × Nat} (hR : RmX X d mx) (hdd : 6 ≤ d) {i st : Int}
    (hl0 : lget 0 ls = some (.inr (some (5, 90)))) (hm0 : some (.inr (some (5, 90))) ∈ ls) (hl1 : lget 1 ls = some (.inl st)) (hm1 : some (.inl st) ∈ ls) (hl2 : lget 2 ls = some (.inl i)) (h0 : 0 ≤ i) (h11 : i < 11) (h3 : I 90 3 ≠ 0 ∧ I 90 4 ≤ 400) (hq : q.1 ≤ mx.1 ∧ q.2 ≤ mx.2)
    (hd0 : decode bytes pc = .ok (.aload_n 0, 1)) (hd1 : decode bytes (pc + 1) = .ok (.getstatic 53, 3)) (hd2 : decode bytes (pc + 4) = .ok (.iload_n 2, 1)) (hd3 : decode bytes (pc + 5) = .ok (.aaload, 1)) (hd4 : decode bytes (pc + 6) = .ok (.getfield 79, 3)) (hd5 : decode bytes (pc + 9) = .ok (.iload_n 1, 1)) (hd6 : decode bytes (pc + 10) = .ok (.invokevirtual 83, 3))
    (kk : ∀ x : Int, (x = 0 ∨ x = 1) → Go X q (pc + 13) ls [.inl x] I A) : Go X q pc ls [] I A := by
  obtain ⟨p, l, e, R, s, m, args, below, meth, c, Qf, D, cy, L, lv, S, nL, i77⟩ := X
  obtain ⟨hx, hb, hml, hown, hts, hK, hSz, hlv, hlk, him⟩ := hX
  have hRR : R = rmD d mx := hR
  subst hRR
  obtain ⟨hKK, hN⟩ : KH P0 S s s.heap ∧ KN s := hKX
  intro hI hA hg hst hls H locs la hP hD hS hL
  have h90 : 90 ∈ lv := (hls _ hm0).1
  have hsI : inI st := hls _ hm1
  have hfree : ∀ z, va_A (wd cy L lv I A) H.size z → S z := fun z hz => by
    rcases hz with ⟨k, e1, hk⟩ | hz
    · exact hD.2 k _ hk
    · exact hSz z (Nat.le_trans hS.1 hz)
  have hKH : KH P0 (va_A (wd cy L lv I A) H.size) s H := (hKK.kept hS.2.1).narrow hfree
  obtain ⟨hin, hcl⟩ := vp_in_n h0 (N := 11) (by omega) (by omega)
  have hla : la.size = nL := by
    obtain ⟨-, lv0, hl1, -⟩ := hL
    exact hl1.1
  have hi : i.toNat < 11 := by omega
  refine lv_aload_n hx hb hd0 rfl (hL.get hl0) ?_
  refine va_getsN hx hb hKK.1 hS hown (va_Nw.use rfl hN) (fun _ h9 => h9) hd1 ?_
  refine lv_iload_n hx hb hd2 rfl (hL.get hl2) ?_
  refine vb_tq hx hb hKK.2.1 hS hin (v := .ref (P0.1 i.toNat)) (by rw [hcl]) hd3 ?_
  refine vk_getf hx hb (hKK.2.2.1 i.toNat hi).2.2.2.1 hS hown (hts _ (List.mem_cons_of_mem _ (mW4 (List.mem_of_getElem? (i := 23) rfl)))) (fun _ h9 => h9) hd4 ?_
  refine lv_iload_n hx hb hd5 rfl (hL.get hl1) ?_
  obtain ⟨q0, -, hq0⟩ := wd_mem (cy := cy) (L := L) (I := I) (A := A) h90
  rw [ce_obj (k := 5) rfl (by decide)] at hq0
  have hMet := c_isWord (l := l) (P0 := P0) (D := D) (cy := cy) (L := L) (sz := H.size) hlv hI hA (fun h i hi h0 => him h i hi (by rw [← hg]; exact h0)) h90 hsI hi h3
  have cw := cwV (R := rmD d mx) (own := RX7) (index := 83) (C := yX7_isWord.cls) (y := yX7_isWord) (bytes := cX7_isWord) (maxL := 4) (ret := some .boolean) (rm := rmD 5 (0, 0)) (mc := 0) (ms := 0) 2 hts (gdV (mW4 (List.mem_of_getElem? (i := 24) rfl)) (mW4 (List.mem_of_getElem? (i := 25) rfl)) (mW4 (List.mem_of_getElem? (i := 26) rfl)) (mW3 (List.mem_of_getElem? (i := 32) rfl)) (mW4 (List.mem_of_getElem? (i := 22) rfl))) rfl rfl rfl ⟨rfl, by decide +kernel⟩ ⟨by show 5 + 1 ≤ d; omega, by show 8 + (4 + 11) + 40 * 5 ≤ 40 * d; omega⟩
  have hrun := va_runV (g := F0 m (pc + 10) la [.int (oI st), .ref (P0.2.1 i.toNat), .ref (L 90)]) (locs := locs) (H := H) (b := L 90) (As := [.ref (P0.2.1 i.toNat), .int (oI st)]) (rest := []) (p := p) (e := e) (below := below) (meth := meth) (cells := q.1) (slots := q.2) ⟨hx, hb, hml, hown, hts⟩ hMet cw
    ⟨PcW_blind, va_recv hK.1 hP (ci := 5) rfl hq0, fun U hU hW => ⟨rfl, ⟨by rw [hU], by rw [hU]; exact hP, KK.warm hW hK, wd_D (hD.weaken (fun _ _ _ _ => trivial))⟩, by rw [hU]; exact hKH.moved hW.alike⟩⟩ rfl rfl hla rfl (lv_room (by decide)) hd6 ⟨hq.1, hq.2⟩
  refine call_core (rest := []) hrun hD hS hSz (fun r2 I' A' H1 locs1 g1 g2 g3 g4 g5 g6 g7 g8 => ?_)
  obtain ⟨rfl, rfl, g6⟩ := g6
  rcases g6 with rfl | rfl
  · exact kk 0 (Or.inl rfl) hI hA hg (okS_c (fun v hv => absurd hv List.not_mem_nil) (g2 0 rfl)) hls H1 locs1 la g7 hD g8 hL
  · exact kk 1 (Or.inr rfl) hI hA hg (okS_c (fun v hv => absurd hv List.not_mem_nil) (g2 1 rfl)) hls H1 locs1 la g7 hD g8 hL
