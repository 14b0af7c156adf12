/-! ===== the switch of doDeed ===== -/
section J
variable {p : Program} {l : Launch} {e : Env} {s : State} {m : MethodId} {args : Array Value} {below : List Frame} {meth : Method} {c : Code} {H : Heap} {locs : List Loc} {cells slots : Nat} {Q : State → Prop} {S : Nat → Prop} {P0 : KP} {bytes : ByteArray} {nL : Nat} {c0 : Jvm.Cond}
theorem j_ord {d pc i : Nat} {mx : Nat × Nat} {rest : List Value} {la : Array Slot} (hi : i < 11) (hdd : 2 ≤ d) (CF : CallFix p m c bytes nL s args (c0 :: W0) RX9) (hKH : KH P0 S s s.heap) (hS : va_S S s.heap H locs)
    (hla : la.size = nL) (hroom : (rest.map fun v => v.category).sum ≤ 8) (hc : cells ≤ mx.1 ∧ slots ≤ mx.2) (hd : decode bytes pc = .ok (.invokevirtual 388, 3))
    (kk : W p l e (rmD d mx) s m args below meth c H locs cells slots Q (F0 m (pc + 3) la (.int (Int32.ofNat i) :: rest))) : W p l e (rmD d mx) s m args below meth c H locs cells slots Q (F0 m pc la (.ref (P0.1 i) :: rest)) := by
  have ht := CF.2.2.2.2
  have wl : (Cond.fieldLink RJx29ce0 7 "java/lang/Enum" "ordinal" "I").before args s = true := ht _ (List.mem_cons_of_mem _ (mW9 (List.mem_of_getElem? (i := 26) rfl)))
  have hrun := run_in (p := p) (l := l) (e := e) (R := rmD d mx) (below := below) (meth := meth) (locs := locs) (cells := cells) (slots := slots) (H := H) (y := yJx29ce0_ordinal_8abf5) (x := ⟨"MovingList$Deed", "ordinal", "()I"⟩) (C := RX2) (owner := RJx29ce0) (index := 388) (bytes := cJx29ce0_ordinal_8abf5) (maxL := 1) (ret := some .int) (rm := rmD 1 (0, 0)) (mc := 0) (ms := 0) (n := 0) (Pc := JPc P0 [.ref (P0.1 i)]) (Qc := JQ (some (.int (Int32.ofNat i)))) (free := fun _ => False) (As := []) (b := P0.1 i) (rest := rest) (g := F0 m pc la (.ref (P0.1 i) :: rest))
    CF (by decide) ⟨rfl, rfl, hdd, by show 8 + (1 + 11) + 40 * 1 ≤ 40 * d; omega⟩ (ht _ (List.mem_cons_of_mem _ (mW9 (List.mem_of_getElem? (i := 31) rfl)))) (ht _ (List.mem_cons_of_mem _ (mW9 (List.mem_of_getElem? (i := 32) rfl)))) (ht _ (List.mem_cons_of_mem _ (mW9 (List.mem_of_getElem? (i := 33) rfl)))) (ht _ (List.mem_cons_of_mem _ (mW9 (List.mem_of_getElem? (i := 34) rfl)))) (ht _ (List.mem_cons_of_mem _ (mW9 (List.mem_of_getElem? (i := 25) rfl)))) rfl (by decide) (by decide +kernel)
    ⟨JPc_blind, va_Orecv (hKH.2.2.1 _ hi).1 hS, fun U hU hW => ⟨rfl, by show KH P0 (fun _ => False) U U.heap; rw [hU]; exact ((hKH.kept hS.2.1).narrow (fun _ h => h.elim)).moved hW.alike⟩⟩
    (fun s' m' a' below' meth' c' hB hPc => by
      obtain ⟨hx, hb, hml, hlk, hr, hnm, hW⟩ := hB
      obtain ⟨rfl, hKH'⟩ := hPc
      have hS' : va_S (fun _ => False) s'.heap s'.heap [] := va_S.rf
      have hl := lv_entry [.ref (P0.1 i)] (n := 1) (by simp [lg_sl, Value.category])
      rw [lg_entry_eq]
      generalize (lg_sl [.ref (P0.1 i)] ++ List.replicate (1 - (lg_sl [.ref (P0.1 i)]).length) Slot.unset).toArray = la' at hl ⊢
      have hown := findClass_of_methodNamed hnm
      refine lv_aload_n hx hb dJx29ce0_ordinal_8abf5_0 rfl (lv_at hl 0 rfl) ?_
      refine vk_getf hx hb (hKH'.2.2.1 i hi).2.2.2.2 hS' hown (word_at hW (Or.inl (by first | rfl | simp [Cond.onTables, Cond.keeps, Cond.steady])) wl) (fun _ h9 => h9) dJx29ce0_ordinal_8abf5_1 ?_
      exact W.iret hx hb hr (fun t ht hW => ⟨rfl, ht⟩) (fun q hq => by cases hq) dJx29ce0_ordinal_8abf5_4) rfl rfl hla rfl (lv_room hroom) hd ⟨hc.1, hc.2⟩
  exact j_core hrun kk
end J
theorem g_dsw {X : Cx} {bytes : ByteArray} {c0 : Jvm.Cond} {q : Nat × Nat} {pc : Nat} {ls : Lc} {I A : FN} {P0 : KP} (hKX : KX P0 X) (hX : Fx X RX9 bytes (c0 :: W0)) {d : Nat} {mx : Nat × Nat} (hR : RmX X d mx) (hdd : 2 ≤ d) {t : Int}
    (hl0 : lget 0 ls = some (.inr (some (7, 0)))) (hm0 : some (.inr (some (7, 0))) ∈ ls) (hl1 : lget 1 ls = some (.inl t)) (hm1 : some (.inl t) ∈ ls) (h0 : 0 ≤ t) (h4 : t < 400) (h1 : 0 ≤ A 91 t.toNat) (h2 : A 91 t.toNat ≤ 10) (hq : q.1 ≤ mx.1 ∧ q.2 ≤ mx.2)
    (hd0 : decode bytes pc = .ok (.getstatic 379, 3)) (hd1 : decode bytes (pc + 3) = .ok (.getstatic 384, 3)) (hd2 : decode bytes (pc + 6) = .ok (.aload_n 0, 1)) (hd3 : decode bytes (pc + 7) = .ok (.getfield 41, 3)) (hd4 : decode bytes (pc + 10) = .ok (.getfield 376, 3)) (hd5 : decode bytes (pc + 13) = .ok (.iload_n 1, 1)) (hd6 : decode bytes (pc + 14) = .ok (.iaload, 1)) (hd7 : decode bytes (pc + 15) = .ok (.aaload, 1)) (hd8 : decode bytes (pc + 16) = .ok (.invokevirtual 388, 3)) (hd9 : decode bytes (pc + 19) = .ok (.iaload, 1))
    (kk : ∀ v : Int, 0 ≤ v → v ≤ 10 → Go X q (pc + 20) ls [.inl v] I A) : Go X q pc ls [] I A := by
  obtain ⟨p, l, e, R, s, m, args, below, meth, c, Qf, D, cy, L, lv, S, nL, i77⟩ := X
  obtain ⟨hx, hb, hml, hown, hts, hK, hSz, hlv, hlk, him⟩ := hX
  have hRR : R = rmD d mx := hR
  subst hRR
  obtain ⟨hKK, hN⟩ : KH P0 S s s.heap ∧ KN s := hKX
  intro hI hA hg hst hls H locs la hP hD hS hL
  have hm : 0 ∈ lv := (hls _ hm0).1
  have htI : inI t := hls _ hm1
  have h90 : 90 ∈ lv := (hlv.1 0 hm 5 (by decide)).1
  have h91 : 91 ∈ lv := (hlv.1 90 h90 0 (by decide)).1
  obtain ⟨hin, hcl⟩ := vp_in_n h1 (N := 11) (by omega) (by omega)
  have hla : la.size = nL := by
    obtain ⟨-, lv0, hl1, -⟩ := hL
    exact hl1.1
  have hi : (A 91 t.toNat).toNat < 11 := by omega
  have eo : Int32.ofNat (A 91 t.toNat).toNat = oI (A 91 t.toNat) := by
    rw [oI_ofNat, Int.toNat_of_nonneg h1]
  refine va_gets hx hb hKK.2.2.2.2.1 hS hown (hts _ (List.mem_cons_of_mem _ (mW9 (List.mem_of_getElem? (i := 29) rfl)))) (fun _ h9 => h9) hd0 ?_
  refine va_gets hx hb hKK.1 hS hown (hts _ (List.mem_cons_of_mem _ (mW9 (List.mem_of_getElem? (i := 30) rfl)))) (fun _ h9 => h9) hd1 ?_
  refine lv_aload_n hx hb hd2 rfl (hL.get hl0) ?_
  refine w_get ⟨hx, hb, hml, hown, hts⟩ hK hP (idx := 41) (k := 7) (j := 5) (r := 0) (v := .ref (L 90)) (ftX9_ok (41, 7, 5, 1, 5, 90) (by decide)).1 hm rfl rfl hd3 ?_
  refine w_get ⟨hx, hb, hml, hown, hts⟩ hK hP (idx := 376) (k := 5) (j := 0) (r := 90) (v := .ref (L 91)) (ftX9_ok (376, 5, 0, 1, 10400, 1) (by decide)).1 h90 rfl rfl hd4 ?_
  refine lv_iload_n hx hb hd5 rfl (hL.get hl1) ?_
  obtain ⟨q0, -, hq0⟩ := vg_aget (cy := cy) (L := L) (I := I) (A := A) h91 (k := 10400) rfl (t := 1) rfl (by omega) (by omega)
  refine va_iald hx hb hK.1 hP q0 0 hq0 rfl (oI_vp htI h0 (by omega)) hd6 ?_
  rw [oI_cl htI]
  refine vb_tq hx hb hKK.2.1 hS hin (v := .ref (P0.1 (A 91 t.toNat).toNat)) (by rw [hcl]) hd7 ?_
  refine j_ord hi hdd ⟨hx, hb, hml, hown, hts⟩ hKK hS hla (by simp [Value.category]) hq hd8 ?_
  rw [eo]
  refine va_ti hx hb hKK.2.2.2.2.2.1 hS hin (v := .int (oI (if A 91 t.toNat = 10 then 0 else A 91 t.toNat + 1))) ?_ hd9 ?_
  · rw [hcl]
    by_cases h : A 91 t.toNat = 10
    · rw [if_pos h, if_pos (by omega)]
      rfl
    · rw [if_neg h, if_neg (by omega), oI_ofNat]
      congr 2
      omega
  · refine kk _ ?_ ?_ hI hA hg (okS_c (fun v hv => absurd hv List.not_mem_nil) ?_) hls H locs la hP hD hS hL
    · split <;> omega
    · split <;> omega
    · exact ⟨by split <;> omega, by split <;> omega⟩
theorem CI_scr {I A J B : FN} (h : CI I A) (fi : FrW (up2 I 0 7 0) J 90 90) (fa : FrW A B 91 91) : CI J B ∧ J 0 7 = 0 ∧ J 77 = I 77 ∧ B 78 = A 78 := by
  obtain ⟨a1, a2, a3, a4, a5⟩ := h
  have f0 : FrW I (up2 I 0 7 0) 0 0 := fun a ha => up2_rn (by omega)
  have e7 : J 0 7 = 0 := by rw [fi 0 (by omega), up2_ud, ud_s]
  have e77 : J 77 = I 77 := by rw [fi 77 (by omega), f0 77 (by omega)]
  refine ⟨⟨GI_ff (GI_ff a1 f0 (lo' := 1000) (hi' := 0) FrW_0 (by omega) (by omega)) fi fa (by omega) (by omega), ?_, ?_, ?_, fun i hi hx => ?_⟩, e7, e77, fa 78 (by omega)⟩
  · rw [fa 94 (by omega)]; exact a2
  · rw [fa 95 (by omega)]; exact a3
  · omega
  · rw [e77] at hx
    exact GI_ff (GI_ff (a5 i hi hx) f0 (lo' := 1000) (hi' := 0) FrW_0 (by omega) (by omega)) fi fa (by omega) (by omega)
def SQ (I A J B : FN) : Prop := CI J B ∧ J 0 7 = 0 ∧ J 77 = I 77 ∧ B 78 = A 78
theorem SQ_t {I A J B K C : FN} (h : CQ J B K C) (s : SQ I A J B) : SQ I A K C := ⟨h.1, h.2.1.trans s.2.1, h.2.2.1.trans s.2.2.1, h.2.2.2.1.trans s.2.2.2⟩
theorem SQ_b {J B K C : FN} (h : CQ J B K C) (g : ∀ j : Nat, (j : Int) < J 90 1 → 0 ≤ B 91 (4 * j) ∧ B 91 (4 * j) ≤ 10) {j : Nat} (hj : (j : Int) < K 90 1) : 0 ≤ C 91 (4 * j) ∧ C 91 (4 * j) ≤ 10 := by
  rw [h.2.2.2.2.2]
  rw [h.2.2.2.2.1] at hj
  exact g j hj
theorem SQ_k {J B : FN} {k : Int} (g : ∀ j : Nat, (j : Int) < J 90 1 → 0 ≤ B 91 (4 * j) ∧ B 91 (4 * j) ≤ 10) (h0 : 0 ≤ k) (h1 : k < J 90 1) : 0 ≤ B 91 (k * 4).toNat ∧ B 91 (k * 4).toNat ≤ 10 := by
  have := g k.toNat (by omega)
  rw [show (k * 4).toNat = 4 * k.toNat by omega]
  exact this
theorem CQ_n {I A J B : FN} (h : CQ I A J B) : J 90 1 = I 90 1 := by rw [h.2.2.2.2.1]
