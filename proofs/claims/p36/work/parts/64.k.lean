/-! ===== constants of the class: deeds, their words, the switch's row ===== -/
abbrev KP : Type := (Nat → Nat) × (Nat → Nat) × (Nat → Nat) × Nat × Nat
def wLen : List Nat := [6, 4, 4, 6, 7, 4, 5, 4, 4, 5, 3]
def wByt : List (List Int32) := [[105, 110, 115, 101, 114, 116], [109, 111, 118, 101], [100, 114, 111, 112], [99, 104, 97, 110, 103, 101], [100, 101, 108, 105, 118, 101, 114], [108, 111, 115, 101], [116, 119, 105, 99, 101], [115, 121, 110, 99], [116, 101, 108, 108], [115, 119, 101, 101, 112], [97, 108, 108]]
def dNum : List Int32 := [2, 3, 2, 2, 2, 2, 2, 2, 2, 1, 0]
def dLet : List Int32 := [1, 0, 0, 1, 0, 0, 0, 0, 0, 0, 0]
def KH (P : KP) (S : Nat → Prop) (U : State) (H : Heap) : Prop := va_Z "MovingList" "DEEDS" "[LMovingList$Deed;" (.ref P.2.2.2.1) S U H ∧ va_T (.object "MovingList$Deed") P.2.2.2.1 11 (fun i => .ref (P.1 i)) S U H ∧
  (∀ i : Nat, i < 11 → va_O "MovingList$Deed" (P.1 i) S U H ∧ va_OF "MovingList$Deed" "numbers" "I" (.int (dNum.getD i 0)) (P.1 i) S U H ∧ va_OF "MovingList$Deed" "letter" "Z" (.int (dLet.getD i 0)) (P.1 i) S U H ∧ va_OF "MovingList$Deed" "word" "Ljava/lang/String;" (.ref (P.2.1 i)) (P.1 i) S U H ∧ va_OF "java/lang/Enum" "ordinal" "I" (.int (Int32.ofNat i)) (P.1 i) S U H) ∧
  vk_S 11 wLen wByt P.2.1 P.2.2.1 S U H ∧ va_Z "MovingList$1" "$SwitchMap$MovingList$Deed" "[I" (.ref P.2.2.2.2) S U H ∧ va_T .int P.2.2.2.2 11 (fun i => .int (if i = 10 then 0 else Int32.ofNat (i + 1))) S U H ∧
  va_Z "java/lang/String" "COMPACT_STRINGS" "Z" (.int 1) S U H ∧ va_Zq "jdk/internal/util/Preconditions" "SIOOBE_FORMATTER" "Ljava/util/function/BiFunction;" S U H
theorem KH.moved {P : KP} {S : Nat → Prop} {u U : State} {H : Heap} (hvm : u.vm.Alike U.vm) (h : KH P S u H) : KH P S U H := by
  obtain ⟨h1, h2, h3, h4, h5, h6, h7, h8⟩ := h
  exact ⟨h1.moved hvm, h2.moved hvm, fun i hi => ⟨(h3 i hi).1.moved hvm, (h3 i hi).2.1.moved hvm, (h3 i hi).2.2.1.moved hvm, (h3 i hi).2.2.2.1.moved hvm, (h3 i hi).2.2.2.2.moved hvm⟩, h4.moved hvm, h5.moved hvm, h6.moved hvm, h7.moved hvm, h8.moved hvm⟩
theorem KH.kept {P : KP} {S : Nat → Prop} {U : State} {H H1 : Heap} (h : KH P S U H) (hq : ∀ a : Nat, a < H.size → ¬ S a → H1[a]? = H[a]?) : KH P S U H1 := by
  obtain ⟨h1, h2, h3, h4, h5, h6, h7, h8⟩ := h
  exact ⟨h1.kept hq, h2.kept hq, fun i hi => ⟨(h3 i hi).1.kept hq, (h3 i hi).2.1.kept hq, (h3 i hi).2.2.1.kept hq, (h3 i hi).2.2.2.1.kept hq, (h3 i hi).2.2.2.2.kept hq⟩, h4.kept hq, h5.kept hq, h6.kept hq, h7.kept hq, h8.kept hq⟩
theorem KH.narrow {P : KP} {S T : Nat → Prop} {U : State} {H : Heap} (h : KH P S U H) (hAB : ∀ q, T q → S q) : KH P T U H := by
  obtain ⟨h1, h2, h3, h4, h5, h6, h7, h8⟩ := h
  exact ⟨h1.narrow hAB, h2.narrow hAB, fun i hi => ⟨(h3 i hi).1.narrow hAB, (h3 i hi).2.1.narrow hAB, (h3 i hi).2.2.1.narrow hAB, (h3 i hi).2.2.2.1.narrow hAB, (h3 i hi).2.2.2.2.narrow hAB⟩, h4.narrow hAB, h5.narrow hAB, h6.narrow hAB, h7.narrow hAB, h8.narrow hAB⟩
def KN (U : State) : Prop := va_Nw (.fieldLinkNest RX7 53 "MovingList" "DEEDS" "[LMovingList$Deed;" "MovingList") U
def KX (P0 : KP) (X : Cx) : Prop := match X with
  | (_, _, _, _, s, _, _, _, _, _, _, _, _, _, _, S, _, _) => KH P0 S s s.heap ∧ KN s
def PcK (P0 : KP) (D : va_G) (cy : Nat → ClassId) (L : Nat → Nat) (lv : List Nat) (as : List AV) (I A : FN) (sz : Nat) : Array Value → State → Prop := va_Pc (as.map (vv L)) (fun U => (U.heap.size = sz ∧ va_P D vwCl (wd cy L lv I A) U.heap ∧ KK D cy U ∧ va_D (fun _ => True) (wd cy L lv I A)) ∧ KH P0 (va_A (wd cy L lv I A) sz) U U.heap ∧ KN U)
def MetK (y : MethodName) (ws : List Jvm.Cond) (d : Nat) (rv : Bool) (P : PT) (Q : QT) (al : AT) : Prop := ∀ (P0 : KP) (l : Launch) (D : va_G) (cy : Nat → ClassId) (L : Nat → Nat) (lv : List Nat) (sz : Nat) (as : List AV) (I A : FN),
  LvOk lv → okF I → okF A → (77 ∈ lv → ∀ i, i < 2 → I 77 i ≠ 0 → 97 + 76 * i ∈ lv) → okS lv as → P as I A →
    Met l y ws (rmD d (al as I A)) (PcK P0 D cy L lv as I A sz) (QcX D cy L lv as I A sz rv Q) (al as I A).1 (al as I A).2 (va_A (wd cy L lv I A) sz)
theorem PcK_blind {P0 : KP} {D : va_G} {cy : Nat → ClassId} {L : Nat → Nat} {lv : List Nat} {as : List AV} {I A : FN} {sz : Nat} : FrameBlind (PcK P0 D cy L lv as I A sz) := fun a U g mk h => by
  obtain ⟨h1, ⟨h2, h3, h4, h5⟩, h6, h7⟩ := h
  exact ⟨h1, ⟨h2, h3, KK.vm (s := U) (U := U.calling g mk a) rfl h4, h5⟩, h6.moved (U := U.calling g mk a) (Vm.Alike.refl _), va_Nw.same (w := .fieldLinkNest RX7 53 "MovingList" "DEEDS" "[LMovingList$Deed;" "MovingList") (u := U) (U := U.calling g mk a) rfl rfl h7⟩
section G
variable {X : Cx} {own : String} {bytes : ByteArray} {Ts : List Jvm.Cond}
theorem cr_VK {P0 : KP} (hKX : KX P0 X) (hX : Fx X own bytes Ts) {d d' : Nat} {mx : Nat × Nat} (hR : RmX X d mx) {idx n maxL ci : Nat} {y : MethodName} {yb : ByteArray} {ret : Option FieldType} {ws' : List Jvm.Cond} {rv : Bool} {P : PT} {Q : QT} {al : AT} {T : u_T} {N : Nat}
    (hM : MetK y (.code y yb maxL ret :: ws') d' rv P Q al) (hdd : d' + 1 ≤ d) (hmx : maxL ≤ 21) (hG : GoodIn Ts (wsV own idx y.cls y (.code y yb maxL ret :: ws'))) (hcl : vwCl[ci]? = some (y.cls, T, N))
    (hy : y.cls ≠ "java/lang/invoke/MethodHandle" ∧ y.cls ≠ "java/lang/invoke/VarHandle" ∧ (parseMethodDescriptor y.desc).map (fun d => d.parameters.length) = some n)
    (hPr : ∀ as I A, P as I A → ∃ k r as', as = .inr (some (k, r)) :: as' ∧ k < 100 ∧ kci k = ci) : CRule X bytes 0 idx (n + 1) rv P Q al mx := by
  intro q pc ls as rest I A hd hn hrest hPP hq1 hq2 kk
  obtain ⟨k, r, as', rfl, hk100, hkc⟩ := hPr as I A hPP
  obtain ⟨p, l, e, R, s, m, args, below, meth, c, Qf, D, cy, L, lv, S, nL, i77⟩ := X
  obtain ⟨hx, hb, hml, hown, hts, hK, hSz, hlv, hlk, him⟩ := hX
  have hRR : R = rmD d mx := hR
  subst hRR
  have hKX0 : KH P0 S s s.heap ∧ KN s := hKX
  intro hI hA hg hst hls H locs la hP hD hS hL
  have hsas : okS lv (.inr (some (k, r)) :: as') := fun v hv => hst v (List.mem_append_left _ (List.mem_reverse.mpr hv))
  have hsr : okS lv rest := fun v hv => hst v (List.mem_append_right _ hv)
  obtain ⟨hm, hr⟩ : r ∈ lv ∧ rk r = k := okS_h hsas
  obtain ⟨q0, -, hq⟩ := wd_mem (cy := cy) (L := L) (I := I) (A := A) hm
  rw [ce_obj hr hk100, hkc] at hq
  have hfree : ∀ z, va_A (wd cy L lv I A) H.size z → S z := fun z hz => by
    rcases hz with ⟨k, e1, hk⟩ | hz
    · exact hD.2 k _ hk
    · exact hSz z (Nat.le_trans hS.1 hz)
  have hKH : KH P0 (va_A (wd cy L lv I A) H.size) s H := (hKX0.1.kept hS.2.1).narrow hfree
  have hMet := hM P0 l D cy L lv H.size _ I A hlv hI hA (fun h i hi h0 => him h i hi (by rw [← hg]; exact h0)) hsas hPP
  have cw := cwV (R := rmD d mx) (own := own) (index := idx) (C := y.cls) (y := y) (bytes := yb) (maxL := maxL) (ret := ret) (rm := rmD d' (al (.inr (some (k, r)) :: as') I A)) (mc := (al (.inr (some (k, r)) :: as') I A).1) (ms := (al (.inr (some (k, r)) :: as') I A).2) n hts hG rfl rfl rfl ⟨rfl, hy⟩ ⟨hdd, by show 8 + (maxL + 11) + 40 * d' ≤ 40 * d; omega⟩
  have hrun := va_runV (g := F0 m pc la (List.map (vv L) ((.inr (some (k, r)) :: as').reverse ++ rest))) (locs := locs) (H := H) (b := L r) (As := as'.map (vv L)) (rest := rest.map (vv L)) (p := p) (e := e) (below := below) (meth := meth) (cells := q.1) (slots := q.2) ⟨hx, hb, hml, hown, hts⟩ hMet cw
    ⟨PcK_blind, va_recv hK.1 hP hcl hq, fun U hU hW => ⟨rfl, ⟨by rw [hU], by rw [hU]; exact hP, KK.warm hW hK, wd_D (hD.weaken (fun _ _ _ _ => trivial))⟩, by rw [hU]; exact hKH.moved hW.alike, va_Nw.warmF hW hKX0.2⟩⟩ rfl (by simpa using hn) (by
      obtain ⟨-, lv0, hl1, -⟩ := hL
      exact hl1.1) (by simp [List.map_reverse, vv]) (lv_room (by rw [cat_len]; exact hrest)) hd ⟨hq1, hq2⟩
  refine call_core hrun hD hS hSz (fun r2 I' A' H1 locs1 g1 g2 g3 g4 g5 g6 g7 g8 => ?_)
  refine kk r2 I' A' g1 g2 g6 g3 g4 (by rw [g5]; exact hg) ?_ hls H1 locs1 la g7 (wd_D hD) g8 hL
  cases r2 with
  | none => exact hsr
  | some x => exact okS_c hsr (g2 x rfl)
end G
theorem MetK_of {y : MethodName} {bytes : ByteArray} {maxL rt d : Nat} {ret : Option FieldType} {rv : Bool} {P : PT} {Q : QT} {al : AT} (hpl : plainName y.cls = true)
    (hret : (rt = 0 ∧ ret = none ∧ rv = false) ∨ (rt = 1 ∧ ret = some .int ∧ rv = true) ∨ (rt = 2 ∧ ret = some .boolean ∧ rv = true)) (hlen : ∀ as I A, P as I A → as.length ≤ maxL)
    (body : ∀ (P0 : KP) (X : Cx) (as : List AV) (I A : FN), KX P0 X → Fx X y.cls bytes (.code y bytes maxL ret :: W0) → RmX X d (al as I A) → RtX X bytes rt (Q as I A) (al as I A) → P as I A → okF I → okF A → Go X (0, 0) 0 (entL maxL as) [] I A) :
    MetK y (.code y bytes maxL ret :: W0) d rv P Q al := by
  intro P0 l D cy L lv sz as I A hlv hI hA him has hP
  refine Met.ofW (cc := bytes) (maxL := maxL) (ret := ret) hpl rfl ?_
  intro p e s m args below meth c s₁ B hml hv
  obtain ⟨rfl, ⟨hsz, hPP, hK, hD0⟩, hKH, hKN⟩ := hv
  subst hsz
  have hx := B.exec
  have hb := B.bytes
  have hr := B.returns
  have hts := atoms_spec (ws := .code y bytes maxL ret :: W0) B.pre
  have hown : s.vm.findClass y.cls = some m.cls := findClass_of_methodNamed B.named
  have hlocks := B.notSynchronized
  have hD := hD0.self (sz := s.heap.size)
  have hle := hlen as I A hP
  have hl := lv_entry (as.map (vv L)) (n := maxL) (by rw [sl_len]; exact hle)
  rw [lg_entry_eq]
  generalize (lg_sl (as.map (vv L)) ++ List.replicate (maxL - (lg_sl (as.map (vv L))).length) Slot.unset).toArray = la at hl ⊢
  have hgo := body P0 (p, l, e, rmD d (al as I A), s, m, (as.map (vv L)).toArray, below, meth, c, MQ below (QcX D cy L lv as I A s.heap.size rv Q) (as.map (vv L)).toArray s (al as I A).1 (al as I A).2 (va_A (wd cy L lv I A) s.heap.size), D, cy, L, lv, va_A (wd cy L lv I A) s.heap.size, maxL, I 77) as I A ⟨hKH, hKN⟩
    ⟨hx, hb, hml, hown, hts, hK, fun q h => Or.inr h, hlv, hlocks, him⟩ rfl ?_ hP hI hA
  · refine hgo hI hA rfl (fun v hv => absurd hv List.not_mem_nil) (ent_okL has) s.heap [] la hPP hD va_S.rf ⟨?_, _, hl, fun i v hi => ?_⟩
    · unfold entL
      rw [List.length_append, List.length_map, List.length_replicate]
      omega
    · have := ent_mem L _ as 0 i v hi
      rwa [Nat.zero_add] at this
  · refine ⟨fun q pc ls I' A' hq1 hq2 hd h0 hpost => ?_, fun q pc ls x I' A' hq1 hq2 hd h0 hpost => ?_⟩
    · intro hI' hA' h77 hst hls H locs la' hP' hD' hS' hL'
      refine W.widen hq1 hq2 ?_
      rcases hret with ⟨-, rfl, rfl⟩ | ⟨e1, -, -⟩ | ⟨e1, -, -⟩
      · exact W.vret hx hb hr (fun t ht hW => ⟨⟨none, I', A', rfl, rfl, fun z hz => absurd hz (by simp), hI', hA', h77, hpost, by rw [ht]; exact hP'⟩, hS'.F ht⟩) hS'.2.2 hd
      · omega
      · omega
    · intro hI' hA' h77 hst hls H locs la' hP' hD' hS' hL'
      refine W.widen hq1 hq2 ?_
      have hxI : inI x := okS_h hst
      rcases hret with ⟨e1, -, -⟩ | ⟨-, rfl, rfl⟩ | ⟨e1, rfl, rfl⟩
      · exfalso
        rcases h0 with h0 | h0
        · omega
        · have := h0.1; omega
      · exact W.iret (v := oI x) hx hb hr (fun t ht hW => ⟨⟨some x, I', A', rfl, rfl, fun z hz => by cases hz; exact hxI, hI', hA', h77, hpost, by rw [ht]; exact hP'⟩, hS'.F ht⟩) hS'.2.2 hd
      · have hx01 : x = 0 ∨ x = 1 := by
          rcases h0 with h0 | h0
          · omega
          · exact h0.2
        exact W.zret (v := oI x) hx hb hr (by rcases hx01 with rfl | rfl <;> rfl) (fun t ht hW => ⟨⟨some x, I', A', rfl, rfl, fun z hz => by cases hz; exact hxI, hI', hA', h77, hpost, by rw [ht]; exact hP'⟩, hS'.F ht⟩) hS'.2.2 hd
