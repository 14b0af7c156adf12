section G
variable {X : Cx} {own : String} {bytes : ByteArray} {Ts : List Jvm.Cond} {q : Nat × Nat} {pc : Nat} {ls : Lc} {st : List AV} {I A : FN}
theorem g_put2 (hX : Fx X own bytes Ts) {idx k j r k2 off : Nat} (hf : FL own Ts idx k j) (h0 : kF k j = (2, k2, off)) (hd : decode bytes pc = .ok (.putfield idx, 3)) (kk : Go X q (pc + 3) ls st (up2 I r j 1) A) : Go X q pc ls (.inr (some (k2, r + off)) :: .inr (some (k, r)) :: st) I A := by
  refine g_put hX hf hd (x := 1) (fun _ lv h => ⟨by omega, by omega⟩) (fun L => by simp [fv, h0, vv, up2]) (fun ty ht L => ?_) (Or.inr (by rw [h0])) kk
  rw [ht.2 (by rw [h0])]
  exact ⟨rfl, rfl⟩
/-! contracts and calls -/
abbrev PT : Type := List AV → FN → FN → Prop
abbrev QT : Type := List AV → FN → FN → Option Int → FN → FN → Prop
abbrev AT : Type := List AV → FN → FN → Nat × Nat
def rmD (d : Nat) (a : Nat × Nat) : Room := { frames := d, cells := a.1, slots := a.2, locals := 40 * d }
def PcX (D : va_G) (cy : Nat → ClassId) (L : Nat → Nat) (lv : List Nat) (as : List AV) (I A : FN) (sz : Nat) : Array Value → State → Prop := va_Pc (as.map (vv L)) (fun U => U.heap.size = sz ∧ va_P D vwCl (wd cy L lv I A) U.heap ∧ KK D cy U ∧ va_D (fun _ => True) (wd cy L lv I A))
def QcX (D : va_G) (cy : Nat → ClassId) (L : Nat → Nat) (lv : List Nat) (as : List AV) (I A : FN) (sz : Nat) (rv : Bool) (Q : QT) : Array Value → State → Outcome → State → Prop := fun _ st oc t =>
  (∃ (r : Option Int) (I' A' : FN), oc = .returned (r.map (fun x => Value.int (oI x))) ∧ r.isSome = rv ∧ (∀ x, r = some x → inI x) ∧ okF I' ∧ okF A' ∧ I' 77 = I 77 ∧ Q as I A r I' A' ∧ va_P D vwCl (wd cy L lv I' A') t.heap) ∧ va_F (va_A (wd cy L lv I A) sz) st t
def MetC (y : MethodName) (ws : List Jvm.Cond) (d : Nat) (rv : Bool) (P : PT) (Q : QT) (al : AT) : Prop := ∀ (l : Launch) (D : va_G) (cy : Nat → ClassId) (L : Nat → Nat) (lv : List Nat) (sz : Nat) (as : List AV) (I A : FN),
  LvOk lv → okF I → okF A → (77 ∈ lv → ∀ i, i < 2 → I 77 i ≠ 0 → 97 + 76 * i ∈ lv) → okS lv as → P as I A →
    Met l y ws (rmD d (al as I A)) (PcX D cy L lv as I A sz) (QcX D cy L lv as I A sz rv Q) (al as I A).1 (al as I A).2 (va_A (wd cy L lv I A) sz)
def psh : Option Int → List AV → List AV
  | none, st => st
  | some x, st => .inl x :: st
def RmX (X : Cx) (d : Nat) (mx : Nat × Nat) : Prop := match X with
  | (_, _, _, R, _, _, _, _, _, _, _, _, _, _, _, _, _, _) => R = rmD d mx
/-- the rule of a call: what a row of the pool stands for -/
def CRule (X : Cx) (bytes : ByteArray) (tag idx n : Nat) (rv : Bool) (P : PT) (Q : QT) (al : AT) (mx : Nat × Nat) : Prop := ∀ (q : Nat × Nat) (pc : Nat) (ls : Lc) (as rest : List AV) (I A : FN),
  decode bytes pc = .ok (if tag = 0 then .invokevirtual idx else .invokestatic idx, 3) → as.length = n → rest.length ≤ 8 → P as I A → q.1 + (al as I A).1 ≤ mx.1 → q.2 + (al as I A).2 ≤ mx.2 →
  (∀ r I' A', r.isSome = rv → (∀ x, r = some x → inI x) → Q as I A r I' A' → Go X (q.1 + (al as I A).1, q.2 + (al as I A).2) (pc + 3) ls (psh r rest) I' A') → Go X q pc ls (as.reverse ++ rest) I A
theorem call_core {p : Program} {l : Launch} {e : Env} {R : Room} {s : State} {m : MethodId} {args : Array Value} {below : List Frame} {meth : Method} {c : Code} {H : Heap} {locs : List Loc} {q : Nat × Nat} {Qf : State → Prop} {D : va_G} {cy : Nat → ClassId} {L : Nat → Nat} {lv : List Nat} {S : Nat → Prop} {mc ms pc : Nat} {la : Array Slot} {st0 : List Value} {rest as : List AV} {I A : FN} {rv : Bool} {Q : QT} {a : Array Value}
    (hr : va_Run p l e R s m args below meth c H locs q.1 q.2 mc ms (F0 m pc la st0) (rest.map (vv L)) (QcX D cy L lv as I A H.size rv Q a) (va_A (wd cy L lv I A) H.size))
    (hD : va_D S (wd cy L lv I A)) (hS : va_S S s.heap H locs) (hSz : ∀ q, s.heap.size ≤ q → S q)
    (kk : ∀ r I' A' H1 locs1, r.isSome = rv → (∀ x, r = some x → inI x) → okF I' → okF A' → I' 77 = I 77 → Q as I A r I' A' → va_P D vwCl (wd cy L lv I' A') H1 → va_S S s.heap H1 locs1 → W p l e R s m args below meth c H1 locs1 (q.1 + mc) (q.2 + ms) Qf (F0 m (pc + 3) la ((psh r rest).map (vv L)))) :
    W p l e R s m args below meth c H locs q.1 q.2 Qf (F0 m pc la st0) := by
  have hfree : ∀ z, va_A (wd cy L lv I A) H.size z → S z := fun z hz => by
    rcases hz with ⟨k, e1, hk⟩ | hz
    · exact hD.2 k _ hk
    · exact hSz z (Nat.le_trans hS.1 hz)
  intro T hT Xs
  obtain ⟨v, st₀, t, T', Lc', h0, X', hL', e1, e2, ⟨⟨r, I', A', hv, hrv, hin, hI', hA', h77, hQ, hP'⟩, hz, hk⟩, stp⟩ := hr T hT Xs
  cases hv
  rw [h0] at hz hk
  obtain ⟨t2, a1, b1⟩ := kk r I' A' T'.heap (locs ++ Lc') hrv hin hI' hA' h77 hQ (by rw [e1]; exact hP')
    ⟨Nat.le_trans hS.1 (by rw [e1]; exact hz), fun z h1 h2 => by rw [e1, hk z (Nat.lt_of_lt_of_le h1 hS.1) (fun zz => h2 (hfree z zz))]; exact hS.2.1 z h1 h2, fun z hz => by
      rcases List.mem_append.mp hz with h | h
      · exact hS.2.2 z h
      · exact hfree _ (hL' z h)⟩ T' rfl X'
  refine ⟨t2, stp t2 ?_, b1⟩
  cases r with
  | none => exact a1
  | some x => exact a1
theorem cat_len (L : Nat → Nat) : ∀ rest : List AV, ((rest.map (vv L)).map fun v => v.category).sum = rest.length
  | [] => rfl
  | v :: t => by
    rw [List.map_cons, List.map_cons, List.sum_cons, cat_len L t, vv_cat, List.length_cons]
    omega
theorem PcX_blind {D : va_G} {cy : Nat → ClassId} {L : Nat → Nat} {lv : List Nat} {as : List AV} {I A : FN} {sz : Nat} : FrameBlind (PcX D cy L lv as I A sz) := fun a U g mk h => by
  obtain ⟨h1, h2, h3, h4, h5⟩ := h
  exact ⟨h1, h2, h3, KK.vm (s := U) (U := U.calling g mk a) rfl h4, h5⟩
theorem cr_V (hX : Fx X own bytes Ts) {d d' : Nat} {mx : Nat × Nat} (hR : RmX X d mx) {idx n maxL ci : Nat} {y : MethodName} {yb : ByteArray} {ret : Option FieldType} {ws' : List Jvm.Cond} {rv : Bool} {P : PT} {Q : QT} {al : AT} {T : u_T} {N : Nat}
    (hM : MetC y (.code y yb maxL ret :: ws') d' rv P Q al) (hdd : d' + 1 ≤ d) (hmx : maxL ≤ 21) (hG : GoodIn Ts (wsV own idx y.cls y (.code y yb maxL ret :: ws'))) (hcl : vwCl[ci]? = some (y.cls, T, N))
    (hy : y.cls ≠ "java/lang/invoke/MethodHandle" ∧ y.cls ≠ "java/lang/invoke/VarHandle" ∧ (parseMethodDescriptor y.desc).map (fun d => d.parameters.length) = some n)
    (hPr : ∀ as I A, P as I A → ∃ k r as', as = .inr (some (k, r)) :: as' ∧ k < 100 ∧ kci k = ci) : CRule X bytes 0 idx (n + 1) rv P Q al mx := by
  intro q pc ls as rest I A hd hn hrest hPP hq1 hq2 kk
  obtain ⟨k, r, as', rfl, hk100, hkc⟩ := hPr as I A hPP
  obtain ⟨p, l, e, R, s, m, args, below, meth, c, Qf, D, cy, L, lv, S, nL, i77⟩ := X
  obtain ⟨hx, hb, hml, hown, hts, hK, hSz, hlv, hlk, him⟩ := hX
  have hRR : R = rmD d mx := hR
  subst hRR
  intro hI hA hg hst hls H locs la hP hD hS hL
  have hsas : okS lv (.inr (some (k, r)) :: as') := fun v hv => hst v (List.mem_append_left _ (List.mem_reverse.mpr hv))
  have hsr : okS lv rest := fun v hv => hst v (List.mem_append_right _ hv)
  obtain ⟨hm, hr⟩ : r ∈ lv ∧ rk r = k := okS_h hsas
  obtain ⟨q0, -, hq⟩ := wd_mem (cy := cy) (L := L) (I := I) (A := A) hm
  rw [ce_obj hr hk100, hkc] at hq
  have hMet := hM l D cy L lv H.size _ I A hlv hI hA (fun h i hi h0 => him h i hi (by rw [← hg]; exact h0)) hsas hPP
  have cw := cwV (R := rmD d mx) (own := own) (index := idx) (C := y.cls) (y := y) (bytes := yb) (maxL := maxL) (ret := ret) (rm := rmD d' (al (.inr (some (k, r)) :: as') I A)) (mc := (al (.inr (some (k, r)) :: as') I A).1) (ms := (al (.inr (some (k, r)) :: as') I A).2) n hts hG rfl rfl rfl ⟨rfl, hy⟩ ⟨hdd, by show 8 + (maxL + 11) + 40 * d' ≤ 40 * d; omega⟩
  have hrun := va_runV (g := F0 m pc la (List.map (vv L) ((.inr (some (k, r)) :: as').reverse ++ rest))) (locs := locs) (H := H) (b := L r) (As := as'.map (vv L)) (rest := rest.map (vv L)) (p := p) (e := e) (below := below) (meth := meth) (cells := q.1) (slots := q.2) ⟨hx, hb, hml, hown, hts⟩ hMet cw
    ⟨PcX_blind, va_recv hK.1 hP hcl hq, fun U hU hW => ⟨rfl, by rw [hU], by rw [hU]; exact hP, KK.warm hW hK, wd_D (hD.weaken (fun _ _ _ _ => trivial))⟩⟩ rfl (by simpa using hn) (by
      obtain ⟨-, lv0, hl1, -⟩ := hL
      exact hl1.1) (by simp [List.map_reverse, vv]) (lv_room (by rw [cat_len]; exact hrest)) hd ⟨hq1, hq2⟩
  refine call_core hrun hD hS hSz (fun r2 I' A' H1 locs1 g1 g2 g3 g4 g5 g6 g7 g8 => ?_)
  refine kk r2 I' A' g1 g2 g6 g3 g4 (by rw [g5]; exact hg) ?_ hls H1 locs1 la g7 (wd_D hD) g8 hL
  cases r2 with
  | none => exact hsr
  | some x => exact okS_c hsr (g2 x rfl)
theorem cr_S (hX : Fx X own bytes Ts) {d d' : Nat} {mx : Nat × Nat} (hR : RmX X d mx) {idx n maxL : Nat} {y : MethodName} {yb : ByteArray} {ret : Option FieldType} {ws' : List Jvm.Cond} {rv : Bool} {P : PT} {Q : QT} {al : AT}
    (hM : MetC y (.code y yb maxL ret :: ws') d' rv P Q al) (hdd : d' + 1 ≤ d) (hmx : maxL ≤ 21) (hG : GoodIn Ts (va_wsS own idx y (.code y yb maxL ret :: ws')))
    (hy : y.cls ≠ "java/lang/invoke/MethodHandle" ∧ y.cls ≠ "java/lang/invoke/VarHandle" ∧ (parseMethodDescriptor y.desc).map (fun d => d.parameters.length) = some n) : CRule X bytes 1 idx n rv P Q al mx := by
  intro q pc ls as rest I A hd hn hrest hPP hq1 hq2 kk
  obtain ⟨p, l, e, R, s, m, args, below, meth, c, Qf, D, cy, L, lv, S, nL, i77⟩ := X
  obtain ⟨hx, hb, hml, hown, hts, hK, hSz, hlv, hlk, him⟩ := hX
  have hRR : R = rmD d mx := hR
  subst hRR
  intro hI hA hg hst hls H locs la hP hD hS hL
  have hsas : okS lv as := fun v hv => hst v (List.mem_append_left _ (List.mem_reverse.mpr hv))
  have hsr : okS lv rest := fun v hv => hst v (List.mem_append_right _ hv)
  have hMet := hM l D cy L lv H.size _ I A hlv hI hA (fun h i hi h0 => him h i hi (by rw [← hg]; exact h0)) hsas hPP
  have ok : ∀ w ∈ va_wsS own idx y (.code y yb maxL ret :: ws'), w.before args s = true := fun w h => hts w (hG w h).1
  have cb : CallB (rmD d mx) s args own idx y yb maxL ret (.code y yb maxL ret :: ws') (rmD d' (al as I A)) (al as I A).1 (al as I A).2 n := callB_of n hts (fun w h => hG w (by unfold va_wsS; exact List.mem_append_right _ h)) rfl rfl rfl (ok _ (by simp [va_wsS])) (ok _ (by simp [va_wsS])) hy ⟨hdd, by show 8 + (maxL + 11) + 40 * d' ≤ 40 * d; omega⟩
  have hrun := va_runS (g := F0 m pc la (List.map (vv L) (as.reverse ++ rest))) (locs := locs) (H := H) (As := as.map (vv L)) (rest := rest.map (vv L)) (p := p) (e := e) (below := below) (meth := meth) (cells := q.1) (slots := q.2) ⟨hx, hb, hml, hown, hts⟩ hMet ⟨cb, ok _ (by simp [va_wsS])⟩
    ⟨PcX_blind, fun U hU hW => ⟨rfl, by rw [hU], by rw [hU]; exact hP, KK.warm hW hK, wd_D (hD.weaken (fun _ _ _ _ => trivial))⟩⟩ rfl (by simpa using hn) (by
      obtain ⟨-, lv0, hl1, -⟩ := hL
      exact hl1.1) (by simp [List.map_reverse]) (lv_room (by rw [cat_len]; exact hrest)) hd ⟨hq1, hq2⟩
  refine call_core hrun hD hS hSz (fun r2 I' A' H1 locs1 g1 g2 g3 g4 g5 g6 g7 g8 => ?_)
  refine kk r2 I' A' g1 g2 g6 g3 g4 (by rw [g5]; exact hg) ?_ hls H1 locs1 la g7 (wd_D hD) g8 hL
  cases r2 with
  | none => exact hsr
  | some x => exact okS_c hsr (g2 x rfl)
theorem cr_N (hX : Fx X own bytes Ts) {d d' : Nat} {mx : Nat × Nat} (hR : RmX X d mx) {idx n maxL : Nat} {y : MethodName} {host : String} {yb : ByteArray} {ret : Option FieldType} {ws' : List Jvm.Cond} {rv : Bool} {P : PT} {Q : QT} {al : AT}
    (hM : MetC y (.code y yb maxL ret :: ws') d' rv P Q al) (hdd : d' + 1 ≤ d) (hmx : maxL ≤ 21) (hnw : (own, idx, y, host) ∈ nwL) (hG : GoodIn Ts (.static y :: .initialized y.cls :: .code y yb maxL ret :: ws'))
    (hy : y.cls ≠ "java/lang/invoke/MethodHandle" ∧ y.cls ≠ "java/lang/invoke/VarHandle" ∧ (parseMethodDescriptor y.desc).map (fun d => d.parameters.length) = some n) : CRule X bytes 1 idx n rv P Q al mx := by
  intro q pc ls as rest I A hd hn hrest hPP hq1 hq2 kk
  obtain ⟨p, l, e, R, s, m, args, below, meth, c, Qf, D, cy, L, lv, S, nL, i77⟩ := X
  obtain ⟨hx, hb, hml, hown, hts, hK, hSz, hlv, hlk, him⟩ := hX
  have hRR : R = rmD d mx := hR
  subst hRR
  intro hI hA hg hst hls H locs la hP hD hS hL
  have hsas : okS lv as := fun v hv => hst v (List.mem_append_left _ (List.mem_reverse.mpr hv))
  have hsr : okS lv rest := fun v hv => hst v (List.mem_append_right _ hv)
  have hMet := hM l D cy L lv H.size _ I A hlv hI hA (fun h i hi h0 => him h i hi (by rw [← hg]; exact h0)) hsas hPP
  have ok : ∀ w ∈ (.static y :: .initialized y.cls :: .code y yb maxL ret :: ws' : List Jvm.Cond), w.before args s = true := fun w h => hts w (hG w h).1
  have cb := va_cnB (R := rmD d mx) (own := own) (host := host) (index := idx) (maxL := maxL) (mc := (al as I A).1) (ms := (al as I A).2) (y := y) (bytes := yb) (ret := ret) (rm := rmD d' (al as I A)) n hts (fun w h => hG w (List.mem_cons_of_mem _ (List.mem_cons_of_mem _ h))) rfl rfl rfl (hK.2 _ hnw) (ok _ (List.mem_cons_of_mem _ List.mem_cons_self)) hy ⟨hdd, by show 8 + (maxL + 11) + 40 * d' ≤ 40 * d; omega⟩
  have hrun := va_runSN (g := F0 m pc la (List.map (vv L) (as.reverse ++ rest))) (locs := locs) (H := H) (As := as.map (vv L)) (rest := rest.map (vv L)) (p := p) (e := e) (below := below) (meth := meth) (cells := q.1) (slots := q.2) ⟨hx, hb, hml, hown, hts⟩ hMet ⟨cb, ok _ List.mem_cons_self, trivial⟩
    ⟨PcX_blind, fun U hU hW => ⟨rfl, by rw [hU], by rw [hU]; exact hP, KK.warm hW hK, wd_D (hD.weaken (fun _ _ _ _ => trivial))⟩⟩ rfl (by simpa using hn) (by
      obtain ⟨-, lv0, hl1, -⟩ := hL
      exact hl1.1) (by simp [List.map_reverse]) (lv_room (by rw [cat_len]; exact hrest)) hd ⟨hq1, hq2⟩
  refine call_core hrun hD hS hSz (fun r2 I' A' H1 locs1 g1 g2 g3 g4 g5 g6 g7 g8 => ?_)
  refine kk r2 I' A' g1 g2 g6 g3 g4 (by rw [g5]; exact hg) ?_ hls H1 locs1 la g7 (wd_D hD) g8 hL
  cases r2 with
  | none => exact hsr
  | some x => exact okS_c hsr (g2 x rfl)
end G
