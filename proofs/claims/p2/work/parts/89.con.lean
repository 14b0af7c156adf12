/-! ===== the constants at the start ===== -/
def dNm : List String := ["INSERT", "MOVE", "DROP", "CHANGE", "DELIVER", "LOSE", "TWICE", "SYNC", "TELL", "SWEEP", "ALL"]
def dSt : List Nat := [69, 75, 78, 81, 84, 87, 90, 93, 96, 99, 102]
def tD (i : Nat) : Term := .static "MovingList$Deed" (dNm.getD i "") "LMovingList$Deed;"
def tS (i : Nat) : Term := .string "MovingList$Deed" (dSt.getD i 0)
def tR : Term := .static "MovingList" "DEEDS" "[LMovingList$Deed;"
def tW : Term := .static "MovingList$1" "$SwitchMap$MovingList$Deed" "[I"
def nar : List Jvm.Cond := flatC (Jvm.Cond.and given_1 narrow_1)
set_option maxRecDepth 20000 in
theorem n_ex : ∀ i, i < 11 → Cond.exactly (tD i) "MovingList$Deed" ∈ nar := by decide +kernel
set_option maxRecDepth 20000 in
theorem n_el : ∀ i, i < 11 → Cond.eq (.elem tR (.int (Int32.ofNat i))) (tD i) ∈ nar := by decide +kernel
set_option maxRecDepth 20000 in
theorem n_fd : ∀ i, i < 11 → Cond.eq (.field (tD i) "MovingList$Deed" "numbers" "I") (.int (dNum.getD i 0)) ∈ nar ∧ Cond.eq (.field (tD i) "MovingList$Deed" "letter" "Z") (.int (dLet.getD i 0)) ∈ nar ∧ Cond.eq (.field (tD i) "MovingList$Deed" "word" "Ljava/lang/String;") (tS i) ∈ nar ∧ Cond.eq (.field (tD i) "java/lang/Enum" "ordinal" "I") (.int (Int32.ofNat i)) ∈ nar := by decide +kernel
set_option maxRecDepth 20000 in
theorem n_st : ∀ i, i < 11 → Cond.exactly (tS i) "java/lang/String" ∈ nar ∧ Cond.eq (.field (tS i) "java/lang/String" "coder" "B") (.int 0) ∈ nar ∧ Cond.arrayOf (.field (tS i) "java/lang/String" "value" "[B") .byte ∈ nar ∧ Cond.eq (.length (.field (tS i) "java/lang/String" "value" "[B")) (.int (Int32.ofNat (wLen.getD i 0))) ∈ nar := by decide +kernel
set_option maxRecDepth 20000 in
theorem n_by : ∀ i, i < 11 → ∀ j, j < wLen.getD i 0 → Cond.eq (.elem (.field (tS i) "java/lang/String" "value" "[B") (.int (Int32.ofNat j))) (.int ((wByt.getD i []).getD j 0)) ∈ nar := by decide +kernel
set_option maxRecDepth 20000 in
theorem n_ne : ∀ i, i < 11 → ∀ j, j < 11 → i ≠ j → Cond.not (Cond.eq (tS i) (tS j)) ∈ nar ∨ Cond.not (Cond.eq (tS j) (tS i)) ∈ nar := by decide +kernel
set_option maxRecDepth 20000 in
theorem n_sw : ∀ i, i < 11 → Cond.eq (.elem tW (.int (Int32.ofNat i))) (.int (if i = 10 then 0 else Int32.ofNat (i + 1))) ∈ nar := by decide +kernel
set_option maxRecDepth 20000 in
theorem n_ot : Cond.arrayOf tR (.object "MovingList$Deed") ∈ nar ∧ Cond.eq (.length tR) (.int 11) ∈ nar ∧ Cond.arrayOf tW .int ∈ nar ∧ Cond.eq (.length tW) (.int 11) ∈ nar ∧ Cond.eq (.static "java/lang/String" "COMPACT_STRINGS" "Z") (.int 1) ∈ nar ∧ Cond.isRef (.static "jdk/internal/util/Preconditions" "SIOOBE_FORMATTER" "Ljava/util/function/BiFunction;") ∈ nar := by decide +kernel
set_option maxRecDepth 20000 in
theorem n_th : Cond.isRef (.static Bundle.tN "UNASSIGNED_STACK" Bundle.steD) ∈ nar ∧ Cond.isRef (.static Bundle.tN "SUPPRESSED_SENTINEL" Bundle.listD) ∈ nar ∧ Cond.exactly (.string "MovingList" 182) "java/lang/String" ∈ nar ∧ Cond.exactly (.string "MovingList" 193) "java/lang/String" ∈ nar := by decide +kernel
set_option maxRecDepth 20000 in
theorem t_ls : Cond.laysStatic "MovingList" "DEEDS" "[LMovingList$Deed;" ∈ lw_tbl ∧ Cond.initialized "MovingList" ∈ lw_tbl ∧ Cond.laysStatic "MovingList$1" "$SwitchMap$MovingList$Deed" "[I" ∈ lw_tbl ∧ Cond.initialized "MovingList$1" ∈ lw_tbl ∧ Cond.laysStatic "java/lang/String" "COMPACT_STRINGS" "Z" ∈ lw_tbl ∧ Cond.initialized "java/lang/String" ∈ lw_tbl ∧ Cond.laysStatic "jdk/internal/util/Preconditions" "SIOOBE_FORMATTER" "Ljava/util/function/BiFunction;" ∈ lw_tbl ∧ Cond.initialized "jdk/internal/util/Preconditions" ∈ lw_tbl ∧ Cond.fieldLinkNest RX7 53 "MovingList" "DEEDS" "[LMovingList$Deed;" "MovingList" ∈ lw_tbl := by decide +kernel
set_option maxRecDepth 20000 in
theorem t_th : Cond.laysStatic Bundle.tN "UNASSIGNED_STACK" Bundle.steD ∈ lw_tbl ∧ Cond.laysStatic Bundle.tN "SUPPRESSED_SENTINEL" Bundle.listD ∈ lw_tbl ∧ Cond.initialized Bundle.tN ∈ lw_tbl ∧ Cond.stringRef RX9 182 "no element there" ∈ lw_tbl ∧ Cond.stringRef RX9 193 "no such thing of an element" ∈ lw_tbl := by decide +kernel
set_option maxRecDepth 20000 in
theorem t_ex : ∀ w ∈ exB, w ∈ lw_tbl := by decide +kernel
set_option maxRecDepth 20000 in
theorem t_nw : ∀ q ∈ nwL, Cond.methodLinkNest q.1 q.2.1 q.2.2.1 q.2.2.2 ∈ lw_tbl := by decide +kernel
set_option maxRecDepth 20000 in
theorem t_ao : Cond.arrayOver (.object "MovingList$Site") ∈ lw_tbl ∧ Cond.arrayOver (.object "MovingList$Group") ∈ lw_tbl ∧ Cond.arrayClass .int ∈ lw_tbl ∧ Cond.arrayClass .byte ∈ lw_tbl ∧ Cond.arrayClass .boolean ∈ lw_tbl ∧ Cond.arrayClass .long ∈ lw_tbl := by decide +kernel
theorem str_ev {args : Array Value} {s : State} {t : Term} {n : String} (h : (Cond.exactly t n).before args s = true) : ∃ a : Nat, t.eval args s none [] s = some (.ref a) := by
  obtain ⟨a, c, cA, kA, q1, -⟩ := Cond.exactly_spec (args := args) (first := s) (o := none) (s := s) (idx := []) (t := t) (cls := n) h
  exact ⟨a, q1⟩
theorem start_KH {args : Array Value} {s : State} (h : (Jvm.Cond.and given_1 narrow_1).before args s = true) (hts : ∀ w ∈ lw_tbl, w.before args s = true) : ∃ P0 : KP, KH P0 (fun q => s.heap.size ≤ q) s s.heap := by
  have hn : ∀ w ∈ nar, w.before args s = true := flat_of_before _ h
  have hA : ∀ a : Nat, a < s.heap.size → ¬ (fun q => s.heap.size ≤ q) a := fun a h z => by
    have : s.heap.size ≤ a := z
    omega
  obtain ⟨adK, adV, hS, hev⟩ := vk_Sof (tm := tS) (len := wLen) (byt := wByt) (N := 11) (A := fun q => s.heap.size ≤ q) (by decide) (fun i hi => hn _ (n_st i hi).1) (fun i hi => hn _ (n_st i hi).2.1) (fun i hi => hn _ (n_st i hi).2.2.1) (fun i hi => hn _ (n_st i hi).2.2.2) (fun i hi j hj => hn _ (n_by i hi j hj)) (fun i j hi hj hij => (n_ne i hi j hj hij).elim (fun z => Or.inl (hn _ z)) (fun z => Or.inr (hn _ z))) hA
  have h0 : ∀ i : Nat, ∃ a : Nat, i < 11 → (tD i).eval args s none [] s = some (.ref a) := fun i => by
    by_cases hi : i < 11
    · obtain ⟨a, ha⟩ := str_ev (hn _ (n_ex i hi))
      exact ⟨a, fun _ => ha⟩
    · exact ⟨0, fun z => absurd z hi⟩
  obtain ⟨ad, had⟩ := Classical.axiomOfChoice h0
  obtain ⟨tr, hr1, hr2⟩ := va_Tof (tm := tR) (N := 11) (f := fun i => .ref (ad i)) (A := fun q => s.heap.size ≤ q) (by decide) (hn _ n_ot.1) (va_eqt (hn _ n_ot.2.1)) (fun j hj => va_eqv (hn _ (n_el j hj)) (had j hj)) hA
  obtain ⟨tw, hw1, hw2⟩ := va_Tof (tm := tW) (N := 11) (f := fun i => .int (if i = 10 then 0 else Int32.ofNat (i + 1))) (A := fun q => s.heap.size ≤ q) (by decide) (hn _ n_ot.2.2.1) (va_eqt (hn _ n_ot.2.2.2.1)) (fun j hj => va_eqt (hn _ (n_sw j hj))) hA
  obtain ⟨l1, l2, l3, l4, l5, l6, l7, l8, -⟩ := t_ls
  refine ⟨(ad, adK, adV, tr, tw), va_Zof (hts _ l1) (hts _ l2) hr1 hA, hr2, fun i hi => ⟨va_Oof (hn _ (n_ex i hi)) (had i hi) hA, vk_OFof (had i hi) (va_eqt (hn _ (n_fd i hi).1)) hA, vk_OFof (had i hi) (va_eqt (hn _ (n_fd i hi).2.1)) hA, vk_OFof (had i hi) (va_eqv (hn _ (n_fd i hi).2.2.1) (hev i hi)) hA, vk_OFof (had i hi) (va_eqt (hn _ (n_fd i hi).2.2.2)) hA⟩, hS, va_Zof (hts _ l3) (hts _ l4) hw1 hA, hw2, va_Zof (hts _ l5) (hts _ l6) (va_eqt (hn _ n_ot.2.2.2.2.1)) hA, va_Zqof (hts _ l7) (hts _ l8) (hn _ n_ot.2.2.2.2.2) hA⟩
theorem start_KE {args : Array Value} {s : State} (h : (Jvm.Cond.and given_1 narrow_1).before args s = true) (hts : ∀ w ∈ lw_tbl, w.before args s = true) : ∃ T : Nat × Nat, KE T (fun q => s.heap.size ≤ q) s s.heap := by
  have hn : ∀ w ∈ nar, w.before args s = true := flat_of_before _ h
  have hA : ∀ a : Nat, a < s.heap.size → ¬ (fun q => s.heap.size ≤ q) a := fun a h z => by
    have : s.heap.size ≤ a := z
    omega
  obtain ⟨u1, u2, u3, u4⟩ := n_th
  obtain ⟨v1, v2, v3, v4, v5⟩ := t_th
  obtain ⟨a1, h1⟩ := str_ev (hn _ u3)
  obtain ⟨a2, h2⟩ := str_ev (hn _ u4)
  exact ⟨(a1, a2), ⟨vx_Zqof (hts _ v1) (hts _ v3) (hn _ u1) hA, vx_Zqof (hts _ v2) (hts _ v3) (hn _ u2) hA⟩, ⟨vk_R.of (hts _ v4) h1, vk_R.of (hts _ v5) h2⟩, fun w hw => va_Nw.of (by
    have : ∀ w ∈ exB, w.onTables = true := by decide +kernel
    exact this w hw) (hts _ (t_ex w hw))⟩
theorem start_KN {args : Array Value} {s : State} (hts : ∀ w ∈ lw_tbl, w.before args s = true) : KN s := va_Nw.of rfl (hts _ t_ls.2.2.2.2.2.2.2.2)
theorem start_KA {args : Array Value} {s : State} (hts : ∀ w ∈ lw_tbl, w.before args s = true) : KA s := ⟨va_AO.of (hts _ t_ao.1), va_AO.of (hts _ t_ao.2.1)⟩
