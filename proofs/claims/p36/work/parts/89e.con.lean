set_option maxRecDepth 20000 in
theorem t_ls : Cond.laysStatic "MovingList" "DEEDS" "[LMovingList$Deed;" ∈ lw_tbl ∧ Cond.initialized "MovingList" ∈ lw_tbl ∧ Cond.laysStatic "MovingList$1" "$SwitchMap$MovingList$Deed" "[I" ∈ lw_tbl ∧ Cond.initialized "MovingList$1" ∈ lw_tbl ∧ Cond.laysStatic "java/lang/String" "COMPACT_STRINGS" "Z" ∈ lw_tbl ∧ Cond.initialized "java/lang/String" ∈ lw_tbl ∧ Cond.laysStatic "jdk/internal/util/Preconditions" "SIOOBE_FORMATTER" "Ljava/util/function/BiFunction;" ∈ lw_tbl ∧ Cond.initialized "jdk/internal/util/Preconditions" ∈ lw_tbl ∧ Cond.fieldLinkNest RX7 53 "MovingList" "DEEDS" "[LMovingList$Deed;" "MovingList" ∈ lw_tbl := by decide +kernel
set_option maxRecDepth 20000 in
theorem t_th : Cond.laysStatic Bundle.tN "UNASSIGNED_STACK" Bundle.steD ∈ lw_tbl ∧ Cond.laysStatic Bundle.tN "SUPPRESSED_SENTINEL" Bundle.listD ∈ lw_tbl ∧ Cond.initialized Bundle.tN ∈ lw_tbl ∧ Cond.stringRef RX9 182 "no element there" ∈ lw_tbl ∧ Cond.stringRef RX9 193 "no such thing of an element" ∈ lw_tbl := by decide +kernel
set_option maxRecDepth 20000 in
theorem t_ex : ∀ w ∈ exB, w ∈ lw_tbl := by decide +kernel
set_option maxRecDepth 20000 in
theorem t_nw : ∀ q ∈ nwL, Cond.methodLinkNest q.1 q.2.1 q.2.2.1 q.2.2.2 ∈ lw_tbl := by decide +kernel
set_option maxRecDepth 20000 in
theorem t_ao : Cond.arrayOver (.object "MovingList$Site") ∈ lw_tbl ∧ Cond.arrayOver (.object "MovingList$Group") ∈ lw_tbl ∧ Cond.arrayClass .int ∈ lw_tbl ∧ Cond.arrayClass .byte ∈ lw_tbl ∧ Cond.arrayClass .boolean ∈ lw_tbl ∧ Cond.arrayClass .long ∈ lw_tbl := by decide +kernel
