set_option maxRecDepth 20000 in
theorem n_sw : ∀ i, i < 11 → Cond.eq (.elem tW (.int (Int32.ofNat i))) (.int (if i = 10 then 0 else Int32.ofNat (i + 1))) ∈ nar := by decide +kernel
set_option maxRecDepth 20000 in
theorem n_ot : Cond.arrayOf tR (.object "MovingList$Deed") ∈ nar ∧ Cond.eq (.length tR) (.int 11) ∈ nar ∧ Cond.arrayOf tW .int ∈ nar ∧ Cond.eq (.length tW) (.int 11) ∈ nar ∧ Cond.eq (.static "java/lang/String" "COMPACT_STRINGS" "Z") (.int 1) ∈ nar ∧ Cond.isRef (.static "jdk/internal/util/Preconditions" "SIOOBE_FORMATTER" "Ljava/util/function/BiFunction;") ∈ nar := by decide +kernel
set_option maxRecDepth 20000 in
theorem n_th : Cond.isRef (.static Bundle.tN "UNASSIGNED_STACK" Bundle.steD) ∈ nar ∧ Cond.isRef (.static Bundle.tN "SUPPRESSED_SENTINEL" Bundle.listD) ∈ nar ∧ Cond.exactly (.string "MovingList" 182) "java/lang/String" ∈ nar ∧ Cond.exactly (.string "MovingList" 193) "java/lang/String" ∈ nar := by decide +kernel
