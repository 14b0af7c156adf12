set_option maxRecDepth 20000 in
theorem n_st : ∀ i, i < 11 → Cond.exactly (tS i) "java/lang/String" ∈ nar ∧ Cond.eq (.field (tS i) "java/lang/String" "coder" "B") (.int 0) ∈ nar ∧ Cond.arrayOf (.field (tS i) "java/lang/String" "value" "[B") .byte ∈ nar ∧ Cond.eq (.length (.field (tS i) "java/lang/String" "value" "[B")) (.int (Int32.ofNat (wLen.getD i 0))) ∈ nar := by decide +kernel
set_option maxRecDepth 20000 in
theorem n_by : ∀ i, i < 11 → ∀ j, j < wLen.getD i 0 → Cond.eq (.elem (.field (tS i) "java/lang/String" "value" "[B") (.int (Int32.ofNat j))) (.int ((wByt.getD i []).getD j 0)) ∈ nar := by decide +kernel
