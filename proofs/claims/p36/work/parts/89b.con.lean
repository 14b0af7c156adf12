set_option maxRecDepth 20000 in
theorem n_neA : ∀ j, j < 8 → ∀ i, i < j → Cond.not (Cond.eq (tS i) (tS j)) ∈ nar := by decide +kernel
