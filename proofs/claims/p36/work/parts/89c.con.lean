set_option maxRecDepth 20000 in
theorem n_neB : ∀ j, j < 3 → ∀ i, i < j + 8 → Cond.not (Cond.eq (tS i) (tS (j + 8))) ∈ nar := by decide +kernel
theorem n_lt {i j : Nat} (hj : j < 11) (hi : i < j) : Cond.not (Cond.eq (tS i) (tS j)) ∈ nar := by
  by_cases h : j < 8
  · exact n_neA j h i hi
  · have := n_neB (j - 8) (by omega) i (by omega)
    rw [show j - 8 + 8 = j by omega] at this
    exact this
theorem n_ne (i : Nat) (hi : i < 11) (j : Nat) (hj : j < 11) (h : i ≠ j) : Cond.not (Cond.eq (tS i) (tS j)) ∈ nar ∨ Cond.not (Cond.eq (tS j) (tS i)) ∈ nar := by
  rcases Nat.lt_or_gt_of_ne h with z | z
  · exact Or.inl (n_lt hj z)
  · exact Or.inr (n_lt hi z)
