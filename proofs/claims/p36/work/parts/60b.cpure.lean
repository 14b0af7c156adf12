theorem nir2 {g : Nat → Int} {n : Int} {j : Nat} (h : R2 g 0 200) (hj : (j : Int) < n) (hn : n ≤ 201) : 0 ≤ g j ∧ g j ≤ 200 := h j (by omega)
