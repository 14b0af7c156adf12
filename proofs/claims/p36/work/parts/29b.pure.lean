def alS : AT := fun as I _ => match as with
  | [_, .inl n] => if 0 ≤ n ∧ n ≤ I 300 17 then (11 * (n.toNat + 1), 77 * (n.toNat + 1)) else (0, 0)
  | _ => (0, 0)
theorem alS_e {v : AV} {n : Int} {I A : FN} : alS [v, .inl n] I A = if 0 ≤ n ∧ n ≤ I 300 17 then (11 * (n.toNat + 1), 77 * (n.toNat + 1)) else (0, 0) := rfl
theorem Fm_tr' {I J K : FN} (h2 : Fm J K) (h1 : Fm I J) : Fm I K := Fm_tr h1 h2
