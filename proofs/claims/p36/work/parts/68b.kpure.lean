theorem stp_t {A B C : FN} {f w : Int} (h2 : ∀ j : Nat, j ≠ f.toNat → C 91 j = B 91 j) (h1 : ∀ j : Nat, (j : Int) < w → B 91 j = A 91 j) (hf : w ≤ f) {j : Nat} (hj : (j : Int) < w) : C 91 j = A 91 j := by
  rw [h2 j (by omega), h1 j hj]
theorem stp_e {B C : FN} {f w d : Int} (h2 : ∀ j : Nat, j ≠ f.toNat → C 91 j = B 91 j) (h1 : B 91 w.toNat = d) (hf : w < f) (hw : 0 ≤ w) : C 91 w.toNat = d := by
  rw [h2 _ (by omega), h1]
theorem stp_f {C : FN} {w d a : Int} (hw : w = 4 * a) (h : C 91 w.toNat = d) (h0 : 0 ≤ d) (h1 : d ≤ 10) : 0 ≤ C 91 (4 * a).toNat ∧ C 91 (4 * a).toNat ≤ 10 := by
  subst hw
  omega
theorem stp_j {A B : FN} {w a : Int} {j : Nat} (h1 : ∀ j : Nat, (j : Int) < w → B 91 j = A 91 j) (hw : w = 4 * a) (hj : (j : Int) < 4 * a) : B 91 j = A 91 j := h1 j (by omega)
