theorem stp_r {B C : FN} {a b y : Int} {j : Nat} (h : ∀ j : Nat, (j : Int) < a → 0 ≤ B 91 (4 * j) ∧ B 91 (4 * j) ≤ 10) (h2 : ∀ j : Nat, (j : Int) < 4 * a → C 91 j = B 91 j) (h3 : y = 1 → 0 ≤ C 91 (4 * a).toNat ∧ C 91 (4 * a).toNat ≤ 10) (hj : (j : Int) < b) (hy : y = 1) (hb : b = a + 1) : 0 ≤ C 91 (4 * j) ∧ C 91 (4 * j) ≤ 10 := by
  by_cases e : (j : Int) < a
  · rw [h2 (4 * j) (by omega)]
    exact h j e
  · have := h3 hy
    rw [show (4 * a).toNat = 4 * j by omega] at this
    exact this
theorem stp_s {B : FN} {a b : Int} {j : Nat} (h : ∀ j : Nat, (j : Int) < a → 0 ≤ B 91 (4 * j) ∧ B 91 (4 * j) ≤ 10) (hb : b = a) (hj : (j : Int) < b) : 0 ≤ B 91 (4 * j) ∧ B 91 (4 * j) ≤ 10 := h j (by omega)
