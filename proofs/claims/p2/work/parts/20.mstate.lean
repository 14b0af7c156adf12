/-! ===== the reference: what its numbers say ===== -/
def tF (A : FN) (o w : Int) : Int := A 301 (8 + 10 * o + w).toNat
def vF (A : FN) (s w : Int) : Int := A 301 (2008 + 499 * s + w).toNat
def needF (A : FN) (o b : Int) : Prop := o % 40 < tF A b (5 + o / 40)
def madeF (A : FN) (o : Int) : Prop := o % 40 < A 301 (2 + o / 40).toNat
def doneF (I A : FN) (s o : Int) : Prop := (s = 6 ∧ needF A o (I 300 4)) ∨ (s = 5 ∧ madeF A o) ∨ (s < 5 ∧ o % 40 < vF A s (o / 40))
def laterF (A : FN) (o p : Int) : Prop := tF A p 1 < tF A o 1 ∨ (tF A o 1 = tF A p 1 ∧ p / 40 < o / 40)
def sweptF (A : FN) (s o : Int) : Prop := s < 5 ∧ vF A s (294 + o) = 1
def placeF (I A : FN) (s o : Int) : Prop := doneF I A s o ∧ tF A o 0 ≤ 1 ∧ ¬ sweptF A s o
def opF (A : FN) (n : Int) : Int := if 0 < n ∧ n / 100 < A 301 0 ∧ 1 ≤ n % 100 ∧ n % 100 ≤ A 301 (2 + n / 100).toNat then 40 * (n / 100) + n % 100 - 1 else -1
noncomputable def behF (I A : FN) (s o : Int) : Int := @ite _ (0 ≤ opF A (tF A o 3) ∧ placeF I A s (opF A (tF A o 3))) (Classical.propDecidable _) (opF A (tF A o 3)) (-1)
/-- what stands at a place of the row m -/
def okM (i : Nat) (v : Int) : Prop := (i = 0 → 2 ≤ v ∧ v ≤ 5) ∧ (2 ≤ i ∧ i < 7 → 0 ≤ v ∧ v ≤ 40) ∧ (2008 ≤ i → ((i - 2008) % 499 = 7 → 0 ≤ v ∧ v ≤ 60) ∧ (8 ≤ (i - 2008) % 499 ∧ (i - 2008) % 499 < 68 → 0 ≤ v ∧ v < 200) ∧ ((i - 2008) % 499 = 68 → 0 ≤ v ∧ v ≤ 200) ∧ (69 ≤ (i - 2008) % 499 ∧ (i - 2008) % 499 < 269 → 0 ≤ v ∧ v < 200))
/-- held ones are apart -/
def hNd (f : Nat → Int) : Prop := ∀ s : Nat, s < 5 → ∀ i j : Nat, i < j → (j : Int) < f (2008 + 499 * s + 68) → f (2008 + 499 * s + 69 + i) ≠ f (2008 + 499 * s + 69 + j)
def Mm (f : Nat → Int) : Prop := (∀ i, i < 4504 → okM i (f i)) ∧ hNd f
theorem Mm.m0 {f : Nat → Int} (h : Mm f) : 2 ≤ f 0 ∧ f 0 ≤ 5 := (h.1 0 (by omega)).1 rfl
theorem Mm.made {f : Nat → Int} (h : Mm f) {s : Nat} (hs : s < 5) : 0 ≤ f (2 + s) ∧ f (2 + s) ≤ 40 := (h.1 (2 + s) (by omega)).2.1 (by omega)
theorem opF_in {A : FN} (h : Mm (A 301)) (n : Int) : -1 ≤ opF A n ∧ opF A n < 200 := by
  have h0 := h.m0
  unfold opF
  split
  · next c =>
    have h1 := h.made (s := (n / 100).toNat) (by omega)
    have e : (2 + n / 100).toNat = 2 + (n / 100).toNat := by omega
    rw [e] at c
    omega
  · omega
