theorem cl_all {A A1 A3 A4 A5 A6 : FN} {w : Nat} (h5 : Fil A5 A6 (w + 5) 201 0) (h4 : Fil A4 A5 (w + 4) 201 0) (h3 : Fil A3 A4 (w + 3) 201 0) (h2 : Fil (up2 A1 (w + 1) 0 0) A3 (w + 2) 201 0) (h1 : Fil A A1 (w + 1) 201 (-1)) : (∀ mad kin : Nat → Int, LSt mad kin (A6 (w + 1)) (A6 (w + 2)) (A6 (w + 3))) ∧ FrW A A6 (w + 1) (w + 5) := by
  have e1 : A6 (w + 1) = ud (A1 (w + 1)) 0 0 := by rw [h5.1 _ (by omega), h4.1 _ (by omega), h3.1 _ (by omega), h2.1 _ (by omega), up2_ud]
  have e2 : A6 (w + 2) = A3 (w + 2) := by rw [h5.1 _ (by omega), h4.1 _ (by omega), h3.1 _ (by omega)]
  have e3 : A6 (w + 3) = A4 (w + 3) := by rw [h5.1 _ (by omega), h4.1 _ (by omega)]
  refine ⟨fun mad kin => ?_, fun a ha => ?_⟩
  · rw [e1, e2, e3]
    exact LSt_0 ud_s (fun i h0 hi => by rw [ud_n (by omega)]; exact h1.2 i hi) h2.2 h3.2
  · rw [h5.1 _ (by omega), h4.1 _ (by omega), h3.1 _ (by omega), h2.1 _ (by omega), up2_rn (by omega), h1.1 _ (by omega)]
theorem LSt_ext {mad kin nxt spo ltr nxt' spo' ltr' : Nat → Int} (h : LSt mad kin nxt spo ltr) (h1 : ∀ i : Nat, i < 201 → nxt' i = nxt i) (h2 : ∀ i : Nat, i < 201 → spo' i = spo i) (h3 : ∀ i : Nat, i < 201 → ltr' i = ltr i) : LSt mad kin nxt' spo' ltr' := by
  obtain ⟨a1, a2, a3, a4, a5, a6⟩ := h
  refine ⟨fun i hi => by rw [h1 i hi]; exact a1 i hi, fun i hi => by rw [h2 i hi]; exact a2 i hi, fun i hi => by rw [h3 i hi]; exact a3 i hi, fun i hi hx => ?_, fun i h0 hi hx => ?_, fun i hi => ?_⟩
  · rw [h1 i hi] at hx ⊢; exact a4 i hi hx
  · rw [h1 i hi] at hx; exact a5 i h0 hi hx
  · rw [h2 i hi]; exact a6 i hi
theorem cpy_i {A : FN} {a b i : Nat} {n : Int} (hi : (i : Int) < n) : cpy A a b 0 0 n b i = A a i := by
  rw [cpy_s, if_pos (by omega)]
  congr 1
  omega
theorem FrW_c {A B : FN} {lo hi a b : Nat} {sp dp n : Int} (h : FrW A B lo hi) (h0 : lo ≤ b) (h1 : b ≤ hi) : FrW A (cpy B a b sp dp n) lo hi := fun x hx => by rw [cpy_n (by omega)]; exact h x hx
def lcp (A : FN) (w u : Nat) : FN := cpy (cpy (cpy (cpy (cpy A (u + 1) (w + 1) 0 0 201) (u + 2) (w + 2) 0 0 201) (u + 3) (w + 3) 0 0 201) (u + 4) (w + 4) 0 0 201) (u + 5) (w + 5) 0 0 201
theorem lcp_ok {A : FN} {w u : Nat} (hs : u + 5 < w ∨ w + 5 < u) : (∀ mad kin : Nat → Int, LSt mad kin (A (u + 1)) (A (u + 2)) (A (u + 3)) → LSt mad kin (lcp A w u (w + 1)) (lcp A w u (w + 2)) (lcp A w u (w + 3))) ∧ FrW A (lcp A w u) (w + 1) (w + 5) := by
  refine ⟨fun mad kin h => LSt_ext h (fun i hi => ?_) (fun i hi => ?_) (fun i hi => ?_), FrW_c (FrW_c (FrW_c (FrW_c (FrW_c FrW_0 (by omega) (by omega)) (by omega) (by omega)) (by omega) (by omega)) (by omega) (by omega)) (by omega) (by omega)⟩
  · unfold lcp
    rw [cpy_n (by omega), cpy_n (by omega), cpy_n (by omega), cpy_n (by omega), cpy_i (by omega)]
  · unfold lcp
    rw [cpy_n (by omega), cpy_n (by omega), cpy_n (by omega), cpy_i (by omega), cpy_n (by omega)]
  · unfold lcp
    rw [cpy_n (by omega), cpy_n (by omega), cpy_i (by omega), cpy_n (by omega), cpy_n (by omega)]
theorem mkS_up {mad : Nat → Int} {s : Nat} {p : Int} (h : mkS mad p) : mkS (ud mad s (mad s + 1)) p := by
  obtain ⟨h1, h2, h3⟩ := h
  refine ⟨h1, h2, ?_⟩
  unfold ud
  split
  · next e => rw [e] at h3; omega
  · exact h3
theorem mkS_new {mad : Nat → Int} {s : Int} (h0 : 0 ≤ s) (h1 : s < 5) (h2 : 0 ≤ mad s.toNat) (h3 : mad s.toNat < 40) : mkS (ud mad s.toNat (mad s.toNat + 1)) (s * 40 + (mad s.toNat + 1)) := mkS_of h0 h1 (by omega) (by rw [ud_s]; omega) (by rw [ud_s]; omega)
/-- what open does -/
def OpQ (I A : FN) (w : Nat) (s x : Int) (I' A' : FN) : Prop := (x = 0 ∧ I' = I ∧ A' = A) ∨ (x = s * 40 + (A (w + 1) s.toNat + 1) ∧ A (w + 1) s.toNat < 40 ∧ I w 9 < 201 ∧ A' (w + 1) = ud (A (w + 1)) s.toNat (A (w + 1) s.toNat + 1) ∧ I' = up2 I w 9 (I w 9 + 1) ∧ (∀ k : Nat, (k : Int) < I w 9 + 1 → mkS (A' (w + 1)) (A' (w + 8) k)) ∧ A' (w + 2) = A (w + 2) ∧ A' (w + 4) = A (w + 4) ∧ A' (w + 5) = A (w + 5) ∧ FrW A A' (w + 1) (w + 8))
def OpL (mad : Nat → Int) (g : Nat → Int) (tot k : Int) : Prop := ∀ j : Nat, (j : Int) < tot + 1 → (j : Int) ≠ k → mkS mad (g j)
theorem OpL_s {mad g : Nat → Int} {tot k : Int} (h : OpL mad g tot k) (h0 : 0 < k) (h1 : k ≤ tot) : OpL mad (ud g k.toNat (g (k - 1).toNat)) tot (k - 1) := fun j hj hk => by
  unfold ud
  split
  · exact h (k - 1).toNat (by omega) (by omega)
  · exact h j hj (by omega)
theorem OpL_e {mad g : Nat → Int} {tot k p : Int} (h : OpL mad g tot k) (h0 : 0 ≤ k) (hp : mkS mad p) : ∀ j : Nat, (j : Int) < tot + 1 → mkS mad (ud g k.toNat p j) := fun j hj => by
  unfold ud
  split
  · exact hp
  · exact h j hj (by omega)
theorem FrW_u1 {A C : FN} {a i lo hi lo' hi' : Nat} {v : Int} (h : FrW (up2 A a i v) C lo' hi') (h1 : lo ≤ a) (h2 : a ≤ hi) (h3 : lo ≤ lo') (h4 : hi' ≤ hi) : FrW A C lo hi := FrW_t (FrW_u FrW_0 h1 h2) (FrW_w h h3 h4)
theorem FrW_uu {A C : FN} {a i b j lo hi lo' hi' : Nat} {v x : Int} (h : FrW (up2 (up2 A a i v) b j x) C lo' hi') (h1 : lo ≤ a) (h2 : a ≤ hi) (h5 : lo ≤ b) (h6 : b ≤ hi) (h3 : lo ≤ lo') (h4 : hi' ≤ hi) : FrW A C lo hi := FrW_t (FrW_u (FrW_u FrW_0 h1 h2) h5 h6) (FrW_w h h3 h4)
