theorem FrO_b {I A J B : FN} {fb : Int} {f : Nat → Int} {s v : Int} (h : MI I A) (f0 : FrO (up2 I 300 0 v) A J B) (o : OrdOk fb f s (J 300 7) (B 303)) : MI J B ∧ Fm I J := by
  have e : ∀ j, j ≠ 7 → j ≠ 0 → J 300 j = I 300 j := fun j a b => by rw [f0.1 j a]; simp only [up2, true_and]; rw [if_neg b]
  obtain ⟨a1, a2, a3, a4, a5, a6, a7, a8, a9⟩ := h
  refine ⟨⟨?_, ?_, o.2.2.1, ⟨o.1, o.2.1⟩, ?_, ?_, ?_, ?_, ?_⟩, e 17 (by omega) (by omega), e 3 (by omega) (by omega), e 22 (by omega) (by omega)⟩
  · rw [f0.2 301 (by omega) (by omega)]; exact a1
  · rw [e 4 (by omega) (by omega)]; exact a2
  · rw [f0.2 305 (by omega) (by omega)]; exact a5
  · rw [e 9 (by omega) (by omega)]; exact a6
  · rw [e 13 (by omega) (by omega)]; exact a7
  · rw [e 17 (by omega) (by omega)]; exact a8
  · rw [e 3 (by omega) (by omega), f0.2 302 (by omega) (by omega)]; exact a9
theorem MI_free {I A : FN} {s w v : Int} (h : MI I A) (h1 : 0 ≤ s) (h2 : s < 5) (h3 : (5 ≤ w ∧ w ≤ 6) ∨ (269 ≤ w ∧ w < 499)) : MI I (up2 A 301 (2008 + 499 * s + w).toNat v) :=
  MI_301 h (by rw [up2_ud]; exact Mm_free h.mm h1 h2 h3) (F1_u F1_0)
theorem MI_lost {I A : FN} {v : Int} (h : MI I A) : MI I (up2 A 301 1 v) := MI_301 h (by rw [up2_ud]; exact Mm_lost h.mm) (F1_u F1_0)
theorem sw_mu {f : Nat → Int} {s o : Int} (h1 : 0 ≤ s) (h2 : s < 5) (h3 : 0 ≤ o) (h4 : o < 200) (hf : vG f s (294 + o) ≠ 1) : unsw (ud f (2008 + 499 * s + (294 + o)).toNat 1) s 200 + 1 = unsw f s 200 := (unsw_dn h1 h2 h3 hf 200 (by omega)).1 (by omega)
theorem sw_muI {f : Nat → Int} {s o x : Int} (h1 : 0 ≤ s) (h2 : s < 5) (h3 : 0 ≤ o) (h4 : o < 200) (hf : x = 1 → vG f s (294 + o) ≠ 1) (hx : x = 0 ∨ x = 1) (hn : ¬ x = 0) : unsw (ud f (2008 + 499 * s + (294 + o)).toNat 1) s 200 + 1 = unsw f s 200 := sw_mu h1 h2 h3 h4 (hf (by omega))
