theorem CQ_bk {I A J B : FN} {i : Int} (q : GQ I A 1 J B) (h : CI I A) : CQ I A J B := CQ_g q h
theorem nir {g : Nat → Int} {n : Int} (h : R2 g 0 200) (hn : n ≤ 201) : ∀ j : Nat, (j : Int) < n → 0 ≤ g j ∧ g j ≤ 200 := fun j hj => h j (by omega)
theorem SR_ir {m g : Nat → Int} {n k : Int} (h : SR m g n k) : ∀ j : Nat, (j : Int) < n → 0 ≤ g j ∧ g j ≤ 200 := fun j hj => by have := h.2.2 j hj; exact ⟨by have := this.1; omega, this.2.1⟩
theorem CI_sites {I A J B C : FN} (h : CI I A) (q : GQ I A 1 J B) (f : FrW B C 78 78) : CI J C ∧ J 0 7 = I 0 7 ∧ J 77 = I 77 := by
  have c := CQ_g q h
  obtain ⟨a1, a2, a3, a4, a5⟩ := c.1
  refine ⟨⟨GI_a1 a1 f (by omega), ?_, ?_, a4, fun i hi hx => GI_ff (a5 i hi hx) (lo := 1000) (hi := 0) FrW_0 f (by omega) (by omega)⟩, c.2.1, c.2.2.1⟩
  · rw [f 94 (by omega)]; exact a2
  · rw [f 95 (by omega)]; exact a3
theorem LsI.t79 {A : FN} (h : LsI A 2 79) : R2 (A 82) 0 200 := h.2.2.1
theorem LsI.n79 {A : FN} (h : LsI A 2 79) : R2 (A 80) (-1) 200 := h.1
theorem rem_n {I A J B : FN} {r : Nat} {i : Int} (q : RemQ I A r i J B) (h0 : 0 ≤ i) (h1 : i < I r 1) : J r 1 = I r 1 - 1 := by
  rcases q with ⟨a, rfl, rfl⟩ | ⟨a, rfl, rfl⟩
  · rw [up2_ud, ud_s]
  · exact absurd ⟨h0, h1⟩ a
