theorem CQ_sd {I A J B C : FN} (f : FrW B C 94 94) (r : R2 (C 94) 0 200) (h : CQ I A J B) : CQ I A J C := CQ_t (CQ_d f r h.1 (Or.inl rfl)) h
theorem CI.tp {I A : FN} (h : CI I A) : 0 ≤ I 0 7 ∧ I 0 7 ≤ 400 := h.2.2.2.1
theorem CI_tape {I A B : FN} {v : Int} (h : CI I A) (h0 : 0 ≤ v) (h1 : v ≤ 400) (f : FrW A B 93 93) : CI (up2 I 0 7 v) B := by
  have c := (CQ_s f h (by omega)).1
  obtain ⟨a1, a2, a3, a4, a5⟩ := c
  have fi : FrW I (up2 I 0 7 v) 0 0 := fun a ha => up2_rn (by omega)
  refine ⟨GI_ff a1 fi (lo' := 1000) (hi' := 0) FrW_0 (by omega) (by omega), a2, a3, ?_, fun i hi hx => ?_⟩
  · rw [up2_ud, ud_s]; exact ⟨h0, h1⟩
  · rw [fi 77 (by omega)] at hx; exact GI_ff (a5 i hi hx) fi (lo' := 1000) (hi' := 0) FrW_0 (by omega) (by omega)
theorem mk0 {m : Nat → Int} {x : Int} (h : x = 0 ∨ mkS m x) : 0 ≤ x ∧ x ≤ 200 := h.elim (fun e => by omega) (fun e => by have := e.1; have := e.2.1; omega)
theorem mk1 {m : Nat → Int} {x : Int} (h : x = 0 ∨ mkS m x) (hx : ¬ x = 0) : 1 ≤ x ∧ x ≤ 200 := ⟨(h.resolve_left hx).1, (h.resolve_left hx).2.1⟩
