/-! all that holds of the class between calls -/
def CI (I A : FN) : Prop := GI I A 1 ∧ R2 (A 94) 0 200 ∧ R2 (A 95) 0 200 ∧ (0 ≤ I 0 7 ∧ I 0 7 ≤ 400) ∧ ∀ i : Nat, i < 2 → I 77 i ≠ 0 → GI I A (97 + 76 * i)
def CQ (I A J B : FN) : Prop := CI J B ∧ J 0 7 = I 0 7 ∧ J 77 = I 77 ∧ B 78 = A 78 ∧ J 90 = I 90 ∧ B 91 = A 91
theorem CQ_0 {I A : FN} (h : CI I A) : CQ I A I A := ⟨h, rfl, rfl, rfl, rfl, rfl⟩
theorem CQ_t {I A J B K C : FN} (h2 : CQ J B K C) (h1 : CQ I A J B) : CQ I A K C := ⟨h2.1, h2.2.1.trans h1.2.1, h2.2.2.1.trans h1.2.2.1, h2.2.2.2.1.trans h1.2.2.2.1, h2.2.2.2.2.1.trans h1.2.2.2.2.1, h2.2.2.2.2.2.trans h1.2.2.2.2.2⟩
theorem GI_ff {I A J B : FN} {g lo hi lo' hi' : Nat} (h : GI I A g) (fi : FrW I J lo hi) (fa : FrW A B lo' hi') (h1 : g + 75 < lo ∨ hi < g) (h2 : g + 75 < lo' ∨ hi' < g) : GI J B g := ⟨LgI_ff h.1 fi fa (by omega) (by omega), fun s hs => SiI_f (h.2 s hs) fi fa (by omega) (by omega) (by omega)⟩
theorem CQ_g {I A J B : FN} (q : GQ I A 1 J B) (h : CI I A) : CQ I A J B := by
  obtain ⟨h1, h2, h3, h4, h5⟩ := h
  obtain ⟨q1, q2, q3⟩ := q
  have e0 : J 0 = I 0 := q2 0 (by omega)
  have e7 : J 77 = I 77 := q2 77 (by omega)
  refine ⟨⟨q1, ?_, ?_, ?_, fun i hi hx => ?_⟩, by rw [e0], e7, q3 78 (by omega), q2 90 (by omega), q3 91 (by omega)⟩
  · rw [q3 94 (by omega)]; exact h2
  · rw [q3 95 (by omega)]; exact h3
  · rw [e0]; exact h4
  · rw [e7] at hx; exact GI_ff (h5 i hi hx) q2 q3 (by omega) (by omega)
theorem CQ_a {I A B : FN} {lo hi : Nat} (f : FrW A B lo hi) (h1 : 79 ≤ lo) (h2 : hi ≤ 96) (h3 : hi < 91 ∨ 91 < lo) (h : CI I A) (r1 : R2 (B 94) 0 200) (r2 : R2 (B 95) 0 200) : CQ I A I B := by
  obtain ⟨a1, a2, a3, a4, a5⟩ := h
  exact ⟨⟨GI_a1 a1 f (by omega), r1, r2, a4, fun i hi hx => GI_ff (a5 i hi hx) (lo := 1000) (hi := 0) FrW_0 f (by omega) (by omega)⟩, rfl, rfl, f 78 (by omega), rfl, f 91 (by omega)⟩
theorem CQ_s {I A B : FN} {lo hi : Nat} (f : FrW A B lo hi) (h : CI I A) (h1 : (79 ≤ lo ∧ hi ≤ 93 ∧ (hi < 91 ∨ 91 < lo)) ∨ (lo = 96 ∧ hi = 96)) : CQ I A I B := CQ_a f (by omega) (by omega) (by omega) h (by rw [f 94 (by omega)]; exact h.2.1) (by rw [f 95 (by omega)]; exact h.2.2.1)
theorem CQ_d {I A B : FN} {d : Nat} (f : FrW A B d d) (r : R2 (B d) 0 200) (h : CI I A) (hd : d = 94 ∨ d = 95) : CQ I A I B := by
  rcases hd with rfl | rfl
  · exact CQ_a f (by omega) (by omega) (by omega) h r (by rw [f 95 (by omega)]; exact h.2.2.1)
  · exact CQ_a f (by omega) (by omega) (by omega) h (by rw [f 94 (by omega)]; exact h.2.1) r
theorem CQ_drawn {I A : FN} {v : Int} (h : CI I A) : CQ I A (up2 I 0 8 v) A := by
  obtain ⟨a1, a2, a3, a4, a5⟩ := h
  have f : FrW I (up2 I 0 8 v) 0 0 := fun a ha => up2_rn (by omega)
  refine ⟨⟨GI_ff a1 f (lo' := 1000) (hi' := 0) FrW_0 (by omega) (by omega), a2, a3, ?_, fun i hi hx => ?_⟩, ?_, f 77 (by omega), rfl, f 90 (by omega), rfl⟩
  · rw [up2_ud, ud_n (by omega)]; exact a4
  · rw [f 77 (by omega)] at hx; exact GI_ff (a5 i hi hx) f (lo' := 1000) (hi' := 0) FrW_0 (by omega) (by omega)
  · rw [up2_ud, ud_n (by omega)]
theorem CQ_si {I A J B : FN} {s : Int} (q : SiQ I A 2 (12 + 13 * s.toNat) J B) (h : CI I A) (h0 : 0 ≤ s) (h1 : s < 5) : CQ I A J B := CQ_g (GQ_si (g := 1) (s := s.toNat) q h.1 (by omega)) h
theorem CQ_lost {I A : FN} {v : Int} (h : CI I A) : CQ I A (up2 I 1 2 v) A := CQ_g (GQ_lost (g := 1) h.1) h
theorem b_rg {m k : Nat → Int} {x : Int} (h : x = 0 ∨ PL m k x) : 0 ≤ x ∧ x ≤ 200 := h.elim (fun e => by omega) (fun e => by have := e.rg; omega)
theorem SiQ_known {I A : FN} {w u : Nat} {s : Int} (h : SiI I A 2 w) (hw : 10 < w) : SiQ I A 2 w I (cpy A u (w + 2) 0 (s * 5) 5) := by
  have f : FrW A (cpy A u (w + 2) 0 (s * 5) 5) (w + 2) (w + 2) := fun a ha => cpy_n (by omega)
  obtain ⟨a1, a2, a3⟩ := h
  refine ⟨⟨?_, ?_, LsI_f a3 f (by omega) (by omega)⟩, FrW_0, FrW_w f (by omega) (by omega)⟩
  · rw [f (2 + 1) (by omega), f (w + 3 + 1) (by omega)]; exact a1
  · rw [f (2 + 1) (by omega), f (w + 5 + 1) (by omega)]; exact a2
theorem SiQ_swept {I A B : FN} {w : Nat} (h : SiI I A 2 w) (hw : 10 < w) (f : FrW A B (w + 7 + 1) (w + 7 + 1)) (hl : ∀ mad kin : Nat → Int, LSt mad kin (A (w + 7 + 1)) (A (w + 7 + 2)) (A (w + 7 + 3)) → LSt mad kin (B (w + 7 + 1)) (B (w + 7 + 2)) (B (w + 7 + 3))) : SiQ I A 2 w I B := by
  obtain ⟨a1, a2, a3⟩ := h
  refine ⟨⟨?_, ?_, ?_⟩, FrW_0, FrW_w f (by omega) (by omega)⟩
  · rw [f (2 + 1) (by omega), f (w + 3 + 1) (by omega)]; exact a1
  · rw [f (2 + 1) (by omega), f (w + 5 + 1) (by omega)]; exact a2
  · unfold LsI
    rw [f (2 + 1) (by omega), f (2 + 2) (by omega)]
    exact hl _ _ a3
theorem wt_mk {m : Nat → Int} {x : Int} {R : Prop} (h : x = 0 ∨ (mkS m x ∧ R)) (hx : ¬ x = 0) : mkS m x := (h.resolve_left hx).1
