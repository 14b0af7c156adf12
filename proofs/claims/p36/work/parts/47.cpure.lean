/-- a site at a role, by a log -/
def SiI (I A : FN) (l w : Nat) : Prop := SR (A (l + 1)) (A (w + 3 + 1)) (I (w + 3) 1) 60 ∧ SR (A (l + 1)) (A (w + 5 + 1)) (I (w + 5) 1) 201 ∧ LsI A l (w + 7)
theorem LgI_i {I A : FN} {l w j : Nat} {v : Int} (h : LgI I A l) (hw : l ≠ w) : LgI (up2 I w j v) A l := by
  unfold LgI at h ⊢
  rw [up2_rn hw]; exact h
theorem LgI_ff {I J A B : FN} {l lo hi lo' hi' : Nat} (h : LgI I A l) (f : FrW I J lo hi) (f2 : FrW A B lo' hi') (h1 : l < lo ∨ hi < l) (h2 : l + 8 < lo' ∨ hi' < l) : LgI J B l := by
  have := LgI_f h f2 h2
  unfold LgI at this ⊢
  rw [f l (by omega)]; exact this
theorem SiI_pf {I A I' A' : FN} {l w : Nat} (h : SiI I A l w) (hl : LsI A' l (w + 7)) (fi : FrW I I' w w) (fa : FrW A A' (w + 1) (w + 12)) (e1 : A' (w + 3 + 1) = A (w + 3 + 1)) (e2 : A' (w + 5 + 1) = A (w + 5 + 1)) (hw : l + 8 < w) : SiI I' A' l w := by
  obtain ⟨h1, h2, -⟩ := h
  refine ⟨?_, ?_, hl⟩
  · rw [e1, fi (w + 3) (by omega), fa (l + 1) (by omega)]; exact h1
  · rw [e2, fi (w + 5) (by omega), fa (l + 1) (by omega)]; exact h2
theorem RemQ_h {I A I' A' : FN} {l w : Nat} {i : Int} (h : SiI I A l w) (q : RemQ I A (w + 5) i I' A') (hw : l + 8 < w) : SiI I' A' l w ∧ FrW I I' w (w + 12) ∧ FrW A A' (w + 1) (w + 12) := by
  obtain ⟨h1, h2, h3⟩ := h
  have fa : FrW A A' (w + 5 + 1) (w + 5 + 1) := fun a ha => q.fA (by omega)
  refine ⟨⟨?_, q.sr h2 (by omega), LsI_f h3 fa (by omega) (by omega)⟩, fun a ha => q.fI (by omega), fun a ha => q.fA (by omega)⟩
  rw [q.fA (a := l + 1) (by omega), q.fA (a := w + 3 + 1) (by omega), q.fI (a := w + 3) (by omega)]; exact h1
theorem AddQ_h {I A I' A' : FN} {l w : Nat} {p x : Int} (h : SiI I A l w) (q : AddQ I A (w + 5) 201 p x I' A') (hp : mkS (A (l + 1)) p) (hw : l + 8 < w) : SiI I' A' l w ∧ FrW I I' w (w + 12) ∧ FrW A A' (w + 1) (w + 12) := by
  obtain ⟨h1, h2, h3⟩ := h
  have fa : FrW A A' (w + 5 + 1) (w + 5 + 1) := fun a ha => q.fA (by omega)
  refine ⟨⟨?_, q.sr h2 (by omega) hp, LsI_f h3 fa (by omega) (by omega)⟩, fun a ha => q.fI (by omega), fun a ha => q.fA (by omega)⟩
  rw [q.fA (a := l + 1) (by omega), q.fA (a := w + 3 + 1) (by omega), q.fI (a := w + 3) (by omega)]; exact h1
theorem RemQ_w {I A I' A' : FN} {l w : Nat} {i : Int} (h : SiI I A l w) (q : RemQ I A (w + 3) i I' A') (hw : l + 8 < w) : SiI I' A' l w ∧ FrW I I' w (w + 12) ∧ FrW A A' (w + 1) (w + 12) := by
  obtain ⟨h1, h2, h3⟩ := h
  have fa : FrW A A' (w + 3 + 1) (w + 3 + 1) := fun a ha => q.fA (by omega)
  refine ⟨⟨q.sr h1 (by omega), ?_, LsI_f h3 fa (by omega) (by omega)⟩, fun a ha => q.fI (by omega), fun a ha => q.fA (by omega)⟩
  rw [q.fA (a := l + 1) (by omega), q.fA (a := w + 5 + 1) (by omega), q.fI (a := w + 5) (by omega)]; exact h2
theorem AddQ_w {I A I' A' : FN} {l w : Nat} {p x : Int} (h : SiI I A l w) (q : AddQ I A (w + 3) 60 p x I' A') (hp : mkS (A (l + 1)) p) (hw : l + 8 < w) : SiI I' A' l w ∧ FrW I I' w (w + 12) ∧ FrW A A' (w + 1) (w + 12) := by
  obtain ⟨h1, h2, h3⟩ := h
  have fa : FrW A A' (w + 3 + 1) (w + 3 + 1) := fun a ha => q.fA (by omega)
  refine ⟨⟨q.sr h1 (by omega) hp, ?_, LsI_f h3 fa (by omega) (by omega)⟩, fun a ha => q.fI (by omega), fun a ha => q.fA (by omega)⟩
  rw [q.fA (a := l + 1) (by omega), q.fA (a := w + 5 + 1) (by omega), q.fI (a := w + 5) (by omega)]; exact h2
/-- what a site's methods leave -/
def SiQ (I A : FN) (l w : Nat) (I' A' : FN) : Prop := SiI I' A' l w ∧ FrW I I' w (w + 12) ∧ FrW A A' (w + 1) (w + 12)
theorem SiQ_0 {I A : FN} {l w : Nat} (h : SiI I A l w) : SiQ I A l w I A := ⟨h, FrW_0, FrW_0⟩
theorem SiQ_t {I A J B K C : FN} {l w : Nat} (h2 : SiQ J B l w K C) (h1 : SiQ I A l w J B) : SiQ I A l w K C := ⟨h2.1, FrW_t h1.2.1 h2.2.1, FrW_t h1.2.2 h2.2.2⟩
theorem SiQ.lg {I A J B : FN} {l w : Nat} (h : SiQ I A l w J B) (hl : LgI I A l) (hw : l + 8 < w) : LgI J B l := LgI_ff hl h.2.1 h.2.2 (by omega) (by omega)
theorem SiQ.mk {I A J B : FN} {l w : Nat} {p : Int} (h : SiQ I A l w J B) (hp : mkS (A (l + 1)) p) (hw : l + 8 < w) : mkS (B (l + 1)) p := by rw [h.2.2 (l + 1) (by omega)]; exact hp
theorem SiI.hs {I A : FN} {l w : Nat} (h : SiI I A l w) : 0 ≤ I (w + 5) 1 ∧ I (w + 5) 1 ≤ 201 := ⟨h.2.1.1, h.2.1.2.1⟩
theorem SiI.ws {I A : FN} {l w : Nat} (h : SiI I A l w) : 0 ≤ I (w + 3) 1 ∧ I (w + 3) 1 ≤ 60 := ⟨h.1.1, h.1.2.1⟩
theorem SiI.hm {I A : FN} {l w : Nat} (h : SiI I A l w) {i : Int} (h0 : 0 ≤ i) (h1 : i < I (w + 5) 1) : mkS (A (l + 1)) (A (w + 5 + 1) i.toNat) := h.2.1.2.2 i.toNat (by omega)
theorem SiI.wm {I A : FN} {l w : Nat} (h : SiI I A l w) {i : Int} (h0 : 0 ≤ i) (h1 : i < I (w + 3) 1) : mkS (A (l + 1)) (A (w + 3 + 1) i.toNat) := h.1.2.2 i.toNat (by omega)
/-- what perform leaves -/
def PfQ (I A : FN) (l w : Nat) (I' A' : FN) : Prop := LsI A' l (w + 7) ∧ FrW I I' w w ∧ FrW A A' (w + 1) (w + 12) ∧ A' (w + 3 + 1) = A (w + 3 + 1) ∧ A' (w + 5 + 1) = A (w + 5 + 1)
theorem PfQ_of {I A A' : FN} {l w i : Nat} {v c : Int} (hl : LsI A' l (w + 7)) (f : FrW (up2 A (w + 1) i v) A' (w + 7 + 1) (w + 7 + 5)) : PfQ I A l w (up2 I w 5 c) A' := by
  refine ⟨hl, fun a ha => up2_rn (by omega), fun a ha => ?_, ?_, ?_⟩
  · rw [f a (by omega), up2_rn (by omega)]
  · rw [f (w + 3 + 1) (by omega), up2_rn (by omega)]
  · rw [f (w + 5 + 1) (by omega), up2_rn (by omega)]
theorem PfQ.si {I A I' A' : FN} {l w : Nat} (q : PfQ I A l w I' A') (h : SiI I A l w) (hw : l + 8 < w) : SiQ I A l w I' A' := ⟨SiI_pf h q.1 q.2.1 q.2.2.1 q.2.2.2.1 q.2.2.2.2 hw, FrW_w q.2.1 (by omega) (by omega), q.2.2.1⟩
theorem ws_p {I A J B : FN} {l w : Nat} (p : PfQ I A l w J B) : J (w + 3) 1 = I (w + 3) 1 := by rw [p.2.1 (w + 3) (by omega)]
theorem ws_a {I A J B : FN} {w : Nat} {p x : Int} (q : AddQ I A (w + 5) 201 p x J B) : J (w + 3) 1 = I (w + 3) 1 := by rw [q.fI (by omega)]
theorem ws_e {I A J B K C : FN} {l w : Nat} {i v : Int} (p : PfQ J B l w K C) (q : RemQ I A (w + 5) i J B) (e : I (w + 3) 1 = v) : K (w + 3) 1 = v := by rw [ws_p p, q.fI (by omega)]; exact e
