theorem GI.l1 {I A : FN} (h : GI I A 1) : LG (A 3) (A 4) (A 6) (A 7) (A 10) (I 2 8) (I 2 9) := h.1
theorem GI.s1 {I A : FN} (h : GI I A 1) {s : Int} (h0 : 0 ≤ s) (h1 : s < 5) : SiI I A 2 (12 + 13 * s.toNat) := h.si h0 h1
theorem SiI.l1 {I A : FN} {w : Nat} (h : SiI I A 2 w) : LSt (A 3) (A 4) (A (w + 7 + 1)) (A (w + 7 + 2)) (A (w + 7 + 3)) := h.2.2
theorem GI_f1 {I A J B : FN} {lo hi lo' hi' : Nat} (h : GI I A 1) (fi : FrW I J lo hi) (fa : FrW A B lo' hi') (h1 : 76 < lo ∨ hi < 1) (h2 : 76 < lo' ∨ hi' < 1) : GI J B 1 := ⟨LgI_ff h.1 fi fa (by omega) (by omega), fun s hs => SiI_f (h.2 s hs) fi fa (by omega) (by omega) (by omega)⟩
theorem GI_a1 {I A B : FN} {lo' hi' : Nat} (h : GI I A 1) (fa : FrW A B lo' hi') (h2 : 76 < lo') : GI I B 1 := GI_f1 h (lo := 1000) (hi := 0) FrW_0 fa (by omega) (by omega)
theorem Fil3 {A A1 A2 A3 : FN} (h3 : Fil A2 A3 89 201 0) (h2 : Fil A1 A2 88 201 0) (h1 : Fil A A1 87 201 0) : FrW A A3 86 89 := FrW_t (FrW_t (FrW_f h1 (by omega) (by omega)) (FrW_f h2 (by omega) (by omega))) (FrW_f h3 (by omega) (by omega))
