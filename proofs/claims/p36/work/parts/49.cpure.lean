/-- a group at a role -/
def GI (I A : FN) (g : Nat) : Prop := LgI I A (g + 1) ∧ ∀ s : Nat, s < 5 → SiI I A (g + 1) (g + 10 + 1 + 13 * s)
theorem GI.lg {I A : FN} {g : Nat} (h : GI I A g) : LgI I A (g + 1) := h.1
theorem GI.si {I A : FN} {g : Nat} (h : GI I A g) {s : Int} (h0 : 0 ≤ s) (h1 : s < 5) : SiI I A (g + 1) (g + 10 + 1 + 13 * s.toNat) := h.2 s.toNat (by omega)
theorem SiI_f {I A J B : FN} {l w lo hi lo' hi' : Nat} (h : SiI I A l w) (fi : FrW I J lo hi) (fa : FrW A B lo' hi') (h1 : l + 2 < lo' ∨ hi' < l) (h2 : w + 12 < lo ∨ hi < w) (h3 : w + 12 < lo' ∨ hi' < w) : SiI J B l w := by
  obtain ⟨a1, a2, a3⟩ := h
  refine ⟨?_, ?_, LsI_f a3 fa (by omega) (by omega)⟩
  · rw [fa (l + 1) (by omega), fa (w + 3 + 1) (by omega), fi (w + 3) (by omega)]; exact a1
  · rw [fa (l + 1) (by omega), fa (w + 5 + 1) (by omega), fi (w + 5) (by omega)]; exact a2
def GQ (I A : FN) (g : Nat) (J B : FN) : Prop := GI J B g ∧ FrW I J g (g + 75) ∧ FrW A B g (g + 75)
theorem GQ_0 {I A : FN} {g : Nat} (h : GI I A g) : GQ I A g I A := ⟨h, FrW_0, FrW_0⟩
theorem GQ_t {I A J B K C : FN} {g : Nat} (h2 : GQ J B g K C) (h1 : GQ I A g J B) : GQ I A g K C := ⟨h2.1, FrW_t h1.2.1 h2.2.1, FrW_t h1.2.2 h2.2.2⟩
theorem GQ_si {I A J B : FN} {g s : Nat} (q : SiQ I A (g + 1) (g + 10 + 1 + 13 * s) J B) (h : GI I A g) (hs : s < 5) : GQ I A g J B := by
  refine ⟨⟨q.lg h.1 (by omega), fun t ht => ?_⟩, FrW_w q.2.1 (by omega) (by omega), FrW_w q.2.2 (by omega) (by omega)⟩
  by_cases e : t = s
  · rw [e]; exact q.1
  · exact SiI_f (h.2 t ht) q.2.1 q.2.2 (by omega) (by omega) (by omega)
theorem GQ_lost {I A : FN} {g j : Nat} {v : Int} (h : GI I A g) : GQ I A g (up2 I g j v) A := by
  have f : FrW I (up2 I g j v) g g := fun a ha => up2_rn (by omega)
  exact ⟨⟨LgI_i h.1 (by omega), fun t ht => SiI_f (h.2 t ht) f (lo' := g) (hi' := g) FrW_0 (by omega) (by omega) (by omega)⟩, FrW_w f (by omega) (by omega), FrW_0⟩
theorem mkS_old {mad : Nat → Int} {s p : Int} (h0 : 0 ≤ s) (h1 : s < 5) (h2 : 0 ≤ mad s.toNat) (h3 : mad s.toNat < 40) (h : mkS (ud mad s.toNat (mad s.toNat + 1)) p) (hp : p ≠ s * 40 + (mad s.toNat + 1)) : mkS mad p := by
  obtain ⟨a1, a2, a3⟩ := h
  refine ⟨a1, a2, ?_⟩
  unfold ud at a3
  split at a3
  · next e => rw [e]; omega
  · exact a3
theorem mkS_ne {mad : Nat → Int} {s p : Int} (h0 : 0 ≤ s) (h1 : s < 5) (h2 : 0 ≤ mad s.toNat) (h3 : mad s.toNat < 40) (h : mkS mad p) : p ≠ s * 40 + (mad s.toNat + 1) := by
  intro e
  obtain ⟨a1, a2, a3⟩ := h
  rw [show (p - 1) / 40 = s by omega] at a3
  omega
theorem PL_up {mad kin : Nat → Int} {s p kd : Int} (h0 : 0 ≤ s) (h1 : s < 5) (h2 : 0 ≤ mad s.toNat) (h3 : mad s.toNat < 40) (h : PL mad kin p) : PL (ud mad s.toNat (mad s.toNat + 1)) (ud kin (s * 40 + (mad s.toNat + 1)).toNat kd) p := by
  have hn := mkS_ne h0 h1 h2 h3 h.1
  have hr := h.rg
  refine ⟨mkS_up h.1, ?_⟩
  rw [ud_n (by omega)]
  exact h.2
theorem SR_up {mad it : Nat → Int} {n most : Int} {s : Nat} (h : SR mad it n most) : SR (ud mad s (mad s + 1)) it n most := ⟨h.1, h.2.1, fun i hi => mkS_up (h.2.2 i hi)⟩
theorem LSt_up {mad kin nxt spo ltr : Nat → Int} {s kd : Int} (h0 : 0 ≤ s) (h1 : s < 5) (h2 : 0 ≤ mad s.toNat) (h3 : mad s.toNat < 40) (h : LSt mad kin nxt spo ltr) : LSt (ud mad s.toNat (mad s.toNat + 1)) (ud kin (s * 40 + (mad s.toNat + 1)).toNat kd) nxt spo ltr :=
  ⟨h.1, h.2.1, h.2.2.1, fun i hi hx => PL_up h0 h1 h2 h3 (h.2.2.2.1 i hi hx), fun i a hi hx => PL_up h0 h1 h2 h3 (h.2.2.2.2.1 i a hi hx), fun i hi => (h.2.2.2.2.2 i hi).elim Or.inl (fun z => Or.inr (PL_up h0 h1 h2 h3 z))⟩
theorem mk_grp {I A I1 A1 : FN} {g : Nat} {s kd e b t x : Int} (h : GI I A g) (q : OpQ I A (g + 1) s x I1 A1) (hx : ¬ x = 0) (h0 : 0 ≤ s) (h1 : s < 5) (he : 0 ≤ e ∧ e ≤ 200) (hb : -1 ≤ b ∧ b ≤ 200) (hp : (kd = 0 ∨ kd = 1) → b = 0 ∨ PL (A (g + 1 + 1)) (A (g + 1 + 2)) b) :
    (1 ≤ x ∧ x ≤ 200) ∧ GQ I A g I1 (up2 (up2 (up2 (up2 A1 (g + 1 + 2) x.toNat kd) (g + 1 + 4) x.toNat e) (g + 1 + 5) x.toNat b) (g + 1 + 6) x.toNat t) ∧ mkS (A1 (g + 1 + 1)) x := by
  rcases q with ⟨q1, -, -⟩ | ⟨q1, q2, q3, q4, q5, q6, q7, q8, q9, q10⟩
  · exact absurd q1 hx
  subst q5
  obtain ⟨l1, l2, l3, l4, l5, l6, l7⟩ := h.1
  have hm := l3 s.toNat (by omega)
  have hmk : mkS (A1 (g + 1 + 1)) x := by rw [q4, q1]; exact mkS_new h0 h1 hm.1 q2
  have hxr : 1 ≤ x ∧ x ≤ 200 := ⟨hmk.1, hmk.2.1⟩
  have fA : FrW A (up2 (up2 (up2 (up2 A1 (g + 1 + 2) x.toNat kd) (g + 1 + 4) x.toNat e) (g + 1 + 5) x.toNat b) (g + 1 + 6) x.toNat t) (g + 1 + 1) (g + 1 + 8) := FrW_u (FrW_u (FrW_u (FrW_u q10 (by omega) (by omega)) (by omega) (by omega)) (by omega) (by omega)) (by omega) (by omega)
  have fI : FrW I (up2 I (g + 1) 9 (I (g + 1) 9 + 1)) (g + 1) (g + 1) := fun a ha => up2_rn (by omega)
  generalize hA2 : up2 (up2 (up2 (up2 A1 (g + 1 + 2) x.toNat kd) (g + 1 + 4) x.toNat e) (g + 1 + 5) x.toNat b) (g + 1 + 6) x.toNat t = A2 at fA ⊢
  have e1 : A2 (g + 1 + 1) = ud (A (g + 1 + 1)) s.toNat (A (g + 1 + 1) s.toNat + 1) := by
    rw [← hA2, up2_rn (by omega), up2_rn (by omega), up2_rn (by omega), up2_rn (by omega), q4]
  have e2 : A2 (g + 1 + 2) = ud (A (g + 1 + 2)) (s * 40 + (A (g + 1 + 1) s.toNat + 1)).toNat kd := by
    rw [← hA2, up2_rn (by omega), up2_rn (by omega), up2_rn (by omega), up2_ud, q7, q1]
  have e4 : A2 (g + 1 + 4) = ud (A (g + 1 + 4)) x.toNat e := by
    rw [← hA2, up2_rn (by omega), up2_rn (by omega), up2_ud, up2_rn (by omega), q8]
  have e5 : A2 (g + 1 + 5) = ud (A (g + 1 + 5)) x.toNat b := by
    rw [← hA2, up2_rn (by omega), up2_ud, up2_rn (by omega), up2_rn (by omega), q9]
  have e8 : A2 (g + 1 + 8) = A1 (g + 1 + 8) := by
    rw [← hA2, up2_rn (by omega), up2_rn (by omega), up2_rn (by omega), up2_rn (by omega)]
  refine ⟨hxr, ⟨⟨?_, fun t' ht => ?_⟩, FrW_w fI (by omega) (by omega), FrW_w fA (by omega) (by omega)⟩, hmk⟩
  · unfold LgI
    rw [e1, e2, e4, e5, e8, up2_ud, ud_s, ud_n (by omega)]
    refine ⟨l1, by omega, fun k hk => ?_, R2_u l4 he.1 he.2, R2_u l5 hb.1 hb.2, fun k hk => ?_, fun p hpl => ?_⟩
    · have := l3 k hk
      unfold ud
      split
      · next e => rw [← e] at q2 ⊢; rw [e] at q2 ⊢; have := l3 s.toNat (by omega); omega
      · exact this
    · have := q6 k hk; rw [q4] at this; exact this
    · by_cases ep : p = x
      · subst ep
        rw [ud_s]
        have hk : kd = 0 ∨ kd = 1 := by
          have := hpl.2
          rw [← q1, ud_s] at this
          omega
        rcases hp hk with z | z
        · exact Or.inl z
        · exact Or.inr (PL_up h0 h1 hm.1 q2 z)
      · have hold : PL (A (g + 1 + 1)) (A (g + 1 + 2)) p := by
          have hr := hpl.rg
          refine ⟨mkS_old h0 h1 hm.1 q2 hpl.1 (by rw [← q1]; exact ep), ?_⟩
          have := hpl.2
          rw [← q1, ud_n (by omega)] at this
          exact this
        have hr := hold.rg
        rw [ud_n (by omega)]
        exact (l7 p hold).elim Or.inl (fun z => Or.inr (PL_up h0 h1 hm.1 q2 z))
  · obtain ⟨a1, a2, a3⟩ := h.2 t' ht
    refine ⟨?_, ?_, ?_⟩
    · rw [e1, fA (g + 10 + 1 + 13 * t' + 3 + 1) (by omega), fI (g + 10 + 1 + 13 * t' + 3) (by omega)]; exact SR_up a1
    · rw [e1, fA (g + 10 + 1 + 13 * t' + 5 + 1) (by omega), fI (g + 10 + 1 + 13 * t' + 5) (by omega)]; exact SR_up a2
    · unfold LsI at a3 ⊢
      rw [e1, e2, fA (g + 10 + 1 + 13 * t' + 7 + 1) (by omega), fA (g + 10 + 1 + 13 * t' + 7 + 2) (by omega), fA (g + 10 + 1 + 13 * t' + 7 + 3) (by omega)]
      exact LSt_up h0 h1 hm.1 q2 a3
theorem op_0 {I A I1 A1 : FN} {w : Nat} {s x : Int} (q : OpQ I A w s x I1 A1) (hx : x = 0) (h0 : 0 ≤ s) (hm : 0 ≤ A (w + 1) s.toNat) : I1 = I ∧ A1 = A := by
  rcases q with ⟨-, q2, q3⟩ | ⟨q1, -⟩
  · exact ⟨q2, q3⟩
  · omega
theorem AddQ_mk {I A I' A' : FN} {r a : Nat} {most p x y : Int} (h : AddQ I A r most y x I' A') (ha : a ≠ r + 1) (hp : mkS (A a) p) : mkS (A' a) p := by rw [h.fA ha]; exact hp
theorem mk_grpx {I A I1 A1 : FN} {g : Nat} {s kd b t x : Int} (h : GI I A g) (q : OpQ I A (g + 1) s x I1 A1) (hx : ¬ x = 0) (h0 : 0 ≤ s) (h1 : s < 5) (hb : -1 ≤ b ∧ b ≤ 200) (hp : (kd = 0 ∨ kd = 1) → b = 0 ∨ PL (A (g + 1 + 1)) (A (g + 1 + 2)) b) :
    (1 ≤ x ∧ x ≤ 200) ∧ GQ I A g I1 (up2 (up2 (up2 (up2 A1 (g + 1 + 2) x.toNat kd) (g + 1 + 4) x.toNat x) (g + 1 + 5) x.toNat b) (g + 1 + 6) x.toNat t) ∧ mkS (A1 (g + 1 + 1)) x := by
  have q0 := (mk_grp (t := t) (e := 0) h q hx h0 h1 ⟨by omega, by omega⟩ hb hp).1
  exact mk_grp h q hx h0 h1 ⟨by omega, by omega⟩ hb hp
