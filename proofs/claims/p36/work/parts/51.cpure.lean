theorem mkS_x {mad mad' : Nat → Int} {p : Int} (h : mkS mad p) (e : ∀ i : Nat, i < 5 → mad' i = mad i) : mkS mad' p := by
  obtain ⟨h1, h2, h3⟩ := h
  exact ⟨h1, h2, by rw [e _ (by omega)]; exact h3⟩
theorem PL_x {mad mad' kin kin' : Nat → Int} {p : Int} (h : PL mad kin p) (e : ∀ i : Nat, i < 5 → mad' i = mad i) (e2 : ∀ i : Nat, i < 201 → kin' i = kin i) : PL mad' kin' p := by
  have hr := h.rg
  exact ⟨mkS_x h.1 e, by rw [e2 _ (by omega)]; exact h.2⟩
theorem LSt_x {mad mad' kin kin' nxt spo ltr : Nat → Int} (h : LSt mad kin nxt spo ltr) (e : ∀ i : Nat, i < 5 → mad' i = mad i) (e2 : ∀ i : Nat, i < 201 → kin' i = kin i) : LSt mad' kin' nxt spo ltr :=
  ⟨h.1, h.2.1, h.2.2.1, fun i hi hx => PL_x (h.2.2.2.1 i hi hx) e e2, fun i a hi hx => PL_x (h.2.2.2.2.1 i a hi hx) e e2, fun i hi => (h.2.2.2.2.2 i hi).elim Or.inl (fun z => Or.inr (PL_x z e e2))⟩
/-- a site copied -/
def SiC (I A : FN) (w u : Nat) (J B : FN) : Prop := J (w + 3) 1 = I (u + 3) 1 ∧ J (w + 5) 1 = I (u + 5) 1 ∧ (∀ i : Nat, i < 60 → B (w + 3 + 1) i = A (u + 3 + 1) i) ∧ (∀ i : Nat, i < 201 → B (w + 5 + 1) i = A (u + 5 + 1) i) ∧
  (∀ mad kin : Nat → Int, LSt mad kin (A (u + 7 + 1)) (A (u + 7 + 2)) (A (u + 7 + 3)) → LSt mad kin (B (w + 7 + 1)) (B (w + 7 + 2)) (B (w + 7 + 3))) ∧ FrW I J w (w + 12) ∧ FrW A B (w + 1) (w + 12)
theorem SiC_si {I A J B : FN} {l l' w u : Nat} (h : SiI I A l u) (c : SiC I A w u J B) (e : ∀ i : Nat, i < 5 → B (l' + 1) i = A (l + 1) i) (e2 : ∀ i : Nat, i < 201 → B (l' + 2) i = A (l + 2) i) : SiI J B l' w := by
  obtain ⟨⟨a1, a2, a3⟩, ⟨b1, b2, b3⟩, h3⟩ := h
  obtain ⟨c1, c2, c3, c4, c5, -⟩ := c
  refine ⟨?_, ?_, ?_⟩
  · rw [c1]; exact ⟨a1, a2, fun i hi => by rw [c3 i (by omega)]; exact mkS_x (a3 i hi) e⟩
  · rw [c2]; exact ⟨b1, b2, fun i hi => by rw [c4 i (by omega)]; exact mkS_x (b3 i hi) e⟩
  · exact LSt_x (c5 _ _ h3) e e2
theorem SiC_of {I A B : FN} {w u : Nat} {v : Int} (hs : u + 12 < w ∨ w + 12 < u)
    (hl : ∀ mad kin : Nat → Int, LSt mad kin (cpy (cpy (cpy (cpy A (u + 1) (w + 1) 0 0 5) (u + 2) (w + 2) 0 0 25) (u + 3 + 1) (w + 3 + 1) 0 0 60) (u + 5 + 1) (w + 5 + 1) 0 0 201 (u + 7 + 1)) (cpy (cpy (cpy (cpy A (u + 1) (w + 1) 0 0 5) (u + 2) (w + 2) 0 0 25) (u + 3 + 1) (w + 3 + 1) 0 0 60) (u + 5 + 1) (w + 5 + 1) 0 0 201 (u + 7 + 2)) (cpy (cpy (cpy (cpy A (u + 1) (w + 1) 0 0 5) (u + 2) (w + 2) 0 0 25) (u + 3 + 1) (w + 3 + 1) 0 0 60) (u + 5 + 1) (w + 5 + 1) 0 0 201 (u + 7 + 3)) → LSt mad kin (B (w + 7 + 1)) (B (w + 7 + 2)) (B (w + 7 + 3)))
    (f : FrW (cpy (cpy (cpy (cpy A (u + 1) (w + 1) 0 0 5) (u + 2) (w + 2) 0 0 25) (u + 3 + 1) (w + 3 + 1) 0 0 60) (u + 5 + 1) (w + 5 + 1) 0 0 201) B (w + 7 + 1) (w + 7 + 5)) :
    SiC I A w u (up2 (up2 (up2 I (w + 3) 1 (I (u + 3) 1)) (w + 5) 1 (I (u + 5) 1)) w 5 v) B := by
  refine ⟨?_, ?_, fun i hi => ?_, fun i hi => ?_, fun mad kin h => hl mad kin ?_, fun a ha => ?_, fun a ha => ?_⟩
  · rw [up2_rn (by omega), up2_rn (by omega), up2_ud, ud_s]
  · rw [up2_rn (by omega), up2_ud, ud_s]
  · rw [f _ (by omega), cpy_n (by omega), cpy_i (by omega), cpy_n (by omega), cpy_n (by omega)]
  · rw [f _ (by omega), cpy_i (by omega), cpy_n (by omega), cpy_n (by omega), cpy_n (by omega)]
  · rw [cpy_n (by omega), cpy_n (by omega), cpy_n (by omega), cpy_n (by omega), cpy_n (by omega), cpy_n (by omega), cpy_n (by omega), cpy_n (by omega), cpy_n (by omega), cpy_n (by omega), cpy_n (by omega), cpy_n (by omega)]
    exact h
  · rw [up2_rn (by omega), up2_rn (by omega), up2_rn (by omega)]
  · rw [f a (by omega), cpy_n (by omega), cpy_n (by omega), cpy_n (by omega), cpy_n (by omega)]
/-- a log copied -/
def LgC (I A : FN) (w u : Nat) (J B : FN) : Prop := J w 8 = I u 8 ∧ J w 9 = I u 9 ∧ (∀ i : Nat, i < 5 → B (w + 1) i = A (u + 1) i) ∧ (∀ i : Nat, i < 201 → B (w + 2) i = A (u + 2) i) ∧ (∀ i : Nat, i < 201 → B (w + 4) i = A (u + 4) i) ∧ (∀ i : Nat, i < 201 → B (w + 5) i = A (u + 5) i) ∧ (∀ i : Nat, i < 201 → B (w + 8) i = A (u + 8) i) ∧ FrW I J w w ∧ FrW A B (w + 1) (w + 8)
def gcp (A : FN) (w u : Nat) : FN := cpy (cpy (cpy (cpy (cpy (cpy (cpy (cpy A (u + 1) (w + 1) 0 0 5) (u + 2) (w + 2) 0 0 201) (u + 3) (w + 3) 0 0 201) (u + 4) (w + 4) 0 0 201) (u + 5) (w + 5) 0 0 201) (u + 6) (w + 6) 0 0 201) (u + 7) (w + 7) 0 0 1005) (u + 8) (w + 8) 0 0 201
theorem LgC_of {I A : FN} {w u : Nat} (hs : u + 8 < w ∨ w + 8 < u) : LgC I A w u (up2 (up2 I w 8 (I u 8)) w 9 (I u 9)) (gcp A w u) := by
  refine ⟨?_, ?_, fun i hi => ?_, fun i hi => ?_, fun i hi => ?_, fun i hi => ?_, fun i hi => ?_, fun a ha => ?_, ?_⟩
  · rw [up2_ud, ud_n (by omega), up2_ud, ud_s]
  · rw [up2_ud, ud_s]
  · unfold gcp; rw [cpy_n (by omega), cpy_n (by omega), cpy_n (by omega), cpy_n (by omega), cpy_n (by omega), cpy_n (by omega), cpy_n (by omega), cpy_i (by omega)]
  · unfold gcp; rw [cpy_n (by omega), cpy_n (by omega), cpy_n (by omega), cpy_n (by omega), cpy_n (by omega), cpy_n (by omega), cpy_i (by omega), cpy_n (by omega)]
  · unfold gcp; rw [cpy_n (by omega), cpy_n (by omega), cpy_n (by omega), cpy_n (by omega), cpy_i (by omega), cpy_n (by omega), cpy_n (by omega), cpy_n (by omega)]
  · unfold gcp; rw [cpy_n (by omega), cpy_n (by omega), cpy_n (by omega), cpy_i (by omega), cpy_n (by omega), cpy_n (by omega), cpy_n (by omega), cpy_n (by omega)]
  · unfold gcp; rw [cpy_i (by omega), cpy_n (by omega), cpy_n (by omega), cpy_n (by omega), cpy_n (by omega), cpy_n (by omega), cpy_n (by omega), cpy_n (by omega)]
  · rw [up2_rn (by omega), up2_rn (by omega)]
  · exact FrW_c (FrW_c (FrW_c (FrW_c (FrW_c (FrW_c (FrW_c (FrW_c FrW_0 (by omega) (by omega)) (by omega) (by omega)) (by omega) (by omega)) (by omega) (by omega)) (by omega) (by omega)) (by omega) (by omega)) (by omega) (by omega)) (by omega) (by omega)
theorem LgC_lg {I A J B : FN} {w u : Nat} (h : LgI I A u) (c : LgC I A w u J B) : LgI J B w := by
  obtain ⟨l1, l2, l3, l4, l5, l6, l7⟩ := h
  obtain ⟨c1, c2, c3, c4, c5, c6, c7, -⟩ := c
  unfold LgI
  rw [c1, c2]
  refine ⟨l1, l2, fun s hs => by rw [c3 s hs]; exact l3 s hs, fun i hi => by rw [c5 i hi]; exact l4 i hi, fun i hi => by rw [c6 i hi]; exact l5 i hi, fun k hk => by rw [c7 k (by omega)]; exact mkS_x (l6 k hk) c3, fun p hp => ?_⟩
  have hp0 := PL_x hp (fun i hi => (c3 i hi).symm) (fun i hi => (c4 i hi).symm)
  have hr := hp0.rg
  rw [c6 _ (by omega)]
  exact (l7 p hp0).elim Or.inl (fun z => Or.inr (PL_x z c3 c4))
/-- what a group's clear, copy have laid so far -/
def GL (I A : FN) (g : Nat) (J B : FN) (k : Int) : Prop := LgI J B (g + 1) ∧ (∀ s : Nat, (s : Int) < k → s < 5 → SiI J B (g + 1) (g + 10 + 1 + 13 * s)) ∧ FrW I J g (g + 75) ∧ FrW A B g (g + 75)
theorem GL_s {I A J B K C : FN} {g : Nat} {k : Int} (h : GL I A g J B k) (h0 : 0 ≤ k) (h1 : k < 5) (hs : SiI K C (g + 1) (g + 10 + 1 + 13 * k.toNat)) (fi : FrW J K (g + 10 + 1 + 13 * k.toNat) (g + 10 + 1 + 13 * k.toNat + 12)) (fa : FrW B C (g + 10 + 1 + 13 * k.toNat + 1) (g + 10 + 1 + 13 * k.toNat + 12)) : GL I A g K C (k + 1) := by
  obtain ⟨a1, a2, a3, a4⟩ := h
  refine ⟨LgI_ff a1 fi fa (by omega) (by omega), fun s hk h5 => ?_, FrW_t a3 (FrW_w fi (by omega) (by omega)), FrW_t a4 (FrW_w fa (by omega) (by omega))⟩
  by_cases e : (s : Int) = k
  · rw [show s = k.toNat by omega]; exact hs
  · exact SiI_f (a2 s (by omega) h5) fi fa (by omega) (by omega) (by omega)
theorem GL_e {I A J B : FN} {g : Nat} {k : Int} (h : GL I A g J B k) (hk : 5 ≤ k) : GQ I A g J B := ⟨⟨h.1, fun s hs => h.2.1 s (by omega) hs⟩, h.2.2.1, h.2.2.2⟩
/-- a site cleared -/
def SiZ (I A : FN) (w : Nat) (J B : FN) : Prop := J (w + 3) 1 = 0 ∧ J (w + 5) 1 = 0 ∧ (∀ mad kin : Nat → Int, LSt mad kin (B (w + 7 + 1)) (B (w + 7 + 2)) (B (w + 7 + 3))) ∧ FrW I J w (w + 12) ∧ FrW A B (w + 1) (w + 12)
theorem SiZ_si {I A J B : FN} {l w : Nat} (c : SiZ I A w J B) : SiI J B l w := by
  obtain ⟨c1, c2, c3, -⟩ := c
  refine ⟨?_, ?_, c3 _ _⟩
  · rw [c1]; exact ⟨by omega, by omega, fun i hi => absurd hi (by omega)⟩
  · rw [c2]; exact ⟨by omega, by omega, fun i hi => absurd hi (by omega)⟩
theorem SiZ_of {I A A1 A2 B : FN} {w : Nat} {v : Int} (f : FrW A2 B (w + 7 + 1) (w + 7 + 5)) (hl : ∀ mad kin : Nat → Int, LSt mad kin (B (w + 7 + 1)) (B (w + 7 + 2)) (B (w + 7 + 3))) (h2 : Fil A1 A2 (w + 2) 25 0) (h1 : Fil A A1 (w + 1) 5 0) : SiZ I A w (up2 (up2 (up2 I (w + 3) 1 0) (w + 5) 1 0) w 5 v) B := by
  refine ⟨?_, ?_, hl, fun a ha => ?_, fun a ha => ?_⟩
  · rw [up2_rn (by omega), up2_rn (by omega), up2_ud, ud_s]
  · rw [up2_rn (by omega), up2_ud, ud_s]
  · rw [up2_rn (by omega), up2_rn (by omega), up2_rn (by omega)]
  · rw [f a (by omega), h2.1 a (by omega), h1.1 a (by omega)]
theorem Lg_clear {I A B : FN} {w : Nat} {n : Int} (h1 : 2 ≤ n) (h2 : n ≤ 5) (hf : Fil A B (w + 1) 5 0) (he : R2 (A (w + 4)) 0 200) (hb : R2 (A (w + 5)) (-1) 200) : LgI (up2 (up2 I w 8 n) w 9 0) B w := by
  unfold LgI
  rw [up2_ud, ud_s, ud_n (by omega), up2_ud, ud_s, hf.1 (w + 4) (by omega), hf.1 (w + 5) (by omega)]
  refine ⟨⟨h1, h2⟩, by omega, fun s hs => by rw [hf.2 s hs]; omega, he, hb, fun k hk => absurd hk (by omega), fun p hp => ?_⟩
  obtain ⟨⟨a1, a2, a3⟩, -⟩ := hp
  rw [hf.2 _ (by omega)] at a3
  omega
