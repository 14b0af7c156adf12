/-! laying places behind places -/
def OrdOk (fb : Int) (f : Nat → Int) (s c : Int) (g : Nat → Int) : Prop := 0 ≤ c ∧ c ≤ 200 ∧ (∀ i : Nat, i < 200 → 0 ≤ g i ∧ g i < 200) ∧ (∀ i : Nat, (i : Int) < c → doneG fb f s (g i)) ∧ ∀ i j : Nat, i < j → (j : Int) < c → g i ≠ g j
def PB (fb : Int) (f : Nat → Int) (s pl c : Int) (g : Nat → Int) : Prop := OrdOk fb f s c g ∧ ∀ i : Nat, (i : Int) < c → ¬ Ds (behG fb f s) (g i) pl
def QB (fb : Int) (f : Nat → Int) (s pl c : Int) (g : Nat → Int) (c' : Int) (g' : Nat → Int) : Prop := OrdOk fb f s c' g' ∧ c ≤ c' ∧ (∀ i : Nat, (i : Int) < c → g' i = g i) ∧ ∀ i : Nat, c ≤ i → (i : Int) < c' → Ds (behG fb f s) (g' i) pl
def LB (fb : Int) (f : Nat → Int) (s pl c0 : Int) (g0 : Nat → Int) (c : Int) (g : Nat → Int) (last : Int) : Prop := OrdOk fb f s c g ∧ c0 ≤ c ∧ (∀ i : Nat, (i : Int) < c0 → g i = g0 i ∧ ¬ Ds (behG fb f s) (g i) pl) ∧
  (∀ i : Nat, c0 ≤ i → (i : Int) < c → ∃ j : Nat, (j : Int) < c ∧ behG fb f s (g j) = pl ∧ (g i = g j ∨ Ds (behG fb f s) (g i) (g j))) ∧
  (∀ i : Nat, (i : Int) < c → behG fb f s (g i) = pl → 0 ≤ last ∧ (g i = last ∨ laterG f (g i) last)) ∧ -1 ≤ last ∧ last < 200
/-- what the next one is -/
def Bst (fb : Int) (f : Nat → Int) (s pl last b : Int) : Prop := 0 ≤ b ∧ b < 200 ∧ placeG fb f s b ∧ behG fb f s b = pl ∧ (last < 0 ∨ laterG f last b)
theorem LB_0 {fb : Int} {f : Nat → Int} {s pl c : Int} {g : Nat → Int} (h : PB fb f s pl c g) : LB fb f s pl c g c g (-1) := by
  obtain ⟨h1, h2⟩ := h
  refine ⟨h1, Int.le_refl _, fun i a => ⟨rfl, h2 i a⟩, fun i a b => absurd b (by omega), fun i a b => ?_, by omega, by omega⟩
  have := h1.2.2.1 i (by have := h1.2.1; omega)
  exact absurd (Ds_1 b this) (h2 i a)
theorem LB_end {fb : Int} {f : Nat → Int} {s pl c0 c last : Int} {g0 g : Nat → Int} (h : LB fb f s pl c0 g0 c g last) : QB fb f s pl c0 g0 c g := by
  obtain ⟨h1, h2, h3, h4, h5, h6⟩ := h
  refine ⟨h1, h2, fun i a => (h3 i a).1, fun i a b => ?_⟩
  obtain ⟨j, e1, e2, e3⟩ := h4 i a b
  have hj := h1.2.2.1 j (by have := h1.2.1; omega)
  rcases e3 with e3 | e3
  · rw [e3]; exact Ds_1 e2 hj
  · exact Ds_up e3 e2 hj
theorem LB_new {fb : Int} {f : Nat → Int} {s pl c0 c last b : Int} {g0 g : Nat → Int} (h : LB fb f s pl c0 g0 c g last) (hb : Bst fb f s pl last b) : ∀ i : Nat, (i : Int) < c → g i ≠ b := by
  intro i hi e
  obtain ⟨h1, h2, h3, h4, h5, h6⟩ := h
  obtain ⟨b1, b2, b3, b4, b5⟩ := hb
  have q := h5 i hi (by rw [e]; exact b4)
  rw [e] at q
  rcases b5 with b5 | b5
  · omega
  · rcases q.2 with z | z
    · rw [z] at b5; exact later_irr b5
    · exact later_irr (later_tr z b5)
theorem LB_pre {fb : Int} {f : Nat → Int} {s pl c0 c last b : Int} {g0 g : Nat → Int} (hM : Mm f) (h : LB fb f s pl c0 g0 c g last) (hb : Bst fb f s pl last b) : c < 200 ∧ PB fb f s b (c + 1) (ud g c.toNat b) := by
  have hn := LB_new h hb
  obtain ⟨h1, h2, h3, h4, h5, h6⟩ := h
  obtain ⟨b1, b2, b3, b4, b5⟩ := hb
  obtain ⟨o1, o2, o3, o4, o5⟩ := h1
  have hR := beh_Rkd hM fb s
  have hc : c < 200 := phpI (g := fun i => g i.toNat) (x := b) o1 (fun i a d => o3 i.toNat (by omega)) (fun i j a d e => o5 i.toNat j.toNat (by omega) (by omega)) ⟨b1, b2⟩ (fun i a d => hn i.toNat (by omega))
  have eg : ∀ i : Nat, (i : Int) < c → ud g c.toNat b i = g i := fun i a => ud_n (by omega)
  have ec : ud g c.toNat b c.toNat = b := ud_s
  refine ⟨hc, ⟨by omega, by omega, fun i a => ?_, fun i a => ?_, fun i j a d => ?_⟩, fun i a => ?_⟩
  · unfold ud; split
    · exact ⟨b1, b2⟩
    · exact o3 i a
  · by_cases e : (i : Int) < c
    · rw [eg i e]; exact o4 i e
    · have : i = c.toNat := by omega
      rw [this, ec]; exact b3.1
  · rw [eg i (by omega)]
    by_cases e : (j : Int) < c
    · rw [eg j e]; exact o5 i j a e
    · have : j = c.toNat := by omega
      rw [this, ec]; exact hn i (by omega)
  · by_cases e : (i : Int) < c
    · rw [eg i e]
      intro hd
      by_cases e0 : (i : Int) < c0
      · exact (h3 i e0).2 (Ds_up hd b4 ⟨b1, b2⟩)
      · obtain ⟨j, j1, j2, j3⟩ := h4 i (by omega) e
        have := Ds_br hR (c := g j) (d := b) (by rw [j2, b4]) (o3 j (by omega)) ⟨b1, b2⟩ (j3.elim Or.inr Or.inl) (Or.inl hd)
        exact hn j j1 this
    · have : i = c.toNat := by omega
      rw [this, ec]; exact Ds_irr hR b1
theorem LB_post {fb : Int} {f : Nat → Int} {s pl c0 c last b c' : Int} {g0 g g' : Nat → Int} (hM : Mm f) (h : LB fb f s pl c0 g0 c g last) (hb : Bst fb f s pl last b) (q : QB fb f s b (c + 1) (ud g c.toNat b) c' g') : c < c' ∧ LB fb f s pl c0 g0 c' g' b := by
  have hn := LB_new h hb
  obtain ⟨h1, h2, h3, h4, h5, h6⟩ := h
  obtain ⟨b1, b2, b3, b4, b5⟩ := hb
  obtain ⟨o1, o2, o3, o4, o5⟩ := h1
  obtain ⟨q1, q2, q3, q4⟩ := q
  have hR := beh_Rkd hM fb s
  have eg : ∀ i : Nat, (i : Int) < c → g' i = g i := fun i a => by rw [q3 i (by omega)]; exact ud_n (by omega)
  have ec : g' c.toNat = b := by rw [q3 c.toNat (by omega)]; exact ud_s
  refine ⟨by omega, q1, by omega, fun i a => ?_, fun i a d => ?_, fun i a d => ?_, by omega, by omega⟩
  · rw [eg i (by omega)]; exact h3 i a
  · by_cases e : (i : Int) < c
    · obtain ⟨j, j1, j2, j3⟩ := h4 i a e
      refine ⟨j, by omega, ?_, ?_⟩
      · rw [eg j j1]; exact j2
      · rw [eg j j1, eg i e]; exact j3
    · refine ⟨c.toNat, by omega, by rw [ec]; exact b4, ?_⟩
      rw [ec]
      by_cases e2 : i = c.toNat
      · rw [e2, ec]; exact Or.inl rfl
      · exact Or.inr (q4 i (by omega) d)
  · refine ⟨b1, ?_⟩
    by_cases e : (i : Int) < c
    · rw [eg i e] at d ⊢
      have z := h5 i e d
      rcases b5 with b5 | b5
      · omega
      · rcases z.2 with z2 | z2
        · rw [z2]; exact Or.inr b5
        · exact Or.inr (later_tr z2 b5)
    · by_cases e2 : i = c.toNat
      · rw [e2, ec]; exact Or.inl rfl
      · have hd := q4 i (by omega) a
        have hi := q1.2.2.1 i (by have := q1.2.1; omega)
        have := Ds_br hR (o := g' i) (c := g' i) (d := b) (by rw [d, b4]) hi ⟨b1, b2⟩ (Or.inr rfl) (Or.inl hd)
        rw [this] at hd
        exact absurd hd (Ds_irr hR b1)
/-! all that holds of the reference between calls -/
def Im (b : Int) (g : Nat → Int) : Prop := (b = 0 ∨ b = 1 ∨ b = 2 ∨ b = 3) ∧ ((b = 1 ∨ b = 3) → Mm g) ∧ ((b = 2 ∨ b = 3) → Mm (fun k => g (4504 + k)))
def Rg (g : Nat → Int) : Prop := ∀ i : Nat, i < 200 → 0 ≤ g i ∧ g i < 200
def MI (I A : FN) : Prop := Mm (A 301) ∧ (0 ≤ I 300 4 ∧ I 300 4 < 200) ∧ Rg (A 303) ∧ (0 ≤ I 300 7 ∧ I 300 7 ≤ 200) ∧ Rg (A 305) ∧ (0 ≤ I 300 9 ∧ I 300 9 ≤ 200) ∧ (0 ≤ I 300 13 ∧ I 300 13 ≤ 200) ∧ (0 ≤ I 300 17 ∧ I 300 17 ≤ 400) ∧ Im (I 300 3) (A 302)
theorem MI.mm {I A : FN} (h : MI I A) : Mm (A 301) := h.1
theorem MI.fb {I A : FN} (h : MI I A) : 0 ≤ I 300 4 ∧ I 300 4 < 200 := h.2.1
theorem MI.om {I A : FN} (h : MI I A) : 0 ≤ I 300 7 ∧ I 300 7 ≤ 200 := h.2.2.2.1
theorem MI.ls {I A : FN} (h : MI I A) : Rg (A 305) := h.2.2.2.2.1
theorem MI.lm {I A : FN} (h : MI I A) : 0 ≤ I 300 9 ∧ I 300 9 ≤ 200 := h.2.2.2.2.2.1
theorem MI.nm {I A : FN} (h : MI I A) : 0 ≤ I 300 13 ∧ I 300 13 ≤ 200 := h.2.2.2.2.2.2.1
theorem MI.tp {I A : FN} (h : MI I A) : 0 ≤ I 300 17 ∧ I 300 17 ≤ 400 := h.2.2.2.2.2.2.2.1
theorem MI_I {I A : FN} {j : Nat} {v : Int} (h4 : j ≠ 4) (h7 : j ≠ 7) (h9 : j ≠ 9) (h13 : j ≠ 13) (h17 : j ≠ 17) (h3 : j ≠ 3) : MI (up2 I 300 j v) A = MI I A := by
  simp only [MI, up2, true_and, Ne.symm h4, Ne.symm h7, Ne.symm h9, Ne.symm h13, Ne.symm h17, Ne.symm h3, if_false]
theorem MI_A {I A : FN} {r i : Nat} {v : Int} (h1 : 301 ≠ r) (h2 : 302 ≠ r) (h3 : 303 ≠ r) (h5 : 305 ≠ r) : MI I (up2 A r i v) = MI I A := by
  simp only [MI, up2_rn h1, up2_rn h2, up2_rn h3, up2_rn h5]
/-- the fields that stay -/
def Fm (I I' : FN) : Prop := I' 300 17 = I 300 17 ∧ I' 300 3 = I 300 3 ∧ I' 300 22 = I 300 22
theorem Fm_rfl {I : FN} : Fm I I := ⟨rfl, rfl, rfl⟩
theorem Fm_tr {I J K : FN} (h1 : Fm I J) (h2 : Fm J K) : Fm I K := ⟨h2.1.trans h1.1, h2.2.1.trans h1.2.1, h2.2.2.trans h1.2.2⟩
/-- only the order rows have changed -/
def FrO (I A I' A' : FN) : Prop := (∀ j, j ≠ 7 → I' 300 j = I 300 j) ∧ ∀ r, r ≠ 303 → r ≠ 304 → A' r = A r
theorem FrO_rfl {I A : FN} : FrO I A I A := ⟨fun _ _ => rfl, fun _ _ _ => rfl⟩
theorem FrO_tr {I A J B K C : FN} (h1 : FrO I A J B) (h2 : FrO J B K C) : FrO I A K C := ⟨fun j h => (h2.1 j h).trans (h1.1 j h), fun r h h' => (h2.2 r h h').trans (h1.2 r h h')⟩
theorem FrO_up {I A J B : FN} {i k : Nat} {v w x : Int} (h : FrO I A J B) : FrO I A (up2 J 300 7 v) (up2 (up2 B 303 i w) 304 k x) := by
  refine ⟨fun j hj => ?_, fun r h1 h2 => ?_⟩
  · rw [← h.1 j hj]; simp [up2, hj]
  · rw [up2_rn h2, up2_rn h1]; exact h.2 r h1 h2
theorem FrO_u7 {I A J B : FN} {v : Int} (h : FrO I A J B) : FrO I A (up2 J 300 7 v) B := by
  refine ⟨fun j hj => ?_, h.2⟩
  rw [← h.1 j hj]; simp [up2, hj]
