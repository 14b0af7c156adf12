/-! ===== the reference: what its numbers say ===== -/
def ud (f : Nat → Int) (i : Nat) (v : Int) : Nat → Int := fun j => if j = i then v else f j
theorem ud_s {f : Nat → Int} {i : Nat} {v : Int} : ud f i v i = v := by simp [ud]
theorem ud_n {f : Nat → Int} {i j : Nat} {v : Int} (h : j ≠ i) : ud f i v j = f j := by simp [ud, h]
theorem up2_ud {f : FN} {r i : Nat} {v : Int} : up2 f r i v r = ud (f r) i v := by
  funext j
  simp [up2, ud]
theorem up2_rn {f : FN} {r i : Nat} {v : Int} {a : Nat} (h : a ≠ r) : up2 f r i v a = f a := up2_ne h
def vG (f : Nat → Int) (s w : Int) : Int := f (2008 + 499 * s + w).toNat
def tG (f : Nat → Int) (o w : Int) : Int := f (8 + 10 * o + w).toNat
def mG (f : Nat → Int) (k : Int) : Int := f (2 + k).toNat
def needG (f : Nat → Int) (o b : Int) : Prop := o % 40 < tG f b (5 + o / 40)
def madeG (f : Nat → Int) (o : Int) : Prop := o % 40 < mG f (o / 40)
def doneG (fb : Int) (f : Nat → Int) (s o : Int) : Prop := (s = 6 ∧ needG f o fb) ∨ (s = 5 ∧ madeG f o) ∨ (s < 5 ∧ o % 40 < vG f s (o / 40))
def laterG (f : Nat → Int) (o p : Int) : Prop := tG f p 1 < tG f o 1 ∨ (tG f o 1 = tG f p 1 ∧ p / 40 < o / 40)
def sweptG (f : Nat → Int) (s o : Int) : Prop := s < 5 ∧ vG f s (294 + o) = 1
def placeG (fb : Int) (f : Nat → Int) (s o : Int) : Prop := doneG fb f s o ∧ tG f o 0 ≤ 1 ∧ ¬ sweptG f s o
def opG (f : Nat → Int) (n : Int) : Int := if 0 < n ∧ n / 100 < f 0 ∧ 1 ≤ n % 100 ∧ n % 100 ≤ mG f (n / 100) then 40 * (n / 100) + n % 100 - 1 else -1
noncomputable def behG (fb : Int) (f : Nat → Int) (s o : Int) : Int := @ite _ (0 ≤ opG f (tG f o 3) ∧ placeG fb f s (opG f (tG f o 3))) (Classical.propDecidable _) (opG f (tG f o 3)) (-1)
def okO (f : Nat → Int) (o : Int) : Prop := 0 ≤ o ∧ o < 200 ∧ madeG f o
def Acy (f : Nat → Int) : Prop := ∃ rk : Int → Nat, ∀ o : Int, 0 ≤ o → o < 200 → tG f o 3 ≤ 0 ∨ (0 ≤ opG f (tG f o 3) ∧ rk (opG f (tG f o 3)) < rk o)
def Mm1 (f : Nat → Int) : Prop := 2 ≤ f 0 ∧ f 0 ≤ 5
def Mm2 (f : Nat → Int) : Prop := ∀ k : Int, 0 ≤ k → k < 5 → 0 ≤ mG f k ∧ mG f k ≤ 40 ∧ (f 0 ≤ k → mG f k = 0)
def Mm3 (f : Nat → Int) : Prop := ∀ s k : Int, 0 ≤ s → s < 5 → 0 ≤ k → k < 5 → vG f s k ≤ mG f k
def Mm4 (f : Nat → Int) : Prop := ∀ s : Int, 0 ≤ s → s < 5 → 0 ≤ vG f s 7 ∧ vG f s 7 ≤ 60 ∧ ∀ i : Int, 0 ≤ i → i < vG f s 7 → okO f (vG f s (8 + i))
def Mm5 (f : Nat → Int) : Prop := ∀ s : Int, 0 ≤ s → s < 5 → 0 ≤ vG f s 68 ∧ vG f s 68 ≤ 200 ∧ (∀ i : Int, 0 ≤ i → i < vG f s 68 → okO f (vG f s (69 + i))) ∧ ∀ i j : Int, 0 ≤ i → i < j → j < vG f s 68 → vG f s (69 + i) ≠ vG f s (69 + j)
def Mm (f : Nat → Int) : Prop := Mm1 f ∧ Mm2 f ∧ Mm3 f ∧ Mm4 f ∧ Mm5 f ∧ Acy f
theorem Mm.m0 {f : Nat → Int} (h : Mm f) : 2 ≤ f 0 ∧ f 0 ≤ 5 := h.1
theorem Mm.made {f : Nat → Int} (h : Mm f) {k : Int} (h0 : 0 ≤ k) (h1 : k < 5) : 0 ≤ mG f k ∧ mG f k ≤ 40 ∧ (f 0 ≤ k → mG f k = 0) := h.2.1 k h0 h1
theorem Mm.vec {f : Nat → Int} (h : Mm f) {s k : Int} (h0 : 0 ≤ s) (h1 : s < 5) (h2 : 0 ≤ k) (h3 : k < 5) : vG f s k ≤ mG f k := h.2.2.1 s k h0 h1 h2 h3
theorem Mm.wait {f : Nat → Int} (h : Mm f) {s : Int} (h0 : 0 ≤ s) (h1 : s < 5) : 0 ≤ vG f s 7 ∧ vG f s 7 ≤ 60 := ⟨(h.2.2.2.1 s h0 h1).1, (h.2.2.2.1 s h0 h1).2.1⟩
theorem Mm.waitO {f : Nat → Int} (h : Mm f) {s i : Int} (h0 : 0 ≤ s) (h1 : s < 5) (h2 : 0 ≤ i) (h3 : i < vG f s 7) : okO f (vG f s (8 + i)) := (h.2.2.2.1 s h0 h1).2.2 i h2 h3
theorem Mm.held {f : Nat → Int} (h : Mm f) {s : Int} (h0 : 0 ≤ s) (h1 : s < 5) : 0 ≤ vG f s 68 ∧ vG f s 68 ≤ 200 := ⟨(h.2.2.2.2.1 s h0 h1).1, (h.2.2.2.2.1 s h0 h1).2.1⟩
theorem Mm.heldO {f : Nat → Int} (h : Mm f) {s i : Int} (h0 : 0 ≤ s) (h1 : s < 5) (h2 : 0 ≤ i) (h3 : i < vG f s 68) : okO f (vG f s (69 + i)) := (h.2.2.2.2.1 s h0 h1).2.2.1 i h2 h3
theorem opG_in {f : Nat → Int} (h : Mm f) (n : Int) : -1 ≤ opG f n ∧ opG f n < 200 := by
  have h0 := h.m0
  unfold opG
  split
  · next c =>
    have h1 := h.made (k := n / 100) (by omega) (by omega)
    omega
  · omega
/-! writes -/
theorem vG_v {f : Nat → Int} {s w s' w' v : Int} (h1 : 0 ≤ s) (h2 : s < 5) (h3 : 0 ≤ w) (h4 : w < 499) (h5 : 0 ≤ s') (h6 : s' < 5) (h7 : 0 ≤ w') (h8 : w' < 499) : vG (ud f (2008 + 499 * s + w).toNat v) s' w' = if s' = s ∧ w' = w then v else vG f s' w' := by
  unfold vG ud
  by_cases h : s' = s ∧ w' = w
  · rw [if_pos h, h.1, h.2, if_pos rfl]
  · rw [if_neg h, if_neg (by omega)]
theorem tG_v {f : Nat → Int} {s w o k v : Int} (h1 : 0 ≤ s) (h3 : 0 ≤ w) (h5 : o < 200) (h8 : k < 10) : tG (ud f (2008 + 499 * s + w).toNat v) o k = tG f o k := by
  unfold tG
  rw [ud_n (by omega)]
theorem mG_v {f : Nat → Int} {s w k v : Int} (h1 : 0 ≤ s) (h3 : 0 ≤ w) (h8 : k < 5) : mG (ud f (2008 + 499 * s + w).toNat v) k = mG f k := by
  unfold mG
  rw [ud_n (by omega)]
theorem f0_v {f : Nat → Int} {s w v : Int} (h1 : 0 ≤ s) (h3 : 0 ≤ w) : ud f (2008 + 499 * s + w).toNat v 0 = f 0 := ud_n (by omega)
theorem vG_t {f : Nat → Int} {s w o k v : Int} (h1 : 0 ≤ s) (h3 : 0 ≤ w) (h5 : o < 200) (h8 : k < 10) : vG (ud f (8 + 10 * o + k).toNat v) s w = vG f s w := by
  unfold vG
  rw [ud_n (by omega)]
theorem mG_t {f : Nat → Int} {j o k v : Int} (h3 : j < 5) (h5 : 0 ≤ o) (h8 : 0 ≤ k) : mG (ud f (8 + 10 * o + k).toNat v) j = mG f j := by
  unfold mG
  rw [ud_n (by omega)]
theorem f0_t {f : Nat → Int} {o k v : Int} (h5 : 0 ≤ o) (h8 : 0 ≤ k) : ud f (8 + 10 * o + k).toNat v 0 = f 0 := ud_n (by omega)
theorem tG_t {f : Nat → Int} {o k o' k' v : Int} (h1 : 0 ≤ o) (h2 : 0 ≤ k) (h3 : k < 10) (h4 : 0 ≤ o') (h5 : 0 ≤ k') (h6 : k' < 10) : tG (ud f (8 + 10 * o + k).toNat v) o' k' = if o' = o ∧ k' = k then v else tG f o' k' := by
  unfold tG ud
  by_cases h : o' = o ∧ k' = k
  · rw [if_pos h, h.1, h.2, if_pos rfl]
  · rw [if_neg h, if_neg (by omega)]
theorem vG_m {f : Nat → Int} {s w j v : Int} (h1 : 0 ≤ s) (h3 : 0 ≤ w) (h5 : j < 5) : vG (ud f (2 + j).toNat v) s w = vG f s w := by
  unfold vG
  rw [ud_n (by omega)]
theorem tG_m {f : Nat → Int} {o k j v : Int} (h1 : 0 ≤ o) (h3 : 0 ≤ k) (h5 : j < 5) : tG (ud f (2 + j).toNat v) o k = tG f o k := by
  unfold tG
  rw [ud_n (by omega)]
theorem mG_m {f : Nat → Int} {j j' v : Int} (h1 : 0 ≤ j) (h2 : 0 ≤ j') : mG (ud f (2 + j).toNat v) j' = if j' = j then v else mG f j' := by
  unfold mG ud
  by_cases h : j' = j
  · rw [if_pos h, h, if_pos rfl]
  · rw [if_neg h, if_neg (by omega)]
theorem f0_m {f : Nat → Int} {j v : Int} (h1 : 0 ≤ j) : ud f (2 + j).toNat v 0 = f 0 := ud_n (by omega)
theorem opG_cg {f g : Nat → Int} {n : Int} (h0 : g 0 = f 0) (h5 : f 0 ≤ 5) (hm : ∀ k : Int, 0 ≤ k → k < 5 → mG g k = mG f k) : opG g n = opG f n := by
  unfold opG
  rw [h0]
  by_cases h : 0 < n ∧ n / 100 < f 0
  · rw [hm (n / 100) (by omega) (by omega)]
  · rw [if_neg (by omega), if_neg (by omega)]
theorem okO_cg {f g : Nat → Int} {o : Int} (hm : ∀ k : Int, 0 ≤ k → k < 5 → mG g k = mG f k) (h : okO f o) : okO g o := by
  obtain ⟨h1, h2, h3⟩ := h
  refine ⟨h1, h2, ?_⟩
  unfold madeG at h3 ⊢
  rw [hm _ (by omega) (by omega)]
  exact h3
/-- what Mm looks at -/
theorem Mm_cg {f g : Nat → Int} (h : Mm f) (h0 : g 0 = f 0) (hm : ∀ k : Int, 0 ≤ k → k < 5 → mG g k = mG f k) (ht : ∀ o : Int, 0 ≤ o → o < 200 → tG g o 3 = tG f o 3)
    (hv : ∀ s w : Int, 0 ≤ s → s < 5 → 0 ≤ w → w < 269 → w ≠ 5 → w ≠ 6 → vG g s w = vG f s w) : Mm g := by
  obtain ⟨h1, h2, h3, h4, h5, rk, h6⟩ := h
  have hop : ∀ n, opG g n = opG f n := fun n => opG_cg h0 h1.2 hm
  refine ⟨?_, fun k a b => ?_, fun s k a b c d => ?_, fun s a b => ?_, fun s a b => ?_, rk, fun o a b => ?_⟩
  · unfold Mm1; rw [h0]; exact h1
  · rw [hm k a b, h0]; exact h2 k a b
  · rw [hm k c d, hv s k a b c (by omega) (by omega) (by omega)]; exact h3 s k a b c d
  · have q := h4 s a b
    rw [hv s 7 a b (by omega) (by omega) (by omega) (by omega)]
    refine ⟨q.1, q.2.1, fun i c d => ?_⟩
    rw [hv s (8 + i) a b (by omega) (by omega) (by omega) (by omega)]
    exact okO_cg hm (q.2.2 i c d)
  · have q := h5 s a b
    rw [hv s 68 a b (by omega) (by omega) (by omega) (by omega)]
    refine ⟨q.1, q.2.1, fun i c d => ?_, fun i j c d e => ?_⟩
    · rw [hv s (69 + i) a b (by omega) (by omega) (by omega) (by omega)]
      exact okO_cg hm (q.2.2.1 i c d)
    · rw [hv s (69 + i) a b (by omega) (by omega) (by omega) (by omega), hv s (69 + j) a b (by omega) (by omega) (by omega) (by omega)]
      exact q.2.2.2 i j c d e
  · rw [ht o a b, hop]; exact h6 o a b
theorem Mm_lost {f : Nat → Int} {v : Int} (h : Mm f) : Mm (ud f 1 v) :=
  Mm_cg h (ud_n (by omega)) (fun k a b => by unfold mG; rw [ud_n (by omega)]) (fun o a b => by unfold tG; rw [ud_n (by omega)]) (fun s w a b c d _ _ => by unfold vG; rw [ud_n (by omega)])
theorem Mm_free {f : Nat → Int} {s w v : Int} (h : Mm f) (h1 : 0 ≤ s) (h2 : s < 5) (h3 : (5 ≤ w ∧ w ≤ 6) ∨ (269 ≤ w ∧ w < 499)) : Mm (ud f (2008 + 499 * s + w).toNat v) :=
  Mm_cg h (f0_v h1 (by omega)) (fun k a b => mG_v h1 (by omega) b) (fun o a b => tG_v h1 (by omega) b (by omega)) (fun s' w' a b c d e g => by
    rw [vG_v h1 h2 (by omega) (by omega) a b c (by omega), if_neg (by omega)])
theorem Mm_told {f : Nat → Int} {o w v : Int} (h : Mm f) (h1 : 0 ≤ o) (h2 : o < 200) (h3 : 0 ≤ w) (h4 : w < 10) (h5 : w ≠ 3) : Mm (ud f (8 + 10 * o + w).toNat v) :=
  Mm_cg h (f0_t h1 h3) (fun k a b => mG_t b h1 h3) (fun o' a b => by rw [tG_t h1 h3 h4 a (by omega) (by omega), if_neg (by omega)]) (fun s' w' a b c d e g => vG_t a c h2 h4)
theorem Mm_vec {f : Nat → Int} {s k v : Int} (h : Mm f) (h1 : 0 ≤ s) (h2 : s < 5) (h3 : 0 ≤ k) (h4 : k < 5) (h5 : v ≤ mG f k) : Mm (ud f (2008 + 499 * s + k).toNat v) := by
  have e0 : ud f (2008 + 499 * s + k).toNat v 0 = f 0 := f0_v h1 h3
  have em : ∀ j : Int, 0 ≤ j → j < 5 → mG (ud f (2008 + 499 * s + k).toNat v) j = mG f j := fun j a b => mG_v h1 h3 b
  have ev : ∀ s' w' : Int, 0 ≤ s' → s' < 5 → 5 ≤ w' → w' < 499 → vG (ud f (2008 + 499 * s + k).toNat v) s' w' = vG f s' w' := fun s' w' a b c d => by
    rw [vG_v h1 h2 h3 (by omega) a b (by omega) d, if_neg (by omega)]
  obtain ⟨g1, g2, g3, g4, g5, rk, g6⟩ := h
  have hop : ∀ n, opG (ud f (2008 + 499 * s + k).toNat v) n = opG f n := fun n => opG_cg e0 g1.2 em
  refine ⟨?_, fun j a b => ?_, fun s' j a b c d => ?_, fun s' a b => ?_, fun s' a b => ?_, rk, fun o a b => ?_⟩
  · unfold Mm1; rw [e0]; exact g1
  · rw [em j a b, e0]; exact g2 j a b
  · rw [em j c d, vG_v h1 h2 h3 (by omega) a b c (by omega)]
    split
    · next e => rw [e.2]; exact h5
    · exact g3 s' j a b c d
  · have q := g4 s' a b
    rw [ev s' 7 a b (by omega) (by omega)]
    refine ⟨q.1, q.2.1, fun i c d => ?_⟩
    rw [ev s' (8 + i) a b (by omega) (by omega)]
    exact okO_cg em (q.2.2 i c d)
  · have q := g5 s' a b
    rw [ev s' 68 a b (by omega) (by omega)]
    refine ⟨q.1, q.2.1, fun i c d => ?_, fun i j c d e => ?_⟩
    · rw [ev s' (69 + i) a b (by omega) (by omega)]
      exact okO_cg em (q.2.2.1 i c d)
    · rw [ev s' (69 + i) a b (by omega) (by omega), ev s' (69 + j) a b (by omega) (by omega)]
      exact q.2.2.2 i j c d e
  · rw [tG_v h1 h3 b (by omega), hop]; exact g6 o a b
/-- one site's waiting or held row is another one, all else is as it was -/
theorem Mm_row {f g : Nat → Int} {s : Int} (h : Mm f) (h0 : g 0 = f 0) (hm : ∀ k : Int, 0 ≤ k → k < 5 → mG g k = mG f k) (ht : ∀ o : Int, 0 ≤ o → o < 200 → tG g o 3 = tG f o 3)
    (hv : ∀ s' w : Int, 0 ≤ s' → s' < 5 → 0 ≤ w → w < 269 → (s' ≠ s ∨ w < 5) → vG g s' w = vG f s' w) 
    (hw : 0 ≤ vG g s 7 ∧ vG g s 7 ≤ 60 ∧ ∀ i : Int, 0 ≤ i → i < vG g s 7 → okO f (vG g s (8 + i)))
    (hh : 0 ≤ vG g s 68 ∧ vG g s 68 ≤ 200 ∧ (∀ i : Int, 0 ≤ i → i < vG g s 68 → okO f (vG g s (69 + i))) ∧ ∀ i j : Int, 0 ≤ i → i < j → j < vG g s 68 → vG g s (69 + i) ≠ vG g s (69 + j)) : Mm g := by
  obtain ⟨h1, h2, h3, h4, h5, rk, h6⟩ := h
  have hop : ∀ n, opG g n = opG f n := fun n => opG_cg h0 h1.2 hm
  refine ⟨?_, fun k a b => ?_, fun s' k a b c d => ?_, fun s' a b => ?_, fun s' a b => ?_, rk, fun o a b => ?_⟩
  · unfold Mm1; rw [h0]; exact h1
  · rw [hm k a b, h0]; exact h2 k a b
  · rw [hm k c d, hv s' k a b c (by omega) (Or.inr d)]; exact h3 s' k a b c d
  · by_cases e : s' = s
    · subst e
      exact ⟨hw.1, hw.2.1, fun i c d => okO_cg hm (hw.2.2 i c d)⟩
    · have q := h4 s' a b
      rw [hv s' 7 a b (by omega) (by omega) (Or.inl e)]
      refine ⟨q.1, q.2.1, fun i c d => ?_⟩
      rw [hv s' (8 + i) a b (by omega) (by omega) (Or.inl e)]
      exact okO_cg hm (q.2.2 i c d)
  · by_cases e : s' = s
    · subst e
      exact ⟨hh.1, hh.2.1, fun i c d => okO_cg hm (hh.2.2.1 i c d), hh.2.2.2⟩
    · have q := h5 s' a b
      rw [hv s' 68 a b (by omega) (by omega) (Or.inl e)]
      refine ⟨q.1, q.2.1, fun i c d => ?_, fun i j c d e' => ?_⟩
      · rw [hv s' (69 + i) a b (by omega) (by omega) (Or.inl e)]
        exact okO_cg hm (q.2.2.1 i c d)
      · rw [hv s' (69 + i) a b (by omega) (by omega) (Or.inl e), hv s' (69 + j) a b (by omega) (by omega) (Or.inl e)]
        exact q.2.2.2 i j c d e'
  · rw [ht o a b, hop]; exact h6 o a b
theorem Mm_post {f : Nat → Int} {s o : Int} (h : Mm f) (h1 : 0 ≤ s) (h2 : s < 5) (h3 : vG f s 7 < 60) (h4 : okO f o) : Mm (ud (ud f (2008 + 499 * s + (8 + vG f s 7)).toNat o) (2008 + 499 * s + 7).toNat (vG f s 7 + 1)) := by
  have hw := h.wait h1 h2
  have ev : ∀ s' w' : Int, 0 ≤ s' → s' < 5 → 0 ≤ w' → w' < 499 → vG (ud (ud f (2008 + 499 * s + (8 + vG f s 7)).toNat o) (2008 + 499 * s + 7).toNat (vG f s 7 + 1)) s' w' = if s' = s ∧ w' = 7 then vG f s 7 + 1 else if s' = s ∧ w' = 8 + vG f s 7 then o else vG f s' w' := fun s' w' a b c d => by
    rw [vG_v h1 h2 (by omega) (by omega) a b c d, vG_v h1 h2 (by omega) (by omega) a b c d]
  refine Mm_row (s := s) h (by rw [f0_v h1 (by omega), f0_v h1 (by omega)]) (fun k a b => by rw [mG_v h1 (by omega) b, mG_v h1 (by omega) b]) (fun o' a b => by rw [tG_v h1 (by omega) b (by omega), tG_v h1 (by omega) b (by omega)]) (fun s' w a b c d e => ?_) ?_ ?_
  · rw [ev s' w a b c (by omega), if_neg (by omega), if_neg (by omega)]
  · rw [ev s 7 h1 h2 (by omega) (by omega), if_pos ⟨rfl, rfl⟩]
    refine ⟨by omega, by omega, fun i a b => ?_⟩
    rw [ev s (8 + i) h1 h2 (by omega) (by omega), if_neg (by omega)]
    by_cases e : i = vG f s 7
    · rw [if_pos ⟨rfl, by omega⟩]; exact h4
    · rw [if_neg (by omega)]; exact h.waitO h1 h2 a (by omega)
  · have q := h.2.2.2.2.1 s h1 h2
    rw [ev s 68 h1 h2 (by omega) (by omega), if_neg (by omega), if_neg (by omega)]
    refine ⟨q.1, q.2.1, fun i a b => ?_, fun i j a b c => ?_⟩
    · rw [ev s (69 + i) h1 h2 (by omega) (by omega), if_neg (by omega), if_neg (by omega)]
      exact q.2.2.1 i a b
    · rw [ev s (69 + i) h1 h2 (by omega) (by omega), if_neg (by omega), if_neg (by omega), ev s (69 + j) h1 h2 (by omega) (by omega), if_neg (by omega), if_neg (by omega)]
      exact q.2.2.2 i j a b c
/-- so many that are apart below m are at most m -/
theorem php : ∀ (m n : Nat) (g : Nat → Nat), (∀ i, i < n → g i < m) → (∀ i j, i < j → j < n → g i ≠ g j) → n ≤ m
  | 0, n, g, h1, _ => by
    cases n with
    | zero => omega
    | succ n => exact absurd (h1 0 (by omega)) (by omega)
  | m + 1, n, g, h1, h2 => by
    cases n with
    | zero => omega
    | succ n =>
      have h := php m n (fun i => if g i = m then g n else g i) (fun i hi => by
        have a := h1 i (by omega)
        have b := h1 n (by omega)
        have c := h2 i n hi (by omega)
        split <;> omega) (fun i j hij hj => by
        have a := h2 i j hij (by omega)
        have b := h2 i n (by omega) (by omega)
        have c := h2 j n hj (by omega)
        split <;> split <;> omega)
      omega
theorem phpI {n : Int} {g : Int → Int} {x : Int} (h0 : 0 ≤ n) (h1 : ∀ i, 0 ≤ i → i < n → 0 ≤ g i ∧ g i < 200) (h2 : ∀ i j, 0 ≤ i → i < j → j < n → g i ≠ g j) (hx : 0 ≤ x ∧ x < 200) (h3 : ∀ i, 0 ≤ i → i < n → g i ≠ x) : n < 200 := by
  have h := php 200 (n.toNat + 1) (fun i => if i = n.toNat then x.toNat else (g i).toNat) (fun i hi => by
    have a := h1 i (by omega)
    split
    · omega
    · have := a (by omega); omega) (fun i j hij hj => by
    have a := h1 i (by omega) (by omega)
    have b := h1 j (by omega)
    have c := h2 i j (by omega) (by omega)
    have d := h3 i (by omega) (by omega)
    rw [if_neg (by omega)]
    split
    · omega
    · have := b (by omega)
      have := c (by omega)
      omega)
  omega
theorem Mm_hold {f : Nat → Int} {s o : Int} (h : Mm f) (h1 : 0 ≤ s) (h2 : s < 5) (h4 : okO f o) (h5 : ∀ i, 0 ≤ i → i < vG f s 68 → vG f s (69 + i) ≠ o) :
    vG f s 68 < 200 ∧ Mm (ud (ud f (2008 + 499 * s + (69 + vG f s 68)).toNat o) (2008 + 499 * s + 68).toNat (vG f s 68 + 1)) := by
  have hw := h.held h1 h2
  have q5 := h.2.2.2.2.1 s h1 h2
  have h3 : vG f s 68 < 200 := phpI (g := fun i => vG f s (69 + i)) hw.1 (fun i a b => ⟨(q5.2.2.1 i a b).1, (q5.2.2.1 i a b).2.1⟩) q5.2.2.2 ⟨h4.1, h4.2.1⟩ h5
  refine ⟨h3, ?_⟩
  have ev : ∀ s' w' : Int, 0 ≤ s' → s' < 5 → 0 ≤ w' → w' < 499 → vG (ud (ud f (2008 + 499 * s + (69 + vG f s 68)).toNat o) (2008 + 499 * s + 68).toNat (vG f s 68 + 1)) s' w' = if s' = s ∧ w' = 68 then vG f s 68 + 1 else if s' = s ∧ w' = 69 + vG f s 68 then o else vG f s' w' := fun s' w' a b c d => by
    rw [vG_v h1 h2 (by omega) (by omega) a b c d, vG_v h1 h2 (by omega) (by omega) a b c d]
  refine Mm_row (s := s) h (by rw [f0_v h1 (by omega), f0_v h1 (by omega)]) (fun k a b => by rw [mG_v h1 (by omega) b, mG_v h1 (by omega) b]) (fun o' a b => by rw [tG_v h1 (by omega) b (by omega), tG_v h1 (by omega) b (by omega)]) (fun s' w a b c d e => ?_) ?_ ?_
  · rw [ev s' w a b c (by omega), if_neg (by omega), if_neg (by omega)]
  · have q := h.2.2.2.1 s h1 h2
    rw [ev s 7 h1 h2 (by omega) (by omega), if_neg (by omega), if_neg (by omega)]
    refine ⟨q.1, q.2.1, fun i a b => ?_⟩
    rw [ev s (8 + i) h1 h2 (by omega) (by omega), if_neg (by omega), if_neg (by omega)]
    exact q.2.2 i a b
  · rw [ev s 68 h1 h2 (by omega) (by omega), if_pos ⟨rfl, rfl⟩]
    refine ⟨by omega, by omega, fun i a b => ?_, fun i j a b c => ?_⟩
    · rw [ev s (69 + i) h1 h2 (by omega) (by omega), if_neg (by omega)]
      by_cases e : i = vG f s 68
      · rw [if_pos ⟨rfl, by omega⟩]; exact h4
      · rw [if_neg (by omega)]; exact q5.2.2.1 i a (by omega)
    · rw [ev s (69 + i) h1 h2 (by omega) (by omega), if_neg (by omega), if_neg (by omega), ev s (69 + j) h1 h2 (by omega) (by omega), if_neg (by omega)]
      by_cases e : j = vG f s 68
      · rw [if_pos ⟨rfl, by omega⟩]; exact h5 i a (by omega)
      · rw [if_neg (by omega)]; exact q5.2.2.2 i j a b (by omega)
/-- what takesOut leaves of a row -/
def Tk (f g : Nat → Int) (s row many i : Int) : Prop := g 0 = f 0 ∧ (∀ k : Int, 0 ≤ k → k < 5 → mG g k = mG f k) ∧ (∀ o k : Int, 0 ≤ o → o < 200 → 0 ≤ k → k < 10 → tG g o k = tG f o k) ∧
  (∀ s' w : Int, 0 ≤ s' → s' < 5 → 0 ≤ w → w < 499 → (s' ≠ s ∨ w < row + i ∨ row + vG f s many ≤ w + 1) → (s' ≠ s ∨ w ≠ many) → vG g s' w = vG f s' w) ∧
  vG g s many = vG f s many - 1 ∧ ∀ j : Int, i ≤ j → j + 1 < vG f s many → vG g s (row + j) = vG f s (row + j + 1)
theorem Mm_takeW {f g : Nat → Int} {s i : Int} (h : Mm f) (h1 : 0 ≤ s) (h2 : s < 5) (h3 : 0 ≤ i) (h4 : i < vG f s 7) (T : Tk f g s 8 7 i) : Mm g := by
  obtain ⟨t0, tm, tt, tv, tn, tj⟩ := T
  have hw := h.wait h1 h2
  refine Mm_row (s := s) h t0 tm (fun o a b => tt o 3 a b (by omega) (by omega)) (fun s' w a b c d e => tv s' w a b c (by omega) (by omega) (by omega)) ?_ ?_
  · rw [tn]
    refine ⟨by omega, by omega, fun j a b => ?_⟩
    by_cases e : j < i
    · rw [tv s (8 + j) h1 h2 (by omega) (by omega) (by omega) (by omega)]; exact h.waitO h1 h2 a (by omega)
    · rw [tj j (by omega) (by omega), show 8 + j + 1 = 8 + (j + 1) by omega]; exact h.waitO h1 h2 (by omega) (by omega)
  · have q := h.2.2.2.2.1 s h1 h2
    rw [tv s 68 h1 h2 (by omega) (by omega) (by omega) (by omega)]
    refine ⟨q.1, q.2.1, fun j a b => ?_, fun j k a b c => ?_⟩
    · rw [tv s (69 + j) h1 h2 (by omega) (by omega) (by omega) (by omega)]; exact q.2.2.1 j a b
    · rw [tv s (69 + j) h1 h2 (by omega) (by omega) (by omega) (by omega), tv s (69 + k) h1 h2 (by omega) (by omega) (by omega) (by omega)]; exact q.2.2.2 j k a b c
theorem Mm_takeH {f g : Nat → Int} {s i : Int} (h : Mm f) (h1 : 0 ≤ s) (h2 : s < 5) (h3 : 0 ≤ i) (h4 : i < vG f s 68) (T : Tk f g s 69 68 i) : Mm g := by
  obtain ⟨t0, tm, tt, tv, tn, tj⟩ := T
  have hw := h.held h1 h2
  refine Mm_row (s := s) h t0 tm (fun o a b => tt o 3 a b (by omega) (by omega)) (fun s' w a b c d e => tv s' w a b c (by omega) (by omega) (by omega)) ?_ ?_
  · have q := h.2.2.2.1 s h1 h2
    rw [tv s 7 h1 h2 (by omega) (by omega) (by omega) (by omega)]
    refine ⟨q.1, q.2.1, fun j a b => ?_⟩
    rw [tv s (8 + j) h1 h2 (by omega) (by omega) (by omega) (by omega)]; exact q.2.2 j a b
  · have q := h.2.2.2.2.1 s h1 h2
    have e1 : ∀ j : Int, 0 ≤ j → j < vG f s 68 - 1 → vG g s (69 + j) = if j < i then vG f s (69 + j) else vG f s (69 + (j + 1)) := fun j a b => by
      split
      · exact tv s (69 + j) h1 h2 (by omega) (by omega) (by omega) (by omega)
      · rw [tj j (by omega) (by omega), show 69 + j + 1 = 69 + (j + 1) by omega]
    rw [tn]
    refine ⟨by omega, by omega, fun j a b => ?_, fun j k a b c => ?_⟩
    · rw [e1 j a b]
      split
      · exact q.2.2.1 j a (by omega)
      · exact q.2.2.1 (j + 1) (by omega) (by omega)
    · rw [e1 j a (by omega), e1 k (by omega) c]
      split <;> split
      · exact q.2.2.2 j k a b (by omega)
      · exact q.2.2.2 j (k + 1) a (by omega) (by omega)
      · omega
      · exact q.2.2.2 (j + 1) (k + 1) (by omega) (by omega) (by omega)
