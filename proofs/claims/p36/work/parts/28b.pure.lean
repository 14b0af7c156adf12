/-! the tape and the images of the reference -/
theorem MI_17 {I A : FN} {v : Int} (h : MI I A) (h0 : 0 ≤ v) (h1 : v ≤ 400) : MI (up2 I 300 17 v) A := by
  obtain ⟨a1, a2, a3, a4, a5, a6, a7, a8, a9⟩ := h
  refine ⟨a1, ?_, a3, ?_, a5, ?_, ?_, ?_, ?_⟩
  · rw [up2_ud, ud_n (by omega)]; exact a2
  · rw [up2_ud, ud_n (by omega)]; exact a4
  · rw [up2_ud, ud_n (by omega)]; exact a6
  · rw [up2_ud, ud_n (by omega)]; exact a7
  · rw [up2_ud, ud_s]; exact ⟨h0, h1⟩
  · rw [up2_ud, ud_n (by omega)]; exact a9
theorem MI_30 {I A : FN} {v : Int} {A' : FN} (h : MI I A) (hf : F1 A A') (hm : Mm (A' 301)) (hv : Im v (A 302)) : MI (up2 I 300 3 v) A' := by
  obtain ⟨a1, a2, a3, a4, a5, a6, a7, a8, a9⟩ := MI_301 h hm hf
  refine ⟨a1, ?_, a3, ?_, a5, ?_, ?_, ?_, ?_⟩
  · rw [up2_ud, ud_n (by omega)]; exact a2
  · rw [up2_ud, ud_n (by omega)]; exact a4
  · rw [up2_ud, ud_n (by omega)]; exact a6
  · rw [up2_ud, ud_n (by omega)]; exact a7
  · rw [up2_ud, ud_n (by omega)]; exact a8
  · rw [up2_ud, ud_s, hf 302 (by omega)]; exact hv
theorem Im_0 {g : Nat → Int} : Im 0 g := ⟨Or.inl rfl, fun h => absurd h (by omega), fun h => absurd h (by omega)⟩
def orB (b i : Int) : Int := if i = 0 then (if b = 0 ∨ b = 2 then b + 1 else b) else (if b < 2 then b + 2 else b)
def bitB (b i : Int) : Prop := (i = 0 ∧ (b = 1 ∨ b = 3)) ∨ (i = 1 ∧ (b = 2 ∨ b = 3))
theorem or_bit {b i y z : Int} (hb : b = 0 ∨ b = 1 ∨ b = 2 ∨ b = 3) (h0 : 0 ≤ i) (h1 : i ≤ 1) (hy : y = iShl 1 i) (hz : z = iOr b y) : z = orB b i := by
  have hi : i = 0 ∨ i = 1 := by omega
  subst hy
  subst hz
  rcases hb with rfl | rfl | rfl | rfl <;> rcases hi with rfl | rfl <;> rfl
theorem and_bit {b i y z : Int} (hb : b = 0 ∨ b = 1 ∨ b = 2 ∨ b = 3) (h0 : 0 ≤ i) (h1 : i ≤ 1) (hy : y = iShr b i) (hz : z = iAnd y 1) : z = bI (bitB b i) := by
  have hi : i = 0 ∨ i = 1 := by omega
  subst hy
  subst hz
  have d : ∀ b i : Int, bitB b i → bI (bitB b i) = 1 := fun b i h => bI_t h
  have e : ∀ b i : Int, ¬ bitB b i → bI (bitB b i) = 0 := fun b i h => bI_f h
  rcases hb with rfl | rfl | rfl | rfl <;> rcases hi with rfl | rfl
  · rw [e _ _ (by unfold bitB; omega)]; rfl
  · rw [e _ _ (by unfold bitB; omega)]; rfl
  · rw [d _ _ (by unfold bitB; omega)]; rfl
  · rw [e _ _ (by unfold bitB; omega)]; rfl
  · rw [e _ _ (by unfold bitB; omega)]; rfl
  · rw [d _ _ (by unfold bitB; omega)]; rfl
  · rw [d _ _ (by unfold bitB; omega)]; rfl
  · rw [d _ _ (by unfold bitB; omega)]; rfl
/-- so far of the row m is in the image -/
def Cpy (f g g0 : Nat → Int) (i k : Int) : Prop := (∀ j : Nat, (j : Int) < k → g (4504 * i + j).toNat = f j) ∧ ∀ j : Nat, ((j : Int) < 4504 * i ∨ 4504 * i + 4504 ≤ j) → g j = g0 j
theorem Cpy_0 {f g : Nat → Int} {i : Int} : Cpy f g g i 0 := ⟨fun j h => absurd h (by omega), fun _ _ => rfl⟩
theorem Cpy_s {f g g0 : Nat → Int} {i k : Int} (h : Cpy f g g0 i k) (h0 : 0 ≤ i) (h1 : 0 ≤ k) (h2 : k < 4504) : Cpy f (ud g (4504 * i + k).toNat (f k.toNat)) g0 i (k + 1) := by
  refine ⟨fun j hj => ?_, fun j hj => ?_⟩
  · by_cases e : (j : Int) = k
    · rw [e, ud_s]; congr 1; omega
    · rw [ud_n (by omega)]; exact h.1 j (by omega)
  · rw [ud_n (by omega)]; exact h.2 j hj
theorem Im_u {f g g0 : Nat → Int} {b i k : Int} (hf : Mm f) (h : Im b g0) (c : Cpy f g g0 i k) (h0 : 0 ≤ i) (h1 : i ≤ 1) (hk : 4504 ≤ k) : Im (orB b i) g := by
  obtain ⟨hb, hi0, hi1⟩ := h
  have hi : i = 0 ∨ i = 1 := by omega
  rcases hi with rfl | rfl
  · have m0 : Mm g := Mm_ext hf (fun j hj => by have := c.1 j (by omega); rw [show (4504 * 0 + (j : Int)).toNat = j by omega] at this; exact this)
    have m1 : (b = 2 ∨ b = 3) → Mm (fun k => g (4504 + k)) := fun hb => Mm_ext (hi1 hb) (fun j hj => c.2 (4504 + j) (by omega))
    unfold orB Im
    rw [if_pos rfl]
    split
    · exact ⟨by omega, fun _ => m0, fun e => m1 (by omega)⟩
    · exact ⟨by omega, fun _ => m0, fun e => m1 (by omega)⟩
  · have m1 : Mm (fun k => g (4504 + k)) := Mm_ext hf (fun j hj => by have := c.1 j (by omega); rw [show (4504 * 1 + (j : Int)).toNat = 4504 + j by omega] at this; exact this)
    have m0 : (b = 1 ∨ b = 3) → Mm g := fun hb => Mm_ext (hi0 hb) (fun j hj => c.2 j (by omega))
    unfold orB Im
    rw [if_neg (by omega)]
    split
    · exact ⟨by omega, fun e => m0 (by omega), fun _ => m1⟩
    · exact ⟨by omega, fun e => m0 (by omega), fun _ => m1⟩
theorem Im_b {b i : Int} {g f : Nat → Int} (h : Im b g) (hb : bitB b i) (hf : ∀ j : Nat, j < 4504 → f j = g (4504 * i + j).toNat) : Mm f := by
  rcases hb with ⟨rfl, e⟩ | ⟨rfl, e⟩
  · exact Mm_ext (h.2.1 e) (fun j hj => by rw [hf j hj]; congr 1; omega)
  · exact Mm_ext (h.2.2 e) (fun j hj => by rw [hf j hj, show (4504 * 1 + (j : Int)).toNat = 4504 + j by omega])
def F2 (A B : FN) : Prop := ∀ r, r ≠ 302 → B r = A r
theorem F2_0 {A : FN} : F2 A A := fun _ _ => rfl
theorem F2_u {A B : FN} {i : Nat} {v : Int} (h : F2 A B) : F2 A (up2 B 302 i v) := fun r hr => by rw [up2_rn hr]; exact h r hr
theorem MI_img {I A : FN} {v : Int} {B : FN} (h : MI I A) (hf : F2 A B) (hv : Im v (B 302)) : MI (up2 I 300 3 v) B := by
  obtain ⟨a1, a2, a3, a4, a5, a6, a7, a8, a9⟩ := h
  refine ⟨?_, ?_, ?_, ?_, ?_, ?_, ?_, ?_, ?_⟩
  · rw [hf 301 (by omega)]; exact a1
  · rw [up2_ud, ud_n (by omega)]; exact a2
  · rw [hf 303 (by omega)]; exact a3
  · rw [up2_ud, ud_n (by omega)]; exact a4
  · rw [hf 305 (by omega)]; exact a5
  · rw [up2_ud, ud_n (by omega)]; exact a6
  · rw [up2_ud, ud_n (by omega)]; exact a7
  · rw [up2_ud, ud_n (by omega)]; exact a8
  · rw [up2_ud, ud_s]; exact hv
def Zr (g : Nat → Int) (k : Int) : Prop := ∀ i : Nat, (i : Int) < k → g i = 0
theorem Zr_0 {g : Nat → Int} : Zr g 0 := fun i h => absurd h (by omega)
theorem Zr_s {g : Nat → Int} {k : Int} (h : Zr g k) (h0 : 0 ≤ k) : Zr (ud g k.toNat 0) (k + 1) := fun i hi => by
  unfold ud
  split
  · rfl
  · exact h i (by omega)
theorem Zr_m {g : Nat → Int} {n k : Int} (h : Zr g k) (hk : 4504 ≤ k) (h0 : 2 ≤ n) (h1 : n ≤ 5) : Mm (ud g 0 n) := Mm_0 (by rw [ud_s]; exact ⟨h0, h1⟩) (fun i a b => by rw [ud_n (by omega)]; exact h i (by omega))
def smal (g : Nat → Int) (sz k : Int) : Prop := k < sz ∧ 97 ≤ g k.toNat ∧ g k.toNat ≤ 122
def alW : AT := fun _ _ _ => (1, 7)
theorem alW_e {as : List AV} {I A : FN} : alW as I A = (1, 7) := rfl
def alWH : AT := fun _ _ _ => (11, 77)
theorem alWH_e {as : List AV} {I A : FN} : alWH as I A = (11, 77) := rfl
def FrR (A B : FN) (r0 : Nat) : Prop := ∀ r, r ≠ r0 → B r = A r
theorem FrR_n {A : FN} {r0 : Nat} : FrR A (Anew A r0) r0 := fun r h => by unfold Anew; rw [if_neg h]
theorem FrR_u {A B : FN} {r0 i : Nat} {v : Int} (h : FrR A B r0) : FrR A (up2 B r0 i v) r0 := fun r hr => by rw [up2_rn hr]; exact h r hr
theorem Aold_eq {A B : FN} {r0 : Nat} (h : FrR A B r0) : Aold A B r0 = A := by
  funext r
  unfold Aold
  split
  · rfl
  · next e => exact h r e
theorem Anew_n {A : FN} {r0 r : Nat} (h : r ≠ r0) : Anew A r0 r = A r := by unfold Anew; rw [if_neg h]
theorem MI_sites {I A J B : FN} (h : MI I A) (hm : Mm (B 301)) (hf : F1 A B) (h3 : J 300 3 = 0) (hj : ∀ j : Nat, ¬ j = 3 → J 300 j = ud (I 300) 0 0 j) : MI J B := by
  have e : ∀ j : Nat, j ≠ 3 → j ≠ 0 → J 300 j = I 300 j := fun j a b => by rw [hj j a]; exact ud_n b
  obtain ⟨a1, a2, a3, a4, a5, a6, a7, a8, a9⟩ := MI_301 h hm hf
  refine ⟨a1, ?_, a3, ?_, a5, ?_, ?_, ?_, ?_⟩
  · rw [e 4 (by omega) (by omega)]; exact a2
  · rw [e 7 (by omega) (by omega)]; exact a4
  · rw [e 9 (by omega) (by omega)]; exact a6
  · rw [e 13 (by omega) (by omega)]; exact a7
  · rw [e 17 (by omega) (by omega)]; exact a8
  · rw [h3]; exact Im_0
theorem bk_s {f g : Nat → Int} {i k : Int} (h : ∀ j : Nat, (j : Int) < k → f j = g (4504 * i + j).toNat) (h0 : 0 ≤ k) : ∀ j : Nat, (j : Int) < k + 1 → ud f k.toNat (g (4504 * i + k).toNat) j = g (4504 * i + j).toNat := fun j hj => by
  by_cases e : (j : Int) = k
  · rw [show k.toNat = j by omega, ud_s, e]
  · rw [ud_n (by omega)]; exact h j (by omega)
theorem bit_t {b i y z : Int} (hb : b = 0 ∨ b = 1 ∨ b = 2 ∨ b = 3) (h0 : 0 ≤ i) (h1 : i ≤ 1) (hz : z = iAnd y 1) (hy : y = iShr b i) (hn : ¬ z = 0) : bitB b i := by
  rw [and_bit hb h0 h1 hy hz, bI_e0] at hn
  exact Classical.not_not.mp hn
theorem bit_f {b i y z : Int} (hb : b = 0 ∨ b = 1 ∨ b = 2 ∨ b = 3) (h0 : 0 ≤ i) (h1 : i ≤ 1) (hz : z = iAnd y 1) (hy : y = iShr b i) (hn : z = 0) : ¬ ((0 ≤ i ∧ i ≤ 1) ∧ bitB b i) := by
  rw [and_bit hb h0 h1 hy hz, bI_e0] at hn
  exact fun h => hn h.2
