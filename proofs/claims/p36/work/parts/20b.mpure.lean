/-! making an op -/
def NoKid (f : Nat → Int) (o : Int) : Prop := ∀ p : Int, 0 ≤ p → p < 200 → 0 < tG f p 3 → opG f (tG f p 3) ≠ o
def bOk (f : Nat → Int) (o b : Int) : Prop := b ≤ 0 ∨ (0 ≤ opG f b ∧ opG f b ≠ o)
def MK (f : Nat → Int) (o b : Int) : Prop := Mm f ∧ NoKid f o ∧ bOk f o b
/-- a name of an op that is made -/
def nmOk (f : Nat → Int) (b : Int) : Prop := b ≤ 0 ∨ 0 ≤ opG f b
theorem MK_cg {f g : Nat → Int} {o b : Int} (h : MK f o b) (hM : Mm g) (h0 : g 0 = f 0) (hm : ∀ k : Int, 0 ≤ k → k < 5 → mG g k = mG f k) (ht : ∀ p : Int, 0 ≤ p → p < 200 → tG g p 3 = tG f p 3) : MK g o b := by
  have hop : ∀ n, opG g n = opG f n := fun n => opG_cg h0 h.1.1.2 hm
  refine ⟨hM, fun p a b c => ?_, ?_⟩
  · rw [ht p a b] at c
    rw [ht p a b, hop]
    exact h.2.1 p a b c
  · have q := h.2.2
    unfold bOk at q ⊢
    rw [hop]
    exact q
theorem opG_m {f : Nat → Int} {s n : Int} (h : Mm f) (h1 : 0 ≤ s) (hs0 : 0 ≤ mG f s) (hs1 : mG f s < 40) (hb : 0 ≤ opG f n) : opG (ud f (2 + s).toNat (mG f s + 1)) n = opG f n ∧ opG f n ≠ 40 * s + mG f s := by
  have hm0 := h.m0
  unfold opG at hb ⊢
  rw [f0_m h1]
  split at hb
  · next c =>
    have h3 := h.made (k := n / 100) (by omega) (by omega)
    rw [mG_m h1 (by omega)]
    by_cases e : n / 100 = s
    · rw [if_pos e, if_pos (by rw [e] at c ⊢; omega), if_pos c]
      refine ⟨rfl, ?_⟩
      rw [e] at c ⊢
      omega
    · rw [if_neg e]
      rw [if_pos c]
      exact ⟨rfl, by omega⟩
  · omega
theorem MK_1 {f : Nat → Int} {s b : Int} (h : Mm f) (h1 : 0 ≤ s) (h2 : s < f 0) (h3 : mG f s < 40) (hb : nmOk f b) : MK (ud f (2 + s).toNat (mG f s + 1)) (40 * s + mG f s) b := by
  have hm0 := h.m0
  have hms := h.made h1 (by omega)
  have em : ∀ j : Int, 0 ≤ j → mG (ud f (2 + s).toNat (mG f s + 1)) j = if j = s then mG f s + 1 else mG f j := fun j a => mG_m h1 a
  have ev : ∀ s' w : Int, 0 ≤ s' → 0 ≤ w → vG (ud f (2 + s).toNat (mG f s + 1)) s' w = vG f s' w := fun s' w a c => vG_m a c (by omega)
  have et : ∀ o k : Int, 0 ≤ o → 0 ≤ k → tG (ud f (2 + s).toNat (mG f s + 1)) o k = tG f o k := fun o k a c => tG_m a c (by omega)
  have e0 : ud f (2 + s).toNat (mG f s + 1) 0 = f 0 := f0_m h1
  have ok : ∀ o, okO f o → okO (ud f (2 + s).toNat (mG f s + 1)) o := fun o q => by
    obtain ⟨q1, q2, q3⟩ := q
    refine ⟨q1, q2, ?_⟩
    unfold madeG at q3 ⊢
    rw [em _ (by omega)]
    split
    · next e => rw [e] at q3; omega
    · exact q3
  obtain ⟨rk, hrk⟩ := h.2.2.2.2.2
  refine ⟨⟨?_, fun k a c => ?_, fun s' k a c d e => ?_, fun s' a c => ?_, fun s' a c => ?_, rk, fun o a c => ?_⟩, fun p a c d => ?_, ?_⟩
  · unfold Mm1; rw [e0]; exact hm0
  · rw [em k a, e0]
    have q := h.made a c
    split
    · next e => subst e; omega
    · exact q
  · rw [em k d, ev s' k a d]
    have q := h.vec a c d e
    split
    · next e' => subst e'; omega
    · exact q
  · have q := h.2.2.2.1 s' a c
    rw [ev s' 7 a (by omega)]
    refine ⟨q.1, q.2.1, fun i d e => ?_⟩
    rw [ev s' (8 + i) a (by omega)]
    exact ok _ (q.2.2 i d e)
  · have q := h.2.2.2.2.1 s' a c
    rw [ev s' 68 a (by omega)]
    refine ⟨q.1, q.2.1, fun i d e => ?_, fun i j d e g => ?_⟩
    · rw [ev s' (69 + i) a (by omega)]
      exact ok _ (q.2.2.1 i d e)
    · rw [ev s' (69 + i) a (by omega), ev s' (69 + j) a (by omega)]
      exact q.2.2.2 i j d e g
  · rw [et o 3 a (by omega)]
    rcases hrk o a c with q | ⟨q1, q2⟩
    · exact Or.inl q
    · rw [(opG_m h h1 hms.1 h3 q1).1]; exact Or.inr ⟨q1, q2⟩
  · rw [et p 3 a (by omega)] at d ⊢
    rcases hrk p a c with q | ⟨q1, q2⟩
    · omega
    · rw [(opG_m h h1 hms.1 h3 q1).1]; exact (opG_m h h1 hms.1 h3 q1).2
  · rcases hb with q | q
    · exact Or.inl q
    · exact Or.inr (by rw [(opG_m h h1 hms.1 h3 q).1]; exact ⟨q, (opG_m h h1 hms.1 h3 q).2⟩)
theorem MK_free {f : Nat → Int} {s w v o b : Int} (h : MK f o b) (h1 : 0 ≤ s) (h2 : s < 5) (h3 : (5 ≤ w ∧ w ≤ 6) ∨ (269 ≤ w ∧ w < 499)) : MK (ud f (2008 + 499 * s + w).toNat v) o b :=
  MK_cg h (Mm_free h.1 h1 h2 h3) (f0_v h1 (by omega)) (fun k a c => mG_v h1 (by omega) c) (fun p a c => tG_v h1 (by omega) c (by omega))
theorem MK_told {f : Nat → Int} {o w v b p : Int} (h : MK f p b) (h1 : 0 ≤ o) (h2 : o < 200) (h3 : 0 ≤ w) (h4 : w < 10) (h5 : w ≠ 3) : MK (ud f (8 + 10 * o + w).toNat v) p b :=
  MK_cg h (Mm_told h.1 h1 h2 h3 h4 h5) (f0_t h1 h3) (fun k a c => mG_t c h1 h3) (fun q a c => by rw [tG_t h1 h3 h4 a (by omega) (by omega), if_neg (by omega)])
theorem MK_beh {f : Nat → Int} {o b : Int} (h : MK f o b) (h1 : 0 ≤ o) (h2 : o < 200) : Mm (ud f (8 + 10 * o + 3).toNat b) := by
  obtain ⟨hM, hN, hB⟩ := h
  have e0 : ud f (8 + 10 * o + 3).toNat b 0 = f 0 := f0_t h1 (by omega)
  have em : ∀ j : Int, 0 ≤ j → j < 5 → mG (ud f (8 + 10 * o + 3).toNat b) j = mG f j := fun j a c => mG_t c h1 (by omega)
  have ev : ∀ s' w : Int, 0 ≤ s' → 0 ≤ w → vG (ud f (8 + 10 * o + 3).toNat b) s' w = vG f s' w := fun s' w a c => vG_t a c h2 (by omega)
  have et : ∀ p : Int, 0 ≤ p → tG (ud f (8 + 10 * o + 3).toNat b) p 3 = if p = o then b else tG f p 3 := fun p a => by
    rw [tG_t h1 (by omega) (by omega) a (by omega) (by omega)]
    by_cases e : p = o
    · rw [if_pos ⟨e, rfl⟩, if_pos e]
    · rw [if_neg (by omega), if_neg e]
  have hop : ∀ n, opG (ud f (8 + 10 * o + 3).toNat b) n = opG f n := fun n => opG_cg e0 hM.1.2 em
  obtain ⟨g1, g2, g3, g4, g5, rk, g6⟩ := hM
  refine ⟨?_, fun k a c => ?_, fun s k a c d e => ?_, fun s a c => ?_, fun s a c => ?_, fun x => if x = o then rk (opG f b) + 1 else rk x, fun p a c => ?_⟩
  · unfold Mm1; rw [e0]; exact g1
  · rw [em k a c, e0]; exact g2 k a c
  · rw [em k d e, ev s k a d]; exact g3 s k a c d e
  · have q := g4 s a c
    rw [ev s 7 a (by omega)]
    refine ⟨q.1, q.2.1, fun i d e => ?_⟩
    rw [ev s (8 + i) a (by omega)]
    exact okO_cg em (q.2.2 i d e)
  · have q := g5 s a c
    rw [ev s 68 a (by omega)]
    refine ⟨q.1, q.2.1, fun i d e => ?_, fun i j d e g => ?_⟩
    · rw [ev s (69 + i) a (by omega)]
      exact okO_cg em (q.2.2.1 i d e)
    · rw [ev s (69 + i) a (by omega), ev s (69 + j) a (by omega)]
      exact q.2.2.2 i j d e g
  · rw [et p a, hop]
    by_cases e : p = o
    · dsimp only
      rw [if_pos e, if_pos e]
      rcases hB with q | ⟨q1, q2⟩
      · exact Or.inl q
      · exact Or.inr ⟨q1, by rw [if_neg q2]; omega⟩
    · dsimp only
      rw [if_neg e, if_neg e]
      rcases g6 p a c with q | ⟨q1, q2⟩
      · exact Or.inl q
      · by_cases h0 : tG f p 3 ≤ 0
        · exact Or.inl h0
        · exact Or.inr ⟨q1, by rw [if_neg (hN p a c (by omega))]; exact q2⟩
/-! a row copied; a row at first -/
theorem Mm_ext {f g : Nat → Int} (h : Mm f) (he : ∀ k, k < 4504 → g k = f k) : Mm g :=
  Mm_cg h (he 0 (by omega)) (fun k a b => he _ (by omega)) (fun o a b => he _ (by omega)) (fun s w a b c d _ _ => he _ (by omega))
theorem Mm_0 {f : Nat → Int} (h0 : 2 ≤ f 0 ∧ f 0 ≤ 5) (h : ∀ k, 0 < k → k < 4504 → f k = 0) : Mm f := by
  have em : ∀ j : Int, 0 ≤ j → j < 5 → mG f j = 0 := fun j a b => h _ (by omega) (by omega)
  have ev : ∀ s w : Int, 0 ≤ s → s < 5 → 0 ≤ w → w < 499 → vG f s w = 0 := fun s w a b c d => h _ (by omega) (by omega)
  have et : ∀ o : Int, 0 ≤ o → o < 200 → tG f o 3 = 0 := fun o a b => h _ (by omega) (by omega)
  refine ⟨h0, fun k a b => ?_, fun s k a b c d => ?_, fun s a b => ?_, fun s a b => ?_, fun _ => 0, fun o a b => Or.inl ?_⟩
  · rw [em k a b]; omega
  · rw [em k c d, ev s k a b c (by omega)]; omega
  · rw [ev s 7 a b (by omega) (by omega)]; exact ⟨by omega, by omega, fun i c d => by omega⟩
  · rw [ev s 68 a b (by omega) (by omega)]; exact ⟨by omega, by omega, fun i c d => by omega, fun i j c d e => by omega⟩
  · rw [et o a b]; omega
/-! names -/
theorem op_nm {f : Nat → Int} {o : Int} (h : Mm f) (ho : okO f o) : opG f (100 * (o / 40) + o % 40 + 1) = o := by
  obtain ⟨h1, h2, h3⟩ := ho
  have hm0 := h.m0
  have hm := h.made (k := o / 40) (by omega) (by omega)
  unfold madeG at h3
  have e1 : (100 * (o / 40) + o % 40 + 1) / 100 = o / 40 := by omega
  have e2 : (100 * (o / 40) + o % 40 + 1) % 100 = o % 40 + 1 := by omega
  unfold opG
  rw [e1, e2, if_pos ⟨by omega, by omega, by omega, by omega⟩]
  omega
theorem done_ok {f : Nat → Int} {fb s o : Int} (h : Mm f) (h0 : 0 ≤ s) (h1 : s < 5) (h2 : 0 ≤ o) (h3 : o < 200) (hd : doneG fb f s o) : okO f o := by
  have hv := h.vec h0 h1 (show 0 ≤ o / 40 by omega) (by omega)
  rcases hd with ⟨e, -⟩ | ⟨e, -⟩ | ⟨-, e⟩
  · omega
  · omega
  · exact ⟨h2, h3, by unfold madeG; omega⟩
theorem nm_done {f : Nat → Int} {fb s o : Int} (h : Mm f) (h0 : 0 ≤ s) (h1 : s < 5) (h2 : 0 ≤ o) (h3 : o < 200) (hd : doneG fb f s o) : nmOk f (100 * (o / 40) + o % 40 + 1) := by
  refine Or.inr ?_
  rw [op_nm h (done_ok h h0 h1 h2 h3 hd)]
  exact h2
/-! the tree of places -/
def itr (p : Int → Int) : Nat → Int → Int
  | 0, o => o
  | n + 1, o => p (itr p n o)
def Ds (p : Int → Int) (o a : Int) : Prop := ∃ n, itr p (n + 1) o = a ∧ ∀ m, m ≤ n → 0 ≤ itr p m o ∧ itr p m o < 200
theorem Ds_1 {p : Int → Int} {o a : Int} (h : p o = a) (h0 : 0 ≤ o ∧ o < 200) : Ds p o a := ⟨0, h, fun m hm => by
  have : m = 0 := by omega
  subst this
  exact h0⟩
theorem Ds_up {p : Int → Int} {o c a : Int} (h : Ds p o c) (hc : p c = a) (h0 : 0 ≤ c ∧ c < 200) : Ds p o a := by
  obtain ⟨n, h1, h2⟩ := h
  refine ⟨n + 1, ?_, fun m hm => ?_⟩
  · show p (itr p (n + 1) o) = a
    rw [h1]; exact hc
  · by_cases e : m = n + 1
    · subst e; rw [h1]; exact h0
    · exact h2 m (by omega)
def Rkd (p : Int → Int) : Prop := ∃ rk : Int → Nat, ∀ o : Int, 0 ≤ o → o < 200 → 0 ≤ p o → rk (p o) < rk o
theorem itr_lt {p : Int → Int} {rk : Int → Nat} (hr : ∀ o : Int, 0 ≤ o → o < 200 → 0 ≤ p o → rk (p o) < rk o) {o : Int} : ∀ (d n : Nat), (∀ m, m ≤ n + d → 0 ≤ itr p m o ∧ itr p m o < 200) → 0 ≤ itr p (n + d + 1) o → rk (itr p (n + d + 1) o) < rk (itr p n o)
  | 0, n, h, h0 => hr _ (h n (by omega)).1 (h n (by omega)).2 h0
  | d + 1, n, h, h0 => by
    have a := itr_lt hr d n (fun m hm => h m (by omega)) (h (n + d + 1) (by omega)).1
    have b := hr _ (h (n + (d + 1)) (by omega)).1 (h (n + (d + 1)) (by omega)).2 h0
    exact Nat.lt_trans b a
/-- none lies behind itself -/
theorem Ds_irr {p : Int → Int} (h : Rkd p) {o : Int} (h0 : 0 ≤ o) : ¬ Ds p o o := by
  rintro ⟨n, h1, h2⟩
  obtain ⟨rk, hr⟩ := h
  have := itr_lt hr n 0 (fun m hm => h2 m (by omega)) (by rw [Nat.zero_add, h1]; exact h0)
  rw [Nat.zero_add, h1] at this
  exact absurd this (Nat.lt_irrefl _)
/-- behind two of one place nothing is alike -/
theorem Ds_br {p : Int → Int} (h : Rkd p) {o c d : Int} (hcd : p c = p d) (hc : 0 ≤ c ∧ c < 200) (hd : 0 ≤ d ∧ d < 200) (h1 : Ds p o c ∨ o = c) (h2 : Ds p o d ∨ o = d) : c = d := by
  have g : ∀ x : Int, (0 ≤ x ∧ x < 200) → (Ds p o x ∨ o = x) → ∃ n, itr p n o = x ∧ ∀ m, m ≤ n → 0 ≤ itr p m o ∧ itr p m o < 200 := by
    rintro x hx (⟨n, a, b⟩ | rfl)
    · exact ⟨n + 1, a, fun m hm => by
        by_cases e : m = n + 1
        · subst e; rw [a]; exact hx
        · exact b m (by omega)⟩
    · exact ⟨0, rfl, fun m hm => by
        have : m = 0 := by omega
        subst this
        exact hx⟩
  obtain ⟨n, a, b⟩ := g c hc h1
  obtain ⟨k, a', b'⟩ := g d hd h2
  obtain ⟨rk, hr⟩ := h
  have key : ∀ (n k : Nat) (x y : Int), itr p n o = x → itr p k o = y → (∀ m, m ≤ k → 0 ≤ itr p m o ∧ itr p m o < 200) → p x = p y → ¬ n < k := by
    intro n k x y e1 e2 hk hxy hlt
    have f1 : itr p (n + 1) o = p x := by show p (itr p n o) = p x; rw [e1]
    have f2 : itr p (k + 1) o = p y := by show p (itr p k o) = p y; rw [e2]
    have f3 := hk (n + 1) (by omega)
    obtain ⟨j, rfl⟩ : ∃ j, k = n + 1 + j := ⟨k - (n + 1), by omega⟩
    have f4 := itr_lt hr j (n + 1) hk (by rw [f2, ← hxy, ← f1]; exact f3.1)
    rw [f2, ← hxy, ← f1] at f4
    exact absurd f4 (Nat.lt_irrefl _)
  have n1 := key n k c d a a' b' hcd
  have n2 := key k n d c a' a b hcd.symm
  have : n = k := by omega
  subst this
  rw [← a, ← a']
theorem beh_Rkd {f : Nat → Int} (h : Mm f) (fb s : Int) : Rkd (behG fb f s) := by
  obtain ⟨rk, hr⟩ := h.2.2.2.2.2
  refine ⟨rk, fun o a b c => ?_⟩
  unfold behG at c ⊢
  split
  · next e =>
    rcases hr o a b with q | q
    · have : opG f (tG f o 3) = -1 := by unfold opG; rw [if_neg (by omega)]
      omega
    · exact q.2
  · next e => rw [if_neg e] at c; omega
theorem beh_in {f : Nat → Int} (h : Mm f) (fb s o : Int) : -1 ≤ behG fb f s o ∧ behG fb f s o < 200 := by
  have := opG_in h (tG f o 3)
  unfold behG
  split <;> omega
theorem later_irr {f : Nat → Int} {o : Int} : ¬ laterG f o o := by unfold laterG; omega
theorem later_tr {f : Nat → Int} {a b c : Int} (h1 : laterG f a b) (h2 : laterG f b c) : laterG f a c := by unfold laterG at *; omega
