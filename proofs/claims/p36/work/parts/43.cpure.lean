theorem R2_at {g : Nat → Int} {lo hi p : Int} (h : R2 g lo hi) (h0 : 0 ≤ p) (h1 : p ≤ 200) : lo ≤ g p.toNat ∧ g p.toNat ≤ hi := h p.toNat (by omega)
theorem R2_u {g : Nat → Int} {lo hi v : Int} {i : Nat} (h : R2 g lo hi) (h0 : lo ≤ v) (h1 : v ≤ hi) : R2 (ud g i v) lo hi := fun j hj => by
  unfold ud
  split
  · exact ⟨h0, h1⟩
  · exact h j hj
def FrW (A B : FN) (lo hi : Nat) : Prop := ∀ a, (a < lo ∨ hi < a) → B a = A a
theorem FrW_0 {A : FN} {lo hi : Nat} : FrW A A lo hi := fun _ _ => rfl
theorem FrW_u {A B : FN} {lo hi r i : Nat} {v : Int} (h : FrW A B lo hi) (h0 : lo ≤ r) (h1 : r ≤ hi) : FrW A (up2 B r i v) lo hi := fun a ha => by rw [up2_rn (by omega)]; exact h a ha
theorem FrW_t {A B C : FN} {lo hi : Nat} (h : FrW A B lo hi) (h2 : FrW B C lo hi) : FrW A C lo hi := fun a ha => (h2 a ha).trans (h a ha)
theorem FrW_w {A B : FN} {lo hi lo' hi' : Nat} (h : FrW A B lo hi) (h0 : lo' ≤ lo) (h1 : hi ≤ hi') : FrW A B lo' hi' := fun a ha => h a (by omega)
theorem FrW_f {A B : FN} {lo hi r n : Nat} {v : Int} (h : Fil A B r n v) (h0 : lo ≤ r) (h1 : r ≤ hi) : FrW A B lo hi := fun a ha => h.1 a (by omega)
theorem LgI_f {I A B : FN} {l lo hi : Nat} (h : LgI I A l) (f : FrW A B lo hi) (h1 : l + 8 < lo ∨ hi < l) : LgI I B l := by
  unfold LgI at h ⊢
  rw [f (l + 1) (by omega), f (l + 2) (by omega), f (l + 4) (by omega), f (l + 5) (by omega), f (l + 8) (by omega)]
  exact h
theorem LgI_u {I A : FN} {l r i : Nat} {v : Int} (h : LgI I A l) (h1 : l + 8 < r ∨ r < l) : LgI I (up2 A r i v) l := LgI_f h (FrW_u FrW_0 (Nat.le_refl r) (Nat.le_refl r)) (by omega)
theorem mkS_of {mad : Nat → Int} {s k : Int} (h0 : 0 ≤ s) (h1 : s < 5) (h2 : 1 ≤ k) (h3 : k ≤ mad s.toNat) (h4 : mad s.toNat ≤ 40) : mkS mad (s * 40 + k) := by
  refine ⟨by omega, by omega, ?_⟩
  rw [show (s * 40 + k - 1) / 40 = s by omega]
  omega
theorem LSt.n {mad kin nxt spo ltr : Nat → Int} (h : LSt mad kin nxt spo ltr) : R2 nxt (-1) 200 := h.1
theorem LSt.s {mad kin nxt spo ltr : Nat → Int} (h : LSt mad kin nxt spo ltr) : R2 spo 0 200 := h.2.1
theorem LSt.t {mad kin nxt spo ltr : Nat → Int} (h : LSt mad kin nxt spo ltr) : R2 ltr 0 200 := h.2.2.1
theorem LSt.pn {mad kin nxt spo ltr : Nat → Int} (h : LSt mad kin nxt spo ltr) {a : Int} (h0 : 0 ≤ a) (h1 : a ≤ 200) (h2 : 0 < nxt a.toNat) : PL mad kin (nxt a.toNat) := h.2.2.2.1 a.toNat (by omega) h2
theorem LSt.pi {mad kin nxt spo ltr : Nat → Int} (h : LSt mad kin nxt spo ltr) {a : Int} (h0 : 0 < a) (h1 : a ≤ 200) (h2 : nxt a.toNat ≠ -1) : PL mad kin a := by
  have := h.2.2.2.2.1 a.toNat (by omega) (by omega) h2
  rwa [show ((a.toNat : Nat) : Int) = a by omega] at this
theorem LSt.ps {mad kin nxt spo ltr : Nat → Int} (h : LSt mad kin nxt spo ltr) {a : Int} (h0 : 0 ≤ a) (h1 : a ≤ 200) : spo a.toNat = 0 ∨ PL mad kin (spo a.toNat) := h.2.2.2.2.2 a.toNat (by omega)
theorem LSt_link {mad kin nxt spo ltr : Nat → Int} {p a : Int} (h : LSt mad kin nxt spo ltr) (hp : PL mad kin p) (ha : a = 0 ∨ PL mad kin a) : LSt mad kin (ud (ud nxt p.toNat (nxt a.toNat)) a.toNat p) spo ltr := by
  have hr := hp.rg
  have har : 0 ≤ a ∧ a ≤ 200 := ha.elim (fun e => by omega) (fun e => by have := e.rg; omega)
  have hn := R2_at h.n har.1 har.2
  refine ⟨R2_u (R2_u h.n hn.1 hn.2) (by omega) (by omega), h.s, h.t, fun i hi hx => ?_, fun i h0 hi hx => ?_, h.2.2.2.2.2⟩
  · unfold ud at hx ⊢
    split
    · exact hp
    · next e =>
      rw [if_neg e] at hx
      split
      · next e2 => rw [if_pos e2] at hx; exact h.pn har.1 har.2 hx
      · next e2 => rw [if_neg e2] at hx; exact h.2.2.2.1 i hi hx
  · unfold ud at hx
    by_cases e : i = a.toNat
    · rcases ha with e0 | e0
      · omega
      · rw [show (i : Int) = a by omega]; exact e0
    · rw [if_neg e] at hx
      by_cases e2 : i = p.toNat
      · rw [show (i : Int) = p by omega]; exact hp
      · rw [if_neg e2] at hx; exact h.2.2.2.2.1 i h0 hi hx
theorem LSt_spot {mad kin nxt spo ltr : Nat → Int} {p : Int} {j : Nat} (h : LSt mad kin nxt spo ltr) (hp : PL mad kin p) : LSt mad kin nxt (ud spo j p) ltr := by
  have hr := hp.rg
  refine ⟨h.n, R2_u h.s (by omega) (by omega), h.t, h.2.2.2.1, h.2.2.2.2.1, fun i hi => ?_⟩
  unfold ud
  split
  · exact Or.inr hp
  · exact h.2.2.2.2.2 i hi
theorem LSt_ltr {mad kin nxt spo ltr : Nat → Int} {p : Int} {j : Nat} (h : LSt mad kin nxt spo ltr) (h0 : 0 ≤ p) (h1 : p ≤ 200) : LSt mad kin nxt spo (ud ltr j p) := ⟨h.n, h.s, R2_u h.t h0 h1, h.2.2.2.1, h.2.2.2.2.1, h.2.2.2.2.2⟩
theorem LSt_rem {mad kin nxt spo ltr : Nat → Int} {a : Int} (h : LSt mad kin nxt spo ltr) (h0 : 0 ≤ a) (h1 : a ≤ 200) (hx : 0 < nxt a.toNat) : LSt mad kin (ud (ud nxt a.toNat (nxt (nxt a.toNat).toNat)) (nxt a.toNat).toNat (-1)) spo ltr := by
  have hp := h.pn h0 h1 hx
  have hr := hp.rg
  have hn := R2_at h.n (show 0 ≤ nxt a.toNat by omega) (by omega)
  refine ⟨R2_u (R2_u h.n hn.1 hn.2) (by omega) (by omega), h.s, h.t, fun i hi hy => ?_, fun i hi0 hi hy => ?_, h.2.2.2.2.2⟩
  · unfold ud at hy ⊢
    split
    · next e => rw [if_pos e] at hy; omega
    · next e =>
      rw [if_neg e] at hy
      split
      · next e2 => rw [if_pos e2] at hy; exact h.pn (by omega) (by omega) hy
      · next e2 => rw [if_neg e2] at hy; exact h.2.2.2.1 i hi hy
  · unfold ud at hy
    by_cases e : i = (nxt a.toNat).toNat
    · rw [if_pos e] at hy; exact absurd rfl hy
    · rw [if_neg e] at hy
      by_cases e2 : i = a.toNat
      · exact h.2.2.2.2.1 i hi0 hi (by rw [e2]; omega)
      · rw [if_neg e2] at hy; exact h.2.2.2.2.1 i hi0 hi hy
theorem LSt_0 {mad kin nxt spo ltr : Nat → Int} (h0 : nxt 0 = 0) (hn : ∀ i : Nat, 0 < i → i < 201 → nxt i = -1) (hs : ∀ i : Nat, i < 201 → spo i = 0) (ht : ∀ i : Nat, i < 201 → ltr i = 0) : LSt mad kin nxt spo ltr := by
  refine ⟨fun i hi => ?_, fun i hi => by rw [hs i hi]; omega, fun i hi => by rw [ht i hi]; omega, fun i hi hx => ?_, fun i hi0 hi hx => absurd (hn i hi0 hi) hx, fun i hi => Or.inl (hs i hi)⟩
  · by_cases e : i = 0
    · rw [e, h0]; omega
    · rw [hn i (by omega) hi]; omega
  · by_cases e : i = 0
    · rw [e, h0] at hx; omega
    · rw [hn i (by omega) hi] at hx; omega
theorem LsI_f {A B : FN} {l r lo hi : Nat} (h : LsI A l r) (f : FrW A B lo hi) (h1 : l + 2 < lo ∨ hi < l) (h2 : r + 3 < lo ∨ hi < r) : LsI B l r := by
  unfold LsI at h ⊢
  rw [f (l + 1) (by omega), f (l + 2) (by omega), f (r + 1) (by omega), f (r + 2) (by omega), f (r + 3) (by omega)]
  exact h
theorem LsI_link {A : FN} {l r : Nat} {p a : Int} (h : LsI A l r) (hlr : l + 8 < r) (hp : PL (A (l + 1)) (A (l + 2)) p) (ha : a = 0 ∨ PL (A (l + 1)) (A (l + 2)) a) : LsI (up2 (up2 A (r + 1) p.toNat (A (r + 1) a.toNat)) (r + 1) a.toNat p) l r := by
  unfold LsI at h ⊢
  rw [up2_ud, up2_ud, up2_rn (show l + 1 ≠ r + 1 by omega), up2_rn (show l + 1 ≠ r + 1 by omega), up2_rn (show l + 2 ≠ r + 1 by omega), up2_rn (show l + 2 ≠ r + 1 by omega), up2_rn (show r + 2 ≠ r + 1 by omega), up2_rn (show r + 2 ≠ r + 1 by omega), up2_rn (show r + 3 ≠ r + 1 by omega), up2_rn (show r + 3 ≠ r + 1 by omega)]
  exact LSt_link h hp ha
theorem LsI_spot {A : FN} {l r j : Nat} {p : Int} (h : LsI A l r) (hlr : l + 8 < r) (hp : PL (A (l + 1)) (A (l + 2)) p) : LsI (up2 A (r + 2) j p) l r := by
  unfold LsI at h ⊢
  rw [up2_ud, up2_rn (show l + 1 ≠ r + 2 by omega), up2_rn (show l + 2 ≠ r + 2 by omega), up2_rn (show r + 1 ≠ r + 2 by omega), up2_rn (show r + 3 ≠ r + 2 by omega)]
  exact LSt_spot h hp
theorem LsI_ltr {A : FN} {l r j : Nat} {p : Int} (h : LsI A l r) (hlr : l + 8 < r) (h0 : 0 ≤ p) (h1 : p ≤ 200) : LsI (up2 A (r + 3) j p) l r := by
  unfold LsI at h ⊢
  rw [up2_ud, up2_rn (show l + 1 ≠ r + 3 by omega), up2_rn (show l + 2 ≠ r + 3 by omega), up2_rn (show r + 1 ≠ r + 3 by omega), up2_rn (show r + 2 ≠ r + 3 by omega)]
  exact LSt_ltr h h0 h1
theorem LsI_x {A : FN} {l r a j : Nat} {v : Int} (h : LsI A l r) (hlr : l + 8 < r) (ha : r + 3 < a) : LsI (up2 A a j v) l r := LsI_f h (FrW_u FrW_0 (Nat.le_refl a) (Nat.le_refl a)) (by omega) (by omega)
theorem PL_f {A B : FN} {l lo hi : Nat} {p : Int} (h : PL (A (l + 1)) (A (l + 2)) p) (f : FrW A B lo hi) (h1 : l + 8 < lo) : PL (B (l + 1)) (B (l + 2)) p := by
  rw [f (l + 1) (by omega), f (l + 2) (by omega)]; exact h
