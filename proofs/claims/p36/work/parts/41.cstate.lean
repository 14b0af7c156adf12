/-! ===== the class: what its numbers say ===== -/
def mkS (mad : Nat → Int) (p : Int) : Prop := 1 ≤ p ∧ p ≤ 200 ∧ (p - 1) % 40 + 1 ≤ mad ((p - 1) / 40).toNat
def PL (mad kin : Nat → Int) (p : Int) : Prop := mkS mad p ∧ 0 ≤ kin p.toNat ∧ kin p.toNat ≤ 1
def R2 (g : Nat → Int) (lo hi : Int) : Prop := ∀ i : Nat, i < 201 → lo ≤ g i ∧ g i ≤ hi
def LG (mad kin ele beh byT : Nat → Int) (st tot : Int) : Prop := (2 ≤ st ∧ st ≤ 5) ∧ (0 ≤ tot ∧ tot ≤ 201) ∧ (∀ s : Nat, s < 5 → 0 ≤ mad s ∧ mad s ≤ 40) ∧ R2 ele 0 200 ∧ R2 beh (-1) 200 ∧ (∀ k : Nat, (k : Int) < tot → mkS mad (byT k)) ∧ ∀ p : Int, PL mad kin p → beh p.toNat = 0 ∨ PL mad kin (beh p.toNat)
def LSt (mad kin nxt spo ltr : Nat → Int) : Prop := R2 nxt (-1) 200 ∧ R2 spo 0 200 ∧ R2 ltr 0 200 ∧ (∀ i : Nat, i < 201 → 0 < nxt i → PL mad kin (nxt i)) ∧ (∀ i : Nat, 0 < i → i < 201 → nxt i ≠ -1 → PL mad kin i) ∧ ∀ i : Nat, i < 201 → spo i = 0 ∨ PL mad kin (spo i)
def SR (mad items : Nat → Int) (size most : Int) : Prop := 0 ≤ size ∧ size ≤ most ∧ ∀ i : Nat, (i : Int) < size → mkS mad (items i)
/-- a log at a role -/
def LgI (I A : FN) (l : Nat) : Prop := LG (A (l + 1)) (A (l + 2)) (A (l + 4)) (A (l + 5)) (A (l + 8)) (I l 8) (I l 9)
/-- a listing at a role, by a log -/
def LsI (A : FN) (l r : Nat) : Prop := LSt (A (l + 1)) (A (l + 2)) (A (r + 1)) (A (r + 2)) (A (r + 3))
theorem LG.sites {mad kin ele beh byT : Nat → Int} {st tot : Int} (h : LG mad kin ele beh byT st tot) : 2 ≤ st ∧ st ≤ 5 := h.1
theorem LG.tot {mad kin ele beh byT : Nat → Int} {st tot : Int} (h : LG mad kin ele beh byT st tot) : 0 ≤ tot ∧ tot ≤ 201 := h.2.1
theorem LG.made {mad kin ele beh byT : Nat → Int} {st tot : Int} (h : LG mad kin ele beh byT st tot) {s : Int} (h0 : 0 ≤ s) (h1 : s < 5) : 0 ≤ mad s.toNat ∧ mad s.toNat ≤ 40 := h.2.2.1 s.toNat (by omega)
theorem LG.ele {mad kin ele beh byT : Nat → Int} {st tot : Int} (h : LG mad kin ele beh byT st tot) {p : Int} (h0 : 0 ≤ p) (h1 : p ≤ 200) : 0 ≤ ele p.toNat ∧ ele p.toNat ≤ 200 := h.2.2.2.1 p.toNat (by omega)
theorem LG.beh {mad kin ele beh byT : Nat → Int} {st tot : Int} (h : LG mad kin ele beh byT st tot) {p : Int} (h0 : 0 ≤ p) (h1 : p ≤ 200) : -1 ≤ beh p.toNat ∧ beh p.toNat ≤ 200 := h.2.2.2.2.1 p.toNat (by omega)
theorem LG.byT {mad kin ele beh byT : Nat → Int} {st tot : Int} (h : LG mad kin ele beh byT st tot) {k : Int} (h0 : 0 ≤ k) (h1 : k < tot) : mkS mad (byT k.toNat) := h.2.2.2.2.2.1 k.toNat (by omega)
theorem LG.pl {mad kin ele beh byT : Nat → Int} {st tot : Int} (h : LG mad kin ele beh byT st tot) {p : Int} (hp : PL mad kin p) : beh p.toNat = 0 ∨ PL mad kin (beh p.toNat) := h.2.2.2.2.2.2 p hp
theorem PL.rg {mad kin : Nat → Int} {p : Int} (h : PL mad kin p) : 1 ≤ p ∧ p ≤ 200 := ⟨h.1.1, h.1.2.1⟩
/-- what add, removeAt of a row do -/
def AddQ (I A : FN) (r : Nat) (most p x : Int) (I' A' : FN) : Prop := (I r 1 < most ∧ x = 1 ∧ I' = up2 I r 1 (I r 1 + 1) ∧ A' = up2 A (r + 1) (I r 1).toNat p) ∨ (most ≤ I r 1 ∧ x = 0 ∧ I' = I ∧ A' = A)
def RemQ (I A : FN) (r : Nat) (i : Int) (I' A' : FN) : Prop := ((0 ≤ i ∧ i < I r 1) ∧ I' = up2 I r 1 (I r 1 - 1) ∧ A' = cpy A (r + 1) (r + 1) (i + 1) i (I r 1 - i - 1)) ∨ (¬ (0 ≤ i ∧ i < I r 1) ∧ I' = I ∧ A' = A)
theorem AddQ.sr {I A I' A' : FN} {r : Nat} {most p x : Int} {a : Nat} (h : AddQ I A r most p x I' A') (hs : SR (A a) (A (r + 1)) (I r 1) most) (ha : a ≠ r + 1) (hp : mkS (A a) p) : SR (A' a) (A' (r + 1)) (I' r 1) most := by
  obtain ⟨s1, s2, s3⟩ := hs
  rcases h with ⟨h1, -, rfl, rfl⟩ | ⟨h1, -, rfl, rfl⟩
  · rw [up2_rn ha, up2_ud, up2_ud, ud_s]
    refine ⟨by omega, by omega, fun i hi => ?_⟩
    unfold ud
    split
    · exact hp
    · exact s3 i (by omega)
  · exact ⟨s1, s2, s3⟩
theorem AddQ.fI {I A I' A' : FN} {r : Nat} {most p x : Int} (h : AddQ I A r most p x I' A') {a : Nat} (ha : a ≠ r) : I' a = I a := by
  rcases h with ⟨h1, -, rfl, rfl⟩ | ⟨h1, -, rfl, rfl⟩
  · exact up2_rn ha
  · rfl
theorem AddQ.fA {I A I' A' : FN} {r : Nat} {most p x : Int} (h : AddQ I A r most p x I' A') {a : Nat} (ha : a ≠ r + 1) : A' a = A a := by
  rcases h with ⟨h1, -, rfl, rfl⟩ | ⟨h1, -, rfl, rfl⟩
  · exact up2_rn ha
  · rfl
theorem RemQ.sr {I A I' A' : FN} {r : Nat} {most i : Int} {a : Nat} (h : RemQ I A r i I' A') (hs : SR (A a) (A (r + 1)) (I r 1) most) (ha : a ≠ r + 1) : SR (A' a) (A' (r + 1)) (I' r 1) most := by
  obtain ⟨s1, s2, s3⟩ := hs
  rcases h with ⟨h1, rfl, rfl⟩ | ⟨h1, rfl, rfl⟩
  · rw [cpy_n ha, up2_ud, ud_s]
    refine ⟨by omega, by omega, fun j hj => ?_⟩
    rw [cpy_s]
    split
    · exact s3 _ (by omega)
    · exact s3 j (by omega)
  · exact ⟨s1, s2, s3⟩
theorem RemQ.fI {I A I' A' : FN} {r : Nat} {i : Int} (h : RemQ I A r i I' A') {a : Nat} (ha : a ≠ r) : I' a = I a := by
  rcases h with ⟨h1, rfl, rfl⟩ | ⟨h1, rfl, rfl⟩
  · exact up2_rn ha
  · rfl
theorem RemQ.fA {I A I' A' : FN} {r : Nat} {i : Int} (h : RemQ I A r i I' A') {a : Nat} (ha : a ≠ r + 1) : A' a = A a := by
  rcases h with ⟨h1, rfl, rfl⟩ | ⟨h1, rfl, rfl⟩
  · exact cpy_n ha
  · rfl
/-- a row filled -/
def Fil (A A' : FN) (r n : Nat) (v : Int) : Prop := (∀ a, a ≠ r → A' a = A a) ∧ ∀ i : Nat, i < n → A' r i = v
