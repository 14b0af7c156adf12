/-! ===== values, worlds ===== -/
abbrev AV : Type := Int ⊕ Option (Nat × Nat)
abbrev FN : Type := Nat → Nat → Int
abbrev Lc : Type := List (Option AV)
def oI (x : Int) : Int32 := Int32.ofInt x
def inI (x : Int) : Prop := -2147483648 ≤ x ∧ x ≤ 2147483647
theorem oI_toInt {x : Int} (h : inI x) : (oI x).toInt = x := Int32.toInt_ofInt_of_le (by have := h.1; omega) (by have := h.2; omega)
theorem oI_in (w : Int32) : inI w.toInt := ⟨by have := w.le_toInt; omega, by have := w.toInt_lt; omega⟩
theorem oI_of (w : Int32) : oI w.toInt = w := Int32.ofInt_toInt w
theorem oI_lt {x y : Int} (hx : inI x) (hy : inI y) : oI x < oI y ↔ x < y := by rw [Int32.lt_iff_toInt_lt, oI_toInt hx, oI_toInt hy]
theorem oI_le {x y : Int} (hx : inI x) (hy : inI y) : oI x ≤ oI y ↔ x ≤ y := by rw [Int32.le_iff_toInt_le, oI_toInt hx, oI_toInt hy]
theorem oI_eq {x y : Int} (hx : inI x) (hy : inI y) : oI x = oI y ↔ x = y := by rw [← Int32.toInt_inj, oI_toInt hx, oI_toInt hy]
theorem oI_0 : oI 0 = 0 := rfl
theorem inI_0 : inI 0 := ⟨by omega, by omega⟩
theorem oI_cl {x : Int} (h : inI x) : (oI x).toNatClampNeg = x.toNat := Int32.toNatClampNeg_ofInt_of_le (by have := h.1; omega) (by have := h.2; omega)
theorem oI_vp {x : Int} {n : Nat} (hx : inI x) (h0 : 0 ≤ x) (h1 : x < n) : vp_in (oI x) n := vp_in_iff.mpr (by rw [oI_toInt hx]; exact ⟨h0, h1⟩)
theorem bm_q (t : Int) : ∃ q : Int, t.bmod 4294967296 = t - 4294967296 * q := by
  refine ⟨if t % 4294967296 < 2147483648 then t / 4294967296 else t / 4294967296 + 1, ?_⟩
  have h := Int.emod_add_mul_ediv t 4294967296
  unfold Int.bmod
  dsimp only
  split <;> split <;> omega
def vv (L : Nat → Nat) : AV → Value
  | .inl x => .int (oI x)
  | .inr (some q) => .ref (L q.2)
  | .inr none => .null
theorem vv_cat (L : Nat → Nat) (v : AV) : (vv L v).category = 1 := by
  rcases v with x | _ | q <;> rfl
def up2 (f : FN) (r i : Nat) (v : Int) : FN := fun a j => if a = r ∧ j = i then v else f a j
/-- kinds of objects: the class's place in vwCl, and of each field: mode (0 int, 1 reference, 2 the reader's text), kind, how far the role lies -/
def kci (k : Nat) : Nat := if k = 9 then 4 else k
def kfs : List (List (Nat × Nat × Nat)) := [
  [(1, 10005, 1), (1, 10201, 2), (1, 10201, 3), (1, 10201, 4)],
  [(1, 3, 1), (1, 40005, 10), (0, 0, 0)],
  [(1, 10201, 1), (1, 10201, 2), (1, 10201, 3), (1, 10201, 4), (1, 10201, 5)],
  [(1, 10005, 1), (1, 10201, 2), (1, 10201, 3), (1, 10201, 4), (1, 10201, 5), (1, 10201, 6), (1, 11005, 7), (1, 10201, 8), (0, 0, 0), (0, 0, 0)],
  [(1, 10060, 1), (0, 0, 0)],
  [(1, 10400, 1), (0, 0, 0), (0, 0, 0), (2, 20400, 3), (0, 0, 0), (0, 0, 0)],
  [(1, 10005, 1), (1, 10025, 2), (1, 4, 3), (1, 9, 5), (1, 2, 7), (0, 0, 0)],
  [(1, 1, 1), (1, 50002, 77), (1, 30002, 78), (1, 2, 79), (1, 0, 85), (1, 5, 90), (1, 20400, 93), (0, 0, 0), (0, 0, 0), (1, 10201, 94), (1, 10201, 95), (1, 10201, 96)],
  [(0, 0, 0), (1, 14504, 1), (1, 19008, 2), (0, 0, 0), (0, 0, 0), (1, 10200, 3), (1, 10200, 4), (0, 0, 0), (1, 10200, 5), (0, 0, 0), (1, 10200, 6), (1, 10200, 7), (1, 10200, 8), (0, 0, 0), (0, 0, 0), (1, 10201, 9), (1, 20400, 10), (0, 0, 0), (0, 0, 0), (0, 0, 0), (0, 0, 0), (1, 10800, 11), (0, 0, 0)],
  [(1, 10201, 1), (0, 0, 0)]]
def kF (k j : Nat) : Nat × Nat × Nat := (kfs.getD k []).getD j (0, 0, 0)
def kN (k : Nat) : Nat := (kfs.getD k []).length
/-- the kind of each role -/
def rkG : List Nat := [1, 3, 10005, 10201, 10201, 10201, 10201, 10201, 11005, 10201, 40005] ++ (List.replicate 5 [6, 10005, 10025, 4, 10060, 9, 10201, 2, 10201, 10201, 10201, 10201, 10201]).flatten
def rkL : List Nat := [7] ++ rkG ++ [50002, 30002, 2, 10201, 10201, 10201, 10201, 10201, 0, 10005, 10201, 10201, 10201, 5, 10400, 20000, 20400, 10201, 10201, 10201] ++ rkG ++ rkG ++ List.replicate 51 99 ++ [8, 14504, 19008, 10200, 10200, 10200, 10200, 10200, 10200, 10201, 20400, 10800]
def rk (r : Nat) : Nat := rkL.getD r 10007
def fv (L : Nat → Nat) (I : FN) (r j : Nat) (d : Nat × Nat × Nat) : Value :=
  if d.1 = 0 then .int (oI (I r j)) else if d.1 = 1 then .ref (L (r + d.2.2)) else if I r j = 0 then .ref (L (r + 2)) else .ref (L (r + d.2.2))
def ce (cy : Nat → ClassId) (L : Nat → Nat) (I A : FN) (r : Nat) : va_E :=
  if rk r < 100 then .inr (kci (rk r), (List.range (kN (rk r))).map (fun j => fv L I r j (kF (rk r) j)))
  else .inl (cy (rk r / 10000), rk r % 10000,
    if rk r / 10000 ≤ 3 then .inl (fun i => oI (A r i))
    else if rk r / 10000 = 4 then .inr (.inr (.inr (.inr (fun i => some (L (r + 1 + 13 * i))))))
    else .inr (.inr (.inr (.inr (fun i => if I r i = 0 then none else some (L (r + 20 + 76 * i)))))))
def wd (cy : Nat → ClassId) (L : Nat → Nat) (lv : List Nat) (I A : FN) : va_W := lv.map (fun r => (L r, ce cy L I A r))
abbrev tysOf (cy : Nat → ClassId) : List (ClassId × FieldType) := [(cy 1, .int), (cy 2, .byte), (cy 3, .boolean), (cy 4, .object "MovingList$Site"), (cy 5, .object "MovingList$Group")]
def okF (f : FN) : Prop := ∀ r j, inI (f r j)
def wv (lv : List Nat) : AV → Prop
  | .inl x => inI x
  | .inr (some q) => q.2 ∈ lv ∧ rk q.2 = q.1
  | .inr none => True
def okS (lv : List Nat) (st : List AV) : Prop := ∀ v ∈ st, wv lv v
def okL (lv : List Nat) (ls : Lc) : Prop := ∀ v, some v ∈ ls → wv lv v
def LvOk (lv : List Nat) : Prop :=
  (∀ r ∈ lv, ∀ j, (kF (rk r) j).1 ≠ 0 → r + (kF (rk r) j).2.2 ∈ lv ∧ rk (r + (kF (rk r) j).2.2) = (kF (rk r) j).2.1) ∧
  (∀ r ∈ lv, rk r = 40005 → ∀ i, i < 5 → r + 1 + 13 * i ∈ lv ∧ rk (r + 1 + 13 * i) = 6)
theorem okF_up {f : FN} {r i : Nat} {v : Int} (h : okF f) (hv : inI v) : okF (up2 f r i v) := by
  intro a j
  unfold up2
  split
  · exact hv
  · exact h a j
theorem wd_mem {cy : Nat → ClassId} {L : Nat → Nat} {lv : List Nat} {I A : FN} {r : Nat} (h : r ∈ lv) : ∃ q0 : Nat, lv[q0]? = some r ∧ (wd cy L lv I A)[q0]? = some (L r, ce cy L I A r) := by
  obtain ⟨i, hi⟩ := List.getElem?_of_mem h
  exact ⟨i, hi, by simp [wd, hi]⟩
theorem wd_D {cy : Nat → ClassId} {L : Nat → Nat} {lv : List Nat} {I A I' A' : FN} {S : Nat → Prop} (h : va_D S (wd cy L lv I A)) : va_D S (wd cy L lv I' A') := by
  refine ⟨fun i j p q hi hj he => ?_, fun k q hk => ?_⟩
  · simp only [wd, List.getElem?_map, Option.map_eq_some_iff] at hi hj
    obtain ⟨a, ha, rfl⟩ := hi
    obtain ⟨b, hb, rfl⟩ := hj
    exact h.1 i j (L a, ce cy L I A a) (L b, ce cy L I A b) (by simp [wd, ha]) (by simp [wd, hb]) he
  · simp only [wd, List.getElem?_map, Option.map_eq_some_iff] at hk
    obtain ⟨a, ha, rfl⟩ := hk
    exact h.2 k (L a, ce cy L I A a) (by simp [wd, ha])
theorem wd_set {cy : Nat → ClassId} {L : Nat → Nat} {lv : List Nat} {I A I' A' : FN} {S : Nat → Prop} {r q0 : Nat} (h : va_D S (wd cy L lv I A)) (hr : lv[q0]? = some r)
    (hce : ∀ a, a ≠ r → ce cy L I' A' a = ce cy L I A a) : (wd cy L lv I A).set q0 (L r, ce cy L I' A' r) = wd cy L lv I' A' := by
  apply List.ext_getElem?
  intro i
  rw [List.getElem?_set]
  by_cases hi : q0 = i
  · subst hi
    have hlt : q0 < (wd cy L lv I A).length := by
      have := (List.getElem?_eq_some_iff.mp hr).1
      simpa [wd] using this
    rw [if_pos rfl, if_pos hlt]
    simp [wd, hr]
  · rw [if_neg hi]
    simp only [wd, List.getElem?_map]
    cases ha : lv[i]? with
    | none => rfl
    | some a =>
      have hne : a ≠ r := by
        intro e
        subst e
        exact hi (h.1 q0 i (L a, ce cy L I A a) (L a, ce cy L I A a) (by simp [wd, hr]) (by simp [wd, ha]) rfl)
      simp [hce a hne]
theorem ce_obj {cy : Nat → ClassId} {L : Nat → Nat} {I A : FN} {r k : Nat} (hk : rk r = k) (h : k < 100) : ce cy L I A r = .inr (kci k, (List.range (kN k)).map (fun j => fv L I r j (kF k j))) := by
  subst hk
  simp [ce, h]
theorem ce_arr {cy : Nat → ClassId} {L : Nat → Nat} {I A : FN} {r k : Nat} (hk : rk r = k) (h : ¬ k < 100) (h3 : k / 10000 ≤ 3) : ce cy L I A r = .inl (cy (k / 10000), k % 10000, .inl (fun i => oI (A r i))) := by
  subst hk
  simp [ce, h, h3]
theorem ce_same {cy : Nat → ClassId} {L : Nat → Nat} {I A I' A' : FN} {a : Nat} (hI : I' a = I a) (hA : A' a = A a) : ce cy L I' A' a = ce cy L I A a := by
  simp only [ce, fv, hI, hA]
theorem up2_ne {f : FN} {r i : Nat} {v : Int} {a : Nat} (h : a ≠ r) : up2 f r i v a = f a := by
  funext j
  simp [up2, h]
