/-! the reference's scratch rows -/
def P_X10_laysBehindT : PT := P_X10_laysBehind 201
def Q_X10_laysBehindT : QT := Q_X10_laysBehind
theorem P_X10_laysBehindT_c {s : Int} {pl : Int} {d : Int} {I A : FN} : P_X10_laysBehindT [.inr (some (8, 300)), .inl s, .inl pl, .inl d] I A = (0 ≤ s ∧ s ≤ 6 ∧ 0 ≤ I 300 4 ∧ I 300 4 < 200 ∧ Mm (A 301) ∧ -1 ≤ pl ∧ pl < 200 ∧ PB (I 300 4) (A 301) s pl (I 300 7) (A 303) ∧ 200 - I 300 7 < 201) := P_X10_laysBehind_c
theorem Q_X10_laysBehindT_c {s : Int} {pl : Int} {d : Int} {I A I' A' : FN} : Q_X10_laysBehindT [.inr (some (8, 300)), .inl s, .inl pl, .inl d] I A none I' A' = (QB (I 300 4) (A 301) s pl (I 300 7) (A 303) (I' 300 7) (A' 303) ∧ FrO I A I' A') := Q_X10_laysBehind_c
theorem r_X10_112T {X : Cx} {bytes : ByteArray} {c0 : Jvm.Cond} {d : Nat} {mx : Nat × Nat} (hX : Fx X RX10 bytes (c0 :: W0)) (hR : RmX X d mx) (hd : 6 + 201 + 1 ≤ d) : CR X bytes mx (112, (0, 4, false, P_X10_laysBehindT, Q_X10_laysBehindT, al0)) := r_X10_112 (c_X10_laysBehind 201) hX hR hd
def Fr3 (I A J B : FN) : Prop := (∀ j, j ≠ 4 → j ≠ 7 → j ≠ 9 → j ≠ 13 → J 300 j = I 300 j) ∧ ∀ r, r ≠ 303 → r ≠ 304 → r ≠ 305 → r ≠ 307 → r ≠ 308 → B r = A r
theorem Fr3_rfl {I A : FN} : Fr3 I A I A := ⟨fun _ _ _ _ _ => rfl, fun _ _ _ _ _ _ => rfl⟩
theorem Fr3_tr {I A J B K C : FN} (h : Fr3 I A J B) (h2 : Fr3 J B K C) : Fr3 I A K C := ⟨fun j a b c d => (h2.1 j a b c d).trans (h.1 j a b c d), fun r a b c d e => (h2.2 r a b c d e).trans (h.2 r a b c d e)⟩
theorem Fr3_uI {I A J B : FN} {j : Nat} {v : Int} (hj : j = 4 ∨ j = 7 ∨ j = 9 ∨ j = 13) (h : Fr3 I A J B) : Fr3 I A (up2 J 300 j v) B := by
  refine ⟨fun i a b c d => ?_, h.2⟩
  rw [← h.1 i a b c d]
  simp only [up2, true_and]
  rw [if_neg (by omega)]
theorem Fr3_uA {I A J B : FN} {r i : Nat} {v : Int} (hr : r = 303 ∨ r = 304 ∨ r = 305 ∨ r = 307 ∨ r = 308) (h : Fr3 I A J B) : Fr3 I A J (up2 B r i v) := by
  refine ⟨h.1, fun a b c d e g => ?_⟩
  rw [up2_rn (by omega)]
  exact h.2 a b c d e g
theorem Fr3.a1 {I A J B : FN} (h : Fr3 I A J B) : B 301 = A 301 := h.2 301 (by omega) (by omega) (by omega) (by omega) (by omega)
theorem Fr3.a2 {I A J B : FN} (h : Fr3 I A J B) : B 302 = A 302 := h.2 302 (by omega) (by omega) (by omega) (by omega) (by omega)
theorem Fr3.fm {I A J B : FN} (h : Fr3 I A J B) : Fm I J := ⟨h.1 17 (by omega) (by omega) (by omega) (by omega), h.1 3 (by omega) (by omega) (by omega) (by omega), h.1 22 (by omega) (by omega) (by omega) (by omega)⟩
theorem FrO_3 {I A J B : FN} (h : FrO I A J B) : Fr3 I A J B := ⟨fun j _ b _ _ => h.1 j b, fun r a b _ _ _ => h.2 r a b⟩
theorem Fm_I {I J : FN} {j : Nat} {v : Int} (h17 : j ≠ 17) (h3 : j ≠ 3) (h22 : j ≠ 22) : Fm (up2 I 300 j v) J = Fm I J := by
  simp only [Fm, up2, true_and, Ne.symm h17, Ne.symm h3, Ne.symm h22, if_false]
theorem Fm_J {I J : FN} {j : Nat} {v : Int} (h17 : j ≠ 17) (h3 : j ≠ 3) (h22 : j ≠ 22) : Fm I (up2 J 300 j v) = Fm I J := by
  simp only [Fm, up2, true_and, Ne.symm h17, Ne.symm h3, Ne.symm h22, if_false]
theorem Fm_tr3 {I J B K C : FN} (h : Fm I J) (h2 : Fr3 J B K C) : Fm I K := Fm_tr h h2.fm
theorem PB_0 {fb : Int} {f : Nat → Int} {s : Int} {g : Nat → Int} (h : Rg g) : PB fb f s (-1) 0 g := ⟨⟨by omega, by omega, h, fun i a => absurd a (by omega), fun i j a b => absurd b (by omega)⟩, fun i a => absurd a (by omega)⟩
theorem Ord_rg {fb : Int} {f : Nat → Int} {s c : Int} {g : Nat → Int} (h : OrdOk fb f s c g) : Rg g := h.2.2.1
theorem Rg_u {g : Nat → Int} {i : Nat} {v : Int} (h : Rg g) (h0 : 0 ≤ v) (h1 : v < 200) : Rg (ud g i v) := fun j hj => by
  unfold ud
  split
  · exact ⟨h0, h1⟩
  · exact h j hj
theorem MI_3 {I A J B : FN} (h : MI I A) (f : Fr3 I A J B) (h4 : 0 ≤ J 300 4 ∧ J 300 4 < 200) (h1 : Rg (B 303)) (h2 : 0 ≤ J 300 7 ∧ J 300 7 ≤ 200) (h3 : Rg (B 305)) (h5 : 0 ≤ J 300 9 ∧ J 300 9 ≤ 200) (h6 : 0 ≤ J 300 13 ∧ J 300 13 ≤ 200) : MI J B := by
  obtain ⟨a1, a2, a3, a4, a5, a6, a7, a8, a9⟩ := h
  refine ⟨by rw [f.a1]; exact a1, h4, h1, h2, h3, h5, h6, ?_, ?_⟩
  · rw [f.fm.1]; exact a8
  · rw [f.fm.2.1, f.a2]; exact a9
theorem MI_4 {I A : FN} {v : Int} (h : MI I A) (h0 : 0 ≤ v) (h1 : v < 200) : MI (up2 I 300 4 v) A := by
  refine MI_3 h (Fr3_uI (by decide) Fr3_rfl) ?_ h.2.2.1 ?_ h.ls ?_ ?_
  · simp only [up2_ud, ud_s]; exact ⟨h0, h1⟩
  · rw [up2_ud, ud_n (by omega)]; exact h.om
  · rw [up2_ud, ud_n (by omega)]; exact h.lm
  · rw [up2_ud, ud_n (by omega)]; exact h.nm
theorem MI_13 {I A : FN} {v : Int} (h : MI I A) (h0 : 0 ≤ v) (h1 : v ≤ 200) : MI (up2 I 300 13 v) A := by
  refine MI_3 h (Fr3_uI (by decide) Fr3_rfl) ?_ h.2.2.1 ?_ h.ls ?_ ?_
  · rw [up2_ud, ud_n (by omega)]; exact h.fb
  · rw [up2_ud, ud_n (by omega)]; exact h.om
  · rw [up2_ud, ud_n (by omega)]; exact h.lm
  · simp only [up2_ud, ud_s]; exact ⟨h0, h1⟩
/-- what a list laid says of its places -/
def LsD (fb : Int) (f : Nat → Int) (s c : Int) (g : Nat → Int) : Prop := ∀ i : Nat, (i : Int) < c → doneG fb f s (g i)
theorem LsD_u {fb : Int} {f : Nat → Int} {s c v : Int} {g : Nat → Int} (h : LsD fb f s c g) (h0 : 0 ≤ c) (hv : doneG fb f s v) : LsD fb f s (c + 1) (ud g c.toNat v) := fun i hi => by
  unfold ud
  split
  · exact hv
  · exact h i (by omega)
theorem LsD_0 {fb : Int} {f : Nat → Int} {s : Int} {g : Nat → Int} : LsD fb f s 0 g := fun i hi => absurd hi (by omega)
theorem Ord_d {fb : Int} {f : Nat → Int} {s c : Int} {g : Nat → Int} (h : OrdOk fb f s c g) {i : Int} (h0 : 0 ≤ i) (h1 : i < c) : doneG fb f s (g i.toNat) := h.2.2.2.1 i.toNat (by omega)
theorem nm_ahead {I A J B : FN} {fb s x : Int} (hM : MI J B) (hd : LsD fb (A 301) s (J 300 9) (B 305)) (hF : Fr3 I A J B) (h0 : 0 ≤ s) (h1 : s < 5) (hx : x = 0 ∨ ∃ k : Nat, (k : Int) < J 300 9 ∧ x = 100 * (B 305 k / 40) + B 305 k % 40 + 1) : nmOk (B 301) x := by
  rcases hx with e | ⟨k, hk, e⟩
  · exact Or.inl (by omega)
  · rw [e]
    have hl := hM.lm
    have hr := hM.ls k (by omega)
    have := hd k hk
    rw [← hF.a1] at this
    exact nm_done hM.mm h0 h1 hr.1 hr.2 this
theorem nm_found {f : Nat → Int} {fb s o x : Int} (hM : Mm f) (h0 : 0 ≤ s) (h1 : s < 5) (h2 : o < 200) (hd : 0 ≤ o → doneG fb f s o) (hx : 0 ≤ o → x = 100 * (o / 40) + o % 40 + 1) (hx2 : o < 0 → x = 0) : nmOk f x := by
  by_cases h : 0 ≤ o
  · rw [hx h]; exact nm_done hM h0 h1 h h2 (hd h)
  · exact Or.inl (by have := hx2 (by omega); omega)
theorem Fr3_I4 {I A J B : FN} {v : Int} : Fr3 (up2 I 300 4 v) A J B = Fr3 I A J B := by
  refine propext ⟨fun h => ⟨fun j a b c d => ?_, h.2⟩, fun h => ⟨fun j a b c d => ?_, h.2⟩⟩
  · rw [h.1 j a b c d]; simp only [up2, true_and]; rw [if_neg a]
  · rw [h.1 j a b c d]; simp only [up2, true_and]; rw [if_neg a]
theorem Fr3.fm0 {I A J B : FN} {v : Int} (h : Fr3 (up2 I 300 0 v) A J B) : Fm I J := by
  have := h.fm
  rwa [Fm_I (by omega) (by omega) (by omega)] at this
