/-! ===== the library's own: max, min, arraycopy ===== -/
def P_max : PT := fun as _ _ => ∃ x y : Int, as = [.inl x, .inl y]
theorem P_max_c {x y : Int} {I A : FN} : P_max [.inl x, .inl y] I A = True := propext ⟨fun _ => trivial, fun _ => ⟨x, y, rfl⟩⟩
def Q_max : QT := fun as I A r I' A' => (I' = I ∧ A' = A) ∧ (∀ x y : Int, as = [.inl x, .inl y] → ∀ z : Int, r = some z → (x ≤ z ∧ y ≤ z ∧ (z = x ∨ z = y)))
theorem Q_max_c {x y z : Int} {I A : FN} : Q_max [.inl x, .inl y] I A (some z) I A = (x ≤ z ∧ y ≤ z ∧ (z = x ∨ z = y)) := propext ⟨fun h => h.2 x y rfl z rfl, fun h => ⟨⟨rfl, rfl⟩, fun _ _ e _ e2 => by cases e; cases e2; exact h⟩⟩
theorem Q_max_ro : ∀ as I A r I' A', Q_max as I A r I' A' → I' = I ∧ A' = A := fun _ _ _ _ _ _ h => h.1
abbrev C_max : Ctr := (1, 2, true, P_max, Q_max, al0)
def P_min : PT := fun as _ _ => ∃ x y : Int, as = [.inl x, .inl y]
theorem P_min_c {x y : Int} {I A : FN} : P_min [.inl x, .inl y] I A = True := propext ⟨fun _ => trivial, fun _ => ⟨x, y, rfl⟩⟩
def Q_min : QT := fun as I A r I' A' => (I' = I ∧ A' = A) ∧ (∀ x y : Int, as = [.inl x, .inl y] → ∀ z : Int, r = some z → (z ≤ x ∧ z ≤ y ∧ (z = x ∨ z = y)))
theorem Q_min_c {x y z : Int} {I A : FN} : Q_min [.inl x, .inl y] I A (some z) I A = (z ≤ x ∧ z ≤ y ∧ (z = x ∨ z = y)) := propext ⟨fun h => h.2 x y rfl z rfl, fun h => ⟨⟨rfl, rfl⟩, fun _ _ e _ e2 => by cases e; cases e2; exact h⟩⟩
theorem Q_min_ro : ∀ as I A r I' A', Q_min as I A r I' A' → I' = I ∧ A' = A := fun _ _ _ _ _ _ h => h.1
abbrev C_min : Ctr := (1, 2, true, P_min, Q_min, al0)
theorem cr_max {X : Cx} {own : String} {bytes : ByteArray} {Ts : List Jvm.Cond} {d idx : Nat} {mx : Nat × Nat} (hX : Fx X own bytes Ts) (hR : RmX X d mx) (hd : 1 ≤ d) (h1 : Jvm.Cond.methodLink own idx Lib.Math.max.name ∈ Ts) (h2 : Jvm.Cond.static Lib.Math.max.name ∈ Ts) (h3 : Jvm.Cond.initialized "java/lang/Math" ∈ Ts) (h4 : Jvm.Cond.code Lib.Math.max.name Lib.Math.max.code 2 (some .int) ∈ Ts) : CR X bytes mx (idx, C_max) := by
  intro q pc ls as rest I A hdc hn hrest hP hq1 hq2 kk
  obtain ⟨x, y, rfl⟩ := hP
  obtain ⟨p, l, e, R, s, m, args, below, meth, c, Q, D, cy, L, lv, S, nL, i77⟩ := X
  have hRR : R = rmD d mx := hR
  subst hRR
  obtain ⟨hx, hb, hml, hown, hts, hK, hSz, hlv, hlk, him⟩ := hX
  intro hI hA hg hst hls H locs la hP hD hS hL
  have hxx : inI x := hst (.inl x) (by simp)
  have hyy : inI y := hst (.inl y) (by simp)
  have hin : inI (if x < y then y else x) := by split <;> assumption
  refine va_mmax (x := oI x) (y := oI y) (rest := rest.map (vv L)) hx hb (by obtain ⟨-, lv0, hl1, -⟩ := hL; rw [hml]; exact hl1.1.symm) hown (hts _ h1) (hts _ h2) (hts _ h3) (hts _ h4) hd (by rw [cat_len]; show rest.length + 13 ≤ 40 * d; omega) hq1 hq2 hdc ?_
  have e1 : (if oI x < oI y then oI y else oI x) = oI (if x < y then y else x) := by
    by_cases h : x < y
    · rw [if_pos h, if_pos ((oI_lt hxx hyy).mpr h)]
    · rw [if_neg h, if_neg (fun z => h ((oI_lt hxx hyy).mp z))]
  rw [e1]
  exact kk (some (if x < y then y else x)) I A rfl (fun z hz => by cases hz; exact hin) ⟨⟨rfl, rfl⟩, fun _ _ e z ez => by cases e; cases ez; split <;> omega⟩ hI hA hg (okS_c (fun v hv => hst v (by simp [hv])) hin) hls H locs la hP hD hS hL
theorem cr_min {X : Cx} {own : String} {bytes : ByteArray} {Ts : List Jvm.Cond} {d idx : Nat} {mx : Nat × Nat} (hX : Fx X own bytes Ts) (hR : RmX X d mx) (hd : 1 ≤ d) (h1 : Jvm.Cond.methodLink own idx Lib.Math.min.name ∈ Ts) (h2 : Jvm.Cond.static Lib.Math.min.name ∈ Ts) (h3 : Jvm.Cond.initialized "java/lang/Math" ∈ Ts) (h4 : Jvm.Cond.code Lib.Math.min.name Lib.Math.min.code 2 (some .int) ∈ Ts) : CR X bytes mx (idx, C_min) := by
  intro q pc ls as rest I A hdc hn hrest hP hq1 hq2 kk
  obtain ⟨x, y, rfl⟩ := hP
  obtain ⟨p, l, e, R, s, m, args, below, meth, c, Q, D, cy, L, lv, S, nL, i77⟩ := X
  have hRR : R = rmD d mx := hR
  subst hRR
  obtain ⟨hx, hb, hml, hown, hts, hK, hSz, hlv, hlk, him⟩ := hX
  intro hI hA hg hst hls H locs la hP hD hS hL
  have hxx : inI x := hst (.inl x) (by simp)
  have hyy : inI y := hst (.inl y) (by simp)
  have hin : inI (if y < x then y else x) := by split <;> assumption
  refine va_mmin (x := oI x) (y := oI y) (rest := rest.map (vv L)) hx hb (by obtain ⟨-, lv0, hl1, -⟩ := hL; rw [hml]; exact hl1.1.symm) hown (hts _ h1) (hts _ h2) (hts _ h3) (hts _ h4) hd (by rw [cat_len]; show rest.length + 13 ≤ 40 * d; omega) hq1 hq2 hdc ?_
  have e1 : (if oI y < oI x then oI y else oI x) = oI (if y < x then y else x) := by
    by_cases h : y < x
    · rw [if_pos h, if_pos ((oI_lt hyy hxx).mpr h)]
    · rw [if_neg h, if_neg (fun z => h ((oI_lt hyy hxx).mp z))]
  rw [e1]
  exact kk (some (if y < x then y else x)) I A rfl (fun z hz => by cases hz; exact hin) ⟨⟨rfl, rfl⟩, fun _ _ e z ez => by cases e; cases ez; split <;> omega⟩ hI hA hg (okS_c (fun v hv => hst v (by simp [hv])) hin) hls H locs la hP hD hS hL
def cpy (A : FN) (r0 r1 : Nat) (sp dp n : Int) : FN := fun r i => if r = r1 ∧ dp ≤ i ∧ (i : Int) < dp + n then A r0 (sp + (i - dp)).toNat else A r i
theorem cpy_n {A : FN} {r0 r1 r : Nat} {sp dp n : Int} (h : r ≠ r1) : cpy A r0 r1 sp dp n r = A r := by
  funext i
  simp [cpy, h]
theorem cpy_s {A : FN} {r0 r1 i : Nat} {sp dp n : Int} : cpy A r0 r1 sp dp n r1 i = if dp ≤ i ∧ (i : Int) < dp + n then A r0 (sp + (i - dp)).toNat else A r1 i := by simp [cpy]
def P_copy : PT := fun as _ _ => ∃ (k0 r0 : Nat) (sp : Int) (k1 r1 : Nat) (dp n : Int), as = [.inr (some (k0, r0)), .inl sp, .inr (some (k1, r1)), .inl dp, .inl n] ∧ (k0 / 10000 = 1 ∧ k1 / 10000 = 1 ∧ 0 ≤ sp ∧ 0 ≤ dp ∧ 0 ≤ n ∧ sp + n ≤ ((k0 % 10000 : Nat) : Int) ∧ dp + n ≤ ((k1 % 10000 : Nat) : Int))
theorem P_copy_c {k0 r0 : Nat} {sp : Int} {k1 r1 : Nat} {dp n : Int} {I A : FN} : P_copy [.inr (some (k0, r0)), .inl sp, .inr (some (k1, r1)), .inl dp, .inl n] I A = (k0 / 10000 = 1 ∧ k1 / 10000 = 1 ∧ 0 ≤ sp ∧ 0 ≤ dp ∧ 0 ≤ n ∧ sp + n ≤ ((k0 % 10000 : Nat) : Int) ∧ dp + n ≤ ((k1 % 10000 : Nat) : Int)) := propext ⟨fun ⟨_, _, _, _, _, _, _, e, h⟩ => by cases e; exact h, fun h => ⟨_, _, _, _, _, _, _, rfl, h⟩⟩
def Q_copy : QT := fun as I A _ I' A' => (I' = I) ∧ ∀ (k0 r0 : Nat) (sp : Int) (k1 r1 : Nat) (dp n : Int), as = [.inr (some (k0, r0)), .inl sp, .inr (some (k1, r1)), .inl dp, .inl n] → A' = cpy A r0 r1 sp dp n
theorem Q_copy_c0 {k0 r0 : Nat} {sp : Int} {k1 r1 : Nat} {dp n : Int} {I A A' : FN} : Q_copy [.inr (some (k0, r0)), .inl sp, .inr (some (k1, r1)), .inl dp, .inl n] I A none I A' = (A' = cpy A r0 r1 sp dp n) := propext ⟨fun h => h.2 _ _ _ _ _ _ _ rfl, fun h => ⟨rfl, fun _ _ _ _ _ _ _ e => by cases e; exact h⟩⟩
theorem Q_copy_iro : ∀ as I A r I' A', Q_copy as I A r I' A' → I' = I := fun _ _ _ _ _ _ h => h.1
abbrev C_copy : Ctr := (1, 5, false, P_copy, Q_copy, al0)
theorem cr_copy {X : Cx} {own : String} {bytes : ByteArray} {Ts : List Jvm.Cond} {d idx : Nat} {mx : Nat × Nat} (hX : Fx X own bytes Ts) (hR : RmX X d mx) (hd : 1 ≤ d) (h1 : Jvm.Cond.methodLink own idx arraycopyName ∈ Ts) (h2 : Jvm.Cond.native arraycopyName ∈ Ts) (h3 : Jvm.Cond.static arraycopyName ∈ Ts) (h4 : Jvm.Cond.initialized "java/lang/System" ∈ Ts) : CR X bytes mx (idx, C_copy) := by
  intro q pc ls as rest I A hdc hn hrest hP hq1 hq2 kk
  obtain ⟨k0, r0, sp, k1, r1, dp, n, rfl, b1, b2, b3, b4, b5, b6, b7⟩ := hP
  obtain ⟨p, l, e, R, s, m, args, below, meth, c, Q, D, cy, L, lv, S, nL, i77⟩ := X
  have hRR : R = rmD d mx := hR
  subst hRR
  obtain ⟨hx, hb, hml, hown, hts, hK, hSz, hlv, hlk, him⟩ := hX
  intro hI hA hg hst hls H locs la hP hD hS hL
  have hsp : inI sp := hst (.inl sp) (by simp)
  have hdp : inI dp := hst (.inl dp) (by simp)
  have hnn : inI n := hst (.inl n) (by simp)
  obtain ⟨hm0, hr0⟩ : r0 ∈ lv ∧ rk r0 = k0 := hst (.inr (some (k0, r0))) (by simp)
  obtain ⟨hm1, hr1⟩ : r1 ∈ lv ∧ rk r1 = k1 := hst (.inr (some (k1, r1))) (by simp)
  obtain ⟨q0, -, hq0⟩ := vg_aget (cy := cy) (L := L) (I := I) (A := A) hm0 hr0 b1 (by omega) (by omega)
  obtain ⟨q1, hq1', hq1⟩ := vg_aget (cy := cy) (L := L) (I := I) (A := A) hm1 hr1 b2 (by omega) (by omega)
  have esp : (oI sp).toNatClampNeg = sp.toNat := oI_cl hsp
  have edp : (oI dp).toNatClampNeg = dp.toNat := oI_cl hdp
  have en : (oI n).toNatClampNeg = n.toNat := oI_cl hnn
  have hfw : ((rest.map (vv L)).map fun v => v.category).sum + (nativeFrameWords "java/lang/System" "arraycopy" 5 + 11) ≤ (rmD d mx).locals := by
    have h0 : nativeFrameWords "java/lang/System" "arraycopy" 5 ≤ 21 := by decide +kernel
    rw [cat_len]
    show rest.length + (nativeFrameWords "java/lang/System" "arraycopy" 5 + 11) ≤ 40 * d
    omega
  refine va_copyi (R := rmD d mx) (rest := rest.map (vv L)) (sp := oI sp) (dp := oI dp) (n := oI n) hx hb (by obtain ⟨-, lv0, hl1, -⟩ := hL; rw [hml]; exact hl1.1.symm) hown (hts _ h1) (hts _ h2) (hts _ h3) (hts _ h4) hK.1 hP hD hS q0 q1 0 0 hq0 hq1 rfl rfl rfl
    (fun h => by have := (oI_lt hsp inI_0).mp h; omega) (fun h => by have := (oI_lt hdp inI_0).mp h; omega) (fun h => by have := (oI_lt hnn inI_0).mp h; omega) (by rw [esp, en]; omega) (by rw [edp, en]; omega) (fun i _ => rfl) hd hfw hdc (fun H1 locs1 hP1 hD1 hS1 => ?_)
  have e2 : (wd cy L lv I A).set q1 (L r1, .inl (cy 1, k1 % 10000, .inl (va_cpy (fun i => oI (A r0 i)) (fun i => oI (A r1 i)) (oI sp).toNatClampNeg (oI dp).toNatClampNeg (oI n).toNatClampNeg))) = wd cy L lv I (cpy A r0 r1 sp dp n) := by
    have e3 : (Sum.inl (cy 1, k1 % 10000, Sum.inl (va_cpy (fun i => oI (A r0 i)) (fun i => oI (A r1 i)) (oI sp).toNatClampNeg (oI dp).toNatClampNeg (oI n).toNatClampNeg)) : va_E) = ce cy L I (cpy A r0 r1 sp dp n) r1 := by
      rw [ce_arr hr1 (by omega) (by omega), b2, esp, edp, en]
      congr 3
      congr 1
      funext j
      rw [cpy_s]
      unfold va_cpy
      by_cases hj : dp.toNat ≤ j ∧ j < dp.toNat + n.toNat
      · rw [if_pos hj, if_pos (by omega)]
        congr 2
        omega
      · rw [if_neg hj, if_neg (by omega)]
    rw [e3]
    exact wd_set hD hq1' (fun a ha => ce_same rfl (cpy_n ha))
  rw [e2] at hP1 hD1
  have hok : okF (cpy A r0 r1 sp dp n) := fun r i => by
    unfold cpy
    split
    · exact hA _ _
    · exact hA _ _
  have h9 := kk none I (cpy A r0 r1 sp dp n) rfl (fun z hz => absurd hz (by simp)) ⟨rfl, fun _ _ _ _ _ _ _ e => by cases e; rfl⟩ hI hok hg (fun v hv => hst v (by simp [psh] at hv; simp [hv])) hls H1 locs1 la hP1 hD1 hS1 hL
  exact h9
theorem r_X3_88 {X : Cx} {bytes : ByteArray} {c0 : Jvm.Cond} {d : Nat} {mx : Nat × Nat} (hX : Fx X RX3 bytes (c0 :: W0)) (hR : RmX X d mx) (hd : 1 + 1 ≤ d) : CR X bytes mx (88, C_min) := cr_min hX hR (by omega) (List.mem_cons_of_mem _ (mW0 (List.mem_of_getElem? (i := 16) rfl))) (List.mem_cons_of_mem _ (mW0 (List.mem_of_getElem? (i := 17) rfl))) (List.mem_cons_of_mem _ (mW0 (List.mem_of_getElem? (i := 18) rfl))) (List.mem_cons_of_mem _ (mW0 (List.mem_of_getElem? (i := 19) rfl)))
theorem r_X6_13 {X : Cx} {bytes : ByteArray} {c0 : Jvm.Cond} {d : Nat} {mx : Nat × Nat} (hX : Fx X RX6 bytes (c0 :: W0)) (hR : RmX X d mx) (hd : 1 + 1 ≤ d) : CR X bytes mx (13, C_min) := cr_min hX hR (by omega) (List.mem_cons_of_mem _ (mW2 (List.mem_of_getElem? (i := 5) rfl))) (List.mem_cons_of_mem _ (mW0 (List.mem_of_getElem? (i := 17) rfl))) (List.mem_cons_of_mem _ (mW0 (List.mem_of_getElem? (i := 18) rfl))) (List.mem_cons_of_mem _ (mW0 (List.mem_of_getElem? (i := 19) rfl)))
theorem r_X7_19 {X : Cx} {bytes : ByteArray} {c0 : Jvm.Cond} {d : Nat} {mx : Nat × Nat} (hX : Fx X RX7 bytes (c0 :: W0)) (hR : RmX X d mx) (hd : 1 + 1 ≤ d) : CR X bytes mx (19, C_min) := cr_min hX hR (by omega) (List.mem_cons_of_mem _ (mW4 (List.mem_of_getElem? (i := 57) rfl))) (List.mem_cons_of_mem _ (mW0 (List.mem_of_getElem? (i := 17) rfl))) (List.mem_cons_of_mem _ (mW0 (List.mem_of_getElem? (i := 18) rfl))) (List.mem_cons_of_mem _ (mW0 (List.mem_of_getElem? (i := 19) rfl)))
theorem r_X9_271 {X : Cx} {bytes : ByteArray} {c0 : Jvm.Cond} {d : Nat} {mx : Nat × Nat} (hX : Fx X RX9 bytes (c0 :: W0)) (hR : RmX X d mx) (hd : 1 + 1 ≤ d) : CR X bytes mx (271, C_min) := cr_min hX hR (by omega) (List.mem_cons_of_mem _ (mW8 (List.mem_of_getElem? (i := 54) rfl))) (List.mem_cons_of_mem _ (mW0 (List.mem_of_getElem? (i := 17) rfl))) (List.mem_cons_of_mem _ (mW0 (List.mem_of_getElem? (i := 18) rfl))) (List.mem_cons_of_mem _ (mW0 (List.mem_of_getElem? (i := 19) rfl)))
theorem r_X8_78 {X : Cx} {bytes : ByteArray} {c0 : Jvm.Cond} {d : Nat} {mx : Nat × Nat} (hX : Fx X RX8 bytes (c0 :: W0)) (hR : RmX X d mx) (hd : 1 + 1 ≤ d) : CR X bytes mx (78, C_max) := cr_max hX hR (by omega) (List.mem_cons_of_mem _ (mW2 (List.mem_of_getElem? (i := 37) rfl))) (List.mem_cons_of_mem _ (mW2 (List.mem_of_getElem? (i := 38) rfl))) (List.mem_cons_of_mem _ (mW0 (List.mem_of_getElem? (i := 18) rfl))) (List.mem_cons_of_mem _ (mW2 (List.mem_of_getElem? (i := 39) rfl)))
theorem r_X9_266 {X : Cx} {bytes : ByteArray} {c0 : Jvm.Cond} {d : Nat} {mx : Nat × Nat} (hX : Fx X RX9 bytes (c0 :: W0)) (hR : RmX X d mx) (hd : 1 + 1 ≤ d) : CR X bytes mx (266, C_max) := cr_max hX hR (by omega) (List.mem_cons_of_mem _ (mW8 (List.mem_of_getElem? (i := 38) rfl))) (List.mem_cons_of_mem _ (mW2 (List.mem_of_getElem? (i := 38) rfl))) (List.mem_cons_of_mem _ (mW0 (List.mem_of_getElem? (i := 18) rfl))) (List.mem_cons_of_mem _ (mW2 (List.mem_of_getElem? (i := 39) rfl)))
theorem r_X5_49 {X : Cx} {bytes : ByteArray} {c0 : Jvm.Cond} {d : Nat} {mx : Nat × Nat} (hX : Fx X RX5 bytes (c0 :: W0)) (hR : RmX X d mx) (hd : 1 + 1 ≤ d) : CR X bytes mx (49, C_copy) := cr_copy hX hR (by omega) (List.mem_cons_of_mem _ (mW2 (List.mem_of_getElem? (i := 0) rfl))) (List.mem_cons_of_mem _ (mW2 (List.mem_of_getElem? (i := 1) rfl))) (List.mem_cons_of_mem _ (mW2 (List.mem_of_getElem? (i := 2) rfl))) (List.mem_cons_of_mem _ (mW2 (List.mem_of_getElem? (i := 3) rfl)))
theorem r_X6_19 {X : Cx} {bytes : ByteArray} {c0 : Jvm.Cond} {d : Nat} {mx : Nat × Nat} (hX : Fx X RX6 bytes (c0 :: W0)) (hR : RmX X d mx) (hd : 1 + 1 ≤ d) : CR X bytes mx (19, C_copy) := cr_copy hX hR (by omega) (List.mem_cons_of_mem _ (mW2 (List.mem_of_getElem? (i := 6) rfl))) (List.mem_cons_of_mem _ (mW2 (List.mem_of_getElem? (i := 1) rfl))) (List.mem_cons_of_mem _ (mW2 (List.mem_of_getElem? (i := 2) rfl))) (List.mem_cons_of_mem _ (mW2 (List.mem_of_getElem? (i := 3) rfl)))
theorem r_X4_33 {X : Cx} {bytes : ByteArray} {c0 : Jvm.Cond} {d : Nat} {mx : Nat × Nat} (hX : Fx X RX4 bytes (c0 :: W0)) (hR : RmX X d mx) (hd : 1 + 1 ≤ d) : CR X bytes mx (33, C_copy) := cr_copy hX hR (by omega) (List.mem_cons_of_mem _ (mW2 (List.mem_of_getElem? (i := 9) rfl))) (List.mem_cons_of_mem _ (mW2 (List.mem_of_getElem? (i := 1) rfl))) (List.mem_cons_of_mem _ (mW2 (List.mem_of_getElem? (i := 2) rfl))) (List.mem_cons_of_mem _ (mW2 (List.mem_of_getElem? (i := 3) rfl)))
theorem r_X8_53 {X : Cx} {bytes : ByteArray} {c0 : Jvm.Cond} {d : Nat} {mx : Nat × Nat} (hX : Fx X RX8 bytes (c0 :: W0)) (hR : RmX X d mx) (hd : 1 + 1 ≤ d) : CR X bytes mx (53, C_copy) := cr_copy hX hR (by omega) (List.mem_cons_of_mem _ (mW2 (List.mem_of_getElem? (i := 10) rfl))) (List.mem_cons_of_mem _ (mW2 (List.mem_of_getElem? (i := 1) rfl))) (List.mem_cons_of_mem _ (mW2 (List.mem_of_getElem? (i := 2) rfl))) (List.mem_cons_of_mem _ (mW2 (List.mem_of_getElem? (i := 3) rfl)))
def flJ7 : FLT := flk []
def ftJ7 : List (Nat × Nat × Nat × Nat × Nat × Nat) := []
theorem ftJ7_ok {c0 : Jvm.Cond} : ∀ e ∈ ([] : List (Nat × Nat × Nat × Nat × Nat × Nat)), FL RJ7 (c0 :: W0) e.1 e.2.1 e.2.2.1 ∧ kF e.2.1 e.2.2.1 = e.2.2.2 := fun _ h => absurd h List.not_mem_nil
