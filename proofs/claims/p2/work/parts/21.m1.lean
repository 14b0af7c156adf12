/-- X10_within -/
def P_X10_within : PT := fun as I A => ∃ (v : Int) (lo : Int) (hi : Int), as = [.inl v, .inl lo, .inl hi] ∧ (True)
theorem P_X10_within_c {v : Int} {lo : Int} {hi : Int} {I A : FN} : P_X10_within [.inl v, .inl lo, .inl hi] I A = (True) := propext ⟨fun ⟨_, _, _, e, h⟩ => by cases e; exact h, fun h => ⟨_, _, _, rfl, h⟩⟩
def Q_X10_within : QT := fun as I A r I' A' => (I' = I ∧ A' = A) ∧ ∀ (v : Int) (lo : Int) (hi : Int), as = [.inl v, .inl lo, .inl hi] → ∀ x : Int, r = some x → (x = bI (lo ≤ v ∧ v ≤ hi))
theorem Q_X10_within_c {v : Int} {lo : Int} {hi : Int} {I A : FN} {x : Int} {I' A' : FN} : Q_X10_within [.inl v, .inl lo, .inl hi] I A (some x) I' A' = ((I' = I ∧ A' = A) ∧ (x = bI (lo ≤ v ∧ v ≤ hi))) := propext ⟨fun h => ⟨h.1, h.2 _ _ _ rfl x rfl⟩, fun h => ⟨h.1, fun _ _ _ e _ e2 => by cases e; cases e2; exact h.2⟩⟩
theorem Q_X10_within_c0 {v : Int} {lo : Int} {hi : Int} {I A : FN} {x : Int} : Q_X10_within [.inl v, .inl lo, .inl hi] I A (some x) I A = (x = bI (lo ≤ v ∧ v ≤ hi)) := by rw [Q_X10_within_c]; simp only [true_and]
theorem Q_X10_within_ro : ∀ as I A r I' A', Q_X10_within as I A r I' A' → I' = I ∧ A' = A := fun _ _ _ _ _ _ h => h.1
set_option maxHeartbeats 4000000 in
set_option maxRecDepth 100000 in
theorem c_X10_within : MetC yX10_within (.code yX10_within cX10_within 3 (some .boolean) :: W0) 1 true P_X10_within Q_X10_within al0 := by
  refine MetC_of (rt := 2) (by decide) (Or.inr (Or.inr ⟨rfl, rfl, rfl⟩)) ?_ ?_
  · rintro as I A ⟨v, lo, hi, rfl, hp⟩
    exact Nat.le_of_ble_eq_true rfl
  · rintro X as I A hX hR hT ⟨v, lo, hi, rfl, hp⟩ hI hA
    have E : Env0 X RX10 cX10_within _ flX10 lcX10 (lk []) _ 2 (0, 0) := ⟨hX, flk_ok _ ftX10_ok, lcX10_ok, lk_ok _ ((fun _ h => absurd h List.not_mem_nil)), hT⟩
    refine wp_sound E (wr := []) (cut := []) 400 _ _ _ _ _ _ ?_
    simp only [entL, List.map_cons, List.map_nil, List.length_cons, List.length_nil, Nat.reduceAdd, Nat.reduceSub, Nat.reduceDiv, Nat.reduceMod, Nat.reduceLeDiff, Nat.reduceEqDiff, List.replicate, List.append_nil, List.cons_append, List.nil_append, wp_u, List.elem_nil, List.elem_cons, Nat.reduceBEq, Bool.or_false, Bool.false_or, Bool.true_or, Bool.or_true, ↓reduceIte, Bool.false_eq_true, if_false, if_true, e_ok, f4_0, f4_1, f4_2, f4_3, lgetK, lputK, isI_c, isR_c, popR_c, popI_c, popV_c, fget_0, fget_1, fget_2, fput_0, fput_2, true_and, and_true, rtOk_1, rtOk_2, cmpP, spl, arI_t, arI_f, dvI_t, dvI_f, rmI_t, rmI_f, al0_e, Nat.add_zero, Nat.zero_add, Nat.le_refl, and_imp, ne_eq, Option.some.injEq, swc, swOk, reduceCtorEq, false_or, or_false, Nat.zero_le, Decidable.not_not, gt_iff_lt, ge_iff_le, forall_eq, bI_e0, bI_e1, bI_0e, bI_1e, bI_01, bI_lo, bI_hi, true_implies, forall_const, or_true, true_or, not_true_eq_false, not_false_eq_true, Int.reduceLE, Int.reduceNeg, false_implies, implies_true, Int.toNat_zero, dX10_within_0, dX10_within_1, dX10_within_2, (show tg 2 12 = 14 from rfl), (eq_true (by decide) : (0 ≤ ((2 : Nat) : Int) + 12) = True), dX10_within_5, dX10_within_6, dX10_within_7, (show tg 7 7 = 14 from rfl), (eq_true (by decide) : (0 ≤ ((7 : Nat) : Int) + 7) = True), dX10_within_10, dX10_within_11, (show tg 11 4 = 15 from rfl), (eq_true (by decide) : (0 ≤ ((11 : Nat) : Int) + 4) = True), dX10_within_14, dX10_within_15, e_goto, e_iconst, e_if_icmp, e_iload_n, e_ireturn, Q_X10_within_c0]
    (repeat' first | intro _ | refine And.intro ?_ ?_)
    all_goals first | omega | rfl | (congr 2; omega) | (refine bI_cg ?_; omega) | assumption | skip
theorem r_X10_55 {X : Cx} {bytes : ByteArray} {c0 : Jvm.Cond} {d : Nat} {mx : Nat × Nat} (hX : Fx X RX10 bytes (c0 :: W0)) (hR : RmX X d mx) (hd : 1 + 1 ≤ d) : CR X bytes mx (55, (1, 3, true, P_X10_within, Q_X10_within, al0)) := cr_S hX hR c_X10_within hd (by decide) (gdS (mW10 (List.mem_of_getElem? (i := 24) rfl)) (mW10 (List.mem_of_getElem? (i := 25) rfl)) (mW10 (List.mem_of_getElem? (i := 20) rfl)) (mW10 (List.mem_of_getElem? (i := 21) rfl))) (by decide +kernel)

/-- X10_siteOf -/
def P_X10_siteOf : PT := fun as I A => ∃ (o : Int), as = [.inl o] ∧ (True)
theorem P_X10_siteOf_c {o : Int} {I A : FN} : P_X10_siteOf [.inl o] I A = (True) := propext ⟨fun ⟨_, e, h⟩ => by cases e; exact h, fun h => ⟨_, rfl, h⟩⟩
def Q_X10_siteOf : QT := fun as I A r I' A' => (I' = I ∧ A' = A) ∧ ∀ (o : Int), as = [.inl o] → ∀ x : Int, r = some x → ((0 ≤ o → x = o / 40) ∧ (o < 0 → x = -((-o) / 40)))
theorem Q_X10_siteOf_c {o : Int} {I A : FN} {x : Int} {I' A' : FN} : Q_X10_siteOf [.inl o] I A (some x) I' A' = ((I' = I ∧ A' = A) ∧ ((0 ≤ o → x = o / 40) ∧ (o < 0 → x = -((-o) / 40)))) := propext ⟨fun h => ⟨h.1, h.2 _ rfl x rfl⟩, fun h => ⟨h.1, fun _ e _ e2 => by cases e; cases e2; exact h.2⟩⟩
theorem Q_X10_siteOf_c0 {o : Int} {I A : FN} {x : Int} : Q_X10_siteOf [.inl o] I A (some x) I A = ((0 ≤ o → x = o / 40) ∧ (o < 0 → x = -((-o) / 40))) := by rw [Q_X10_siteOf_c]; simp only [true_and]
theorem Q_X10_siteOf_ro : ∀ as I A r I' A', Q_X10_siteOf as I A r I' A' → I' = I ∧ A' = A := fun _ _ _ _ _ _ h => h.1
set_option maxHeartbeats 4000000 in
set_option maxRecDepth 100000 in
theorem c_X10_siteOf : MetC yX10_siteOf (.code yX10_siteOf cX10_siteOf 1 (some .int) :: W0) 1 true P_X10_siteOf Q_X10_siteOf al0 := by
  refine MetC_of (rt := 1) (by decide) (Or.inr (Or.inl ⟨rfl, rfl, rfl⟩)) ?_ ?_
  · rintro as I A ⟨o, rfl, hp⟩
    exact Nat.le_of_ble_eq_true rfl
  · rintro X as I A hX hR hT ⟨o, rfl, hp⟩ hI hA
    have E : Env0 X RX10 cX10_siteOf _ flX10 lcX10 (lk []) _ 1 (0, 0) := ⟨hX, flk_ok _ ftX10_ok, lcX10_ok, lk_ok _ ((fun _ h => absurd h List.not_mem_nil)), hT⟩
    refine wp_sound E (wr := [3]) (cut := []) 400 _ _ _ _ _ _ ?_
    simp only [entL, List.map_cons, List.map_nil, List.length_cons, List.length_nil, Nat.reduceAdd, Nat.reduceSub, Nat.reduceDiv, Nat.reduceMod, Nat.reduceLeDiff, Nat.reduceEqDiff, List.replicate, List.append_nil, List.cons_append, List.nil_append, wp_u, List.elem_nil, List.elem_cons, Nat.reduceBEq, Bool.or_false, Bool.false_or, Bool.true_or, Bool.or_true, ↓reduceIte, Bool.false_eq_true, if_false, if_true, e_ok, f4_0, f4_1, f4_2, f4_3, lgetK, lputK, isI_c, isR_c, popR_c, popI_c, popV_c, fget_0, fget_1, fget_2, fput_0, fput_2, true_and, and_true, rtOk_1, rtOk_2, cmpP, spl, arI_t, arI_f, dvI_t, dvI_f, rmI_t, rmI_f, al0_e, Nat.add_zero, Nat.zero_add, Nat.le_refl, and_imp, ne_eq, Option.some.injEq, swc, swOk, reduceCtorEq, false_or, or_false, Nat.zero_le, Decidable.not_not, gt_iff_lt, ge_iff_le, forall_eq, bI_e0, bI_e1, bI_0e, bI_1e, bI_01, bI_lo, bI_hi, true_implies, forall_const, or_true, true_or, not_true_eq_false, not_false_eq_true, Int.reduceLE, Int.reduceNeg, false_implies, implies_true, Int.toNat_zero, dX10_siteOf_0, dX10_siteOf_1, dX10_siteOf_3, dX10_siteOf_4, e_bipush, e_idiv, e_iload_n, e_ireturn, Q_X10_siteOf_c0]
    (repeat' first | intro _ | refine And.intro ?_ ?_)
    all_goals first | omega | rfl | (congr 2; omega) | (refine bI_cg ?_; omega) | assumption | skip
theorem r_X10_67 {X : Cx} {bytes : ByteArray} {c0 : Jvm.Cond} {d : Nat} {mx : Nat × Nat} (hX : Fx X RX10 bytes (c0 :: W0)) (hR : RmX X d mx) (hd : 1 + 1 ≤ d) : CR X bytes mx (67, (1, 1, true, P_X10_siteOf, Q_X10_siteOf, al0)) := cr_S hX hR c_X10_siteOf hd (by decide) (gdS (mW10 (List.mem_of_getElem? (i := 40) rfl)) (mW10 (List.mem_of_getElem? (i := 41) rfl)) (mW10 (List.mem_of_getElem? (i := 20) rfl)) (mW10 (List.mem_of_getElem? (i := 38) rfl))) (by decide +kernel)

/-- X10_nameOf -/
def P_X10_nameOf : PT := fun as I A => ∃ (o : Int), as = [.inl o] ∧ (-1 ≤ o ∧ o < 200)
theorem P_X10_nameOf_c {o : Int} {I A : FN} : P_X10_nameOf [.inl o] I A = (-1 ≤ o ∧ o < 200) := propext ⟨fun ⟨_, e, h⟩ => by cases e; exact h, fun h => ⟨_, rfl, h⟩⟩
def Q_X10_nameOf : QT := fun as I A r I' A' => (I' = I ∧ A' = A) ∧ ∀ (o : Int), as = [.inl o] → ∀ x : Int, r = some x → ((0 ≤ o → x = 100 * (o / 40) + o % 40 + 1) ∧ -100 ≤ x ∧ x ≤ 500)
theorem Q_X10_nameOf_c {o : Int} {I A : FN} {x : Int} {I' A' : FN} : Q_X10_nameOf [.inl o] I A (some x) I' A' = ((I' = I ∧ A' = A) ∧ ((0 ≤ o → x = 100 * (o / 40) + o % 40 + 1) ∧ -100 ≤ x ∧ x ≤ 500)) := propext ⟨fun h => ⟨h.1, h.2 _ rfl x rfl⟩, fun h => ⟨h.1, fun _ e _ e2 => by cases e; cases e2; exact h.2⟩⟩
theorem Q_X10_nameOf_c0 {o : Int} {I A : FN} {x : Int} : Q_X10_nameOf [.inl o] I A (some x) I A = ((0 ≤ o → x = 100 * (o / 40) + o % 40 + 1) ∧ -100 ≤ x ∧ x ≤ 500) := by rw [Q_X10_nameOf_c]; simp only [true_and]
theorem Q_X10_nameOf_ro : ∀ as I A r I' A', Q_X10_nameOf as I A r I' A' → I' = I ∧ A' = A := fun _ _ _ _ _ _ h => h.1
set_option maxHeartbeats 4000000 in
set_option maxRecDepth 100000 in
theorem c_X10_nameOf : MetC yX10_nameOf (.code yX10_nameOf cX10_nameOf 1 (some .int) :: W0) 1 true P_X10_nameOf Q_X10_nameOf al0 := by
  refine MetC_of (rt := 1) (by decide) (Or.inr (Or.inl ⟨rfl, rfl, rfl⟩)) ?_ ?_
  · rintro as I A ⟨o, rfl, hp⟩
    exact Nat.le_of_ble_eq_true rfl
  · rintro X as I A hX hR hT ⟨o, rfl, hp⟩ hI hA
    have E : Env0 X RX10 cX10_nameOf _ flX10 lcX10 (lk []) _ 1 (0, 0) := ⟨hX, flk_ok _ ftX10_ok, lcX10_ok, lk_ok _ ((fun _ h => absurd h List.not_mem_nil)), hT⟩
    refine wp_sound E (wr := [5, 10]) (cut := []) 400 _ _ _ _ _ _ ?_
    simp only [entL, List.map_cons, List.map_nil, List.length_cons, List.length_nil, Nat.reduceAdd, Nat.reduceSub, Nat.reduceDiv, Nat.reduceMod, Nat.reduceLeDiff, Nat.reduceEqDiff, List.replicate, List.append_nil, List.cons_append, List.nil_append, wp_u, List.elem_nil, List.elem_cons, Nat.reduceBEq, Bool.or_false, Bool.false_or, Bool.true_or, Bool.or_true, ↓reduceIte, Bool.false_eq_true, if_false, if_true, e_ok, f4_0, f4_1, f4_2, f4_3, lgetK, lputK, isI_c, isR_c, popR_c, popI_c, popV_c, fget_0, fget_1, fget_2, fput_0, fput_2, true_and, and_true, rtOk_1, rtOk_2, cmpP, spl, arI_t, arI_f, dvI_t, dvI_f, rmI_t, rmI_f, al0_e, Nat.add_zero, Nat.zero_add, Nat.le_refl, and_imp, ne_eq, Option.some.injEq, swc, swOk, reduceCtorEq, false_or, or_false, Nat.zero_le, Decidable.not_not, gt_iff_lt, ge_iff_le, forall_eq, bI_e0, bI_e1, bI_0e, bI_1e, bI_01, bI_lo, bI_hi, true_implies, forall_const, or_true, true_or, not_true_eq_false, not_false_eq_true, Int.reduceLE, Int.reduceNeg, false_implies, implies_true, Int.toNat_zero, dX10_nameOf_0, dX10_nameOf_2, dX10_nameOf_3, dX10_nameOf_5, dX10_nameOf_6, dX10_nameOf_7, dX10_nameOf_8, dX10_nameOf_10, dX10_nameOf_11, dX10_nameOf_12, dX10_nameOf_13, dX10_nameOf_14, e_bipush, e_iadd, e_iconst, e_idiv, e_iload_n, e_imul, e_irem, e_ireturn, Q_X10_nameOf_c0]
    (repeat' first | intro _ | refine And.intro ?_ ?_)
    all_goals first | omega | rfl | (congr 2; omega) | (refine bI_cg ?_; omega) | assumption | skip
theorem r_X10_128 {X : Cx} {bytes : ByteArray} {c0 : Jvm.Cond} {d : Nat} {mx : Nat × Nat} (hX : Fx X RX10 bytes (c0 :: W0)) (hR : RmX X d mx) (hd : 1 + 1 ≤ d) : CR X bytes mx (128, (1, 1, true, P_X10_nameOf, Q_X10_nameOf, al0)) := cr_S hX hR c_X10_nameOf hd (by decide) (gdS (mW11 (List.mem_of_getElem? (i := 42) rfl)) (mW11 (List.mem_of_getElem? (i := 43) rfl)) (mW10 (List.mem_of_getElem? (i := 20) rfl)) (mW10 (List.mem_of_getElem? (i := 32) rfl))) (by decide +kernel)

/-- X10_isSite -/
def P_X10_isSite : PT := fun as I A => ∃ (s : Int), as = [.inr (some (8, 300)), .inl s] ∧ (Mm (A 301))
theorem P_X10_isSite_c {s : Int} {I A : FN} : P_X10_isSite [.inr (some (8, 300)), .inl s] I A = (Mm (A 301)) := propext ⟨fun ⟨_, e, h⟩ => by cases e; exact h, fun h => ⟨_, rfl, h⟩⟩
def Q_X10_isSite : QT := fun as I A r I' A' => (I' = I ∧ A' = A) ∧ ∀ (s : Int), as = [.inr (some (8, 300)), .inl s] → ∀ x : Int, r = some x → (x = bI (0 ≤ s ∧ s < A 301 0))
theorem Q_X10_isSite_c {s : Int} {I A : FN} {x : Int} {I' A' : FN} : Q_X10_isSite [.inr (some (8, 300)), .inl s] I A (some x) I' A' = ((I' = I ∧ A' = A) ∧ (x = bI (0 ≤ s ∧ s < A 301 0))) := propext ⟨fun h => ⟨h.1, h.2 _ rfl x rfl⟩, fun h => ⟨h.1, fun _ e _ e2 => by cases e; cases e2; exact h.2⟩⟩
theorem Q_X10_isSite_c0 {s : Int} {I A : FN} {x : Int} : Q_X10_isSite [.inr (some (8, 300)), .inl s] I A (some x) I A = (x = bI (0 ≤ s ∧ s < A 301 0)) := by rw [Q_X10_isSite_c]; simp only [true_and]
theorem Q_X10_isSite_ro : ∀ as I A r I' A', Q_X10_isSite as I A r I' A' → I' = I ∧ A' = A := fun _ _ _ _ _ _ h => h.1
set_option maxHeartbeats 4000000 in
set_option maxRecDepth 100000 in
theorem c_X10_isSite : MetC yX10_isSite (.code yX10_isSite cX10_isSite 2 (some .boolean) :: W0) 2 true P_X10_isSite Q_X10_isSite al0 := by
  refine MetC_of (rt := 2) (by decide) (Or.inr (Or.inr ⟨rfl, rfl, rfl⟩)) ?_ ?_
  · rintro as I A ⟨s, rfl, hp⟩
    exact Nat.le_of_ble_eq_true rfl
  · rintro X as I A hX hR hT ⟨s, rfl, hp⟩ hI hA
    have E : Env0 X RX10 cX10_isSite _ flX10 lcX10 (lk [(55, (1, 3, true, P_X10_within, Q_X10_within, al0))]) _ 2 (0, 0) := ⟨hX, flk_ok _ ftX10_ok, lcX10_ok, lk_ok _ (List.forall_mem_cons.mpr ⟨r_X10_55 hX hR (by decide), (fun _ h => absurd h List.not_mem_nil)⟩), hT⟩
    refine wp_sound E (wr := []) (cut := []) 400 _ _ _ _ _ _ ?_
    simp only [entL, List.map_cons, List.map_nil, List.length_cons, List.length_nil, Nat.reduceAdd, Nat.reduceSub, Nat.reduceDiv, Nat.reduceMod, Nat.reduceLeDiff, Nat.reduceEqDiff, List.replicate, List.append_nil, List.cons_append, List.nil_append, wp_u, List.elem_nil, List.elem_cons, Nat.reduceBEq, Bool.or_false, Bool.false_or, Bool.true_or, Bool.or_true, ↓reduceIte, Bool.false_eq_true, if_false, if_true, e_ok, f4_0, f4_1, f4_2, f4_3, lgetK, lputK, isI_c, isR_c, popR_c, popI_c, popV_c, fget_0, fget_1, fget_2, fput_0, fput_2, true_and, and_true, rtOk_1, rtOk_2, cmpP, spl, arI_t, arI_f, dvI_t, dvI_f, rmI_t, rmI_f, al0_e, Nat.add_zero, Nat.zero_add, Nat.le_refl, and_imp, ne_eq, Option.some.injEq, swc, swOk, reduceCtorEq, false_or, or_false, Nat.zero_le, Decidable.not_not, gt_iff_lt, ge_iff_le, forall_eq, bI_e0, bI_e1, bI_0e, bI_1e, bI_01, bI_lo, bI_hi, true_implies, forall_const, or_true, true_or, not_true_eq_false, not_false_eq_true, Int.reduceLE, Int.reduceNeg, false_implies, implies_true, Int.toNat_zero, dX10_isSite_0, dX10_isSite_1, dX10_isSite_2, dX10_isSite_3, dX10_isSite_6, dX10_isSite_7, dX10_isSite_8, dX10_isSite_9, dX10_isSite_10, dX10_isSite_13, e_aload_n, e_getfield, e_iaload, e_iconst, e_iload_n, e_invokestatic, e_ireturn, e_isub, fX10_13_8, cal_r (show lk [(55, (1, 3, true, P_X10_within, Q_X10_within, al0))] 55 = some (1, 3, true, P_X10_within, Q_X10_within, al0) from rfl) Q_X10_within_ro, P_X10_within_c, Q_X10_within_c0, Q_X10_isSite_c0]
    (repeat' first | intro _ | refine And.intro ?_ ?_)
    all_goals first | omega | rfl | (congr 2; omega) | (refine bI_cg ?_; omega) | assumption | skip
theorem r_X10_63 {X : Cx} {bytes : ByteArray} {c0 : Jvm.Cond} {d : Nat} {mx : Nat × Nat} (hX : Fx X RX10 bytes (c0 :: W0)) (hR : RmX X d mx) (hd : 2 + 1 ≤ d) : CR X bytes mx (63, (0, 2, true, P_X10_isSite, Q_X10_isSite, al0)) := cr_V hX hR c_X10_isSite hd (by decide) (gdV (mW10 (List.mem_of_getElem? (i := 34) rfl)) (mW10 (List.mem_of_getElem? (i := 35) rfl)) (mW10 (List.mem_of_getElem? (i := 36) rfl)) (mW10 (List.mem_of_getElem? (i := 20) rfl)) (mW10 (List.mem_of_getElem? (i := 26) rfl))) (ci := 8) rfl (by decide +kernel) (fun as I A hh => by obtain ⟨s, e, hp⟩ := hh; exact ⟨8, 300, _, e, by decide, by decide⟩)

/-- X10_told -/
def P_X10_told : PT := fun as I A => ∃ (o : Int) (w : Int), as = [.inr (some (8, 300)), .inl o, .inl w] ∧ (-1 ≤ o ∧ o < 200 ∧ 0 ≤ w ∧ w < 10 ∧ 0 ≤ 8 + 10 * o + w)
theorem P_X10_told_c {o : Int} {w : Int} {I A : FN} : P_X10_told [.inr (some (8, 300)), .inl o, .inl w] I A = (-1 ≤ o ∧ o < 200 ∧ 0 ≤ w ∧ w < 10 ∧ 0 ≤ 8 + 10 * o + w) := propext ⟨fun ⟨_, _, e, h⟩ => by cases e; exact h, fun h => ⟨_, _, rfl, h⟩⟩
def Q_X10_told : QT := fun as I A r I' A' => (I' = I ∧ A' = A) ∧ ∀ (o : Int) (w : Int), as = [.inr (some (8, 300)), .inl o, .inl w] → ∀ x : Int, r = some x → (x = tF A o w)
theorem Q_X10_told_c {o : Int} {w : Int} {I A : FN} {x : Int} {I' A' : FN} : Q_X10_told [.inr (some (8, 300)), .inl o, .inl w] I A (some x) I' A' = ((I' = I ∧ A' = A) ∧ (x = tF A o w)) := propext ⟨fun h => ⟨h.1, h.2 _ _ rfl x rfl⟩, fun h => ⟨h.1, fun _ _ e _ e2 => by cases e; cases e2; exact h.2⟩⟩
theorem Q_X10_told_c0 {o : Int} {w : Int} {I A : FN} {x : Int} : Q_X10_told [.inr (some (8, 300)), .inl o, .inl w] I A (some x) I A = (x = tF A o w) := by rw [Q_X10_told_c]; simp only [true_and]
theorem Q_X10_told_ro : ∀ as I A r I' A', Q_X10_told as I A r I' A' → I' = I ∧ A' = A := fun _ _ _ _ _ _ h => h.1
set_option maxHeartbeats 4000000 in
set_option maxRecDepth 100000 in
theorem c_X10_told : MetC yX10_told (.code yX10_told cX10_told 3 (some .int) :: W0) 1 true P_X10_told Q_X10_told al0 := by
  refine MetC_of (rt := 1) (by decide) (Or.inr (Or.inl ⟨rfl, rfl, rfl⟩)) ?_ ?_
  · rintro as I A ⟨o, w, rfl, hp⟩
    exact Nat.le_of_ble_eq_true rfl
  · rintro X as I A hX hR hT ⟨o, w, rfl, hp⟩ hI hA
    have E : Env0 X RX10 cX10_told _ flX10 lcX10 (lk []) _ 1 (0, 0) := ⟨hX, flk_ok _ ftX10_ok, lcX10_ok, lk_ok _ ((fun _ h => absurd h List.not_mem_nil)), hT⟩
    refine wp_sound E (wr := []) (cut := []) 400 _ _ _ _ _ _ ?_
    simp only [entL, List.map_cons, List.map_nil, List.length_cons, List.length_nil, Nat.reduceAdd, Nat.reduceSub, Nat.reduceDiv, Nat.reduceMod, Nat.reduceLeDiff, Nat.reduceEqDiff, List.replicate, List.append_nil, List.cons_append, List.nil_append, wp_u, List.elem_nil, List.elem_cons, Nat.reduceBEq, Bool.or_false, Bool.false_or, Bool.true_or, Bool.or_true, ↓reduceIte, Bool.false_eq_true, if_false, if_true, e_ok, f4_0, f4_1, f4_2, f4_3, lgetK, lputK, isI_c, isR_c, popR_c, popI_c, popV_c, fget_0, fget_1, fget_2, fput_0, fput_2, true_and, and_true, rtOk_1, rtOk_2, cmpP, spl, arI_t, arI_f, dvI_t, dvI_f, rmI_t, rmI_f, al0_e, Nat.add_zero, Nat.zero_add, Nat.le_refl, and_imp, ne_eq, Option.some.injEq, swc, swOk, reduceCtorEq, false_or, or_false, Nat.zero_le, Decidable.not_not, gt_iff_lt, ge_iff_le, forall_eq, bI_e0, bI_e1, bI_0e, bI_1e, bI_01, bI_lo, bI_hi, true_implies, forall_const, or_true, true_or, not_true_eq_false, not_false_eq_true, Int.reduceLE, Int.reduceNeg, false_implies, implies_true, Int.toNat_zero, dX10_told_0, dX10_told_1, dX10_told_4, dX10_told_6, dX10_told_8, dX10_told_9, dX10_told_10, dX10_told_11, dX10_told_12, dX10_told_13, dX10_told_14, e_aload_n, e_bipush, e_getfield, e_iadd, e_iaload, e_iload_n, e_imul, e_ireturn, fX10_13_8, Q_X10_told_c0]
    (repeat' first | intro _ | refine And.intro ?_ ?_)
    all_goals first | omega | rfl | (congr 2; omega) | (refine bI_cg ?_; omega) | assumption | skip
theorem r_X10_84 {X : Cx} {bytes : ByteArray} {c0 : Jvm.Cond} {d : Nat} {mx : Nat × Nat} (hX : Fx X RX10 bytes (c0 :: W0)) (hR : RmX X d mx) (hd : 1 + 1 ≤ d) : CR X bytes mx (84, (0, 3, true, P_X10_told, Q_X10_told, al0)) := cr_V hX hR c_X10_told hd (by decide) (gdV (mW10 (List.mem_of_getElem? (i := 43) rfl)) (mW10 (List.mem_of_getElem? (i := 44) rfl)) (mW10 (List.mem_of_getElem? (i := 45) rfl)) (mW10 (List.mem_of_getElem? (i := 20) rfl)) (mW10 (List.mem_of_getElem? (i := 37) rfl))) (ci := 8) rfl (by decide +kernel) (fun as I A hh => by obtain ⟨o, w, e, hp⟩ := hh; exact ⟨8, 300, _, e, by decide, by decide⟩)
