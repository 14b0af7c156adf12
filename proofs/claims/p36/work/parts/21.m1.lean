/-- X10_within -/
def P_X10_within : PT := fun as I A => ∃ (v : Int) (lo : Int) (hi : Int), as = [.inl v, .inl lo, .inl hi] ∧ (True)
theorem P_X10_within_c {v : Int} {lo : Int} {hi : Int} {I A : FN} : P_X10_within [.inl v, .inl lo, .inl hi] I A = (True) := propext ⟨fun ⟨_, _, _, e, h⟩ => by cases e; exact h, fun h => ⟨_, _, _, rfl, h⟩⟩
def Q_X10_within : QT := fun as I A r I' A' => (I' = I ∧ A' = A) ∧ (∀ (v : Int) (lo : Int) (hi : Int), as = [.inl v, .inl lo, .inl hi] → ∀ x : Int, r = some x → (x = bI (lo ≤ v ∧ v ≤ hi)))
theorem Q_X10_within_c {v : Int} {lo : Int} {hi : Int} {I A : FN} {x : Int} {I' A' : FN} : Q_X10_within [.inl v, .inl lo, .inl hi] I A (some x) I' A' = ((I' = I ∧ A' = A) ∧ (x = bI (lo ≤ v ∧ v ≤ hi))) := propext ⟨fun h => ⟨h.1, h.2 _ _ _ rfl x rfl⟩, fun h => ⟨h.1, fun _ _ _ e _ e2 => by cases e; cases e2; exact h.2⟩⟩
theorem Q_X10_within_c0 {v : Int} {lo : Int} {hi : Int} {I A : FN} {x : Int} : Q_X10_within [.inl v, .inl lo, .inl hi] I A (some x) I A = (x = bI (lo ≤ v ∧ v ≤ hi)) := by rw [Q_X10_within_c]; simp only [true_and]
theorem Q_X10_within_ro : ∀ as I A r I' A', Q_X10_within as I A r I' A' → I' = I ∧ A' = A := fun _ _ _ _ _ _ h => h.1
abbrev ct_X10_within : List (Nat × Ctr) := []
set_option maxHeartbeats 4000000 in
set_option maxRecDepth 100000 in
theorem c_X10_within : MetC yX10_within (.code yX10_within cX10_within 3 (some .boolean) :: W0) 1 true P_X10_within Q_X10_within al0 := by
  refine MetC_of (rt := 2) (by decide) (Or.inr (Or.inr ⟨rfl, rfl, rfl⟩)) ?_ ?_
  · rintro as I A ⟨v, lo, hi, rfl, hp⟩
    exact Nat.le_of_ble_eq_true rfl
  · rintro X as I A hX hR hT ⟨v, lo, hi, rfl, hp⟩ hI hA
    have E : Env0 X RX10 cX10_within _ flX10 lcX10 (lk ct_X10_within) _ 2 (0, 0) := ⟨hX, flk_ok _ ftX10_ok, lcX10_ok, lk_ok _ ((fun _ h => absurd h List.not_mem_nil)), hT⟩
    refine wp_sound E (wr := []) (cut := []) 400 _ _ _ _ _ _ ?_
    simp (maxSteps := 10000000) only [entL, List.map_cons, List.map_nil, List.length_cons, List.length_nil, Nat.reduceAdd, Nat.reduceSub, Nat.reduceDiv, Nat.reduceMod, Nat.reduceLeDiff, Nat.reduceEqDiff, List.replicate, List.append_nil, List.cons_append, List.nil_append, wp_u, List.elem_nil, List.elem_cons, Nat.reduceBEq, Bool.or_false, Bool.false_or, Bool.true_or, Bool.or_true, ↓reduceIte, Bool.false_eq_true, if_false, if_true, e_ok, f4_0, f4_1, f4_2, f4_3, lgetK, lputK, isI_c, isR_c, popR_c, popI_c, popV_c, fget_0, fget_1, fget_2, fput_0, fput_2, true_and, and_true, rtOk_1, rtOk_2, cmpP, spl, arI_t, arI_f, dvI_t, dvI_f, rmI_t, rmI_f, al0_e, Nat.add_zero, Nat.zero_add, Nat.le_refl, and_imp, ne_eq, Option.some.injEq, swc, swOk, reduceCtorEq, false_or, or_false, Nat.zero_le, Classical.not_not, gt_iff_lt, ge_iff_le, forall_eq, bI_e0, bI_e1, bI_0e, bI_1e, bI_01, bI_lo, bI_hi, true_implies, forall_const, or_true, true_or, not_true_eq_false, not_false_eq_true, Int.reduceLE, Int.reduceNeg, false_implies, implies_true, Int.toNat_zero, up2_ud, up2_rn, ud_s, ud_n, dX10_within_0, dX10_within_1, dX10_within_2, (show tg 2 12 = 14 from rfl), (eq_true (by decide) : (0 ≤ ((2 : Nat) : Int) + 12) = True), dX10_within_5, dX10_within_6, dX10_within_7, (show tg 7 7 = 14 from rfl), (eq_true (by decide) : (0 ≤ ((7 : Nat) : Int) + 7) = True), dX10_within_10, dX10_within_11, (show tg 11 4 = 15 from rfl), (eq_true (by decide) : (0 ≤ ((11 : Nat) : Int) + 4) = True), dX10_within_14, dX10_within_15, e_goto, e_iconst, e_if_icmp, e_iload_n, e_ireturn, Q_X10_within_c0]
    clear E hT hR hX
    (repeat' first | (with_reducible intro _) | (with_reducible refine And.intro ?_ ?_))
    all_goals (try simp only [up2_ud, up2_rn, ud_s, ud_n, ne_eq, Nat.reduceEqDiff, not_false_eq_true, and_true, true_and])
    all_goals first | with_reducible assumption | omega | (with_reducible rfl) | (refine bI_cg ?_; omega) | (grind) | skip
theorem r_X10_55 {X : Cx} {bytes : ByteArray} {c0 : Jvm.Cond} {d : Nat} {mx : Nat × Nat} (hX : Fx X RX10 bytes (c0 :: W0)) (hR : RmX X d mx) (hd : 1 + 1 ≤ d) : CR X bytes mx (55, (1, 3, true, P_X10_within, Q_X10_within, al0)) := cr_S hX hR c_X10_within hd (by decide) (gdS (mW10 (List.mem_of_getElem? (i := 24) rfl)) (mW10 (List.mem_of_getElem? (i := 25) rfl)) (mW10 (List.mem_of_getElem? (i := 20) rfl)) (mW10 (List.mem_of_getElem? (i := 21) rfl))) (by decide +kernel)

/-- X10_siteOf -/
def P_X10_siteOf : PT := fun as I A => ∃ (o : Int), as = [.inl o] ∧ (0 ≤ o ∧ o < 200)
theorem P_X10_siteOf_c {o : Int} {I A : FN} : P_X10_siteOf [.inl o] I A = (0 ≤ o ∧ o < 200) := propext ⟨fun ⟨_, e, h⟩ => by cases e; exact h, fun h => ⟨_, rfl, h⟩⟩
def Q_X10_siteOf : QT := fun as I A r I' A' => (I' = I ∧ A' = A) ∧ (∀ (o : Int), as = [.inl o] → ∀ x : Int, r = some x → (x = o / 40))
theorem Q_X10_siteOf_c {o : Int} {I A : FN} {x : Int} {I' A' : FN} : Q_X10_siteOf [.inl o] I A (some x) I' A' = ((I' = I ∧ A' = A) ∧ (x = o / 40)) := propext ⟨fun h => ⟨h.1, h.2 _ rfl x rfl⟩, fun h => ⟨h.1, fun _ e _ e2 => by cases e; cases e2; exact h.2⟩⟩
theorem Q_X10_siteOf_c0 {o : Int} {I A : FN} {x : Int} : Q_X10_siteOf [.inl o] I A (some x) I A = (x = o / 40) := by rw [Q_X10_siteOf_c]; simp only [true_and]
theorem Q_X10_siteOf_ro : ∀ as I A r I' A', Q_X10_siteOf as I A r I' A' → I' = I ∧ A' = A := fun _ _ _ _ _ _ h => h.1
abbrev ct_X10_siteOf : List (Nat × Ctr) := []
set_option maxHeartbeats 4000000 in
set_option maxRecDepth 100000 in
theorem c_X10_siteOf : MetC yX10_siteOf (.code yX10_siteOf cX10_siteOf 1 (some .int) :: W0) 1 true P_X10_siteOf Q_X10_siteOf al0 := by
  refine MetC_of (rt := 1) (by decide) (Or.inr (Or.inl ⟨rfl, rfl, rfl⟩)) ?_ ?_
  · rintro as I A ⟨o, rfl, hp⟩
    exact Nat.le_of_ble_eq_true rfl
  · rintro X as I A hX hR hT ⟨o, rfl, hp⟩ hI hA
    have E : Env0 X RX10 cX10_siteOf _ flX10 lcX10 (lk ct_X10_siteOf) _ 1 (0, 0) := ⟨hX, flk_ok _ ftX10_ok, lcX10_ok, lk_ok _ ((fun _ h => absurd h List.not_mem_nil)), hT⟩
    refine wp_sound E (wr := []) (cut := []) 400 _ _ _ _ _ _ ?_
    simp (maxSteps := 10000000) only [entL, List.map_cons, List.map_nil, List.length_cons, List.length_nil, Nat.reduceAdd, Nat.reduceSub, Nat.reduceDiv, Nat.reduceMod, Nat.reduceLeDiff, Nat.reduceEqDiff, List.replicate, List.append_nil, List.cons_append, List.nil_append, wp_u, List.elem_nil, List.elem_cons, Nat.reduceBEq, Bool.or_false, Bool.false_or, Bool.true_or, Bool.or_true, ↓reduceIte, Bool.false_eq_true, if_false, if_true, e_ok, f4_0, f4_1, f4_2, f4_3, lgetK, lputK, isI_c, isR_c, popR_c, popI_c, popV_c, fget_0, fget_1, fget_2, fput_0, fput_2, true_and, and_true, rtOk_1, rtOk_2, cmpP, spl, arI_t, arI_f, dvI_t, dvI_f, rmI_t, rmI_f, al0_e, Nat.add_zero, Nat.zero_add, Nat.le_refl, and_imp, ne_eq, Option.some.injEq, swc, swOk, reduceCtorEq, false_or, or_false, Nat.zero_le, Classical.not_not, gt_iff_lt, ge_iff_le, forall_eq, bI_e0, bI_e1, bI_0e, bI_1e, bI_01, bI_lo, bI_hi, true_implies, forall_const, or_true, true_or, not_true_eq_false, not_false_eq_true, Int.reduceLE, Int.reduceNeg, false_implies, implies_true, Int.toNat_zero, up2_ud, up2_rn, ud_s, ud_n, dX10_siteOf_0, dX10_siteOf_1, dX10_siteOf_3, dX10_siteOf_4, e_bipush, e_idiv, e_iload_n, e_ireturn, Q_X10_siteOf_c0]
    clear E hT hR hX
    (repeat' first | (with_reducible intro _) | (with_reducible refine And.intro ?_ ?_))
    all_goals (try simp only [up2_ud, up2_rn, ud_s, ud_n, ne_eq, Nat.reduceEqDiff, not_false_eq_true, and_true, true_and])
    all_goals first | with_reducible assumption | omega | (with_reducible rfl) | (refine bI_cg ?_; omega) | (grind) | skip
theorem r_X10_67 {X : Cx} {bytes : ByteArray} {c0 : Jvm.Cond} {d : Nat} {mx : Nat × Nat} (hX : Fx X RX10 bytes (c0 :: W0)) (hR : RmX X d mx) (hd : 1 + 1 ≤ d) : CR X bytes mx (67, (1, 1, true, P_X10_siteOf, Q_X10_siteOf, al0)) := cr_S hX hR c_X10_siteOf hd (by decide) (gdS (mW10 (List.mem_of_getElem? (i := 40) rfl)) (mW10 (List.mem_of_getElem? (i := 41) rfl)) (mW10 (List.mem_of_getElem? (i := 20) rfl)) (mW10 (List.mem_of_getElem? (i := 38) rfl))) (by decide +kernel)

/-- X10_siteOfb -/
def P_X10_siteOfb : PT := fun as I A => ∃ (o : Int), as = [.inl o] ∧ (-1 ≤ o ∧ o < 200)
theorem P_X10_siteOfb_c {o : Int} {I A : FN} : P_X10_siteOfb [.inl o] I A = (-1 ≤ o ∧ o < 200) := propext ⟨fun ⟨_, e, h⟩ => by cases e; exact h, fun h => ⟨_, rfl, h⟩⟩
def Q_X10_siteOfb : QT := fun as I A r I' A' => (I' = I ∧ A' = A) ∧ (∀ (o : Int), as = [.inl o] → ∀ x : Int, r = some x → (0 ≤ x ∧ x ≤ 4))
theorem Q_X10_siteOfb_c {o : Int} {I A : FN} {x : Int} {I' A' : FN} : Q_X10_siteOfb [.inl o] I A (some x) I' A' = ((I' = I ∧ A' = A) ∧ (0 ≤ x ∧ x ≤ 4)) := propext ⟨fun h => ⟨h.1, h.2 _ rfl x rfl⟩, fun h => ⟨h.1, fun _ e _ e2 => by cases e; cases e2; exact h.2⟩⟩
theorem Q_X10_siteOfb_c0 {o : Int} {I A : FN} {x : Int} : Q_X10_siteOfb [.inl o] I A (some x) I A = (0 ≤ x ∧ x ≤ 4) := by rw [Q_X10_siteOfb_c]; simp only [true_and]
theorem Q_X10_siteOfb_ro : ∀ as I A r I' A', Q_X10_siteOfb as I A r I' A' → I' = I ∧ A' = A := fun _ _ _ _ _ _ h => h.1
abbrev ct_X10_siteOfb : List (Nat × Ctr) := []
set_option maxHeartbeats 4000000 in
set_option maxRecDepth 100000 in
theorem c_X10_siteOfb : MetC yX10_siteOf (.code yX10_siteOf cX10_siteOf 1 (some .int) :: W0) 1 true P_X10_siteOfb Q_X10_siteOfb al0 := by
  refine MetC_of (rt := 1) (by decide) (Or.inr (Or.inl ⟨rfl, rfl, rfl⟩)) ?_ ?_
  · rintro as I A ⟨o, rfl, hp⟩
    exact Nat.le_of_ble_eq_true rfl
  · rintro X as I A hX hR hT ⟨o, rfl, hp⟩ hI hA
    have E : Env0 X RX10 cX10_siteOf _ flX10 lcX10 (lk ct_X10_siteOfb) _ 1 (0, 0) := ⟨hX, flk_ok _ ftX10_ok, lcX10_ok, lk_ok _ ((fun _ h => absurd h List.not_mem_nil)), hT⟩
    refine wp_sound E (wr := [3]) (cut := []) 400 _ _ _ _ _ _ ?_
    simp (maxSteps := 10000000) only [entL, List.map_cons, List.map_nil, List.length_cons, List.length_nil, Nat.reduceAdd, Nat.reduceSub, Nat.reduceDiv, Nat.reduceMod, Nat.reduceLeDiff, Nat.reduceEqDiff, List.replicate, List.append_nil, List.cons_append, List.nil_append, wp_u, List.elem_nil, List.elem_cons, Nat.reduceBEq, Bool.or_false, Bool.false_or, Bool.true_or, Bool.or_true, ↓reduceIte, Bool.false_eq_true, if_false, if_true, e_ok, f4_0, f4_1, f4_2, f4_3, lgetK, lputK, isI_c, isR_c, popR_c, popI_c, popV_c, fget_0, fget_1, fget_2, fput_0, fput_2, true_and, and_true, rtOk_1, rtOk_2, cmpP, spl, arI_t, arI_f, dvI_t, dvI_f, rmI_t, rmI_f, al0_e, Nat.add_zero, Nat.zero_add, Nat.le_refl, and_imp, ne_eq, Option.some.injEq, swc, swOk, reduceCtorEq, false_or, or_false, Nat.zero_le, Classical.not_not, gt_iff_lt, ge_iff_le, forall_eq, bI_e0, bI_e1, bI_0e, bI_1e, bI_01, bI_lo, bI_hi, true_implies, forall_const, or_true, true_or, not_true_eq_false, not_false_eq_true, Int.reduceLE, Int.reduceNeg, false_implies, implies_true, Int.toNat_zero, up2_ud, up2_rn, ud_s, ud_n, dX10_siteOf_0, dX10_siteOf_1, dX10_siteOf_3, dX10_siteOf_4, e_bipush, e_idiv, e_iload_n, e_ireturn, Q_X10_siteOfb_c0]
    clear E hT hR hX
    (repeat' first | (with_reducible intro _) | (with_reducible refine And.intro ?_ ?_))
    all_goals (try simp only [up2_ud, up2_rn, ud_s, ud_n, ne_eq, Nat.reduceEqDiff, not_false_eq_true, and_true, true_and])
    all_goals first | with_reducible assumption | omega | (with_reducible rfl) | (refine bI_cg ?_; omega) | (grind) | skip
theorem r_X10_67b {X : Cx} {bytes : ByteArray} {c0 : Jvm.Cond} {d : Nat} {mx : Nat × Nat} (hX : Fx X RX10 bytes (c0 :: W0)) (hR : RmX X d mx) (hd : 1 + 1 ≤ d) : CR X bytes mx (67, (1, 1, true, P_X10_siteOfb, Q_X10_siteOfb, al0)) := cr_S hX hR c_X10_siteOfb hd (by decide) (gdS (mW10 (List.mem_of_getElem? (i := 40) rfl)) (mW10 (List.mem_of_getElem? (i := 41) rfl)) (mW10 (List.mem_of_getElem? (i := 20) rfl)) (mW10 (List.mem_of_getElem? (i := 38) rfl))) (by decide +kernel)

/-- X10_nameOf -/
def P_X10_nameOf : PT := fun as I A => ∃ (o : Int), as = [.inl o] ∧ (0 ≤ o ∧ o < 200)
theorem P_X10_nameOf_c {o : Int} {I A : FN} : P_X10_nameOf [.inl o] I A = (0 ≤ o ∧ o < 200) := propext ⟨fun ⟨_, e, h⟩ => by cases e; exact h, fun h => ⟨_, rfl, h⟩⟩
def Q_X10_nameOf : QT := fun as I A r I' A' => (I' = I ∧ A' = A) ∧ (∀ (o : Int), as = [.inl o] → ∀ x : Int, r = some x → (x = 100 * (o / 40) + o % 40 + 1))
theorem Q_X10_nameOf_c {o : Int} {I A : FN} {x : Int} {I' A' : FN} : Q_X10_nameOf [.inl o] I A (some x) I' A' = ((I' = I ∧ A' = A) ∧ (x = 100 * (o / 40) + o % 40 + 1)) := propext ⟨fun h => ⟨h.1, h.2 _ rfl x rfl⟩, fun h => ⟨h.1, fun _ e _ e2 => by cases e; cases e2; exact h.2⟩⟩
theorem Q_X10_nameOf_c0 {o : Int} {I A : FN} {x : Int} : Q_X10_nameOf [.inl o] I A (some x) I A = (x = 100 * (o / 40) + o % 40 + 1) := by rw [Q_X10_nameOf_c]; simp only [true_and]
theorem Q_X10_nameOf_ro : ∀ as I A r I' A', Q_X10_nameOf as I A r I' A' → I' = I ∧ A' = A := fun _ _ _ _ _ _ h => h.1
abbrev ct_X10_nameOf : List (Nat × Ctr) := []
set_option maxHeartbeats 4000000 in
set_option maxRecDepth 100000 in
theorem c_X10_nameOf : MetC yX10_nameOf (.code yX10_nameOf cX10_nameOf 1 (some .int) :: W0) 1 true P_X10_nameOf Q_X10_nameOf al0 := by
  refine MetC_of (rt := 1) (by decide) (Or.inr (Or.inl ⟨rfl, rfl, rfl⟩)) ?_ ?_
  · rintro as I A ⟨o, rfl, hp⟩
    exact Nat.le_of_ble_eq_true rfl
  · rintro X as I A hX hR hT ⟨o, rfl, hp⟩ hI hA
    have E : Env0 X RX10 cX10_nameOf _ flX10 lcX10 (lk ct_X10_nameOf) _ 1 (0, 0) := ⟨hX, flk_ok _ ftX10_ok, lcX10_ok, lk_ok _ ((fun _ h => absurd h List.not_mem_nil)), hT⟩
    refine wp_sound E (wr := []) (cut := []) 400 _ _ _ _ _ _ ?_
    simp (maxSteps := 10000000) only [entL, List.map_cons, List.map_nil, List.length_cons, List.length_nil, Nat.reduceAdd, Nat.reduceSub, Nat.reduceDiv, Nat.reduceMod, Nat.reduceLeDiff, Nat.reduceEqDiff, List.replicate, List.append_nil, List.cons_append, List.nil_append, wp_u, List.elem_nil, List.elem_cons, Nat.reduceBEq, Bool.or_false, Bool.false_or, Bool.true_or, Bool.or_true, ↓reduceIte, Bool.false_eq_true, if_false, if_true, e_ok, f4_0, f4_1, f4_2, f4_3, lgetK, lputK, isI_c, isR_c, popR_c, popI_c, popV_c, fget_0, fget_1, fget_2, fput_0, fput_2, true_and, and_true, rtOk_1, rtOk_2, cmpP, spl, arI_t, arI_f, dvI_t, dvI_f, rmI_t, rmI_f, al0_e, Nat.add_zero, Nat.zero_add, Nat.le_refl, and_imp, ne_eq, Option.some.injEq, swc, swOk, reduceCtorEq, false_or, or_false, Nat.zero_le, Classical.not_not, gt_iff_lt, ge_iff_le, forall_eq, bI_e0, bI_e1, bI_0e, bI_1e, bI_01, bI_lo, bI_hi, true_implies, forall_const, or_true, true_or, not_true_eq_false, not_false_eq_true, Int.reduceLE, Int.reduceNeg, false_implies, implies_true, Int.toNat_zero, up2_ud, up2_rn, ud_s, ud_n, dX10_nameOf_0, dX10_nameOf_2, dX10_nameOf_3, dX10_nameOf_5, dX10_nameOf_6, dX10_nameOf_7, dX10_nameOf_8, dX10_nameOf_10, dX10_nameOf_11, dX10_nameOf_12, dX10_nameOf_13, dX10_nameOf_14, e_bipush, e_iadd, e_iconst, e_idiv, e_iload_n, e_imul, e_irem, e_ireturn, Q_X10_nameOf_c0]
    clear E hT hR hX
    (repeat' first | (with_reducible intro _) | (with_reducible refine And.intro ?_ ?_))
    all_goals (try simp only [up2_ud, up2_rn, ud_s, ud_n, ne_eq, Nat.reduceEqDiff, not_false_eq_true, and_true, true_and])
    all_goals first | with_reducible assumption | omega | (with_reducible rfl) | (refine bI_cg ?_; omega) | (grind) | skip
theorem r_X10_128 {X : Cx} {bytes : ByteArray} {c0 : Jvm.Cond} {d : Nat} {mx : Nat × Nat} (hX : Fx X RX10 bytes (c0 :: W0)) (hR : RmX X d mx) (hd : 1 + 1 ≤ d) : CR X bytes mx (128, (1, 1, true, P_X10_nameOf, Q_X10_nameOf, al0)) := cr_S hX hR c_X10_nameOf hd (by decide) (gdS (mW11 (List.mem_of_getElem? (i := 42) rfl)) (mW11 (List.mem_of_getElem? (i := 43) rfl)) (mW10 (List.mem_of_getElem? (i := 20) rfl)) (mW10 (List.mem_of_getElem? (i := 32) rfl))) (by decide +kernel)

/-- X10_nameOfb -/
def P_X10_nameOfb : PT := fun as I A => ∃ (o : Int), as = [.inl o] ∧ (-1 ≤ o ∧ o < 200)
theorem P_X10_nameOfb_c {o : Int} {I A : FN} : P_X10_nameOfb [.inl o] I A = (-1 ≤ o ∧ o < 200) := propext ⟨fun ⟨_, e, h⟩ => by cases e; exact h, fun h => ⟨_, rfl, h⟩⟩
def Q_X10_nameOfb : QT := fun as I A r I' A' => (I' = I ∧ A' = A) ∧ (∀ (o : Int), as = [.inl o] → ∀ x : Int, r = some x → ((0 ≤ o → x = 100 * (o / 40) + o % 40 + 1) ∧ (o < 0 → x = 0)))
theorem Q_X10_nameOfb_c {o : Int} {I A : FN} {x : Int} {I' A' : FN} : Q_X10_nameOfb [.inl o] I A (some x) I' A' = ((I' = I ∧ A' = A) ∧ ((0 ≤ o → x = 100 * (o / 40) + o % 40 + 1) ∧ (o < 0 → x = 0))) := propext ⟨fun h => ⟨h.1, h.2 _ rfl x rfl⟩, fun h => ⟨h.1, fun _ e _ e2 => by cases e; cases e2; exact h.2⟩⟩
theorem Q_X10_nameOfb_c0 {o : Int} {I A : FN} {x : Int} : Q_X10_nameOfb [.inl o] I A (some x) I A = ((0 ≤ o → x = 100 * (o / 40) + o % 40 + 1) ∧ (o < 0 → x = 0)) := by rw [Q_X10_nameOfb_c]; simp only [true_and]
theorem Q_X10_nameOfb_ro : ∀ as I A r I' A', Q_X10_nameOfb as I A r I' A' → I' = I ∧ A' = A := fun _ _ _ _ _ _ h => h.1
abbrev ct_X10_nameOfb : List (Nat × Ctr) := []
set_option maxHeartbeats 4000000 in
set_option maxRecDepth 100000 in
theorem c_X10_nameOfb : MetC yX10_nameOf (.code yX10_nameOf cX10_nameOf 1 (some .int) :: W0) 1 true P_X10_nameOfb Q_X10_nameOfb al0 := by
  refine MetC_of (rt := 1) (by decide) (Or.inr (Or.inl ⟨rfl, rfl, rfl⟩)) ?_ ?_
  · rintro as I A ⟨o, rfl, hp⟩
    exact Nat.le_of_ble_eq_true rfl
  · rintro X as I A hX hR hT ⟨o, rfl, hp⟩ hI hA
    have E : Env0 X RX10 cX10_nameOf _ flX10 lcX10 (lk ct_X10_nameOfb) _ 1 (0, 0) := ⟨hX, flk_ok _ ftX10_ok, lcX10_ok, lk_ok _ ((fun _ h => absurd h List.not_mem_nil)), hT⟩
    refine wp_sound E (wr := [5, 10]) (cut := []) 400 _ _ _ _ _ _ ?_
    simp (maxSteps := 10000000) only [entL, List.map_cons, List.map_nil, List.length_cons, List.length_nil, Nat.reduceAdd, Nat.reduceSub, Nat.reduceDiv, Nat.reduceMod, Nat.reduceLeDiff, Nat.reduceEqDiff, List.replicate, List.append_nil, List.cons_append, List.nil_append, wp_u, List.elem_nil, List.elem_cons, Nat.reduceBEq, Bool.or_false, Bool.false_or, Bool.true_or, Bool.or_true, ↓reduceIte, Bool.false_eq_true, if_false, if_true, e_ok, f4_0, f4_1, f4_2, f4_3, lgetK, lputK, isI_c, isR_c, popR_c, popI_c, popV_c, fget_0, fget_1, fget_2, fput_0, fput_2, true_and, and_true, rtOk_1, rtOk_2, cmpP, spl, arI_t, arI_f, dvI_t, dvI_f, rmI_t, rmI_f, al0_e, Nat.add_zero, Nat.zero_add, Nat.le_refl, and_imp, ne_eq, Option.some.injEq, swc, swOk, reduceCtorEq, false_or, or_false, Nat.zero_le, Classical.not_not, gt_iff_lt, ge_iff_le, forall_eq, bI_e0, bI_e1, bI_0e, bI_1e, bI_01, bI_lo, bI_hi, true_implies, forall_const, or_true, true_or, not_true_eq_false, not_false_eq_true, Int.reduceLE, Int.reduceNeg, false_implies, implies_true, Int.toNat_zero, up2_ud, up2_rn, ud_s, ud_n, dX10_nameOf_0, dX10_nameOf_2, dX10_nameOf_3, dX10_nameOf_5, dX10_nameOf_6, dX10_nameOf_7, dX10_nameOf_8, dX10_nameOf_10, dX10_nameOf_11, dX10_nameOf_12, dX10_nameOf_13, dX10_nameOf_14, e_bipush, e_iadd, e_iconst, e_idiv, e_iload_n, e_imul, e_irem, e_ireturn, Q_X10_nameOfb_c0]
    clear E hT hR hX
    (repeat' first | (with_reducible intro _) | (with_reducible refine And.intro ?_ ?_))
    all_goals (try simp only [up2_ud, up2_rn, ud_s, ud_n, ne_eq, Nat.reduceEqDiff, not_false_eq_true, and_true, true_and])
    all_goals first | with_reducible assumption | omega | (with_reducible rfl) | (refine bI_cg ?_; omega) | (grind) | skip
theorem r_X10_128b {X : Cx} {bytes : ByteArray} {c0 : Jvm.Cond} {d : Nat} {mx : Nat × Nat} (hX : Fx X RX10 bytes (c0 :: W0)) (hR : RmX X d mx) (hd : 1 + 1 ≤ d) : CR X bytes mx (128, (1, 1, true, P_X10_nameOfb, Q_X10_nameOfb, al0)) := cr_S hX hR c_X10_nameOfb hd (by decide) (gdS (mW11 (List.mem_of_getElem? (i := 42) rfl)) (mW11 (List.mem_of_getElem? (i := 43) rfl)) (mW10 (List.mem_of_getElem? (i := 20) rfl)) (mW10 (List.mem_of_getElem? (i := 32) rfl))) (by decide +kernel)

/-- X10_isSite -/
def P_X10_isSite : PT := fun as I A => ∃ (s : Int), as = [.inr (some (8, 300)), .inl s] ∧ (Mm (A 301))
theorem P_X10_isSite_c {s : Int} {I A : FN} : P_X10_isSite [.inr (some (8, 300)), .inl s] I A = (Mm (A 301)) := propext ⟨fun ⟨_, e, h⟩ => by cases e; exact h, fun h => ⟨_, rfl, h⟩⟩
def Q_X10_isSite : QT := fun as I A r I' A' => (I' = I ∧ A' = A) ∧ (∀ (s : Int), as = [.inr (some (8, 300)), .inl s] → ∀ x : Int, r = some x → (x = bI (0 ≤ s ∧ s < A 301 0)))
theorem Q_X10_isSite_c {s : Int} {I A : FN} {x : Int} {I' A' : FN} : Q_X10_isSite [.inr (some (8, 300)), .inl s] I A (some x) I' A' = ((I' = I ∧ A' = A) ∧ (x = bI (0 ≤ s ∧ s < A 301 0))) := propext ⟨fun h => ⟨h.1, h.2 _ rfl x rfl⟩, fun h => ⟨h.1, fun _ e _ e2 => by cases e; cases e2; exact h.2⟩⟩
theorem Q_X10_isSite_c0 {s : Int} {I A : FN} {x : Int} : Q_X10_isSite [.inr (some (8, 300)), .inl s] I A (some x) I A = (x = bI (0 ≤ s ∧ s < A 301 0)) := by rw [Q_X10_isSite_c]; simp only [true_and]
theorem Q_X10_isSite_ro : ∀ as I A r I' A', Q_X10_isSite as I A r I' A' → I' = I ∧ A' = A := fun _ _ _ _ _ _ h => h.1
abbrev ct_X10_isSite : List (Nat × Ctr) := [(55, (1, 3, true, P_X10_within, Q_X10_within, al0))]
set_option maxHeartbeats 4000000 in
set_option maxRecDepth 100000 in
theorem c_X10_isSite : MetC yX10_isSite (.code yX10_isSite cX10_isSite 2 (some .boolean) :: W0) 2 true P_X10_isSite Q_X10_isSite al0 := by
  refine MetC_of (rt := 2) (by decide) (Or.inr (Or.inr ⟨rfl, rfl, rfl⟩)) ?_ ?_
  · rintro as I A ⟨s, rfl, hp⟩
    exact Nat.le_of_ble_eq_true rfl
  · rintro X as I A hX hR hT ⟨s, rfl, hp⟩ hI hA
    have h0 := hp.m0
    have E : Env0 X RX10 cX10_isSite _ flX10 lcX10 (lk ct_X10_isSite) _ 2 (0, 0) := ⟨hX, flk_ok _ ftX10_ok, lcX10_ok, lk_ok _ (List.forall_mem_cons.mpr ⟨r_X10_55 hX hR (by decide), (fun _ h => absurd h List.not_mem_nil)⟩), hT⟩
    refine wp_sound E (wr := []) (cut := []) 400 _ _ _ _ _ _ ?_
    simp (maxSteps := 10000000) only [entL, List.map_cons, List.map_nil, List.length_cons, List.length_nil, Nat.reduceAdd, Nat.reduceSub, Nat.reduceDiv, Nat.reduceMod, Nat.reduceLeDiff, Nat.reduceEqDiff, List.replicate, List.append_nil, List.cons_append, List.nil_append, wp_u, List.elem_nil, List.elem_cons, Nat.reduceBEq, Bool.or_false, Bool.false_or, Bool.true_or, Bool.or_true, ↓reduceIte, Bool.false_eq_true, if_false, if_true, e_ok, f4_0, f4_1, f4_2, f4_3, lgetK, lputK, isI_c, isR_c, popR_c, popI_c, popV_c, fget_0, fget_1, fget_2, fput_0, fput_2, true_and, and_true, rtOk_1, rtOk_2, cmpP, spl, arI_t, arI_f, dvI_t, dvI_f, rmI_t, rmI_f, al0_e, Nat.add_zero, Nat.zero_add, Nat.le_refl, and_imp, ne_eq, Option.some.injEq, swc, swOk, reduceCtorEq, false_or, or_false, Nat.zero_le, Classical.not_not, gt_iff_lt, ge_iff_le, forall_eq, bI_e0, bI_e1, bI_0e, bI_1e, bI_01, bI_lo, bI_hi, true_implies, forall_const, or_true, true_or, not_true_eq_false, not_false_eq_true, Int.reduceLE, Int.reduceNeg, false_implies, implies_true, Int.toNat_zero, up2_ud, up2_rn, ud_s, ud_n, dX10_isSite_0, dX10_isSite_1, dX10_isSite_2, dX10_isSite_3, dX10_isSite_6, dX10_isSite_7, dX10_isSite_8, dX10_isSite_9, dX10_isSite_10, dX10_isSite_13, e_aload_n, e_getfield, e_iaload, e_iconst, e_iload_n, e_invokestatic, e_ireturn, e_isub, fX10_13_8, cal_r (show lk ct_X10_isSite 55 = some (1, 3, true, P_X10_within, Q_X10_within, al0) from rfl) Q_X10_within_ro, P_X10_within_c, Q_X10_within_c0, Q_X10_isSite_c0]
    clear E hT hR hX
    (repeat' first | (with_reducible intro _) | (with_reducible refine And.intro ?_ ?_))
    all_goals (try simp only [up2_ud, up2_rn, ud_s, ud_n, ne_eq, Nat.reduceEqDiff, not_false_eq_true, and_true, true_and])
    all_goals first | with_reducible assumption | omega | (with_reducible rfl) | (refine bI_cg ?_; omega) | (grind) | skip
theorem r_X10_63 {X : Cx} {bytes : ByteArray} {c0 : Jvm.Cond} {d : Nat} {mx : Nat × Nat} (hX : Fx X RX10 bytes (c0 :: W0)) (hR : RmX X d mx) (hd : 2 + 1 ≤ d) : CR X bytes mx (63, (0, 2, true, P_X10_isSite, Q_X10_isSite, al0)) := cr_V hX hR c_X10_isSite hd (by decide) (gdV (mW10 (List.mem_of_getElem? (i := 34) rfl)) (mW10 (List.mem_of_getElem? (i := 35) rfl)) (mW10 (List.mem_of_getElem? (i := 36) rfl)) (mW10 (List.mem_of_getElem? (i := 20) rfl)) (mW10 (List.mem_of_getElem? (i := 26) rfl))) (ci := 8) rfl (by decide +kernel) (fun as I A hh => by obtain ⟨s, e, hp⟩ := hh; exact ⟨8, 300, _, e, by decide, by decide⟩)

/-- X10_at -/
def P_X10_at : PT := fun as I A => ∃ (s : Int) (w : Int), as = [.inr (some (8, 300)), .inl s, .inl w] ∧ (0 ≤ s ∧ s < 5 ∧ 0 ≤ w ∧ w < 499)
theorem P_X10_at_c {s : Int} {w : Int} {I A : FN} : P_X10_at [.inr (some (8, 300)), .inl s, .inl w] I A = (0 ≤ s ∧ s < 5 ∧ 0 ≤ w ∧ w < 499) := propext ⟨fun ⟨_, _, e, h⟩ => by cases e; exact h, fun h => ⟨_, _, rfl, h⟩⟩
def Q_X10_at : QT := fun as I A r I' A' => (I' = I ∧ A' = A) ∧ (∀ (s : Int) (w : Int), as = [.inr (some (8, 300)), .inl s, .inl w] → ∀ x : Int, r = some x → (x = 2008 + 499 * s + w))
theorem Q_X10_at_c {s : Int} {w : Int} {I A : FN} {x : Int} {I' A' : FN} : Q_X10_at [.inr (some (8, 300)), .inl s, .inl w] I A (some x) I' A' = ((I' = I ∧ A' = A) ∧ (x = 2008 + 499 * s + w)) := propext ⟨fun h => ⟨h.1, h.2 _ _ rfl x rfl⟩, fun h => ⟨h.1, fun _ _ e _ e2 => by cases e; cases e2; exact h.2⟩⟩
theorem Q_X10_at_c0 {s : Int} {w : Int} {I A : FN} {x : Int} : Q_X10_at [.inr (some (8, 300)), .inl s, .inl w] I A (some x) I A = (x = 2008 + 499 * s + w) := by rw [Q_X10_at_c]; simp only [true_and]
theorem Q_X10_at_ro : ∀ as I A r I' A', Q_X10_at as I A r I' A' → I' = I ∧ A' = A := fun _ _ _ _ _ _ h => h.1
abbrev ct_X10_at : List (Nat × Ctr) := []
set_option maxHeartbeats 4000000 in
set_option maxRecDepth 100000 in
theorem c_X10_at : MetC yX10_at (.code yX10_at cX10_at 3 (some .int) :: W0) 1 true P_X10_at Q_X10_at al0 := by
  refine MetC_of (rt := 1) (by decide) (Or.inr (Or.inl ⟨rfl, rfl, rfl⟩)) ?_ ?_
  · rintro as I A ⟨s, w, rfl, hp⟩
    exact Nat.le_of_ble_eq_true rfl
  · rintro X as I A hX hR hT ⟨s, w, rfl, hp⟩ hI hA
    have E : Env0 X RX10 cX10_at _ flX10 lcX10 (lk ct_X10_at) _ 1 (0, 0) := ⟨hX, flk_ok _ ftX10_ok, lcX10_ok, lk_ok _ ((fun _ h => absurd h List.not_mem_nil)), hT⟩
    refine wp_sound E (wr := []) (cut := []) 400 _ _ _ _ _ _ ?_
    simp (maxSteps := 10000000) only [entL, List.map_cons, List.map_nil, List.length_cons, List.length_nil, Nat.reduceAdd, Nat.reduceSub, Nat.reduceDiv, Nat.reduceMod, Nat.reduceLeDiff, Nat.reduceEqDiff, List.replicate, List.append_nil, List.cons_append, List.nil_append, wp_u, List.elem_nil, List.elem_cons, Nat.reduceBEq, Bool.or_false, Bool.false_or, Bool.true_or, Bool.or_true, ↓reduceIte, Bool.false_eq_true, if_false, if_true, e_ok, f4_0, f4_1, f4_2, f4_3, lgetK, lputK, isI_c, isR_c, popR_c, popI_c, popV_c, fget_0, fget_1, fget_2, fput_0, fput_2, true_and, and_true, rtOk_1, rtOk_2, cmpP, spl, arI_t, arI_f, dvI_t, dvI_f, rmI_t, rmI_f, al0_e, Nat.add_zero, Nat.zero_add, Nat.le_refl, and_imp, ne_eq, Option.some.injEq, swc, swOk, reduceCtorEq, false_or, or_false, Nat.zero_le, Classical.not_not, gt_iff_lt, ge_iff_le, forall_eq, bI_e0, bI_e1, bI_0e, bI_1e, bI_01, bI_lo, bI_hi, true_implies, forall_const, or_true, true_or, not_true_eq_false, not_false_eq_true, Int.reduceLE, Int.reduceNeg, false_implies, implies_true, Int.toNat_zero, up2_ud, up2_rn, ud_s, ud_n, dX10_at_0, dX10_at_3, dX10_at_6, dX10_at_7, dX10_at_8, dX10_at_9, dX10_at_10, dX10_at_11, e_iadd, e_iload_n, e_imul, e_ireturn, e_sipush, Q_X10_at_c0]
    clear E hT hR hX
    (repeat' first | (with_reducible intro _) | (with_reducible refine And.intro ?_ ?_))
    all_goals (try simp only [up2_ud, up2_rn, ud_s, ud_n, ne_eq, Nat.reduceEqDiff, not_false_eq_true, and_true, true_and])
    all_goals first | with_reducible assumption | omega | (with_reducible rfl) | (refine bI_cg ?_; omega) | (grind) | skip
theorem r_X10_59 {X : Cx} {bytes : ByteArray} {c0 : Jvm.Cond} {d : Nat} {mx : Nat × Nat} (hX : Fx X RX10 bytes (c0 :: W0)) (hR : RmX X d mx) (hd : 1 + 1 ≤ d) : CR X bytes mx (59, (0, 3, true, P_X10_at, Q_X10_at, al0)) := cr_V hX hR c_X10_at hd (by decide) (gdV (mW10 (List.mem_of_getElem? (i := 29) rfl)) (mW10 (List.mem_of_getElem? (i := 30) rfl)) (mW10 (List.mem_of_getElem? (i := 31) rfl)) (mW10 (List.mem_of_getElem? (i := 20) rfl)) (mW10 (List.mem_of_getElem? (i := 27) rfl))) (ci := 8) rfl (by decide +kernel) (fun as I A hh => by obtain ⟨s, w, e, hp⟩ := hh; exact ⟨8, 300, _, e, by decide, by decide⟩)

/-- X10_of -/
def P_X10_of : PT := fun as I A => ∃ (s : Int) (w : Int), as = [.inr (some (8, 300)), .inl s, .inl w] ∧ (0 ≤ s ∧ s < 5 ∧ 0 ≤ w ∧ w < 499)
theorem P_X10_of_c {s : Int} {w : Int} {I A : FN} : P_X10_of [.inr (some (8, 300)), .inl s, .inl w] I A = (0 ≤ s ∧ s < 5 ∧ 0 ≤ w ∧ w < 499) := propext ⟨fun ⟨_, _, e, h⟩ => by cases e; exact h, fun h => ⟨_, _, rfl, h⟩⟩
def Q_X10_of : QT := fun as I A r I' A' => (I' = I ∧ A' = A) ∧ (∀ (s : Int) (w : Int), as = [.inr (some (8, 300)), .inl s, .inl w] → ∀ x : Int, r = some x → (x = vG (A 301) s w))
theorem Q_X10_of_c {s : Int} {w : Int} {I A : FN} {x : Int} {I' A' : FN} : Q_X10_of [.inr (some (8, 300)), .inl s, .inl w] I A (some x) I' A' = ((I' = I ∧ A' = A) ∧ (x = vG (A 301) s w)) := propext ⟨fun h => ⟨h.1, h.2 _ _ rfl x rfl⟩, fun h => ⟨h.1, fun _ _ e _ e2 => by cases e; cases e2; exact h.2⟩⟩
theorem Q_X10_of_c0 {s : Int} {w : Int} {I A : FN} {x : Int} : Q_X10_of [.inr (some (8, 300)), .inl s, .inl w] I A (some x) I A = (x = vG (A 301) s w) := by rw [Q_X10_of_c]; simp only [true_and]
theorem Q_X10_of_ro : ∀ as I A r I' A', Q_X10_of as I A r I' A' → I' = I ∧ A' = A := fun _ _ _ _ _ _ h => h.1
abbrev ct_X10_of : List (Nat × Ctr) := [(59, (0, 3, true, P_X10_at, Q_X10_at, al0))]
set_option maxHeartbeats 4000000 in
set_option maxRecDepth 100000 in
theorem c_X10_of : MetC yX10_of (.code yX10_of cX10_of 3 (some .int) :: W0) 2 true P_X10_of Q_X10_of al0 := by
  refine MetC_of (rt := 1) (by decide) (Or.inr (Or.inl ⟨rfl, rfl, rfl⟩)) ?_ ?_
  · rintro as I A ⟨s, w, rfl, hp⟩
    exact Nat.le_of_ble_eq_true rfl
  · rintro X as I A hX hR hT ⟨s, w, rfl, hp⟩ hI hA
    have E : Env0 X RX10 cX10_of _ flX10 lcX10 (lk ct_X10_of) _ 1 (0, 0) := ⟨hX, flk_ok _ ftX10_ok, lcX10_ok, lk_ok _ (List.forall_mem_cons.mpr ⟨r_X10_59 hX hR (by decide), (fun _ h => absurd h List.not_mem_nil)⟩), hT⟩
    refine wp_sound E (wr := []) (cut := []) 400 _ _ _ _ _ _ ?_
    simp (maxSteps := 10000000) only [entL, List.map_cons, List.map_nil, List.length_cons, List.length_nil, Nat.reduceAdd, Nat.reduceSub, Nat.reduceDiv, Nat.reduceMod, Nat.reduceLeDiff, Nat.reduceEqDiff, List.replicate, List.append_nil, List.cons_append, List.nil_append, wp_u, List.elem_nil, List.elem_cons, Nat.reduceBEq, Bool.or_false, Bool.false_or, Bool.true_or, Bool.or_true, ↓reduceIte, Bool.false_eq_true, if_false, if_true, e_ok, f4_0, f4_1, f4_2, f4_3, lgetK, lputK, isI_c, isR_c, popR_c, popI_c, popV_c, fget_0, fget_1, fget_2, fput_0, fput_2, true_and, and_true, rtOk_1, rtOk_2, cmpP, spl, arI_t, arI_f, dvI_t, dvI_f, rmI_t, rmI_f, al0_e, Nat.add_zero, Nat.zero_add, Nat.le_refl, and_imp, ne_eq, Option.some.injEq, swc, swOk, reduceCtorEq, false_or, or_false, Nat.zero_le, Classical.not_not, gt_iff_lt, ge_iff_le, forall_eq, bI_e0, bI_e1, bI_0e, bI_1e, bI_01, bI_lo, bI_hi, true_implies, forall_const, or_true, true_or, not_true_eq_false, not_false_eq_true, Int.reduceLE, Int.reduceNeg, false_implies, implies_true, Int.toNat_zero, up2_ud, up2_rn, ud_s, ud_n, dX10_of_0, dX10_of_1, dX10_of_4, dX10_of_5, dX10_of_6, dX10_of_7, dX10_of_10, dX10_of_11, e_aload_n, e_getfield, e_iaload, e_iload_n, e_invokevirtual, e_ireturn, fX10_13_8, cal_r (show lk ct_X10_of 59 = some (0, 3, true, P_X10_at, Q_X10_at, al0) from rfl) Q_X10_at_ro, P_X10_at_c, Q_X10_at_c0, Q_X10_of_c0]
    clear E hT hR hX
    (repeat' first | (with_reducible intro _) | (with_reducible refine And.intro ?_ ?_))
    all_goals (try simp only [up2_ud, up2_rn, ud_s, ud_n, ne_eq, Nat.reduceEqDiff, not_false_eq_true, and_true, true_and])
    all_goals first | with_reducible assumption | omega | (with_reducible rfl) | rfl | (refine bI_cg ?_; omega) | (grind) | skip
theorem r_X10_81 {X : Cx} {bytes : ByteArray} {c0 : Jvm.Cond} {d : Nat} {mx : Nat × Nat} (hX : Fx X RX10 bytes (c0 :: W0)) (hR : RmX X d mx) (hd : 2 + 1 ≤ d) : CR X bytes mx (81, (0, 3, true, P_X10_of, Q_X10_of, al0)) := cr_V hX hR c_X10_of hd (by decide) (gdV (mW10 (List.mem_of_getElem? (i := 53) rfl)) (mW10 (List.mem_of_getElem? (i := 54) rfl)) (mW10 (List.mem_of_getElem? (i := 55) rfl)) (mW10 (List.mem_of_getElem? (i := 20) rfl)) (mW10 (List.mem_of_getElem? (i := 28) rfl))) (ci := 8) rfl (by decide +kernel) (fun as I A hh => by obtain ⟨s, w, e, hp⟩ := hh; exact ⟨8, 300, _, e, by decide, by decide⟩)

/-- X10_told -/
def P_X10_told : PT := fun as I A => ∃ (o : Int) (w : Int), as = [.inr (some (8, 300)), .inl o, .inl w] ∧ (-1 ≤ o ∧ o < 200 ∧ 0 ≤ w ∧ w < 10 ∧ 0 ≤ 8 + 10 * o + w)
theorem P_X10_told_c {o : Int} {w : Int} {I A : FN} : P_X10_told [.inr (some (8, 300)), .inl o, .inl w] I A = (-1 ≤ o ∧ o < 200 ∧ 0 ≤ w ∧ w < 10 ∧ 0 ≤ 8 + 10 * o + w) := propext ⟨fun ⟨_, _, e, h⟩ => by cases e; exact h, fun h => ⟨_, _, rfl, h⟩⟩
def Q_X10_told : QT := fun as I A r I' A' => (I' = I ∧ A' = A) ∧ (∀ (o : Int) (w : Int), as = [.inr (some (8, 300)), .inl o, .inl w] → ∀ x : Int, r = some x → (x = tG (A 301) o w))
theorem Q_X10_told_c {o : Int} {w : Int} {I A : FN} {x : Int} {I' A' : FN} : Q_X10_told [.inr (some (8, 300)), .inl o, .inl w] I A (some x) I' A' = ((I' = I ∧ A' = A) ∧ (x = tG (A 301) o w)) := propext ⟨fun h => ⟨h.1, h.2 _ _ rfl x rfl⟩, fun h => ⟨h.1, fun _ _ e _ e2 => by cases e; cases e2; exact h.2⟩⟩
theorem Q_X10_told_c0 {o : Int} {w : Int} {I A : FN} {x : Int} : Q_X10_told [.inr (some (8, 300)), .inl o, .inl w] I A (some x) I A = (x = tG (A 301) o w) := by rw [Q_X10_told_c]; simp only [true_and]
theorem Q_X10_told_ro : ∀ as I A r I' A', Q_X10_told as I A r I' A' → I' = I ∧ A' = A := fun _ _ _ _ _ _ h => h.1
abbrev ct_X10_told : List (Nat × Ctr) := []
set_option maxHeartbeats 4000000 in
set_option maxRecDepth 100000 in
theorem c_X10_told : MetC yX10_told (.code yX10_told cX10_told 3 (some .int) :: W0) 1 true P_X10_told Q_X10_told al0 := by
  refine MetC_of (rt := 1) (by decide) (Or.inr (Or.inl ⟨rfl, rfl, rfl⟩)) ?_ ?_
  · rintro as I A ⟨o, w, rfl, hp⟩
    exact Nat.le_of_ble_eq_true rfl
  · rintro X as I A hX hR hT ⟨o, w, rfl, hp⟩ hI hA
    have E : Env0 X RX10 cX10_told _ flX10 lcX10 (lk ct_X10_told) _ 1 (0, 0) := ⟨hX, flk_ok _ ftX10_ok, lcX10_ok, lk_ok _ ((fun _ h => absurd h List.not_mem_nil)), hT⟩
    refine wp_sound E (wr := []) (cut := []) 400 _ _ _ _ _ _ ?_
    simp (maxSteps := 10000000) only [entL, List.map_cons, List.map_nil, List.length_cons, List.length_nil, Nat.reduceAdd, Nat.reduceSub, Nat.reduceDiv, Nat.reduceMod, Nat.reduceLeDiff, Nat.reduceEqDiff, List.replicate, List.append_nil, List.cons_append, List.nil_append, wp_u, List.elem_nil, List.elem_cons, Nat.reduceBEq, Bool.or_false, Bool.false_or, Bool.true_or, Bool.or_true, ↓reduceIte, Bool.false_eq_true, if_false, if_true, e_ok, f4_0, f4_1, f4_2, f4_3, lgetK, lputK, isI_c, isR_c, popR_c, popI_c, popV_c, fget_0, fget_1, fget_2, fput_0, fput_2, true_and, and_true, rtOk_1, rtOk_2, cmpP, spl, arI_t, arI_f, dvI_t, dvI_f, rmI_t, rmI_f, al0_e, Nat.add_zero, Nat.zero_add, Nat.le_refl, and_imp, ne_eq, Option.some.injEq, swc, swOk, reduceCtorEq, false_or, or_false, Nat.zero_le, Classical.not_not, gt_iff_lt, ge_iff_le, forall_eq, bI_e0, bI_e1, bI_0e, bI_1e, bI_01, bI_lo, bI_hi, true_implies, forall_const, or_true, true_or, not_true_eq_false, not_false_eq_true, Int.reduceLE, Int.reduceNeg, false_implies, implies_true, Int.toNat_zero, up2_ud, up2_rn, ud_s, ud_n, dX10_told_0, dX10_told_1, dX10_told_4, dX10_told_6, dX10_told_8, dX10_told_9, dX10_told_10, dX10_told_11, dX10_told_12, dX10_told_13, dX10_told_14, e_aload_n, e_bipush, e_getfield, e_iadd, e_iaload, e_iload_n, e_imul, e_ireturn, fX10_13_8, Q_X10_told_c0]
    clear E hT hR hX
    (repeat' first | (with_reducible intro _) | (with_reducible refine And.intro ?_ ?_))
    all_goals (try simp only [up2_ud, up2_rn, ud_s, ud_n, ne_eq, Nat.reduceEqDiff, not_false_eq_true, and_true, true_and])
    all_goals first | with_reducible assumption | omega | (with_reducible rfl) | rfl | (refine bI_cg ?_; omega) | (grind) | skip
theorem r_X10_84 {X : Cx} {bytes : ByteArray} {c0 : Jvm.Cond} {d : Nat} {mx : Nat × Nat} (hX : Fx X RX10 bytes (c0 :: W0)) (hR : RmX X d mx) (hd : 1 + 1 ≤ d) : CR X bytes mx (84, (0, 3, true, P_X10_told, Q_X10_told, al0)) := cr_V hX hR c_X10_told hd (by decide) (gdV (mW10 (List.mem_of_getElem? (i := 43) rfl)) (mW10 (List.mem_of_getElem? (i := 44) rfl)) (mW10 (List.mem_of_getElem? (i := 45) rfl)) (mW10 (List.mem_of_getElem? (i := 20) rfl)) (mW10 (List.mem_of_getElem? (i := 37) rfl))) (ci := 8) rfl (by decide +kernel) (fun as I A hh => by obtain ⟨o, w, e, hp⟩ := hh; exact ⟨8, 300, _, e, by decide, by decide⟩)

/-- X10_opOf -/
def P_X10_opOf : PT := fun as I A => ∃ (n : Int), as = [.inr (some (8, 300)), .inl n] ∧ (Mm (A 301))
theorem P_X10_opOf_c {n : Int} {I A : FN} : P_X10_opOf [.inr (some (8, 300)), .inl n] I A = (Mm (A 301)) := propext ⟨fun ⟨_, e, h⟩ => by cases e; exact h, fun h => ⟨_, rfl, h⟩⟩
def Q_X10_opOf : QT := fun as I A r I' A' => (I' = I ∧ A' = A) ∧ (∀ (n : Int), as = [.inr (some (8, 300)), .inl n] → ∀ x : Int, r = some x → (x = opG (A 301) n))
theorem Q_X10_opOf_c {n : Int} {I A : FN} {x : Int} {I' A' : FN} : Q_X10_opOf [.inr (some (8, 300)), .inl n] I A (some x) I' A' = ((I' = I ∧ A' = A) ∧ (x = opG (A 301) n)) := propext ⟨fun h => ⟨h.1, h.2 _ rfl x rfl⟩, fun h => ⟨h.1, fun _ e _ e2 => by cases e; cases e2; exact h.2⟩⟩
theorem Q_X10_opOf_c0 {n : Int} {I A : FN} {x : Int} : Q_X10_opOf [.inr (some (8, 300)), .inl n] I A (some x) I A = (x = opG (A 301) n) := by rw [Q_X10_opOf_c]; simp only [true_and]
theorem Q_X10_opOf_ro : ∀ as I A r I' A', Q_X10_opOf as I A r I' A' → I' = I ∧ A' = A := fun _ _ _ _ _ _ h => h.1
abbrev ct_X10_opOf : List (Nat × Ctr) := [(63, (0, 2, true, P_X10_isSite, Q_X10_isSite, al0)), (55, (1, 3, true, P_X10_within, Q_X10_within, al0))]
set_option maxHeartbeats 4000000 in
set_option maxRecDepth 100000 in
theorem c_X10_opOf : MetC yX10_opOf (.code yX10_opOf cX10_opOf 4 (some .int) :: W0) 3 true P_X10_opOf Q_X10_opOf al0 := by
  refine MetC_of (rt := 1) (by decide) (Or.inr (Or.inl ⟨rfl, rfl, rfl⟩)) ?_ ?_
  · rintro as I A ⟨n, rfl, hp⟩
    exact Nat.le_of_ble_eq_true rfl
  · rintro X as I A hX hR hT ⟨n, rfl, hp⟩ hI hA
    have h0 := hp.m0
    have E : Env0 X RX10 cX10_opOf _ flX10 lcX10 (lk ct_X10_opOf) _ 1 (0, 0) := ⟨hX, flk_ok _ ftX10_ok, lcX10_ok, lk_ok _ (List.forall_mem_cons.mpr ⟨r_X10_63 hX hR (by decide), List.forall_mem_cons.mpr ⟨r_X10_55 hX hR (by decide), (fun _ h => absurd h List.not_mem_nil)⟩⟩), hT⟩
    refine wp_sound E (wr := [3, 8]) (cut := []) 400 _ _ _ _ _ _ ?_
    simp (maxSteps := 10000000) only [entL, List.map_cons, List.map_nil, List.length_cons, List.length_nil, Nat.reduceAdd, Nat.reduceSub, Nat.reduceDiv, Nat.reduceMod, Nat.reduceLeDiff, Nat.reduceEqDiff, List.replicate, List.append_nil, List.cons_append, List.nil_append, wp_u, List.elem_nil, List.elem_cons, Nat.reduceBEq, Bool.or_false, Bool.false_or, Bool.true_or, Bool.or_true, ↓reduceIte, Bool.false_eq_true, if_false, if_true, e_ok, f4_0, f4_1, f4_2, f4_3, lgetK, lputK, isI_c, isR_c, popR_c, popI_c, popV_c, fget_0, fget_1, fget_2, fput_0, fput_2, true_and, and_true, rtOk_1, rtOk_2, cmpP, spl, arI_t, arI_f, dvI_t, dvI_f, rmI_t, rmI_f, al0_e, Nat.add_zero, Nat.zero_add, Nat.le_refl, and_imp, ne_eq, Option.some.injEq, swc, swOk, reduceCtorEq, false_or, or_false, Nat.zero_le, Classical.not_not, gt_iff_lt, ge_iff_le, forall_eq, bI_e0, bI_e1, bI_0e, bI_1e, bI_01, bI_lo, bI_hi, true_implies, forall_const, or_true, true_or, not_true_eq_false, not_false_eq_true, Int.reduceLE, Int.reduceNeg, false_implies, implies_true, Int.toNat_zero, up2_ud, up2_rn, ud_s, ud_n, dX10_opOf_0, dX10_opOf_1, dX10_opOf_3, dX10_opOf_4, dX10_opOf_5, dX10_opOf_6, dX10_opOf_8, dX10_opOf_9, dX10_opOf_10, dX10_opOf_11, (show tg 11 38 = 49 from rfl), (eq_true (by decide) : (0 ≤ ((11 : Nat) : Int) + 38) = True), dX10_opOf_14, dX10_opOf_15, dX10_opOf_16, dX10_opOf_19, (show tg 19 30 = 49 from rfl), (eq_true (by decide) : (0 ≤ ((19 : Nat) : Int) + 30) = True), dX10_opOf_22, dX10_opOf_23, dX10_opOf_24, dX10_opOf_25, dX10_opOf_28, dX10_opOf_29, dX10_opOf_30, dX10_opOf_31, dX10_opOf_32, dX10_opOf_35, (show tg 35 14 = 49 from rfl), (eq_true (by decide) : (0 ≤ ((35 : Nat) : Int) + 14) = True), dX10_opOf_38, dX10_opOf_40, dX10_opOf_41, dX10_opOf_42, dX10_opOf_43, dX10_opOf_44, dX10_opOf_45, dX10_opOf_46, (show tg 46 4 = 50 from rfl), (eq_true (by decide) : (0 ≤ ((46 : Nat) : Int) + 4) = True), dX10_opOf_49, dX10_opOf_50, e_aload_n, e_bipush, e_getfield, e_goto, e_iadd, e_iaload, e_iconst, e_idiv, e_ifCond, e_iload_n, e_imul, e_invokestatic, e_invokevirtual, e_irem, e_ireturn, e_istore_n, e_isub, fX10_13_8, cal_r (show lk ct_X10_opOf 63 = some (0, 2, true, P_X10_isSite, Q_X10_isSite, al0) from rfl) Q_X10_isSite_ro, P_X10_isSite_c, Q_X10_isSite_c0, cal_r (show lk ct_X10_opOf 55 = some (1, 3, true, P_X10_within, Q_X10_within, al0) from rfl) Q_X10_within_ro, P_X10_within_c, Q_X10_within_c0, Q_X10_opOf_c0]
    clear E hT hR hX
    (repeat' first | (with_reducible intro _) | (with_reducible refine And.intro ?_ ?_))
    all_goals (try simp only [up2_ud, up2_rn, ud_s, ud_n, ne_eq, Nat.reduceEqDiff, not_false_eq_true, and_true, true_and])
    all_goals first | with_reducible assumption | omega | (with_reducible rfl) | (refine bI_cg ?_; omega) | (simp only [opG, mG] at *; omega) | (simp only [opG, mG] at *; grind) | (refine bI_cg ?_; simp only [opG, mG] at *; grind) | (grind) | skip
theorem r_X10_100 {X : Cx} {bytes : ByteArray} {c0 : Jvm.Cond} {d : Nat} {mx : Nat × Nat} (hX : Fx X RX10 bytes (c0 :: W0)) (hR : RmX X d mx) (hd : 3 + 1 ≤ d) : CR X bytes mx (100, (0, 2, true, P_X10_opOf, Q_X10_opOf, al0)) := cr_V hX hR c_X10_opOf hd (by decide) (gdV (mW11 (List.mem_of_getElem? (i := 11) rfl)) (mW11 (List.mem_of_getElem? (i := 12) rfl)) (mW11 (List.mem_of_getElem? (i := 13) rfl)) (mW10 (List.mem_of_getElem? (i := 20) rfl)) (mW10 (List.mem_of_getElem? (i := 33) rfl))) (ci := 8) rfl (by decide +kernel) (fun as I A hh => by obtain ⟨n, e, hp⟩ := hh; exact ⟨8, 300, _, e, by decide, by decide⟩)

/-- X10_isMade -/
def P_X10_isMade : PT := fun as I A => ∃ (o : Int), as = [.inr (some (8, 300)), .inl o] ∧ (0 ≤ o ∧ o < 200)
theorem P_X10_isMade_c {o : Int} {I A : FN} : P_X10_isMade [.inr (some (8, 300)), .inl o] I A = (0 ≤ o ∧ o < 200) := propext ⟨fun ⟨_, e, h⟩ => by cases e; exact h, fun h => ⟨_, rfl, h⟩⟩
def Q_X10_isMade : QT := fun as I A r I' A' => (I' = I ∧ A' = A) ∧ (∀ (o : Int), as = [.inr (some (8, 300)), .inl o] → ∀ x : Int, r = some x → (x = bI (madeG (A 301) o)))
theorem Q_X10_isMade_c {o : Int} {I A : FN} {x : Int} {I' A' : FN} : Q_X10_isMade [.inr (some (8, 300)), .inl o] I A (some x) I' A' = ((I' = I ∧ A' = A) ∧ (x = bI (madeG (A 301) o))) := propext ⟨fun h => ⟨h.1, h.2 _ rfl x rfl⟩, fun h => ⟨h.1, fun _ e _ e2 => by cases e; cases e2; exact h.2⟩⟩
theorem Q_X10_isMade_c0 {o : Int} {I A : FN} {x : Int} : Q_X10_isMade [.inr (some (8, 300)), .inl o] I A (some x) I A = (x = bI (madeG (A 301) o)) := by rw [Q_X10_isMade_c]; simp only [true_and]
theorem Q_X10_isMade_ro : ∀ as I A r I' A', Q_X10_isMade as I A r I' A' → I' = I ∧ A' = A := fun _ _ _ _ _ _ h => h.1
abbrev ct_X10_isMade : List (Nat × Ctr) := [(67, (1, 1, true, P_X10_siteOf, Q_X10_siteOf, al0))]
set_option maxHeartbeats 4000000 in
set_option maxRecDepth 100000 in
theorem c_X10_isMade : MetC yX10_isMade (.code yX10_isMade cX10_isMade 2 (some .boolean) :: W0) 2 true P_X10_isMade Q_X10_isMade al0 := by
  refine MetC_of (rt := 2) (by decide) (Or.inr (Or.inr ⟨rfl, rfl, rfl⟩)) ?_ ?_
  · rintro as I A ⟨o, rfl, hp⟩
    exact Nat.le_of_ble_eq_true rfl
  · rintro X as I A hX hR hT ⟨o, rfl, hp⟩ hI hA
    have E : Env0 X RX10 cX10_isMade _ flX10 lcX10 (lk ct_X10_isMade) _ 2 (0, 0) := ⟨hX, flk_ok _ ftX10_ok, lcX10_ok, lk_ok _ (List.forall_mem_cons.mpr ⟨r_X10_67 hX hR (by decide), (fun _ h => absurd h List.not_mem_nil)⟩), hT⟩
    refine wp_sound E (wr := []) (cut := []) 400 _ _ _ _ _ _ ?_
    simp (maxSteps := 10000000) only [entL, List.map_cons, List.map_nil, List.length_cons, List.length_nil, Nat.reduceAdd, Nat.reduceSub, Nat.reduceDiv, Nat.reduceMod, Nat.reduceLeDiff, Nat.reduceEqDiff, List.replicate, List.append_nil, List.cons_append, List.nil_append, wp_u, List.elem_nil, List.elem_cons, Nat.reduceBEq, Bool.or_false, Bool.false_or, Bool.true_or, Bool.or_true, ↓reduceIte, Bool.false_eq_true, if_false, if_true, e_ok, f4_0, f4_1, f4_2, f4_3, lgetK, lputK, isI_c, isR_c, popR_c, popI_c, popV_c, fget_0, fget_1, fget_2, fput_0, fput_2, true_and, and_true, rtOk_1, rtOk_2, cmpP, spl, arI_t, arI_f, dvI_t, dvI_f, rmI_t, rmI_f, al0_e, Nat.add_zero, Nat.zero_add, Nat.le_refl, and_imp, ne_eq, Option.some.injEq, swc, swOk, reduceCtorEq, false_or, or_false, Nat.zero_le, Classical.not_not, gt_iff_lt, ge_iff_le, forall_eq, bI_e0, bI_e1, bI_0e, bI_1e, bI_01, bI_lo, bI_hi, true_implies, forall_const, or_true, true_or, not_true_eq_false, not_false_eq_true, Int.reduceLE, Int.reduceNeg, false_implies, implies_true, Int.toNat_zero, up2_ud, up2_rn, ud_s, ud_n, dX10_isMade_0, dX10_isMade_1, dX10_isMade_3, dX10_isMade_4, dX10_isMade_5, dX10_isMade_8, dX10_isMade_9, dX10_isMade_10, dX10_isMade_13, dX10_isMade_14, dX10_isMade_15, (show tg 15 7 = 22 from rfl), (eq_true (by decide) : (0 ≤ ((15 : Nat) : Int) + 7) = True), dX10_isMade_18, dX10_isMade_19, (show tg 19 4 = 23 from rfl), (eq_true (by decide) : (0 ≤ ((19 : Nat) : Int) + 4) = True), dX10_isMade_22, dX10_isMade_23, e_aload_n, e_bipush, e_getfield, e_goto, e_iadd, e_iaload, e_iconst, e_if_icmp, e_iload_n, e_invokestatic, e_irem, e_ireturn, fX10_13_8, cal_r (show lk ct_X10_isMade 67 = some (1, 1, true, P_X10_siteOf, Q_X10_siteOf, al0) from rfl) Q_X10_siteOf_ro, P_X10_siteOf_c, Q_X10_siteOf_c0, Q_X10_isMade_c0]
    clear E hT hR hX
    (repeat' first | (with_reducible intro _) | (with_reducible refine And.intro ?_ ?_))
    all_goals (try simp only [up2_ud, up2_rn, ud_s, ud_n, ne_eq, Nat.reduceEqDiff, not_false_eq_true, and_true, true_and])
    all_goals first | with_reducible assumption | omega | (with_reducible rfl) | (refine bI_cg ?_; omega) | (simp only [madeG, mG] at *; omega) | (simp only [madeG, mG] at *; grind) | (refine bI_cg ?_; simp only [madeG, mG] at *; grind) | (grind) | skip
theorem r_X10_78 {X : Cx} {bytes : ByteArray} {c0 : Jvm.Cond} {d : Nat} {mx : Nat × Nat} (hX : Fx X RX10 bytes (c0 :: W0)) (hR : RmX X d mx) (hd : 2 + 1 ≤ d) : CR X bytes mx (78, (0, 2, true, P_X10_isMade, Q_X10_isMade, al0)) := cr_V hX hR c_X10_isMade hd (by decide) (gdV (mW10 (List.mem_of_getElem? (i := 50) rfl)) (mW10 (List.mem_of_getElem? (i := 51) rfl)) (mW10 (List.mem_of_getElem? (i := 52) rfl)) (mW10 (List.mem_of_getElem? (i := 20) rfl)) (mW10 (List.mem_of_getElem? (i := 39) rfl))) (ci := 8) rfl (by decide +kernel) (fun as I A hh => by obtain ⟨o, e, hp⟩ := hh; exact ⟨8, 300, _, e, by decide, by decide⟩)

/-- X10_isNeeded -/
def P_X10_isNeeded : PT := fun as I A => ∃ (o : Int) (b : Int), as = [.inr (some (8, 300)), .inl o, .inl b] ∧ (0 ≤ o ∧ o < 200 ∧ 0 ≤ b ∧ b < 200)
theorem P_X10_isNeeded_c {o : Int} {b : Int} {I A : FN} : P_X10_isNeeded [.inr (some (8, 300)), .inl o, .inl b] I A = (0 ≤ o ∧ o < 200 ∧ 0 ≤ b ∧ b < 200) := propext ⟨fun ⟨_, _, e, h⟩ => by cases e; exact h, fun h => ⟨_, _, rfl, h⟩⟩
def Q_X10_isNeeded : QT := fun as I A r I' A' => (I' = I ∧ A' = A) ∧ (∀ (o : Int) (b : Int), as = [.inr (some (8, 300)), .inl o, .inl b] → ∀ x : Int, r = some x → (x = bI (needG (A 301) o b)))
theorem Q_X10_isNeeded_c {o : Int} {b : Int} {I A : FN} {x : Int} {I' A' : FN} : Q_X10_isNeeded [.inr (some (8, 300)), .inl o, .inl b] I A (some x) I' A' = ((I' = I ∧ A' = A) ∧ (x = bI (needG (A 301) o b))) := propext ⟨fun h => ⟨h.1, h.2 _ _ rfl x rfl⟩, fun h => ⟨h.1, fun _ _ e _ e2 => by cases e; cases e2; exact h.2⟩⟩
theorem Q_X10_isNeeded_c0 {o : Int} {b : Int} {I A : FN} {x : Int} : Q_X10_isNeeded [.inr (some (8, 300)), .inl o, .inl b] I A (some x) I A = (x = bI (needG (A 301) o b)) := by rw [Q_X10_isNeeded_c]; simp only [true_and]
theorem Q_X10_isNeeded_ro : ∀ as I A r I' A', Q_X10_isNeeded as I A r I' A' → I' = I ∧ A' = A := fun _ _ _ _ _ _ h => h.1
abbrev ct_X10_isNeeded : List (Nat × Ctr) := [(67, (1, 1, true, P_X10_siteOf, Q_X10_siteOf, al0)), (84, (0, 3, true, P_X10_told, Q_X10_told, al0))]
set_option maxHeartbeats 4000000 in
set_option maxRecDepth 100000 in
theorem c_X10_isNeeded : MetC yX10_isNeeded (.code yX10_isNeeded cX10_isNeeded 3 (some .boolean) :: W0) 2 true P_X10_isNeeded Q_X10_isNeeded al0 := by
  refine MetC_of (rt := 2) (by decide) (Or.inr (Or.inr ⟨rfl, rfl, rfl⟩)) ?_ ?_
  · rintro as I A ⟨o, b, rfl, hp⟩
    exact Nat.le_of_ble_eq_true rfl
  · rintro X as I A hX hR hT ⟨o, b, rfl, hp⟩ hI hA
    have E : Env0 X RX10 cX10_isNeeded _ flX10 lcX10 (lk ct_X10_isNeeded) _ 2 (0, 0) := ⟨hX, flk_ok _ ftX10_ok, lcX10_ok, lk_ok _ (List.forall_mem_cons.mpr ⟨r_X10_67 hX hR (by decide), List.forall_mem_cons.mpr ⟨r_X10_84 hX hR (by decide), (fun _ h => absurd h List.not_mem_nil)⟩⟩), hT⟩
    refine wp_sound E (wr := []) (cut := []) 400 _ _ _ _ _ _ ?_
    simp (maxSteps := 10000000) only [entL, List.map_cons, List.map_nil, List.length_cons, List.length_nil, Nat.reduceAdd, Nat.reduceSub, Nat.reduceDiv, Nat.reduceMod, Nat.reduceLeDiff, Nat.reduceEqDiff, List.replicate, List.append_nil, List.cons_append, List.nil_append, wp_u, List.elem_nil, List.elem_cons, Nat.reduceBEq, Bool.or_false, Bool.false_or, Bool.true_or, Bool.or_true, ↓reduceIte, Bool.false_eq_true, if_false, if_true, e_ok, f4_0, f4_1, f4_2, f4_3, lgetK, lputK, isI_c, isR_c, popR_c, popI_c, popV_c, fget_0, fget_1, fget_2, fput_0, fput_2, true_and, and_true, rtOk_1, rtOk_2, cmpP, spl, arI_t, arI_f, dvI_t, dvI_f, rmI_t, rmI_f, al0_e, Nat.add_zero, Nat.zero_add, Nat.le_refl, and_imp, ne_eq, Option.some.injEq, swc, swOk, reduceCtorEq, false_or, or_false, Nat.zero_le, Classical.not_not, gt_iff_lt, ge_iff_le, forall_eq, bI_e0, bI_e1, bI_0e, bI_1e, bI_01, bI_lo, bI_hi, true_implies, forall_const, or_true, true_or, not_true_eq_false, not_false_eq_true, Int.reduceLE, Int.reduceNeg, false_implies, implies_true, Int.toNat_zero, up2_ud, up2_rn, ud_s, ud_n, dX10_isNeeded_0, dX10_isNeeded_1, dX10_isNeeded_2, dX10_isNeeded_3, dX10_isNeeded_4, dX10_isNeeded_7, dX10_isNeeded_8, dX10_isNeeded_11, dX10_isNeeded_12, dX10_isNeeded_14, dX10_isNeeded_15, (show tg 15 7 = 22 from rfl), (eq_true (by decide) : (0 ≤ ((15 : Nat) : Int) + 7) = True), dX10_isNeeded_18, dX10_isNeeded_19, (show tg 19 4 = 23 from rfl), (eq_true (by decide) : (0 ≤ ((19 : Nat) : Int) + 4) = True), dX10_isNeeded_22, dX10_isNeeded_23, e_aload_n, e_bipush, e_goto, e_iadd, e_iconst, e_if_icmp, e_iload_n, e_invokestatic, e_invokevirtual, e_irem, e_ireturn, cal_r (show lk ct_X10_isNeeded 67 = some (1, 1, true, P_X10_siteOf, Q_X10_siteOf, al0) from rfl) Q_X10_siteOf_ro, P_X10_siteOf_c, Q_X10_siteOf_c0, cal_r (show lk ct_X10_isNeeded 84 = some (0, 3, true, P_X10_told, Q_X10_told, al0) from rfl) Q_X10_told_ro, P_X10_told_c, Q_X10_told_c0, Q_X10_isNeeded_c0]
    clear E hT hR hX
    (repeat' first | (with_reducible intro _) | (with_reducible refine And.intro ?_ ?_))
    all_goals (try simp only [up2_ud, up2_rn, ud_s, ud_n, ne_eq, Nat.reduceEqDiff, not_false_eq_true, and_true, true_and])
    all_goals first | with_reducible assumption | omega | (with_reducible rfl) | (refine bI_cg ?_; omega) | (simp only [needG] at *; omega) | (simp only [needG] at *; grind) | (refine bI_cg ?_; simp only [needG] at *; grind) | (grind) | skip
theorem r_X10_74 {X : Cx} {bytes : ByteArray} {c0 : Jvm.Cond} {d : Nat} {mx : Nat × Nat} (hX : Fx X RX10 bytes (c0 :: W0)) (hR : RmX X d mx) (hd : 2 + 1 ≤ d) : CR X bytes mx (74, (0, 3, true, P_X10_isNeeded, Q_X10_isNeeded, al0)) := cr_V hX hR c_X10_isNeeded hd (by decide) (gdV (mW10 (List.mem_of_getElem? (i := 47) rfl)) (mW10 (List.mem_of_getElem? (i := 48) rfl)) (mW10 (List.mem_of_getElem? (i := 49) rfl)) (mW10 (List.mem_of_getElem? (i := 20) rfl)) (mW10 (List.mem_of_getElem? (i := 42) rfl))) (ci := 8) rfl (by decide +kernel) (fun as I A hh => by obtain ⟨o, b, e, hp⟩ := hh; exact ⟨8, 300, _, e, by decide, by decide⟩)

/-- X10_isDone -/
def P_X10_isDone : PT := fun as I A => ∃ (s : Int) (o : Int), as = [.inr (some (8, 300)), .inl s, .inl o] ∧ (0 ≤ s ∧ s ≤ 6 ∧ 0 ≤ o ∧ o < 200 ∧ 0 ≤ I 300 4 ∧ I 300 4 < 200)
theorem P_X10_isDone_c {s : Int} {o : Int} {I A : FN} : P_X10_isDone [.inr (some (8, 300)), .inl s, .inl o] I A = (0 ≤ s ∧ s ≤ 6 ∧ 0 ≤ o ∧ o < 200 ∧ 0 ≤ I 300 4 ∧ I 300 4 < 200) := propext ⟨fun ⟨_, _, e, h⟩ => by cases e; exact h, fun h => ⟨_, _, rfl, h⟩⟩
def Q_X10_isDone : QT := fun as I A r I' A' => (I' = I ∧ A' = A) ∧ (∀ (s : Int) (o : Int), as = [.inr (some (8, 300)), .inl s, .inl o] → ∀ x : Int, r = some x → (x = bI (doneG (I 300 4) (A 301) s o)))
theorem Q_X10_isDone_c {s : Int} {o : Int} {I A : FN} {x : Int} {I' A' : FN} : Q_X10_isDone [.inr (some (8, 300)), .inl s, .inl o] I A (some x) I' A' = ((I' = I ∧ A' = A) ∧ (x = bI (doneG (I 300 4) (A 301) s o))) := propext ⟨fun h => ⟨h.1, h.2 _ _ rfl x rfl⟩, fun h => ⟨h.1, fun _ _ e _ e2 => by cases e; cases e2; exact h.2⟩⟩
theorem Q_X10_isDone_c0 {s : Int} {o : Int} {I A : FN} {x : Int} : Q_X10_isDone [.inr (some (8, 300)), .inl s, .inl o] I A (some x) I A = (x = bI (doneG (I 300 4) (A 301) s o)) := by rw [Q_X10_isDone_c]; simp only [true_and]
theorem Q_X10_isDone_ro : ∀ as I A r I' A', Q_X10_isDone as I A r I' A' → I' = I ∧ A' = A := fun _ _ _ _ _ _ h => h.1
abbrev ct_X10_isDone : List (Nat × Ctr) := [(74, (0, 3, true, P_X10_isNeeded, Q_X10_isNeeded, al0)), (78, (0, 2, true, P_X10_isMade, Q_X10_isMade, al0)), (67, (1, 1, true, P_X10_siteOf, Q_X10_siteOf, al0)), (81, (0, 3, true, P_X10_of, Q_X10_of, al0))]
set_option maxHeartbeats 4000000 in
set_option maxRecDepth 100000 in
theorem c_X10_isDone : MetC yX10_isDone (.code yX10_isDone cX10_isDone 3 (some .boolean) :: W0) 3 true P_X10_isDone Q_X10_isDone al0 := by
  refine MetC_of (rt := 2) (by decide) (Or.inr (Or.inr ⟨rfl, rfl, rfl⟩)) ?_ ?_
  · rintro as I A ⟨s, o, rfl, hp⟩
    exact Nat.le_of_ble_eq_true rfl
  · rintro X as I A hX hR hT ⟨s, o, rfl, hp⟩ hI hA
    have E : Env0 X RX10 cX10_isDone _ flX10 lcX10 (lk ct_X10_isDone) _ 2 (0, 0) := ⟨hX, flk_ok _ ftX10_ok, lcX10_ok, lk_ok _ (List.forall_mem_cons.mpr ⟨r_X10_74 hX hR (by decide), List.forall_mem_cons.mpr ⟨r_X10_78 hX hR (by decide), List.forall_mem_cons.mpr ⟨r_X10_67 hX hR (by decide), List.forall_mem_cons.mpr ⟨r_X10_81 hX hR (by decide), (fun _ h => absurd h List.not_mem_nil)⟩⟩⟩⟩), hT⟩
    refine wp_sound E (wr := []) (cut := []) 400 _ _ _ _ _ _ ?_
    simp (maxSteps := 10000000) only [entL, List.map_cons, List.map_nil, List.length_cons, List.length_nil, Nat.reduceAdd, Nat.reduceSub, Nat.reduceDiv, Nat.reduceMod, Nat.reduceLeDiff, Nat.reduceEqDiff, List.replicate, List.append_nil, List.cons_append, List.nil_append, wp_u, List.elem_nil, List.elem_cons, Nat.reduceBEq, Bool.or_false, Bool.false_or, Bool.true_or, Bool.or_true, ↓reduceIte, Bool.false_eq_true, if_false, if_true, e_ok, f4_0, f4_1, f4_2, f4_3, lgetK, lputK, isI_c, isR_c, popR_c, popI_c, popV_c, fget_0, fget_1, fget_2, fput_0, fput_2, true_and, and_true, rtOk_1, rtOk_2, cmpP, spl, arI_t, arI_f, dvI_t, dvI_f, rmI_t, rmI_f, al0_e, Nat.add_zero, Nat.zero_add, Nat.le_refl, and_imp, ne_eq, Option.some.injEq, swc, swOk, reduceCtorEq, false_or, or_false, Nat.zero_le, Classical.not_not, gt_iff_lt, ge_iff_le, forall_eq, bI_e0, bI_e1, bI_0e, bI_1e, bI_01, bI_lo, bI_hi, true_implies, forall_const, or_true, true_or, not_true_eq_false, not_false_eq_true, Int.reduceLE, Int.reduceNeg, false_implies, implies_true, Int.toNat_zero, up2_ud, up2_rn, ud_s, ud_n, dX10_isDone_0, dX10_isDone_1, dX10_isDone_3, (show tg 3 13 = 16 from rfl), (eq_true (by decide) : (0 ≤ ((3 : Nat) : Int) + 13) = True), dX10_isDone_6, dX10_isDone_7, dX10_isDone_8, dX10_isDone_9, dX10_isDone_12, dX10_isDone_15, dX10_isDone_16, dX10_isDone_17, dX10_isDone_18, (show tg 18 11 = 29 from rfl), (eq_true (by decide) : (0 ≤ ((18 : Nat) : Int) + 11) = True), dX10_isDone_21, dX10_isDone_22, dX10_isDone_23, dX10_isDone_26, (show tg 26 26 = 52 from rfl), (eq_true (by decide) : (0 ≤ ((26 : Nat) : Int) + 26) = True), dX10_isDone_29, dX10_isDone_30, dX10_isDone_32, dX10_isDone_33, dX10_isDone_34, dX10_isDone_35, dX10_isDone_36, dX10_isDone_37, dX10_isDone_40, dX10_isDone_41, dX10_isDone_44, (show tg 44 7 = 51 from rfl), (eq_true (by decide) : (0 ≤ ((44 : Nat) : Int) + 7) = True), dX10_isDone_47, dX10_isDone_48, (show tg 48 4 = 52 from rfl), (eq_true (by decide) : (0 ≤ ((48 : Nat) : Int) + 4) = True), dX10_isDone_51, dX10_isDone_52, e_aload_n, e_bipush, e_getfield, e_goto, e_iadd, e_iconst, e_if_icmp, e_iload_n, e_invokestatic, e_invokevirtual, e_irem, e_ireturn, fX10_71_8, cal_r (show lk ct_X10_isDone 74 = some (0, 3, true, P_X10_isNeeded, Q_X10_isNeeded, al0) from rfl) Q_X10_isNeeded_ro, P_X10_isNeeded_c, Q_X10_isNeeded_c0, cal_r (show lk ct_X10_isDone 78 = some (0, 2, true, P_X10_isMade, Q_X10_isMade, al0) from rfl) Q_X10_isMade_ro, P_X10_isMade_c, Q_X10_isMade_c0, cal_r (show lk ct_X10_isDone 67 = some (1, 1, true, P_X10_siteOf, Q_X10_siteOf, al0) from rfl) Q_X10_siteOf_ro, P_X10_siteOf_c, Q_X10_siteOf_c0, cal_r (show lk ct_X10_isDone 81 = some (0, 3, true, P_X10_of, Q_X10_of, al0) from rfl) Q_X10_of_ro, P_X10_of_c, Q_X10_of_c0, Q_X10_isDone_c0]
    clear E hT hR hX
    (repeat' first | (with_reducible intro _) | (with_reducible refine And.intro ?_ ?_))
    all_goals (try simp only [up2_ud, up2_rn, ud_s, ud_n, ne_eq, Nat.reduceEqDiff, not_false_eq_true, and_true, true_and])
    all_goals first | with_reducible assumption | omega | (with_reducible rfl) | (refine bI_cg ?_; omega) | (simp only [doneG] at *; omega) | (simp only [doneG] at *; grind) | (refine bI_cg ?_; simp only [doneG] at *; grind) | (grind) | skip
theorem r_X10_87 {X : Cx} {bytes : ByteArray} {c0 : Jvm.Cond} {d : Nat} {mx : Nat × Nat} (hX : Fx X RX10 bytes (c0 :: W0)) (hR : RmX X d mx) (hd : 3 + 1 ≤ d) : CR X bytes mx (87, (0, 3, true, P_X10_isDone, Q_X10_isDone, al0)) := cr_V hX hR c_X10_isDone hd (by decide) (gdV (mW10 (List.mem_of_getElem? (i := 58) rfl)) (mW10 (List.mem_of_getElem? (i := 59) rfl)) (mW10 (List.mem_of_getElem? (i := 60) rfl)) (mW10 (List.mem_of_getElem? (i := 20) rfl)) (mW10 (List.mem_of_getElem? (i := 56) rfl))) (ci := 8) rfl (by decide +kernel) (fun as I A hh => by obtain ⟨s, o, e, hp⟩ := hh; exact ⟨8, 300, _, e, by decide, by decide⟩)

/-- X10_isLater -/
def P_X10_isLater : PT := fun as I A => ∃ (o : Int) (p : Int), as = [.inr (some (8, 300)), .inl o, .inl p] ∧ (0 ≤ o ∧ o < 200 ∧ 0 ≤ p ∧ p < 200)
theorem P_X10_isLater_c {o : Int} {p : Int} {I A : FN} : P_X10_isLater [.inr (some (8, 300)), .inl o, .inl p] I A = (0 ≤ o ∧ o < 200 ∧ 0 ≤ p ∧ p < 200) := propext ⟨fun ⟨_, _, e, h⟩ => by cases e; exact h, fun h => ⟨_, _, rfl, h⟩⟩
def Q_X10_isLater : QT := fun as I A r I' A' => (I' = I ∧ A' = A) ∧ (∀ (o : Int) (p : Int), as = [.inr (some (8, 300)), .inl o, .inl p] → ∀ x : Int, r = some x → (x = bI (laterG (A 301) o p)))
theorem Q_X10_isLater_c {o : Int} {p : Int} {I A : FN} {x : Int} {I' A' : FN} : Q_X10_isLater [.inr (some (8, 300)), .inl o, .inl p] I A (some x) I' A' = ((I' = I ∧ A' = A) ∧ (x = bI (laterG (A 301) o p))) := propext ⟨fun h => ⟨h.1, h.2 _ _ rfl x rfl⟩, fun h => ⟨h.1, fun _ _ e _ e2 => by cases e; cases e2; exact h.2⟩⟩
theorem Q_X10_isLater_c0 {o : Int} {p : Int} {I A : FN} {x : Int} : Q_X10_isLater [.inr (some (8, 300)), .inl o, .inl p] I A (some x) I A = (x = bI (laterG (A 301) o p)) := by rw [Q_X10_isLater_c]; simp only [true_and]
theorem Q_X10_isLater_ro : ∀ as I A r I' A', Q_X10_isLater as I A r I' A' → I' = I ∧ A' = A := fun _ _ _ _ _ _ h => h.1
abbrev ct_X10_isLater : List (Nat × Ctr) := [(84, (0, 3, true, P_X10_told, Q_X10_told, al0)), (67, (1, 1, true, P_X10_siteOf, Q_X10_siteOf, al0))]
set_option maxHeartbeats 4000000 in
set_option maxRecDepth 100000 in
theorem c_X10_isLater : MetC yX10_isLater (.code yX10_isLater cX10_isLater 3 (some .boolean) :: W0) 2 true P_X10_isLater Q_X10_isLater al0 := by
  refine MetC_of (rt := 2) (by decide) (Or.inr (Or.inr ⟨rfl, rfl, rfl⟩)) ?_ ?_
  · rintro as I A ⟨o, p, rfl, hp⟩
    exact Nat.le_of_ble_eq_true rfl
  · rintro X as I A hX hR hT ⟨o, p, rfl, hp⟩ hI hA
    have E : Env0 X RX10 cX10_isLater _ flX10 lcX10 (lk ct_X10_isLater) _ 2 (0, 0) := ⟨hX, flk_ok _ ftX10_ok, lcX10_ok, lk_ok _ (List.forall_mem_cons.mpr ⟨r_X10_84 hX hR (by decide), List.forall_mem_cons.mpr ⟨r_X10_67 hX hR (by decide), (fun _ h => absurd h List.not_mem_nil)⟩⟩), hT⟩
    refine wp_sound E (wr := []) (cut := []) 400 _ _ _ _ _ _ ?_
    simp (maxSteps := 10000000) only [entL, List.map_cons, List.map_nil, List.length_cons, List.length_nil, Nat.reduceAdd, Nat.reduceSub, Nat.reduceDiv, Nat.reduceMod, Nat.reduceLeDiff, Nat.reduceEqDiff, List.replicate, List.append_nil, List.cons_append, List.nil_append, wp_u, List.elem_nil, List.elem_cons, Nat.reduceBEq, Bool.or_false, Bool.false_or, Bool.true_or, Bool.or_true, ↓reduceIte, Bool.false_eq_true, if_false, if_true, e_ok, f4_0, f4_1, f4_2, f4_3, lgetK, lputK, isI_c, isR_c, popR_c, popI_c, popV_c, fget_0, fget_1, fget_2, fput_0, fput_2, true_and, and_true, rtOk_1, rtOk_2, cmpP, spl, arI_t, arI_f, dvI_t, dvI_f, rmI_t, rmI_f, al0_e, Nat.add_zero, Nat.zero_add, Nat.le_refl, and_imp, ne_eq, Option.some.injEq, swc, swOk, reduceCtorEq, false_or, or_false, Nat.zero_le, Classical.not_not, gt_iff_lt, ge_iff_le, forall_eq, bI_e0, bI_e1, bI_0e, bI_1e, bI_01, bI_lo, bI_hi, true_implies, forall_const, or_true, true_or, not_true_eq_false, not_false_eq_true, Int.reduceLE, Int.reduceNeg, false_implies, implies_true, Int.toNat_zero, up2_ud, up2_rn, ud_s, ud_n, dX10_isLater_0, dX10_isLater_1, dX10_isLater_2, dX10_isLater_3, dX10_isLater_6, dX10_isLater_7, dX10_isLater_8, dX10_isLater_9, dX10_isLater_12, (show tg 12 26 = 38 from rfl), (eq_true (by decide) : (0 ≤ ((12 : Nat) : Int) + 26) = True), dX10_isLater_15, dX10_isLater_16, dX10_isLater_17, dX10_isLater_18, dX10_isLater_21, dX10_isLater_22, dX10_isLater_23, dX10_isLater_24, dX10_isLater_27, (show tg 27 7 = 34 from rfl), (eq_true (by decide) : (0 ≤ ((27 : Nat) : Int) + 7) = True), dX10_isLater_30, dX10_isLater_31, (show tg 31 23 = 54 from rfl), (eq_true (by decide) : (0 ≤ ((31 : Nat) : Int) + 23) = True), dX10_isLater_34, dX10_isLater_35, (show tg 35 19 = 54 from rfl), (eq_true (by decide) : (0 ≤ ((35 : Nat) : Int) + 19) = True), dX10_isLater_38, dX10_isLater_39, dX10_isLater_42, dX10_isLater_43, dX10_isLater_46, (show tg 46 7 = 53 from rfl), (eq_true (by decide) : (0 ≤ ((46 : Nat) : Int) + 7) = True), dX10_isLater_49, dX10_isLater_50, (show tg 50 4 = 54 from rfl), (eq_true (by decide) : (0 ≤ ((50 : Nat) : Int) + 4) = True), dX10_isLater_53, dX10_isLater_54, e_aload_n, e_goto, e_iconst, e_if_icmp, e_iload_n, e_invokestatic, e_invokevirtual, e_ireturn, cal_r (show lk ct_X10_isLater 84 = some (0, 3, true, P_X10_told, Q_X10_told, al0) from rfl) Q_X10_told_ro, P_X10_told_c, Q_X10_told_c0, cal_r (show lk ct_X10_isLater 67 = some (1, 1, true, P_X10_siteOf, Q_X10_siteOf, al0) from rfl) Q_X10_siteOf_ro, P_X10_siteOf_c, Q_X10_siteOf_c0, Q_X10_isLater_c0]
    clear E hT hR hX
    (repeat' first | (with_reducible intro _) | (with_reducible refine And.intro ?_ ?_))
    all_goals (try simp only [up2_ud, up2_rn, ud_s, ud_n, ne_eq, Nat.reduceEqDiff, not_false_eq_true, and_true, true_and])
    all_goals first | with_reducible assumption | omega | (with_reducible rfl) | (refine bI_cg ?_; omega) | (simp only [laterG] at *; omega) | (simp only [laterG] at *; grind) | (refine bI_cg ?_; simp only [laterG] at *; grind) | (grind) | skip
theorem r_X10_90 {X : Cx} {bytes : ByteArray} {c0 : Jvm.Cond} {d : Nat} {mx : Nat × Nat} (hX : Fx X RX10 bytes (c0 :: W0)) (hR : RmX X d mx) (hd : 2 + 1 ≤ d) : CR X bytes mx (90, (0, 3, true, P_X10_isLater, Q_X10_isLater, al0)) := cr_V hX hR c_X10_isLater hd (by decide) (gdV (mW10 (List.mem_of_getElem? (i := 61) rfl)) (mW10 (List.mem_of_getElem? (i := 62) rfl)) (mW10 (List.mem_of_getElem? (i := 63) rfl)) (mW10 (List.mem_of_getElem? (i := 20) rfl)) (mW10 (List.mem_of_getElem? (i := 57) rfl))) (ci := 8) rfl (by decide +kernel) (fun as I A hh => by obtain ⟨o, p, e, hp⟩ := hh; exact ⟨8, 300, _, e, by decide, by decide⟩)

/-- X10_isSwept -/
def P_X10_isSwept : PT := fun as I A => ∃ (s : Int) (o : Int), as = [.inr (some (8, 300)), .inl s, .inl o] ∧ (0 ≤ s ∧ s ≤ 6 ∧ 0 ≤ o ∧ o < 200)
theorem P_X10_isSwept_c {s : Int} {o : Int} {I A : FN} : P_X10_isSwept [.inr (some (8, 300)), .inl s, .inl o] I A = (0 ≤ s ∧ s ≤ 6 ∧ 0 ≤ o ∧ o < 200) := propext ⟨fun ⟨_, _, e, h⟩ => by cases e; exact h, fun h => ⟨_, _, rfl, h⟩⟩
def Q_X10_isSwept : QT := fun as I A r I' A' => (I' = I ∧ A' = A) ∧ (∀ (s : Int) (o : Int), as = [.inr (some (8, 300)), .inl s, .inl o] → ∀ x : Int, r = some x → (x = bI (sweptG (A 301) s o)))
theorem Q_X10_isSwept_c {s : Int} {o : Int} {I A : FN} {x : Int} {I' A' : FN} : Q_X10_isSwept [.inr (some (8, 300)), .inl s, .inl o] I A (some x) I' A' = ((I' = I ∧ A' = A) ∧ (x = bI (sweptG (A 301) s o))) := propext ⟨fun h => ⟨h.1, h.2 _ _ rfl x rfl⟩, fun h => ⟨h.1, fun _ _ e _ e2 => by cases e; cases e2; exact h.2⟩⟩
theorem Q_X10_isSwept_c0 {s : Int} {o : Int} {I A : FN} {x : Int} : Q_X10_isSwept [.inr (some (8, 300)), .inl s, .inl o] I A (some x) I A = (x = bI (sweptG (A 301) s o)) := by rw [Q_X10_isSwept_c]; simp only [true_and]
theorem Q_X10_isSwept_ro : ∀ as I A r I' A', Q_X10_isSwept as I A r I' A' → I' = I ∧ A' = A := fun _ _ _ _ _ _ h => h.1
abbrev ct_X10_isSwept : List (Nat × Ctr) := [(81, (0, 3, true, P_X10_of, Q_X10_of, al0))]
set_option maxHeartbeats 4000000 in
set_option maxRecDepth 100000 in
theorem c_X10_isSwept : MetC yX10_isSwept (.code yX10_isSwept cX10_isSwept 3 (some .boolean) :: W0) 3 true P_X10_isSwept Q_X10_isSwept al0 := by
  refine MetC_of (rt := 2) (by decide) (Or.inr (Or.inr ⟨rfl, rfl, rfl⟩)) ?_ ?_
  · rintro as I A ⟨s, o, rfl, hp⟩
    exact Nat.le_of_ble_eq_true rfl
  · rintro X as I A hX hR hT ⟨s, o, rfl, hp⟩ hI hA
    have E : Env0 X RX10 cX10_isSwept _ flX10 lcX10 (lk ct_X10_isSwept) _ 2 (0, 0) := ⟨hX, flk_ok _ ftX10_ok, lcX10_ok, lk_ok _ (List.forall_mem_cons.mpr ⟨r_X10_81 hX hR (by decide), (fun _ h => absurd h List.not_mem_nil)⟩), hT⟩
    refine wp_sound E (wr := []) (cut := []) 400 _ _ _ _ _ _ ?_
    simp (maxSteps := 10000000) only [entL, List.map_cons, List.map_nil, List.length_cons, List.length_nil, Nat.reduceAdd, Nat.reduceSub, Nat.reduceDiv, Nat.reduceMod, Nat.reduceLeDiff, Nat.reduceEqDiff, List.replicate, List.append_nil, List.cons_append, List.nil_append, wp_u, List.elem_nil, List.elem_cons, Nat.reduceBEq, Bool.or_false, Bool.false_or, Bool.true_or, Bool.or_true, ↓reduceIte, Bool.false_eq_true, if_false, if_true, e_ok, f4_0, f4_1, f4_2, f4_3, lgetK, lputK, isI_c, isR_c, popR_c, popI_c, popV_c, fget_0, fget_1, fget_2, fput_0, fput_2, true_and, and_true, rtOk_1, rtOk_2, cmpP, spl, arI_t, arI_f, dvI_t, dvI_f, rmI_t, rmI_f, al0_e, Nat.add_zero, Nat.zero_add, Nat.le_refl, and_imp, ne_eq, Option.some.injEq, swc, swOk, reduceCtorEq, false_or, or_false, Nat.zero_le, Classical.not_not, gt_iff_lt, ge_iff_le, forall_eq, bI_e0, bI_e1, bI_0e, bI_1e, bI_01, bI_lo, bI_hi, true_implies, forall_const, or_true, true_or, not_true_eq_false, not_false_eq_true, Int.reduceLE, Int.reduceNeg, false_implies, implies_true, Int.toNat_zero, up2_ud, up2_rn, ud_s, ud_n, dX10_isSwept_0, dX10_isSwept_1, dX10_isSwept_2, (show tg 2 21 = 23 from rfl), (eq_true (by decide) : (0 ≤ ((2 : Nat) : Int) + 21) = True), dX10_isSwept_5, dX10_isSwept_6, dX10_isSwept_7, dX10_isSwept_10, dX10_isSwept_11, dX10_isSwept_12, dX10_isSwept_15, dX10_isSwept_16, (show tg 16 7 = 23 from rfl), (eq_true (by decide) : (0 ≤ ((16 : Nat) : Int) + 7) = True), dX10_isSwept_19, dX10_isSwept_20, (show tg 20 4 = 24 from rfl), (eq_true (by decide) : (0 ≤ ((20 : Nat) : Int) + 4) = True), dX10_isSwept_23, dX10_isSwept_24, e_aload_n, e_goto, e_iadd, e_iconst, e_if_icmp, e_iload_n, e_invokevirtual, e_ireturn, e_sipush, cal_r (show lk ct_X10_isSwept 81 = some (0, 3, true, P_X10_of, Q_X10_of, al0) from rfl) Q_X10_of_ro, P_X10_of_c, Q_X10_of_c0, Q_X10_isSwept_c0]
    clear E hT hR hX
    (repeat' first | (with_reducible intro _) | (with_reducible refine And.intro ?_ ?_))
    all_goals (try simp only [up2_ud, up2_rn, ud_s, ud_n, ne_eq, Nat.reduceEqDiff, not_false_eq_true, and_true, true_and])
    all_goals first | with_reducible assumption | omega | (with_reducible rfl) | (refine bI_cg ?_; omega) | (simp only [sweptG] at *; omega) | (simp only [sweptG] at *; grind) | (refine bI_cg ?_; simp only [sweptG] at *; grind) | (grind) | skip
theorem r_X10_97 {X : Cx} {bytes : ByteArray} {c0 : Jvm.Cond} {d : Nat} {mx : Nat × Nat} (hX : Fx X RX10 bytes (c0 :: W0)) (hR : RmX X d mx) (hd : 3 + 1 ≤ d) : CR X bytes mx (97, (0, 3, true, P_X10_isSwept, Q_X10_isSwept, al0)) := cr_V hX hR c_X10_isSwept hd (by decide) (gdV (mW11 (List.mem_of_getElem? (i := 7) rfl)) (mW11 (List.mem_of_getElem? (i := 8) rfl)) (mW11 (List.mem_of_getElem? (i := 9) rfl)) (mW10 (List.mem_of_getElem? (i := 20) rfl)) (mW11 (List.mem_of_getElem? (i := 6) rfl))) (ci := 8) rfl (by decide +kernel) (fun as I A hh => by obtain ⟨s, o, e, hp⟩ := hh; exact ⟨8, 300, _, e, by decide, by decide⟩)

/-- X10_isPlace -/
def P_X10_isPlace : PT := fun as I A => ∃ (s : Int) (o : Int), as = [.inr (some (8, 300)), .inl s, .inl o] ∧ (0 ≤ s ∧ s ≤ 6 ∧ 0 ≤ o ∧ o < 200 ∧ 0 ≤ I 300 4 ∧ I 300 4 < 200)
theorem P_X10_isPlace_c {s : Int} {o : Int} {I A : FN} : P_X10_isPlace [.inr (some (8, 300)), .inl s, .inl o] I A = (0 ≤ s ∧ s ≤ 6 ∧ 0 ≤ o ∧ o < 200 ∧ 0 ≤ I 300 4 ∧ I 300 4 < 200) := propext ⟨fun ⟨_, _, e, h⟩ => by cases e; exact h, fun h => ⟨_, _, rfl, h⟩⟩
def Q_X10_isPlace : QT := fun as I A r I' A' => (I' = I ∧ A' = A) ∧ (∀ (s : Int) (o : Int), as = [.inr (some (8, 300)), .inl s, .inl o] → ∀ x : Int, r = some x → (x = bI (placeG (I 300 4) (A 301) s o)))
theorem Q_X10_isPlace_c {s : Int} {o : Int} {I A : FN} {x : Int} {I' A' : FN} : Q_X10_isPlace [.inr (some (8, 300)), .inl s, .inl o] I A (some x) I' A' = ((I' = I ∧ A' = A) ∧ (x = bI (placeG (I 300 4) (A 301) s o))) := propext ⟨fun h => ⟨h.1, h.2 _ _ rfl x rfl⟩, fun h => ⟨h.1, fun _ _ e _ e2 => by cases e; cases e2; exact h.2⟩⟩
theorem Q_X10_isPlace_c0 {s : Int} {o : Int} {I A : FN} {x : Int} : Q_X10_isPlace [.inr (some (8, 300)), .inl s, .inl o] I A (some x) I A = (x = bI (placeG (I 300 4) (A 301) s o)) := by rw [Q_X10_isPlace_c]; simp only [true_and]
theorem Q_X10_isPlace_ro : ∀ as I A r I' A', Q_X10_isPlace as I A r I' A' → I' = I ∧ A' = A := fun _ _ _ _ _ _ h => h.1
abbrev ct_X10_isPlace : List (Nat × Ctr) := [(87, (0, 3, true, P_X10_isDone, Q_X10_isDone, al0)), (84, (0, 3, true, P_X10_told, Q_X10_told, al0)), (97, (0, 3, true, P_X10_isSwept, Q_X10_isSwept, al0))]
set_option maxHeartbeats 4000000 in
set_option maxRecDepth 100000 in
theorem c_X10_isPlace : MetC yX10_isPlace (.code yX10_isPlace cX10_isPlace 3 (some .boolean) :: W0) 4 true P_X10_isPlace Q_X10_isPlace al0 := by
  refine MetC_of (rt := 2) (by decide) (Or.inr (Or.inr ⟨rfl, rfl, rfl⟩)) ?_ ?_
  · rintro as I A ⟨s, o, rfl, hp⟩
    exact Nat.le_of_ble_eq_true rfl
  · rintro X as I A hX hR hT ⟨s, o, rfl, hp⟩ hI hA
    have E : Env0 X RX10 cX10_isPlace _ flX10 lcX10 (lk ct_X10_isPlace) _ 2 (0, 0) := ⟨hX, flk_ok _ ftX10_ok, lcX10_ok, lk_ok _ (List.forall_mem_cons.mpr ⟨r_X10_87 hX hR (by decide), List.forall_mem_cons.mpr ⟨r_X10_84 hX hR (by decide), List.forall_mem_cons.mpr ⟨r_X10_97 hX hR (by decide), (fun _ h => absurd h List.not_mem_nil)⟩⟩⟩), hT⟩
    refine wp_sound E (wr := []) (cut := []) 400 _ _ _ _ _ _ ?_
    simp (maxSteps := 10000000) only [entL, List.map_cons, List.map_nil, List.length_cons, List.length_nil, Nat.reduceAdd, Nat.reduceSub, Nat.reduceDiv, Nat.reduceMod, Nat.reduceLeDiff, Nat.reduceEqDiff, List.replicate, List.append_nil, List.cons_append, List.nil_append, wp_u, List.elem_nil, List.elem_cons, Nat.reduceBEq, Bool.or_false, Bool.false_or, Bool.true_or, Bool.or_true, ↓reduceIte, Bool.false_eq_true, if_false, if_true, e_ok, f4_0, f4_1, f4_2, f4_3, lgetK, lputK, isI_c, isR_c, popR_c, popI_c, popV_c, fget_0, fget_1, fget_2, fput_0, fput_2, true_and, and_true, rtOk_1, rtOk_2, cmpP, spl, arI_t, arI_f, dvI_t, dvI_f, rmI_t, rmI_f, al0_e, Nat.add_zero, Nat.zero_add, Nat.le_refl, and_imp, ne_eq, Option.some.injEq, swc, swOk, reduceCtorEq, false_or, or_false, Nat.zero_le, Classical.not_not, gt_iff_lt, ge_iff_le, forall_eq, bI_e0, bI_e1, bI_0e, bI_1e, bI_01, bI_lo, bI_hi, true_implies, forall_const, or_true, true_or, not_true_eq_false, not_false_eq_true, Int.reduceLE, Int.reduceNeg, false_implies, implies_true, Int.toNat_zero, up2_ud, up2_rn, ud_s, ud_n, dX10_isPlace_0, dX10_isPlace_1, dX10_isPlace_2, dX10_isPlace_3, dX10_isPlace_6, (show tg 6 26 = 32 from rfl), (eq_true (by decide) : (0 ≤ ((6 : Nat) : Int) + 26) = True), dX10_isPlace_9, dX10_isPlace_10, dX10_isPlace_11, dX10_isPlace_12, dX10_isPlace_15, dX10_isPlace_16, (show tg 16 16 = 32 from rfl), (eq_true (by decide) : (0 ≤ ((16 : Nat) : Int) + 16) = True), dX10_isPlace_19, dX10_isPlace_20, dX10_isPlace_21, dX10_isPlace_22, dX10_isPlace_25, (show tg 25 7 = 32 from rfl), (eq_true (by decide) : (0 ≤ ((25 : Nat) : Int) + 7) = True), dX10_isPlace_28, dX10_isPlace_29, (show tg 29 4 = 33 from rfl), (eq_true (by decide) : (0 ≤ ((29 : Nat) : Int) + 4) = True), dX10_isPlace_32, dX10_isPlace_33, e_aload_n, e_goto, e_iconst, e_ifCond, e_if_icmp, e_iload_n, e_invokevirtual, e_ireturn, cal_r (show lk ct_X10_isPlace 87 = some (0, 3, true, P_X10_isDone, Q_X10_isDone, al0) from rfl) Q_X10_isDone_ro, P_X10_isDone_c, Q_X10_isDone_c0, cal_r (show lk ct_X10_isPlace 84 = some (0, 3, true, P_X10_told, Q_X10_told, al0) from rfl) Q_X10_told_ro, P_X10_told_c, Q_X10_told_c0, cal_r (show lk ct_X10_isPlace 97 = some (0, 3, true, P_X10_isSwept, Q_X10_isSwept, al0) from rfl) Q_X10_isSwept_ro, P_X10_isSwept_c, Q_X10_isSwept_c0, Q_X10_isPlace_c0]
    clear E hT hR hX
    (repeat' first | (with_reducible intro _) | (with_reducible refine And.intro ?_ ?_))
    all_goals (try simp only [up2_ud, up2_rn, ud_s, ud_n, ne_eq, Nat.reduceEqDiff, not_false_eq_true, and_true, true_and])
    all_goals first | with_reducible assumption | omega | (with_reducible rfl) | (refine bI_cg ?_; omega) | (simp only [placeG] at *; omega) | (simp only [placeG] at *; grind) | (refine bI_cg ?_; simp only [placeG] at *; grind) | (grind) | skip
theorem r_X10_103 {X : Cx} {bytes : ByteArray} {c0 : Jvm.Cond} {d : Nat} {mx : Nat × Nat} (hX : Fx X RX10 bytes (c0 :: W0)) (hR : RmX X d mx) (hd : 4 + 1 ≤ d) : CR X bytes mx (103, (0, 3, true, P_X10_isPlace, Q_X10_isPlace, al0)) := cr_V hX hR c_X10_isPlace hd (by decide) (gdV (mW11 (List.mem_of_getElem? (i := 14) rfl)) (mW11 (List.mem_of_getElem? (i := 15) rfl)) (mW11 (List.mem_of_getElem? (i := 16) rfl)) (mW10 (List.mem_of_getElem? (i := 20) rfl)) (mW11 (List.mem_of_getElem? (i := 10) rfl))) (ci := 8) rfl (by decide +kernel) (fun as I A hh => by obtain ⟨s, o, e, hp⟩ := hh; exact ⟨8, 300, _, e, by decide, by decide⟩)

/-- X10_behind -/
def P_X10_behind : PT := fun as I A => ∃ (s : Int) (o : Int), as = [.inr (some (8, 300)), .inl s, .inl o] ∧ (0 ≤ s ∧ s ≤ 6 ∧ 0 ≤ o ∧ o < 200 ∧ 0 ≤ I 300 4 ∧ I 300 4 < 200 ∧ Mm (A 301))
theorem P_X10_behind_c {s : Int} {o : Int} {I A : FN} : P_X10_behind [.inr (some (8, 300)), .inl s, .inl o] I A = (0 ≤ s ∧ s ≤ 6 ∧ 0 ≤ o ∧ o < 200 ∧ 0 ≤ I 300 4 ∧ I 300 4 < 200 ∧ Mm (A 301)) := propext ⟨fun ⟨_, _, e, h⟩ => by cases e; exact h, fun h => ⟨_, _, rfl, h⟩⟩
def Q_X10_behind : QT := fun as I A r I' A' => (I' = I ∧ A' = A) ∧ (∀ (s : Int) (o : Int), as = [.inr (some (8, 300)), .inl s, .inl o] → ∀ x : Int, r = some x → (x = behG (I 300 4) (A 301) s o))
theorem Q_X10_behind_c {s : Int} {o : Int} {I A : FN} {x : Int} {I' A' : FN} : Q_X10_behind [.inr (some (8, 300)), .inl s, .inl o] I A (some x) I' A' = ((I' = I ∧ A' = A) ∧ (x = behG (I 300 4) (A 301) s o)) := propext ⟨fun h => ⟨h.1, h.2 _ _ rfl x rfl⟩, fun h => ⟨h.1, fun _ _ e _ e2 => by cases e; cases e2; exact h.2⟩⟩
theorem Q_X10_behind_c0 {s : Int} {o : Int} {I A : FN} {x : Int} : Q_X10_behind [.inr (some (8, 300)), .inl s, .inl o] I A (some x) I A = (x = behG (I 300 4) (A 301) s o) := by rw [Q_X10_behind_c]; simp only [true_and]
theorem Q_X10_behind_ro : ∀ as I A r I' A', Q_X10_behind as I A r I' A' → I' = I ∧ A' = A := fun _ _ _ _ _ _ h => h.1
abbrev ct_X10_behind : List (Nat × Ctr) := [(84, (0, 3, true, P_X10_told, Q_X10_told, al0)), (100, (0, 2, true, P_X10_opOf, Q_X10_opOf, al0)), (103, (0, 3, true, P_X10_isPlace, Q_X10_isPlace, al0))]
set_option maxHeartbeats 4000000 in
set_option maxRecDepth 100000 in
theorem c_X10_behind : MetC yX10_behind (.code yX10_behind cX10_behind 4 (some .int) :: W0) 5 true P_X10_behind Q_X10_behind al0 := by
  refine MetC_of (rt := 1) (by decide) (Or.inr (Or.inl ⟨rfl, rfl, rfl⟩)) ?_ ?_
  · rintro as I A ⟨s, o, rfl, hp⟩
    exact Nat.le_of_ble_eq_true rfl
  · rintro X as I A hX hR hT ⟨s, o, rfl, hp⟩ hI hA
    have h9 := opG_in hp.2.2.2.2.2.2 (tG (A 301) o 3)
    have E : Env0 X RX10 cX10_behind _ flX10 lcX10 (lk ct_X10_behind) _ 1 (0, 0) := ⟨hX, flk_ok _ ftX10_ok, lcX10_ok, lk_ok _ (List.forall_mem_cons.mpr ⟨r_X10_84 hX hR (by decide), List.forall_mem_cons.mpr ⟨r_X10_100 hX hR (by decide), List.forall_mem_cons.mpr ⟨r_X10_103 hX hR (by decide), (fun _ h => absurd h List.not_mem_nil)⟩⟩⟩), hT⟩
    refine wp_sound E (wr := []) (cut := []) 400 _ _ _ _ _ _ ?_
    simp (maxSteps := 10000000) only [entL, List.map_cons, List.map_nil, List.length_cons, List.length_nil, Nat.reduceAdd, Nat.reduceSub, Nat.reduceDiv, Nat.reduceMod, Nat.reduceLeDiff, Nat.reduceEqDiff, List.replicate, List.append_nil, List.cons_append, List.nil_append, wp_u, List.elem_nil, List.elem_cons, Nat.reduceBEq, Bool.or_false, Bool.false_or, Bool.true_or, Bool.or_true, ↓reduceIte, Bool.false_eq_true, if_false, if_true, e_ok, f4_0, f4_1, f4_2, f4_3, lgetK, lputK, isI_c, isR_c, popR_c, popI_c, popV_c, fget_0, fget_1, fget_2, fput_0, fput_2, true_and, and_true, rtOk_1, rtOk_2, cmpP, spl, arI_t, arI_f, dvI_t, dvI_f, rmI_t, rmI_f, al0_e, Nat.add_zero, Nat.zero_add, Nat.le_refl, and_imp, ne_eq, Option.some.injEq, swc, swOk, reduceCtorEq, false_or, or_false, Nat.zero_le, Classical.not_not, gt_iff_lt, ge_iff_le, forall_eq, bI_e0, bI_e1, bI_0e, bI_1e, bI_01, bI_lo, bI_hi, true_implies, forall_const, or_true, true_or, not_true_eq_false, not_false_eq_true, Int.reduceLE, Int.reduceNeg, false_implies, implies_true, Int.toNat_zero, up2_ud, up2_rn, ud_s, ud_n, dX10_behind_0, dX10_behind_1, dX10_behind_2, dX10_behind_3, dX10_behind_4, dX10_behind_7, dX10_behind_10, dX10_behind_11, dX10_behind_12, (show tg 12 16 = 28 from rfl), (eq_true (by decide) : (0 ≤ ((12 : Nat) : Int) + 16) = True), dX10_behind_15, dX10_behind_16, dX10_behind_17, dX10_behind_18, dX10_behind_21, (show tg 21 7 = 28 from rfl), (eq_true (by decide) : (0 ≤ ((21 : Nat) : Int) + 7) = True), dX10_behind_24, dX10_behind_25, (show tg 25 4 = 29 from rfl), (eq_true (by decide) : (0 ≤ ((25 : Nat) : Int) + 4) = True), dX10_behind_28, dX10_behind_29, e_aload_n, e_goto, e_iconst, e_ifCond, e_iload_n, e_invokevirtual, e_ireturn, e_istore_n, cal_r (show lk ct_X10_behind 84 = some (0, 3, true, P_X10_told, Q_X10_told, al0) from rfl) Q_X10_told_ro, P_X10_told_c, Q_X10_told_c0, cal_r (show lk ct_X10_behind 100 = some (0, 2, true, P_X10_opOf, Q_X10_opOf, al0) from rfl) Q_X10_opOf_ro, P_X10_opOf_c, Q_X10_opOf_c0, cal_r (show lk ct_X10_behind 103 = some (0, 3, true, P_X10_isPlace, Q_X10_isPlace, al0) from rfl) Q_X10_isPlace_ro, P_X10_isPlace_c, Q_X10_isPlace_c0, Q_X10_behind_c0]
    clear E hT hR hX
    (repeat' first | (with_reducible intro _) | (with_reducible refine And.intro ?_ ?_))
    all_goals (try simp only [up2_ud, up2_rn, ud_s, ud_n, ne_eq, Nat.reduceEqDiff, not_false_eq_true, and_true, true_and])
    all_goals first | with_reducible assumption | omega | (with_reducible rfl) | (refine bI_cg ?_; omega) | (simp only [behG] at *; omega) | (simp only [behG] at *; grind) | (refine bI_cg ?_; simp only [behG] at *; grind) | (grind) | skip
theorem r_X10_106 {X : Cx} {bytes : ByteArray} {c0 : Jvm.Cond} {d : Nat} {mx : Nat × Nat} (hX : Fx X RX10 bytes (c0 :: W0)) (hR : RmX X d mx) (hd : 5 + 1 ≤ d) : CR X bytes mx (106, (0, 3, true, P_X10_behind, Q_X10_behind, al0)) := cr_V hX hR c_X10_behind hd (by decide) (gdV (mW11 (List.mem_of_getElem? (i := 19) rfl)) (mW11 (List.mem_of_getElem? (i := 20) rfl)) (mW11 (List.mem_of_getElem? (i := 21) rfl)) (mW10 (List.mem_of_getElem? (i := 20) rfl)) (mW11 (List.mem_of_getElem? (i := 17) rfl))) (ci := 8) rfl (by decide +kernel) (fun as I A hh => by obtain ⟨s, o, e, hp⟩ := hh; exact ⟨8, 300, _, e, by decide, by decide⟩)
