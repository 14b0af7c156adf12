theorem wp_u {bytes : ByteArray} {fl : FLT} {lc : Nat → Option Int} {ct : Nat → Option Ctr} {post : Option Int → FN → FN → Prop} {rt : Nat} {mx : Nat × Nat} {cut : List Nat} {G : WT} {n : Nat} {q : Nat × Nat} {pc : Nat} {ls : Lc} {st : List AV} {I A : FN} : wp bytes fl lc ct post rt mx cut G n q pc ls st I A = (if n = 0 then False else if cut.elem pc = true then G q pc ls st I A else exD fl lc ct post rt mx (wp bytes fl lc ct post rt mx cut G (n - 1)) (decode bytes pc) q pc ls st I A) := by
  cases n with
  | zero => rfl
  | succ n => simp only [wp, Nat.add_sub_cancel, Nat.add_one_ne_zero, if_false]
def P_told : PT := fun as I A => ∃ o w : Int, as = [.inr (some (8, 300)), .inl o, .inl w] ∧ (-1 ≤ o ∧ o < 200 ∧ 0 ≤ w ∧ w < 10 ∧ 0 ≤ 8 + 10 * o + w)
theorem P_told_c {o w : Int} {I A : FN} : P_told [.inr (some (8, 300)), .inl o, .inl w] I A = (-1 ≤ o ∧ o < 200 ∧ 0 ≤ w ∧ w < 10 ∧ 0 ≤ 8 + 10 * o + w) := propext ⟨fun ⟨_, _, e, h⟩ => by cases e; exact h, fun h => ⟨_, _, rfl, h⟩⟩
def Q_told : QT := fun as I A r I' A' => ∀ o w : Int, as = [.inr (some (8, 300)), .inl o, .inl w] → (r = some (A 301 (8 + 10 * o + w).toNat) ∧ I' = I ∧ A' = A)
theorem Q_told_c {o w : Int} {I A : FN} {r : Option Int} {I' A' : FN} : Q_told [.inr (some (8, 300)), .inl o, .inl w] I A r I' A' = (r = some (A 301 (8 + 10 * o + w).toNat) ∧ I' = I ∧ A' = A) := propext ⟨fun h => h _ _ rfl, fun h _ _ e => by cases e; exact h⟩
theorem c_told : MetC yX10_told (.code yX10_told cX10_told 3 (some .int) :: W0) 1 true P_told Q_told al0 := by
  refine MetC_of (rt := 1) (by decide) (Or.inr (Or.inl ⟨rfl, rfl, rfl⟩)) ?_ ?_
  · rintro as I A ⟨o, w, rfl, h⟩
    exact Nat.le_refl 3
  · rintro X as I A hX hR hT ⟨o, w, rfl, h⟩ hI hA
    have E : Env0 X RX10 cX10_told _ flX10 lcX10 (lk []) _ 1 (0, 0) := ⟨hX, flk_ok _ ftX10_ok, lcX10_ok, lk_ok _ (fun _ h => absurd h List.not_mem_nil), hT⟩
    refine wp_sound E (cut := []) 60 _ _ _ _ _ _ ?_
    simp only [entL, List.map_cons, List.map_nil, List.length_cons, List.length_nil, Nat.reduceAdd, Nat.reduceSub, List.replicate, List.append_nil, wp_u, List.elem_nil, List.elem_cons, OfNat.ofNat_ne_zero, Nat.reduceEqDiff, ↓reduceIte, Bool.false_eq_true, Nat.reduceBEq, if_false, Nat.reduceLT, Nat.reduceLeDiff, e_ok, e_iconst, e_bipush, e_aload_n, e_iload_n, e_getfield, e_imul, e_iadd, e_iaload, e_ireturn, f4_0, f4_1, f4_2, f4_3, lgetK, isI_c, isR_c, popR_c, popI_c, fget_0, fget_1, fX10_13_8, dX10_told_0, dX10_told_1, dX10_told_4, dX10_told_6, dX10_told_8, dX10_told_9, dX10_told_10, dX10_told_11, dX10_told_12, dX10_told_13, dX10_told_14, true_and, and_true, rtOk_1, Q_told_c]
    trace_state
    sorry
