/-! knowing less of the locals -/
def lsle : Lc → Lc → Prop
  | [], [] => True
  | a :: l, b :: l' => (a = none ∨ a = b) ∧ lsle l l'
  | _, _ => False
theorem LE_0 : lsle [] [] := trivial
theorem LE_s {x : Option AV} {l l' : Lc} (h : lsle l l') : lsle (x :: l) (x :: l') := ⟨Or.inr rfl, h⟩
theorem LE_n {x : Option AV} {l l' : Lc} (h : lsle l l') : lsle (none :: l) (x :: l') := ⟨Or.inl rfl, h⟩
theorem lsle_get : ∀ (l l' : Lc), lsle l l' → l'.length = l.length ∧ (∀ i v, lget i l = some v → lget i l' = some v) ∧ ∀ v, some v ∈ l → some v ∈ l'
  | [], [], _ => ⟨rfl, fun _ _ h => h, fun _ h => h⟩
  | [], _ :: _, h => absurd h (by simp [lsle])
  | _ :: _, [], h => absurd h (by simp [lsle])
  | a :: l, b :: l', h => by
    obtain ⟨h1, h2⟩ := h
    obtain ⟨g1, g2, g3⟩ := lsle_get l l' h2
    refine ⟨by simp [g1], fun i v hv => ?_, fun v hv => ?_⟩
    · cases i with
      | zero =>
        rcases h1 with h1 | h1
        · subst h1; exact absurd hv (by simp [lget])
        · subst h1; exact hv
      | succ i => exact g2 i v hv
    · rcases List.mem_cons.mp hv with e | e
      · rcases h1 with h1 | h1
        · rw [h1] at e; exact absurd e (by simp)
        · rw [e, h1]; exact List.mem_cons_self
      · exact List.mem_cons_of_mem _ (g3 v e)
theorem Go_le {X : Cx} {q : Nat × Nat} {pc : Nat} {ls ls' : Lc} {st : List AV} {I A : FN} (h : lsle ls' ls) (k : Go X q pc ls' st I A) : Go X q pc ls st I A := by
  obtain ⟨p, l, e, R, s, m, args, below, meth, c, Q, D, cy, L, lv, S, nL, i77⟩ := X
  obtain ⟨g1, g2, g3⟩ := lsle_get _ _ h
  intro hI hA hg hst hls H locs la hP hD hS hL
  obtain ⟨hlen, lv0, hl1, hl2⟩ := hL
  exact k hI hA hg hst (fun v hv => hls v (g3 v hv)) H locs la hP hD hS ⟨by rw [← g1]; exact hlen, lv0, hl1, fun i v hv => hl2 i v (g2 i v hv)⟩
theorem cal_ti {ct : Nat → Option Ctr} {tag i n : Nat} {P : PT} {Q : QT} {al : AT} {mx : Nat × Nat} {w : WT} {q : Nat × Nat} {pc : Nat} {ls : Lc} {st : List AV} {I A : FN} (h : ct i = some (tag, n, true, P, Q, al)) (hro : ∀ as I A r I' A', Q as I A r I' A' → I' = I) :
    cal ct tag mx w i q pc ls st I A = spl n [] st (fun as rest => rest.length ≤ 8 ∧ P as I A ∧ q.1 + (al as I A).1 ≤ mx.1 ∧ q.2 + (al as I A).2 ≤ mx.2 ∧ ∀ (x : Int) (A' : FN), Q as I A (some x) I A' → -2147483648 ≤ x → x ≤ 2147483647 → w (q.1 + (al as I A).1, q.2 + (al as I A).2) (pc + 3) ls (.inl x :: rest) I A') := by
  rw [cal_t h]
  congr 1
  funext as rest
  refine propext ⟨fun hh => ⟨hh.1, hh.2.1, hh.2.2.1, hh.2.2.2.1, fun x A' hq a b => hh.2.2.2.2 x I A' hq a b⟩, fun hh => ⟨hh.1, hh.2.1, hh.2.2.1, hh.2.2.2.1, fun x I' A' hq a b => ?_⟩⟩
  cases hro _ _ _ _ _ _ hq
  exact hh.2.2.2.2 x A' hq a b
theorem cal_fi {ct : Nat → Option Ctr} {tag i n : Nat} {P : PT} {Q : QT} {al : AT} {mx : Nat × Nat} {w : WT} {q : Nat × Nat} {pc : Nat} {ls : Lc} {st : List AV} {I A : FN} (h : ct i = some (tag, n, false, P, Q, al)) (hro : ∀ as I A r I' A', Q as I A r I' A' → I' = I) :
    cal ct tag mx w i q pc ls st I A = spl n [] st (fun as rest => rest.length ≤ 8 ∧ P as I A ∧ q.1 + (al as I A).1 ≤ mx.1 ∧ q.2 + (al as I A).2 ≤ mx.2 ∧ ∀ (A' : FN), Q as I A none I A' → w (q.1 + (al as I A).1, q.2 + (al as I A).2) (pc + 3) ls rest I A') := by
  rw [cal_f h]
  congr 1
  funext as rest
  refine propext ⟨fun hh => ⟨hh.1, hh.2.1, hh.2.2.1, hh.2.2.2.1, fun A' hq => hh.2.2.2.2 I A' hq⟩, fun hh => ⟨hh.1, hh.2.1, hh.2.2.1, hh.2.2.2.1, fun I' A' hq => ?_⟩⟩
  cases hro _ _ _ _ _ _ hq
  exact hh.2.2.2.2 A' hq
