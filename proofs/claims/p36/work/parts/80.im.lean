/-! ===== image: a world that grows ===== -/
def CWd (lv : List Nat) (I : FN) : Prop := LvOk lv ∧ (∀ x, x < 97 → x ∈ lv) ∧ (∀ i, i < 2 → I 77 i ≠ 0 → 97 + 76 * i ∈ lv) ∧ (∀ i, i < 2 → I 77 i = 0 → ∀ x, 97 + 76 * i ≤ x → x < 173 + 76 * i → x ∉ lv) ∧ ∀ x ∈ lv, x < 249
theorem CWd.eq {lv : List Nat} {I J : FN} (h : CWd lv I) (e : J 77 = I 77) : CWd lv J := by
  obtain ⟨h1, h2, h3, h4, h5⟩ := h
  exact ⟨h1, h2, fun i hi hx => h3 i hi (by rw [← e]; exact hx), fun i hi hx => h4 i hi (by rw [← e]; exact hx), h5⟩
def IMQ (i : Int) (I A : FN) (x : Int) (J B : FN) : Prop := x = bI (0 ≤ i ∧ i < 2) ∧ CI J B ∧ J 0 7 = I 0 7 ∧ ((0 ≤ i ∧ i < 2) → (∀ j : Nat, j ≠ i.toNat → J 77 j = I 77 j ∧ B 78 j = A 78 j) ∧ J 77 i.toNat ≠ 0 ∧ B 78 i.toNat = 1) ∧ (¬ (0 ≤ i ∧ i < 2) → J 77 = I 77 ∧ B 78 = A 78)
theorem IMQ_no {i : Int} {I A : FN} (h : CI I A) (hi : ¬ (0 ≤ i ∧ i < 2)) : IMQ i I A 0 I A := ⟨by simp [bI, hi], h, rfl, fun z => absurd z hi, fun _ => ⟨rfl, rfl⟩⟩
/-- all of CI but the group of the image that is being made -/
def CIx (i : Int) (I A J B : FN) : Prop := GI J B 1 ∧ R2 (B 94) 0 200 ∧ R2 (B 95) 0 200 ∧ (0 ≤ J 0 7 ∧ J 0 7 ≤ 400) ∧ (∀ k : Nat, k < 2 → k ≠ i.toNat → J 77 k ≠ 0 → GI J B (97 + 76 * k)) ∧ J 0 7 = I 0 7 ∧ (∀ j : Nat, j ≠ i.toNat → J 77 j = I 77 j) ∧ J 77 i.toNat ≠ 0 ∧ B 78 = A 78
theorem CIx_0 {i : Int} {I A : FN} (h : CI I A) (hx : I 77 i.toNat ≠ 0) : CIx i I A I A := ⟨h.1, h.2.1, h.2.2.1, h.2.2.2.1, fun k hk _ => h.2.2.2.2 k hk, rfl, fun _ _ => rfl, hx, rfl⟩
theorem IMQ_of {i : Int} {I A J B K C : FN} (h : CIx i I A J B) (h0 : 0 ≤ i) (h1 : i < 2) (q : GQ J B (97 + 76 * i.toNat) K C) : IMQ i I A 1 K (up2 C 78 i.toNat 1) := by
  obtain ⟨a1, a2, a3, a4, a5, a6, a7, a8, a9⟩ := h
  obtain ⟨q1, q2, q3⟩ := q
  have hk : i.toNat < 2 := by omega
  have f8 : FrW C (up2 C 78 i.toNat 1) 78 78 := fun a ha => up2_rn (by omega)
  have e0 : K 0 = J 0 := q2 0 (by omega)
  have e77 : K 77 = J 77 := q2 77 (by omega)
  have e78 : C 78 = B 78 := q3 78 (by omega)
  have eA : ∀ a, a < 97 → a ≠ 78 → up2 C 78 i.toNat 1 a = B a := fun a ha hb => by rw [up2_rn hb, q3 a (by omega)]
  refine ⟨by simp [bI, h0, h1], ⟨?_, by rw [eA 94 (by omega) (by omega)]; exact a2, by rw [eA 95 (by omega) (by omega)]; exact a3, by rw [e0]; exact a4, fun k hk2 hx => ?_⟩, by rw [e0]; exact a6, fun _ => ⟨fun j hj => ⟨by rw [e77]; exact a7 j hj, ?_⟩, by rw [e77]; exact a8, by rw [up2_ud, ud_s]⟩, fun z => absurd ⟨h0, h1⟩ z⟩
  · exact GI_ff (GI_ff a1 q2 q3 (by omega) (by omega)) (lo := 1000) (hi := 0) FrW_0 f8 (by omega) (by omega)
  · by_cases e : k = i.toNat
    · subst e
      exact GI_ff q1 (lo := 1000) (hi := 0) FrW_0 f8 (by omega) (by omega)
    · rw [e77] at hx
      exact GI_ff (GI_ff (a5 k hk2 e hx) q2 q3 (by omega) (by omega)) (lo := 1000) (hi := 0) FrW_0 f8 (by omega) (by omega)
  · rw [up2_ud, ud_n hj, e78, a9]
theorem kF2 : ∀ k j : Nat, (kF k j).1 = 2 → k = 5 := by
  have h : ∀ k, k < 10 → ∀ j, j < 23 → (kF k j).1 = 2 → k = 5 := by decide +kernel
  intro k j hj
  by_cases h1 : k < 10
  · by_cases h2 : j < 23
    · exact h k h1 j h2 hj
    · rw [kF_big (by omega)] at hj
      cases hj
  · have : kF k j = (0, 0, 0) := by
      unfold kF
      rw [List.getD_eq_getElem?_getD (l := kfs), List.getElem?_eq_none (by have : kfs.length = 10 := rfl; omega)]
      rfl
    rw [this] at hj
    cases hj
theorem kFm : ∀ k j : Nat, (kF k j).1 = 0 ∨ (kF k j).1 = 1 ∨ (kF k j).1 = 2 := by
  have h : ∀ k, k < 10 → ∀ j, j < 23 → (kF k j).1 = 0 ∨ (kF k j).1 = 1 ∨ (kF k j).1 = 2 := by decide +kernel
  intro k j
  by_cases h1 : k < 10
  · by_cases h2 : j < 23
    · exact h k h1 j h2
    · rw [kF_big (by omega)]
      exact Or.inl rfl
  · have : kF k j = (0, 0, 0) := by
      unfold kF
      rw [List.getD_eq_getElem?_getD (l := kfs), List.getElem?_eq_none (by have : kfs.length = 10 := rfl; omega)]
      rfl
    rw [this]
    exact Or.inl rfl
theorem rk5 : ∀ r, r < 249 → (rk r = 5 → r = 90) ∧ (rk r / 10000 = 4 → rk r = 40005) ∧ (4 < rk r / 10000 → r = 77) := by decide +kernel
/-- a role's cell is the same where its roles lie where they lay -/
theorem ce_mv {D : va_G} {cy : Nat → ClassId} {L M : Nat → Nat} {lv : List Nat} {I A J B : FN} {r x : Nat} {H : Heap} (hlv : LvOk lv) (h97 : ∀ x, x < 97 → x ∈ lv) (h249 : ∀ x ∈ lv, x < 249) (hL : ∀ x ∈ lv, M x = L x) (hr : r ∈ lv) (h77 : r ≠ 77) (hI : J r = I r) (hA : B r = A r) (h : va_at D vwCl (x, ce cy L I A r) H) : va_at D vwCl (x, ce cy M J B r) H := by
  rw [ce_same (cy := cy) (L := M) hI hA]
  obtain ⟨k5, k4, k7⟩ := rk5 r (h249 r hr)
  by_cases h100 : rk r < 100
  · have e : ce cy M I A r = ce cy L I A r := by
      rw [ce_obj rfl h100, ce_obj rfl h100]
      congr 2
      apply List.map_congr_left
      intro j _
      unfold fv
      rcases kFm (rk r) j with a | a | a
      · rw [if_pos a, if_pos a]
      · have n0 : ¬ (kF (rk r) j).1 = 0 := by omega
        simp only [n0, a, if_true, if_false]
        rw [hL _ (hlv.1 r hr j n0).1]
      · have n0 : ¬ (kF (rk r) j).1 = 0 := by omega
        have n1 : ¬ (kF (rk r) j).1 = 1 := by omega
        have e9 := k5 (kF2 _ _ a)
        simp only [n0, n1, if_false]
        rw [hL _ (hlv.1 r hr j n0).1, hL (r + 2) (h97 _ (by omega))]
    rw [e]
    exact h
  · by_cases h3 : rk r / 10000 ≤ 3
    · have e : ce cy M I A r = ce cy L I A r := by
        unfold ce
        rw [if_neg h100, if_neg h100, if_pos h3, if_pos h3]
      rw [e]
      exact h
    · by_cases h4 : rk r / 10000 = 4
      · have e4 := k4 h4
        have e1 : ∀ L : Nat → Nat, ce cy L I A r = .inl (cy 4, 5, .inr (.inr (.inr (.inr (fun q => some (L (r + 1 + 13 * q))))))) := fun L => by simp [ce, e4]
        rw [e1] at h ⊢
        have h' : H[x]? = some (vp_cell (cy 4) (5, .inr (.inr (.inr (.inr (fun q => some (L (r + 1 + 13 * q)))))))) := h
        show H[x]? = some (vp_cell (cy 4) (5, .inr (.inr (.inr (.inr (fun q => some (M (r + 1 + 13 * q))))))))
        rw [h', vp_cell_q, vp_cell_q]
        congr 1
        apply arrV_cg
        intro j hj
        rw [hL _ (hlv.2 r hr e4 j hj).1]
      · exact absurd (k7 (by omega)) h77
def inG (g r : Nat) : Prop := g ≤ r ∧ r < g + 76
def Lm (L Lg : Nat → Nat) (g : Nat) : Nat → Nat := fun x => if g ≤ x ∧ x < g + 76 then Lg x else L x
def Im2 (I : FN) (g k : Nat) : FN := fun r j => if g ≤ r ∧ r < g + 76 then 0 else if r = 77 ∧ j = k then 1 else I r j
def Am2 (A : FN) (g : Nat) : FN := fun r j => if g ≤ r ∧ r < g + 76 then 0 else A r j
theorem Im2_ok {I : FN} {g k : Nat} (h : okF I) : okF (Im2 I g k) := fun r j => by
  unfold Im2
  split
  · exact inI_0
  · split
    · exact ⟨by omega, by omega⟩
    · exact h r j
theorem Am2_ok {A : FN} {g : Nat} (h : okF A) : okF (Am2 A g) := fun r j => by
  unfold Am2
  split
  · exact inI_0
  · exact h r j
theorem CIx_n {i : Int} {I A : FN} (h : CI I A) (h0 : 0 ≤ i) (h1 : i < 2) : CIx i I A (Im2 I (97 + 76 * i.toNat) i.toNat) (Am2 A (97 + 76 * i.toNat)) := by
  obtain ⟨a1, a2, a3, a4, a5⟩ := h
  have hk : i.toNat < 2 := by omega
  have fI : ∀ r, r ≠ 77 → ¬ (97 + 76 * i.toNat ≤ r ∧ r < 97 + 76 * i.toNat + 76) → Im2 I (97 + 76 * i.toNat) i.toNat r = I r := fun r h7 hn => by
    funext j
    unfold Im2
    rw [if_neg hn, if_neg (fun z => h7 z.1)]
  have fA : FrW A (Am2 A (97 + 76 * i.toNat)) (97 + 76 * i.toNat) (172 + 76 * i.toNat) := fun a ha => by
    funext j
    unfold Am2
    rw [if_neg (by omega)]
  have e77 : ∀ j, j ≠ i.toNat → Im2 I (97 + 76 * i.toNat) i.toNat 77 j = I 77 j := fun j hj => by
    unfold Im2
    rw [if_neg (by omega), if_neg (fun z => hj z.2)]
  have gi : ∀ g, GI I A g → (g + 75 < 77 ∨ 77 < g) → (g + 75 < 97 + 76 * i.toNat ∨ 172 + 76 * i.toNat < g) → GI (Im2 I (97 + 76 * i.toNat) i.toNat) (Am2 A (97 + 76 * i.toNat)) g := fun g hg u v => by
    have f1 : FrW I (fun r => if r = 77 then Im2 I (97 + 76 * i.toNat) i.toNat 77 else I r) 77 77 := fun a ha => if_neg (by omega)
    have f2 : FrW (fun r => if r = 77 then Im2 I (97 + 76 * i.toNat) i.toNat 77 else I r) (Im2 I (97 + 76 * i.toNat) i.toNat) (97 + 76 * i.toNat) (172 + 76 * i.toNat) := fun a ha => by
      by_cases h7 : a = 77
      · subst h7
        exact (if_pos rfl).symm
      · exact (fI a h7 (by omega)).trans (if_neg h7).symm
    exact GI_ff (GI_ff hg f1 (lo' := 1000) (hi' := 0) FrW_0 (by omega) (by omega)) f2 fA (by omega) (by omega)
  refine ⟨gi 1 a1 (by omega) (by omega), by rw [fA 94 (by omega)]; exact a2, by rw [fA 95 (by omega)]; exact a3, by rw [fI 0 (by omega) (by omega)]; exact a4, fun k hk2 hne hx => ?_, by rw [fI 0 (by omega) (by omega)], e77, ?_, fA 78 (by omega)⟩
  · rw [e77 k hne] at hx
    exact gi (97 + 76 * k) (a5 k hk2 hx) (by omega) (by omega)
  · unfold Im2
    rw [if_neg (by omega), if_pos ⟨rfl, rfl⟩]
    omega
theorem CWd_n {lv : List Nat} {I : FN} {k : Nat} (h : CWd lv I) (hk : k < 2) (h0 : I 77 k = 0) : CWd (lv ++ rl (97 + 76 * k) 76) (Im2 I (97 + 76 * k) k) := by
  obtain ⟨h1, h2, h3, h4, h5⟩ := h
  have e77 : ∀ j, j ≠ k → Im2 I (97 + 76 * k) k 77 j = I 77 j := fun j hj => by
    unfold Im2
    rw [if_neg (by omega), if_neg (fun z => hj z.2)]
  have ek : Im2 I (97 + 76 * k) k 77 k = 1 := by
    unfold Im2
    rw [if_neg (by omega), if_pos ⟨rfl, rfl⟩]
  have gl : LvOk (rl (97 + 76 * k) 76) := by
    rcases (show k = 0 ∨ k = 1 by omega) with rfl | rfl
    · exact LvOk_of (by decide +kernel) (by decide +kernel)
    · exact LvOk_of (by decide +kernel) (by decide +kernel)
  refine ⟨⟨fun r hr j hj => ?_, fun r hr h4' i hi => ?_⟩, fun x hx => List.mem_append_left _ (h2 x hx), fun i hi hx => ?_, fun i hi hx x a b => ?_, fun x hx => ?_⟩
  · rcases List.mem_append.mp hr with z | z
    · exact ⟨List.mem_append_left _ (h1.1 r z j hj).1, (h1.1 r z j hj).2⟩
    · exact ⟨List.mem_append_right _ (gl.1 r z j hj).1, (gl.1 r z j hj).2⟩
  · rcases List.mem_append.mp hr with z | z
    · exact ⟨List.mem_append_left _ (h1.2 r z h4' i hi).1, (h1.2 r z h4' i hi).2⟩
    · exact ⟨List.mem_append_right _ (gl.2 r z h4' i hi).1, (gl.2 r z h4' i hi).2⟩
  · by_cases e : i = k
    · subst e
      exact List.mem_append_right _ (rl_mem (by omega) (by omega))
    · rw [e77 i e] at hx
      exact List.mem_append_left _ (h3 i hi hx)
  · by_cases e : i = k
    · subst e
      rw [ek] at hx
      omega
    · rw [e77 i e] at hx
      intro hm
      rcases List.mem_append.mp hm with z | z
      · exact h4 i hi hx x a b z
      · have := rl_of z
        omega
  · rcases List.mem_append.mp hx with z | z
    · exact h5 x z
    · have := rl_of z
      omega
theorem wd_grow {D : va_G} {cy : Nat → ClassId} {L Lg : Nat → Nat} {lv : List Nat} {I A : FN} {H : Heap} {S : Nat → Prop} {k q0 : Nat} (hc : CWd lv I) (hk : k < 2) (h0 : I 77 k = 0) (hq0 : lv[q0]? = some 77)
    (hD0 : va_D S (wd cy L lv I A ++ BD cy Lg (97 + 76 * k) 76))
    (hP : va_P D vwCl ((wd cy L lv I A ++ BD cy Lg (97 + 76 * k) 76).set q0 (L 77, .inl (cy 5, 2, .inr (.inr (.inr (.inr (va_up (fun i => if I 77 i = 0 then none else some (L (77 + 20 + 76 * i))) k (some (Lg (97 + 76 * k)))))))))) H) :
    va_P D vwCl (wd cy (Lm L Lg (97 + 76 * k)) (lv ++ rl (97 + 76 * k) 76) (Im2 I (97 + 76 * k) k) (Am2 A (97 + 76 * k))) H ∧ va_D S (wd cy (Lm L Lg (97 + 76 * k)) (lv ++ rl (97 + 76 * k) 76) (Im2 I (97 + 76 * k) k) (Am2 A (97 + 76 * k))) := by
  have hc0 := hc
  obtain ⟨h1, h2, h3, h4, h5⟩ := hc
  have hlen : (wd cy L lv I A).length = lv.length := by simp [wd]
  have hq0l : q0 < lv.length := (List.getElem?_eq_some_iff.mp hq0).1
  have out : ∀ x ∈ lv, ¬ (97 + 76 * k ≤ x ∧ x < 97 + 76 * k + 76) := fun x hx hh => h4 k hk h0 x (by omega) (by omega) hx
  have eM : ∀ x ∈ lv, Lm L Lg (97 + 76 * k) x = L x := fun x hx => by
    unfold Lm
    rw [if_neg (out x hx)]
  have eG : ∀ i, i < 76 → Lm L Lg (97 + 76 * k) (97 + 76 * k + i) = Lg (97 + 76 * k + i) := fun i hi => by
    unfold Lm
    rw [if_pos (by omega)]
  have old : ∀ n r, lv[n]? = some r → (wd cy L lv I A ++ BD cy Lg (97 + 76 * k) 76)[n]? = some (L r, ce cy L I A r) := fun n r hn => by
    rw [List.getElem?_append_left (by rw [hlen]; exact (List.getElem?_eq_some_iff.mp hn).1)]
    unfold wd
    rw [List.getElem?_map, hn]
    rfl
  have new : ∀ i, i < 76 → (wd cy L lv I A ++ BD cy Lg (97 + 76 * k) 76)[lv.length + i]? = some (Lg (97 + 76 * k + i), ce cy Lg Z0 Z0 (97 + 76 * k + i)) := fun i hi => by
    rw [List.getElem?_append_right (by rw [hlen]; omega), hlen, show lv.length + i - lv.length = i by omega]
    exact BD_get hi
  have at' : ∀ n q, (wd cy (Lm L Lg (97 + 76 * k)) (lv ++ rl (97 + 76 * k) 76) (Im2 I (97 + 76 * k) k) (Am2 A (97 + 76 * k)))[n]? = some q → (∃ r, lv[n]? = some r ∧ q = (L r, ce cy (Lm L Lg (97 + 76 * k)) (Im2 I (97 + 76 * k) k) (Am2 A (97 + 76 * k)) r)) ∨ (∃ i, i < 76 ∧ n = lv.length + i ∧ q = (Lg (97 + 76 * k + i), ce cy (Lm L Lg (97 + 76 * k)) (Im2 I (97 + 76 * k) k) (Am2 A (97 + 76 * k)) (97 + 76 * k + i))) := by
    intro n q hn
    unfold wd at hn
    rw [List.getElem?_map] at hn
    by_cases hl : n < lv.length
    · rw [List.getElem?_append_left hl, List.getElem?_eq_getElem hl] at hn
      refine Or.inl ⟨lv[n], List.getElem?_eq_getElem hl, ?_⟩
      rw [← Option.some.inj hn]
      dsimp only
      rw [eM _ (List.getElem_mem hl)]
    · rw [List.getElem?_append_right (by omega)] at hn
      have hi : n - lv.length < 76 := by
        by_cases hz : n - lv.length < 76
        · exact hz
        · rw [List.getElem?_eq_none (by simp [rl]; omega)] at hn
          cases hn
      unfold rl at hn
      rw [List.getElem?_map, List.getElem?_range hi] at hn
      refine Or.inr ⟨n - lv.length, hi, by omega, ?_⟩
      rw [← Option.some.inj hn]
      dsimp only
      rw [eG _ hi]
  have hrk : rkp (97 + 76 * k) pX3 := by
    rcases (show k = 0 ∨ k = 1 by omega) with rfl | rfl
    · unfold rkp
      decide +kernel
    · unfold rkp
      decide +kernel
  have setn : ∀ (e : Nat × va_E) (n : Nat), n ≠ q0 → ((wd cy L lv I A ++ BD cy Lg (97 + 76 * k) 76).set q0 e)[n]? = (wd cy L lv I A ++ BD cy Lg (97 + 76 * k) 76)[n]? := fun e n hn => by rw [List.getElem?_set_ne (fun z => hn z.symm)]
  refine ⟨fun n q hn => ?_, fun n n2 q q2 hn hn2 he => ?_, fun n q hn => ?_⟩
  · rcases at' n q hn with ⟨r, hr, rfl⟩ | ⟨i, hi, rfl, rfl⟩
    · have hrm := List.mem_of_getElem? hr
      by_cases h77 : r = 77
      · subst h77
        have hnq : n = q0 := hD0.1 n q0 _ _ (old n 77 hr) (old q0 77 hq0) rfl
        subst hnq
        have hh := hP n _ (by rw [List.getElem?_set_self (by rw [List.length_append, hlen]; omega)])
        have e1 : ce cy (Lm L Lg (97 + 76 * k)) (Im2 I (97 + 76 * k) k) (Am2 A (97 + 76 * k)) 77 = .inl (cy 5, 2, .inr (.inr (.inr (.inr (fun i => if Im2 I (97 + 76 * k) k 77 i = 0 then none else some (Lm L Lg (97 + 76 * k) (77 + 20 + 76 * i))))))) := by
          unfold ce
          rw [show rk 77 = 50002 from rfl]
          rfl
        rw [e1]
        have h' : H[L 77]? = some (vp_cell (cy 5) (2, .inr (.inr (.inr (.inr (va_up (fun i => if I 77 i = 0 then none else some (L (77 + 20 + 76 * i))) k (some (Lg (97 + 76 * k))))))))) := hh
        show H[L 77]? = some (vp_cell (cy 5) (2, .inr (.inr (.inr (.inr (fun i => if Im2 I (97 + 76 * k) k 77 i = 0 then none else some (Lm L Lg (97 + 76 * k) (77 + 20 + 76 * i))))))))
        rw [h', vp_cell_q, vp_cell_q]
        congr 1
        apply arrV_cg
        intro j hj
        congr 1
        unfold va_up
        by_cases ej : j = k
        · subst ej
          rw [if_pos rfl, show Im2 I (97 + 76 * j) j 77 j = 1 from by unfold Im2; rw [if_neg (by omega), if_pos ⟨rfl, rfl⟩], if_neg (by omega)]
          have := eG 0 (by omega)
          rw [Nat.add_zero] at this
          rw [show 77 + 20 + 76 * j = 97 + 76 * j by omega, this]
        · rw [if_neg ej, show Im2 I (97 + 76 * k) k 77 j = I 77 j from by unfold Im2; rw [if_neg (by omega), if_neg (fun z => ej z.2)]]
          by_cases e0 : I 77 j = 0
          · rw [if_pos e0]
            exact if_pos e0
          · rw [if_neg e0]
            refine (if_neg e0).trans ?_
            rw [show 77 + 20 + 76 * j = 97 + 76 * j by omega, eM _ (h3 j hj e0)]
      · have hne : n ≠ q0 := fun z => h77 (Option.some.inj (by rw [← hr, z, hq0]))
        have hh := hP n (L r, ce cy L I A r) (by rw [setn _ n hne]; exact old n r hr)
        refine ce_mv h1 h2 h5 eM hrm h77 ?_ ?_ hh
        · funext j
          unfold Im2
          rw [if_neg (out r hrm), if_neg (fun z => h77 z.1)]
        · funext j
          unfold Am2
          rw [if_neg (out r hrm)]
    · have hh := hP (lv.length + i) _ (by rw [setn _ _ (by omega)]; exact new i hi)
      rw [ce_same (cy := cy) (I := Z0) (A := Z0)]
      · exact ce_cg hrk clo_X3 (fun j hj => eG j hj) hi hh
      · funext j
        unfold Im2
        rw [if_pos (by omega)]
        rfl
      · funext j
        unfold Am2
        rw [if_pos (by omega)]
        rfl
  · rcases at' n q hn with ⟨r, hr, rfl⟩ | ⟨i, hi, rfl, rfl⟩ <;> rcases at' n2 q2 hn2 with ⟨r2, hr2, rfl⟩ | ⟨i2, hi2, rfl, rfl⟩
    · exact hD0.1 n n2 _ _ (old n r hr) (old n2 r2 hr2) he
    · exact hD0.1 n _ _ _ (old n r hr) (new i2 hi2) he
    · exact hD0.1 _ n2 _ _ (new i hi) (old n2 r2 hr2) he
    · exact hD0.1 _ _ _ _ (new i hi) (new i2 hi2) he
  · rcases at' n q hn with ⟨r, hr, rfl⟩ | ⟨i, hi, rfl, rfl⟩
    · exact hD0.2 n (L r, ce cy L I A r) (old n r hr)
    · exact hD0.2 _ (Lg (97 + 76 * k + i), ce cy Lg Z0 Z0 (97 + 76 * k + i)) (new i hi)
