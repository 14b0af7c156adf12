/-! a row of seven made on the way -/
theorem rk_hi {r : Nat} (h : 312 ≤ r) : rk r = 10007 := by
  unfold rk
  have e : rkL.length = 312 := by decide +kernel
  rw [List.getD_eq_getElem?_getD, List.getElem?_eq_none (by omega)]
  rfl
theorem rk_lo : ∀ r : Nat, r < 312 → (rk r / 10000 = 4 → (r + 1) % 13 ≠ 0) ∧ (4 < rk r / 10000 → r = 77) := by
  have h : (List.range 312).all (fun r => (decide (rk r / 10000 = 4 → (r + 1) % 13 ≠ 0)) && (decide (4 < rk r / 10000 → r = 77))) = true := by decide +kernel
  intro r hr
  have := List.all_eq_true.mp h r (List.mem_range.mpr hr)
  simp at this
  omega
theorem kF_off : ∀ k j : Nat, k < 100 → (kF k j).2.2 ≤ 96 := by
  have h : (List.range 10).all (fun k => (List.range 23).all (fun j => decide ((kF k j).2.2 ≤ 96))) = true := by decide +kernel
  intro k j hk
  by_cases h1 : k < 10
  · by_cases h2 : j < 23
    · have := List.all_eq_true.mp (List.all_eq_true.mp h k (List.mem_range.mpr h1)) j (List.mem_range.mpr h2)
      simpa using this
    · have e : ∀ k, k < 10 → (kfs.getD k []).length ≤ 23 := by decide +kernel
      have : kF k j = (0, 0, 0) := by
        unfold kF
        rw [List.getD_eq_getElem?_getD (l := kfs.getD k []), List.getElem?_eq_none (by have := e k h1; omega)]
        rfl
      rw [this]; exact Nat.zero_le _
  · have : kF k j = (0, 0, 0) := by
      unfold kF
      rw [List.getD_eq_getElem?_getD (l := kfs), List.getElem?_eq_none (by have : kfs.length = 10 := rfl; omega)]
      rfl
    rw [this]; exact Nat.zero_le _
theorem kF_hi (j : Nat) : kF 10007 j = (0, 0, 0) := by
  unfold kF
  rw [List.getD_eq_getElem?_getD (l := kfs), List.getElem?_eq_none (by have : kfs.length = 10 := rfl; omega)]
  rfl
theorem fresh_k : ∀ lv : List Nat, ∃ k : Nat, ∀ r ∈ lv, r < 988 * (k + 1)
  | [] => ⟨0, fun _ h => absurd h List.not_mem_nil⟩
  | a :: t => by
    obtain ⟨k, hk⟩ := fresh_k t
    refine ⟨k + a, fun r hr => ?_⟩
    rcases List.mem_cons.mp hr with e | e
    · subst e; omega
    · have := hk r e; omega
/-- away from the new one the cells are as they were -/
theorem ce_new {cy : Nat → ClassId} {L : Nat → Nat} {I A B : FN} {a k r : Nat} (hr : r ≠ 988 * (k + 1)) (hA : B r = A r) : ce cy (fun x => if x = 988 * (k + 1) then a else L x) I B r = ce cy L I A r := by
  unfold ce
  rw [hA]
  by_cases h312 : r < 312
  · have hl := rk_lo r h312
    split
    · next hk =>
      congr 2
      apply List.map_congr_left
      intro j _
      unfold fv
      have := kF_off (rk r) j hk
      have e1 : r + (kF (rk r) j).2.2 ≠ 988 * (k + 1) := by omega
      have e2 : r + 2 ≠ 988 * (k + 1) := by omega
      simp only [e1, e2, if_false]
    · split
      · rfl
      · split
        · next h4 =>
          have h9 := hl.1 h4
          have e : ∀ i : Nat, r + 1 + 13 * i ≠ 988 * (k + 1) := fun i => by omega
          simp only [e, if_false]
        · next h3 h4 =>
          have h9 := hl.2 (by omega)
          have e : ∀ i : Nat, r + 20 + 76 * i ≠ 988 * (k + 1) := fun i => by omega
          simp only [e, if_false]
  · rw [rk_hi (by omega)]
    simp
theorem wd_new {cy : Nat → ClassId} {L : Nat → Nat} {lv : List Nat} {I A B : FN} {a k : Nat} (hk : ∀ r ∈ lv, r < 988 * (k + 1)) (hA : ∀ r, r < 988 * (k + 1) → B r = A r) : wd cy (fun x => if x = 988 * (k + 1) then a else L x) lv I B = wd cy L lv I A := by
  unfold wd
  apply List.map_congr_left
  intro r hr
  have h := hk r hr
  rw [ce_new (by omega) (hA r h)]
  dsimp only
  rw [if_neg (by omega)]
def Anew (A : FN) (r0 : Nat) : FN := fun r => if r = r0 then (fun _ => 0) else A r
def Aold (A B : FN) (r0 : Nat) : FN := fun r => if r = r0 then A r else B r
theorem Anew_ok {A : FN} {r0 : Nat} (h : okF A) : okF (Anew A r0) := by
  intro r j
  unfold Anew
  split
  · exact inI_0
  · exact h r j
theorem Aold_ok {A B : FN} {r0 : Nat} (h : okF A) (h2 : okF B) : okF (Aold A B r0) := by
  intro r j
  unfold Aold
  split
  · exact h r j
  · exact h2 r j
theorem vv_new {L : Nat → Nat} {lv : List Nat} {a k : Nat} (hk : ∀ r ∈ lv, r < 988 * (k + 1)) {v : AV} (h : wv lv v) : vv (fun x => if x = 988 * (k + 1) then a else L x) v = vv L v := by
  rcases v with x | _ | ⟨q1, q2⟩
  · rfl
  · rfl
  · have := hk q2 h.1
    simp only [vv]
    rw [if_neg (by omega)]
theorem P_pre {D : va_G} {cl : List vw_C} {w1 w2 : va_W} {H : Heap} (h : va_P D cl (w1 ++ w2) H) : va_P D cl w1 H := fun k q hq => h k q (by rw [List.getElem?_append_left (List.getElem?_eq_some_iff.mp hq).1]; exact hq)
theorem D_pre {A : Nat → Prop} {w1 w2 : va_W} (h : va_D A (w1 ++ w2)) : va_D A w1 := ⟨fun i j p q hi hj he => h.1 i j p q (by rw [List.getElem?_append_left (List.getElem?_eq_some_iff.mp hi).1]; exact hi) (by rw [List.getElem?_append_left (List.getElem?_eq_some_iff.mp hj).1]; exact hj) he, fun k q hq => h.2 k q (by rw [List.getElem?_append_left (List.getElem?_eq_some_iff.mp hq).1]; exact hq)⟩
theorem wd_app {cy : Nat → ClassId} {L : Nat → Nat} {lv : List Nat} {I A : FN} {r : Nat} : wd cy L (lv ++ [r]) I A = wd cy L lv I A ++ [(L r, ce cy L I A r)] := by simp [wd]
theorem lget_mem : ∀ (i : Nat) (ls : Lc) (v : AV), lget i ls = some v → some v ∈ ls
  | i, [], v, h => by cases i <;> exact absurd h (by simp [lget])
  | 0, b :: t, v, h => by simp only [lget] at h; rw [h]; exact List.mem_cons_self
  | i + 1, b :: t, v, h => List.mem_cons_of_mem _ (lget_mem i t v h)
set_option maxHeartbeats 4000000 in
theorem g_newa {X : Cx} {own : String} {bytes : ByteArray} {Ts : List Jvm.Cond} {q : Nat × Nat} {pc d rt : Nat} {mx : Nat × Nat} {post : Option Int → FN → FN → Prop} {ls : Lc} {st : List AV} {I A : FN} (hX : Fx X own bytes Ts) (hR : RmX X d mx) (hT : RtX X bytes rt post mx) (hac : Jvm.Cond.arrayClass .int ∈ Ts) (hd : decode bytes pc = .ok (.newarray .int, 2)) (h1 : q.1 + 1 ≤ mx.1) (h2 : q.2 + 7 ≤ mx.2)
    (kk : ∀ (X' : Cx) (r0 : Nat), 988 ≤ r0 → Fx X' own bytes Ts → RmX X' d mx → RtX X' bytes rt (fun r I' A' => post r I' (Aold A A' r0)) mx → Go X' (q.1 + 1, q.2 + 7) (pc + 2) ls (.inr (some (10007, r0)) :: st) I (Anew A r0)) : Go X q pc ls (.inl 7 :: st) I A := by
  obtain ⟨p, l, e, R, s, m, args, below, meth, c, Q, D, cy, L, lv, S, nL, i77⟩ := X
  have hRR : R = rmD d mx := hR
  subst hRR
  have hX0 := hX
  obtain ⟨hx, hb, hml, hown, hts, hK, hSz, hlv, hlk, him⟩ := hX
  intro hI hA hg hst hls H locs la hP hD hS hL
  obtain ⟨k, hk⟩ := fresh_k lv
  refine va_newa (atype := .int) (a0 := (7, .inl (fun _ => 0))) hx hb (hts _ hac) rfl hK.1 hP hD hS hSz (fun cA => rfl) (by decide) rfl (by decide) h1 h2 hd (fun a cA H1 hK1 hP1 hD1 hS1 => ?_)
  have hcA : cA = cy 1 := by
    have e1 := va_nm_int (hK1.2 5 (cA, .int) rfl).2
    have e2 := va_nm_int (hK1.2 0 (cy 1, .int) rfl).2
    rw [e1] at e2
    exact Option.some.inj e2
  subst hcA
  have hr0 : rk (988 * (k + 1)) = 10007 := rk_hi (by omega)
  have hceN : ∀ (L' : Nat → Nat), ce cy L' I (Anew A (988 * (k + 1))) (988 * (k + 1)) = .inl (cy 1, 7, .inl (fun _ => 0)) := fun L' => by
    rw [ce_arr hr0 (by omega) (by omega)]
    simp only [Anew, if_true]
    rfl
  have hw : wd cy (fun x => if x = 988 * (k + 1) then a else L x) (lv ++ [988 * (k + 1)]) I (Anew A (988 * (k + 1))) = wd cy L lv I A ++ [(a, .inl (cy 1, 7, .inl (fun _ => 0)))] := by
    rw [wd_app, wd_new (A := A) hk (fun r hr => by unfold Anew; rw [if_neg (by omega)]), hceN, if_pos rfl]
  have hFx : Fx (p, l, e, rmD d mx, s, m, args, below, meth, c, Q, D, cy, (fun x => if x = 988 * (k + 1) then a else L x), lv ++ [988 * (k + 1)], S, nL, i77) own bytes Ts := by
    refine ⟨hx, hb, hml, hown, hts, hK, hSz, ⟨fun r hr j hj => ?_, fun r hr h4 i hi => ?_⟩, hlk, fun h77 i hi h0 => ?_⟩
    · rcases List.mem_append.mp hr with h | h
      · have := hlv.1 r h j hj
        exact ⟨List.mem_append_left _ this.1, this.2⟩
      · rw [List.mem_singleton.mp h, hr0, kF_hi] at hj
        exact absurd rfl hj
    · rcases List.mem_append.mp hr with h | h
      · have := hlv.2 r h h4 i hi
        exact ⟨List.mem_append_left _ this.1, this.2⟩
      · rw [List.mem_singleton.mp h, hr0] at h4
        omega
    · rcases List.mem_append.mp h77 with h | h
      · exact List.mem_append_left _ (him h i hi h0)
      · have := List.mem_singleton.mp h; omega
  have back : ∀ (I' A' : FN) (pc' : Nat) (st' : List AV) (q' : Nat × Nat) (ls' : Lc), (∀ v ∈ st', ∃ x, v = .inl x) → Go (p, l, e, rmD d mx, s, m, args, below, meth, c, Q, D, cy, L, lv, S, nL, i77) q' pc' (List.replicate nL none) st' I' (Aold A A' (988 * (k + 1))) → Go (p, l, e, rmD d mx, s, m, args, below, meth, c, Q, D, cy, (fun x => if x = 988 * (k + 1) then a else L x), lv ++ [988 * (k + 1)], S, nL, i77) q' pc' ls' st' I' A' := by
    intro I' A' pc' st' q' ls' hst' hgo hI' hA' hg' hs' hl' H2 locs2 la2 hP2 hD2 hS2 hL2
    have hw2 : wd cy (fun x => if x = 988 * (k + 1) then a else L x) lv I' A' = wd cy L lv I' (Aold A A' (988 * (k + 1))) := wd_new hk (fun r hr => by unfold Aold; rw [if_neg (by omega)])
    rw [wd_app, hw2] at hP2 hD2
    have hvs : st'.map (vv (fun x => if x = 988 * (k + 1) then a else L x)) = st'.map (vv L) := List.map_congr_left (fun v hv => by
      obtain ⟨x, rfl⟩ := hst' v hv
      rfl)
    rw [hvs]
    refine hgo hI' (Aold_ok hA hA') hg' (fun v hv => ?_) (fun v hv => absurd (List.eq_of_mem_replicate hv) (by simp)) H2 locs2 la2 (P_pre hP2) (D_pre hD2) hS2 ⟨by simp, ?_⟩
    · obtain ⟨x, rfl⟩ := hst' v hv
      exact hs' _ hv
    · obtain ⟨-, lv0, hl1, -⟩ := hL2
      exact ⟨lv0, hl1, fun i v hv => by rw [lget_rep] at hv; exact absurd hv (by simp)⟩
  have h9 := kk _ (988 * (k + 1)) (by omega) hFx rfl ⟨fun q' pc' ls' I' A' a1 a2 a3 a4 a5 => back I' A' pc' [] q' ls' (fun v hv => absurd hv List.not_mem_nil) (hT.1 q' pc' _ I' _ a1 a2 a3 a4 a5), fun q' pc' ls' x I' A' a1 a2 a3 a4 a5 => back I' A' pc' [.inl x] q' ls' (fun v hv => ⟨x, List.mem_singleton.mp hv⟩) (hT.2 q' pc' _ x I' _ a1 a2 a3 a4 a5)⟩
  have hws : ∀ v ∈ st, wv lv v := fun v hv => hst v (List.mem_cons_of_mem _ hv)
  have hmono : ∀ v, wv lv v → wv (lv ++ [988 * (k + 1)]) v := by
    intro v hv
    rcases v with x | _ | ⟨q1, q2⟩
    · exact hv
    · trivial
    · exact ⟨List.mem_append_left _ hv.1, hv.2⟩
  have h10 := h9 hI (Anew_ok hA) hg (okS_c (fun v hv => hmono v (hws v hv)) ⟨List.mem_append_right _ (List.mem_singleton.mpr rfl), hr0⟩) (fun v hv => hmono v (hls v hv)) H1 locs la (by rw [hw]; exact hP1) (by rw [hw]; exact hD1) hS1 ⟨hL.1, by
    obtain ⟨-, lv0, hl1, hl2⟩ := hL
    exact ⟨lv0, hl1, fun i v hv => by
      have hm : some v ∈ ls := lget_mem i ls v hv
      rw [vv_new hk (hls v hm)]
      exact hl2 i v hv⟩⟩
  have hstk : (.inr (some (10007, 988 * (k + 1))) :: st : List AV).map (vv (fun x => if x = 988 * (k + 1) then a else L x)) = .ref a :: st.map (vv L) := by
    rw [List.map_cons, List.map_congr_left (fun v hv => vv_new hk (hws v hv))]
    have e : vv (fun x => if x = 988 * (k + 1) then a else L x) (.inr (some (10007, 988 * (k + 1)))) = .ref a := by
      show Value.ref (if 988 * (k + 1) = 988 * (k + 1) then a else L (988 * (k + 1))) = .ref a
      rw [if_pos rfl]
    rw [e]
  rw [hstk] at h10
  exact h10
