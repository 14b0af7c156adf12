section G
variable {X : Cx} {own : String} {bytes : ByteArray} {Ts : List Jvm.Cond} {q : Nat × Nat} {pc : Nat} {ls : Lc} {st : List AV} {I A : FN}
/-! arrays -/
theorem vg_aget {cy : Nat → ClassId} {L : Nat → Nat} {lv : List Nat} {I A : FN} {k r t : Nat} (hm : r ∈ lv) (hr : rk r = k) (hk : k / 10000 = t) (h1 : 1 ≤ t) (h3 : t ≤ 3) : ∃ q0 : Nat, lv[q0]? = some r ∧ (wd cy L lv I A)[q0]? = some (L r, .inl (cy t, k % 10000, .inl (fun i => oI (A r i)))) := by
  obtain ⟨q0, h0, hq⟩ := wd_mem (cy := cy) (L := L) (I := I) (A := A) hm
  rw [ce_arr hr (by omega) (by omega), hk] at hq
  exact ⟨q0, h0, hq⟩
theorem vg_aset {cy : Nat → ClassId} {L : Nat → Nat} {lv : List Nat} {I A : FN} {S : Nat → Prop} {k r t q0 : Nat} {i x : Int} {y : Int32} (hD : va_D S (wd cy L lv I A)) (h0 : lv[q0]? = some r) (hr : rk r = k) (hk : k / 10000 = t) (h1 : 1 ≤ t) (h3 : t ≤ 3) (hi : inI i) (hy : y = oI x) :
    (wd cy L lv I A).set q0 (L r, .inl (cy t, k % 10000, .inl (upd (fun i => oI (A r i)) (oI i).toNatClampNeg y))) = wd cy L lv I (up2 A r i.toNat x) := by
  have e : (Sum.inl (cy t, k % 10000, Sum.inl (upd (fun i => oI (A r i)) (oI i).toNatClampNeg y)) : va_E) = ce cy L I (up2 A r i.toNat x) r := by
    rw [ce_arr hr (by omega) (by omega), hk]
    congr 3
    congr 1
    funext j
    rw [oI_cl hi, hy]
    unfold upd up2
    by_cases hj : j = i.toNat <;> simp [hj]
  rw [e]
  exact wd_set hD h0 (fun a ha => ce_same rfl (up2_ne ha))
theorem g_iaload (hX : Fx X own bytes Ts) {i : Int} {k r : Nat} (hd : decode bytes pc = .ok (.iaload, 1)) (hk : k / 10000 = 1) (h0 : 0 ≤ i) (h1 : i < ((k % 10000 : Nat) : Int)) (kk : -2147483648 ≤ A r i.toNat → A r i.toNat ≤ 2147483647 → Go X q (pc + 1) ls (.inl (A r i.toNat) :: st) I A) : Go X q pc ls (.inl i :: .inr (some (k, r)) :: st) I A := by
  obtain ⟨p, l, e, R, s, m, args, below, meth, c, Q, D, cy, L, lv, S, nL, i77⟩ := X
  obtain ⟨hx, hb, hml, hown, hts, hK, hSz, hlv, hlk, him⟩ := hX
  intro hI hA hg hst hls H locs la hP hD hS hL
  obtain ⟨hm, hr⟩ : r ∈ lv ∧ rk r = k := okS_h (okS_t hst)
  have hi : inI i := okS_h hst
  obtain ⟨q0, -, hq⟩ := vg_aget (cy := cy) (L := L) (I := I) (A := A) hm hr hk (by omega) (by omega)
  refine va_iald hx hb hK.1 hP q0 0 hq rfl (oI_vp hi h0 h1) hd ?_
  rw [oI_cl hi]
  exact kk (hA r i.toNat).1 (hA r i.toNat).2 hI hA hg (okS_c (okS_t (okS_t hst)) (hA r i.toNat)) hls H locs la hP hD hS hL
theorem g_iastore (hX : Fx X own bytes Ts) {i x : Int} {k r : Nat} (hd : decode bytes pc = .ok (.iastore, 1)) (hk : k / 10000 = 1) (h0 : 0 ≤ i) (h1 : i < ((k % 10000 : Nat) : Int)) (kk : Go X q (pc + 1) ls st I (up2 A r i.toNat x)) : Go X q pc ls (.inl x :: .inl i :: .inr (some (k, r)) :: st) I A := by
  obtain ⟨p, l, e, R, s, m, args, below, meth, c, Q, D, cy, L, lv, S, nL, i77⟩ := X
  obtain ⟨hx, hb, hml, hown, hts, hK, hSz, hlv, hlk, him⟩ := hX
  intro hI hA hg hst hls H locs la hP hD hS hL
  obtain ⟨hm, hr⟩ : r ∈ lv ∧ rk r = k := okS_h (okS_t (okS_t hst))
  have hxx : inI x := okS_h hst
  have hi : inI i := okS_h (okS_t hst)
  obtain ⟨q0, hq0, hq⟩ := vg_aget (cy := cy) (L := L) (I := I) (A := A) hm hr hk (by omega) (by omega)
  refine va_iast hx hb hK.1 hP hD hS q0 0 hq rfl (oI_vp hi h0 h1) hd (fun H1 locs1 hP1 hD1 hS1 => ?_)
  rw [vg_aset hD hq0 hr hk (by omega) (by omega) hi rfl] at hP1 hD1
  exact kk hI (okF_up hA hxx) hg (okS_t (okS_t (okS_t hst))) hls H1 locs1 la hP1 hD1 hS1 hL
theorem g_baload (hX : Fx X own bytes Ts) {i : Int} {k r : Nat} (hd : decode bytes pc = .ok (.baload, 1)) (hk : k / 10000 = 2 ∨ k / 10000 = 3) (h0 : 0 ≤ i) (h1 : i < ((k % 10000 : Nat) : Int)) (kk : -2147483648 ≤ A r i.toNat → A r i.toNat ≤ 2147483647 → Go X q (pc + 1) ls (.inl (A r i.toNat) :: st) I A) : Go X q pc ls (.inl i :: .inr (some (k, r)) :: st) I A := by
  obtain ⟨p, l, e, R, s, m, args, below, meth, c, Q, D, cy, L, lv, S, nL, i77⟩ := X
  obtain ⟨hx, hb, hml, hown, hts, hK, hSz, hlv, hlk, him⟩ := hX
  intro hI hA hg hst hls H locs la hP hD hS hL
  obtain ⟨hm, hr⟩ : r ∈ lv ∧ rk r = k := okS_h (okS_t hst)
  have hi : inI i := okS_h hst
  have h9 := kk (hA r i.toNat).1 (hA r i.toNat).2 hI hA hg (okS_c (okS_t (okS_t hst)) (hA r i.toNat)) hls H locs la hP hD hS hL
  rcases hk with hk | hk
  · obtain ⟨q0, -, hq⟩ := vg_aget (cy := cy) (L := L) (I := I) (A := A) hm hr hk (by omega) (by omega)
    refine va_bald hx hb hK.1 hP q0 1 hq rfl (oI_vp hi h0 h1) hd ?_
    rw [oI_cl hi]
    exact h9
  · obtain ⟨q0, -, hq⟩ := vg_aget (cy := cy) (L := L) (I := I) (A := A) hm hr hk (by omega) (by omega)
    refine va_zald hx hb hK.1 hP q0 2 hq rfl (oI_vp hi h0 h1) hd ?_
    rw [oI_cl hi]
    exact h9
theorem nar_b {x : Int} (h1 : -128 ≤ x) (h2 : x ≤ 127) : vp_nar .byte (oI x) = oI x := by
  rw [vp_nar_byte, ← Int32.toInt_inj, Int8.toInt_toInt32]
  have h : (oI x).toInt8 = Int8.ofInt x := by unfold oI; exact Int32.toInt8_ofInt
  rw [h, Int8.toInt_ofInt_of_le (by omega) (by omega), oI_toInt ⟨by omega, by omega⟩]
theorem nar_z {x : Int} (h : x = 0 ∨ x = 1) : vp_nar .boolean (oI x) = oI x := by
  rcases h with rfl | rfl <;> rfl
theorem g_bastore (hX : Fx X own bytes Ts) {i x : Int} {k r : Nat} (hd : decode bytes pc = .ok (.bastore, 1)) (hk : (k / 10000 = 2 ∧ -128 ≤ x ∧ x ≤ 127) ∨ (k / 10000 = 3 ∧ (x = 0 ∨ x = 1))) (h0 : 0 ≤ i) (h1 : i < ((k % 10000 : Nat) : Int)) (kk : Go X q (pc + 1) ls st I (up2 A r i.toNat x)) : Go X q pc ls (.inl x :: .inl i :: .inr (some (k, r)) :: st) I A := by
  obtain ⟨p, l, e, R, s, m, args, below, meth, c, Q, D, cy, L, lv, S, nL, i77⟩ := X
  obtain ⟨hx, hb, hml, hown, hts, hK, hSz, hlv, hlk, him⟩ := hX
  intro hI hA hg hst hls H locs la hP hD hS hL
  obtain ⟨hm, hr⟩ : r ∈ lv ∧ rk r = k := okS_h (okS_t (okS_t hst))
  have hxx : inI x := okS_h hst
  have hi : inI i := okS_h (okS_t hst)
  rcases hk with ⟨hk, hb1, hb2⟩ | ⟨hk, hb1⟩
  · obtain ⟨q0, hq0, hq⟩ := vg_aget (cy := cy) (L := L) (I := I) (A := A) hm hr hk (by omega) (by omega)
    refine va_bast hx hb hK.1 hP hD hS q0 1 hq rfl (oI_vp hi h0 h1) hd (fun H1 locs1 hP1 hD1 hS1 => ?_)
    rw [vg_aset hD hq0 hr hk (by omega) (by omega) hi (nar_b hb1 hb2)] at hP1 hD1
    exact kk hI (okF_up hA hxx) hg (okS_t (okS_t (okS_t hst))) hls H1 locs1 la hP1 hD1 hS1 hL
  · obtain ⟨q0, hq0, hq⟩ := vg_aget (cy := cy) (L := L) (I := I) (A := A) hm hr hk (by omega) (by omega)
    refine va_zast hx hb hK.1 hP hD hS q0 2 hq rfl (oI_vp hi h0 h1) hd (fun H1 locs1 hP1 hD1 hS1 => ?_)
    rw [vg_aset hD hq0 hr hk (by omega) (by omega) hi (nar_z hb1)] at hP1 hD1
    exact kk hI (okF_up hA hxx) hg (okS_t (okS_t (okS_t hst))) hls H1 locs1 la hP1 hD1 hS1 hL
theorem g_alen (hX : Fx X own bytes Ts) {k r : Nat} (hd : decode bytes pc = .ok (.arraylength, 1)) (hk : k / 10000 = 1 ∨ k / 10000 = 2) (kk : Go X q (pc + 1) ls (.inl ((k % 10000 : Nat) : Int) :: st) I A) : Go X q pc ls (.inr (some (k, r)) :: st) I A := by
  obtain ⟨p, l, e, R, s, m, args, below, meth, c, Q, D, cy, L, lv, S, nL, i77⟩ := X
  obtain ⟨hx, hb, hml, hown, hts, hK, hSz, hlv, hlk, him⟩ := hX
  intro hI hA hg hst hls H locs la hP hD hS hL
  obtain ⟨hm, hr⟩ : r ∈ lv ∧ rk r = k := okS_h hst
  have hz : inI ((k % 10000 : Nat) : Int) := ⟨by omega, by omega⟩
  have h9 := kk hI hA hg (okS_c (okS_t hst) hz) hls H locs la hP hD hS hL
  have e : Int32.ofNat (k % 10000) = oI ((k % 10000 : Nat) : Int) := rfl
  rcases hk with hk | hk
  · obtain ⟨q0, -, hq⟩ := vg_aget (cy := cy) (L := L) (I := I) (A := A) hm hr hk (by omega) (by omega)
    exact va_alen hx hb hK.1 hP q0 0 hq (ty := .int) rfl e hd h9
  · obtain ⟨q0, -, hq⟩ := vg_aget (cy := cy) (L := L) (I := I) (A := A) hm hr hk (by omega) (by omega)
    exact va_alen hx hb hK.1 hP q0 1 hq (ty := .byte) rfl e hd h9
theorem g_aaS (hX : Fx X own bytes Ts) {i : Int} {r : Nat} (hd : decode bytes pc = .ok (.aaload, 1)) (h0 : 0 ≤ i) (h1 : i < 5) (kk : Go X q (pc + 1) ls (.inr (some (6, r + 1 + 13 * i.toNat)) :: st) I A) : Go X q pc ls (.inl i :: .inr (some (40005, r)) :: st) I A := by
  obtain ⟨p, l, e, R, s, m, args, below, meth, c, Q, D, cy, L, lv, S, nL, i77⟩ := X
  obtain ⟨hx, hb, hml, hown, hts, hK, hSz, hlv, hlk, him⟩ := hX
  intro hI hA hg hst hls H locs la hP hD hS hL
  obtain ⟨hm, hr⟩ : r ∈ lv ∧ rk r = 40005 := okS_h (okS_t hst)
  have hi : inI i := okS_h hst
  obtain ⟨q0, -, hq⟩ := wd_mem (cy := cy) (L := L) (I := I) (A := A) hm
  rw [show ce cy L I A r = .inl (cy 4, 5, .inr (.inr (.inr (.inr (fun i => some (L (r + 1 + 13 * i))))))) from by simp [ce, hr]] at hq
  refine va_aldq hx hb hK.1 hP q0 3 hq rfl (oI_vp hi h0 h1) hd ?_
  rw [oI_cl hi]
  exact kk hI hA hg (okS_c (okS_t (okS_t hst)) (hlv.2 r hm hr i.toNat (by omega))) hls H locs la hP hD hS hL
theorem g_aaI (hX : Fx X own bytes Ts) {i : Int} (hd : decode bytes pc = .ok (.aaload, 1)) (h0 : 0 ≤ i) (h1 : i < 2) (k0 : I 77 i.toNat = 0 → Go X q (pc + 1) ls (.inr none :: st) I A) (k1 : I 77 i.toNat ≠ 0 → Go X q (pc + 1) ls (.inr (some (1, 97 + 76 * i.toNat)) :: st) I A) : Go X q pc ls (.inl i :: .inr (some (50002, 77)) :: st) I A := by
  obtain ⟨p, l, e, R, s, m, args, below, meth, c, Q, D, cy, L, lv, S, nL, i77⟩ := X
  obtain ⟨hx, hb, hml, hown, hts, hK, hSz, hlv, hlk, him⟩ := hX
  intro hI hA hg hst hls H locs la hP hD hS hL
  obtain ⟨hm, hr⟩ : 77 ∈ lv ∧ rk 77 = 50002 := okS_h (okS_t hst)
  have hi : inI i := okS_h hst
  obtain ⟨q0, -, hq⟩ := wd_mem (cy := cy) (L := L) (I := I) (A := A) hm
  rw [show ce cy L I A 77 = .inl (cy 5, 2, .inr (.inr (.inr (.inr (fun i => if I 77 i = 0 then none else some (L (77 + 20 + 76 * i))))))) from by simp [ce, hr]] at hq
  refine va_aldq hx hb hK.1 hP q0 4 hq rfl (oI_vp hi h0 h1) hd ?_
  rw [oI_cl hi]
  by_cases h : I 77 i.toNat = 0
  · rw [if_pos h]
    exact k0 h hI hA hg (okS_c (okS_t (okS_t hst)) trivial) hls H locs la hP hD hS hL
  · rw [if_neg h]
    have hw : wv lv (.inr (some (1, 97 + 76 * i.toNat))) := ⟨him hm i.toNat (by omega) (by rw [← hg]; exact h), by
      rcases (show i.toNat = 0 ∨ i.toNat = 1 by omega) with z | z <;> rw [z] <;> decide⟩
    exact k1 h hI hA hg (okS_c (okS_t (okS_t hst)) hw) hls H locs la hP hD hS hL
theorem g_ifnn (hX : Fx X own bytes Ts) {v : Nat × Nat} {off : Int} (hd : decode bytes pc = .ok (.ifnonnull off, 3)) (ht : 0 ≤ (pc : Int) + off) (k : Go X q (tg pc off) ls st I A) : Go X q pc ls (.inr (some v) :: st) I A := by
  obtain ⟨p, l, e, R, s, m, args, below, meth, c, Q, D, cy, L, lv, S, nL, i77⟩ := X
  obtain ⟨hx, hb, hml, hown, hts, hK, hSz, hlv, hlk, him⟩ := hX
  intro hI hA hg hst hls H locs la hP hD hS hL
  exact lv_ifnonnull hx hb hd (by unfold tg; omega) (k hI hA hg (okS_t hst) hls H locs la hP hD hS hL)
theorem g_ifnn0 (hX : Fx X own bytes Ts) {off : Int} (hd : decode bytes pc = .ok (.ifnonnull off, 3)) (k : Go X q (pc + 3) ls st I A) : Go X q pc ls (.inr none :: st) I A := by
  obtain ⟨p, l, e, R, s, m, args, below, meth, c, Q, D, cy, L, lv, S, nL, i77⟩ := X
  obtain ⟨hx, hb, hml, hown, hts, hK, hSz, hlv, hlk, him⟩ := hX
  intro hI hA hg hst hls H locs la hP hD hS hL
  exact lv_ifnonnullN hx hb hd (k hI hA hg (okS_t hst) hls H locs la hP hD hS hL)
/-! fields -/
def FL (own : String) (Ts : List Jvm.Cond) (idx k j : Nat) : Prop := k < 100 ∧ j < kN k ∧ ∃ (C : String) (T : u_T) (ty0 : Nat → FieldType), vwCl[kci k]? = some (C, T, kN k) ∧ (∀ w ∈ u_ws C T (kN k), w ∈ Ts) ∧
  Jvm.Cond.fieldLink own idx (T j).1 (T j).2.1 (T j).2.2.1 ∈ Ts ∧ (∀ k', k' < kN k → parseFieldDescriptor (T k').2.2.1 = some (ty0 k')) ∧ (∀ a, a < kN k → ∀ b, b < kN k → a ≠ b → (T a).2.1 ≠ (T b).2.1) ∧ ((kF k j).1 = 0 → (T j).2.2.2 = false ∧ ty0 j = .int) ∧ ((kF k j).1 = 2 → (T j).2.2.2 = false ∧ ty0 j = .array .byte)
theorem g_get (hX : Fx X own bytes Ts) {idx k j r : Nat} {v : AV} (hf : FL own Ts idx k j) (hd : decode bytes pc = .ok (.getfield idx, 3)) (hv : ∀ L : Nat → Nat, vv L v = fv L I r j (kF k j)) (hw : ∀ lv, okF I → LvOk lv → r ∈ lv → rk r = k → wv lv v) (kk : Go X q (pc + 3) ls (v :: st) I A) : Go X q pc ls (.inr (some (k, r)) :: st) I A := by
  obtain ⟨p, l, e, R, s, m, args, below, meth, c, Q, D, cy, L, lv, S, nL, i77⟩ := X
  obtain ⟨hx, hb, hml, hown, hts, hK, hSz, hlv, hlk, him⟩ := hX
  intro hI hA hg hst hls H locs la hP hD hS hL
  obtain ⟨hm, hr⟩ : r ∈ lv ∧ rk r = k := okS_h hst
  obtain ⟨h100, hj, C, T, ty0, hc, hu, hlk2, -, -, -, -⟩ := hf
  obtain ⟨q0, -, hq⟩ := wd_mem (cy := cy) (L := L) (I := I) (A := A) hm
  rw [ce_obj hr h100] at hq
  refine va_get (v := vv L v) hx hb hts hu hown hK.1 hP q0 hq hc j hj (hts _ hlk2) (fun _ h9 => h9) ?_ hd (kk hI hA hg (okS_c (okS_t hst) (hw lv hI hlv hm hr)) hls H locs la hP hD hS hL)
  rw [List.getElem?_map, List.getElem?_range hj, hv L]
  rfl
theorem g_get0 (hX : Fx X own bytes Ts) {idx k j r : Nat} (hf : FL own Ts idx k j) (h0 : (kF k j).1 = 0) (hd : decode bytes pc = .ok (.getfield idx, 3)) (kk : -2147483648 ≤ I r j → I r j ≤ 2147483647 → Go X q (pc + 3) ls (.inl (I r j) :: st) I A) : Go X q pc ls (.inr (some (k, r)) :: st) I A := by
  refine g_get hX hf hd (v := .inl (I r j)) (fun L => by simp [fv, h0, vv]) (fun lv hI _ _ _ => hI r j) ?_
  obtain ⟨p, l, e, R, s, m, args, below, meth, c, Q, D, cy, L, lv, S, nL, i77⟩ := X
  intro hI
  exact kk (hI r j).1 (hI r j).2 hI
theorem g_get1 (hX : Fx X own bytes Ts) {idx k j r k2 off : Nat} (hf : FL own Ts idx k j) (h0 : kF k j = (1, k2, off)) (hd : decode bytes pc = .ok (.getfield idx, 3)) (kk : Go X q (pc + 3) ls (.inr (some (k2, r + off)) :: st) I A) : Go X q pc ls (.inr (some (k, r)) :: st) I A := by
  refine g_get hX hf hd (v := .inr (some (k2, r + off))) (fun L => by simp [fv, h0, vv]) (fun lv _ hlv hm hr => ?_) kk
  have h := hlv.1 r hm j (by rw [hr, h0]; simp)
  rw [hr, h0] at h
  exact h
theorem g_get2 (hX : Fx X own bytes Ts) {idx k j r k2 off : Nat} (hf : FL own Ts idx k j) (h0 : kF k j = (2, k2, off)) (hi : I r j ≠ 0) (hd : decode bytes pc = .ok (.getfield idx, 3)) (kk : Go X q (pc + 3) ls (.inr (some (k2, r + off)) :: st) I A) : Go X q pc ls (.inr (some (k, r)) :: st) I A := by
  refine g_get hX hf hd (v := .inr (some (k2, r + off))) (fun L => by simp [fv, h0, vv, hi]) (fun lv _ hlv hm hr => ?_) kk
  have h := hlv.1 r hm j (by rw [hr, h0]; simp)
  rw [hr, h0] at h
  exact h
theorem g_put (hX : Fx X own bytes Ts) {idx k j r : Nat} {v : AV} {x : Int} (hf : FL own Ts idx k j) (hd : decode bytes pc = .ok (.putfield idx, 3)) (hxI : okS [] [] → ∀ lv, wv lv v → inI x) (hv : ∀ L : Nat → Nat, vv L v = fv L (up2 I r j x) r j (kF k j)) (hty : ∀ ty : FieldType, (((kF k j).1 = 0 → ty = .int) ∧ ((kF k j).1 = 2 → ty = .array .byte)) → ∀ L, narrow ty (vv L v) = vv L v ∧ fits ty (vv L v) = true) (hmo : (kF k j).1 = 0 ∨ (kF k j).1 = 2) (kk : Go X q (pc + 3) ls st (up2 I r j x) A) : Go X q pc ls (v :: .inr (some (k, r)) :: st) I A := by
  obtain ⟨p, l, e, R, s, m, args, below, meth, c, Q, D, cy, L, lv, S, nL, i77⟩ := X
  obtain ⟨hx, hb, hml, hown, hts, hK, hSz, hlv, hlk, him⟩ := hX
  intro hI hA hg hst hls H locs la hP hD hS hL
  obtain ⟨hm, hr⟩ : r ∈ lv ∧ rk r = k := okS_h (okS_t hst)
  obtain ⟨h100, hj, C, T, ty0, hc, hu, hlk2, hp, hn, h5, h6⟩ := hf
  have h77 : r ≠ 77 := fun z => by subst z; rw [← hr] at h100; exact absurd h100 (by decide)
  obtain ⟨q0, hq0, hq⟩ := wd_mem (cy := cy) (L := L) (I := I) (A := A) hm
  rw [ce_obj hr h100] at hq
  have hfin : (T j).2.2.2 = false := hmo.elim (fun z => (h5 z).1) (fun z => (h6 z).1)
  have ht := hty (ty0 j) ⟨fun z => (h5 z).2, fun z => (h6 z).2⟩ L
  refine va_put (v := vv L v) (ty := ty0 j) hx hb hts hu ty0 hp hn hown hK.1 hP hD hS q0 hq hc j hj (hts _ hlk2) (fun _ h9 => h9) hfin (hp j hj) ht.1 ht.2 (by simpa using hj) hd (fun H1 locs1 hP1 hD1 hS1 => ?_)
  have e : (wd cy L lv I A).set q0 (L r, .inr (kci k, ((List.range (kN k)).map (fun j => fv L I r j (kF k j))).set j (vv L v))) = wd cy L lv (up2 I r j x) A := by
    have e2 : (Sum.inr (kci k, ((List.range (kN k)).map (fun j => fv L I r j (kF k j))).set j (vv L v)) : va_E) = ce cy L (up2 I r j x) A r := by
      rw [ce_obj hr h100]
      congr 2
      apply List.ext_getElem?
      intro i
      rw [List.getElem?_set, List.getElem?_map, List.getElem?_map]
      by_cases hi : j = i
      · subst hi
        rw [if_pos rfl, if_pos (by simpa using hj), List.getElem?_range hj, hv L]
        rfl
      · rw [if_neg hi]
        cases hz : (List.range (kN k))[i]? with
        | none => rfl
        | some a =>
          have : a = i := by
            have := List.getElem?_eq_some_iff.mp hz
            obtain ⟨h1, h2⟩ := this
            simpa using h2.symm
          subst this
          have : up2 I r j x r a = I r a := by simp only [up2]; rw [if_neg (fun z => hi z.2.symm)]
          simp [fv, this]
    rw [e2]
    exact wd_set hD hq0 (fun a ha => ce_same (up2_ne ha) rfl)
  rw [e] at hP1 hD1
  exact kk (okF_up hI (hxI (fun _ h => absurd h List.not_mem_nil) lv (okS_h hst))) hA (by rw [up2_ne (fun z => h77 z.symm)]; exact hg) (okS_t (okS_t hst)) hls H1 locs1 la hP1 hD1 hS1 hL
theorem g_put0 (hX : Fx X own bytes Ts) {idx k j r : Nat} {x : Int} (hf : FL own Ts idx k j) (h0 : (kF k j).1 = 0) (hd : decode bytes pc = .ok (.putfield idx, 3)) (kk : Go X q (pc + 3) ls st (up2 I r j x) A) : Go X q pc ls (.inl x :: .inr (some (k, r)) :: st) I A := by
  refine g_put hX hf hd (x := x) (fun _ lv h => h) (fun L => by simp [fv, h0, vv, up2]) (fun ty ht L => ?_) (Or.inl h0) kk
  rw [ht.1 h0]
  exact ⟨rfl, rfl⟩
end G
