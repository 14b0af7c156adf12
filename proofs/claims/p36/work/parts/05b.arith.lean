section G
variable {X : Cx} {own : String} {bytes : ByteArray} {Ts : List Jvm.Cond} {q : Nat × Nat} {pc : Nat} {ls : Lc} {st : List AV} {I A : FN}
theorem g_istore_n (hX : Fx X own bytes Ts) {n : Fin 4} {x : Int} (hd : decode bytes pc = .ok (.istore_n n, 1)) (k : lputK (n : Nat) (.inl x) ls (fun ls' => Go X q (pc + 1) ls' st I A)) : Go X q pc ls (.inl x :: st) I A := by
  obtain ⟨p, l, e, R, s, m, args, below, meth, c, Q, D, cy, L, lv, S, nL, i77⟩ := X
  obtain ⟨hx, hb, hml, hown, hts, hK, hSz, hlv, hlk, him⟩ := hX
  intro hI hA hg hst hls H locs la hP hD hS hL
  obtain ⟨hlen, lv0, hl1, hl2⟩ := hL
  obtain ⟨ls', k1, k2, k3, k4, k5⟩ := lputK_spec _ _ _ _ k
  refine lv_istore_n hx hb hd rfl hl1 (by omega) rfl (fun la' hl' => ?_)
  exact k1 hI hA hg (okS_t hst) (fun w hw => (k5 w hw).elim (fun z => z ▸ okS_h hst) (hls w)) H locs la' hP hD hS (LR.put hlen k2 hl2 k4 hl')

theorem g_istore (hX : Fx X own bytes Ts) {n : Nat} {x : Int} (hd : decode bytes pc = .ok (.istore n, 2)) (k : lputK n (.inl x) ls (fun ls' => Go X q (pc + 2) ls' st I A)) : Go X q pc ls (.inl x :: st) I A := by
  obtain ⟨p, l, e, R, s, m, args, below, meth, c, Q, D, cy, L, lv, S, nL, i77⟩ := X
  obtain ⟨hx, hb, hml, hown, hts, hK, hSz, hlv, hlk, him⟩ := hX
  intro hI hA hg hst hls H locs la hP hD hS hL
  obtain ⟨hlen, lv0, hl1, hl2⟩ := hL
  obtain ⟨ls', k1, k2, k3, k4, k5⟩ := lputK_spec _ _ _ _ k
  refine lv_istore hx hb hd hl1 (by omega) rfl (fun la' hl' => ?_)
  exact k1 hI hA hg (okS_t hst) (fun w hw => (k5 w hw).elim (fun z => z ▸ okS_h hst) (hls w)) H locs la' hP hD hS (LR.put hlen k2 hl2 k4 hl')

theorem g_astore_n (hX : Fx X own bytes Ts) {n : Fin 4} {x : Nat × Nat} (hd : decode bytes pc = .ok (.astore_n n, 1)) (k : lputK (n : Nat) (.inr (some x)) ls (fun ls' => Go X q (pc + 1) ls' st I A)) : Go X q pc ls (.inr (some x) :: st) I A := by
  obtain ⟨p, l, e, R, s, m, args, below, meth, c, Q, D, cy, L, lv, S, nL, i77⟩ := X
  obtain ⟨hx, hb, hml, hown, hts, hK, hSz, hlv, hlk, him⟩ := hX
  intro hI hA hg hst hls H locs la hP hD hS hL
  obtain ⟨hlen, lv0, hl1, hl2⟩ := hL
  obtain ⟨ls', k1, k2, k3, k4, k5⟩ := lputK_spec _ _ _ _ k
  refine lv_astore_n hx hb hd rfl hl1 (by omega) rfl (fun la' hl' => ?_)
  exact k1 hI hA hg (okS_t hst) (fun w hw => (k5 w hw).elim (fun z => z ▸ okS_h hst) (hls w)) H locs la' hP hD hS (LR.put hlen k2 hl2 k4 hl')

theorem g_astore (hX : Fx X own bytes Ts) {n : Nat} {x : Nat × Nat} (hd : decode bytes pc = .ok (.astore n, 2)) (k : lputK n (.inr (some x)) ls (fun ls' => Go X q (pc + 2) ls' st I A)) : Go X q pc ls (.inr (some x) :: st) I A := by
  obtain ⟨p, l, e, R, s, m, args, below, meth, c, Q, D, cy, L, lv, S, nL, i77⟩ := X
  obtain ⟨hx, hb, hml, hown, hts, hK, hSz, hlv, hlk, him⟩ := hX
  intro hI hA hg hst hls H locs la hP hD hS hL
  obtain ⟨hlen, lv0, hl1, hl2⟩ := hL
  obtain ⟨ls', k1, k2, k3, k4, k5⟩ := lputK_spec _ _ _ _ k
  refine lv_astore hx hb hd hl1 (by omega) rfl (fun la' hl' => ?_)
  exact k1 hI hA hg (okS_t hst) (fun w hw => (k5 w hw).elim (fun z => z ▸ okS_h hst) (hls w)) H locs la' hP hD hS (LR.put hlen k2 hl2 k4 hl')

theorem g_iinc (hX : Fx X own bytes Ts) {n : Nat} {d x : Int} (hd : decode bytes pc = .ok (.iinc n d, 3)) (hl : lget n ls = some (.inl x)) (hm : some (.inl x) ∈ ls) (hdI : inI d) (k : ∀ z qq : Int, z = x + d - 4294967296 * qq → -2147483648 ≤ z → z ≤ 2147483647 → lputK n (.inl z) ls (fun ls' => Go X q (pc + 3) ls' st I A)) : Go X q pc ls st I A := by
  obtain ⟨p, l, e, R, s, m, args, below, meth, c, Q, D, cy, L, lv, S, nL, i77⟩ := X
  obtain ⟨hx, hb, hml, hown, hts, hK, hSz, hlv, hlk, him⟩ := hX
  intro hI hA hg hst hls H locs la hP hD hS hL
  obtain ⟨hlen, lv0, hl1, hl2⟩ := hL
  have hx1 : inI x := hls _ hm
  obtain ⟨qq, hq⟩ := bm_q (x + d)
  have hz : (oI x + Int32.ofInt d).toInt = x + d - 4294967296 * qq := by
    rw [Int32.toInt_add, oI_toInt hx1, show (Int32.ofInt d).toInt = d from oI_toInt hdI, show ((2:Nat) ^ 32) = 4294967296 from rfl]; exact hq
  have hin := oI_in (oI x + Int32.ofInt d)
  obtain ⟨ls', k1, k2, k3, k4, k5⟩ := lputK_spec _ _ _ _ (k _ qq hz hin.1 hin.2)
  obtain ⟨kk, hkk⟩ := List.getElem?_of_mem (hl2 n _ hl)
  refine lv_iinc (v := oI x + Int32.ofInt d) hx hb hd hl1 hkk rfl (by omega) rfl (fun la' hl' => ?_)
  refine k1 hI hA hg hst (fun w hw => (k5 w hw).elim (fun z => z ▸ hin) (hls w)) H locs la' hP hD hS (LR.put hlen k2 hl2 k4 (v := .inl _) ?_)
  rw [show vv L (.inl (oI x + Int32.ofInt d).toInt) = .int (oI x + Int32.ofInt d) from congrArg Value.int (oI_of _)]
  exact hl'

theorem g_iadd (hX : Fx X own bytes Ts) {x y : Int} (hd : decode bytes pc = .ok (.iadd, 1)) (k : ∀ z qq : Int, z = x + y - 4294967296 * qq → -2147483648 ≤ z → z ≤ 2147483647 → Go X q (pc + 1) ls (.inl z :: st) I A) : Go X q pc ls (.inl y :: .inl x :: st) I A := by
  obtain ⟨p, l, e, R, s, m, args, below, meth, c, Q, D, cy, L, lv, S, nL, i77⟩ := X
  obtain ⟨hx, hb, hml, hown, hts, hK, hSz, hlv, hlk, him⟩ := hX
  intro hI hA hg hst hls H locs la hP hD hS hL
  have hy : inI y := okS_h hst
  have hxx : inI x := okS_h (okS_t hst)
  refine lv_iadd hx hb hd ?_
  have hin := oI_in (oI x + oI y)
  obtain ⟨qq, hq⟩ := bm_q (x + y)
  have hz : (oI x + oI y).toInt = x + y - 4294967296 * qq := by
    rw [Int32.toInt_add, oI_toInt hxx, oI_toInt hy, show ((2:Nat) ^ 32) = 4294967296 from rfl]; exact hq
  have hgo := k _ qq hz
  have h9 := hgo hin.1 hin.2 hI hA hg (okS_c (okS_t (okS_t hst)) hin) hls H locs la hP hD hS hL
  simp only [List.map_cons, vv, oI_of] at h9
  exact h9

theorem g_isub (hX : Fx X own bytes Ts) {x y : Int} (hd : decode bytes pc = .ok (.isub, 1)) (k : ∀ z qq : Int, z = x - y - 4294967296 * qq → -2147483648 ≤ z → z ≤ 2147483647 → Go X q (pc + 1) ls (.inl z :: st) I A) : Go X q pc ls (.inl y :: .inl x :: st) I A := by
  obtain ⟨p, l, e, R, s, m, args, below, meth, c, Q, D, cy, L, lv, S, nL, i77⟩ := X
  obtain ⟨hx, hb, hml, hown, hts, hK, hSz, hlv, hlk, him⟩ := hX
  intro hI hA hg hst hls H locs la hP hD hS hL
  have hy : inI y := okS_h hst
  have hxx : inI x := okS_h (okS_t hst)
  refine lv_isub hx hb hd ?_
  have hin := oI_in (oI x - oI y)
  obtain ⟨qq, hq⟩ := bm_q (x - y)
  have hz : (oI x - oI y).toInt = x - y - 4294967296 * qq := by
    rw [Int32.toInt_sub, oI_toInt hxx, oI_toInt hy, show ((2:Nat) ^ 32) = 4294967296 from rfl]; exact hq
  have hgo := k _ qq hz
  have h9 := hgo hin.1 hin.2 hI hA hg (okS_c (okS_t (okS_t hst)) hin) hls H locs la hP hD hS hL
  simp only [List.map_cons, vv, oI_of] at h9
  exact h9

theorem g_imul (hX : Fx X own bytes Ts) {x y : Int} (hd : decode bytes pc = .ok (.imul, 1)) (k : ∀ z qq : Int, z = x * y - 4294967296 * qq → -2147483648 ≤ z → z ≤ 2147483647 → Go X q (pc + 1) ls (.inl z :: st) I A) : Go X q pc ls (.inl y :: .inl x :: st) I A := by
  obtain ⟨p, l, e, R, s, m, args, below, meth, c, Q, D, cy, L, lv, S, nL, i77⟩ := X
  obtain ⟨hx, hb, hml, hown, hts, hK, hSz, hlv, hlk, him⟩ := hX
  intro hI hA hg hst hls H locs la hP hD hS hL
  have hy : inI y := okS_h hst
  have hxx : inI x := okS_h (okS_t hst)
  refine lv_imul hx hb hd ?_
  have hin := oI_in (oI x * oI y)
  obtain ⟨qq, hq⟩ := bm_q (x * y)
  have hz : (oI x * oI y).toInt = x * y - 4294967296 * qq := by
    rw [Int32.toInt_mul, oI_toInt hxx, oI_toInt hy, show ((2:Nat) ^ 32) = 4294967296 from rfl]; exact hq
  have hgo := k _ qq hz
  have h9 := hgo hin.1 hin.2 hI hA hg (okS_c (okS_t (okS_t hst)) hin) hls H locs la hP hD hS hL
  simp only [List.map_cons, vv, oI_of] at h9
  exact h9

def iAnd (x y : Int) : Int := (oI x &&& oI y).toInt
def iOr (x y : Int) : Int := (oI x ||| oI y).toInt
def iShl (x y : Int) : Int := (oI x <<< (oI y &&& 31)).toInt
def iShr (x y : Int) : Int := (oI x >>> (oI y &&& 31)).toInt
def iUsh (x y : Int) : Int := ((oI x).toUInt32 >>> ((oI y).toUInt32 &&& Int32.toUInt32 31)).toInt32.toInt
theorem iAnd_b {x y : Int} (hy : inI y) (h0 : 0 ≤ y) : 0 ≤ iAnd x y ∧ iAnd x y ≤ y := by
  have hv : (oI y).toInt = y := oI_toInt hy
  have e : (oI y).toBitVec.toNat = y.toNat := by
    have h1 : (oI y).toBitVec.toInt = y := hv
    rw [BitVec.toInt_eq_toNat_cond] at h1
    have h2 := (oI y).toBitVec.isLt
    split at h1 <;> omega
  have h3 : (oI x &&& oI y).toBitVec.toNat ≤ y.toNat := by
    rw [Int32.toBitVec_and, BitVec.toNat_and, e]
    exact Nat.and_le_right
  have h4 : (oI x &&& oI y).toBitVec.toInt = iAnd x y := rfl
  rw [BitVec.toInt_eq_toNat_cond] at h4
  have h5 := hy.2
  split at h4 <;> omega
theorem iUsh_b {x : Int} : 0 ≤ iUsh x 8 ∧ iUsh x 8 < 16777216 := by
  have h := pk_ushr (oI x) (oI 8) 8 (by decide)
  have h2 := (oI x).toBitVec.isLt
  have h4 : ((oI x).toUInt32 >>> ((oI 8).toUInt32 &&& Int32.toUInt32 31)).toInt32.toBitVec.toInt = iUsh x 8 := rfl
  rw [BitVec.toInt_eq_toNat_cond, h] at h4
  split at h4 <;> omega

theorem g_iand (hX : Fx X own bytes Ts) {x y : Int} (hd : decode bytes pc = .ok (.iand, 1)) (k : ∀ z : Int, z = iAnd x y → (0 ≤ y → 0 ≤ z ∧ z ≤ y) → -2147483648 ≤ z → z ≤ 2147483647 → Go X q (pc + 1) ls (.inl z :: st) I A) : Go X q pc ls (.inl y :: .inl x :: st) I A := by
  obtain ⟨p, l, e, R, s, m, args, below, meth, c, Q, D, cy, L, lv, S, nL, i77⟩ := X
  obtain ⟨hx, hb, hml, hown, hts, hK, hSz, hlv, hlk, him⟩ := hX
  intro hI hA hg hst hls H locs la hP hD hS hL
  have hy : inI y := okS_h hst
  have hxx : inI x := okS_h (okS_t hst)
  refine lv_iand hx hb hd ?_
  have hin := oI_in (oI x &&& oI y)
  have hgo := k _ rfl (iAnd_b hy)
  have h9 := hgo hin.1 hin.2 hI hA hg (okS_c (okS_t (okS_t hst)) hin) hls H locs la hP hD hS hL
  simp only [List.map_cons, vv, iAnd, oI_of] at h9
  exact h9

theorem g_ior (hX : Fx X own bytes Ts) {x y : Int} (hd : decode bytes pc = .ok (.ior, 1)) (k : ∀ z : Int, z = iOr x y → -2147483648 ≤ z → z ≤ 2147483647 → Go X q (pc + 1) ls (.inl z :: st) I A) : Go X q pc ls (.inl y :: .inl x :: st) I A := by
  obtain ⟨p, l, e, R, s, m, args, below, meth, c, Q, D, cy, L, lv, S, nL, i77⟩ := X
  obtain ⟨hx, hb, hml, hown, hts, hK, hSz, hlv, hlk, him⟩ := hX
  intro hI hA hg hst hls H locs la hP hD hS hL
  have hy : inI y := okS_h hst
  have hxx : inI x := okS_h (okS_t hst)
  refine lv_ior hx hb hd ?_
  have hin := oI_in (oI x ||| oI y)
  have hgo := k _ rfl
  have h9 := hgo hin.1 hin.2 hI hA hg (okS_c (okS_t (okS_t hst)) hin) hls H locs la hP hD hS hL
  simp only [List.map_cons, vv, iOr, oI_of] at h9
  exact h9

theorem g_ishl (hX : Fx X own bytes Ts) {x y : Int} (hd : decode bytes pc = .ok (.ishl, 1)) (k : ∀ z : Int, z = iShl x y → -2147483648 ≤ z → z ≤ 2147483647 → Go X q (pc + 1) ls (.inl z :: st) I A) : Go X q pc ls (.inl y :: .inl x :: st) I A := by
  obtain ⟨p, l, e, R, s, m, args, below, meth, c, Q, D, cy, L, lv, S, nL, i77⟩ := X
  obtain ⟨hx, hb, hml, hown, hts, hK, hSz, hlv, hlk, him⟩ := hX
  intro hI hA hg hst hls H locs la hP hD hS hL
  have hy : inI y := okS_h hst
  have hxx : inI x := okS_h (okS_t hst)
  refine lv_ishl hx hb hd ?_
  have hin := oI_in (oI x <<< (oI y &&& 31))
  have hgo := k _ rfl
  have h9 := hgo hin.1 hin.2 hI hA hg (okS_c (okS_t (okS_t hst)) hin) hls H locs la hP hD hS hL
  simp only [List.map_cons, vv, iShl, oI_of] at h9
  exact h9

theorem g_ishr (hX : Fx X own bytes Ts) {x y : Int} (hd : decode bytes pc = .ok (.ishr, 1)) (k : ∀ z : Int, z = iShr x y → -2147483648 ≤ z → z ≤ 2147483647 → Go X q (pc + 1) ls (.inl z :: st) I A) : Go X q pc ls (.inl y :: .inl x :: st) I A := by
  obtain ⟨p, l, e, R, s, m, args, below, meth, c, Q, D, cy, L, lv, S, nL, i77⟩ := X
  obtain ⟨hx, hb, hml, hown, hts, hK, hSz, hlv, hlk, him⟩ := hX
  intro hI hA hg hst hls H locs la hP hD hS hL
  have hy : inI y := okS_h hst
  have hxx : inI x := okS_h (okS_t hst)
  refine lv_ishr hx hb hd ?_
  have hin := oI_in (oI x >>> (oI y &&& 31))
  have hgo := k _ rfl
  have h9 := hgo hin.1 hin.2 hI hA hg (okS_c (okS_t (okS_t hst)) hin) hls H locs la hP hD hS hL
  simp only [List.map_cons, vv, iShr, oI_of] at h9
  exact h9

theorem g_iushr (hX : Fx X own bytes Ts) {x y : Int} (hd : decode bytes pc = .ok (.iushr, 1)) (k : ∀ z : Int, z = iUsh x y → (y = 8 → 0 ≤ z ∧ z < 16777216) → -2147483648 ≤ z → z ≤ 2147483647 → Go X q (pc + 1) ls (.inl z :: st) I A) : Go X q pc ls (.inl y :: .inl x :: st) I A := by
  obtain ⟨p, l, e, R, s, m, args, below, meth, c, Q, D, cy, L, lv, S, nL, i77⟩ := X
  obtain ⟨hx, hb, hml, hown, hts, hK, hSz, hlv, hlk, him⟩ := hX
  intro hI hA hg hst hls H locs la hP hD hS hL
  refine lv_iushr hx hb hd rfl ?_
  have hin := oI_in ((oI x).toUInt32 >>> ((oI y).toUInt32 &&& Int32.toUInt32 31)).toInt32
  have h9 := k _ rfl (fun e => by subst e; exact iUsh_b) hin.1 hin.2 hI hA hg (okS_c (okS_t (okS_t hst)) hin) hls H locs la hP hD hS hL
  simp only [List.map_cons, vv, iUsh, oI_of] at h9
  exact h9

theorem g_i2b (hX : Fx X own bytes Ts) {x : Int} (hd : decode bytes pc = .ok (.i2b, 1)) (k : ∀ z : Int, z = (oI x).toInt8.toInt → -128 ≤ z → z ≤ 127 → Go X q (pc + 1) ls (.inl z :: st) I A) : Go X q pc ls (.inl x :: st) I A := by
  obtain ⟨p, l, e, R, s, m, args, below, meth, c, Q, D, cy, L, lv, S, nL, i77⟩ := X
  obtain ⟨hx, hb, hml, hown, hts, hK, hSz, hlv, hlk, him⟩ := hX
  intro hI hA hg hst hls H locs la hP hD hS hL
  refine lv_i2b hx hb hd rfl ?_
  have h1 : -128 ≤ (oI x).toInt8.toInt := by have := (oI x).toInt8.le_toInt; omega
  have h2 : (oI x).toInt8.toInt ≤ 127 := by have := (oI x).toInt8.toInt_lt; omega
  have h9 := k _ rfl h1 h2 hI hA hg (okS_c (okS_t hst) ⟨by omega, by omega⟩) hls H locs la hP hD hS hL
  rw [show (oI x).toInt8.toInt32 = oI (oI x).toInt8.toInt from by rw [← Int32.toInt_inj, Int8.toInt_toInt32, oI_toInt ⟨by omega, by omega⟩]]
  exact h9

theorem td_f {x y : Int} (hy : 0 < y) : (0 ≤ x → x.tdiv y = x / y) ∧ (x < 0 → x.tdiv y = -((-x) / y)) := by
  refine ⟨fun h => Int.tdiv_eq_ediv_of_nonneg h, fun h => ?_⟩
  have h2 : (-(-x)).tdiv y = -((-x).tdiv y) := Int.neg_tdiv (-x) y
  rw [Int.neg_neg] at h2
  rw [h2, Int.tdiv_eq_ediv_of_nonneg (by omega)]
theorem tm_f {x y : Int} (hy : 0 < y) : (0 ≤ x → x.tmod y = x % y) ∧ (x < 0 → x.tmod y = -((-x) % y)) := by
  refine ⟨fun h => Int.tmod_eq_emod_of_nonneg h, fun h => ?_⟩
  have h2 : (-(-x)).tmod y = -((-x).tmod y) := Int.neg_tmod (-x) y
  rw [Int.neg_neg] at h2
  rw [h2, Int.tmod_eq_emod_of_nonneg (by omega)]
theorem td_in {x y : Int} (hx : inI x) (hy : 0 < y) : inI (x.tdiv y) := by
  have h := td_f (x := x) hy
  rcases Int.lt_or_le x 0 with h0 | h0
  · rw [h.2 h0]
    have h1 : 0 ≤ (-x) / y := Int.ediv_nonneg (by omega) (by omega)
    have h2 : (-x) / y ≤ -x := Int.ediv_le_self _ (by omega)
    exact ⟨by have := hx.1; omega, by omega⟩
  · rw [h.1 h0]
    have h1 : 0 ≤ x / y := Int.ediv_nonneg (by omega) (by omega)
    have h2 : x / y ≤ x := Int.ediv_le_self _ (by omega)
    exact ⟨by omega, by have := hx.2; omega⟩
theorem oI_div {x y : Int} (hx : inI x) (hy : inI y) (h0 : 0 < y) : oI x / oI y = oI (x.tdiv y) := by
  rw [← Int32.toInt_inj, Int32.toInt_div_of_ne_right _ _ (fun h => by
    have h1 : (oI y).toInt = -1 := by rw [h]; rfl
    rw [oI_toInt hy] at h1; omega), oI_toInt hx, oI_toInt hy, oI_toInt (td_in hx h0)]
theorem oI_rem {x y : Int} (hx : inI x) (hy : inI y) (h0 : 0 < y) : oI x - oI x / oI y * oI y = oI (x.tmod y) := by
  rw [oI_div hx hy h0]
  have h : x.tmod y = x - x.tdiv y * y := by rw [Int.tmod_def, Int.mul_comm]
  rw [h]
  unfold oI
  rw [Int32.ofInt_sub, Int32.ofInt_mul]

theorem g_idiv (hX : Fx X own bytes Ts) {x y : Int} (hd : decode bytes pc = .ok (.idiv, 1)) (h0 : 0 < y) (k : ∀ z : Int, z = x.tdiv y → (0 ≤ x → z = x / y) → (x < 0 → z = -((-x) / y)) → Go X q (pc + 1) ls (.inl z :: st) I A) : Go X q pc ls (.inl y :: .inl x :: st) I A := by
  obtain ⟨p, l, e, R, s, m, args, below, meth, c, Q, D, cy, L, lv, S, nL, i77⟩ := X
  obtain ⟨hx, hb, hml, hown, hts, hK, hSz, hlv, hlk, him⟩ := hX
  intro hI hA hg hst hls H locs la hP hD hS hL
  have hy : inI y := okS_h hst
  have hxx : inI x := okS_h (okS_t hst)
  refine lv_idiv hx hb hd (fun h => by have := (oI_eq hy inI_0).mp h; omega) ?_
  rw [oI_div hxx hy h0]
  exact k _ rfl (td_f h0).1 (td_f h0).2 hI hA hg (okS_c (okS_t (okS_t hst)) (td_in hxx h0)) hls H locs la hP hD hS hL

theorem g_irem (hX : Fx X own bytes Ts) {x y : Int} (hd : decode bytes pc = .ok (.irem, 1)) (h0 : 0 < y) (k : ∀ z : Int, z = x.tmod y → (0 ≤ x → z = x % y) → (x < 0 → z = -((-x) % y)) → -y < z → z < y → Go X q (pc + 1) ls (.inl z :: st) I A) : Go X q pc ls (.inl y :: .inl x :: st) I A := by
  obtain ⟨p, l, e, R, s, m, args, below, meth, c, Q, D, cy, L, lv, S, nL, i77⟩ := X
  obtain ⟨hx, hb, hml, hown, hts, hK, hSz, hlv, hlk, him⟩ := hX
  intro hI hA hg hst hls H locs la hP hD hS hL
  have hy : inI y := okS_h hst
  have hxx : inI x := okS_h (okS_t hst)
  refine lv_irem hx hb hd (fun h => by have := (oI_eq hy inI_0).mp h; omega) ?_
  rw [oI_rem hxx hy h0]
  have hb1 : -y < x.tmod y ∧ x.tmod y < y := by
    rcases Int.lt_or_le x 0 with h1 | h1
    · rw [(tm_f h0).2 h1]
      have h2 := Int.emod_nonneg (-x) (show y ≠ 0 by omega)
      have h3 := Int.emod_lt_of_pos (-x) h0
      omega
    · rw [(tm_f h0).1 h1]
      have h2 := Int.emod_nonneg x (show y ≠ 0 by omega)
      have h3 := Int.emod_lt_of_pos x h0
      omega
  have hyy := hy.2
  exact k _ rfl (tm_f h0).1 (tm_f h0).2 hb1.1 hb1.2 hI hA hg (okS_c (okS_t (okS_t hst)) ⟨by omega, by omega⟩) hls H locs la hP hD hS hL

theorem g_dup (hX : Fx X own bytes Ts) {v : AV} (hd : decode bytes pc = .ok (.dup, 1)) (k : Go X q (pc + 1) ls (v :: v :: st) I A) : Go X q pc ls (v :: st) I A := by
  obtain ⟨p, l, e, R, s, m, args, below, meth, c, Q, D, cy, L, lv, S, nL, i77⟩ := X
  obtain ⟨hx, hb, hml, hown, hts, hK, hSz, hlv, hlk, him⟩ := hX
  intro hI hA hg hst hls H locs la hP hD hS hL
  exact lv_dup hx hb hd (vv_cat L v) (k hI hA hg (okS_c hst (okS_h hst)) hls H locs la hP hD hS hL)

theorem g_dup2 (hX : Fx X own bytes Ts) {v w : AV} (hd : decode bytes pc = .ok (.dup2, 1)) (k : Go X q (pc + 1) ls (v :: w :: v :: w :: st) I A) : Go X q pc ls (v :: w :: st) I A := by
  obtain ⟨p, l, e, R, s, m, args, below, meth, c, Q, D, cy, L, lv, S, nL, i77⟩ := X
  obtain ⟨hx, hb, hml, hown, hts, hK, hSz, hlv, hlk, him⟩ := hX
  intro hI hA hg hst hls H locs la hP hD hS hL
  exact lv_dup2_11 hx hb hd (vv_cat L v) (vv_cat L w) (k hI hA hg (okS_c (okS_c hst (okS_h (okS_t hst))) (okS_h hst)) hls H locs la hP hD hS hL)

theorem g_pop (hX : Fx X own bytes Ts) {v : AV} (hd : decode bytes pc = .ok (.pop, 1)) (k : Go X q (pc + 1) ls st I A) : Go X q pc ls (v :: st) I A := by
  obtain ⟨p, l, e, R, s, m, args, below, meth, c, Q, D, cy, L, lv, S, nL, i77⟩ := X
  obtain ⟨hx, hb, hml, hown, hts, hK, hSz, hlv, hlk, him⟩ := hX
  intro hI hA hg hst hls H locs la hP hD hS hL
  exact lv_pop hx hb hd (vv_cat L v) (k hI hA hg (okS_t hst) hls H locs la hP hD hS hL)

def tg (pc : Nat) (off : Int) : Nat := ((pc : Int) + off).toNat

theorem g_goto (hX : Fx X own bytes Ts) {off : Int} (hd : decode bytes pc = .ok (.goto off, 3)) (ht : 0 ≤ (pc : Int) + off) (k : Go X q (tg pc off) ls st I A) : Go X q pc ls st I A := by
  obtain ⟨p, l, e, R, s, m, args, below, meth, c, Q, D, cy, L, lv, S, nL, i77⟩ := X
  obtain ⟨hx, hb, hml, hown, hts, hK, hSz, hlv, hlk, him⟩ := hX
  intro hI hA hg hst hls H locs la hP hD hS hL
  exact lv_goto hx hb hd (by unfold tg; omega) (k hI hA hg hst hls H locs la hP hD hS hL)

theorem g_icmp_eq (hX : Fx X own bytes Ts) {x y : Int} {off : Int} (hd : decode bytes pc = .ok (.if_icmp .eq off, 3)) (ht : 0 ≤ (pc : Int) + off) (kt : x = y → Go X q (tg pc off) ls st I A) (kf : ¬ (x = y) → Go X q (pc + 3) ls st I A) : Go X q pc ls (.inl y :: .inl x :: st) I A := by
  obtain ⟨p, l, e, R, s, m, args, below, meth, c, Q, D, cy, L, lv, S, nL, i77⟩ := X
  obtain ⟨hx, hb, hml, hown, hts, hK, hSz, hlv, hlk, him⟩ := hX
  intro hI hA hg hst hls H locs la hP hD hS hL
  have hy : inI y := okS_h hst
  have hxx : inI x := okS_h (okS_t hst)
  exact lv_icmp_eq hx hb hd (by unfold tg; omega) (fun h => kt ((oI_eq hxx hy).mp h) hI hA hg (okS_t (okS_t hst)) hls H locs la hP hD hS hL) (fun h => kf (fun z => h ((oI_eq hxx hy).mpr z)) hI hA hg (okS_t (okS_t hst)) hls H locs la hP hD hS hL)

theorem g_if_eq (hX : Fx X own bytes Ts) {x : Int} {off : Int} (hd : decode bytes pc = .ok (.ifCond .eq off, 3)) (ht : 0 ≤ (pc : Int) + off) (kt : x = 0 → Go X q (tg pc off) ls st I A) (kf : ¬ (x = 0) → Go X q (pc + 3) ls st I A) : Go X q pc ls (.inl x :: st) I A := by
  obtain ⟨p, l, e, R, s, m, args, below, meth, c, Q, D, cy, L, lv, S, nL, i77⟩ := X
  obtain ⟨hx, hb, hml, hown, hts, hK, hSz, hlv, hlk, him⟩ := hX
  intro hI hA hg hst hls H locs la hP hD hS hL
  have hxx : inI x := okS_h hst
  exact lv_if_eq hx hb hd (by unfold tg; omega) (fun h => kt ((oI_eq hxx inI_0).mp h) hI hA hg (okS_t hst) hls H locs la hP hD hS hL) (fun h => kf (fun z => h ((oI_eq hxx inI_0).mpr z)) hI hA hg (okS_t hst) hls H locs la hP hD hS hL)

theorem g_icmp_ne (hX : Fx X own bytes Ts) {x y : Int} {off : Int} (hd : decode bytes pc = .ok (.if_icmp .ne off, 3)) (ht : 0 ≤ (pc : Int) + off) (kt : x ≠ y → Go X q (tg pc off) ls st I A) (kf : ¬ (x ≠ y) → Go X q (pc + 3) ls st I A) : Go X q pc ls (.inl y :: .inl x :: st) I A := by
  obtain ⟨p, l, e, R, s, m, args, below, meth, c, Q, D, cy, L, lv, S, nL, i77⟩ := X
  obtain ⟨hx, hb, hml, hown, hts, hK, hSz, hlv, hlk, him⟩ := hX
  intro hI hA hg hst hls H locs la hP hD hS hL
  have hy : inI y := okS_h hst
  have hxx : inI x := okS_h (okS_t hst)
  exact lv_icmp_ne hx hb hd (by unfold tg; omega) (fun h => kt (fun z => h ((oI_eq hxx hy).mpr z)) hI hA hg (okS_t (okS_t hst)) hls H locs la hP hD hS hL) (fun h => kf (fun z => z ((oI_eq hxx hy).mp h)) hI hA hg (okS_t (okS_t hst)) hls H locs la hP hD hS hL)

theorem g_if_ne (hX : Fx X own bytes Ts) {x : Int} {off : Int} (hd : decode bytes pc = .ok (.ifCond .ne off, 3)) (ht : 0 ≤ (pc : Int) + off) (kt : x ≠ 0 → Go X q (tg pc off) ls st I A) (kf : ¬ (x ≠ 0) → Go X q (pc + 3) ls st I A) : Go X q pc ls (.inl x :: st) I A := by
  obtain ⟨p, l, e, R, s, m, args, below, meth, c, Q, D, cy, L, lv, S, nL, i77⟩ := X
  obtain ⟨hx, hb, hml, hown, hts, hK, hSz, hlv, hlk, him⟩ := hX
  intro hI hA hg hst hls H locs la hP hD hS hL
  have hxx : inI x := okS_h hst
  exact lv_if_ne hx hb hd (by unfold tg; omega) (fun h => kt (fun z => h ((oI_eq hxx inI_0).mpr z)) hI hA hg (okS_t hst) hls H locs la hP hD hS hL) (fun h => kf (fun z => z ((oI_eq hxx inI_0).mp h)) hI hA hg (okS_t hst) hls H locs la hP hD hS hL)

theorem g_icmp_lt (hX : Fx X own bytes Ts) {x y : Int} {off : Int} (hd : decode bytes pc = .ok (.if_icmp .lt off, 3)) (ht : 0 ≤ (pc : Int) + off) (kt : x < y → Go X q (tg pc off) ls st I A) (kf : ¬ (x < y) → Go X q (pc + 3) ls st I A) : Go X q pc ls (.inl y :: .inl x :: st) I A := by
  obtain ⟨p, l, e, R, s, m, args, below, meth, c, Q, D, cy, L, lv, S, nL, i77⟩ := X
  obtain ⟨hx, hb, hml, hown, hts, hK, hSz, hlv, hlk, him⟩ := hX
  intro hI hA hg hst hls H locs la hP hD hS hL
  have hy : inI y := okS_h hst
  have hxx : inI x := okS_h (okS_t hst)
  exact lv_icmp_lt hx hb hd (by unfold tg; omega) (fun h => kt ((oI_lt hxx hy).mp h) hI hA hg (okS_t (okS_t hst)) hls H locs la hP hD hS hL) (fun h => kf (fun z => h ((oI_lt hxx hy).mpr z)) hI hA hg (okS_t (okS_t hst)) hls H locs la hP hD hS hL)

theorem g_if_lt (hX : Fx X own bytes Ts) {x : Int} {off : Int} (hd : decode bytes pc = .ok (.ifCond .lt off, 3)) (ht : 0 ≤ (pc : Int) + off) (kt : x < 0 → Go X q (tg pc off) ls st I A) (kf : ¬ (x < 0) → Go X q (pc + 3) ls st I A) : Go X q pc ls (.inl x :: st) I A := by
  obtain ⟨p, l, e, R, s, m, args, below, meth, c, Q, D, cy, L, lv, S, nL, i77⟩ := X
  obtain ⟨hx, hb, hml, hown, hts, hK, hSz, hlv, hlk, him⟩ := hX
  intro hI hA hg hst hls H locs la hP hD hS hL
  have hxx : inI x := okS_h hst
  exact lv_if_lt hx hb hd (by unfold tg; omega) (fun h => kt ((oI_lt hxx inI_0).mp h) hI hA hg (okS_t hst) hls H locs la hP hD hS hL) (fun h => kf (fun z => h ((oI_lt hxx inI_0).mpr z)) hI hA hg (okS_t hst) hls H locs la hP hD hS hL)

theorem g_icmp_ge (hX : Fx X own bytes Ts) {x y : Int} {off : Int} (hd : decode bytes pc = .ok (.if_icmp .ge off, 3)) (ht : 0 ≤ (pc : Int) + off) (kt : y ≤ x → Go X q (tg pc off) ls st I A) (kf : ¬ (y ≤ x) → Go X q (pc + 3) ls st I A) : Go X q pc ls (.inl y :: .inl x :: st) I A := by
  obtain ⟨p, l, e, R, s, m, args, below, meth, c, Q, D, cy, L, lv, S, nL, i77⟩ := X
  obtain ⟨hx, hb, hml, hown, hts, hK, hSz, hlv, hlk, him⟩ := hX
  intro hI hA hg hst hls H locs la hP hD hS hL
  have hy : inI y := okS_h hst
  have hxx : inI x := okS_h (okS_t hst)
  exact lv_icmp_ge hx hb hd (by unfold tg; omega) (fun h => kt ((oI_le hy hxx).mp h) hI hA hg (okS_t (okS_t hst)) hls H locs la hP hD hS hL) (fun h => kf (fun z => h ((oI_le hy hxx).mpr z)) hI hA hg (okS_t (okS_t hst)) hls H locs la hP hD hS hL)

theorem g_if_ge (hX : Fx X own bytes Ts) {x : Int} {off : Int} (hd : decode bytes pc = .ok (.ifCond .ge off, 3)) (ht : 0 ≤ (pc : Int) + off) (kt : 0 ≤ x → Go X q (tg pc off) ls st I A) (kf : ¬ (0 ≤ x) → Go X q (pc + 3) ls st I A) : Go X q pc ls (.inl x :: st) I A := by
  obtain ⟨p, l, e, R, s, m, args, below, meth, c, Q, D, cy, L, lv, S, nL, i77⟩ := X
  obtain ⟨hx, hb, hml, hown, hts, hK, hSz, hlv, hlk, him⟩ := hX
  intro hI hA hg hst hls H locs la hP hD hS hL
  have hxx : inI x := okS_h hst
  exact lv_if_ge hx hb hd (by unfold tg; omega) (fun h => kt ((oI_le inI_0 hxx).mp h) hI hA hg (okS_t hst) hls H locs la hP hD hS hL) (fun h => kf (fun z => h ((oI_le inI_0 hxx).mpr z)) hI hA hg (okS_t hst) hls H locs la hP hD hS hL)

theorem g_icmp_gt (hX : Fx X own bytes Ts) {x y : Int} {off : Int} (hd : decode bytes pc = .ok (.if_icmp .gt off, 3)) (ht : 0 ≤ (pc : Int) + off) (kt : y < x → Go X q (tg pc off) ls st I A) (kf : ¬ (y < x) → Go X q (pc + 3) ls st I A) : Go X q pc ls (.inl y :: .inl x :: st) I A := by
  obtain ⟨p, l, e, R, s, m, args, below, meth, c, Q, D, cy, L, lv, S, nL, i77⟩ := X
  obtain ⟨hx, hb, hml, hown, hts, hK, hSz, hlv, hlk, him⟩ := hX
  intro hI hA hg hst hls H locs la hP hD hS hL
  have hy : inI y := okS_h hst
  have hxx : inI x := okS_h (okS_t hst)
  exact lv_icmp_gt hx hb hd (by unfold tg; omega) (fun h => kt ((oI_lt hy hxx).mp h) hI hA hg (okS_t (okS_t hst)) hls H locs la hP hD hS hL) (fun h => kf (fun z => h ((oI_lt hy hxx).mpr z)) hI hA hg (okS_t (okS_t hst)) hls H locs la hP hD hS hL)

theorem g_if_gt (hX : Fx X own bytes Ts) {x : Int} {off : Int} (hd : decode bytes pc = .ok (.ifCond .gt off, 3)) (ht : 0 ≤ (pc : Int) + off) (kt : 0 < x → Go X q (tg pc off) ls st I A) (kf : ¬ (0 < x) → Go X q (pc + 3) ls st I A) : Go X q pc ls (.inl x :: st) I A := by
  obtain ⟨p, l, e, R, s, m, args, below, meth, c, Q, D, cy, L, lv, S, nL, i77⟩ := X
  obtain ⟨hx, hb, hml, hown, hts, hK, hSz, hlv, hlk, him⟩ := hX
  intro hI hA hg hst hls H locs la hP hD hS hL
  have hxx : inI x := okS_h hst
  exact lv_if_gt hx hb hd (by unfold tg; omega) (fun h => kt ((oI_lt inI_0 hxx).mp h) hI hA hg (okS_t hst) hls H locs la hP hD hS hL) (fun h => kf (fun z => h ((oI_lt inI_0 hxx).mpr z)) hI hA hg (okS_t hst) hls H locs la hP hD hS hL)

theorem g_icmp_le (hX : Fx X own bytes Ts) {x y : Int} {off : Int} (hd : decode bytes pc = .ok (.if_icmp .le off, 3)) (ht : 0 ≤ (pc : Int) + off) (kt : x ≤ y → Go X q (tg pc off) ls st I A) (kf : ¬ (x ≤ y) → Go X q (pc + 3) ls st I A) : Go X q pc ls (.inl y :: .inl x :: st) I A := by
  obtain ⟨p, l, e, R, s, m, args, below, meth, c, Q, D, cy, L, lv, S, nL, i77⟩ := X
  obtain ⟨hx, hb, hml, hown, hts, hK, hSz, hlv, hlk, him⟩ := hX
  intro hI hA hg hst hls H locs la hP hD hS hL
  have hy : inI y := okS_h hst
  have hxx : inI x := okS_h (okS_t hst)
  exact lv_icmp_le hx hb hd (by unfold tg; omega) (fun h => kt ((oI_le hxx hy).mp h) hI hA hg (okS_t (okS_t hst)) hls H locs la hP hD hS hL) (fun h => kf (fun z => h ((oI_le hxx hy).mpr z)) hI hA hg (okS_t (okS_t hst)) hls H locs la hP hD hS hL)

theorem g_if_le (hX : Fx X own bytes Ts) {x : Int} {off : Int} (hd : decode bytes pc = .ok (.ifCond .le off, 3)) (ht : 0 ≤ (pc : Int) + off) (kt : x ≤ 0 → Go X q (tg pc off) ls st I A) (kf : ¬ (x ≤ 0) → Go X q (pc + 3) ls st I A) : Go X q pc ls (.inl x :: st) I A := by
  obtain ⟨p, l, e, R, s, m, args, below, meth, c, Q, D, cy, L, lv, S, nL, i77⟩ := X
  obtain ⟨hx, hb, hml, hown, hts, hK, hSz, hlv, hlk, him⟩ := hX
  intro hI hA hg hst hls H locs la hP hD hS hL
  have hxx : inI x := okS_h hst
  exact lv_if_le hx hb hd (by unfold tg; omega) (fun h => kt ((oI_le hxx inI_0).mp h) hI hA hg (okS_t hst) hls H locs la hP hD hS hL) (fun h => kf (fun z => h ((oI_le hxx inI_0).mpr z)) hI hA hg (okS_t hst) hls H locs la hP hD hS hL)

theorem g_tsw (hX : Fx X own bytes Ts) {x : Int} {d lo hi : Int} {offs : Array Int} {len : Nat} (hd : decode bytes pc = .ok (.tableswitch d lo hi offs, len)) (ht : 0 ≤ (pc : Int) + d) (hn : ∀ (i : Nat) (o : Int), offs[i]? = some o → 0 ≤ (pc : Int) + o) (hs : (offs.size : Int) = hi - lo + 1) (kd : x < lo ∨ hi < x → Go X q (tg pc d) ls st I A) (ki : ∀ (i : Nat) (o : Int), offs[i]? = some o → x = lo + i → Go X q (tg pc o) ls st I A) : Go X q pc ls (.inl x :: st) I A := by
  obtain ⟨p, l, e, R, s, m, args, below, meth, c, Q, D, cy, L, lv, S, nL, i77⟩ := X
  obtain ⟨hx, hb, hml, hown, hts, hK, hSz, hlv, hlk, him⟩ := hX
  intro hI hA hg hst hls H locs la hP hD hS hL
  have hxx : inI x := okS_h hst
  by_cases h : x < lo ∨ hi < x
  · exact lv_tableOut hx hb hd (by rw [oI_toInt hxx]; exact h) (by unfold tg; omega) (kd h hI hA hg (okS_t hst) hls H locs la hP hD hS hL)
  · have h1 : ¬ x < lo := fun z => h (Or.inl z)
    have h2 : ¬ hi < x := fun z => h (Or.inr z)
    have hlt : (x - lo).toNat < offs.size := by omega
    have ho : offs[(x - lo).toNat]? = some offs[(x - lo).toNat] := Array.getElem?_eq_getElem hlt
    have hp := hn _ _ ho
    exact lv_tableIn hx hb hd (by rw [oI_toInt hxx]; exact h1) (by rw [oI_toInt hxx]; exact h2) (by rw [oI_toInt hxx]; exact ho) (by unfold tg; omega) (ki _ _ ho (by omega) hI hA hg (okS_t hst) hls H locs la hP hD hS hL)

end G
