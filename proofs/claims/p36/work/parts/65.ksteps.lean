/-! ===== steps over the constants ===== -/
section G
variable {X : Cx} {own : String} {bytes : ByteArray} {Ts : List Jvm.Cond} {q : Nat × Nat} {pc : Nat} {ls : Lc} {st : List AV} {I A : FN}
theorem g_dlen {P0 : KP} (hKX : KX P0 X) (hX : Fx X RX7 bytes Ts) (hd : decode bytes pc = .ok (.getstatic 53, 3)) (hd2 : decode bytes (pc + 3) = .ok (.arraylength, 1))
    (kk : Go X q (pc + 4) ls (.inl 11 :: st) I A) : Go X q pc ls st I A := by
  obtain ⟨p, l, e, R, s, m, args, below, meth, c, Q, D, cy, L, lv, S, nL, i77⟩ := X
  obtain ⟨hx, hb, hml, hown, hts, hK, hSz, hlv, hlk, him⟩ := hX
  obtain ⟨⟨h1, h2, -⟩, hN⟩ : KH P0 S s s.heap ∧ KN s := hKX
  intro hI hA hg hst hls H locs la hP hD hS hL
  refine va_getsN hx hb h1 hS hown (va_Nw.use rfl hN) (fun _ h9 => h9) hd ?_
  refine va_tlen hx hb h2 hS (v := 11) rfl hd2 ?_
  exact kk hI hA hg (okS_c hst ⟨by omega, by omega⟩) hls H locs la hP hD hS hL
theorem vp_in_n {i : Int} {N : Nat} (h0 : 0 ≤ i) (h1 : i < N) (hN : N < 2147483648) : vp_in (oI i) N ∧ (oI i).toNatClampNeg = i.toNat := by
  have e : (oI i).toInt = i := oI_toInt ⟨by omega, by omega⟩
  have e2 : (oI i).toNatClampNeg = i.toNat := by
    show (oI i).toInt.toNat = i.toNat
    rw [e]
  refine ⟨fun h => ?_, e2⟩
  rcases h with h | h
  · have := Int32.lt_iff_toInt_lt.mp h
    rw [e] at this
    have h00 : (0 : Int32).toInt = 0 := rfl
    omega
  · rw [e2] at h
    omega
theorem g_dfld {P0 : KP} (hKX : KX P0 X) (hX : Fx X RX7 bytes Ts) {n : Fin 4} {fi : Nat} {i v : Int} {nm ty : String} (hl : lget (n : Nat) ls = some (.inl i)) (h0 : 0 ≤ i) (h11 : i < 11) (hv : inI v)
    (hF : ∀ (S : Nat → Prop) (s : State) (H : Heap), KH P0 S s H → va_OF "MovingList$Deed" nm ty (.int (oI v)) (P0.1 i.toNat) S s H)
    (hlk : Jvm.Cond.fieldLink RX7 fi "MovingList$Deed" nm ty ∈ Ts) (hd : decode bytes pc = .ok (.getstatic 53, 3)) (hd2 : decode bytes (pc + 3) = .ok (.iload_n n, 1)) (hd3 : decode bytes (pc + 4) = .ok (.aaload, 1)) (hd4 : decode bytes (pc + 5) = .ok (.getfield fi, 3))
    (kk : Go X q (pc + 8) ls (.inl v :: st) I A) : Go X q pc ls st I A := by
  obtain ⟨p, l, e, R, s, m, args, below, meth, c, Q, D, cy, L, lv, S, nL, i77⟩ := X
  obtain ⟨hx, hb, hml, hown, hts, hK, hSz, hlv, -, him⟩ := hX
  obtain ⟨hKK, hN⟩ : KH P0 S s s.heap ∧ KN s := hKX
  have hOF := hF S s s.heap hKK
  obtain ⟨h1, h2, -⟩ := hKK
  intro hI hA hg hst hls H locs la hP hD hS hL
  obtain ⟨hin, hcl⟩ := vp_in_n h0 (N := 11) (by omega) (by omega)
  refine va_getsN hx hb h1 hS hown (va_Nw.use rfl hN) (fun _ h9 => h9) hd ?_
  refine lv_iload_n hx hb hd2 rfl (hL.get hl) ?_
  refine vb_tq hx hb h2 hS hin (v := .ref (P0.1 i.toNat)) (by rw [hcl]) hd3 ?_
  refine vk_getf hx hb hOF hS hown (hts _ hlk) (fun _ h9 => h9) hd4 ?_
  exact kk hI hA hg (okS_c hst hv) hls H locs la hP hD hS hL
theorem d11 {i : Int} (h0 : 0 ≤ i) (h11 : i < 11) : i = 0 ∨ i = 1 ∨ i = 2 ∨ i = 3 ∨ i = 4 ∨ i = 5 ∨ i = 6 ∨ i = 7 ∨ i = 8 ∨ i = 9 ∨ i = 10 := by omega
def dN (i : Int) : Int := (dNum.getD i.toNat 0).toInt
def dL (i : Int) : Int := (dLet.getD i.toNat 0).toInt
theorem dN_le (i : Int) : 0 ≤ dN i ∧ dN i ≤ 3 := by
  by_cases h : 0 ≤ i ∧ i < 11
  · rcases d11 h.1 h.2 with rfl | rfl | rfl | rfl | rfl | rfl | rfl | rfl | rfl | rfl | rfl <;> decide
  · by_cases h0 : i < 0
    · have : i.toNat = 0 := by omega
      unfold dN; rw [this]; decide
    · unfold dN
      rw [List.getD_eq_getElem?_getD, List.getElem?_eq_none (l := dNum) (show 11 ≤ i.toNat by omega)]
      decide
theorem dL_01 (i : Int) : dL i = 0 ∨ dL i = 1 := by
  by_cases h : 0 ≤ i ∧ i < 11
  · rcases d11 h.1 h.2 with rfl | rfl | rfl | rfl | rfl | rfl | rfl | rfl | rfl | rfl | rfl <;> decide
  · by_cases h0 : i < 0
    · have : i.toNat = 0 := by omega
      unfold dL; rw [this]; decide
    · unfold dL
      rw [List.getD_eq_getElem?_getD, List.getElem?_eq_none (l := dLet) (show 11 ≤ i.toNat by omega)]
      decide
theorem dNL {i : Int} (h0 : 0 ≤ i) (h11 : i < 11) : dN i + dL i ≤ 3 := by
  rcases d11 h0 h11 with rfl | rfl | rfl | rfl | rfl | rfl | rfl | rfl | rfl | rfl | rfl <;> decide
theorem oI_toI (v : Int32) : oI v.toInt = v := Int32.ofInt_toInt v
theorem g_dnum {P0 : KP} (hKX : KX P0 X) (hX : Fx X RX7 bytes Ts) {n : Fin 4} {i : Int} (hl : lget (n : Nat) ls = some (.inl i)) (h0 : 0 ≤ i) (h11 : i < 11)
    (hlk : Jvm.Cond.fieldLink RX7 57 "MovingList$Deed" "numbers" "I" ∈ Ts) (hd : decode bytes pc = .ok (.getstatic 53, 3)) (hd2 : decode bytes (pc + 3) = .ok (.iload_n n, 1)) (hd3 : decode bytes (pc + 4) = .ok (.aaload, 1)) (hd4 : decode bytes (pc + 5) = .ok (.getfield 57, 3))
    (kk : Go X q (pc + 8) ls (.inl (dN i) :: st) I A) : Go X q pc ls st I A :=
  g_dfld hKX hX hl h0 h11 ⟨by have := dN_le i; omega, by have := dN_le i; omega⟩ (fun S s H h => by
    unfold dN; rw [oI_toI]; exact (h.2.2.1 i.toNat (by omega)).2.1) hlk hd hd2 hd3 hd4 kk
theorem g_dlet {P0 : KP} (hKX : KX P0 X) (hX : Fx X RX7 bytes Ts) {n : Fin 4} {i : Int} (hl : lget (n : Nat) ls = some (.inl i)) (h0 : 0 ≤ i) (h11 : i < 11)
    (hlk : Jvm.Cond.fieldLink RX7 66 "MovingList$Deed" "letter" "Z" ∈ Ts) (hd : decode bytes pc = .ok (.getstatic 53, 3)) (hd2 : decode bytes (pc + 3) = .ok (.iload_n n, 1)) (hd3 : decode bytes (pc + 4) = .ok (.aaload, 1)) (hd4 : decode bytes (pc + 5) = .ok (.getfield 66, 3))
    (kk : Go X q (pc + 8) ls (.inl (dL i) :: st) I A) : Go X q pc ls st I A :=
  g_dfld hKX hX hl h0 h11 ⟨by rcases dL_01 i with h | h <;> omega, by rcases dL_01 i with h | h <;> omega⟩ (fun S s H h => by
    unfold dL; rw [oI_toI]; exact (h.2.2.1 i.toNat (by omega)).2.2.1) hlk hd hd2 hd3 hd4 kk
end G
