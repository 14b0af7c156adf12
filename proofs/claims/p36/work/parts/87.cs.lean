/-! ===== the law's cases ===== -/
theorem b01 {i : Int} (h0 : 0 ≤ i) (h1 : i ≤ 1) : i = 0 ∨ i = 1 := by omega
theorem REL_sites {I A J I' A' J' : FN} {n : Int} (h : REL I A J) (q : I' 0 7 = I 0 7 ∧ I' 77 = I 77 ∧ ((2 ≤ n ∧ n ≤ 5) → A' 78 0 = 0 ∧ A' 78 1 = 0) ∧ (¬ (2 ≤ n ∧ n ≤ 5) → A' 78 = A 78)) (f : J' 300 17 = J 300 17 ∧ ((2 ≤ n ∧ n ≤ 5) → J' 300 3 = 0) ∧ (¬ (2 ≤ n ∧ n ≤ 5) → J' 300 3 = J 300 3)) : REL I' A' J' := by
  obtain ⟨h1, h2⟩ := h
  refine ⟨by rw [q.1, f.1]; exact h1, fun i a b => ?_⟩
  by_cases hn : 2 ≤ n ∧ n ≤ 5
  · obtain ⟨e0, e1⟩ := q.2.2.1 hn
    rw [f.2.1 hn]
    rcases b01 a b with rfl | rfl
    · constructor
      · intro z; exact absurd e0 z.1
      · intro z; unfold bitB at z; omega
    · constructor
      · intro z; exact absurd e1 z.1
      · intro z; unfold bitB at z; omega
  · rw [q.2.1, q.2.2.2 hn, f.2.2 hn]
    exact h2 i a b
theorem REL_feed {I A J I' A' J' : FN} {x y : Int} (h : REL I A J) (q : I' 77 = I 77 ∧ A' 78 = A 78 ∧ ((I 0 7 + 20 ≤ 400 ∧ x = I 0 7 + 20 ∧ I' 0 7 = I 0 7 + 20) ∨ (400 < I 0 7 + 20 ∧ x = -1 ∧ I' 0 7 = I 0 7))) (f : J' 300 3 = J 300 3 ∧ ((J 300 17 + 20 ≤ 400 ∧ y = J 300 17 + 20 ∧ J' 300 17 = J 300 17 + 20) ∨ (400 < J 300 17 + 20 ∧ y = -1 ∧ J' 300 17 = J 300 17))) : REL I' A' J' := by
  obtain ⟨h1, h2⟩ := h
  exact ⟨by rcases q.2.2 with z | z <;> rcases f.2 with w | w <;> omega, fun i a b => by rw [q.1, q.2.1, f.1]; exact h2 i a b⟩
theorem REL_script {I A J I' A' J' : FN} {n : Int} (h : REL I A J) (q : I' 77 = I 77 ∧ A' 78 = A 78 ∧ ((0 ≤ n ∧ n ≤ I 0 7) → I' 0 7 = 0) ∧ (¬ (0 ≤ n ∧ n ≤ I 0 7) → I' 0 7 = I 0 7)) (f : J' 300 3 = J 300 3 ∧ ((0 ≤ n ∧ n ≤ J 300 17) → J' 300 17 = 0) ∧ (¬ (0 ≤ n ∧ n ≤ J 300 17) → J' 300 17 = J 300 17)) : REL I' A' J' := by
  obtain ⟨h1, h2⟩ := h
  refine ⟨?_, fun i a b => by rw [q.1, q.2.1, f.1]; exact h2 i a b⟩
  by_cases hn : 0 ≤ n ∧ n ≤ I 0 7
  · rw [q.2.2.1 hn, f.2.1 (by rw [← h1]; exact hn)]
  · rw [q.2.2.2 hn, f.2.2 (by rw [← h1]; exact hn)]
    exact h1
theorem REL_image {I A J I' A' J' : FN} {x i : Int} (h : REL I A J) (q : IMQ i I A x I' A') (f : J' 300 17 = J 300 17 ∧ ((0 ≤ i ∧ i ≤ 1) → J' 300 3 = orB (J 300 3) i) ∧ (¬ (0 ≤ i ∧ i ≤ 1) → J' 300 3 = J 300 3)) (hb : J 300 3 = 0 ∨ J 300 3 = 1 ∨ J 300 3 = 2 ∨ J 300 3 = 3) : REL I' A' J' := by
  obtain ⟨h1, h2⟩ := h
  obtain ⟨-, -, q3, q4, q5⟩ := q
  refine ⟨by rw [q3, f.1]; exact h1, fun k a b => ?_⟩
  by_cases hi : 0 ≤ i ∧ i ≤ 1
  · obtain ⟨u, v, w⟩ := q4 ⟨hi.1, by omega⟩
    rw [f.2.1 hi]
    by_cases e : k = i
    · subst e
      constructor
      · intro _
        rcases b01 a b with rfl | rfl <;> rcases hb with z | z | z | z <;> rw [z] <;> unfold orB bitB <;> simp
      · intro _
        exact ⟨by rw [w]; omega, v⟩
    · obtain ⟨u1, u2⟩ := u k.toNat (by omega)
      rw [u1, u2, h2 k a b]
      rcases b01 a b with rfl | rfl <;> rcases b01 hi.1 hi.2 with rfl | rfl
      · exact absurd rfl e
      · rcases hb with z | z | z | z <;> rw [z] <;> unfold orB bitB <;> simp
      · rcases hb with z | z | z | z <;> rw [z] <;> unfold orB bitB <;> simp
      · exact absurd rfl e
  · obtain ⟨u, v⟩ := q5 (by omega)
    rw [u, v, f.2.2 hi]
    exact h2 k a b
section CS
variable {p : Program} {l : Launch} {e : Env} {s : State} {m : MethodId} {args : Array Value} {below : List Frame} {meth : Method} {c : Code} {H : Heap} {locs : List Loc} {cells slots : Nat} {Qf : State → Prop} {D : va_G} {cy : Nat → ClassId} {S : Nat → Prop} {P0 : KP} {T : Nat × Nat} {b Lx : Nat} {xs : Nat → Int32} {cL : ClassId} {ao pc : Nat} {la : Array Slot} {rest : List Value} {L : Nat → Nat} {lv : List Nat} {I A : FN} {M : Nat → Nat} {J B : FN} {g : Nat → Int64} {i : Int}
theorem cs_200 (hF : LFx p l s m args c D cy S P0 T b Lx xs cL) (hH : LH D cy S ao cL H L lv I A M J B g) (hC : CI I A) (hMI : MI J B) (hRel : REL I A J) (hS : va_S S s.heap H locs) (hl : lv_has la 7 [(4, .int (oI i)), (3, .ref ao), (2, .ref (M 300)), (1, .ref (L 0)), (0, .ref b)]) (hi0 : 0 ≤ i) (hi6 : i + 6 ≤ Lx) (hLx : Lx ≤ 3072) (hcc : cells ≤ 580000 ∧ slots ≤ 7230000)
    (kk : ∀ (cells' slots' : Nat) (L' : Nat → Nat) (lv' : List Nat) (I' A' J' B' : FN) (g' : Nat → Int64) (H1 : Heap) (locs1 : List Loc) (la' : Array Slot), L' 0 = L 0 → LH D cy S ao cL H1 L' lv' I' A' M J' B' g' → CI I' A' → MI J' B' → REL I' A' J' → va_S S s.heap H1 locs1 → lv_has la' 7 [(4, .int (oI i)), (3, .ref ao), (2, .ref (M 300)), (1, .ref (L 0)), (0, .ref b)] → cells' + 11 * (J' 300 17).toNat ≤ cells + 11 * (J 300 17).toNat + 700 → slots' + 77 * (J' 300 17).toNat ≤ slots + 77 * (J 300 17).toNat + 14000 → W p l e room_1 s m args below meth c H1 locs1 cells' slots' Qf (F0 m 1547 la' [])) :
    W p l e room_1 s m args below meth c H locs cells slots Qf (F0 m 200 la []) := by
  have hF0 := hF
  obtain ⟨⟨hx, hb, hml, hown, hts⟩, -, -, -, ⟨hX, hbl, hbS⟩, -⟩ := hF0
  have hla : la.size = 7 := hl.1
  have g0 := lv_at hl 4 rfl
  have g4 := lv_at hl 0 rfl
  have tp := hMI.tp
  refine lv_aload_n hx hb dL_law_200 rfl (lv_at hl 3 rfl) ?_
  refine law_arg (k := 1) hx hb hX hbl hbS hS g0 g4 hi0 (by omega) hLx dL_law_201 dL_law_202 dL_law_204 dL_law_205 dL_law_206 ?_
  refine law_C hF hH hS c_X9_sites (by decide) (by decide) (gdV (mW16 (List.mem_of_getElem? (i := 12) rfl)) (mW16 (List.mem_of_getElem? (i := 13) rfl)) (mW16 (List.mem_of_getElem? (i := 14) rfl)) (mW0 (List.mem_of_getElem? (i := 24) rfl)) (mW5 (List.mem_of_getElem? (i := 56) rfl))) rfl (n := 1) (by decide +kernel) (as' := [.inl (xi xs i 1)]) (okS_c (fun v hv => absurd hv List.not_mem_nil) xi_in) ⟨_, rfl, hC⟩ rfl hla (by simp [Value.category]) ⟨by omega, by omega⟩ dL_law_207 ?_
  intro x1 I1 A1 H1 locs1 hx1 hQ1 h77 hH hS
  rw [Q_X9_sites_c] at hQ1
  have hC1 : CI I1 A1 := hQ1.2.1
  refine lv_pop hx hb dL_law_210 rfl ?_
  refine lv_aload_n hx hb dL_law_211 rfl (lv_at hl 2 rfl) ?_
  refine law_arg (k := 1) hx hb hX hbl hbS hS g0 g4 hi0 (by omega) hLx dL_law_212 dL_law_213 dL_law_215 dL_law_216 dL_law_217 ?_
  refine law_R hF hH hS c_X10_sites (by decide) (by decide) (gdV (mW16 (List.mem_of_getElem? (i := 15) rfl)) (mW16 (List.mem_of_getElem? (i := 16) rfl)) (mW16 (List.mem_of_getElem? (i := 17) rfl)) (mW10 (List.mem_of_getElem? (i := 20) rfl)) (mW10 (List.mem_of_getElem? (i := 22) rfl))) rfl (n := 1) (by decide +kernel) (as' := [.inl (xi xs i 1)]) (okS_c (fun v hv => absurd hv List.not_mem_nil) xi_in) ⟨_, rfl, hMI⟩ rfl hla (by simp [Value.category]) ⟨by show _ + 0 ≤ _; omega, by show _ + 0 ≤ _; omega⟩ dL_law_218 ?_
  intro x2 J1 B1 H2 locs2 hx2 hQ2 hH hS
  rw [Q_X10_sites_c] at hQ2
  have hM1 : MI J1 B1 := hQ2.2.1
  refine lv_pop hx hb dL_law_221 rfl ?_
  refine lv_goto hx hb (tgt := 1547) dL_law_222 rfl ?_
  exact kk cells slots L lv I1 A1 J1 B1 g H2 locs2 la rfl hH hC1 hM1 (REL_sites hRel hQ1.2.2 hQ2.2.2) hS hl (by rw [hQ2.2.2.1]; omega) (by rw [hQ2.2.2.1]; omega)
theorem cs_225 (hF : LFx p l s m args c D cy S P0 T b Lx xs cL) (hH : LH D cy S ao cL H L lv I A M J B g) (hC : CI I A) (hMI : MI J B) (hRel : REL I A J) (hS : va_S S s.heap H locs) (hl : lv_has la 7 [(4, .int (oI i)), (3, .ref ao), (2, .ref (M 300)), (1, .ref (L 0)), (0, .ref b)]) (hi0 : 0 ≤ i) (hi6 : i + 6 ≤ Lx) (hLx : Lx ≤ 3072) (hcc : cells ≤ 580000 ∧ slots ≤ 7230000)
    (kk : ∀ (cells' slots' : Nat) (L' : Nat → Nat) (lv' : List Nat) (I' A' J' B' : FN) (g' : Nat → Int64) (H1 : Heap) (locs1 : List Loc) (la' : Array Slot), L' 0 = L 0 → LH D cy S ao cL H1 L' lv' I' A' M J' B' g' → CI I' A' → MI J' B' → REL I' A' J' → va_S S s.heap H1 locs1 → lv_has la' 7 [(4, .int (oI i)), (3, .ref ao), (2, .ref (M 300)), (1, .ref (L 0)), (0, .ref b)] → cells' + 11 * (J' 300 17).toNat ≤ cells + 11 * (J 300 17).toNat + 700 → slots' + 77 * (J' 300 17).toNat ≤ slots + 77 * (J 300 17).toNat + 14000 → W p l e room_1 s m args below meth c H1 locs1 cells' slots' Qf (F0 m 1547 la' [])) :
    W p l e room_1 s m args below meth c H locs cells slots Qf (F0 m 225 la []) := by
  have hF0 := hF
  obtain ⟨⟨hx, hb, hml, hown, hts⟩, -, -, -, ⟨hX, hbl, hbS⟩, -⟩ := hF0
  have hla : la.size = 7 := hl.1
  have g0 := lv_at hl 4 rfl
  have g4 := lv_at hl 0 rfl
  have tp := hMI.tp
  refine lv_aload_n hx hb dL_law_225 rfl (lv_at hl 3 rfl) ?_
  refine law_arg (k := 1) hx hb hX hbl hbS hS g0 g4 hi0 (by omega) hLx dL_law_226 dL_law_227 dL_law_229 dL_law_230 dL_law_231 ?_
  refine law_arg (k := 2) hx hb hX hbl hbS hS g0 g4 hi0 (by omega) hLx dL_law_232 dL_law_233 dL_law_235 dL_law_236 dL_law_237 ?_
  refine law_arg (k := 3) hx hb hX hbl hbS hS g0 g4 hi0 (by omega) hLx dL_law_238 dL_law_239 dL_law_241 dL_law_242 dL_law_243 ?_
  refine law_C hF hH hS c_X9_insert (by decide) (by decide) (gdV (mW16 (List.mem_of_getElem? (i := 18) rfl)) (mW7 (List.mem_of_getElem? (i := 13) rfl)) (mW7 (List.mem_of_getElem? (i := 14) rfl)) (mW0 (List.mem_of_getElem? (i := 24) rfl)) (mW6 (List.mem_of_getElem? (i := 17) rfl))) rfl (n := 3) (by decide +kernel) (as' := [.inl (xi xs i 1), .inl (xi xs i 2), .inl (xi xs i 3)]) (okS_c (okS_c (okS_c (fun v hv => absurd hv List.not_mem_nil) xi_in) xi_in) xi_in) ⟨_, _, _, rfl, hC⟩ rfl hla (by simp [Value.category]) ⟨by omega, by omega⟩ dL_law_244 ?_
  intro x1 I1 A1 H1 locs1 hx1 hQ1 h77 hH hS
  rw [Q_X9_insert_c] at hQ1
  have hcq : CQ I A I1 A1 := hQ1
  have hC1 : CI I1 A1 := hcq.1
  refine lv_pop hx hb dL_law_247 rfl ?_
  refine lv_aload_n hx hb dL_law_248 rfl (lv_at hl 2 rfl) ?_
  refine law_arg (k := 1) hx hb hX hbl hbS hS g0 g4 hi0 (by omega) hLx dL_law_249 dL_law_250 dL_law_252 dL_law_253 dL_law_254 ?_
  refine law_arg (k := 2) hx hb hX hbl hbS hS g0 g4 hi0 (by omega) hLx dL_law_255 dL_law_256 dL_law_258 dL_law_259 dL_law_260 ?_
  refine law_arg (k := 3) hx hb hX hbl hbS hS g0 g4 hi0 (by omega) hLx dL_law_261 dL_law_262 dL_law_264 dL_law_265 dL_law_266 ?_
  refine law_R hF hH hS c_X10_insert (by decide) (by decide) (gdV (mW16 (List.mem_of_getElem? (i := 19) rfl)) (mW14 (List.mem_of_getElem? (i := 11) rfl)) (mW14 (List.mem_of_getElem? (i := 12) rfl)) (mW10 (List.mem_of_getElem? (i := 20) rfl)) (mW11 (List.mem_of_getElem? (i := 61) rfl))) rfl (n := 3) (by decide +kernel) (as' := [.inl (xi xs i 1), .inl (xi xs i 2), .inl (xi xs i 3)]) (okS_c (okS_c (okS_c (fun v hv => absurd hv List.not_mem_nil) xi_in) xi_in) xi_in) ⟨_, _, _, rfl, hMI⟩ rfl hla (by simp [Value.category]) ⟨by show _ + 0 ≤ _; omega, by show _ + 0 ≤ _; omega⟩ dL_law_267 ?_
  intro x2 J1 B1 H2 locs2 hx2 hQ2 hH hS
  rw [Q_X10_insert_c] at hQ2
  have hM1 : MI J1 B1 := hQ2.1
  have hfm : Fm J J1 := hQ2.2
  refine lv_pop hx hb dL_law_270 rfl ?_
  refine lv_goto hx hb (tgt := 1547) dL_law_271 rfl ?_
  exact kk cells slots L lv I1 A1 J1 B1 g H2 locs2 la rfl hH hC1 hM1 (REL_q hRel hcq hfm) hS hl (by rw [Fm_t hfm]; omega) (by rw [Fm_t hfm]; omega)
theorem cs_274 (hF : LFx p l s m args c D cy S P0 T b Lx xs cL) (hH : LH D cy S ao cL H L lv I A M J B g) (hC : CI I A) (hMI : MI J B) (hRel : REL I A J) (hS : va_S S s.heap H locs) (hl : lv_has la 7 [(4, .int (oI i)), (3, .ref ao), (2, .ref (M 300)), (1, .ref (L 0)), (0, .ref b)]) (hi0 : 0 ≤ i) (hi6 : i + 6 ≤ Lx) (hLx : Lx ≤ 3072) (hcc : cells ≤ 580000 ∧ slots ≤ 7230000)
    (kk : ∀ (cells' slots' : Nat) (L' : Nat → Nat) (lv' : List Nat) (I' A' J' B' : FN) (g' : Nat → Int64) (H1 : Heap) (locs1 : List Loc) (la' : Array Slot), L' 0 = L 0 → LH D cy S ao cL H1 L' lv' I' A' M J' B' g' → CI I' A' → MI J' B' → REL I' A' J' → va_S S s.heap H1 locs1 → lv_has la' 7 [(4, .int (oI i)), (3, .ref ao), (2, .ref (M 300)), (1, .ref (L 0)), (0, .ref b)] → cells' + 11 * (J' 300 17).toNat ≤ cells + 11 * (J 300 17).toNat + 700 → slots' + 77 * (J' 300 17).toNat ≤ slots + 77 * (J 300 17).toNat + 14000 → W p l e room_1 s m args below meth c H1 locs1 cells' slots' Qf (F0 m 1547 la' [])) :
    W p l e room_1 s m args below meth c H locs cells slots Qf (F0 m 274 la []) := by
  have hF0 := hF
  obtain ⟨⟨hx, hb, hml, hown, hts⟩, -, -, -, ⟨hX, hbl, hbS⟩, -⟩ := hF0
  have hla : la.size = 7 := hl.1
  have g0 := lv_at hl 4 rfl
  have g4 := lv_at hl 0 rfl
  have tp := hMI.tp
  refine lv_aload_n hx hb dL_law_274 rfl (lv_at hl 3 rfl) ?_
  refine law_arg (k := 1) hx hb hX hbl hbS hS g0 g4 hi0 (by omega) hLx dL_law_275 dL_law_276 dL_law_278 dL_law_279 dL_law_280 ?_
  refine law_arg (k := 2) hx hb hX hbl hbS hS g0 g4 hi0 (by omega) hLx dL_law_281 dL_law_282 dL_law_284 dL_law_285 dL_law_286 ?_
  refine law_arg (k := 3) hx hb hX hbl hbS hS g0 g4 hi0 (by omega) hLx dL_law_287 dL_law_288 dL_law_290 dL_law_291 dL_law_292 ?_
  refine law_C hF hH hS c_X9_move (by decide) (by decide) (gdV (mW16 (List.mem_of_getElem? (i := 20) rfl)) (mW7 (List.mem_of_getElem? (i := 16) rfl)) (mW7 (List.mem_of_getElem? (i := 17) rfl)) (mW0 (List.mem_of_getElem? (i := 24) rfl)) (mW6 (List.mem_of_getElem? (i := 18) rfl))) rfl (n := 3) (by decide +kernel) (as' := [.inl (xi xs i 1), .inl (xi xs i 2), .inl (xi xs i 3)]) (okS_c (okS_c (okS_c (fun v hv => absurd hv List.not_mem_nil) xi_in) xi_in) xi_in) ⟨_, _, _, rfl, hC⟩ rfl hla (by simp [Value.category]) ⟨by omega, by omega⟩ dL_law_293 ?_
  intro x1 I1 A1 H1 locs1 hx1 hQ1 h77 hH hS
  rw [Q_X9_move_c] at hQ1
  have hcq : CQ I A I1 A1 := hQ1
  have hC1 : CI I1 A1 := hcq.1
  refine lv_pop hx hb dL_law_296 rfl ?_
  refine lv_aload_n hx hb dL_law_297 rfl (lv_at hl 2 rfl) ?_
  refine law_arg (k := 1) hx hb hX hbl hbS hS g0 g4 hi0 (by omega) hLx dL_law_298 dL_law_299 dL_law_301 dL_law_302 dL_law_303 ?_
  refine law_arg (k := 2) hx hb hX hbl hbS hS g0 g4 hi0 (by omega) hLx dL_law_304 dL_law_305 dL_law_307 dL_law_308 dL_law_309 ?_
  refine law_arg (k := 3) hx hb hX hbl hbS hS g0 g4 hi0 (by omega) hLx dL_law_310 dL_law_311 dL_law_313 dL_law_314 dL_law_315 ?_
  refine law_R hF hH hS c_X10_move (by decide) (by decide) (gdV (mW16 (List.mem_of_getElem? (i := 21) rfl)) (mW14 (List.mem_of_getElem? (i := 14) rfl)) (mW14 (List.mem_of_getElem? (i := 15) rfl)) (mW10 (List.mem_of_getElem? (i := 20) rfl)) (mW12 (List.mem_of_getElem? (i := 1) rfl))) rfl (n := 3) (by decide +kernel) (as' := [.inl (xi xs i 1), .inl (xi xs i 2), .inl (xi xs i 3)]) (okS_c (okS_c (okS_c (fun v hv => absurd hv List.not_mem_nil) xi_in) xi_in) xi_in) ⟨_, _, _, rfl, hMI⟩ rfl hla (by simp [Value.category]) ⟨by show _ + 0 ≤ _; omega, by show _ + 0 ≤ _; omega⟩ dL_law_316 ?_
  intro x2 J1 B1 H2 locs2 hx2 hQ2 hH hS
  rw [Q_X10_move_c] at hQ2
  have hM1 : MI J1 B1 := hQ2.1
  have hfm : Fm J J1 := hQ2.2
  refine lv_pop hx hb dL_law_319 rfl ?_
  refine lv_goto hx hb (tgt := 1547) dL_law_320 rfl ?_
  exact kk cells slots L lv I1 A1 J1 B1 g H2 locs2 la rfl hH hC1 hM1 (REL_q hRel hcq hfm) hS hl (by rw [Fm_t hfm]; omega) (by rw [Fm_t hfm]; omega)
theorem cs_323 (hF : LFx p l s m args c D cy S P0 T b Lx xs cL) (hH : LH D cy S ao cL H L lv I A M J B g) (hC : CI I A) (hMI : MI J B) (hRel : REL I A J) (hS : va_S S s.heap H locs) (hl : lv_has la 7 [(4, .int (oI i)), (3, .ref ao), (2, .ref (M 300)), (1, .ref (L 0)), (0, .ref b)]) (hi0 : 0 ≤ i) (hi6 : i + 6 ≤ Lx) (hLx : Lx ≤ 3072) (hcc : cells ≤ 580000 ∧ slots ≤ 7230000)
    (kk : ∀ (cells' slots' : Nat) (L' : Nat → Nat) (lv' : List Nat) (I' A' J' B' : FN) (g' : Nat → Int64) (H1 : Heap) (locs1 : List Loc) (la' : Array Slot), L' 0 = L 0 → LH D cy S ao cL H1 L' lv' I' A' M J' B' g' → CI I' A' → MI J' B' → REL I' A' J' → va_S S s.heap H1 locs1 → lv_has la' 7 [(4, .int (oI i)), (3, .ref ao), (2, .ref (M 300)), (1, .ref (L 0)), (0, .ref b)] → cells' + 11 * (J' 300 17).toNat ≤ cells + 11 * (J 300 17).toNat + 700 → slots' + 77 * (J' 300 17).toNat ≤ slots + 77 * (J 300 17).toNat + 14000 → W p l e room_1 s m args below meth c H1 locs1 cells' slots' Qf (F0 m 1547 la' [])) :
    W p l e room_1 s m args below meth c H locs cells slots Qf (F0 m 323 la []) := by
  have hF0 := hF
  obtain ⟨⟨hx, hb, hml, hown, hts⟩, -, -, -, ⟨hX, hbl, hbS⟩, -⟩ := hF0
  have hla : la.size = 7 := hl.1
  have g0 := lv_at hl 4 rfl
  have g4 := lv_at hl 0 rfl
  have tp := hMI.tp
  refine lv_aload_n hx hb dL_law_323 rfl (lv_at hl 3 rfl) ?_
  refine law_arg (k := 1) hx hb hX hbl hbS hS g0 g4 hi0 (by omega) hLx dL_law_324 dL_law_325 dL_law_327 dL_law_328 dL_law_329 ?_
  refine law_arg (k := 2) hx hb hX hbl hbS hS g0 g4 hi0 (by omega) hLx dL_law_330 dL_law_331 dL_law_333 dL_law_334 dL_law_335 ?_
  refine law_C hF hH hS c_X9_drop (by decide) (by decide) (gdV (mW16 (List.mem_of_getElem? (i := 22) rfl)) (mW7 (List.mem_of_getElem? (i := 19) rfl)) (mW7 (List.mem_of_getElem? (i := 20) rfl)) (mW0 (List.mem_of_getElem? (i := 24) rfl)) (mW6 (List.mem_of_getElem? (i := 23) rfl))) rfl (n := 2) (by decide +kernel) (as' := [.inl (xi xs i 1), .inl (xi xs i 2)]) (okS_c (okS_c (fun v hv => absurd hv List.not_mem_nil) xi_in) xi_in) ⟨_, _, rfl, hC⟩ rfl hla (by simp [Value.category]) ⟨by omega, by omega⟩ dL_law_336 ?_
  intro x1 I1 A1 H1 locs1 hx1 hQ1 h77 hH hS
  rw [Q_X9_drop_c] at hQ1
  have hcq : CQ I A I1 A1 := hQ1
  have hC1 : CI I1 A1 := hcq.1
  refine lv_pop hx hb dL_law_339 rfl ?_
  refine lv_aload_n hx hb dL_law_340 rfl (lv_at hl 2 rfl) ?_
  refine law_arg (k := 1) hx hb hX hbl hbS hS g0 g4 hi0 (by omega) hLx dL_law_341 dL_law_342 dL_law_344 dL_law_345 dL_law_346 ?_
  refine law_arg (k := 2) hx hb hX hbl hbS hS g0 g4 hi0 (by omega) hLx dL_law_347 dL_law_348 dL_law_350 dL_law_351 dL_law_352 ?_
  refine law_R hF hH hS c_X10_drop (by decide) (by decide) (gdV (mW16 (List.mem_of_getElem? (i := 23) rfl)) (mW14 (List.mem_of_getElem? (i := 17) rfl)) (mW14 (List.mem_of_getElem? (i := 18) rfl)) (mW10 (List.mem_of_getElem? (i := 20) rfl)) (mW12 (List.mem_of_getElem? (i := 2) rfl))) rfl (n := 2) (by decide +kernel) (as' := [.inl (xi xs i 1), .inl (xi xs i 2)]) (okS_c (okS_c (fun v hv => absurd hv List.not_mem_nil) xi_in) xi_in) ⟨_, _, rfl, hMI⟩ rfl hla (by simp [Value.category]) ⟨by show _ + 0 ≤ _; omega, by show _ + 0 ≤ _; omega⟩ dL_law_353 ?_
  intro x2 J1 B1 H2 locs2 hx2 hQ2 hH hS
  rw [Q_X10_drop_c] at hQ2
  have hM1 : MI J1 B1 := hQ2.1
  have hfm : Fm J J1 := hQ2.2
  refine lv_pop hx hb dL_law_356 rfl ?_
  refine lv_goto hx hb (tgt := 1547) dL_law_357 rfl ?_
  exact kk cells slots L lv I1 A1 J1 B1 g H2 locs2 la rfl hH hC1 hM1 (REL_q hRel hcq hfm) hS hl (by rw [Fm_t hfm]; omega) (by rw [Fm_t hfm]; omega)
theorem cs_360 (hF : LFx p l s m args c D cy S P0 T b Lx xs cL) (hH : LH D cy S ao cL H L lv I A M J B g) (hC : CI I A) (hMI : MI J B) (hRel : REL I A J) (hS : va_S S s.heap H locs) (hl : lv_has la 7 [(4, .int (oI i)), (3, .ref ao), (2, .ref (M 300)), (1, .ref (L 0)), (0, .ref b)]) (hi0 : 0 ≤ i) (hi6 : i + 6 ≤ Lx) (hLx : Lx ≤ 3072) (hcc : cells ≤ 580000 ∧ slots ≤ 7230000)
    (kk : ∀ (cells' slots' : Nat) (L' : Nat → Nat) (lv' : List Nat) (I' A' J' B' : FN) (g' : Nat → Int64) (H1 : Heap) (locs1 : List Loc) (la' : Array Slot), L' 0 = L 0 → LH D cy S ao cL H1 L' lv' I' A' M J' B' g' → CI I' A' → MI J' B' → REL I' A' J' → va_S S s.heap H1 locs1 → lv_has la' 7 [(4, .int (oI i)), (3, .ref ao), (2, .ref (M 300)), (1, .ref (L 0)), (0, .ref b)] → cells' + 11 * (J' 300 17).toNat ≤ cells + 11 * (J 300 17).toNat + 700 → slots' + 77 * (J' 300 17).toNat ≤ slots + 77 * (J 300 17).toNat + 14000 → W p l e room_1 s m args below meth c H1 locs1 cells' slots' Qf (F0 m 1547 la' [])) :
    W p l e room_1 s m args below meth c H locs cells slots Qf (F0 m 360 la []) := by
  have hF0 := hF
  obtain ⟨⟨hx, hb, hml, hown, hts⟩, -, -, -, ⟨hX, hbl, hbS⟩, -⟩ := hF0
  have hla : la.size = 7 := hl.1
  have g0 := lv_at hl 4 rfl
  have g4 := lv_at hl 0 rfl
  have tp := hMI.tp
  refine lv_aload_n hx hb dL_law_360 rfl (lv_at hl 3 rfl) ?_
  refine law_arg (k := 1) hx hb hX hbl hbS hS g0 g4 hi0 (by omega) hLx dL_law_361 dL_law_362 dL_law_364 dL_law_365 dL_law_366 ?_
  refine law_arg (k := 2) hx hb hX hbl hbS hS g0 g4 hi0 (by omega) hLx dL_law_367 dL_law_368 dL_law_370 dL_law_371 dL_law_372 ?_
  refine law_arg (k := 3) hx hb hX hbl hbS hS g0 g4 hi0 (by omega) hLx dL_law_373 dL_law_374 dL_law_376 dL_law_377 dL_law_378 ?_
  refine law_C hF hH hS c_X9_change (by decide) (by decide) (gdV (mW16 (List.mem_of_getElem? (i := 24) rfl)) (mW7 (List.mem_of_getElem? (i := 22) rfl)) (mW7 (List.mem_of_getElem? (i := 23) rfl)) (mW0 (List.mem_of_getElem? (i := 24) rfl)) (mW6 (List.mem_of_getElem? (i := 24) rfl))) rfl (n := 3) (by decide +kernel) (as' := [.inl (xi xs i 1), .inl (xi xs i 2), .inl (xi xs i 3)]) (okS_c (okS_c (okS_c (fun v hv => absurd hv List.not_mem_nil) xi_in) xi_in) xi_in) ⟨_, _, _, rfl, hC⟩ rfl hla (by simp [Value.category]) ⟨by omega, by omega⟩ dL_law_379 ?_
  intro x1 I1 A1 H1 locs1 hx1 hQ1 h77 hH hS
  rw [Q_X9_change_c] at hQ1
  have hcq : CQ I A I1 A1 := hQ1
  have hC1 : CI I1 A1 := hcq.1
  refine lv_pop hx hb dL_law_382 rfl ?_
  refine lv_aload_n hx hb dL_law_383 rfl (lv_at hl 2 rfl) ?_
  refine law_arg (k := 1) hx hb hX hbl hbS hS g0 g4 hi0 (by omega) hLx dL_law_384 dL_law_385 dL_law_387 dL_law_388 dL_law_389 ?_
  refine law_arg (k := 2) hx hb hX hbl hbS hS g0 g4 hi0 (by omega) hLx dL_law_390 dL_law_391 dL_law_393 dL_law_394 dL_law_395 ?_
  refine law_arg (k := 3) hx hb hX hbl hbS hS g0 g4 hi0 (by omega) hLx dL_law_396 dL_law_397 dL_law_399 dL_law_400 dL_law_401 ?_
  refine law_R hF hH hS c_X10_change (by decide) (by decide) (gdV (mW16 (List.mem_of_getElem? (i := 25) rfl)) (mW14 (List.mem_of_getElem? (i := 20) rfl)) (mW14 (List.mem_of_getElem? (i := 21) rfl)) (mW10 (List.mem_of_getElem? (i := 20) rfl)) (mW12 (List.mem_of_getElem? (i := 3) rfl))) rfl (n := 3) (by decide +kernel) (as' := [.inl (xi xs i 1), .inl (xi xs i 2), .inl (xi xs i 3)]) (okS_c (okS_c (okS_c (fun v hv => absurd hv List.not_mem_nil) xi_in) xi_in) xi_in) ⟨_, _, _, rfl, hMI⟩ rfl hla (by simp [Value.category]) ⟨by show _ + 0 ≤ _; omega, by show _ + 0 ≤ _; omega⟩ dL_law_402 ?_
  intro x2 J1 B1 H2 locs2 hx2 hQ2 hH hS
  rw [Q_X10_change_c] at hQ2
  have hM1 : MI J1 B1 := hQ2.1
  have hfm : Fm J J1 := hQ2.2
  refine lv_pop hx hb dL_law_405 rfl ?_
  refine lv_goto hx hb (tgt := 1547) dL_law_406 rfl ?_
  exact kk cells slots L lv I1 A1 J1 B1 g H2 locs2 la rfl hH hC1 hM1 (REL_q hRel hcq hfm) hS hl (by rw [Fm_t hfm]; omega) (by rw [Fm_t hfm]; omega)
theorem cs_409 (hF : LFx p l s m args c D cy S P0 T b Lx xs cL) (hH : LH D cy S ao cL H L lv I A M J B g) (hC : CI I A) (hMI : MI J B) (hRel : REL I A J) (hS : va_S S s.heap H locs) (hl : lv_has la 7 [(4, .int (oI i)), (3, .ref ao), (2, .ref (M 300)), (1, .ref (L 0)), (0, .ref b)]) (hi0 : 0 ≤ i) (hi6 : i + 6 ≤ Lx) (hLx : Lx ≤ 3072) (hcc : cells ≤ 580000 ∧ slots ≤ 7230000)
    (kk : ∀ (cells' slots' : Nat) (L' : Nat → Nat) (lv' : List Nat) (I' A' J' B' : FN) (g' : Nat → Int64) (H1 : Heap) (locs1 : List Loc) (la' : Array Slot), L' 0 = L 0 → LH D cy S ao cL H1 L' lv' I' A' M J' B' g' → CI I' A' → MI J' B' → REL I' A' J' → va_S S s.heap H1 locs1 → lv_has la' 7 [(4, .int (oI i)), (3, .ref ao), (2, .ref (M 300)), (1, .ref (L 0)), (0, .ref b)] → cells' + 11 * (J' 300 17).toNat ≤ cells + 11 * (J 300 17).toNat + 700 → slots' + 77 * (J' 300 17).toNat ≤ slots + 77 * (J 300 17).toNat + 14000 → W p l e room_1 s m args below meth c H1 locs1 cells' slots' Qf (F0 m 1547 la' [])) :
    W p l e room_1 s m args below meth c H locs cells slots Qf (F0 m 409 la []) := by
  have hF0 := hF
  obtain ⟨⟨hx, hb, hml, hown, hts⟩, -, -, -, ⟨hX, hbl, hbS⟩, -⟩ := hF0
  have hla : la.size = 7 := hl.1
  have g0 := lv_at hl 4 rfl
  have g4 := lv_at hl 0 rfl
  have tp := hMI.tp
  refine lv_aload_n hx hb dL_law_409 rfl (lv_at hl 3 rfl) ?_
  refine law_arg (k := 1) hx hb hX hbl hbS hS g0 g4 hi0 (by omega) hLx dL_law_410 dL_law_411 dL_law_413 dL_law_414 dL_law_415 ?_
  refine law_C hF hH hS c_X9_revert (by decide) (by decide) (gdV (mW16 (List.mem_of_getElem? (i := 26) rfl)) (mW16 (List.mem_of_getElem? (i := 27) rfl)) (mW16 (List.mem_of_getElem? (i := 28) rfl)) (mW0 (List.mem_of_getElem? (i := 24) rfl)) (mW6 (List.mem_of_getElem? (i := 49) rfl))) rfl (n := 1) (by decide +kernel) (as' := [.inl (xi xs i 1)]) (okS_c (fun v hv => absurd hv List.not_mem_nil) xi_in) ⟨_, rfl, hC⟩ rfl hla (by simp [Value.category]) ⟨by omega, by omega⟩ dL_law_416 ?_
  intro x1 I1 A1 H1 locs1 hx1 hQ1 h77 hH hS
  rw [Q_X9_revert_c] at hQ1
  have hcq : CQ I A I1 A1 := hQ1
  have hC1 : CI I1 A1 := hcq.1
  refine lv_pop hx hb dL_law_419 rfl ?_
  refine lv_aload_n hx hb dL_law_420 rfl (lv_at hl 2 rfl) ?_
  refine law_arg (k := 1) hx hb hX hbl hbS hS g0 g4 hi0 (by omega) hLx dL_law_421 dL_law_422 dL_law_424 dL_law_425 dL_law_426 ?_
  refine law_R hF hH hS c_X10_revert (by decide) (by decide) (gdV (mW16 (List.mem_of_getElem? (i := 29) rfl)) (mW16 (List.mem_of_getElem? (i := 30) rfl)) (mW16 (List.mem_of_getElem? (i := 31) rfl)) (mW10 (List.mem_of_getElem? (i := 20) rfl)) (mW14 (List.mem_of_getElem? (i := 3) rfl))) rfl (n := 1) (by decide +kernel) (as' := [.inl (xi xs i 1)]) (okS_c (fun v hv => absurd hv List.not_mem_nil) xi_in) ⟨_, rfl, hMI⟩ rfl hla (by simp [Value.category]) ⟨by show _ + 0 ≤ _; omega, by show _ + 0 ≤ _; omega⟩ dL_law_427 ?_
  intro x2 J1 B1 H2 locs2 hx2 hQ2 hH hS
  rw [Q_X10_revert_c] at hQ2
  have hM1 : MI J1 B1 := hQ2.1
  have hfm : Fm J J1 := hQ2.2
  refine lv_pop hx hb dL_law_430 rfl ?_
  refine lv_goto hx hb (tgt := 1547) dL_law_431 rfl ?_
  exact kk cells slots L lv I1 A1 J1 B1 g H2 locs2 la rfl hH hC1 hM1 (REL_q hRel hcq hfm) hS hl (by rw [Fm_t hfm]; omega) (by rw [Fm_t hfm]; omega)
theorem cs_434 (hF : LFx p l s m args c D cy S P0 T b Lx xs cL) (hH : LH D cy S ao cL H L lv I A M J B g) (hC : CI I A) (hMI : MI J B) (hRel : REL I A J) (hS : va_S S s.heap H locs) (hl : lv_has la 7 [(4, .int (oI i)), (3, .ref ao), (2, .ref (M 300)), (1, .ref (L 0)), (0, .ref b)]) (hi0 : 0 ≤ i) (hi6 : i + 6 ≤ Lx) (hLx : Lx ≤ 3072) (hcc : cells ≤ 580000 ∧ slots ≤ 7230000)
    (kk : ∀ (cells' slots' : Nat) (L' : Nat → Nat) (lv' : List Nat) (I' A' J' B' : FN) (g' : Nat → Int64) (H1 : Heap) (locs1 : List Loc) (la' : Array Slot), L' 0 = L 0 → LH D cy S ao cL H1 L' lv' I' A' M J' B' g' → CI I' A' → MI J' B' → REL I' A' J' → va_S S s.heap H1 locs1 → lv_has la' 7 [(4, .int (oI i)), (3, .ref ao), (2, .ref (M 300)), (1, .ref (L 0)), (0, .ref b)] → cells' + 11 * (J' 300 17).toNat ≤ cells + 11 * (J 300 17).toNat + 700 → slots' + 77 * (J' 300 17).toNat ≤ slots + 77 * (J 300 17).toNat + 14000 → W p l e room_1 s m args below meth c H1 locs1 cells' slots' Qf (F0 m 1547 la' [])) :
    W p l e room_1 s m args below meth c H locs cells slots Qf (F0 m 434 la []) := by
  have hF0 := hF
  obtain ⟨⟨hx, hb, hml, hown, hts⟩, -, -, -, ⟨hX, hbl, hbS⟩, -⟩ := hF0
  have hla : la.size = 7 := hl.1
  have g0 := lv_at hl 4 rfl
  have g4 := lv_at hl 0 rfl
  have tp := hMI.tp
  refine lv_aload_n hx hb dL_law_434 rfl (lv_at hl 3 rfl) ?_
  refine law_arg (k := 1) hx hb hX hbl hbS hS g0 g4 hi0 (by omega) hLx dL_law_435 dL_law_436 dL_law_438 dL_law_439 dL_law_440 ?_
  refine law_arg (k := 2) hx hb hX hbl hbS hS g0 g4 hi0 (by omega) hLx dL_law_441 dL_law_442 dL_law_444 dL_law_445 dL_law_446 ?_
  refine law_C hF hH hS c_X9_chance (by decide) (by decide) (gdV (mW16 (List.mem_of_getElem? (i := 32) rfl)) (mW16 (List.mem_of_getElem? (i := 33) rfl)) (mW16 (List.mem_of_getElem? (i := 34) rfl)) (mW0 (List.mem_of_getElem? (i := 24) rfl)) (mW7 (List.mem_of_getElem? (i := 31) rfl))) rfl (n := 2) (by decide +kernel) (as' := [.inl (xi xs i 1), .inl (xi xs i 2)]) (okS_c (okS_c (fun v hv => absurd hv List.not_mem_nil) xi_in) xi_in) ⟨_, _, rfl, hC⟩ rfl hla (by simp [Value.category]) ⟨by omega, by omega⟩ dL_law_447 ?_
  intro x1 I1 A1 H1 locs1 hx1 hQ1 h77 hH hS
  rw [Q_X9_chance_c] at hQ1
  have hcq : CQ I A I1 A1 := hQ1
  have hC1 : CI I1 A1 := hcq.1
  refine lv_pop hx hb dL_law_450 rfl ?_
  refine lv_aload_n hx hb dL_law_451 rfl (lv_at hl 2 rfl) ?_
  refine law_arg (k := 1) hx hb hX hbl hbS hS g0 g4 hi0 (by omega) hLx dL_law_452 dL_law_453 dL_law_455 dL_law_456 dL_law_457 ?_
  refine law_arg (k := 2) hx hb hX hbl hbS hS g0 g4 hi0 (by omega) hLx dL_law_458 dL_law_459 dL_law_461 dL_law_462 dL_law_463 ?_
  refine law_R hF hH hS c_X10_chance (by decide) (by decide) (gdV (mW16 (List.mem_of_getElem? (i := 35) rfl)) (mW16 (List.mem_of_getElem? (i := 36) rfl)) (mW16 (List.mem_of_getElem? (i := 37) rfl)) (mW10 (List.mem_of_getElem? (i := 20) rfl)) (mW14 (List.mem_of_getElem? (i := 32) rfl))) rfl (n := 2) (by decide +kernel) (as' := [.inl (xi xs i 1), .inl (xi xs i 2)]) (okS_c (okS_c (fun v hv => absurd hv List.not_mem_nil) xi_in) xi_in) ⟨_, _, rfl, hMI⟩ rfl hla (by simp [Value.category]) ⟨by show _ + 0 ≤ _; omega, by show _ + 0 ≤ _; omega⟩ dL_law_464 ?_
  intro x2 J1 B1 H2 locs2 hx2 hQ2 hH hS
  rw [Q_X10_chance_c] at hQ2
  have hM1 : MI J1 B1 := hQ2.1
  have hfm : Fm J J1 := hQ2.2
  refine lv_pop hx hb dL_law_467 rfl ?_
  refine lv_goto hx hb (tgt := 1547) dL_law_468 rfl ?_
  exact kk cells slots L lv I1 A1 J1 B1 g H2 locs2 la rfl hH hC1 hM1 (REL_q hRel hcq hfm) hS hl (by rw [Fm_t hfm]; omega) (by rw [Fm_t hfm]; omega)
theorem cs_471 (hF : LFx p l s m args c D cy S P0 T b Lx xs cL) (hH : LH D cy S ao cL H L lv I A M J B g) (hC : CI I A) (hMI : MI J B) (hRel : REL I A J) (hS : va_S S s.heap H locs) (hl : lv_has la 7 [(4, .int (oI i)), (3, .ref ao), (2, .ref (M 300)), (1, .ref (L 0)), (0, .ref b)]) (hi0 : 0 ≤ i) (hi6 : i + 6 ≤ Lx) (hLx : Lx ≤ 3072) (hcc : cells ≤ 580000 ∧ slots ≤ 7230000)
    (kk : ∀ (cells' slots' : Nat) (L' : Nat → Nat) (lv' : List Nat) (I' A' J' B' : FN) (g' : Nat → Int64) (H1 : Heap) (locs1 : List Loc) (la' : Array Slot), L' 0 = L 0 → LH D cy S ao cL H1 L' lv' I' A' M J' B' g' → CI I' A' → MI J' B' → REL I' A' J' → va_S S s.heap H1 locs1 → lv_has la' 7 [(4, .int (oI i)), (3, .ref ao), (2, .ref (M 300)), (1, .ref (L 0)), (0, .ref b)] → cells' + 11 * (J' 300 17).toNat ≤ cells + 11 * (J 300 17).toNat + 700 → slots' + 77 * (J' 300 17).toNat ≤ slots + 77 * (J 300 17).toNat + 14000 → W p l e room_1 s m args below meth c H1 locs1 cells' slots' Qf (F0 m 1547 la' [])) :
    W p l e room_1 s m args below meth c H locs cells slots Qf (F0 m 471 la []) := by
  have hF0 := hF
  obtain ⟨⟨hx, hb, hml, hown, hts⟩, -, -, -, ⟨hX, hbl, hbS⟩, -⟩ := hF0
  have hla : la.size = 7 := hl.1
  have g0 := lv_at hl 4 rfl
  have g4 := lv_at hl 0 rfl
  have tp := hMI.tp
  refine lv_aload_n hx hb dL_law_471 rfl (lv_at hl 3 rfl) ?_
  refine law_arg (k := 1) hx hb hX hbl hbS hS g0 g4 hi0 (by omega) hLx dL_law_472 dL_law_473 dL_law_475 dL_law_476 dL_law_477 ?_
  refine law_arg (k := 2) hx hb hX hbl hbS hS g0 g4 hi0 (by omega) hLx dL_law_478 dL_law_479 dL_law_481 dL_law_482 dL_law_483 ?_
  refine law_C hF hH hS c_X9_deliver (by decide) (by decide) (gdV (mW16 (List.mem_of_getElem? (i := 38) rfl)) (mW7 (List.mem_of_getElem? (i := 25) rfl)) (mW7 (List.mem_of_getElem? (i := 26) rfl)) (mW0 (List.mem_of_getElem? (i := 24) rfl)) (mW7 (List.mem_of_getElem? (i := 4) rfl))) rfl (n := 2) (by decide +kernel) (as' := [.inl (xi xs i 1), .inl (xi xs i 2)]) (okS_c (okS_c (fun v hv => absurd hv List.not_mem_nil) xi_in) xi_in) ⟨_, _, rfl, hC⟩ rfl hla (by simp [Value.category]) ⟨by omega, by omega⟩ dL_law_484 ?_
  intro x1 I1 A1 H1 locs1 hx1 hQ1 h77 hH hS
  rw [Q_X9_deliver_c] at hQ1
  have hcq : CQ I A I1 A1 := hQ1
  have hC1 : CI I1 A1 := hcq.1
  refine lv_pop hx hb dL_law_487 rfl ?_
  refine lv_aload_n hx hb dL_law_488 rfl (lv_at hl 2 rfl) ?_
  refine law_arg (k := 1) hx hb hX hbl hbS hS g0 g4 hi0 (by omega) hLx dL_law_489 dL_law_490 dL_law_492 dL_law_493 dL_law_494 ?_
  refine law_arg (k := 2) hx hb hX hbl hbS hS g0 g4 hi0 (by omega) hLx dL_law_495 dL_law_496 dL_law_498 dL_law_499 dL_law_500 ?_
  refine law_R hF hH hS c_X10_deliver (by decide) (by decide) (gdV (mW16 (List.mem_of_getElem? (i := 39) rfl)) (mW14 (List.mem_of_getElem? (i := 23) rfl)) (mW14 (List.mem_of_getElem? (i := 24) rfl)) (mW10 (List.mem_of_getElem? (i := 20) rfl)) (mW12 (List.mem_of_getElem? (i := 32) rfl))) rfl (n := 2) (by decide +kernel) (as' := [.inl (xi xs i 1), .inl (xi xs i 2)]) (okS_c (okS_c (fun v hv => absurd hv List.not_mem_nil) xi_in) xi_in) ⟨_, _, rfl, hMI⟩ rfl hla (by simp [Value.category]) ⟨by show _ + 0 ≤ _; omega, by show _ + 0 ≤ _; omega⟩ dL_law_501 ?_
  intro x2 J1 B1 H2 locs2 hx2 hQ2 hH hS
  rw [Q_X10_deliver_c] at hQ2
  have hM1 : MI J1 B1 := hQ2.1
  have hfm : Fm J J1 := hQ2.2
  refine lv_pop hx hb dL_law_504 rfl ?_
  refine lv_goto hx hb (tgt := 1547) dL_law_505 rfl ?_
  exact kk cells slots L lv I1 A1 J1 B1 g H2 locs2 la rfl hH hC1 hM1 (REL_q hRel hcq hfm) hS hl (by rw [Fm_t hfm]; omega) (by rw [Fm_t hfm]; omega)
theorem cs_508 (hF : LFx p l s m args c D cy S P0 T b Lx xs cL) (hH : LH D cy S ao cL H L lv I A M J B g) (hC : CI I A) (hMI : MI J B) (hRel : REL I A J) (hS : va_S S s.heap H locs) (hl : lv_has la 7 [(4, .int (oI i)), (3, .ref ao), (2, .ref (M 300)), (1, .ref (L 0)), (0, .ref b)]) (hi0 : 0 ≤ i) (hi6 : i + 6 ≤ Lx) (hLx : Lx ≤ 3072) (hcc : cells ≤ 580000 ∧ slots ≤ 7230000)
    (kk : ∀ (cells' slots' : Nat) (L' : Nat → Nat) (lv' : List Nat) (I' A' J' B' : FN) (g' : Nat → Int64) (H1 : Heap) (locs1 : List Loc) (la' : Array Slot), L' 0 = L 0 → LH D cy S ao cL H1 L' lv' I' A' M J' B' g' → CI I' A' → MI J' B' → REL I' A' J' → va_S S s.heap H1 locs1 → lv_has la' 7 [(4, .int (oI i)), (3, .ref ao), (2, .ref (M 300)), (1, .ref (L 0)), (0, .ref b)] → cells' + 11 * (J' 300 17).toNat ≤ cells + 11 * (J 300 17).toNat + 700 → slots' + 77 * (J' 300 17).toNat ≤ slots + 77 * (J 300 17).toNat + 14000 → W p l e room_1 s m args below meth c H1 locs1 cells' slots' Qf (F0 m 1547 la' [])) :
    W p l e room_1 s m args below meth c H locs cells slots Qf (F0 m 508 la []) := by
  have hF0 := hF
  obtain ⟨⟨hx, hb, hml, hown, hts⟩, -, -, -, ⟨hX, hbl, hbS⟩, -⟩ := hF0
  have hla : la.size = 7 := hl.1
  have g0 := lv_at hl 4 rfl
  have g4 := lv_at hl 0 rfl
  have tp := hMI.tp
  refine lv_aload_n hx hb dL_law_508 rfl (lv_at hl 3 rfl) ?_
  refine law_arg (k := 1) hx hb hX hbl hbS hS g0 g4 hi0 (by omega) hLx dL_law_509 dL_law_510 dL_law_512 dL_law_513 dL_law_514 ?_
  refine law_arg (k := 2) hx hb hX hbl hbS hS g0 g4 hi0 (by omega) hLx dL_law_515 dL_law_516 dL_law_518 dL_law_519 dL_law_520 ?_
  refine law_C hF hH hS c_X9_lose (by decide) (by decide) (gdV (mW16 (List.mem_of_getElem? (i := 40) rfl)) (mW9 (List.mem_of_getElem? (i := 37) rfl)) (mW9 (List.mem_of_getElem? (i := 38) rfl)) (mW0 (List.mem_of_getElem? (i := 24) rfl)) (mW7 (List.mem_of_getElem? (i := 34) rfl))) rfl (n := 2) (by decide +kernel) (as' := [.inl (xi xs i 1), .inl (xi xs i 2)]) (okS_c (okS_c (fun v hv => absurd hv List.not_mem_nil) xi_in) xi_in) ⟨_, _, rfl, hC⟩ rfl hla (by simp [Value.category]) ⟨by omega, by omega⟩ dL_law_521 ?_
  intro x1 I1 A1 H1 locs1 hx1 hQ1 h77 hH hS
  rw [Q_X9_lose_c] at hQ1
  have hcq : CQ I A I1 A1 := hQ1
  have hC1 : CI I1 A1 := hcq.1
  refine lv_pop hx hb dL_law_524 rfl ?_
  refine lv_aload_n hx hb dL_law_525 rfl (lv_at hl 2 rfl) ?_
  refine law_arg (k := 1) hx hb hX hbl hbS hS g0 g4 hi0 (by omega) hLx dL_law_526 dL_law_527 dL_law_529 dL_law_530 dL_law_531 ?_
  refine law_arg (k := 2) hx hb hX hbl hbS hS g0 g4 hi0 (by omega) hLx dL_law_532 dL_law_533 dL_law_535 dL_law_536 dL_law_537 ?_
  refine law_R hF hH hS c_X10_lose (by decide) (by decide) (gdV (mW16 (List.mem_of_getElem? (i := 41) rfl)) (mW15 (List.mem_of_getElem? (i := 19) rfl)) (mW15 (List.mem_of_getElem? (i := 20) rfl)) (mW10 (List.mem_of_getElem? (i := 20) rfl)) (mW12 (List.mem_of_getElem? (i := 33) rfl))) rfl (n := 2) (by decide +kernel) (as' := [.inl (xi xs i 1), .inl (xi xs i 2)]) (okS_c (okS_c (fun v hv => absurd hv List.not_mem_nil) xi_in) xi_in) ⟨_, _, rfl, hMI⟩ rfl hla (by simp [Value.category]) ⟨by show _ + 0 ≤ _; omega, by show _ + 0 ≤ _; omega⟩ dL_law_538 ?_
  intro x2 J1 B1 H2 locs2 hx2 hQ2 hH hS
  rw [Q_X10_lose_c] at hQ2
  have hM1 : MI J1 B1 := hQ2.1
  have hfm : Fm J J1 := hQ2.2
  refine lv_pop hx hb dL_law_541 rfl ?_
  refine lv_goto hx hb (tgt := 1547) dL_law_542 rfl ?_
  exact kk cells slots L lv I1 A1 J1 B1 g H2 locs2 la rfl hH hC1 hM1 (REL_q hRel hcq hfm) hS hl (by rw [Fm_t hfm]; omega) (by rw [Fm_t hfm]; omega)
theorem cs_545 (hF : LFx p l s m args c D cy S P0 T b Lx xs cL) (hH : LH D cy S ao cL H L lv I A M J B g) (hC : CI I A) (hMI : MI J B) (hRel : REL I A J) (hS : va_S S s.heap H locs) (hl : lv_has la 7 [(4, .int (oI i)), (3, .ref ao), (2, .ref (M 300)), (1, .ref (L 0)), (0, .ref b)]) (hi0 : 0 ≤ i) (hi6 : i + 6 ≤ Lx) (hLx : Lx ≤ 3072) (hcc : cells ≤ 580000 ∧ slots ≤ 7230000)
    (kk : ∀ (cells' slots' : Nat) (L' : Nat → Nat) (lv' : List Nat) (I' A' J' B' : FN) (g' : Nat → Int64) (H1 : Heap) (locs1 : List Loc) (la' : Array Slot), L' 0 = L 0 → LH D cy S ao cL H1 L' lv' I' A' M J' B' g' → CI I' A' → MI J' B' → REL I' A' J' → va_S S s.heap H1 locs1 → lv_has la' 7 [(4, .int (oI i)), (3, .ref ao), (2, .ref (M 300)), (1, .ref (L 0)), (0, .ref b)] → cells' + 11 * (J' 300 17).toNat ≤ cells + 11 * (J 300 17).toNat + 700 → slots' + 77 * (J' 300 17).toNat ≤ slots + 77 * (J 300 17).toNat + 14000 → W p l e room_1 s m args below meth c H1 locs1 cells' slots' Qf (F0 m 1547 la' [])) :
    W p l e room_1 s m args below meth c H locs cells slots Qf (F0 m 545 la []) := by
  have hF0 := hF
  obtain ⟨⟨hx, hb, hml, hown, hts⟩, -, -, -, ⟨hX, hbl, hbS⟩, -⟩ := hF0
  have hla : la.size = 7 := hl.1
  have g0 := lv_at hl 4 rfl
  have g4 := lv_at hl 0 rfl
  have tp := hMI.tp
  refine lv_aload_n hx hb dL_law_545 rfl (lv_at hl 3 rfl) ?_
  refine law_arg (k := 1) hx hb hX hbl hbS hS g0 g4 hi0 (by omega) hLx dL_law_546 dL_law_547 dL_law_549 dL_law_550 dL_law_551 ?_
  refine law_arg (k := 2) hx hb hX hbl hbS hS g0 g4 hi0 (by omega) hLx dL_law_552 dL_law_553 dL_law_555 dL_law_556 dL_law_557 ?_
  refine law_C hF hH hS c_X9_twice (by decide) (by decide) (gdV (mW16 (List.mem_of_getElem? (i := 42) rfl)) (mW9 (List.mem_of_getElem? (i := 40) rfl)) (mW9 (List.mem_of_getElem? (i := 41) rfl)) (mW0 (List.mem_of_getElem? (i := 24) rfl)) (mW7 (List.mem_of_getElem? (i := 36) rfl))) rfl (n := 2) (by decide +kernel) (as' := [.inl (xi xs i 1), .inl (xi xs i 2)]) (okS_c (okS_c (fun v hv => absurd hv List.not_mem_nil) xi_in) xi_in) ⟨_, _, rfl, hC⟩ rfl hla (by simp [Value.category]) ⟨by omega, by omega⟩ dL_law_558 ?_
  intro x1 I1 A1 H1 locs1 hx1 hQ1 h77 hH hS
  rw [Q_X9_twice_c] at hQ1
  have hcq : CQ I A I1 A1 := hQ1
  have hC1 : CI I1 A1 := hcq.1
  refine lv_pop hx hb dL_law_561 rfl ?_
  refine lv_aload_n hx hb dL_law_562 rfl (lv_at hl 2 rfl) ?_
  refine law_arg (k := 1) hx hb hX hbl hbS hS g0 g4 hi0 (by omega) hLx dL_law_563 dL_law_564 dL_law_566 dL_law_567 dL_law_568 ?_
  refine law_arg (k := 2) hx hb hX hbl hbS hS g0 g4 hi0 (by omega) hLx dL_law_569 dL_law_570 dL_law_572 dL_law_573 dL_law_574 ?_
  refine law_R hF hH hS c_X10_twice (by decide) (by decide) (gdV (mW16 (List.mem_of_getElem? (i := 43) rfl)) (mW15 (List.mem_of_getElem? (i := 22) rfl)) (mW15 (List.mem_of_getElem? (i := 23) rfl)) (mW10 (List.mem_of_getElem? (i := 20) rfl)) (mW12 (List.mem_of_getElem? (i := 34) rfl))) rfl (n := 2) (by decide +kernel) (as' := [.inl (xi xs i 1), .inl (xi xs i 2)]) (okS_c (okS_c (fun v hv => absurd hv List.not_mem_nil) xi_in) xi_in) ⟨_, _, rfl, hMI⟩ rfl hla (by simp [Value.category]) ⟨by show _ + 0 ≤ _; omega, by show _ + 0 ≤ _; omega⟩ dL_law_575 ?_
  intro x2 J1 B1 H2 locs2 hx2 hQ2 hH hS
  rw [Q_X10_twice_c] at hQ2
  have hM1 : MI J1 B1 := hQ2.1
  have hfm : Fm J J1 := hQ2.2
  refine lv_pop hx hb dL_law_578 rfl ?_
  refine lv_goto hx hb (tgt := 1547) dL_law_579 rfl ?_
  exact kk cells slots L lv I1 A1 J1 B1 g H2 locs2 la rfl hH hC1 hM1 (REL_q hRel hcq hfm) hS hl (by rw [Fm_t hfm]; omega) (by rw [Fm_t hfm]; omega)
theorem cs_582 (hF : LFx p l s m args c D cy S P0 T b Lx xs cL) (hH : LH D cy S ao cL H L lv I A M J B g) (hC : CI I A) (hMI : MI J B) (hRel : REL I A J) (hS : va_S S s.heap H locs) (hl : lv_has la 7 [(4, .int (oI i)), (3, .ref ao), (2, .ref (M 300)), (1, .ref (L 0)), (0, .ref b)]) (hi0 : 0 ≤ i) (hi6 : i + 6 ≤ Lx) (hLx : Lx ≤ 3072) (hcc : cells ≤ 580000 ∧ slots ≤ 7230000)
    (kk : ∀ (cells' slots' : Nat) (L' : Nat → Nat) (lv' : List Nat) (I' A' J' B' : FN) (g' : Nat → Int64) (H1 : Heap) (locs1 : List Loc) (la' : Array Slot), L' 0 = L 0 → LH D cy S ao cL H1 L' lv' I' A' M J' B' g' → CI I' A' → MI J' B' → REL I' A' J' → va_S S s.heap H1 locs1 → lv_has la' 7 [(4, .int (oI i)), (3, .ref ao), (2, .ref (M 300)), (1, .ref (L 0)), (0, .ref b)] → cells' + 11 * (J' 300 17).toNat ≤ cells + 11 * (J 300 17).toNat + 700 → slots' + 77 * (J' 300 17).toNat ≤ slots + 77 * (J 300 17).toNat + 14000 → W p l e room_1 s m args below meth c H1 locs1 cells' slots' Qf (F0 m 1547 la' [])) :
    W p l e room_1 s m args below meth c H locs cells slots Qf (F0 m 582 la []) := by
  have hF0 := hF
  obtain ⟨⟨hx, hb, hml, hown, hts⟩, -, -, -, ⟨hX, hbl, hbS⟩, -⟩ := hF0
  have hla : la.size = 7 := hl.1
  have g0 := lv_at hl 4 rfl
  have g4 := lv_at hl 0 rfl
  have tp := hMI.tp
  refine lv_aload_n hx hb dL_law_582 rfl (lv_at hl 3 rfl) ?_
  refine law_arg (k := 1) hx hb hX hbl hbS hS g0 g4 hi0 (by omega) hLx dL_law_583 dL_law_584 dL_law_586 dL_law_587 dL_law_588 ?_
  refine law_arg (k := 2) hx hb hX hbl hbS hS g0 g4 hi0 (by omega) hLx dL_law_589 dL_law_590 dL_law_592 dL_law_593 dL_law_594 ?_
  refine law_C hF hH hS c_X9_sync (by decide) (by decide) (gdV (mW16 (List.mem_of_getElem? (i := 44) rfl)) (mW7 (List.mem_of_getElem? (i := 10) rfl)) (mW7 (List.mem_of_getElem? (i := 11) rfl)) (mW0 (List.mem_of_getElem? (i := 24) rfl)) (mW6 (List.mem_of_getElem? (i := 56) rfl))) rfl (n := 2) (by decide +kernel) (as' := [.inl (xi xs i 1), .inl (xi xs i 2)]) (okS_c (okS_c (fun v hv => absurd hv List.not_mem_nil) xi_in) xi_in) ⟨_, _, rfl, hC⟩ rfl hla (by simp [Value.category]) ⟨by omega, by omega⟩ dL_law_595 ?_
  intro x1 I1 A1 H1 locs1 hx1 hQ1 h77 hH hS
  rw [Q_X9_sync_c] at hQ1
  have hcq : CQ I A I1 A1 := hQ1
  have hC1 : CI I1 A1 := hcq.1
  refine lv_pop hx hb dL_law_598 rfl ?_
  refine lv_aload_n hx hb dL_law_599 rfl (lv_at hl 2 rfl) ?_
  refine law_arg (k := 1) hx hb hX hbl hbS hS g0 g4 hi0 (by omega) hLx dL_law_600 dL_law_601 dL_law_603 dL_law_604 dL_law_605 ?_
  refine law_arg (k := 2) hx hb hX hbl hbS hS g0 g4 hi0 (by omega) hLx dL_law_606 dL_law_607 dL_law_609 dL_law_610 dL_law_611 ?_
  refine law_R hF hH hS c_X10_sync (by decide) (by decide) (gdV (mW16 (List.mem_of_getElem? (i := 45) rfl)) (mW14 (List.mem_of_getElem? (i := 26) rfl)) (mW14 (List.mem_of_getElem? (i := 27) rfl)) (mW10 (List.mem_of_getElem? (i := 20) rfl)) (mW12 (List.mem_of_getElem? (i := 39) rfl))) rfl (n := 2) (by decide +kernel) (as' := [.inl (xi xs i 1), .inl (xi xs i 2)]) (okS_c (okS_c (fun v hv => absurd hv List.not_mem_nil) xi_in) xi_in) ⟨_, _, rfl, hMI⟩ rfl hla (by simp [Value.category]) ⟨by show _ + 0 ≤ _; omega, by show _ + 0 ≤ _; omega⟩ dL_law_612 ?_
  intro x2 J1 B1 H2 locs2 hx2 hQ2 hH hS
  rw [Q_X10_sync_c] at hQ2
  have hM1 : MI J1 B1 := hQ2.1
  have hfm : Fm J J1 := hQ2.2
  refine lv_pop hx hb dL_law_615 rfl ?_
  refine lv_goto hx hb (tgt := 1547) dL_law_616 rfl ?_
  exact kk cells slots L lv I1 A1 J1 B1 g H2 locs2 la rfl hH hC1 hM1 (REL_q hRel hcq hfm) hS hl (by rw [Fm_t hfm]; omega) (by rw [Fm_t hfm]; omega)
theorem cs_619 (hF : LFx p l s m args c D cy S P0 T b Lx xs cL) (hH : LH D cy S ao cL H L lv I A M J B g) (hC : CI I A) (hMI : MI J B) (hRel : REL I A J) (hS : va_S S s.heap H locs) (hl : lv_has la 7 [(4, .int (oI i)), (3, .ref ao), (2, .ref (M 300)), (1, .ref (L 0)), (0, .ref b)]) (hi0 : 0 ≤ i) (hi6 : i + 6 ≤ Lx) (hLx : Lx ≤ 3072) (hcc : cells ≤ 580000 ∧ slots ≤ 7230000)
    (kk : ∀ (cells' slots' : Nat) (L' : Nat → Nat) (lv' : List Nat) (I' A' J' B' : FN) (g' : Nat → Int64) (H1 : Heap) (locs1 : List Loc) (la' : Array Slot), L' 0 = L 0 → LH D cy S ao cL H1 L' lv' I' A' M J' B' g' → CI I' A' → MI J' B' → REL I' A' J' → va_S S s.heap H1 locs1 → lv_has la' 7 [(4, .int (oI i)), (3, .ref ao), (2, .ref (M 300)), (1, .ref (L 0)), (0, .ref b)] → cells' + 11 * (J' 300 17).toNat ≤ cells + 11 * (J 300 17).toNat + 700 → slots' + 77 * (J' 300 17).toNat ≤ slots + 77 * (J 300 17).toNat + 14000 → W p l e room_1 s m args below meth c H1 locs1 cells' slots' Qf (F0 m 1547 la' [])) :
    W p l e room_1 s m args below meth c H locs cells slots Qf (F0 m 619 la []) := by
  have hF0 := hF
  obtain ⟨⟨hx, hb, hml, hown, hts⟩, -, -, -, ⟨hX, hbl, hbS⟩, -⟩ := hF0
  have hla : la.size = 7 := hl.1
  have g0 := lv_at hl 4 rfl
  have g4 := lv_at hl 0 rfl
  have tp := hMI.tp
  refine lv_aload_n hx hb dL_law_619 rfl (lv_at hl 3 rfl) ?_
  refine law_arg (k := 1) hx hb hX hbl hbS hS g0 g4 hi0 (by omega) hLx dL_law_620 dL_law_621 dL_law_623 dL_law_624 dL_law_625 ?_
  refine law_arg (k := 2) hx hb hX hbl hbS hS g0 g4 hi0 (by omega) hLx dL_law_626 dL_law_627 dL_law_629 dL_law_630 dL_law_631 ?_
  refine law_C hF hH hS c_X9_tell (by decide) (by decide) (gdV (mW16 (List.mem_of_getElem? (i := 46) rfl)) (mW9 (List.mem_of_getElem? (i := 43) rfl)) (mW9 (List.mem_of_getElem? (i := 44) rfl)) (mW0 (List.mem_of_getElem? (i := 24) rfl)) (mW7 (List.mem_of_getElem? (i := 37) rfl))) rfl (n := 2) (by decide +kernel) (as' := [.inl (xi xs i 1), .inl (xi xs i 2)]) (okS_c (okS_c (fun v hv => absurd hv List.not_mem_nil) xi_in) xi_in) ⟨_, _, rfl, hC⟩ rfl hla (by simp [Value.category]) ⟨by omega, by omega⟩ dL_law_632 ?_
  intro x1 I1 A1 H1 locs1 hx1 hQ1 h77 hH hS
  rw [Q_X9_tell_c] at hQ1
  have hcq : CQ I A I1 A1 := hQ1.2
  have hC1 : CI I1 A1 := hcq.1
  refine lv_pop hx hb dL_law_635 rfl ?_
  refine lv_aload_n hx hb dL_law_636 rfl (lv_at hl 2 rfl) ?_
  refine law_arg (k := 1) hx hb hX hbl hbS hS g0 g4 hi0 (by omega) hLx dL_law_637 dL_law_638 dL_law_640 dL_law_641 dL_law_642 ?_
  refine law_arg (k := 2) hx hb hX hbl hbS hS g0 g4 hi0 (by omega) hLx dL_law_643 dL_law_644 dL_law_646 dL_law_647 dL_law_648 ?_
  refine law_R hF hH hS c_X10_tell (by decide) (by decide) (gdV (mW16 (List.mem_of_getElem? (i := 47) rfl)) (mW15 (List.mem_of_getElem? (i := 25) rfl)) (mW15 (List.mem_of_getElem? (i := 26) rfl)) (mW10 (List.mem_of_getElem? (i := 20) rfl)) (mW12 (List.mem_of_getElem? (i := 40) rfl))) rfl (n := 2) (by decide +kernel) (as' := [.inl (xi xs i 1), .inl (xi xs i 2)]) (okS_c (okS_c (fun v hv => absurd hv List.not_mem_nil) xi_in) xi_in) ⟨_, _, rfl, hMI⟩ rfl hla (by simp [Value.category]) ⟨by show _ + 0 ≤ _; omega, by show _ + 0 ≤ _; omega⟩ dL_law_649 ?_
  intro x2 J1 B1 H2 locs2 hx2 hQ2 hH hS
  rw [Q_X10_tell_c] at hQ2
  have hM1 : MI J1 B1 := hQ2.2.1
  have hfm : Fm J J1 := hQ2.2.2
  refine lv_pop hx hb dL_law_652 rfl ?_
  refine lv_goto hx hb (tgt := 1547) dL_law_653 rfl ?_
  exact kk cells slots L lv I1 A1 J1 B1 g H2 locs2 la rfl hH hC1 hM1 (REL_q hRel hcq hfm) hS hl (by rw [Fm_t hfm]; omega) (by rw [Fm_t hfm]; omega)
theorem cs_656 (hF : LFx p l s m args c D cy S P0 T b Lx xs cL) (hH : LH D cy S ao cL H L lv I A M J B g) (hC : CI I A) (hMI : MI J B) (hRel : REL I A J) (hS : va_S S s.heap H locs) (hl : lv_has la 7 [(4, .int (oI i)), (3, .ref ao), (2, .ref (M 300)), (1, .ref (L 0)), (0, .ref b)]) (hi0 : 0 ≤ i) (hi6 : i + 6 ≤ Lx) (hLx : Lx ≤ 3072) (hcc : cells ≤ 580000 ∧ slots ≤ 7230000)
    (kk : ∀ (cells' slots' : Nat) (L' : Nat → Nat) (lv' : List Nat) (I' A' J' B' : FN) (g' : Nat → Int64) (H1 : Heap) (locs1 : List Loc) (la' : Array Slot), L' 0 = L 0 → LH D cy S ao cL H1 L' lv' I' A' M J' B' g' → CI I' A' → MI J' B' → REL I' A' J' → va_S S s.heap H1 locs1 → lv_has la' 7 [(4, .int (oI i)), (3, .ref ao), (2, .ref (M 300)), (1, .ref (L 0)), (0, .ref b)] → cells' + 11 * (J' 300 17).toNat ≤ cells + 11 * (J 300 17).toNat + 700 → slots' + 77 * (J' 300 17).toNat ≤ slots + 77 * (J 300 17).toNat + 14000 → W p l e room_1 s m args below meth c H1 locs1 cells' slots' Qf (F0 m 1547 la' [])) :
    W p l e room_1 s m args below meth c H locs cells slots Qf (F0 m 656 la []) := by
  have hF0 := hF
  obtain ⟨⟨hx, hb, hml, hown, hts⟩, -, -, -, ⟨hX, hbl, hbS⟩, -⟩ := hF0
  have hla : la.size = 7 := hl.1
  have g0 := lv_at hl 4 rfl
  have g4 := lv_at hl 0 rfl
  have tp := hMI.tp
  refine lv_aload_n hx hb dL_law_656 rfl (lv_at hl 3 rfl) ?_
  refine law_arg (k := 1) hx hb hX hbl hbS hS g0 g4 hi0 (by omega) hLx dL_law_657 dL_law_658 dL_law_660 dL_law_661 dL_law_662 ?_
  refine law_C hF hH hS c_X9_sweep (by decide) (by decide) (gdV (mW16 (List.mem_of_getElem? (i := 48) rfl)) (mW9 (List.mem_of_getElem? (i := 46) rfl)) (mW9 (List.mem_of_getElem? (i := 47) rfl)) (mW0 (List.mem_of_getElem? (i := 24) rfl)) (mW7 (List.mem_of_getElem? (i := 50) rfl))) rfl (n := 1) (by decide +kernel) (as' := [.inl (xi xs i 1)]) (okS_c (fun v hv => absurd hv List.not_mem_nil) xi_in) ⟨_, rfl, hC⟩ rfl hla (by simp [Value.category]) ⟨by omega, by omega⟩ dL_law_663 ?_
  intro x1 I1 A1 H1 locs1 hx1 hQ1 h77 hH hS
  rw [Q_X9_sweep_c] at hQ1
  have hcq : CQ I A I1 A1 := hQ1
  have hC1 : CI I1 A1 := hcq.1
  refine lv_pop hx hb dL_law_666 rfl ?_
  refine lv_aload_n hx hb dL_law_667 rfl (lv_at hl 2 rfl) ?_
  refine law_arg (k := 1) hx hb hX hbl hbS hS g0 g4 hi0 (by omega) hLx dL_law_668 dL_law_669 dL_law_671 dL_law_672 dL_law_673 ?_
  refine law_R hF hH hS c_X10_sweep (by decide) (by decide) (gdV (mW16 (List.mem_of_getElem? (i := 49) rfl)) (mW15 (List.mem_of_getElem? (i := 28) rfl)) (mW15 (List.mem_of_getElem? (i := 29) rfl)) (mW10 (List.mem_of_getElem? (i := 20) rfl)) (mW13 (List.mem_of_getElem? (i := 5) rfl))) rfl (n := 1) (by decide +kernel) (as' := [.inl (xi xs i 1)]) (okS_c (fun v hv => absurd hv List.not_mem_nil) xi_in) ⟨_, rfl, hMI⟩ rfl hla (by simp [Value.category]) ⟨by show _ + 0 ≤ _; omega, by show _ + 0 ≤ _; omega⟩ dL_law_674 ?_
  intro x2 J1 B1 H2 locs2 hx2 hQ2 hH hS
  rw [Q_X10_sweep_c] at hQ2
  have hM1 : MI J1 B1 := hQ2.1
  have hfm : Fm J J1 := hQ2.2
  refine lv_pop hx hb dL_law_677 rfl ?_
  refine lv_goto hx hb (tgt := 1547) dL_law_678 rfl ?_
  exact kk cells slots L lv I1 A1 J1 B1 g H2 locs2 la rfl hH hC1 hM1 (REL_q hRel hcq hfm) hS hl (by rw [Fm_t hfm]; omega) (by rw [Fm_t hfm]; omega)
theorem cs_681 (hF : LFx p l s m args c D cy S P0 T b Lx xs cL) (hH : LH D cy S ao cL H L lv I A M J B g) (hC : CI I A) (hMI : MI J B) (hRel : REL I A J) (hS : va_S S s.heap H locs) (hl : lv_has la 7 [(4, .int (oI i)), (3, .ref ao), (2, .ref (M 300)), (1, .ref (L 0)), (0, .ref b)]) (hi0 : 0 ≤ i) (hi6 : i + 6 ≤ Lx) (hLx : Lx ≤ 3072) (hcc : cells ≤ 580000 ∧ slots ≤ 7230000)
    (kk : ∀ (cells' slots' : Nat) (L' : Nat → Nat) (lv' : List Nat) (I' A' J' B' : FN) (g' : Nat → Int64) (H1 : Heap) (locs1 : List Loc) (la' : Array Slot), L' 0 = L 0 → LH D cy S ao cL H1 L' lv' I' A' M J' B' g' → CI I' A' → MI J' B' → REL I' A' J' → va_S S s.heap H1 locs1 → lv_has la' 7 [(4, .int (oI i)), (3, .ref ao), (2, .ref (M 300)), (1, .ref (L 0)), (0, .ref b)] → cells' + 11 * (J' 300 17).toNat ≤ cells + 11 * (J 300 17).toNat + 700 → slots' + 77 * (J' 300 17).toNat ≤ slots + 77 * (J 300 17).toNat + 14000 → W p l e room_1 s m args below meth c H1 locs1 cells' slots' Qf (F0 m 1547 la' [])) :
    W p l e room_1 s m args below meth c H locs cells slots Qf (F0 m 681 la []) := by
  have hF0 := hF
  obtain ⟨⟨hx, hb, hml, hown, hts⟩, -, -, -, ⟨hX, hbl, hbS⟩, -⟩ := hF0
  have hla : la.size = 7 := hl.1
  have g0 := lv_at hl 4 rfl
  have g4 := lv_at hl 0 rfl
  have tp := hMI.tp
  refine lv_aload_n hx hb dL_law_681 rfl (lv_at hl 3 rfl) ?_
  refine law_arg (k := 1) hx hb hX hbl hbS hS g0 g4 hi0 (by omega) hLx dL_law_682 dL_law_683 dL_law_685 dL_law_686 dL_law_687 ?_
  refine law_C hF hH hS c_X9_length (by decide) (by decide) (gdV (mW16 (List.mem_of_getElem? (i := 50) rfl)) (mW16 (List.mem_of_getElem? (i := 51) rfl)) (mW16 (List.mem_of_getElem? (i := 52) rfl)) (mW0 (List.mem_of_getElem? (i := 24) rfl)) (mW7 (List.mem_of_getElem? (i := 51) rfl))) rfl (n := 1) (by decide +kernel) (as' := [.inl (xi xs i 1)]) (okS_c (fun v hv => absurd hv List.not_mem_nil) xi_in) ⟨_, rfl, hC⟩ rfl hla (by simp [Value.category]) ⟨by omega, by omega⟩ dL_law_688 ?_
  intro x1 I1 A1 H1 locs1 hx1 hQ1 h77 hH hS
  rw [Q_X9_length_c] at hQ1
  have hcq : CQ I A I1 A1 := hQ1
  have hC1 : CI I1 A1 := hcq.1
  refine lv_pop hx hb dL_law_691 rfl ?_
  refine lv_aload_n hx hb dL_law_692 rfl (lv_at hl 2 rfl) ?_
  refine law_arg (k := 1) hx hb hX hbl hbS hS g0 g4 hi0 (by omega) hLx dL_law_693 dL_law_694 dL_law_696 dL_law_697 dL_law_698 ?_
  refine law_R hF hH hS c_X10_length (by decide) (by decide) (gdV (mW16 (List.mem_of_getElem? (i := 53) rfl)) (mW16 (List.mem_of_getElem? (i := 54) rfl)) (mW16 (List.mem_of_getElem? (i := 55) rfl)) (mW10 (List.mem_of_getElem? (i := 20) rfl)) (mW13 (List.mem_of_getElem? (i := 8) rfl))) rfl (n := 1) (by decide +kernel) (as' := [.inl (xi xs i 1)]) (okS_c (fun v hv => absurd hv List.not_mem_nil) xi_in) ⟨_, rfl, hMI⟩ rfl hla (by simp [Value.category]) ⟨by show _ + 0 ≤ _; omega, by show _ + 0 ≤ _; omega⟩ dL_law_699 ?_
  intro x2 J1 B1 H2 locs2 hx2 hQ2 hH hS
  rw [Q_X10_length_c] at hQ2
  have hM1 : MI J1 B1 := hQ2.1
  have hfm : Fm J J1 := hQ2.2
  refine lv_pop hx hb dL_law_702 rfl ?_
  refine lv_goto hx hb (tgt := 1547) dL_law_703 rfl ?_
  exact kk cells slots L lv I1 A1 J1 B1 g H2 locs2 la rfl hH hC1 hM1 (REL_q hRel hcq hfm) hS hl (by rw [Fm_t hfm]; omega) (by rw [Fm_t hfm]; omega)
theorem cs_706 (hF : LFx p l s m args c D cy S P0 T b Lx xs cL) (hH : LH D cy S ao cL H L lv I A M J B g) (hC : CI I A) (hMI : MI J B) (hRel : REL I A J) (hS : va_S S s.heap H locs) (hl : lv_has la 7 [(4, .int (oI i)), (3, .ref ao), (2, .ref (M 300)), (1, .ref (L 0)), (0, .ref b)]) (hi0 : 0 ≤ i) (hi6 : i + 6 ≤ Lx) (hLx : Lx ≤ 3072) (hcc : cells ≤ 580000 ∧ slots ≤ 7230000)
    (kk : ∀ (cells' slots' : Nat) (L' : Nat → Nat) (lv' : List Nat) (I' A' J' B' : FN) (g' : Nat → Int64) (H1 : Heap) (locs1 : List Loc) (la' : Array Slot), L' 0 = L 0 → LH D cy S ao cL H1 L' lv' I' A' M J' B' g' → CI I' A' → MI J' B' → REL I' A' J' → va_S S s.heap H1 locs1 → lv_has la' 7 [(4, .int (oI i)), (3, .ref ao), (2, .ref (M 300)), (1, .ref (L 0)), (0, .ref b)] → cells' + 11 * (J' 300 17).toNat ≤ cells + 11 * (J 300 17).toNat + 700 → slots' + 77 * (J' 300 17).toNat ≤ slots + 77 * (J 300 17).toNat + 14000 → W p l e room_1 s m args below meth c H1 locs1 cells' slots' Qf (F0 m 1547 la' [])) :
    W p l e room_1 s m args below meth c H locs cells slots Qf (F0 m 706 la []) := by
  have hF0 := hF
  obtain ⟨⟨hx, hb, hml, hown, hts⟩, -, -, -, ⟨hX, hbl, hbS⟩, -⟩ := hF0
  have hla : la.size = 7 := hl.1
  have g0 := lv_at hl 4 rfl
  have g4 := lv_at hl 0 rfl
  have tp := hMI.tp
  refine lv_aload_n hx hb dL_law_706 rfl (lv_at hl 3 rfl) ?_
  refine law_arg (k := 1) hx hb hX hbl hbS hS g0 g4 hi0 (by omega) hLx dL_law_707 dL_law_708 dL_law_710 dL_law_711 dL_law_712 ?_
  refine law_arg (k := 2) hx hb hX hbl hbS hS g0 g4 hi0 (by omega) hLx dL_law_713 dL_law_714 dL_law_716 dL_law_717 dL_law_718 ?_
  refine law_arg (k := 3) hx hb hX hbl hbS hS g0 g4 hi0 (by omega) hLx dL_law_719 dL_law_720 dL_law_722 dL_law_723 dL_law_724 ?_
  refine lv_aload_n hx hb dL_law_725 rfl (lv_at hl 1 rfl) ?_
  refine law_A hF hH hS hC xi_in xi_in xi_in hla (by simp [Value.category]) ⟨by omega, by omega⟩ dL_law_726 ?_
  intro x1 I1 A1 g1 H1 locs1 hcq hH hS
  have hC1 : CI I1 A1 := hcq.1
  refine lv_istore hx hb dL_law_729 hl (by decide) rfl ?_
  intro la hl
  replace hl := lv_sub hl (l' := [(4, .int (oI i)), (3, .ref ao), (2, .ref (M 300)), (1, .ref (L 0)), (0, .ref b)]) [1, 2, 3, 4, 5] rfl
  have hla : la.size = 7 := hl.1
  have g0 := lv_at hl 4 rfl
  have g4 := lv_at hl 0 rfl
  refine lv_aload_n hx hb dL_law_731 rfl (lv_at hl 2 rfl) ?_
  refine law_arg (k := 1) hx hb hX hbl hbS hS g0 g4 hi0 (by omega) hLx dL_law_732 dL_law_733 dL_law_735 dL_law_736 dL_law_737 ?_
  refine law_arg (k := 2) hx hb hX hbl hbS hS g0 g4 hi0 (by omega) hLx dL_law_738 dL_law_739 dL_law_741 dL_law_742 dL_law_743 ?_
  refine law_arg (k := 3) hx hb hX hbl hbS hS g0 g4 hi0 (by omega) hLx dL_law_744 dL_law_745 dL_law_747 dL_law_748 dL_law_749 ?_
  refine law_R hF hH hS c_X10_at_ (by decide) (by decide) (gdV (mW16 (List.mem_of_getElem? (i := 59) rfl)) (mW16 (List.mem_of_getElem? (i := 60) rfl)) (mW16 (List.mem_of_getElem? (i := 61) rfl)) (mW10 (List.mem_of_getElem? (i := 20) rfl)) (mW13 (List.mem_of_getElem? (i := 16) rfl))) rfl (n := 3) (by decide +kernel) (as' := [.inl (xi xs i 1), .inl (xi xs i 2), .inl (xi xs i 3)]) (okS_c (okS_c (okS_c (fun v hv => absurd hv List.not_mem_nil) xi_in) xi_in) xi_in) ⟨_, _, _, rfl, hMI⟩ rfl hla (by simp [Value.category]) ⟨by show _ + 0 ≤ _; omega, by show _ + 0 ≤ _; omega⟩ dL_law_750 ?_
  intro x2 J1 B1 H2 locs2 hx2 hQ2 hH hS
  rw [Q_X10_at__c] at hQ2
  have hM1 : MI J1 B1 := hQ2.1
  have hfm : Fm J J1 := hQ2.2
  refine lv_istore hx hb dL_law_753 hl (by decide) rfl ?_
  intro la hl
  replace hl := lv_sub hl (l' := [(4, .int (oI i)), (3, .ref ao), (2, .ref (M 300)), (1, .ref (L 0)), (0, .ref b)]) [1, 2, 3, 4, 5] rfl
  have hla : la.size = 7 := hl.1
  have g0 := lv_at hl 4 rfl
  have g4 := lv_at hl 0 rfl
  refine lv_goto hx hb (tgt := 1547) dL_law_755 rfl ?_
  exact kk _ _ L lv I1 A1 J1 B1 g1 H2 locs2 la rfl hH hC1 hM1 (REL_q hRel hcq hfm) hS hl (by rw [Fm_t hfm]; show cells + 1 + 0 + _ ≤ _; omega) (by rw [Fm_t hfm]; show slots + 6 + 0 + _ ≤ _; omega)
theorem cs_758 (hF : LFx p l s m args c D cy S P0 T b Lx xs cL) (hH : LH D cy S ao cL H L lv I A M J B g) (hC : CI I A) (hMI : MI J B) (hRel : REL I A J) (hS : va_S S s.heap H locs) (hl : lv_has la 7 [(4, .int (oI i)), (3, .ref ao), (2, .ref (M 300)), (1, .ref (L 0)), (0, .ref b)]) (hi0 : 0 ≤ i) (hi6 : i + 6 ≤ Lx) (hLx : Lx ≤ 3072) (hcc : cells ≤ 580000 ∧ slots ≤ 7230000)
    (kk : ∀ (cells' slots' : Nat) (L' : Nat → Nat) (lv' : List Nat) (I' A' J' B' : FN) (g' : Nat → Int64) (H1 : Heap) (locs1 : List Loc) (la' : Array Slot), L' 0 = L 0 → LH D cy S ao cL H1 L' lv' I' A' M J' B' g' → CI I' A' → MI J' B' → REL I' A' J' → va_S S s.heap H1 locs1 → lv_has la' 7 [(4, .int (oI i)), (3, .ref ao), (2, .ref (M 300)), (1, .ref (L 0)), (0, .ref b)] → cells' + 11 * (J' 300 17).toNat ≤ cells + 11 * (J 300 17).toNat + 700 → slots' + 77 * (J' 300 17).toNat ≤ slots + 77 * (J 300 17).toNat + 14000 → W p l e room_1 s m args below meth c H1 locs1 cells' slots' Qf (F0 m 1547 la' [])) :
    W p l e room_1 s m args below meth c H locs cells slots Qf (F0 m 758 la []) := by
  have hF0 := hF
  obtain ⟨⟨hx, hb, hml, hown, hts⟩, -, -, -, ⟨hX, hbl, hbS⟩, -⟩ := hF0
  have hla : la.size = 7 := hl.1
  have g0 := lv_at hl 4 rfl
  have g4 := lv_at hl 0 rfl
  have tp := hMI.tp
  refine lv_aload_n hx hb dL_law_758 rfl (lv_at hl 3 rfl) ?_
  refine law_arg (k := 1) hx hb hX hbl hbS hS g0 g4 hi0 (by omega) hLx dL_law_759 dL_law_760 dL_law_762 dL_law_763 dL_law_764 ?_
  refine law_arg (k := 2) hx hb hX hbl hbS hS g0 g4 hi0 (by omega) hLx dL_law_765 dL_law_766 dL_law_768 dL_law_769 dL_law_770 ?_
  refine law_C hF hH hS c_X9_index (by decide) (by decide) (gdV (mW16 (List.mem_of_getElem? (i := 62) rfl)) (mW16 (List.mem_of_getElem? (i := 63) rfl)) (mW17 (List.mem_of_getElem? (i := 0) rfl)) (mW0 (List.mem_of_getElem? (i := 24) rfl)) (mW7 (List.mem_of_getElem? (i := 59) rfl))) rfl (n := 2) (by decide +kernel) (as' := [.inl (xi xs i 1), .inl (xi xs i 2)]) (okS_c (okS_c (fun v hv => absurd hv List.not_mem_nil) xi_in) xi_in) ⟨_, _, rfl, hC⟩ rfl hla (by simp [Value.category]) ⟨by omega, by omega⟩ dL_law_771 ?_
  intro x1 I1 A1 H1 locs1 hx1 hQ1 h77 hH hS
  rw [Q_X9_index_c] at hQ1
  have hcq : CQ I A I1 A1 := hQ1
  have hC1 : CI I1 A1 := hcq.1
  refine lv_pop hx hb dL_law_774 rfl ?_
  refine lv_aload_n hx hb dL_law_775 rfl (lv_at hl 2 rfl) ?_
  refine law_arg (k := 1) hx hb hX hbl hbS hS g0 g4 hi0 (by omega) hLx dL_law_776 dL_law_777 dL_law_779 dL_law_780 dL_law_781 ?_
  refine law_arg (k := 2) hx hb hX hbl hbS hS g0 g4 hi0 (by omega) hLx dL_law_782 dL_law_783 dL_law_785 dL_law_786 dL_law_787 ?_
  refine law_R hF hH hS c_X10_index (by decide) (by decide) (gdV (mW17 (List.mem_of_getElem? (i := 1) rfl)) (mW17 (List.mem_of_getElem? (i := 2) rfl)) (mW17 (List.mem_of_getElem? (i := 3) rfl)) (mW10 (List.mem_of_getElem? (i := 20) rfl)) (mW13 (List.mem_of_getElem? (i := 17) rfl))) rfl (n := 2) (by decide +kernel) (as' := [.inl (xi xs i 1), .inl (xi xs i 2)]) (okS_c (okS_c (fun v hv => absurd hv List.not_mem_nil) xi_in) xi_in) ⟨_, _, rfl, hMI⟩ rfl hla (by simp [Value.category]) ⟨by show _ + 0 ≤ _; omega, by show _ + 0 ≤ _; omega⟩ dL_law_788 ?_
  intro x2 J1 B1 H2 locs2 hx2 hQ2 hH hS
  rw [Q_X10_index_c] at hQ2
  have hM1 : MI J1 B1 := hQ2.1
  have hfm : Fm J J1 := hQ2.2
  refine lv_pop hx hb dL_law_791 rfl ?_
  refine lv_goto hx hb (tgt := 1547) dL_law_792 rfl ?_
  exact kk cells slots L lv I1 A1 J1 B1 g H2 locs2 la rfl hH hC1 hM1 (REL_q hRel hcq hfm) hS hl (by rw [Fm_t hfm]; omega) (by rw [Fm_t hfm]; omega)
theorem cs_795 (hF : LFx p l s m args c D cy S P0 T b Lx xs cL) (hH : LH D cy S ao cL H L lv I A M J B g) (hC : CI I A) (hMI : MI J B) (hRel : REL I A J) (hS : va_S S s.heap H locs) (hl : lv_has la 7 [(4, .int (oI i)), (3, .ref ao), (2, .ref (M 300)), (1, .ref (L 0)), (0, .ref b)]) (hi0 : 0 ≤ i) (hi6 : i + 6 ≤ Lx) (hLx : Lx ≤ 3072) (hcc : cells ≤ 580000 ∧ slots ≤ 7230000)
    (kk : ∀ (cells' slots' : Nat) (L' : Nat → Nat) (lv' : List Nat) (I' A' J' B' : FN) (g' : Nat → Int64) (H1 : Heap) (locs1 : List Loc) (la' : Array Slot), L' 0 = L 0 → LH D cy S ao cL H1 L' lv' I' A' M J' B' g' → CI I' A' → MI J' B' → REL I' A' J' → va_S S s.heap H1 locs1 → lv_has la' 7 [(4, .int (oI i)), (3, .ref ao), (2, .ref (M 300)), (1, .ref (L 0)), (0, .ref b)] → cells' + 11 * (J' 300 17).toNat ≤ cells + 11 * (J 300 17).toNat + 700 → slots' + 77 * (J' 300 17).toNat ≤ slots + 77 * (J 300 17).toNat + 14000 → W p l e room_1 s m args below meth c H1 locs1 cells' slots' Qf (F0 m 1547 la' [])) :
    W p l e room_1 s m args below meth c H locs cells slots Qf (F0 m 795 la []) := by
  have hF0 := hF
  obtain ⟨⟨hx, hb, hml, hown, hts⟩, -, -, -, ⟨hX, hbl, hbS⟩, -⟩ := hF0
  have hla : la.size = 7 := hl.1
  have g0 := lv_at hl 4 rfl
  have g4 := lv_at hl 0 rfl
  have tp := hMI.tp
  refine lv_aload_n hx hb dL_law_795 rfl (lv_at hl 3 rfl) ?_
  refine law_arg (k := 1) hx hb hX hbl hbS hS g0 g4 hi0 (by omega) hLx dL_law_796 dL_law_797 dL_law_799 dL_law_800 dL_law_801 ?_
  refine law_arg (k := 2) hx hb hX hbl hbS hS g0 g4 hi0 (by omega) hLx dL_law_802 dL_law_803 dL_law_805 dL_law_806 dL_law_807 ?_
  refine law_C hF hH hS c_X9_vector (by decide) (by decide) (gdV (mW17 (List.mem_of_getElem? (i := 4) rfl)) (mW17 (List.mem_of_getElem? (i := 5) rfl)) (mW17 (List.mem_of_getElem? (i := 6) rfl)) (mW0 (List.mem_of_getElem? (i := 24) rfl)) (mW7 (List.mem_of_getElem? (i := 60) rfl))) rfl (n := 2) (by decide +kernel) (as' := [.inl (xi xs i 1), .inl (xi xs i 2)]) (okS_c (okS_c (fun v hv => absurd hv List.not_mem_nil) xi_in) xi_in) ⟨_, _, rfl, hC⟩ rfl hla (by simp [Value.category]) ⟨by omega, by omega⟩ dL_law_808 ?_
  intro x1 I1 A1 H1 locs1 hx1 hQ1 h77 hH hS
  rw [Q_X9_vector_c] at hQ1
  have hcq : CQ I A I1 A1 := hQ1
  have hC1 : CI I1 A1 := hcq.1
  refine lv_pop hx hb dL_law_811 rfl ?_
  refine lv_aload_n hx hb dL_law_812 rfl (lv_at hl 2 rfl) ?_
  refine law_arg (k := 1) hx hb hX hbl hbS hS g0 g4 hi0 (by omega) hLx dL_law_813 dL_law_814 dL_law_816 dL_law_817 dL_law_818 ?_
  refine law_arg (k := 2) hx hb hX hbl hbS hS g0 g4 hi0 (by omega) hLx dL_law_819 dL_law_820 dL_law_822 dL_law_823 dL_law_824 ?_
  refine law_R hF hH hS c_X10_vector (by decide) (by decide) (gdV (mW17 (List.mem_of_getElem? (i := 7) rfl)) (mW17 (List.mem_of_getElem? (i := 8) rfl)) (mW17 (List.mem_of_getElem? (i := 9) rfl)) (mW10 (List.mem_of_getElem? (i := 20) rfl)) (mW13 (List.mem_of_getElem? (i := 18) rfl))) rfl (n := 2) (by decide +kernel) (as' := [.inl (xi xs i 1), .inl (xi xs i 2)]) (okS_c (okS_c (fun v hv => absurd hv List.not_mem_nil) xi_in) xi_in) ⟨_, _, rfl, hMI⟩ rfl hla (by simp [Value.category]) ⟨by show _ + 0 ≤ _; omega, by show _ + 0 ≤ _; omega⟩ dL_law_825 ?_
  intro x2 J1 B1 H2 locs2 hx2 hQ2 hH hS
  rw [Q_X10_vector_c] at hQ2
  have hM1 : MI J1 B1 := hQ2.1
  have hfm : Fm J J1 := hQ2.2
  refine lv_pop hx hb dL_law_828 rfl ?_
  refine lv_goto hx hb (tgt := 1547) dL_law_829 rfl ?_
  exact kk cells slots L lv I1 A1 J1 B1 g H2 locs2 la rfl hH hC1 hM1 (REL_q hRel hcq hfm) hS hl (by rw [Fm_t hfm]; omega) (by rw [Fm_t hfm]; omega)
theorem cs_832 (hF : LFx p l s m args c D cy S P0 T b Lx xs cL) (hH : LH D cy S ao cL H L lv I A M J B g) (hC : CI I A) (hMI : MI J B) (hRel : REL I A J) (hS : va_S S s.heap H locs) (hl : lv_has la 7 [(4, .int (oI i)), (3, .ref ao), (2, .ref (M 300)), (1, .ref (L 0)), (0, .ref b)]) (hi0 : 0 ≤ i) (hi6 : i + 6 ≤ Lx) (hLx : Lx ≤ 3072) (hcc : cells ≤ 580000 ∧ slots ≤ 7230000)
    (kk : ∀ (cells' slots' : Nat) (L' : Nat → Nat) (lv' : List Nat) (I' A' J' B' : FN) (g' : Nat → Int64) (H1 : Heap) (locs1 : List Loc) (la' : Array Slot), L' 0 = L 0 → LH D cy S ao cL H1 L' lv' I' A' M J' B' g' → CI I' A' → MI J' B' → REL I' A' J' → va_S S s.heap H1 locs1 → lv_has la' 7 [(4, .int (oI i)), (3, .ref ao), (2, .ref (M 300)), (1, .ref (L 0)), (0, .ref b)] → cells' + 11 * (J' 300 17).toNat ≤ cells + 11 * (J 300 17).toNat + 700 → slots' + 77 * (J' 300 17).toNat ≤ slots + 77 * (J 300 17).toNat + 14000 → W p l e room_1 s m args below meth c H1 locs1 cells' slots' Qf (F0 m 1547 la' [])) :
    W p l e room_1 s m args below meth c H locs cells slots Qf (F0 m 832 la []) := by
  have hF0 := hF
  obtain ⟨⟨hx, hb, hml, hown, hts⟩, -, -, -, ⟨hX, hbl, hbS⟩, -⟩ := hF0
  have hla : la.size = 7 := hl.1
  have g0 := lv_at hl 4 rfl
  have g4 := lv_at hl 0 rfl
  have tp := hMI.tp
  refine lv_aload_n hx hb dL_law_832 rfl (lv_at hl 3 rfl) ?_
  refine law_arg (k := 1) hx hb hX hbl hbS hS g0 g4 hi0 (by omega) hLx dL_law_833 dL_law_834 dL_law_836 dL_law_837 dL_law_838 ?_
  refine law_arg (k := 2) hx hb hX hbl hbS hS g0 g4 hi0 (by omega) hLx dL_law_839 dL_law_840 dL_law_842 dL_law_843 dL_law_844 ?_
  refine law_arg (k := 3) hx hb hX hbl hbS hS g0 g4 hi0 (by omega) hLx dL_law_845 dL_law_846 dL_law_848 dL_law_849 dL_law_850 ?_
  refine law_C hF hH hS c_X9_knows (by decide) (by decide) (gdV (mW17 (List.mem_of_getElem? (i := 10) rfl)) (mW17 (List.mem_of_getElem? (i := 11) rfl)) (mW17 (List.mem_of_getElem? (i := 12) rfl)) (mW0 (List.mem_of_getElem? (i := 24) rfl)) (mW7 (List.mem_of_getElem? (i := 61) rfl))) rfl (n := 3) (by decide +kernel) (as' := [.inl (xi xs i 1), .inl (xi xs i 2), .inl (xi xs i 3)]) (okS_c (okS_c (okS_c (fun v hv => absurd hv List.not_mem_nil) xi_in) xi_in) xi_in) ⟨_, _, _, rfl, hC⟩ rfl hla (by simp [Value.category]) ⟨by omega, by omega⟩ dL_law_851 ?_
  intro x1 I1 A1 H1 locs1 hx1 hQ1 h77 hH hS
  rw [Q_X9_knows_c] at hQ1
  have hcq : CQ I A I1 A1 := hQ1
  have hC1 : CI I1 A1 := hcq.1
  refine lv_pop hx hb dL_law_854 rfl ?_
  refine lv_aload_n hx hb dL_law_855 rfl (lv_at hl 2 rfl) ?_
  refine law_arg (k := 1) hx hb hX hbl hbS hS g0 g4 hi0 (by omega) hLx dL_law_856 dL_law_857 dL_law_859 dL_law_860 dL_law_861 ?_
  refine law_arg (k := 2) hx hb hX hbl hbS hS g0 g4 hi0 (by omega) hLx dL_law_862 dL_law_863 dL_law_865 dL_law_866 dL_law_867 ?_
  refine law_arg (k := 3) hx hb hX hbl hbS hS g0 g4 hi0 (by omega) hLx dL_law_868 dL_law_869 dL_law_871 dL_law_872 dL_law_873 ?_
  refine law_R hF hH hS c_X10_knows (by decide) (by decide) (gdV (mW17 (List.mem_of_getElem? (i := 13) rfl)) (mW17 (List.mem_of_getElem? (i := 14) rfl)) (mW17 (List.mem_of_getElem? (i := 15) rfl)) (mW10 (List.mem_of_getElem? (i := 20) rfl)) (mW13 (List.mem_of_getElem? (i := 19) rfl))) rfl (n := 3) (by decide +kernel) (as' := [.inl (xi xs i 1), .inl (xi xs i 2), .inl (xi xs i 3)]) (okS_c (okS_c (okS_c (fun v hv => absurd hv List.not_mem_nil) xi_in) xi_in) xi_in) ⟨_, _, _, rfl, hMI⟩ rfl hla (by simp [Value.category]) ⟨by show _ + 0 ≤ _; omega, by show _ + 0 ≤ _; omega⟩ dL_law_874 ?_
  intro x2 J1 B1 H2 locs2 hx2 hQ2 hH hS
  rw [Q_X10_knows_c] at hQ2
  have hM1 : MI J1 B1 := hQ2.1
  have hfm : Fm J J1 := hQ2.2
  refine lv_pop hx hb dL_law_877 rfl ?_
  refine lv_goto hx hb (tgt := 1547) dL_law_878 rfl ?_
  exact kk cells slots L lv I1 A1 J1 B1 g H2 locs2 la rfl hH hC1 hM1 (REL_q hRel hcq hfm) hS hl (by rw [Fm_t hfm]; omega) (by rw [Fm_t hfm]; omega)
theorem cs_881 (hF : LFx p l s m args c D cy S P0 T b Lx xs cL) (hH : LH D cy S ao cL H L lv I A M J B g) (hC : CI I A) (hMI : MI J B) (hRel : REL I A J) (hS : va_S S s.heap H locs) (hl : lv_has la 7 [(4, .int (oI i)), (3, .ref ao), (2, .ref (M 300)), (1, .ref (L 0)), (0, .ref b)]) (hi0 : 0 ≤ i) (hi6 : i + 6 ≤ Lx) (hLx : Lx ≤ 3072) (hcc : cells ≤ 580000 ∧ slots ≤ 7230000)
    (kk : ∀ (cells' slots' : Nat) (L' : Nat → Nat) (lv' : List Nat) (I' A' J' B' : FN) (g' : Nat → Int64) (H1 : Heap) (locs1 : List Loc) (la' : Array Slot), L' 0 = L 0 → LH D cy S ao cL H1 L' lv' I' A' M J' B' g' → CI I' A' → MI J' B' → REL I' A' J' → va_S S s.heap H1 locs1 → lv_has la' 7 [(4, .int (oI i)), (3, .ref ao), (2, .ref (M 300)), (1, .ref (L 0)), (0, .ref b)] → cells' + 11 * (J' 300 17).toNat ≤ cells + 11 * (J 300 17).toNat + 700 → slots' + 77 * (J' 300 17).toNat ≤ slots + 77 * (J 300 17).toNat + 14000 → W p l e room_1 s m args below meth c H1 locs1 cells' slots' Qf (F0 m 1547 la' [])) :
    W p l e room_1 s m args below meth c H locs cells slots Qf (F0 m 881 la []) := by
  have hF0 := hF
  obtain ⟨⟨hx, hb, hml, hown, hts⟩, -, -, -, ⟨hX, hbl, hbS⟩, -⟩ := hF0
  have hla : la.size = 7 := hl.1
  have g0 := lv_at hl 4 rfl
  have g4 := lv_at hl 0 rfl
  have tp := hMI.tp
  refine lv_aload_n hx hb dL_law_881 rfl (lv_at hl 3 rfl) ?_
  refine law_arg (k := 1) hx hb hX hbl hbS hS g0 g4 hi0 (by omega) hLx dL_law_882 dL_law_883 dL_law_885 dL_law_886 dL_law_887 ?_
  refine law_arg (k := 2) hx hb hX hbl hbS hS g0 g4 hi0 (by omega) hLx dL_law_888 dL_law_889 dL_law_891 dL_law_892 dL_law_893 ?_
  refine law_C hF hH hS c_X9_floor (by decide) (by decide) (gdV (mW17 (List.mem_of_getElem? (i := 16) rfl)) (mW17 (List.mem_of_getElem? (i := 17) rfl)) (mW17 (List.mem_of_getElem? (i := 18) rfl)) (mW0 (List.mem_of_getElem? (i := 24) rfl)) (mW7 (List.mem_of_getElem? (i := 63) rfl))) rfl (n := 2) (by decide +kernel) (as' := [.inl (xi xs i 1), .inl (xi xs i 2)]) (okS_c (okS_c (fun v hv => absurd hv List.not_mem_nil) xi_in) xi_in) ⟨_, _, rfl, hC⟩ rfl hla (by simp [Value.category]) ⟨by omega, by omega⟩ dL_law_894 ?_
  intro x1 I1 A1 H1 locs1 hx1 hQ1 h77 hH hS
  rw [Q_X9_floor_c] at hQ1
  have hcq : CQ I A I1 A1 := hQ1
  have hC1 : CI I1 A1 := hcq.1
  refine lv_pop hx hb dL_law_897 rfl ?_
  refine lv_aload_n hx hb dL_law_898 rfl (lv_at hl 2 rfl) ?_
  refine law_arg (k := 1) hx hb hX hbl hbS hS g0 g4 hi0 (by omega) hLx dL_law_899 dL_law_900 dL_law_902 dL_law_903 dL_law_904 ?_
  refine law_arg (k := 2) hx hb hX hbl hbS hS g0 g4 hi0 (by omega) hLx dL_law_905 dL_law_906 dL_law_908 dL_law_909 dL_law_910 ?_
  refine law_R hF hH hS c_X10_floor (by decide) (by decide) (gdV (mW17 (List.mem_of_getElem? (i := 19) rfl)) (mW17 (List.mem_of_getElem? (i := 20) rfl)) (mW17 (List.mem_of_getElem? (i := 21) rfl)) (mW10 (List.mem_of_getElem? (i := 20) rfl)) (mW13 (List.mem_of_getElem? (i := 20) rfl))) rfl (n := 2) (by decide +kernel) (as' := [.inl (xi xs i 1), .inl (xi xs i 2)]) (okS_c (okS_c (fun v hv => absurd hv List.not_mem_nil) xi_in) xi_in) ⟨_, _, rfl, hMI⟩ rfl hla (by simp [Value.category]) ⟨by show _ + 0 ≤ _; omega, by show _ + 0 ≤ _; omega⟩ dL_law_911 ?_
  intro x2 J1 B1 H2 locs2 hx2 hQ2 hH hS
  rw [Q_X10_floor_c] at hQ2
  have hM1 : MI J1 B1 := hQ2.1
  have hfm : Fm J J1 := hQ2.2
  refine lv_pop hx hb dL_law_914 rfl ?_
  refine lv_goto hx hb (tgt := 1547) dL_law_915 rfl ?_
  exact kk cells slots L lv I1 A1 J1 B1 g H2 locs2 la rfl hH hC1 hM1 (REL_q hRel hcq hfm) hS hl (by rw [Fm_t hfm]; omega) (by rw [Fm_t hfm]; omega)
theorem cs_918 (hF : LFx p l s m args c D cy S P0 T b Lx xs cL) (hH : LH D cy S ao cL H L lv I A M J B g) (hC : CI I A) (hMI : MI J B) (hRel : REL I A J) (hS : va_S S s.heap H locs) (hl : lv_has la 7 [(4, .int (oI i)), (3, .ref ao), (2, .ref (M 300)), (1, .ref (L 0)), (0, .ref b)]) (hi0 : 0 ≤ i) (hi6 : i + 6 ≤ Lx) (hLx : Lx ≤ 3072) (hcc : cells ≤ 580000 ∧ slots ≤ 7230000)
    (kk : ∀ (cells' slots' : Nat) (L' : Nat → Nat) (lv' : List Nat) (I' A' J' B' : FN) (g' : Nat → Int64) (H1 : Heap) (locs1 : List Loc) (la' : Array Slot), L' 0 = L 0 → LH D cy S ao cL H1 L' lv' I' A' M J' B' g' → CI I' A' → MI J' B' → REL I' A' J' → va_S S s.heap H1 locs1 → lv_has la' 7 [(4, .int (oI i)), (3, .ref ao), (2, .ref (M 300)), (1, .ref (L 0)), (0, .ref b)] → cells' + 11 * (J' 300 17).toNat ≤ cells + 11 * (J 300 17).toNat + 700 → slots' + 77 * (J' 300 17).toNat ≤ slots + 77 * (J 300 17).toNat + 14000 → W p l e room_1 s m args below meth c H1 locs1 cells' slots' Qf (F0 m 1547 la' [])) :
    W p l e room_1 s m args below meth c H locs cells slots Qf (F0 m 918 la []) := by
  have hF0 := hF
  obtain ⟨⟨hx, hb, hml, hown, hts⟩, -, -, -, ⟨hX, hbl, hbS⟩, -⟩ := hF0
  have hla : la.size = 7 := hl.1
  have g0 := lv_at hl 4 rfl
  have g4 := lv_at hl 0 rfl
  have tp := hMI.tp
  refine lv_aload_n hx hb dL_law_918 rfl (lv_at hl 3 rfl) ?_
  refine law_arg (k := 1) hx hb hX hbl hbS hS g0 g4 hi0 (by omega) hLx dL_law_919 dL_law_920 dL_law_922 dL_law_923 dL_law_924 ?_
  refine law_arg (k := 2) hx hb hX hbl hbS hS g0 g4 hi0 (by omega) hLx dL_law_925 dL_law_926 dL_law_928 dL_law_929 dL_law_930 ?_
  refine law_arg (k := 3) hx hb hX hbl hbS hS g0 g4 hi0 (by omega) hLx dL_law_931 dL_law_932 dL_law_934 dL_law_935 dL_law_936 ?_
  refine law_C hF hH hS c_X9_post (by decide) (by decide) (gdV (mW17 (List.mem_of_getElem? (i := 22) rfl)) (mW17 (List.mem_of_getElem? (i := 23) rfl)) (mW17 (List.mem_of_getElem? (i := 24) rfl)) (mW0 (List.mem_of_getElem? (i := 24) rfl)) (mW8 (List.mem_of_getElem? (i := 5) rfl))) rfl (n := 3) (by decide +kernel) (as' := [.inl (xi xs i 1), .inl (xi xs i 2), .inl (xi xs i 3)]) (okS_c (okS_c (okS_c (fun v hv => absurd hv List.not_mem_nil) xi_in) xi_in) xi_in) ⟨_, _, _, rfl, hC⟩ rfl hla (by simp [Value.category]) ⟨by omega, by omega⟩ dL_law_937 ?_
  intro x1 I1 A1 H1 locs1 hx1 hQ1 h77 hH hS
  rw [Q_X9_post_c] at hQ1
  have hcq : CQ I A I1 A1 := hQ1
  have hC1 : CI I1 A1 := hcq.1
  refine lv_pop hx hb dL_law_940 rfl ?_
  refine lv_aload_n hx hb dL_law_941 rfl (lv_at hl 2 rfl) ?_
  refine law_arg (k := 1) hx hb hX hbl hbS hS g0 g4 hi0 (by omega) hLx dL_law_942 dL_law_943 dL_law_945 dL_law_946 dL_law_947 ?_
  refine law_arg (k := 2) hx hb hX hbl hbS hS g0 g4 hi0 (by omega) hLx dL_law_948 dL_law_949 dL_law_951 dL_law_952 dL_law_953 ?_
  refine law_arg (k := 3) hx hb hX hbl hbS hS g0 g4 hi0 (by omega) hLx dL_law_954 dL_law_955 dL_law_957 dL_law_958 dL_law_959 ?_
  refine law_R hF hH hS c_X10_post (by decide) (by decide) (gdV (mW17 (List.mem_of_getElem? (i := 25) rfl)) (mW17 (List.mem_of_getElem? (i := 26) rfl)) (mW17 (List.mem_of_getElem? (i := 27) rfl)) (mW10 (List.mem_of_getElem? (i := 20) rfl)) (mW13 (List.mem_of_getElem? (i := 21) rfl))) rfl (n := 3) (by decide +kernel) (as' := [.inl (xi xs i 1), .inl (xi xs i 2), .inl (xi xs i 3)]) (okS_c (okS_c (okS_c (fun v hv => absurd hv List.not_mem_nil) xi_in) xi_in) xi_in) ⟨_, _, _, rfl, hMI⟩ rfl hla (by simp [Value.category]) ⟨by show _ + 0 ≤ _; omega, by show _ + 0 ≤ _; omega⟩ dL_law_960 ?_
  intro x2 J1 B1 H2 locs2 hx2 hQ2 hH hS
  rw [Q_X10_post_c] at hQ2
  have hM1 : MI J1 B1 := hQ2.1
  have hfm : Fm J J1 := hQ2.2
  refine lv_pop hx hb dL_law_963 rfl ?_
  refine lv_goto hx hb (tgt := 1547) dL_law_964 rfl ?_
  exact kk cells slots L lv I1 A1 J1 B1 g H2 locs2 la rfl hH hC1 hM1 (REL_q hRel hcq hfm) hS hl (by rw [Fm_t hfm]; omega) (by rw [Fm_t hfm]; omega)
theorem cs_967 (hF : LFx p l s m args c D cy S P0 T b Lx xs cL) (hH : LH D cy S ao cL H L lv I A M J B g) (hC : CI I A) (hMI : MI J B) (hRel : REL I A J) (hS : va_S S s.heap H locs) (hl : lv_has la 7 [(4, .int (oI i)), (3, .ref ao), (2, .ref (M 300)), (1, .ref (L 0)), (0, .ref b)]) (hi0 : 0 ≤ i) (hi6 : i + 6 ≤ Lx) (hLx : Lx ≤ 3072) (hcc : cells ≤ 580000 ∧ slots ≤ 7230000)
    (kk : ∀ (cells' slots' : Nat) (L' : Nat → Nat) (lv' : List Nat) (I' A' J' B' : FN) (g' : Nat → Int64) (H1 : Heap) (locs1 : List Loc) (la' : Array Slot), L' 0 = L 0 → LH D cy S ao cL H1 L' lv' I' A' M J' B' g' → CI I' A' → MI J' B' → REL I' A' J' → va_S S s.heap H1 locs1 → lv_has la' 7 [(4, .int (oI i)), (3, .ref ao), (2, .ref (M 300)), (1, .ref (L 0)), (0, .ref b)] → cells' + 11 * (J' 300 17).toNat ≤ cells + 11 * (J 300 17).toNat + 700 → slots' + 77 * (J' 300 17).toNat ≤ slots + 77 * (J 300 17).toNat + 14000 → W p l e room_1 s m args below meth c H1 locs1 cells' slots' Qf (F0 m 1547 la' [])) :
    W p l e room_1 s m args below meth c H locs cells slots Qf (F0 m 967 la []) := by
  have hF0 := hF
  obtain ⟨⟨hx, hb, hml, hown, hts⟩, -, -, -, ⟨hX, hbl, hbS⟩, -⟩ := hF0
  have hla : la.size = 7 := hl.1
  have g0 := lv_at hl 4 rfl
  have g4 := lv_at hl 0 rfl
  have tp := hMI.tp
  refine lv_aload_n hx hb dL_law_967 rfl (lv_at hl 3 rfl) ?_
  refine law_arg (k := 1) hx hb hX hbl hbS hS g0 g4 hi0 (by omega) hLx dL_law_968 dL_law_969 dL_law_971 dL_law_972 dL_law_973 ?_
  refine law_arg (k := 2) hx hb hX hbl hbS hS g0 g4 hi0 (by omega) hLx dL_law_974 dL_law_975 dL_law_977 dL_law_978 dL_law_979 ?_
  refine law_C hF hH hS c_X9_op (by decide) (by decide) (gdV (mW17 (List.mem_of_getElem? (i := 28) rfl)) (mW17 (List.mem_of_getElem? (i := 29) rfl)) (mW17 (List.mem_of_getElem? (i := 30) rfl)) (mW0 (List.mem_of_getElem? (i := 24) rfl)) (mW8 (List.mem_of_getElem? (i := 9) rfl))) rfl (n := 2) (by decide +kernel) (as' := [.inl (xi xs i 1), .inl (xi xs i 2)]) (okS_c (okS_c (fun v hv => absurd hv List.not_mem_nil) xi_in) xi_in) ⟨_, _, rfl, hC⟩ rfl hla (by simp [Value.category]) ⟨by omega, by omega⟩ dL_law_980 ?_
  intro x1 I1 A1 H1 locs1 hx1 hQ1 h77 hH hS
  rw [Q_X9_op_c] at hQ1
  have hcq : CQ I A I1 A1 := hQ1
  have hC1 : CI I1 A1 := hcq.1
  refine lv_pop hx hb dL_law_983 rfl ?_
  refine lv_aload_n hx hb dL_law_984 rfl (lv_at hl 2 rfl) ?_
  refine law_arg (k := 1) hx hb hX hbl hbS hS g0 g4 hi0 (by omega) hLx dL_law_985 dL_law_986 dL_law_988 dL_law_989 dL_law_990 ?_
  refine law_arg (k := 2) hx hb hX hbl hbS hS g0 g4 hi0 (by omega) hLx dL_law_991 dL_law_992 dL_law_994 dL_law_995 dL_law_996 ?_
  refine law_R hF hH hS c_X10_op (by decide) (by decide) (gdV (mW17 (List.mem_of_getElem? (i := 31) rfl)) (mW17 (List.mem_of_getElem? (i := 32) rfl)) (mW17 (List.mem_of_getElem? (i := 33) rfl)) (mW10 (List.mem_of_getElem? (i := 20) rfl)) (mW13 (List.mem_of_getElem? (i := 22) rfl))) rfl (n := 2) (by decide +kernel) (as' := [.inl (xi xs i 1), .inl (xi xs i 2)]) (okS_c (okS_c (fun v hv => absurd hv List.not_mem_nil) xi_in) xi_in) ⟨_, _, rfl, hMI⟩ rfl hla (by simp [Value.category]) ⟨by show _ + 0 ≤ _; omega, by show _ + 0 ≤ _; omega⟩ dL_law_997 ?_
  intro x2 J1 B1 H2 locs2 hx2 hQ2 hH hS
  rw [Q_X10_op_c] at hQ2
  have hM1 : MI J1 B1 := hQ2.1
  have hfm : Fm J J1 := hQ2.2
  refine lv_pop hx hb dL_law_1000 rfl ?_
  refine lv_goto hx hb (tgt := 1547) dL_law_1001 rfl ?_
  exact kk cells slots L lv I1 A1 J1 B1 g H2 locs2 la rfl hH hC1 hM1 (REL_q hRel hcq hfm) hS hl (by rw [Fm_t hfm]; omega) (by rw [Fm_t hfm]; omega)
theorem cs_1004 (hF : LFx p l s m args c D cy S P0 T b Lx xs cL) (hH : LH D cy S ao cL H L lv I A M J B g) (hC : CI I A) (hMI : MI J B) (hRel : REL I A J) (hS : va_S S s.heap H locs) (hl : lv_has la 7 [(4, .int (oI i)), (3, .ref ao), (2, .ref (M 300)), (1, .ref (L 0)), (0, .ref b)]) (hi0 : 0 ≤ i) (hi6 : i + 6 ≤ Lx) (hLx : Lx ≤ 3072) (hcc : cells ≤ 580000 ∧ slots ≤ 7230000)
    (kk : ∀ (cells' slots' : Nat) (L' : Nat → Nat) (lv' : List Nat) (I' A' J' B' : FN) (g' : Nat → Int64) (H1 : Heap) (locs1 : List Loc) (la' : Array Slot), L' 0 = L 0 → LH D cy S ao cL H1 L' lv' I' A' M J' B' g' → CI I' A' → MI J' B' → REL I' A' J' → va_S S s.heap H1 locs1 → lv_has la' 7 [(4, .int (oI i)), (3, .ref ao), (2, .ref (M 300)), (1, .ref (L 0)), (0, .ref b)] → cells' + 11 * (J' 300 17).toNat ≤ cells + 11 * (J 300 17).toNat + 700 → slots' + 77 * (J' 300 17).toNat ≤ slots + 77 * (J 300 17).toNat + 14000 → W p l e room_1 s m args below meth c H1 locs1 cells' slots' Qf (F0 m 1547 la' [])) :
    W p l e room_1 s m args below meth c H locs cells slots Qf (F0 m 1004 la []) := by
  have hF0 := hF
  obtain ⟨⟨hx, hb, hml, hown, hts⟩, -, -, -, ⟨hX, hbl, hbS⟩, -⟩ := hF0
  have hla : la.size = 7 := hl.1
  have g0 := lv_at hl 4 rfl
  have g4 := lv_at hl 0 rfl
  have tp := hMI.tp
  refine lv_aload_n hx hb dL_law_1004 rfl (lv_at hl 3 rfl) ?_
  refine law_arg (k := 1) hx hb hX hbl hbS hS g0 g4 hi0 (by omega) hLx dL_law_1005 dL_law_1006 dL_law_1008 dL_law_1009 dL_law_1010 ?_
  refine law_arg (k := 2) hx hb hX hbl hbS hS g0 g4 hi0 (by omega) hLx dL_law_1011 dL_law_1012 dL_law_1014 dL_law_1015 dL_law_1016 ?_
  refine law_C hF hH hS c_X9_needs (by decide) (by decide) (gdV (mW17 (List.mem_of_getElem? (i := 34) rfl)) (mW17 (List.mem_of_getElem? (i := 35) rfl)) (mW17 (List.mem_of_getElem? (i := 36) rfl)) (mW0 (List.mem_of_getElem? (i := 24) rfl)) (mW8 (List.mem_of_getElem? (i := 10) rfl))) rfl (n := 2) (by decide +kernel) (as' := [.inl (xi xs i 1), .inl (xi xs i 2)]) (okS_c (okS_c (fun v hv => absurd hv List.not_mem_nil) xi_in) xi_in) ⟨_, _, rfl, hC⟩ rfl hla (by simp [Value.category]) ⟨by omega, by omega⟩ dL_law_1017 ?_
  intro x1 I1 A1 H1 locs1 hx1 hQ1 h77 hH hS
  rw [Q_X9_needs_c] at hQ1
  have hcq : CQ I A I1 A1 := hQ1
  have hC1 : CI I1 A1 := hcq.1
  refine lv_pop hx hb dL_law_1020 rfl ?_
  refine lv_aload_n hx hb dL_law_1021 rfl (lv_at hl 2 rfl) ?_
  refine law_arg (k := 1) hx hb hX hbl hbS hS g0 g4 hi0 (by omega) hLx dL_law_1022 dL_law_1023 dL_law_1025 dL_law_1026 dL_law_1027 ?_
  refine law_arg (k := 2) hx hb hX hbl hbS hS g0 g4 hi0 (by omega) hLx dL_law_1028 dL_law_1029 dL_law_1031 dL_law_1032 dL_law_1033 ?_
  refine law_R hF hH hS c_X10_needs (by decide) (by decide) (gdV (mW17 (List.mem_of_getElem? (i := 37) rfl)) (mW17 (List.mem_of_getElem? (i := 38) rfl)) (mW17 (List.mem_of_getElem? (i := 39) rfl)) (mW10 (List.mem_of_getElem? (i := 20) rfl)) (mW13 (List.mem_of_getElem? (i := 23) rfl))) rfl (n := 2) (by decide +kernel) (as' := [.inl (xi xs i 1), .inl (xi xs i 2)]) (okS_c (okS_c (fun v hv => absurd hv List.not_mem_nil) xi_in) xi_in) ⟨_, _, rfl, hMI⟩ rfl hla (by simp [Value.category]) ⟨by show _ + 0 ≤ _; omega, by show _ + 0 ≤ _; omega⟩ dL_law_1034 ?_
  intro x2 J1 B1 H2 locs2 hx2 hQ2 hH hS
  rw [Q_X10_needs_c] at hQ2
  have hM1 : MI J1 B1 := hQ2.1
  have hfm : Fm J J1 := hQ2.2
  refine lv_pop hx hb dL_law_1037 rfl ?_
  refine lv_goto hx hb (tgt := 1547) dL_law_1038 rfl ?_
  exact kk cells slots L lv I1 A1 J1 B1 g H2 locs2 la rfl hH hC1 hM1 (REL_q hRel hcq hfm) hS hl (by rw [Fm_t hfm]; omega) (by rw [Fm_t hfm]; omega)
theorem cs_1041 (hF : LFx p l s m args c D cy S P0 T b Lx xs cL) (hH : LH D cy S ao cL H L lv I A M J B g) (hC : CI I A) (hMI : MI J B) (hRel : REL I A J) (hS : va_S S s.heap H locs) (hl : lv_has la 7 [(4, .int (oI i)), (3, .ref ao), (2, .ref (M 300)), (1, .ref (L 0)), (0, .ref b)]) (hi0 : 0 ≤ i) (hi6 : i + 6 ≤ Lx) (hLx : Lx ≤ 3072) (hcc : cells ≤ 580000 ∧ slots ≤ 7230000)
    (kk : ∀ (cells' slots' : Nat) (L' : Nat → Nat) (lv' : List Nat) (I' A' J' B' : FN) (g' : Nat → Int64) (H1 : Heap) (locs1 : List Loc) (la' : Array Slot), L' 0 = L 0 → LH D cy S ao cL H1 L' lv' I' A' M J' B' g' → CI I' A' → MI J' B' → REL I' A' J' → va_S S s.heap H1 locs1 → lv_has la' 7 [(4, .int (oI i)), (3, .ref ao), (2, .ref (M 300)), (1, .ref (L 0)), (0, .ref b)] → cells' + 11 * (J' 300 17).toNat ≤ cells + 11 * (J 300 17).toNat + 700 → slots' + 77 * (J' 300 17).toNat ≤ slots + 77 * (J 300 17).toNat + 14000 → W p l e room_1 s m args below meth c H1 locs1 cells' slots' Qf (F0 m 1547 la' [])) :
    W p l e room_1 s m args below meth c H locs cells slots Qf (F0 m 1041 la []) := by
  have hF0 := hF
  obtain ⟨⟨hx, hb, hml, hown, hts⟩, -, -, -, ⟨hX, hbl, hbS⟩, -⟩ := hF0
  have hla : la.size = 7 := hl.1
  have g0 := lv_at hl 4 rfl
  have g4 := lv_at hl 0 rfl
  have tp := hMI.tp
  refine lv_aload_n hx hb dL_law_1041 rfl (lv_at hl 3 rfl) ?_
  refine law_arg (k := 1) hx hb hX hbl hbS hS g0 g4 hi0 (by omega) hLx dL_law_1042 dL_law_1043 dL_law_1045 dL_law_1046 dL_law_1047 ?_
  refine law_arg (k := 2) hx hb hX hbl hbS hS g0 g4 hi0 (by omega) hLx dL_law_1048 dL_law_1049 dL_law_1051 dL_law_1052 dL_law_1053 ?_
  refine law_C hF hH hS c_X9_ahead (by decide) (by decide) (gdV (mW17 (List.mem_of_getElem? (i := 40) rfl)) (mW17 (List.mem_of_getElem? (i := 41) rfl)) (mW17 (List.mem_of_getElem? (i := 42) rfl)) (mW0 (List.mem_of_getElem? (i := 24) rfl)) (mW8 (List.mem_of_getElem? (i := 11) rfl))) rfl (n := 2) (by decide +kernel) (as' := [.inl (xi xs i 1), .inl (xi xs i 2)]) (okS_c (okS_c (fun v hv => absurd hv List.not_mem_nil) xi_in) xi_in) ⟨_, _, rfl, hC⟩ rfl hla (by simp [Value.category]) ⟨by omega, by omega⟩ dL_law_1054 ?_
  intro x1 I1 A1 H1 locs1 hx1 hQ1 h77 hH hS
  rw [Q_X9_ahead_c] at hQ1
  have hcq : CQ I A I1 A1 := hQ1
  have hC1 : CI I1 A1 := hcq.1
  refine lv_pop hx hb dL_law_1057 rfl ?_
  refine lv_aload_n hx hb dL_law_1058 rfl (lv_at hl 2 rfl) ?_
  refine law_arg (k := 1) hx hb hX hbl hbS hS g0 g4 hi0 (by omega) hLx dL_law_1059 dL_law_1060 dL_law_1062 dL_law_1063 dL_law_1064 ?_
  refine law_arg (k := 2) hx hb hX hbl hbS hS g0 g4 hi0 (by omega) hLx dL_law_1065 dL_law_1066 dL_law_1068 dL_law_1069 dL_law_1070 ?_
  refine law_R hF hH hS c_X10_ahead (by decide) (by decide) (gdV (mW17 (List.mem_of_getElem? (i := 43) rfl)) (mW17 (List.mem_of_getElem? (i := 44) rfl)) (mW17 (List.mem_of_getElem? (i := 45) rfl)) (mW10 (List.mem_of_getElem? (i := 20) rfl)) (mW13 (List.mem_of_getElem? (i := 24) rfl))) rfl (n := 2) (by decide +kernel) (as' := [.inl (xi xs i 1), .inl (xi xs i 2)]) (okS_c (okS_c (fun v hv => absurd hv List.not_mem_nil) xi_in) xi_in) ⟨_, _, rfl, hMI⟩ rfl hla (by simp [Value.category]) ⟨by show _ + 0 ≤ _; omega, by show _ + 0 ≤ _; omega⟩ dL_law_1071 ?_
  intro x2 J1 B1 H2 locs2 hx2 hQ2 hH hS
  rw [Q_X10_ahead_c] at hQ2
  have hM1 : MI J1 B1 := hQ2.1
  have hfm : Fm J J1 := hQ2.2
  refine lv_pop hx hb dL_law_1074 rfl ?_
  refine lv_goto hx hb (tgt := 1547) dL_law_1075 rfl ?_
  exact kk cells slots L lv I1 A1 J1 B1 g H2 locs2 la rfl hH hC1 hM1 (REL_q hRel hcq hfm) hS hl (by rw [Fm_t hfm]; omega) (by rw [Fm_t hfm]; omega)
theorem cs_1078 (hF : LFx p l s m args c D cy S P0 T b Lx xs cL) (hH : LH D cy S ao cL H L lv I A M J B g) (hC : CI I A) (hMI : MI J B) (hRel : REL I A J) (hS : va_S S s.heap H locs) (hl : lv_has la 7 [(4, .int (oI i)), (3, .ref ao), (2, .ref (M 300)), (1, .ref (L 0)), (0, .ref b)]) (hi0 : 0 ≤ i) (hi6 : i + 6 ≤ Lx) (hLx : Lx ≤ 3072) (hcc : cells ≤ 580000 ∧ slots ≤ 7230000)
    (kk : ∀ (cells' slots' : Nat) (L' : Nat → Nat) (lv' : List Nat) (I' A' J' B' : FN) (g' : Nat → Int64) (H1 : Heap) (locs1 : List Loc) (la' : Array Slot), L' 0 = L 0 → LH D cy S ao cL H1 L' lv' I' A' M J' B' g' → CI I' A' → MI J' B' → REL I' A' J' → va_S S s.heap H1 locs1 → lv_has la' 7 [(4, .int (oI i)), (3, .ref ao), (2, .ref (M 300)), (1, .ref (L 0)), (0, .ref b)] → cells' + 11 * (J' 300 17).toNat ≤ cells + 11 * (J 300 17).toNat + 700 → slots' + 77 * (J' 300 17).toNat ≤ slots + 77 * (J 300 17).toNat + 14000 → W p l e room_1 s m args below meth c H1 locs1 cells' slots' Qf (F0 m 1547 la' [])) :
    W p l e room_1 s m args below meth c H locs cells slots Qf (F0 m 1078 la []) := by
  have hF0 := hF
  obtain ⟨⟨hx, hb, hml, hown, hts⟩, -, -, -, ⟨hX, hbl, hbS⟩, -⟩ := hF0
  have hla : la.size = 7 := hl.1
  have g0 := lv_at hl 4 rfl
  have g4 := lv_at hl 0 rfl
  have tp := hMI.tp
  refine lv_aload_n hx hb dL_law_1078 rfl (lv_at hl 3 rfl) ?_
  refine law_arg (k := 1) hx hb hX hbl hbS hS g0 g4 hi0 (by omega) hLx dL_law_1079 dL_law_1080 dL_law_1082 dL_law_1083 dL_law_1084 ?_
  refine law_arg (k := 2) hx hb hX hbl hbS hS g0 g4 hi0 (by omega) hLx dL_law_1085 dL_law_1086 dL_law_1088 dL_law_1089 dL_law_1090 ?_
  refine law_C hF hH hS c_X9_found (by decide) (by decide) (gdV (mW17 (List.mem_of_getElem? (i := 46) rfl)) (mW17 (List.mem_of_getElem? (i := 47) rfl)) (mW17 (List.mem_of_getElem? (i := 48) rfl)) (mW0 (List.mem_of_getElem? (i := 24) rfl)) (mW8 (List.mem_of_getElem? (i := 15) rfl))) rfl (n := 2) (by decide +kernel) (as' := [.inl (xi xs i 1), .inl (xi xs i 2)]) (okS_c (okS_c (fun v hv => absurd hv List.not_mem_nil) xi_in) xi_in) ⟨_, _, rfl, hC⟩ rfl hla (by simp [Value.category]) ⟨by omega, by omega⟩ dL_law_1091 ?_
  intro x1 I1 A1 H1 locs1 hx1 hQ1 h77 hH hS
  rw [Q_X9_found_c] at hQ1
  have hcq : CQ I A I1 A1 := hQ1
  have hC1 : CI I1 A1 := hcq.1
  refine lv_pop hx hb dL_law_1094 rfl ?_
  refine lv_aload_n hx hb dL_law_1095 rfl (lv_at hl 2 rfl) ?_
  refine law_arg (k := 1) hx hb hX hbl hbS hS g0 g4 hi0 (by omega) hLx dL_law_1096 dL_law_1097 dL_law_1099 dL_law_1100 dL_law_1101 ?_
  refine law_arg (k := 2) hx hb hX hbl hbS hS g0 g4 hi0 (by omega) hLx dL_law_1102 dL_law_1103 dL_law_1105 dL_law_1106 dL_law_1107 ?_
  refine law_R hF hH hS c_X10_found (by decide) (by decide) (gdV (mW17 (List.mem_of_getElem? (i := 49) rfl)) (mW17 (List.mem_of_getElem? (i := 50) rfl)) (mW17 (List.mem_of_getElem? (i := 51) rfl)) (mW10 (List.mem_of_getElem? (i := 20) rfl)) (mW13 (List.mem_of_getElem? (i := 57) rfl))) rfl (n := 2) (by decide +kernel) (as' := [.inl (xi xs i 1), .inl (xi xs i 2)]) (okS_c (okS_c (fun v hv => absurd hv List.not_mem_nil) xi_in) xi_in) ⟨_, _, rfl, hMI⟩ rfl hla (by simp [Value.category]) ⟨by show _ + 0 ≤ _; omega, by show _ + 0 ≤ _; omega⟩ dL_law_1108 ?_
  intro x2 J1 B1 H2 locs2 hx2 hQ2 hH hS
  rw [Q_X10_found_c] at hQ2
  have hM1 : MI J1 B1 := hQ2.1
  have hfm : Fm J J1 := hQ2.2
  refine lv_pop hx hb dL_law_1111 rfl ?_
  refine lv_goto hx hb (tgt := 1547) dL_law_1112 rfl ?_
  exact kk cells slots L lv I1 A1 J1 B1 g H2 locs2 la rfl hH hC1 hM1 (REL_q hRel hcq hfm) hS hl (by rw [Fm_t hfm]; omega) (by rw [Fm_t hfm]; omega)
theorem cs_1115 (hF : LFx p l s m args c D cy S P0 T b Lx xs cL) (hH : LH D cy S ao cL H L lv I A M J B g) (hC : CI I A) (hMI : MI J B) (hRel : REL I A J) (hS : va_S S s.heap H locs) (hl : lv_has la 7 [(4, .int (oI i)), (3, .ref ao), (2, .ref (M 300)), (1, .ref (L 0)), (0, .ref b)]) (hi0 : 0 ≤ i) (hi6 : i + 6 ≤ Lx) (hLx : Lx ≤ 3072) (hcc : cells ≤ 580000 ∧ slots ≤ 7230000)
    (kk : ∀ (cells' slots' : Nat) (L' : Nat → Nat) (lv' : List Nat) (I' A' J' B' : FN) (g' : Nat → Int64) (H1 : Heap) (locs1 : List Loc) (la' : Array Slot), L' 0 = L 0 → LH D cy S ao cL H1 L' lv' I' A' M J' B' g' → CI I' A' → MI J' B' → REL I' A' J' → va_S S s.heap H1 locs1 → lv_has la' 7 [(4, .int (oI i)), (3, .ref ao), (2, .ref (M 300)), (1, .ref (L 0)), (0, .ref b)] → cells' + 11 * (J' 300 17).toNat ≤ cells + 11 * (J 300 17).toNat + 700 → slots' + 77 * (J' 300 17).toNat ≤ slots + 77 * (J 300 17).toNat + 14000 → W p l e room_1 s m args below meth c H1 locs1 cells' slots' Qf (F0 m 1547 la' [])) :
    W p l e room_1 s m args below meth c H locs cells slots Qf (F0 m 1115 la []) := by
  have hF0 := hF
  obtain ⟨⟨hx, hb, hml, hown, hts⟩, -, -, -, ⟨hX, hbl, hbS⟩, -⟩ := hF0
  have hla : la.size = 7 := hl.1
  have g0 := lv_at hl 4 rfl
  have g4 := lv_at hl 0 rfl
  have tp := hMI.tp
  refine lv_aload_n hx hb dL_law_1115 rfl (lv_at hl 3 rfl) ?_
  refine law_arg (k := 1) hx hb hX hbl hbS hS g0 g4 hi0 (by omega) hLx dL_law_1116 dL_law_1117 dL_law_1119 dL_law_1120 dL_law_1121 ?_
  refine law_arg (k := 2) hx hb hX hbl hbS hS g0 g4 hi0 (by omega) hLx dL_law_1122 dL_law_1123 dL_law_1125 dL_law_1126 dL_law_1127 ?_
  refine law_C hF hH hS c_X9_rivals (by decide) (by decide) (gdV (mW17 (List.mem_of_getElem? (i := 52) rfl)) (mW17 (List.mem_of_getElem? (i := 53) rfl)) (mW17 (List.mem_of_getElem? (i := 54) rfl)) (mW0 (List.mem_of_getElem? (i := 24) rfl)) (mW8 (List.mem_of_getElem? (i := 23) rfl))) rfl (n := 2) (by decide +kernel) (as' := [.inl (xi xs i 1), .inl (xi xs i 2)]) (okS_c (okS_c (fun v hv => absurd hv List.not_mem_nil) xi_in) xi_in) ⟨_, _, rfl, hC⟩ rfl hla (by simp [Value.category]) ⟨by omega, by omega⟩ dL_law_1128 ?_
  intro x1 I1 A1 H1 locs1 hx1 hQ1 h77 hH hS
  rw [Q_X9_rivals_c] at hQ1
  have hcq : CQ I A I1 A1 := hQ1
  have hC1 : CI I1 A1 := hcq.1
  refine lv_pop hx hb dL_law_1131 rfl ?_
  refine lv_aload_n hx hb dL_law_1132 rfl (lv_at hl 2 rfl) ?_
  refine law_arg (k := 1) hx hb hX hbl hbS hS g0 g4 hi0 (by omega) hLx dL_law_1133 dL_law_1134 dL_law_1136 dL_law_1137 dL_law_1138 ?_
  refine law_arg (k := 2) hx hb hX hbl hbS hS g0 g4 hi0 (by omega) hLx dL_law_1139 dL_law_1140 dL_law_1142 dL_law_1143 dL_law_1144 ?_
  refine law_R hF hH hS c_X10_rivals (by decide) (by decide) (gdV (mW17 (List.mem_of_getElem? (i := 55) rfl)) (mW17 (List.mem_of_getElem? (i := 56) rfl)) (mW17 (List.mem_of_getElem? (i := 57) rfl)) (mW10 (List.mem_of_getElem? (i := 20) rfl)) (mW13 (List.mem_of_getElem? (i := 58) rfl))) rfl (n := 2) (by decide +kernel) (as' := [.inl (xi xs i 1), .inl (xi xs i 2)]) (okS_c (okS_c (fun v hv => absurd hv List.not_mem_nil) xi_in) xi_in) ⟨_, _, rfl, hMI⟩ rfl hla (by simp [Value.category]) ⟨by show _ + 0 ≤ _; omega, by show _ + 0 ≤ _; omega⟩ dL_law_1145 ?_
  intro x2 J1 B1 H2 locs2 hx2 hQ2 hH hS
  rw [Q_X10_rivals_c] at hQ2
  have hM1 : MI J1 B1 := hQ2.1
  have hfm : Fm J J1 := hQ2.2
  refine lv_pop hx hb dL_law_1148 rfl ?_
  refine lv_goto hx hb (tgt := 1547) dL_law_1149 rfl ?_
  exact kk cells slots L lv I1 A1 J1 B1 g H2 locs2 la rfl hH hC1 hM1 (REL_q hRel hcq hfm) hS hl (by rw [Fm_t hfm]; omega) (by rw [Fm_t hfm]; omega)
theorem cs_1152 (hF : LFx p l s m args c D cy S P0 T b Lx xs cL) (hH : LH D cy S ao cL H L lv I A M J B g) (hC : CI I A) (hMI : MI J B) (hRel : REL I A J) (hS : va_S S s.heap H locs) (hl : lv_has la 7 [(4, .int (oI i)), (3, .ref ao), (2, .ref (M 300)), (1, .ref (L 0)), (0, .ref b)]) (hi0 : 0 ≤ i) (hi6 : i + 6 ≤ Lx) (hLx : Lx ≤ 3072) (hcc : cells ≤ 580000 ∧ slots ≤ 7230000)
    (kk : ∀ (cells' slots' : Nat) (L' : Nat → Nat) (lv' : List Nat) (I' A' J' B' : FN) (g' : Nat → Int64) (H1 : Heap) (locs1 : List Loc) (la' : Array Slot), L' 0 = L 0 → LH D cy S ao cL H1 L' lv' I' A' M J' B' g' → CI I' A' → MI J' B' → REL I' A' J' → va_S S s.heap H1 locs1 → lv_has la' 7 [(4, .int (oI i)), (3, .ref ao), (2, .ref (M 300)), (1, .ref (L 0)), (0, .ref b)] → cells' + 11 * (J' 300 17).toNat ≤ cells + 11 * (J 300 17).toNat + 700 → slots' + 77 * (J' 300 17).toNat ≤ slots + 77 * (J 300 17).toNat + 14000 → W p l e room_1 s m args below meth c H1 locs1 cells' slots' Qf (F0 m 1547 la' [])) :
    W p l e room_1 s m args below meth c H locs cells slots Qf (F0 m 1152 la []) := by
  have hF0 := hF
  obtain ⟨⟨hx, hb, hml, hown, hts⟩, -, -, -, ⟨hX, hbl, hbS⟩, -⟩ := hF0
  have hla : la.size = 7 := hl.1
  have g0 := lv_at hl 4 rfl
  have g4 := lv_at hl 0 rfl
  have tp := hMI.tp
  refine lv_aload_n hx hb dL_law_1152 rfl (lv_at hl 3 rfl) ?_
  refine law_arg (k := 1) hx hb hX hbl hbS hS g0 g4 hi0 (by omega) hLx dL_law_1153 dL_law_1154 dL_law_1156 dL_law_1157 dL_law_1158 ?_
  refine law_arg (k := 2) hx hb hX hbl hbS hS g0 g4 hi0 (by omega) hLx dL_law_1159 dL_law_1160 dL_law_1162 dL_law_1163 dL_law_1164 ?_
  refine law_C hF hH hS c_X9_has (by decide) (by decide) (gdV (mW17 (List.mem_of_getElem? (i := 58) rfl)) (mW17 (List.mem_of_getElem? (i := 59) rfl)) (mW17 (List.mem_of_getElem? (i := 60) rfl)) (mW0 (List.mem_of_getElem? (i := 24) rfl)) (mW8 (List.mem_of_getElem? (i := 25) rfl))) rfl (n := 2) (by decide +kernel) (as' := [.inl (xi xs i 1), .inl (xi xs i 2)]) (okS_c (okS_c (fun v hv => absurd hv List.not_mem_nil) xi_in) xi_in) ⟨_, _, rfl, hC⟩ rfl hla (by simp [Value.category]) ⟨by omega, by omega⟩ dL_law_1165 ?_
  intro x1 I1 A1 H1 locs1 hx1 hQ1 h77 hH hS
  rw [Q_X9_has_c] at hQ1
  have hcq : CQ I A I1 A1 := hQ1.2
  have hC1 : CI I1 A1 := hcq.1
  refine lv_pop hx hb dL_law_1168 rfl ?_
  refine lv_aload_n hx hb dL_law_1169 rfl (lv_at hl 2 rfl) ?_
  refine law_arg (k := 1) hx hb hX hbl hbS hS g0 g4 hi0 (by omega) hLx dL_law_1170 dL_law_1171 dL_law_1173 dL_law_1174 dL_law_1175 ?_
  refine law_arg (k := 2) hx hb hX hbl hbS hS g0 g4 hi0 (by omega) hLx dL_law_1176 dL_law_1177 dL_law_1179 dL_law_1180 dL_law_1181 ?_
  refine law_R hF hH hS c_X10_has (by decide) (by decide) (gdV (mW17 (List.mem_of_getElem? (i := 61) rfl)) (mW17 (List.mem_of_getElem? (i := 62) rfl)) (mW17 (List.mem_of_getElem? (i := 63) rfl)) (mW10 (List.mem_of_getElem? (i := 20) rfl)) (mW13 (List.mem_of_getElem? (i := 25) rfl))) rfl (n := 2) (by decide +kernel) (as' := [.inl (xi xs i 1), .inl (xi xs i 2)]) (okS_c (okS_c (fun v hv => absurd hv List.not_mem_nil) xi_in) xi_in) ⟨_, _, rfl, hMI⟩ rfl hla (by simp [Value.category]) ⟨by show _ + 0 ≤ _; omega, by show _ + 0 ≤ _; omega⟩ dL_law_1182 ?_
  intro x2 J1 B1 H2 locs2 hx2 hQ2 hH hS
  rw [Q_X10_has_c] at hQ2
  have hM1 : MI J1 B1 := hQ2.2.1
  have hfm : Fm J J1 := hQ2.2.2
  refine lv_pop hx hb dL_law_1185 rfl ?_
  refine lv_goto hx hb (tgt := 1547) dL_law_1186 rfl ?_
  exact kk cells slots L lv I1 A1 J1 B1 g H2 locs2 la rfl hH hC1 hM1 (REL_q hRel hcq hfm) hS hl (by rw [Fm_t hfm]; omega) (by rw [Fm_t hfm]; omega)
theorem cs_1189 (hF : LFx p l s m args c D cy S P0 T b Lx xs cL) (hH : LH D cy S ao cL H L lv I A M J B g) (hC : CI I A) (hMI : MI J B) (hRel : REL I A J) (hS : va_S S s.heap H locs) (hl : lv_has la 7 [(4, .int (oI i)), (3, .ref ao), (2, .ref (M 300)), (1, .ref (L 0)), (0, .ref b)]) (hi0 : 0 ≤ i) (hi6 : i + 6 ≤ Lx) (hLx : Lx ≤ 3072) (hcc : cells ≤ 580000 ∧ slots ≤ 7230000)
    (kk : ∀ (cells' slots' : Nat) (L' : Nat → Nat) (lv' : List Nat) (I' A' J' B' : FN) (g' : Nat → Int64) (H1 : Heap) (locs1 : List Loc) (la' : Array Slot), L' 0 = L 0 → LH D cy S ao cL H1 L' lv' I' A' M J' B' g' → CI I' A' → MI J' B' → REL I' A' J' → va_S S s.heap H1 locs1 → lv_has la' 7 [(4, .int (oI i)), (3, .ref ao), (2, .ref (M 300)), (1, .ref (L 0)), (0, .ref b)] → cells' + 11 * (J' 300 17).toNat ≤ cells + 11 * (J 300 17).toNat + 700 → slots' + 77 * (J' 300 17).toNat ≤ slots + 77 * (J 300 17).toNat + 14000 → W p l e room_1 s m args below meth c H1 locs1 cells' slots' Qf (F0 m 1547 la' [])) :
    W p l e room_1 s m args below meth c H locs cells slots Qf (F0 m 1189 la []) := by
  have hF0 := hF
  obtain ⟨⟨hx, hb, hml, hown, hts⟩, -, -, -, ⟨hX, hbl, hbS⟩, -⟩ := hF0
  have hla : la.size = 7 := hl.1
  have g0 := lv_at hl 4 rfl
  have g4 := lv_at hl 0 rfl
  have tp := hMI.tp
  refine lv_aload_n hx hb dL_law_1189 rfl (lv_at hl 3 rfl) ?_
  refine law_arg (k := 1) hx hb hX hbl hbS hS g0 g4 hi0 (by omega) hLx dL_law_1190 dL_law_1191 dL_law_1193 dL_law_1194 dL_law_1195 ?_
  refine law_arg (k := 2) hx hb hX hbl hbS hS g0 g4 hi0 (by omega) hLx dL_law_1196 dL_law_1197 dL_law_1199 dL_law_1200 dL_law_1201 ?_
  refine law_C hF hH hS c_X9_count (by decide) (by decide) (gdV (mW18 (List.mem_of_getElem? (i := 0) rfl)) (mW18 (List.mem_of_getElem? (i := 1) rfl)) (mW18 (List.mem_of_getElem? (i := 2) rfl)) (mW0 (List.mem_of_getElem? (i := 24) rfl)) (mW8 (List.mem_of_getElem? (i := 52) rfl))) rfl (n := 2) (by decide +kernel) (as' := [.inl (xi xs i 1), .inl (xi xs i 2)]) (okS_c (okS_c (fun v hv => absurd hv List.not_mem_nil) xi_in) xi_in) ⟨_, _, rfl, hC⟩ rfl hla (by simp [Value.category]) ⟨by omega, by omega⟩ dL_law_1202 ?_
  intro x1 I1 A1 H1 locs1 hx1 hQ1 h77 hH hS
  rw [Q_X9_count_c] at hQ1
  have hcq : CQ I A I1 A1 := hQ1
  have hC1 : CI I1 A1 := hcq.1
  refine lv_pop hx hb dL_law_1205 rfl ?_
  refine lv_aload_n hx hb dL_law_1206 rfl (lv_at hl 2 rfl) ?_
  refine law_arg (k := 1) hx hb hX hbl hbS hS g0 g4 hi0 (by omega) hLx dL_law_1207 dL_law_1208 dL_law_1210 dL_law_1211 dL_law_1212 ?_
  refine law_arg (k := 2) hx hb hX hbl hbS hS g0 g4 hi0 (by omega) hLx dL_law_1213 dL_law_1214 dL_law_1216 dL_law_1217 dL_law_1218 ?_
  refine law_R hF hH hS c_X10_count (by decide) (by decide) (gdV (mW18 (List.mem_of_getElem? (i := 3) rfl)) (mW18 (List.mem_of_getElem? (i := 4) rfl)) (mW18 (List.mem_of_getElem? (i := 5) rfl)) (mW10 (List.mem_of_getElem? (i := 20) rfl)) (mW13 (List.mem_of_getElem? (i := 44) rfl))) rfl (n := 2) (by decide +kernel) (as' := [.inl (xi xs i 1), .inl (xi xs i 2)]) (okS_c (okS_c (fun v hv => absurd hv List.not_mem_nil) xi_in) xi_in) ⟨_, _, rfl, hMI⟩ rfl hla (by simp [Value.category]) ⟨by show _ + 0 ≤ _; omega, by show _ + 0 ≤ _; omega⟩ dL_law_1219 ?_
  intro x2 J1 B1 H2 locs2 hx2 hQ2 hH hS
  rw [Q_X10_count_c] at hQ2
  have hM1 : MI J1 B1 := hQ2.1
  have hfm : Fm J J1 := hQ2.2
  refine lv_pop hx hb dL_law_1222 rfl ?_
  refine lv_goto hx hb (tgt := 1547) dL_law_1223 rfl ?_
  exact kk cells slots L lv I1 A1 J1 B1 g H2 locs2 la rfl hH hC1 hM1 (REL_q hRel hcq hfm) hS hl (by rw [Fm_t hfm]; omega) (by rw [Fm_t hfm]; omega)
theorem cs_1226 (hF : LFx p l s m args c D cy S P0 T b Lx xs cL) (hH : LH D cy S ao cL H L lv I A M J B g) (hC : CI I A) (hMI : MI J B) (hRel : REL I A J) (hS : va_S S s.heap H locs) (hl : lv_has la 7 [(4, .int (oI i)), (3, .ref ao), (2, .ref (M 300)), (1, .ref (L 0)), (0, .ref b)]) (hi0 : 0 ≤ i) (hi6 : i + 6 ≤ Lx) (hLx : Lx ≤ 3072) (hcc : cells ≤ 580000 ∧ slots ≤ 7230000)
    (kk : ∀ (cells' slots' : Nat) (L' : Nat → Nat) (lv' : List Nat) (I' A' J' B' : FN) (g' : Nat → Int64) (H1 : Heap) (locs1 : List Loc) (la' : Array Slot), L' 0 = L 0 → LH D cy S ao cL H1 L' lv' I' A' M J' B' g' → CI I' A' → MI J' B' → REL I' A' J' → va_S S s.heap H1 locs1 → lv_has la' 7 [(4, .int (oI i)), (3, .ref ao), (2, .ref (M 300)), (1, .ref (L 0)), (0, .ref b)] → cells' + 11 * (J' 300 17).toNat ≤ cells + 11 * (J 300 17).toNat + 700 → slots' + 77 * (J' 300 17).toNat ≤ slots + 77 * (J 300 17).toNat + 14000 → W p l e room_1 s m args below meth c H1 locs1 cells' slots' Qf (F0 m 1547 la' [])) :
    W p l e room_1 s m args below meth c H locs cells slots Qf (F0 m 1226 la []) := by
  have hF0 := hF
  obtain ⟨⟨hx, hb, hml, hown, hts⟩, -, -, -, ⟨hX, hbl, hbS⟩, -⟩ := hF0
  have hla : la.size = 7 := hl.1
  have g0 := lv_at hl 4 rfl
  have g4 := lv_at hl 0 rfl
  have tp := hMI.tp
  refine lv_aload_n hx hb dL_law_1226 rfl (lv_at hl 3 rfl) ?_
  refine law_arg (k := 1) hx hb hX hbl hbS hS g0 g4 hi0 (by omega) hLx dL_law_1227 dL_law_1228 dL_law_1230 dL_law_1231 dL_law_1232 ?_
  refine law_arg (k := 2) hx hb hX hbl hbS hS g0 g4 hi0 (by omega) hLx dL_law_1233 dL_law_1234 dL_law_1236 dL_law_1237 dL_law_1238 ?_
  refine law_C hF hH hS c_X9_place (by decide) (by decide) (gdV (mW18 (List.mem_of_getElem? (i := 6) rfl)) (mW18 (List.mem_of_getElem? (i := 7) rfl)) (mW18 (List.mem_of_getElem? (i := 8) rfl)) (mW0 (List.mem_of_getElem? (i := 24) rfl)) (mW8 (List.mem_of_getElem? (i := 53) rfl))) rfl (n := 2) (by decide +kernel) (as' := [.inl (xi xs i 1), .inl (xi xs i 2)]) (okS_c (okS_c (fun v hv => absurd hv List.not_mem_nil) xi_in) xi_in) ⟨_, _, rfl, hC⟩ rfl hla (by simp [Value.category]) ⟨by omega, by omega⟩ dL_law_1239 ?_
  intro x1 I1 A1 H1 locs1 hx1 hQ1 h77 hH hS
  rw [Q_X9_place_c] at hQ1
  have hcq : CQ I A I1 A1 := hQ1
  have hC1 : CI I1 A1 := hcq.1
  refine lv_pop hx hb dL_law_1242 rfl ?_
  refine lv_aload_n hx hb dL_law_1243 rfl (lv_at hl 2 rfl) ?_
  refine law_arg (k := 1) hx hb hX hbl hbS hS g0 g4 hi0 (by omega) hLx dL_law_1244 dL_law_1245 dL_law_1247 dL_law_1248 dL_law_1249 ?_
  refine law_arg (k := 2) hx hb hX hbl hbS hS g0 g4 hi0 (by omega) hLx dL_law_1250 dL_law_1251 dL_law_1253 dL_law_1254 dL_law_1255 ?_
  refine law_R hF hH hS c_X10_place (by decide) (by decide) (gdV (mW18 (List.mem_of_getElem? (i := 9) rfl)) (mW18 (List.mem_of_getElem? (i := 10) rfl)) (mW18 (List.mem_of_getElem? (i := 11) rfl)) (mW10 (List.mem_of_getElem? (i := 20) rfl)) (mW13 (List.mem_of_getElem? (i := 45) rfl))) rfl (n := 2) (by decide +kernel) (as' := [.inl (xi xs i 1), .inl (xi xs i 2)]) (okS_c (okS_c (fun v hv => absurd hv List.not_mem_nil) xi_in) xi_in) ⟨_, _, rfl, hMI⟩ rfl hla (by simp [Value.category]) ⟨by show _ + 0 ≤ _; omega, by show _ + 0 ≤ _; omega⟩ dL_law_1256 ?_
  intro x2 J1 B1 H2 locs2 hx2 hQ2 hH hS
  rw [Q_X10_place_c] at hQ2
  have hM1 : MI J1 B1 := hQ2.1
  have hfm : Fm J J1 := hQ2.2
  refine lv_pop hx hb dL_law_1259 rfl ?_
  refine lv_goto hx hb (tgt := 1547) dL_law_1260 rfl ?_
  exact kk cells slots L lv I1 A1 J1 B1 g H2 locs2 la rfl hH hC1 hM1 (REL_q hRel hcq hfm) hS hl (by rw [Fm_t hfm]; omega) (by rw [Fm_t hfm]; omega)
theorem cs_1263 (hF : LFx p l s m args c D cy S P0 T b Lx xs cL) (hH : LH D cy S ao cL H L lv I A M J B g) (hC : CI I A) (hMI : MI J B) (hRel : REL I A J) (hS : va_S S s.heap H locs) (hl : lv_has la 7 [(4, .int (oI i)), (3, .ref ao), (2, .ref (M 300)), (1, .ref (L 0)), (0, .ref b)]) (hi0 : 0 ≤ i) (hi6 : i + 6 ≤ Lx) (hLx : Lx ≤ 3072) (hcc : cells ≤ 580000 ∧ slots ≤ 7230000)
    (kk : ∀ (cells' slots' : Nat) (L' : Nat → Nat) (lv' : List Nat) (I' A' J' B' : FN) (g' : Nat → Int64) (H1 : Heap) (locs1 : List Loc) (la' : Array Slot), L' 0 = L 0 → LH D cy S ao cL H1 L' lv' I' A' M J' B' g' → CI I' A' → MI J' B' → REL I' A' J' → va_S S s.heap H1 locs1 → lv_has la' 7 [(4, .int (oI i)), (3, .ref ao), (2, .ref (M 300)), (1, .ref (L 0)), (0, .ref b)] → cells' + 11 * (J' 300 17).toNat ≤ cells + 11 * (J 300 17).toNat + 700 → slots' + 77 * (J' 300 17).toNat ≤ slots + 77 * (J 300 17).toNat + 14000 → W p l e room_1 s m args below meth c H1 locs1 cells' slots' Qf (F0 m 1547 la' [])) :
    W p l e room_1 s m args below meth c H locs cells slots Qf (F0 m 1263 la []) := by
  have hF0 := hF
  obtain ⟨⟨hx, hb, hml, hown, hts⟩, -, -, -, ⟨hX, hbl, hbS⟩, -⟩ := hF0
  have hla : la.size = 7 := hl.1
  have g0 := lv_at hl 4 rfl
  have g4 := lv_at hl 0 rfl
  have tp := hMI.tp
  refine lv_aload_n hx hb dL_law_1263 rfl (lv_at hl 3 rfl) ?_
  refine law_arg (k := 1) hx hb hX hbl hbS hS g0 g4 hi0 (by omega) hLx dL_law_1264 dL_law_1265 dL_law_1267 dL_law_1268 dL_law_1269 ?_
  refine law_arg (k := 2) hx hb hX hbl hbS hS g0 g4 hi0 (by omega) hLx dL_law_1270 dL_law_1271 dL_law_1273 dL_law_1274 dL_law_1275 ?_
  refine law_C hF hH hS c_X9_unlike (by decide) (by decide) (gdV (mW18 (List.mem_of_getElem? (i := 12) rfl)) (mW18 (List.mem_of_getElem? (i := 13) rfl)) (mW18 (List.mem_of_getElem? (i := 14) rfl)) (mW0 (List.mem_of_getElem? (i := 24) rfl)) (mW8 (List.mem_of_getElem? (i := 55) rfl))) rfl (n := 2) (by decide +kernel) (as' := [.inl (xi xs i 1), .inl (xi xs i 2)]) (okS_c (okS_c (fun v hv => absurd hv List.not_mem_nil) xi_in) xi_in) ⟨_, _, rfl, hC⟩ rfl hla (by simp [Value.category]) ⟨by omega, by omega⟩ dL_law_1276 ?_
  intro x1 I1 A1 H1 locs1 hx1 hQ1 h77 hH hS
  rw [Q_X9_unlike_c] at hQ1
  have hcq : CQ I A I1 A1 := hQ1
  have hC1 : CI I1 A1 := hcq.1
  refine lv_pop hx hb dL_law_1279 rfl ?_
  refine lv_aload_n hx hb dL_law_1280 rfl (lv_at hl 2 rfl) ?_
  refine law_arg (k := 1) hx hb hX hbl hbS hS g0 g4 hi0 (by omega) hLx dL_law_1281 dL_law_1282 dL_law_1284 dL_law_1285 dL_law_1286 ?_
  refine law_arg (k := 2) hx hb hX hbl hbS hS g0 g4 hi0 (by omega) hLx dL_law_1287 dL_law_1288 dL_law_1290 dL_law_1291 dL_law_1292 ?_
  refine law_R hF hH hS c_X10_unlike (by decide) (by decide) (gdV (mW18 (List.mem_of_getElem? (i := 15) rfl)) (mW18 (List.mem_of_getElem? (i := 16) rfl)) (mW18 (List.mem_of_getElem? (i := 17) rfl)) (mW10 (List.mem_of_getElem? (i := 20) rfl)) (mW13 (List.mem_of_getElem? (i := 51) rfl))) rfl (n := 2) (by decide +kernel) (as' := [.inl (xi xs i 1), .inl (xi xs i 2)]) (okS_c (okS_c (fun v hv => absurd hv List.not_mem_nil) xi_in) xi_in) ⟨_, _, rfl, hMI⟩ rfl hla (by simp [Value.category]) ⟨by show _ + 0 ≤ _; omega, by show _ + 0 ≤ _; omega⟩ dL_law_1293 ?_
  intro x2 J1 B1 H2 locs2 hx2 hQ2 hH hS
  rw [Q_X10_unlike_c] at hQ2
  have hM1 : MI J1 B1 := hQ2.1
  have hfm : Fm J J1 := hQ2.2
  refine lv_pop hx hb dL_law_1296 rfl ?_
  refine lv_goto hx hb (tgt := 1547) dL_law_1297 rfl ?_
  exact kk cells slots L lv I1 A1 J1 B1 g H2 locs2 la rfl hH hC1 hM1 (REL_q hRel hcq hfm) hS hl (by rw [Fm_t hfm]; omega) (by rw [Fm_t hfm]; omega)
theorem cs_1300 (hF : LFx p l s m args c D cy S P0 T b Lx xs cL) (hH : LH D cy S ao cL H L lv I A M J B g) (hC : CI I A) (hMI : MI J B) (hRel : REL I A J) (hS : va_S S s.heap H locs) (hl : lv_has la 7 [(4, .int (oI i)), (3, .ref ao), (2, .ref (M 300)), (1, .ref (L 0)), (0, .ref b)]) (hi0 : 0 ≤ i) (hi6 : i + 6 ≤ Lx) (hLx : Lx ≤ 3072) (hcc : cells ≤ 580000 ∧ slots ≤ 7230000)
    (kk : ∀ (cells' slots' : Nat) (L' : Nat → Nat) (lv' : List Nat) (I' A' J' B' : FN) (g' : Nat → Int64) (H1 : Heap) (locs1 : List Loc) (la' : Array Slot), L' 0 = L 0 → LH D cy S ao cL H1 L' lv' I' A' M J' B' g' → CI I' A' → MI J' B' → REL I' A' J' → va_S S s.heap H1 locs1 → lv_has la' 7 [(4, .int (oI i)), (3, .ref ao), (2, .ref (M 300)), (1, .ref (L 0)), (0, .ref b)] → cells' + 11 * (J' 300 17).toNat ≤ cells + 11 * (J 300 17).toNat + 700 → slots' + 77 * (J' 300 17).toNat ≤ slots + 77 * (J 300 17).toNat + 14000 → W p l e room_1 s m args below meth c H1 locs1 cells' slots' Qf (F0 m 1547 la' [])) :
    W p l e room_1 s m args below meth c H locs cells slots Qf (F0 m 1300 la []) := by
  have hF0 := hF
  obtain ⟨⟨hx, hb, hml, hown, hts⟩, -, -, -, ⟨hX, hbl, hbS⟩, -⟩ := hF0
  have hla : la.size = 7 := hl.1
  have g0 := lv_at hl 4 rfl
  have g4 := lv_at hl 0 rfl
  have tp := hMI.tp
  refine lv_aload_n hx hb dL_law_1300 rfl (lv_at hl 3 rfl) ?_
  refine law_arg (k := 1) hx hb hX hbl hbS hS g0 g4 hi0 (by omega) hLx dL_law_1301 dL_law_1302 dL_law_1304 dL_law_1305 dL_law_1306 ?_
  refine law_arg (k := 2) hx hb hX hbl hbS hS g0 g4 hi0 (by omega) hLx dL_law_1307 dL_law_1308 dL_law_1310 dL_law_1311 dL_law_1312 ?_
  refine law_C hF hH hS c_X9_edits (by decide) (by decide) (gdV (mW18 (List.mem_of_getElem? (i := 18) rfl)) (mW18 (List.mem_of_getElem? (i := 19) rfl)) (mW18 (List.mem_of_getElem? (i := 20) rfl)) (mW0 (List.mem_of_getElem? (i := 24) rfl)) (mW8 (List.mem_of_getElem? (i := 60) rfl))) rfl (n := 2) (by decide +kernel) (as' := [.inl (xi xs i 1), .inl (xi xs i 2)]) (okS_c (okS_c (fun v hv => absurd hv List.not_mem_nil) xi_in) xi_in) ⟨_, _, rfl, hC⟩ rfl hla (by simp [Value.category]) ⟨by omega, by omega⟩ dL_law_1313 ?_
  intro x1 I1 A1 H1 locs1 hx1 hQ1 h77 hH hS
  rw [Q_X9_edits_c] at hQ1
  have hcq : CQ I A I1 A1 := hQ1
  have hC1 : CI I1 A1 := hcq.1
  refine lv_pop hx hb dL_law_1316 rfl ?_
  refine lv_aload_n hx hb dL_law_1317 rfl (lv_at hl 2 rfl) ?_
  refine law_arg (k := 1) hx hb hX hbl hbS hS g0 g4 hi0 (by omega) hLx dL_law_1318 dL_law_1319 dL_law_1321 dL_law_1322 dL_law_1323 ?_
  refine law_arg (k := 2) hx hb hX hbl hbS hS g0 g4 hi0 (by omega) hLx dL_law_1324 dL_law_1325 dL_law_1327 dL_law_1328 dL_law_1329 ?_
  refine law_R hF hH hS c_X10_edits (by decide) (by decide) (gdV (mW18 (List.mem_of_getElem? (i := 21) rfl)) (mW18 (List.mem_of_getElem? (i := 22) rfl)) (mW18 (List.mem_of_getElem? (i := 23) rfl)) (mW10 (List.mem_of_getElem? (i := 20) rfl)) (mW14 (List.mem_of_getElem? (i := 33) rfl))) rfl (n := 2) (by decide +kernel) (as' := [.inl (xi xs i 1), .inl (xi xs i 2)]) (okS_c (okS_c (fun v hv => absurd hv List.not_mem_nil) xi_in) xi_in) ⟨_, _, rfl, hMI⟩ rfl hla (by simp [Value.category]) ⟨by show _ + 0 ≤ _; omega, by show _ + 0 ≤ _; omega⟩ dL_law_1330 ?_
  intro x2 J1 B1 H2 locs2 hx2 hQ2 hH hS
  rw [Q_X10_edits_c] at hQ2
  have hM1 : MI J1 B1 := hQ2.1
  have hfm : Fm J J1 := hQ2.2
  refine lv_pop hx hb dL_law_1333 rfl ?_
  refine lv_goto hx hb (tgt := 1547) dL_law_1334 rfl ?_
  exact kk cells slots L lv I1 A1 J1 B1 g H2 locs2 la rfl hH hC1 hM1 (REL_q hRel hcq hfm) hS hl (by rw [Fm_t hfm]; omega) (by rw [Fm_t hfm]; omega)
theorem cs_1337 (hF : LFx p l s m args c D cy S P0 T b Lx xs cL) (hH : LH D cy S ao cL H L lv I A M J B g) (hC : CI I A) (hMI : MI J B) (hRel : REL I A J) (hS : va_S S s.heap H locs) (hl : lv_has la 7 [(4, .int (oI i)), (3, .ref ao), (2, .ref (M 300)), (1, .ref (L 0)), (0, .ref b)]) (hi0 : 0 ≤ i) (hi6 : i + 6 ≤ Lx) (hLx : Lx ≤ 3072) (hcc : cells ≤ 580000 ∧ slots ≤ 7230000)
    (kk : ∀ (cells' slots' : Nat) (L' : Nat → Nat) (lv' : List Nat) (I' A' J' B' : FN) (g' : Nat → Int64) (H1 : Heap) (locs1 : List Loc) (la' : Array Slot), L' 0 = L 0 → LH D cy S ao cL H1 L' lv' I' A' M J' B' g' → CI I' A' → MI J' B' → REL I' A' J' → va_S S s.heap H1 locs1 → lv_has la' 7 [(4, .int (oI i)), (3, .ref ao), (2, .ref (M 300)), (1, .ref (L 0)), (0, .ref b)] → cells' + 11 * (J' 300 17).toNat ≤ cells + 11 * (J 300 17).toNat + 700 → slots' + 77 * (J' 300 17).toNat ≤ slots + 77 * (J 300 17).toNat + 14000 → W p l e room_1 s m args below meth c H1 locs1 cells' slots' Qf (F0 m 1547 la' [])) :
    W p l e room_1 s m args below meth c H locs cells slots Qf (F0 m 1337 la []) := by
  have hF0 := hF
  obtain ⟨⟨hx, hb, hml, hown, hts⟩, -, -, -, ⟨hX, hbl, hbS⟩, -⟩ := hF0
  have hla : la.size = 7 := hl.1
  have g0 := lv_at hl 4 rfl
  have g4 := lv_at hl 0 rfl
  have tp := hMI.tp
  refine lv_aload_n hx hb dL_law_1337 rfl (lv_at hl 3 rfl) ?_
  refine law_arg (k := 1) hx hb hX hbl hbS hS g0 g4 hi0 (by omega) hLx dL_law_1338 dL_law_1339 dL_law_1341 dL_law_1342 dL_law_1343 ?_
  refine law_arg (k := 2) hx hb hX hbl hbS hS g0 g4 hi0 (by omega) hLx dL_law_1344 dL_law_1345 dL_law_1347 dL_law_1348 dL_law_1349 ?_
  refine law_C hF hH hS c_X9_settled (by decide) (by decide) (gdV (mW18 (List.mem_of_getElem? (i := 24) rfl)) (mW18 (List.mem_of_getElem? (i := 25) rfl)) (mW18 (List.mem_of_getElem? (i := 26) rfl)) (mW0 (List.mem_of_getElem? (i := 24) rfl)) (mW8 (List.mem_of_getElem? (i := 61) rfl))) rfl (n := 2) (by decide +kernel) (as' := [.inl (xi xs i 1), .inl (xi xs i 2)]) (okS_c (okS_c (fun v hv => absurd hv List.not_mem_nil) xi_in) xi_in) ⟨_, _, rfl, hC⟩ rfl hla (by simp [Value.category]) ⟨by omega, by omega⟩ dL_law_1350 ?_
  intro x1 I1 A1 H1 locs1 hx1 hQ1 h77 hH hS
  rw [Q_X9_settled_c] at hQ1
  have hcq : CQ I A I1 A1 := hQ1
  have hC1 : CI I1 A1 := hcq.1
  refine lv_pop hx hb dL_law_1353 rfl ?_
  refine lv_aload_n hx hb dL_law_1354 rfl (lv_at hl 2 rfl) ?_
  refine law_arg (k := 1) hx hb hX hbl hbS hS g0 g4 hi0 (by omega) hLx dL_law_1355 dL_law_1356 dL_law_1358 dL_law_1359 dL_law_1360 ?_
  refine law_arg (k := 2) hx hb hX hbl hbS hS g0 g4 hi0 (by omega) hLx dL_law_1361 dL_law_1362 dL_law_1364 dL_law_1365 dL_law_1366 ?_
  refine law_R hF hH hS c_X10_settled (by decide) (by decide) (gdV (mW18 (List.mem_of_getElem? (i := 27) rfl)) (mW18 (List.mem_of_getElem? (i := 28) rfl)) (mW18 (List.mem_of_getElem? (i := 29) rfl)) (mW10 (List.mem_of_getElem? (i := 20) rfl)) (mW13 (List.mem_of_getElem? (i := 52) rfl))) rfl (n := 2) (by decide +kernel) (as' := [.inl (xi xs i 1), .inl (xi xs i 2)]) (okS_c (okS_c (fun v hv => absurd hv List.not_mem_nil) xi_in) xi_in) ⟨_, _, rfl, hMI⟩ rfl hla (by simp [Value.category]) ⟨by show _ + 0 ≤ _; omega, by show _ + 0 ≤ _; omega⟩ dL_law_1367 ?_
  intro x2 J1 B1 H2 locs2 hx2 hQ2 hH hS
  rw [Q_X10_settled_c] at hQ2
  have hM1 : MI J1 B1 := hQ2.1
  have hfm : Fm J J1 := hQ2.2
  refine lv_pop hx hb dL_law_1370 rfl ?_
  refine lv_goto hx hb (tgt := 1547) dL_law_1371 rfl ?_
  exact kk cells slots L lv I1 A1 J1 B1 g H2 locs2 la rfl hH hC1 hM1 (REL_q hRel hcq hfm) hS hl (by rw [Fm_t hfm]; omega) (by rw [Fm_t hfm]; omega)
theorem cs_1374 (hF : LFx p l s m args c D cy S P0 T b Lx xs cL) (hH : LH D cy S ao cL H L lv I A M J B g) (hC : CI I A) (hMI : MI J B) (hRel : REL I A J) (hS : va_S S s.heap H locs) (hl : lv_has la 7 [(4, .int (oI i)), (3, .ref ao), (2, .ref (M 300)), (1, .ref (L 0)), (0, .ref b)]) (hi0 : 0 ≤ i) (hi6 : i + 6 ≤ Lx) (hLx : Lx ≤ 3072) (hcc : cells ≤ 580000 ∧ slots ≤ 7230000)
    (kk : ∀ (cells' slots' : Nat) (L' : Nat → Nat) (lv' : List Nat) (I' A' J' B' : FN) (g' : Nat → Int64) (H1 : Heap) (locs1 : List Loc) (la' : Array Slot), L' 0 = L 0 → LH D cy S ao cL H1 L' lv' I' A' M J' B' g' → CI I' A' → MI J' B' → REL I' A' J' → va_S S s.heap H1 locs1 → lv_has la' 7 [(4, .int (oI i)), (3, .ref ao), (2, .ref (M 300)), (1, .ref (L 0)), (0, .ref b)] → cells' + 11 * (J' 300 17).toNat ≤ cells + 11 * (J 300 17).toNat + 700 → slots' + 77 * (J' 300 17).toNat ≤ slots + 77 * (J 300 17).toNat + 14000 → W p l e room_1 s m args below meth c H1 locs1 cells' slots' Qf (F0 m 1547 la' [])) :
    W p l e room_1 s m args below meth c H locs cells slots Qf (F0 m 1374 la []) := by
  have hF0 := hF
  obtain ⟨⟨hx, hb, hml, hown, hts⟩, -, -, -, ⟨hX, hbl, hbS⟩, -⟩ := hF0
  have hla : la.size = 7 := hl.1
  have g0 := lv_at hl 4 rfl
  have g4 := lv_at hl 0 rfl
  have tp := hMI.tp
  refine lv_aload_n hx hb dL_law_1374 rfl (lv_at hl 3 rfl) ?_
  refine law_arg (k := 1) hx hb hX hbl hbS hS g0 g4 hi0 (by omega) hLx dL_law_1375 dL_law_1376 dL_law_1378 dL_law_1379 dL_law_1380 ?_
  refine law_arg (k := 2) hx hb hX hbl hbS hS g0 g4 hi0 (by omega) hLx dL_law_1381 dL_law_1382 dL_law_1384 dL_law_1385 dL_law_1386 ?_
  refine law_arg (k := 3) hx hb hX hbl hbS hS g0 g4 hi0 (by omega) hLx dL_law_1387 dL_law_1388 dL_law_1390 dL_law_1391 dL_law_1392 ?_
  refine law_arg (k := 4) hx hb hX hbl hbS hS g0 g4 hi0 (by omega) hLx dL_law_1393 dL_law_1394 dL_law_1396 dL_law_1397 dL_law_1398 ?_
  refine law_arg (k := 5) hx hb hX hbl hbS hS g0 g4 hi0 (by omega) hLx dL_law_1399 dL_law_1400 dL_law_1402 dL_law_1403 dL_law_1404 ?_
  refine law_C hF hH hS c_X9_feed (by decide) (by decide) (gdV (mW18 (List.mem_of_getElem? (i := 30) rfl)) (mW18 (List.mem_of_getElem? (i := 31) rfl)) (mW18 (List.mem_of_getElem? (i := 32) rfl)) (mW0 (List.mem_of_getElem? (i := 24) rfl)) (mW9 (List.mem_of_getElem? (i := 21) rfl))) rfl (n := 5) (by decide +kernel) (as' := [.inl (xi xs i 1), .inl (xi xs i 2), .inl (xi xs i 3), .inl (xi xs i 4), .inl (xi xs i 5)]) (okS_c (okS_c (okS_c (okS_c (okS_c (fun v hv => absurd hv List.not_mem_nil) xi_in) xi_in) xi_in) xi_in) xi_in) ⟨_, _, _, _, _, rfl, hC⟩ rfl hla (by simp [Value.category]) ⟨by omega, by omega⟩ dL_law_1405 ?_
  intro x1 I1 A1 H1 locs1 hx1 hQ1 h77 hH hS
  rw [Q_X9_feed_c] at hQ1
  have hC1 : CI I1 A1 := hQ1.1
  refine lv_pop hx hb dL_law_1408 rfl ?_
  refine lv_aload_n hx hb dL_law_1409 rfl (lv_at hl 2 rfl) ?_
  refine law_arg (k := 1) hx hb hX hbl hbS hS g0 g4 hi0 (by omega) hLx dL_law_1410 dL_law_1411 dL_law_1413 dL_law_1414 dL_law_1415 ?_
  refine law_arg (k := 2) hx hb hX hbl hbS hS g0 g4 hi0 (by omega) hLx dL_law_1416 dL_law_1417 dL_law_1419 dL_law_1420 dL_law_1421 ?_
  refine law_arg (k := 3) hx hb hX hbl hbS hS g0 g4 hi0 (by omega) hLx dL_law_1422 dL_law_1423 dL_law_1425 dL_law_1426 dL_law_1427 ?_
  refine law_arg (k := 4) hx hb hX hbl hbS hS g0 g4 hi0 (by omega) hLx dL_law_1428 dL_law_1429 dL_law_1431 dL_law_1432 dL_law_1433 ?_
  refine law_arg (k := 5) hx hb hX hbl hbS hS g0 g4 hi0 (by omega) hLx dL_law_1434 dL_law_1435 dL_law_1437 dL_law_1438 dL_law_1439 ?_
  refine law_R hF hH hS c_X10_feed (by decide) (by decide) (gdV (mW18 (List.mem_of_getElem? (i := 33) rfl)) (mW18 (List.mem_of_getElem? (i := 34) rfl)) (mW18 (List.mem_of_getElem? (i := 35) rfl)) (mW10 (List.mem_of_getElem? (i := 20) rfl)) (mW14 (List.mem_of_getElem? (i := 36) rfl))) rfl (n := 5) (by decide +kernel) (as' := [.inl (xi xs i 1), .inl (xi xs i 2), .inl (xi xs i 3), .inl (xi xs i 4), .inl (xi xs i 5)]) (okS_c (okS_c (okS_c (okS_c (okS_c (fun v hv => absurd hv List.not_mem_nil) xi_in) xi_in) xi_in) xi_in) xi_in) ⟨_, _, _, _, _, rfl, hMI⟩ rfl hla (by simp [Value.category]) ⟨by show _ + 0 ≤ _; omega, by show _ + 0 ≤ _; omega⟩ dL_law_1440 ?_
  intro x2 J1 B1 H2 locs2 hx2 hQ2 hH hS
  rw [Q_X10_feed_c] at hQ2
  have hM1 : MI J1 B1 := hQ2.1
  refine lv_pop hx hb dL_law_1443 rfl ?_
  refine lv_goto hx hb (tgt := 1547) dL_law_1444 rfl ?_
  have tp1 := hM1.tp
  exact kk cells slots L lv I1 A1 J1 B1 g H2 locs2 la rfl hH hC1 hM1 (REL_feed hRel hQ1.2 hQ2.2) hS hl (by rcases hQ2.2.2 with z | z <;> omega) (by rcases hQ2.2.2 with z | z <;> omega)
theorem cs_1447 (hF : LFx p l s m args c D cy S P0 T b Lx xs cL) (hH : LH D cy S ao cL H L lv I A M J B g) (hC : CI I A) (hMI : MI J B) (hRel : REL I A J) (hS : va_S S s.heap H locs) (hl : lv_has la 7 [(4, .int (oI i)), (3, .ref ao), (2, .ref (M 300)), (1, .ref (L 0)), (0, .ref b)]) (hi0 : 0 ≤ i) (hi6 : i + 6 ≤ Lx) (hLx : Lx ≤ 3072) (hcc : cells ≤ 580000 ∧ slots ≤ 7230000)
    (kk : ∀ (cells' slots' : Nat) (L' : Nat → Nat) (lv' : List Nat) (I' A' J' B' : FN) (g' : Nat → Int64) (H1 : Heap) (locs1 : List Loc) (la' : Array Slot), L' 0 = L 0 → LH D cy S ao cL H1 L' lv' I' A' M J' B' g' → CI I' A' → MI J' B' → REL I' A' J' → va_S S s.heap H1 locs1 → lv_has la' 7 [(4, .int (oI i)), (3, .ref ao), (2, .ref (M 300)), (1, .ref (L 0)), (0, .ref b)] → cells' + 11 * (J' 300 17).toNat ≤ cells + 11 * (J 300 17).toNat + 700 → slots' + 77 * (J' 300 17).toNat ≤ slots + 77 * (J 300 17).toNat + 14000 → W p l e room_1 s m args below meth c H1 locs1 cells' slots' Qf (F0 m 1547 la' [])) :
    W p l e room_1 s m args below meth c H locs cells slots Qf (F0 m 1447 la []) := by
  have hF0 := hF
  obtain ⟨⟨hx, hb, hml, hown, hts⟩, -, -, -, ⟨hX, hbl, hbS⟩, -⟩ := hF0
  have hla : la.size = 7 := hl.1
  have g0 := lv_at hl 4 rfl
  have g4 := lv_at hl 0 rfl
  have tp := hMI.tp
  refine lv_aload_n hx hb dL_law_1447 rfl (lv_at hl 3 rfl) ?_
  refine law_arg (k := 1) hx hb hX hbl hbS hS g0 g4 hi0 (by omega) hLx dL_law_1448 dL_law_1449 dL_law_1451 dL_law_1452 dL_law_1453 ?_
  refine law_S hF hH hS c_X9_script (by decide) (by decide) (gdV (mW18 (List.mem_of_getElem? (i := 36) rfl)) (mW18 (List.mem_of_getElem? (i := 37) rfl)) (mW18 (List.mem_of_getElem? (i := 38) rfl)) (mW0 (List.mem_of_getElem? (i := 24) rfl)) (mW9 (List.mem_of_getElem? (i := 60) rfl))) rfl (n := 1) (by decide +kernel) (as' := [.inl (xi xs i 1)]) (okS_c (fun v hv => absurd hv List.not_mem_nil) xi_in) ⟨_, rfl, hC⟩ rfl hla (by simp [Value.category]) ⟨by omega, by omega⟩ dL_law_1454 ?_
  intro x1 I1 A1 H1 locs1 hx1 hQ1 h77 hH hS
  rw [Q_X9_script_c] at hQ1
  have hC1 : CI I1 A1 := hQ1.1
  refine lv_pop hx hb dL_law_1457 rfl ?_
  refine lv_aload_n hx hb dL_law_1458 rfl (lv_at hl 2 rfl) ?_
  refine law_arg (k := 1) hx hb hX hbl hbS hS g0 g4 hi0 (by omega) hLx dL_law_1459 dL_law_1460 dL_law_1462 dL_law_1463 dL_law_1464 ?_
  refine law_R hF hH hS c_X10_script (by decide) (by decide) (gdV (mW18 (List.mem_of_getElem? (i := 39) rfl)) (mW18 (List.mem_of_getElem? (i := 40) rfl)) (mW18 (List.mem_of_getElem? (i := 41) rfl)) (mW10 (List.mem_of_getElem? (i := 20) rfl)) (mW15 (List.mem_of_getElem? (i := 40) rfl))) rfl (n := 1) (by decide +kernel) (as' := [.inl (xi xs i 1)]) (okS_c (fun v hv => absurd hv List.not_mem_nil) xi_in) ⟨_, rfl, hMI⟩ rfl hla (by simp [Value.category]) ⟨by rw [alS_e]; split <;> (dsimp only; omega), by rw [alS_e]; split <;> (dsimp only; omega)⟩ dL_law_1465 ?_
  intro x2 J1 B1 H2 locs2 hx2 hQ2 hH hS
  rw [Q_X10_script_c] at hQ2
  have hM1 : MI J1 B1 := hQ2.1
  refine lv_pop hx hb dL_law_1468 rfl ?_
  refine lv_goto hx hb (tgt := 1547) dL_law_1469 rfl ?_
  have tp1 := hM1.tp
  refine kk _ _ L lv I1 A1 J1 B1 g H2 locs2 la rfl hH hC1 hM1 (REL_script hRel hQ1.2 hQ2.2) hS hl ?_ ?_
  · rw [alS_e]
    split
    · next h => rw [hQ2.2.2.1 h]; dsimp only; omega
    · next h => rw [hQ2.2.2.2 h]; dsimp only; omega
  · rw [alS_e]
    split
    · next h => rw [hQ2.2.2.1 h]; dsimp only; omega
    · next h => rw [hQ2.2.2.2 h]; dsimp only; omega
theorem cs_1472 (hF : LFx p l s m args c D cy S P0 T b Lx xs cL) (hH : LH D cy S ao cL H L lv I A M J B g) (hC : CI I A) (hMI : MI J B) (hRel : REL I A J) (hS : va_S S s.heap H locs) (hl : lv_has la 7 [(4, .int (oI i)), (3, .ref ao), (2, .ref (M 300)), (1, .ref (L 0)), (0, .ref b)]) (hi0 : 0 ≤ i) (hi6 : i + 6 ≤ Lx) (hLx : Lx ≤ 3072) (hcc : cells ≤ 580000 ∧ slots ≤ 7230000)
    (kk : ∀ (cells' slots' : Nat) (L' : Nat → Nat) (lv' : List Nat) (I' A' J' B' : FN) (g' : Nat → Int64) (H1 : Heap) (locs1 : List Loc) (la' : Array Slot), L' 0 = L 0 → LH D cy S ao cL H1 L' lv' I' A' M J' B' g' → CI I' A' → MI J' B' → REL I' A' J' → va_S S s.heap H1 locs1 → lv_has la' 7 [(4, .int (oI i)), (3, .ref ao), (2, .ref (M 300)), (1, .ref (L 0)), (0, .ref b)] → cells' + 11 * (J' 300 17).toNat ≤ cells + 11 * (J 300 17).toNat + 700 → slots' + 77 * (J' 300 17).toNat ≤ slots + 77 * (J 300 17).toNat + 14000 → W p l e room_1 s m args below meth c H1 locs1 cells' slots' Qf (F0 m 1547 la' [])) :
    W p l e room_1 s m args below meth c H locs cells slots Qf (F0 m 1472 la []) := by
  have hF0 := hF
  obtain ⟨⟨hx, hb, hml, hown, hts⟩, -, -, -, ⟨hX, hbl, hbS⟩, -⟩ := hF0
  have hla : la.size = 7 := hl.1
  have g0 := lv_at hl 4 rfl
  have g4 := lv_at hl 0 rfl
  have tp := hMI.tp
  refine lv_aload_n hx hb dL_law_1472 rfl (lv_at hl 3 rfl) ?_
  refine law_arg (k := 1) hx hb hX hbl hbS hS g0 g4 hi0 (by omega) hLx dL_law_1473 dL_law_1474 dL_law_1476 dL_law_1477 dL_law_1478 ?_
  refine law_I hF hH hS hC xi_in hla (by simp [Value.category]) ⟨by omega, by omega⟩ dL_law_1479 ?_
  intro x1 I1 A1 L1 lv1 H1 locs1 hL1 hQ1 hH hS
  have hC1 : CI I1 A1 := hQ1.2.1
  refine lv_pop hx hb dL_law_1482 rfl ?_
  refine lv_aload_n hx hb dL_law_1483 rfl (lv_at hl 2 rfl) ?_
  refine law_arg (k := 1) hx hb hX hbl hbS hS g0 g4 hi0 (by omega) hLx dL_law_1484 dL_law_1485 dL_law_1487 dL_law_1488 dL_law_1489 ?_
  refine law_R hF hH hS c_X10_image (by decide) (by decide) (gdV (mW18 (List.mem_of_getElem? (i := 45) rfl)) (mW18 (List.mem_of_getElem? (i := 46) rfl)) (mW18 (List.mem_of_getElem? (i := 47) rfl)) (mW10 (List.mem_of_getElem? (i := 20) rfl)) (mW15 (List.mem_of_getElem? (i := 41) rfl))) rfl (n := 1) (by decide +kernel) (as' := [.inl (xi xs i 1)]) (okS_c (fun v hv => absurd hv List.not_mem_nil) xi_in) ⟨_, rfl, hMI⟩ rfl hla (by simp [Value.category]) ⟨by show _ + 0 ≤ _; omega, by show _ + 0 ≤ _; omega⟩ dL_law_1490 ?_
  intro x2 J1 B1 H2 locs2 hx2 hQ2 hH hS
  rw [Q_X10_image_c] at hQ2
  have hM1 : MI J1 B1 := hQ2.2.1
  refine lv_pop hx hb dL_law_1493 rfl ?_
  refine lv_goto hx hb (tgt := 1547) dL_law_1494 rfl ?_
  exact kk _ _ L1 lv1 I1 A1 J1 B1 g H2 locs2 la hL1 hH hC1 hM1 (REL_image hRel hQ1 hQ2.2.2 hMI.2.2.2.2.2.2.2.2.1) hS hl (by rw [hQ2.2.2.1]; show cells + 76 + 0 + _ ≤ _; omega) (by rw [hQ2.2.2.1]; show slots + 8789 + 0 + _ ≤ _; omega)
theorem cs_1497 (hF : LFx p l s m args c D cy S P0 T b Lx xs cL) (hH : LH D cy S ao cL H L lv I A M J B g) (hC : CI I A) (hMI : MI J B) (hRel : REL I A J) (hS : va_S S s.heap H locs) (hl : lv_has la 7 [(4, .int (oI i)), (3, .ref ao), (2, .ref (M 300)), (1, .ref (L 0)), (0, .ref b)]) (hi0 : 0 ≤ i) (hi6 : i + 6 ≤ Lx) (hLx : Lx ≤ 3072) (hcc : cells ≤ 580000 ∧ slots ≤ 7230000)
    (kk : ∀ (cells' slots' : Nat) (L' : Nat → Nat) (lv' : List Nat) (I' A' J' B' : FN) (g' : Nat → Int64) (H1 : Heap) (locs1 : List Loc) (la' : Array Slot), L' 0 = L 0 → LH D cy S ao cL H1 L' lv' I' A' M J' B' g' → CI I' A' → MI J' B' → REL I' A' J' → va_S S s.heap H1 locs1 → lv_has la' 7 [(4, .int (oI i)), (3, .ref ao), (2, .ref (M 300)), (1, .ref (L 0)), (0, .ref b)] → cells' + 11 * (J' 300 17).toNat ≤ cells + 11 * (J 300 17).toNat + 700 → slots' + 77 * (J' 300 17).toNat ≤ slots + 77 * (J 300 17).toNat + 14000 → W p l e room_1 s m args below meth c H1 locs1 cells' slots' Qf (F0 m 1547 la' [])) :
    W p l e room_1 s m args below meth c H locs cells slots Qf (F0 m 1497 la []) := by
  have hF0 := hF
  obtain ⟨⟨hx, hb, hml, hown, hts⟩, -, -, -, ⟨hX, hbl, hbS⟩, -⟩ := hF0
  have hla : la.size = 7 := hl.1
  have g0 := lv_at hl 4 rfl
  have g4 := lv_at hl 0 rfl
  have tp := hMI.tp
  refine lv_aload_n hx hb dL_law_1497 rfl (lv_at hl 3 rfl) ?_
  refine law_arg (k := 1) hx hb hX hbl hbS hS g0 g4 hi0 (by omega) hLx dL_law_1498 dL_law_1499 dL_law_1501 dL_law_1502 dL_law_1503 ?_
  refine law_C hF hH hS c_X9_back (by decide) (by decide) (gdV (mW18 (List.mem_of_getElem? (i := 48) rfl)) (mW18 (List.mem_of_getElem? (i := 49) rfl)) (mW18 (List.mem_of_getElem? (i := 50) rfl)) (mW0 (List.mem_of_getElem? (i := 24) rfl)) (mW10 (List.mem_of_getElem? (i := 1) rfl))) rfl (n := 1) (by decide +kernel) (as' := [.inl (xi xs i 1)]) (okS_c (fun v hv => absurd hv List.not_mem_nil) xi_in) ⟨_, rfl, hC⟩ rfl hla (by simp [Value.category]) ⟨by omega, by omega⟩ dL_law_1504 ?_
  intro x1 I1 A1 H1 locs1 hx1 hQ1 h77 hH hS
  rw [Q_X9_back_c] at hQ1
  have hcq : CQ I A I1 A1 := hQ1.2
  have hC1 : CI I1 A1 := hcq.1
  refine lv_aload_n hx hb dL_law_1507 rfl (lv_at hl 2 rfl) ?_
  refine law_arg (k := 1) hx hb hX hbl hbS hS g0 g4 hi0 (by omega) hLx dL_law_1508 dL_law_1509 dL_law_1511 dL_law_1512 dL_law_1513 ?_
  refine law_R hF hH hS c_X10_back (by decide) (by decide) (gdV (mW18 (List.mem_of_getElem? (i := 51) rfl)) (mW18 (List.mem_of_getElem? (i := 52) rfl)) (mW18 (List.mem_of_getElem? (i := 53) rfl)) (mW10 (List.mem_of_getElem? (i := 20) rfl)) (mW15 (List.mem_of_getElem? (i := 42) rfl))) rfl (n := 1) (by decide +kernel) (as' := [.inl (xi xs i 1)]) (okS_c (fun v hv => absurd hv List.not_mem_nil) xi_in) ⟨_, rfl, hMI⟩ rfl hla (by simp [Value.category]) ⟨by show _ + 0 ≤ _; omega, by show _ + 0 ≤ _; omega⟩ dL_law_1514 ?_
  intro x2 J1 B1 H2 locs2 hx2 hQ2 hH hS
  rw [Q_X10_back_c] at hQ2
  have hM1 : MI J1 B1 := hQ2.2.1
  have hfm : Fm J J1 := hQ2.2.2
  have hxe : x2 = x1 := by rw [hQ1.1, hQ2.1]; exact congrArg bI (propext ⟨fun z => ⟨⟨z.1.1, by have := z.1.2; omega⟩, (hRel.2 _ z.1.1 z.1.2).mpr z.2⟩, fun z => ⟨⟨z.1.1, by have := z.1.2; omega⟩, (hRel.2 _ z.1.1 (by have := z.1.2; omega)).mp z.2⟩⟩)
  refine lv_icmp_eq hx hb (tgt := 1547) dL_law_1517 rfl (fun _ => ?_) (fun z => absurd (by rw [hxe]) z)
  exact kk cells slots L lv I1 A1 J1 B1 g H2 locs2 la rfl hH hC1 hM1 (REL_q hRel hcq hfm) hS hl (by rw [Fm_t hfm]; omega) (by rw [Fm_t hfm]; omega)
theorem cs_1522 (hF : LFx p l s m args c D cy S P0 T b Lx xs cL) (hH : LH D cy S ao cL H L lv I A M J B g) (hC : CI I A) (hMI : MI J B) (hRel : REL I A J) (hS : va_S S s.heap H locs) (hl : lv_has la 7 [(4, .int (oI i)), (3, .ref ao), (2, .ref (M 300)), (1, .ref (L 0)), (0, .ref b)]) (hi0 : 0 ≤ i) (hi6 : i + 6 ≤ Lx) (hLx : Lx ≤ 3072) (hcc : cells ≤ 580000 ∧ slots ≤ 7230000)
    (kk : ∀ (cells' slots' : Nat) (L' : Nat → Nat) (lv' : List Nat) (I' A' J' B' : FN) (g' : Nat → Int64) (H1 : Heap) (locs1 : List Loc) (la' : Array Slot), L' 0 = L 0 → LH D cy S ao cL H1 L' lv' I' A' M J' B' g' → CI I' A' → MI J' B' → REL I' A' J' → va_S S s.heap H1 locs1 → lv_has la' 7 [(4, .int (oI i)), (3, .ref ao), (2, .ref (M 300)), (1, .ref (L 0)), (0, .ref b)] → cells' + 11 * (J' 300 17).toNat ≤ cells + 11 * (J 300 17).toNat + 700 → slots' + 77 * (J' 300 17).toNat ≤ slots + 77 * (J 300 17).toNat + 14000 → W p l e room_1 s m args below meth c H1 locs1 cells' slots' Qf (F0 m 1547 la' [])) :
    W p l e room_1 s m args below meth c H locs cells slots Qf (F0 m 1522 la []) := by
  have hF0 := hF
  obtain ⟨⟨hx, hb, hml, hown, hts⟩, -, -, -, ⟨hX, hbl, hbS⟩, -⟩ := hF0
  have hla : la.size = 7 := hl.1
  have g0 := lv_at hl 4 rfl
  have g4 := lv_at hl 0 rfl
  have tp := hMI.tp
  refine lv_aload_n hx hb dL_law_1522 rfl (lv_at hl 3 rfl) ?_
  refine law_arg (k := 1) hx hb hX hbl hbS hS g0 g4 hi0 (by omega) hLx dL_law_1523 dL_law_1524 dL_law_1526 dL_law_1527 dL_law_1528 ?_
  refine law_C hF hH hS c_X9_all (by decide) (by decide) (gdV (mW18 (List.mem_of_getElem? (i := 54) rfl)) (mW18 (List.mem_of_getElem? (i := 55) rfl)) (mW18 (List.mem_of_getElem? (i := 56) rfl)) (mW0 (List.mem_of_getElem? (i := 24) rfl)) (mW9 (List.mem_of_getElem? (i := 19) rfl))) rfl (n := 1) (by decide +kernel) (as' := [.inl (xi xs i 1)]) (okS_c (fun v hv => absurd hv List.not_mem_nil) xi_in) ⟨_, rfl, hC⟩ rfl hla (by simp [Value.category]) ⟨by omega, by omega⟩ dL_law_1529 ?_
  intro x1 I1 A1 H1 locs1 hx1 hQ1 h77 hH hS
  rw [Q_X9_all_c] at hQ1
  have hcq : CQ I A I1 A1 := hQ1
  have hC1 : CI I1 A1 := hcq.1
  refine lv_pop hx hb dL_law_1532 rfl ?_
  refine lv_aload_n hx hb dL_law_1533 rfl (lv_at hl 2 rfl) ?_
  refine law_arg (k := 1) hx hb hX hbl hbS hS g0 g4 hi0 (by omega) hLx dL_law_1534 dL_law_1535 dL_law_1537 dL_law_1538 dL_law_1539 ?_
  refine law_R hF hH hS c_X10_all_ (by decide) (by decide) (gdV (mW18 (List.mem_of_getElem? (i := 57) rfl)) (mW18 (List.mem_of_getElem? (i := 58) rfl)) (mW18 (List.mem_of_getElem? (i := 59) rfl)) (mW10 (List.mem_of_getElem? (i := 20) rfl)) (mW15 (List.mem_of_getElem? (i := 59) rfl))) rfl (n := 1) (by decide +kernel) (as' := [.inl (xi xs i 1)]) (okS_c (fun v hv => absurd hv List.not_mem_nil) xi_in) ⟨_, rfl, hMI⟩ rfl hla (by simp [Value.category]) ⟨by show _ + 0 ≤ _; omega, by show _ + 0 ≤ _; omega⟩ dL_law_1540 ?_
  intro x2 J1 B1 H2 locs2 hx2 hQ2 hH hS
  rw [Q_X10_all__c] at hQ2
  have hM1 : MI J1 B1 := hQ2.1
  have hfm : Fm J J1 := hQ2.2
  refine lv_pop hx hb dL_law_1543 rfl ?_
  refine lv_goto hx hb (tgt := 1547) dL_law_1544 rfl ?_
  exact kk cells slots L lv I1 A1 J1 B1 g H2 locs2 la rfl hH hC1 hM1 (REL_q hRel hcq hfm) hS hl (by rw [Fm_t hfm]; omega) (by rw [Fm_t hfm]; omega)
end CS
