def entL (n : Nat) (as : List AV) : Lc := as.map some ++ List.replicate (n - as.length) none
theorem lget_rep : ∀ (n i : Nat), lget i (List.replicate n none) = none
  | 0, i => by cases i <;> rfl
  | n + 1, 0 => rfl
  | n + 1, i + 1 => lget_rep n i
theorem ent_mem (L : Nat → Nat) (n : Nat) : ∀ (as : List AV) (k i : Nat) (v : AV), lget i (as.map some ++ List.replicate n none) = some v → (k + i, vv L v) ∈ lv_args k (as.map (vv L))
  | [], k, i, v, h => by
    rw [List.map_nil, List.nil_append, lget_rep] at h
    exact absurd h (by simp)
  | a :: t, k, 0, v, h => by
    have : a = v := Option.some.inj h
    subst this
    exact List.mem_cons_self
  | a :: t, k, i + 1, v, h => by
    have h2 := ent_mem L n t (k + 1) i v h
    refine List.mem_cons_of_mem _ ?_
    rw [if_neg (by rw [vv_cat]; decide), show k + (i + 1) = k + 1 + i by omega]
    exact h2
theorem sl_len (L : Nat → Nat) : ∀ as : List AV, (lg_sl (as.map (vv L))).length = as.length
  | [] => rfl
  | a :: t => by
    have h := sl_len L t
    unfold lg_sl at h ⊢
    rw [List.map_cons, List.flatMap_cons, List.length_append, h, if_neg (by rw [vv_cat]; decide)]
    simp
    omega
theorem ent_okL {lv : List Nat} {n : Nat} {as : List AV} (h : okS lv as) : okL lv (entL n as) := by
  intro v hv
  rcases List.mem_append.mp hv with h1 | h1
  · obtain ⟨a, ha, e⟩ := List.mem_map.mp h1
    cases e
    exact h v ha
  · exact absurd (List.eq_of_mem_replicate h1) (by simp)
theorem MetC_of {y : MethodName} {bytes : ByteArray} {maxL rt d : Nat} {ret : Option FieldType} {rv : Bool} {P : PT} {Q : QT} {al : AT} (hpl : plainName y.cls = true)
    (hret : (rt = 0 ∧ ret = none ∧ rv = false) ∨ (rt = 1 ∧ ret = some .int ∧ rv = true) ∨ (rt = 2 ∧ ret = some .boolean ∧ rv = true)) (hlen : ∀ as I A, P as I A → as.length ≤ maxL)
    (body : ∀ (X : Cx) (as : List AV) (I A : FN), Fx X y.cls bytes (.code y bytes maxL ret :: W0) → RmX X d (al as I A) → RtX X bytes rt (Q as I A) (al as I A) → P as I A → okF I → okF A → Go X (0, 0) 0 (entL maxL as) [] I A) :
    MetC y (.code y bytes maxL ret :: W0) d rv P Q al := by
  intro l D cy L lv sz as I A hlv hI hA him has hP
  refine Met.ofW (cc := bytes) (maxL := maxL) (ret := ret) hpl rfl ?_
  intro p e s m args below meth c s₁ B hml hv
  obtain ⟨rfl, hsz, hPP, hK, hD0⟩ := hv
  subst hsz
  have hx := B.exec
  have hb := B.bytes
  have hr := B.returns
  have hts := atoms_spec (ws := .code y bytes maxL ret :: W0) B.pre
  have hown : s.vm.findClass y.cls = some m.cls := findClass_of_methodNamed B.named
  have hlocks := B.notSynchronized
  have hD := hD0.self (sz := s.heap.size)
  have hle := hlen as I A hP
  have hl := lv_entry (as.map (vv L)) (n := maxL) (by rw [sl_len]; exact hle)
  rw [lg_entry_eq]
  generalize (lg_sl (as.map (vv L)) ++ List.replicate (maxL - (lg_sl (as.map (vv L))).length) Slot.unset).toArray = la at hl ⊢
  have hgo := body (p, l, e, rmD d (al as I A), s, m, (as.map (vv L)).toArray, below, meth, c, MQ below (QcX D cy L lv as I A s.heap.size rv Q) (as.map (vv L)).toArray s (al as I A).1 (al as I A).2 (va_A (wd cy L lv I A) s.heap.size), D, cy, L, lv, va_A (wd cy L lv I A) s.heap.size, maxL, I 77) as I A
    ⟨hx, hb, hml, hown, hts, hK, fun q h => Or.inr h, hlv, hlocks, him⟩ rfl ?_ hP hI hA
  · refine hgo hI hA rfl (fun v hv => absurd hv List.not_mem_nil) (ent_okL has) s.heap [] la hPP hD va_S.rf ⟨?_, _, hl, fun i v hi => ?_⟩
    · unfold entL
      rw [List.length_append, List.length_map, List.length_replicate]
      omega
    · have := ent_mem L _ as 0 i v hi
      rwa [Nat.zero_add] at this
  · refine ⟨fun q pc ls I' A' hq1 hq2 hd h0 hpost => ?_, fun q pc ls x I' A' hq1 hq2 hd h0 hpost => ?_⟩
    · intro hI' hA' h77 hst hls H locs la' hP' hD' hS' hL'
      refine W.widen hq1 hq2 ?_
      rcases hret with ⟨-, rfl, rfl⟩ | ⟨e1, -, -⟩ | ⟨e1, -, -⟩
      · exact W.vret hx hb hr (fun t ht hW => ⟨⟨none, I', A', rfl, rfl, fun z hz => absurd hz (by simp), hI', hA', h77, hpost, by rw [ht]; exact hP'⟩, hS'.F ht⟩) hS'.2.2 hd
      · omega
      · omega
    · intro hI' hA' h77 hst hls H locs la' hP' hD' hS' hL'
      refine W.widen hq1 hq2 ?_
      have hxI : inI x := okS_h hst
      rcases hret with ⟨e1, -, -⟩ | ⟨-, rfl, rfl⟩ | ⟨e1, rfl, rfl⟩
      · exfalso
        rcases h0 with h0 | h0
        · omega
        · have := h0.1; omega
      · exact W.iret (v := oI x) hx hb hr (fun t ht hW => ⟨⟨some x, I', A', rfl, rfl, fun z hz => by cases hz; exact hxI, hI', hA', h77, hpost, by rw [ht]; exact hP'⟩, hS'.F ht⟩) hS'.2.2 hd
      · have hx01 : x = 0 ∨ x = 1 := by
          rcases h0 with h0 | h0
          · omega
          · exact h0.2
        exact W.zret (v := oI x) hx hb hr (by rcases hx01 with rfl | rfl <;> rfl) (fun t ht hW => ⟨⟨some x, I', A', rfl, rfl, fun z hz => by cases hz; exact hxI, hI', hA', h77, hpost, by rw [ht]; exact hP'⟩, hS'.F ht⟩) hS'.2.2 hd
