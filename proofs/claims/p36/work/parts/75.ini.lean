/-! ===== constructors ===== -/
abbrev apw (x y : va_W) : va_W := x ++ y
def IX (w : va_W) (f : Nat → Nat) (o : Nat) : Prop := w.length = o ∧ ∀ i, i < o → ∃ e : va_E, w[i]? = some (f i, e)
theorem ix_1 {f : Nat → Nat} {b : Nat} {e : va_E} (h : f 0 = b) : IX [(b, e)] f 1 := ⟨rfl, fun i hi => ⟨e, by
  obtain rfl : i = 0 := by omega
  rw [h]
  rfl⟩⟩
theorem ix_a {w v : va_W} {f : Nat → Nat} {o n : Nat} (h : IX w f o) (hn : v.length = n) (hv : ∀ i, i < n → ∃ e : va_E, v[i]? = some (f (o + i), e)) : IX (apw w v) f (o + n) := by
  refine ⟨by simp [apw, h.1, hn], fun i hi => ?_⟩
  by_cases hl : i < o
  · obtain ⟨e, he⟩ := h.2 i hl
    exact ⟨e, by unfold apw; rw [List.getElem?_append_left (by rw [h.1]; exact hl)]; exact he⟩
  · obtain ⟨e, he⟩ := hv (i - o) (by omega)
    rw [show o + (i - o) = i by omega] at he
    exact ⟨e, by unfold apw; rw [List.getElem?_append_right (by rw [h.1]; omega), h.1]; exact he⟩
theorem ix_s {w : va_W} {f : Nat → Nat} {o b : Nat} {e : va_E} (h : IX w f o) (hb : f o = b) : IX (apw w [(b, e)]) f (o + 1) := ix_a h rfl (fun i hi => ⟨e, by
  obtain rfl : i = 0 := by omega
  rw [Nat.add_zero, hb]
  rfl⟩)
theorem ix_b {w : va_W} {f : Nat → Nat} {o n r : Nat} {cy : Nat → ClassId} {L : Nat → Nat} (h : IX w f o) (hb : ∀ i, i < n → f (o + i) = L (r + i)) : IX (apw w (BD cy L r n)) f (o + n) := ix_a h BD_len (fun i hi => ⟨_, by rw [hb i hi]; exact BD_get hi⟩)
theorem rkp_sub {r o : Nat} {pat pat' : List Nat} (h : rkp r pat) (hl : o + pat'.length ≤ pat.length) (he : ∀ i, i < pat'.length → pat.getD (o + i) 0 = pat'.getD i 0) : rkp (r + o) pat' := fun i hi => by
  rw [Nat.add_assoc, h (o + i) (by omega), he i hi]
def pX1 : List Nat := [0, 10005, 10201, 10201, 10201]
theorem clo_X1 : clo pX1 := by
  unfold clo
  decide +kernel
def pX4 : List Nat := [2, 10201, 10201, 10201, 10201, 10201]
theorem clo_X4 : clo pX4 := by
  unfold clo
  decide +kernel
def pX5 : List Nat := [3, 10005, 10201, 10201, 10201, 10201, 10201, 11005, 10201]
theorem clo_X5 : clo pX5 := by
  unfold clo
  decide +kernel
def pX6a : List Nat := [4, 10060]
theorem clo_X6a : clo pX6a := by
  unfold clo
  decide +kernel
def pX6b : List Nat := [9, 10201]
theorem clo_X6b : clo pX6b := by
  unfold clo
  decide +kernel
def pX7 : List Nat := [5, 10400, 20000]
theorem clo_X7 : clo pX7 := by
  unfold clo
  decide +kernel
def pX8 : List Nat := [6, 10005, 10025, 4, 10060, 9, 10201, 2, 10201, 10201, 10201, 10201, 10201]
theorem clo_X8 : clo pX8 := by
  unfold clo
  decide +kernel
def fX1 (r : Nat) (a : Nat) (b1 : Nat) (b2 : Nat) (b3 : Nat) (b4 : Nat) : Nat → Nat := fun i => if i = 0 then a else if i < 2 then b1 else if i < 3 then b2 else if i < 4 then b3 else b4
set_option maxHeartbeats 4000000 in
set_option maxRecDepth 100000 in
theorem i_X1 {r : Nat} (hr : rkp r pX1) : MetI yX1_init (.code yX1_init cX1_init 1 none :: W0) 1 0 [.null, .null, .null, .null] [] r 5 4 608 := by
  refine MetI_of (by decide) rfl (fun a => by simp [lg_sl, Value.category]) ?_
  intro p l e s m args below meth c la D cy a S hSe hF hl hSz hP hD hS
  obtain ⟨CF, hr0, hlk, hin, hK, hKA⟩ := hF
  have CF0 := CF
  obtain ⟨hx, hb, hml, hown, hts⟩ := CF0
  have hla : la.size = 1 := hl.1
  refine lv_aload_n hx hb dX1_init_0 rfl (lv_at hl 0 rfl) ?_
  refine W.objInit hx hb hown (hts _ (List.mem_cons_of_mem _ (mW0 (List.mem_of_getElem? (i := 1) rfl)))) (hts _ (List.mem_cons_of_mem _ (mW0 (List.mem_of_getElem? (i := 2) rfl)))) (hts _ (List.mem_cons_of_mem _ (mW0 (List.mem_of_getElem? (i := 3) rfl)))) rfl (by rw [hml]; exact hl.1) rfl dX1_init_1 (by decide) (Nat.le_of_ble_eq_true rfl) ?_
  refine W.eq (g2 := F0 m 4 la []) rfl ?_
  refine lv_aload_n hx hb dX1_init_4 rfl (lv_at hl 0 rfl) ?_
  refine lv_iconst hx hb dX1_init_5 (v := 5) (by decide +kernel) ?_
  refine w_na CF hK (X := ((a, .inr (0, [.null, .null, .null, .null])) :: [])) hP hD hS hSz (Or.inl ⟨rfl, rfl⟩) (List.mem_cons_of_mem _ (mW0 (List.mem_of_getElem? (i := 4) rfl))) (by decide) (N := 5) (by decide +kernel) (by decide +kernel) (by decide +kernel) (by decide +kernel) dX1_init_6 ?_
  intro b1 H2 hP hD hS
  replace hP : va_P D vwCl ((a, .inr (0, [.null, .null, .null, .null])) :: ([(b1, .inl (cy 1, 5, .inl (fun _ => 0)))])) H2 := hP
  replace hD : va_D S ((a, .inr (0, [.null, .null, .null, .null])) :: ([(b1, .inl (cy 1, 5, .inl (fun _ => 0)))])) := hD
  refine w_putF CF hK hin (a := a) (ci := 0) (fs := [.null, .null, .null, .null]) (B := ([(b1, .inl (cy 1, 5, .inl (fun _ => 0)))])) hP hD hS (v := .ref b1) (ftX1_ok (9, 0, 0, 1, 10005, 1) (by decide)).1 rfl rfl rfl rfl (tyX1_ok 0 (by decide)) rfl rfl (by simp) dX1_init_8 ?_
  intro H2 locs2 hP hD hS
  refine W.eq (g2 := F0 m 11 la []) rfl ?_
  replace hP : va_P D vwCl ((a, .inr (0, [.ref b1, .null, .null, .null])) :: ([(b1, .inl (cy 1, 5, .inl (fun _ => 0)))])) H2 := hP
  replace hD : va_D S ((a, .inr (0, [.ref b1, .null, .null, .null])) :: ([(b1, .inl (cy 1, 5, .inl (fun _ => 0)))])) := hD
  refine lv_aload_n hx hb dX1_init_11 rfl (lv_at hl 0 rfl) ?_
  refine lv_sipush hx hb dX1_init_12 (v := 201) (by decide +kernel) ?_
  refine w_na CF hK (X := ((a, .inr (0, [.ref b1, .null, .null, .null])) :: ([(b1, .inl (cy 1, 5, .inl (fun _ => 0)))]))) hP hD hS hSz (Or.inl ⟨rfl, rfl⟩) (List.mem_cons_of_mem _ (mW0 (List.mem_of_getElem? (i := 4) rfl))) (by decide) (N := 201) (by decide +kernel) (by decide +kernel) (by decide +kernel) (by decide +kernel) dX1_init_15 ?_
  intro b2 H2 hP hD hS
  replace hP : va_P D vwCl ((a, .inr (0, [.ref b1, .null, .null, .null])) :: (apw ([(b1, .inl (cy 1, 5, .inl (fun _ => 0)))]) ([(b2, .inl (cy 1, 201, .inl (fun _ => 0)))]))) H2 := hP
  replace hD : va_D S ((a, .inr (0, [.ref b1, .null, .null, .null])) :: (apw ([(b1, .inl (cy 1, 5, .inl (fun _ => 0)))]) ([(b2, .inl (cy 1, 201, .inl (fun _ => 0)))]))) := hD
  refine w_putF CF hK hin (a := a) (ci := 0) (fs := [.ref b1, .null, .null, .null]) (B := (apw ([(b1, .inl (cy 1, 5, .inl (fun _ => 0)))]) ([(b2, .inl (cy 1, 201, .inl (fun _ => 0)))]))) hP hD hS (v := .ref b2) (ftX1_ok (15, 0, 1, 1, 10201, 2) (by decide)).1 rfl rfl rfl rfl (tyX1_ok 1 (by decide)) rfl rfl (by simp) dX1_init_17 ?_
  intro H2 locs2 hP hD hS
  refine W.eq (g2 := F0 m 20 la []) rfl ?_
  replace hP : va_P D vwCl ((a, .inr (0, [.ref b1, .ref b2, .null, .null])) :: (apw ([(b1, .inl (cy 1, 5, .inl (fun _ => 0)))]) ([(b2, .inl (cy 1, 201, .inl (fun _ => 0)))]))) H2 := hP
  replace hD : va_D S ((a, .inr (0, [.ref b1, .ref b2, .null, .null])) :: (apw ([(b1, .inl (cy 1, 5, .inl (fun _ => 0)))]) ([(b2, .inl (cy 1, 201, .inl (fun _ => 0)))]))) := hD
  refine lv_aload_n hx hb dX1_init_20 rfl (lv_at hl 0 rfl) ?_
  refine lv_sipush hx hb dX1_init_21 (v := 201) (by decide +kernel) ?_
  refine w_na CF hK (X := ((a, .inr (0, [.ref b1, .ref b2, .null, .null])) :: (apw ([(b1, .inl (cy 1, 5, .inl (fun _ => 0)))]) ([(b2, .inl (cy 1, 201, .inl (fun _ => 0)))])))) hP hD hS hSz (Or.inl ⟨rfl, rfl⟩) (List.mem_cons_of_mem _ (mW0 (List.mem_of_getElem? (i := 4) rfl))) (by decide) (N := 201) (by decide +kernel) (by decide +kernel) (by decide +kernel) (by decide +kernel) dX1_init_24 ?_
  intro b3 H2 hP hD hS
  replace hP : va_P D vwCl ((a, .inr (0, [.ref b1, .ref b2, .null, .null])) :: (apw (apw ([(b1, .inl (cy 1, 5, .inl (fun _ => 0)))]) ([(b2, .inl (cy 1, 201, .inl (fun _ => 0)))])) ([(b3, .inl (cy 1, 201, .inl (fun _ => 0)))]))) H2 := hP
  replace hD : va_D S ((a, .inr (0, [.ref b1, .ref b2, .null, .null])) :: (apw (apw ([(b1, .inl (cy 1, 5, .inl (fun _ => 0)))]) ([(b2, .inl (cy 1, 201, .inl (fun _ => 0)))])) ([(b3, .inl (cy 1, 201, .inl (fun _ => 0)))]))) := hD
  refine w_putF CF hK hin (a := a) (ci := 0) (fs := [.ref b1, .ref b2, .null, .null]) (B := (apw (apw ([(b1, .inl (cy 1, 5, .inl (fun _ => 0)))]) ([(b2, .inl (cy 1, 201, .inl (fun _ => 0)))])) ([(b3, .inl (cy 1, 201, .inl (fun _ => 0)))]))) hP hD hS (v := .ref b3) (ftX1_ok (18, 0, 2, 1, 10201, 3) (by decide)).1 rfl rfl rfl rfl (tyX1_ok 2 (by decide)) rfl rfl (by simp) dX1_init_26 ?_
  intro H2 locs2 hP hD hS
  refine W.eq (g2 := F0 m 29 la []) rfl ?_
  replace hP : va_P D vwCl ((a, .inr (0, [.ref b1, .ref b2, .ref b3, .null])) :: (apw (apw ([(b1, .inl (cy 1, 5, .inl (fun _ => 0)))]) ([(b2, .inl (cy 1, 201, .inl (fun _ => 0)))])) ([(b3, .inl (cy 1, 201, .inl (fun _ => 0)))]))) H2 := hP
  replace hD : va_D S ((a, .inr (0, [.ref b1, .ref b2, .ref b3, .null])) :: (apw (apw ([(b1, .inl (cy 1, 5, .inl (fun _ => 0)))]) ([(b2, .inl (cy 1, 201, .inl (fun _ => 0)))])) ([(b3, .inl (cy 1, 201, .inl (fun _ => 0)))]))) := hD
  refine lv_aload_n hx hb dX1_init_29 rfl (lv_at hl 0 rfl) ?_
  refine lv_sipush hx hb dX1_init_30 (v := 201) (by decide +kernel) ?_
  refine w_na CF hK (X := ((a, .inr (0, [.ref b1, .ref b2, .ref b3, .null])) :: (apw (apw ([(b1, .inl (cy 1, 5, .inl (fun _ => 0)))]) ([(b2, .inl (cy 1, 201, .inl (fun _ => 0)))])) ([(b3, .inl (cy 1, 201, .inl (fun _ => 0)))])))) hP hD hS hSz (Or.inl ⟨rfl, rfl⟩) (List.mem_cons_of_mem _ (mW0 (List.mem_of_getElem? (i := 4) rfl))) (by decide) (N := 201) (by decide +kernel) (by decide +kernel) (by decide +kernel) (by decide +kernel) dX1_init_33 ?_
  intro b4 H2 hP hD hS
  replace hP : va_P D vwCl ((a, .inr (0, [.ref b1, .ref b2, .ref b3, .null])) :: (apw (apw (apw ([(b1, .inl (cy 1, 5, .inl (fun _ => 0)))]) ([(b2, .inl (cy 1, 201, .inl (fun _ => 0)))])) ([(b3, .inl (cy 1, 201, .inl (fun _ => 0)))])) ([(b4, .inl (cy 1, 201, .inl (fun _ => 0)))]))) H2 := hP
  replace hD : va_D S ((a, .inr (0, [.ref b1, .ref b2, .ref b3, .null])) :: (apw (apw (apw ([(b1, .inl (cy 1, 5, .inl (fun _ => 0)))]) ([(b2, .inl (cy 1, 201, .inl (fun _ => 0)))])) ([(b3, .inl (cy 1, 201, .inl (fun _ => 0)))])) ([(b4, .inl (cy 1, 201, .inl (fun _ => 0)))]))) := hD
  refine w_putF CF hK hin (a := a) (ci := 0) (fs := [.ref b1, .ref b2, .ref b3, .null]) (B := (apw (apw (apw ([(b1, .inl (cy 1, 5, .inl (fun _ => 0)))]) ([(b2, .inl (cy 1, 201, .inl (fun _ => 0)))])) ([(b3, .inl (cy 1, 201, .inl (fun _ => 0)))])) ([(b4, .inl (cy 1, 201, .inl (fun _ => 0)))]))) hP hD hS (v := .ref b4) (ftX1_ok (21, 0, 3, 1, 10201, 4) (by decide)).1 rfl rfl rfl rfl (tyX1_ok 3 (by decide)) rfl rfl (by simp) dX1_init_35 ?_
  intro H2 locs2 hP hD hS
  refine W.eq (g2 := F0 m 38 la []) rfl ?_
  replace hP : va_P D vwCl ((a, .inr (0, [.ref b1, .ref b2, .ref b3, .ref b4])) :: (apw (apw (apw ([(b1, .inl (cy 1, 5, .inl (fun _ => 0)))]) ([(b2, .inl (cy 1, 201, .inl (fun _ => 0)))])) ([(b3, .inl (cy 1, 201, .inl (fun _ => 0)))])) ([(b4, .inl (cy 1, 201, .inl (fun _ => 0)))]))) H2 := hP
  replace hD : va_D S ((a, .inr (0, [.ref b1, .ref b2, .ref b3, .ref b4])) :: (apw (apw (apw ([(b1, .inl (cy 1, 5, .inl (fun _ => 0)))]) ([(b2, .inl (cy 1, 201, .inl (fun _ => 0)))])) ([(b3, .inl (cy 1, 201, .inl (fun _ => 0)))])) ([(b4, .inl (cy 1, 201, .inl (fun _ => 0)))]))) := hD
  have q3 : va_P D vwCl (apw ((a, .inr (0, [.ref b1, .ref b2, .ref b3, .ref b4])) :: (apw (apw ([(b1, .inl (cy 1, 5, .inl (fun _ => 0)))]) ([(b2, .inl (cy 1, 201, .inl (fun _ => 0)))])) ([(b3, .inl (cy 1, 201, .inl (fun _ => 0)))]))) ([(b4, .inl (cy 1, 201, .inl (fun _ => 0)))])) H2 := hP
  have q2 : va_P D vwCl (apw ((a, .inr (0, [.ref b1, .ref b2, .ref b3, .ref b4])) :: (apw ([(b1, .inl (cy 1, 5, .inl (fun _ => 0)))]) ([(b2, .inl (cy 1, 201, .inl (fun _ => 0)))]))) ([(b3, .inl (cy 1, 201, .inl (fun _ => 0)))])) H2 := P_pre q3
  have q1 : va_P D vwCl (apw ((a, .inr (0, [.ref b1, .ref b2, .ref b3, .ref b4])) :: ([(b1, .inl (cy 1, 5, .inl (fun _ => 0)))])) ([(b2, .inl (cy 1, 201, .inl (fun _ => 0)))])) H2 := P_pre q2
  have q0 : va_P D vwCl (apw ((a, .inr (0, [.ref b1, .ref b2, .ref b3, .ref b4])) :: []) ([(b1, .inl (cy 1, 5, .inl (fun _ => 0)))])) H2 := P_pre q1
  have hB : va_P D vwCl (BD cy (LO r (fX1 r a b1 b2 b3 b4)) r 5) H2 := by
    intro i q hq
    obtain ⟨hi, rfl⟩ := BD_of hq
    by_cases c0 : i = 0
    · subst c0
      rw [LO_at, ce_o (k := 0) (hr 0 (by decide)) (by decide)]
      exact (P_pre q0) 0 _ rfl
    by_cases c1 : i < 2
    · obtain rfl : i = 1 := by omega
      rw [LO_at, ce_a (k := 10005) (hr 1 (by decide)) (by decide) (by decide)]
      exact (P_suf q0) 0 _ rfl
    by_cases c2 : i < 3
    · obtain rfl : i = 2 := by omega
      rw [LO_at, ce_a (k := 10201) (hr 2 (by decide)) (by decide) (by decide)]
      exact (P_suf q1) 0 _ rfl
    by_cases c3 : i < 4
    · obtain rfl : i = 3 := by omega
      rw [LO_at, ce_a (k := 10201) (hr 3 (by decide)) (by decide) (by decide)]
      exact (P_suf q2) 0 _ rfl
    by_cases c4 : i < 5
    · obtain rfl : i = 4 := by omega
      rw [LO_at, ce_a (k := 10201) (hr 4 (by decide)) (by decide) (by decide)]
      exact (P_suf q3) 0 _ rfl
    exact absurd hi (by omega)
  have hE : va_D S (BD cy (LO r (fX1 r a b1 b2 b3 b4)) r 5) := by
    have hx9 : IX (apw (apw (apw (apw [(a, .inr (0, [.ref b1, .ref b2, .ref b3, .ref b4]))] ([(b1, .inl (cy 1, 5, .inl (fun _ => 0)))])) ([(b2, .inl (cy 1, 201, .inl (fun _ => 0)))])) ([(b3, .inl (cy 1, 201, .inl (fun _ => 0)))])) ([(b4, .inl (cy 1, 201, .inl (fun _ => 0)))])) (fX1 r a b1 b2 b3 b4) 5 := (ix_s (ix_s (ix_s (ix_s (ix_1 (f := (fX1 r a b1 b2 b3 b4)) rfl) rfl) rfl) rfl) rfl)
    refine BD_D (show va_D S (apw (apw (apw (apw [(a, .inr (0, [.ref b1, .ref b2, .ref b3, .ref b4]))] ([(b1, .inl (cy 1, 5, .inl (fun _ => 0)))])) ([(b2, .inl (cy 1, 201, .inl (fun _ => 0)))])) ([(b3, .inl (cy 1, 201, .inl (fun _ => 0)))])) ([(b4, .inl (cy 1, 201, .inl (fun _ => 0)))])) from hD) (fun i hi => ?_)
    rw [LO_at]
    exact hx9.2 i hi
  subst hSe
  refine W.vret hx hb hr0 (fun t ht hW => ⟨⟨rfl, (LO r (fX1 r a b1 b2 b3 b4)), ?_, by rw [ht]; exact hB, hE⟩, hS.F ht⟩) hS.2.2 dX1_init_38
  show LO r _ r = a
  unfold LO
  rw [Nat.sub_self]
  rfl
def fX4 (r : Nat) (a : Nat) (b1 : Nat) (b2 : Nat) (b3 : Nat) (b4 : Nat) (b5 : Nat) : Nat → Nat := fun i => if i = 0 then a else if i < 2 then b1 else if i < 3 then b2 else if i < 4 then b3 else if i < 5 then b4 else b5
set_option maxHeartbeats 4000000 in
set_option maxRecDepth 100000 in
theorem i_X4 {r : Nat} (hr : rkp r pX4) : MetI yX4_init (.code yX4_init cX4_init 1 none :: W0) 1 2 [.null, .null, .null, .null, .null] [] r 6 5 1005 := by
  refine MetI_of (by decide) rfl (fun a => by simp [lg_sl, Value.category]) ?_
  intro p l e s m args below meth c la D cy a S hSe hF hl hSz hP hD hS
  obtain ⟨CF, hr0, hlk, hin, hK, hKA⟩ := hF
  have CF0 := CF
  obtain ⟨hx, hb, hml, hown, hts⟩ := CF0
  have hla : la.size = 1 := hl.1
  refine lv_aload_n hx hb dX4_init_0 rfl (lv_at hl 0 rfl) ?_
  refine W.objInit hx hb hown (hts _ (List.mem_cons_of_mem _ (mW1 (List.mem_of_getElem? (i := 12) rfl)))) (hts _ (List.mem_cons_of_mem _ (mW0 (List.mem_of_getElem? (i := 2) rfl)))) (hts _ (List.mem_cons_of_mem _ (mW0 (List.mem_of_getElem? (i := 3) rfl)))) rfl (by rw [hml]; exact hl.1) rfl dX4_init_1 (by decide) (Nat.le_of_ble_eq_true rfl) ?_
  refine W.eq (g2 := F0 m 4 la []) rfl ?_
  refine lv_aload_n hx hb dX4_init_4 rfl (lv_at hl 0 rfl) ?_
  refine lv_sipush hx hb dX4_init_5 (v := 201) (by decide +kernel) ?_
  refine w_na CF hK (X := ((a, .inr (2, [.null, .null, .null, .null, .null])) :: [])) hP hD hS hSz (Or.inl ⟨rfl, rfl⟩) (List.mem_cons_of_mem _ (mW0 (List.mem_of_getElem? (i := 4) rfl))) (by decide) (N := 201) (by decide +kernel) (by decide +kernel) (by decide +kernel) (by decide +kernel) dX4_init_8 ?_
  intro b1 H2 hP hD hS
  replace hP : va_P D vwCl ((a, .inr (2, [.null, .null, .null, .null, .null])) :: ([(b1, .inl (cy 1, 201, .inl (fun _ => 0)))])) H2 := hP
  replace hD : va_D S ((a, .inr (2, [.null, .null, .null, .null, .null])) :: ([(b1, .inl (cy 1, 201, .inl (fun _ => 0)))])) := hD
  refine w_putF CF hK hin (a := a) (ci := 2) (fs := [.null, .null, .null, .null, .null]) (B := ([(b1, .inl (cy 1, 201, .inl (fun _ => 0)))])) hP hD hS (v := .ref b1) (ftX4_ok (9, 2, 0, 1, 10201, 1) (by decide)).1 rfl rfl rfl rfl (tyX4_ok 0 (by decide)) rfl rfl (by simp) dX4_init_10 ?_
  intro H2 locs2 hP hD hS
  refine W.eq (g2 := F0 m 13 la []) rfl ?_
  replace hP : va_P D vwCl ((a, .inr (2, [.ref b1, .null, .null, .null, .null])) :: ([(b1, .inl (cy 1, 201, .inl (fun _ => 0)))])) H2 := hP
  replace hD : va_D S ((a, .inr (2, [.ref b1, .null, .null, .null, .null])) :: ([(b1, .inl (cy 1, 201, .inl (fun _ => 0)))])) := hD
  refine lv_aload_n hx hb dX4_init_13 rfl (lv_at hl 0 rfl) ?_
  refine lv_sipush hx hb dX4_init_14 (v := 201) (by decide +kernel) ?_
  refine w_na CF hK (X := ((a, .inr (2, [.ref b1, .null, .null, .null, .null])) :: ([(b1, .inl (cy 1, 201, .inl (fun _ => 0)))]))) hP hD hS hSz (Or.inl ⟨rfl, rfl⟩) (List.mem_cons_of_mem _ (mW0 (List.mem_of_getElem? (i := 4) rfl))) (by decide) (N := 201) (by decide +kernel) (by decide +kernel) (by decide +kernel) (by decide +kernel) dX4_init_17 ?_
  intro b2 H2 hP hD hS
  replace hP : va_P D vwCl ((a, .inr (2, [.ref b1, .null, .null, .null, .null])) :: (apw ([(b1, .inl (cy 1, 201, .inl (fun _ => 0)))]) ([(b2, .inl (cy 1, 201, .inl (fun _ => 0)))]))) H2 := hP
  replace hD : va_D S ((a, .inr (2, [.ref b1, .null, .null, .null, .null])) :: (apw ([(b1, .inl (cy 1, 201, .inl (fun _ => 0)))]) ([(b2, .inl (cy 1, 201, .inl (fun _ => 0)))]))) := hD
  refine w_putF CF hK hin (a := a) (ci := 2) (fs := [.ref b1, .null, .null, .null, .null]) (B := (apw ([(b1, .inl (cy 1, 201, .inl (fun _ => 0)))]) ([(b2, .inl (cy 1, 201, .inl (fun _ => 0)))]))) hP hD hS (v := .ref b2) (ftX4_ok (15, 2, 1, 1, 10201, 2) (by decide)).1 rfl rfl rfl rfl (tyX4_ok 1 (by decide)) rfl rfl (by simp) dX4_init_19 ?_
  intro H2 locs2 hP hD hS
  refine W.eq (g2 := F0 m 22 la []) rfl ?_
  replace hP : va_P D vwCl ((a, .inr (2, [.ref b1, .ref b2, .null, .null, .null])) :: (apw ([(b1, .inl (cy 1, 201, .inl (fun _ => 0)))]) ([(b2, .inl (cy 1, 201, .inl (fun _ => 0)))]))) H2 := hP
  replace hD : va_D S ((a, .inr (2, [.ref b1, .ref b2, .null, .null, .null])) :: (apw ([(b1, .inl (cy 1, 201, .inl (fun _ => 0)))]) ([(b2, .inl (cy 1, 201, .inl (fun _ => 0)))]))) := hD
  refine lv_aload_n hx hb dX4_init_22 rfl (lv_at hl 0 rfl) ?_
  refine lv_sipush hx hb dX4_init_23 (v := 201) (by decide +kernel) ?_
  refine w_na CF hK (X := ((a, .inr (2, [.ref b1, .ref b2, .null, .null, .null])) :: (apw ([(b1, .inl (cy 1, 201, .inl (fun _ => 0)))]) ([(b2, .inl (cy 1, 201, .inl (fun _ => 0)))])))) hP hD hS hSz (Or.inl ⟨rfl, rfl⟩) (List.mem_cons_of_mem _ (mW0 (List.mem_of_getElem? (i := 4) rfl))) (by decide) (N := 201) (by decide +kernel) (by decide +kernel) (by decide +kernel) (by decide +kernel) dX4_init_26 ?_
  intro b3 H2 hP hD hS
  replace hP : va_P D vwCl ((a, .inr (2, [.ref b1, .ref b2, .null, .null, .null])) :: (apw (apw ([(b1, .inl (cy 1, 201, .inl (fun _ => 0)))]) ([(b2, .inl (cy 1, 201, .inl (fun _ => 0)))])) ([(b3, .inl (cy 1, 201, .inl (fun _ => 0)))]))) H2 := hP
  replace hD : va_D S ((a, .inr (2, [.ref b1, .ref b2, .null, .null, .null])) :: (apw (apw ([(b1, .inl (cy 1, 201, .inl (fun _ => 0)))]) ([(b2, .inl (cy 1, 201, .inl (fun _ => 0)))])) ([(b3, .inl (cy 1, 201, .inl (fun _ => 0)))]))) := hD
  refine w_putF CF hK hin (a := a) (ci := 2) (fs := [.ref b1, .ref b2, .null, .null, .null]) (B := (apw (apw ([(b1, .inl (cy 1, 201, .inl (fun _ => 0)))]) ([(b2, .inl (cy 1, 201, .inl (fun _ => 0)))])) ([(b3, .inl (cy 1, 201, .inl (fun _ => 0)))]))) hP hD hS (v := .ref b3) (ftX4_ok (18, 2, 2, 1, 10201, 3) (by decide)).1 rfl rfl rfl rfl (tyX4_ok 2 (by decide)) rfl rfl (by simp) dX4_init_28 ?_
  intro H2 locs2 hP hD hS
  refine W.eq (g2 := F0 m 31 la []) rfl ?_
  replace hP : va_P D vwCl ((a, .inr (2, [.ref b1, .ref b2, .ref b3, .null, .null])) :: (apw (apw ([(b1, .inl (cy 1, 201, .inl (fun _ => 0)))]) ([(b2, .inl (cy 1, 201, .inl (fun _ => 0)))])) ([(b3, .inl (cy 1, 201, .inl (fun _ => 0)))]))) H2 := hP
  replace hD : va_D S ((a, .inr (2, [.ref b1, .ref b2, .ref b3, .null, .null])) :: (apw (apw ([(b1, .inl (cy 1, 201, .inl (fun _ => 0)))]) ([(b2, .inl (cy 1, 201, .inl (fun _ => 0)))])) ([(b3, .inl (cy 1, 201, .inl (fun _ => 0)))]))) := hD
  refine lv_aload_n hx hb dX4_init_31 rfl (lv_at hl 0 rfl) ?_
  refine lv_sipush hx hb dX4_init_32 (v := 201) (by decide +kernel) ?_
  refine w_na CF hK (X := ((a, .inr (2, [.ref b1, .ref b2, .ref b3, .null, .null])) :: (apw (apw ([(b1, .inl (cy 1, 201, .inl (fun _ => 0)))]) ([(b2, .inl (cy 1, 201, .inl (fun _ => 0)))])) ([(b3, .inl (cy 1, 201, .inl (fun _ => 0)))])))) hP hD hS hSz (Or.inl ⟨rfl, rfl⟩) (List.mem_cons_of_mem _ (mW0 (List.mem_of_getElem? (i := 4) rfl))) (by decide) (N := 201) (by decide +kernel) (by decide +kernel) (by decide +kernel) (by decide +kernel) dX4_init_35 ?_
  intro b4 H2 hP hD hS
  replace hP : va_P D vwCl ((a, .inr (2, [.ref b1, .ref b2, .ref b3, .null, .null])) :: (apw (apw (apw ([(b1, .inl (cy 1, 201, .inl (fun _ => 0)))]) ([(b2, .inl (cy 1, 201, .inl (fun _ => 0)))])) ([(b3, .inl (cy 1, 201, .inl (fun _ => 0)))])) ([(b4, .inl (cy 1, 201, .inl (fun _ => 0)))]))) H2 := hP
  replace hD : va_D S ((a, .inr (2, [.ref b1, .ref b2, .ref b3, .null, .null])) :: (apw (apw (apw ([(b1, .inl (cy 1, 201, .inl (fun _ => 0)))]) ([(b2, .inl (cy 1, 201, .inl (fun _ => 0)))])) ([(b3, .inl (cy 1, 201, .inl (fun _ => 0)))])) ([(b4, .inl (cy 1, 201, .inl (fun _ => 0)))]))) := hD
  refine w_putF CF hK hin (a := a) (ci := 2) (fs := [.ref b1, .ref b2, .ref b3, .null, .null]) (B := (apw (apw (apw ([(b1, .inl (cy 1, 201, .inl (fun _ => 0)))]) ([(b2, .inl (cy 1, 201, .inl (fun _ => 0)))])) ([(b3, .inl (cy 1, 201, .inl (fun _ => 0)))])) ([(b4, .inl (cy 1, 201, .inl (fun _ => 0)))]))) hP hD hS (v := .ref b4) (ftX4_ok (21, 2, 3, 1, 10201, 4) (by decide)).1 rfl rfl rfl rfl (tyX4_ok 3 (by decide)) rfl rfl (by simp) dX4_init_37 ?_
  intro H2 locs2 hP hD hS
  refine W.eq (g2 := F0 m 40 la []) rfl ?_
  replace hP : va_P D vwCl ((a, .inr (2, [.ref b1, .ref b2, .ref b3, .ref b4, .null])) :: (apw (apw (apw ([(b1, .inl (cy 1, 201, .inl (fun _ => 0)))]) ([(b2, .inl (cy 1, 201, .inl (fun _ => 0)))])) ([(b3, .inl (cy 1, 201, .inl (fun _ => 0)))])) ([(b4, .inl (cy 1, 201, .inl (fun _ => 0)))]))) H2 := hP
  replace hD : va_D S ((a, .inr (2, [.ref b1, .ref b2, .ref b3, .ref b4, .null])) :: (apw (apw (apw ([(b1, .inl (cy 1, 201, .inl (fun _ => 0)))]) ([(b2, .inl (cy 1, 201, .inl (fun _ => 0)))])) ([(b3, .inl (cy 1, 201, .inl (fun _ => 0)))])) ([(b4, .inl (cy 1, 201, .inl (fun _ => 0)))]))) := hD
  refine lv_aload_n hx hb dX4_init_40 rfl (lv_at hl 0 rfl) ?_
  refine lv_sipush hx hb dX4_init_41 (v := 201) (by decide +kernel) ?_
  refine w_na CF hK (X := ((a, .inr (2, [.ref b1, .ref b2, .ref b3, .ref b4, .null])) :: (apw (apw (apw ([(b1, .inl (cy 1, 201, .inl (fun _ => 0)))]) ([(b2, .inl (cy 1, 201, .inl (fun _ => 0)))])) ([(b3, .inl (cy 1, 201, .inl (fun _ => 0)))])) ([(b4, .inl (cy 1, 201, .inl (fun _ => 0)))])))) hP hD hS hSz (Or.inl ⟨rfl, rfl⟩) (List.mem_cons_of_mem _ (mW0 (List.mem_of_getElem? (i := 4) rfl))) (by decide) (N := 201) (by decide +kernel) (by decide +kernel) (by decide +kernel) (by decide +kernel) dX4_init_44 ?_
  intro b5 H2 hP hD hS
  replace hP : va_P D vwCl ((a, .inr (2, [.ref b1, .ref b2, .ref b3, .ref b4, .null])) :: (apw (apw (apw (apw ([(b1, .inl (cy 1, 201, .inl (fun _ => 0)))]) ([(b2, .inl (cy 1, 201, .inl (fun _ => 0)))])) ([(b3, .inl (cy 1, 201, .inl (fun _ => 0)))])) ([(b4, .inl (cy 1, 201, .inl (fun _ => 0)))])) ([(b5, .inl (cy 1, 201, .inl (fun _ => 0)))]))) H2 := hP
  replace hD : va_D S ((a, .inr (2, [.ref b1, .ref b2, .ref b3, .ref b4, .null])) :: (apw (apw (apw (apw ([(b1, .inl (cy 1, 201, .inl (fun _ => 0)))]) ([(b2, .inl (cy 1, 201, .inl (fun _ => 0)))])) ([(b3, .inl (cy 1, 201, .inl (fun _ => 0)))])) ([(b4, .inl (cy 1, 201, .inl (fun _ => 0)))])) ([(b5, .inl (cy 1, 201, .inl (fun _ => 0)))]))) := hD
  refine w_putF CF hK hin (a := a) (ci := 2) (fs := [.ref b1, .ref b2, .ref b3, .ref b4, .null]) (B := (apw (apw (apw (apw ([(b1, .inl (cy 1, 201, .inl (fun _ => 0)))]) ([(b2, .inl (cy 1, 201, .inl (fun _ => 0)))])) ([(b3, .inl (cy 1, 201, .inl (fun _ => 0)))])) ([(b4, .inl (cy 1, 201, .inl (fun _ => 0)))])) ([(b5, .inl (cy 1, 201, .inl (fun _ => 0)))]))) hP hD hS (v := .ref b5) (ftX4_ok (24, 2, 4, 1, 10201, 5) (by decide)).1 rfl rfl rfl rfl (tyX4_ok 4 (by decide)) rfl rfl (by simp) dX4_init_46 ?_
  intro H2 locs2 hP hD hS
  refine W.eq (g2 := F0 m 49 la []) rfl ?_
  replace hP : va_P D vwCl ((a, .inr (2, [.ref b1, .ref b2, .ref b3, .ref b4, .ref b5])) :: (apw (apw (apw (apw ([(b1, .inl (cy 1, 201, .inl (fun _ => 0)))]) ([(b2, .inl (cy 1, 201, .inl (fun _ => 0)))])) ([(b3, .inl (cy 1, 201, .inl (fun _ => 0)))])) ([(b4, .inl (cy 1, 201, .inl (fun _ => 0)))])) ([(b5, .inl (cy 1, 201, .inl (fun _ => 0)))]))) H2 := hP
  replace hD : va_D S ((a, .inr (2, [.ref b1, .ref b2, .ref b3, .ref b4, .ref b5])) :: (apw (apw (apw (apw ([(b1, .inl (cy 1, 201, .inl (fun _ => 0)))]) ([(b2, .inl (cy 1, 201, .inl (fun _ => 0)))])) ([(b3, .inl (cy 1, 201, .inl (fun _ => 0)))])) ([(b4, .inl (cy 1, 201, .inl (fun _ => 0)))])) ([(b5, .inl (cy 1, 201, .inl (fun _ => 0)))]))) := hD
  have q4 : va_P D vwCl (apw ((a, .inr (2, [.ref b1, .ref b2, .ref b3, .ref b4, .ref b5])) :: (apw (apw (apw ([(b1, .inl (cy 1, 201, .inl (fun _ => 0)))]) ([(b2, .inl (cy 1, 201, .inl (fun _ => 0)))])) ([(b3, .inl (cy 1, 201, .inl (fun _ => 0)))])) ([(b4, .inl (cy 1, 201, .inl (fun _ => 0)))]))) ([(b5, .inl (cy 1, 201, .inl (fun _ => 0)))])) H2 := hP
  have q3 : va_P D vwCl (apw ((a, .inr (2, [.ref b1, .ref b2, .ref b3, .ref b4, .ref b5])) :: (apw (apw ([(b1, .inl (cy 1, 201, .inl (fun _ => 0)))]) ([(b2, .inl (cy 1, 201, .inl (fun _ => 0)))])) ([(b3, .inl (cy 1, 201, .inl (fun _ => 0)))]))) ([(b4, .inl (cy 1, 201, .inl (fun _ => 0)))])) H2 := P_pre q4
  have q2 : va_P D vwCl (apw ((a, .inr (2, [.ref b1, .ref b2, .ref b3, .ref b4, .ref b5])) :: (apw ([(b1, .inl (cy 1, 201, .inl (fun _ => 0)))]) ([(b2, .inl (cy 1, 201, .inl (fun _ => 0)))]))) ([(b3, .inl (cy 1, 201, .inl (fun _ => 0)))])) H2 := P_pre q3
  have q1 : va_P D vwCl (apw ((a, .inr (2, [.ref b1, .ref b2, .ref b3, .ref b4, .ref b5])) :: ([(b1, .inl (cy 1, 201, .inl (fun _ => 0)))])) ([(b2, .inl (cy 1, 201, .inl (fun _ => 0)))])) H2 := P_pre q2
  have q0 : va_P D vwCl (apw ((a, .inr (2, [.ref b1, .ref b2, .ref b3, .ref b4, .ref b5])) :: []) ([(b1, .inl (cy 1, 201, .inl (fun _ => 0)))])) H2 := P_pre q1
  have hB : va_P D vwCl (BD cy (LO r (fX4 r a b1 b2 b3 b4 b5)) r 6) H2 := by
    intro i q hq
    obtain ⟨hi, rfl⟩ := BD_of hq
    by_cases c0 : i = 0
    · subst c0
      rw [LO_at, ce_o (k := 2) (hr 0 (by decide)) (by decide)]
      exact (P_pre q0) 0 _ rfl
    by_cases c1 : i < 2
    · obtain rfl : i = 1 := by omega
      rw [LO_at, ce_a (k := 10201) (hr 1 (by decide)) (by decide) (by decide)]
      exact (P_suf q0) 0 _ rfl
    by_cases c2 : i < 3
    · obtain rfl : i = 2 := by omega
      rw [LO_at, ce_a (k := 10201) (hr 2 (by decide)) (by decide) (by decide)]
      exact (P_suf q1) 0 _ rfl
    by_cases c3 : i < 4
    · obtain rfl : i = 3 := by omega
      rw [LO_at, ce_a (k := 10201) (hr 3 (by decide)) (by decide) (by decide)]
      exact (P_suf q2) 0 _ rfl
    by_cases c4 : i < 5
    · obtain rfl : i = 4 := by omega
      rw [LO_at, ce_a (k := 10201) (hr 4 (by decide)) (by decide) (by decide)]
      exact (P_suf q3) 0 _ rfl
    by_cases c5 : i < 6
    · obtain rfl : i = 5 := by omega
      rw [LO_at, ce_a (k := 10201) (hr 5 (by decide)) (by decide) (by decide)]
      exact (P_suf q4) 0 _ rfl
    exact absurd hi (by omega)
  have hE : va_D S (BD cy (LO r (fX4 r a b1 b2 b3 b4 b5)) r 6) := by
    have hx9 : IX (apw (apw (apw (apw (apw [(a, .inr (2, [.ref b1, .ref b2, .ref b3, .ref b4, .ref b5]))] ([(b1, .inl (cy 1, 201, .inl (fun _ => 0)))])) ([(b2, .inl (cy 1, 201, .inl (fun _ => 0)))])) ([(b3, .inl (cy 1, 201, .inl (fun _ => 0)))])) ([(b4, .inl (cy 1, 201, .inl (fun _ => 0)))])) ([(b5, .inl (cy 1, 201, .inl (fun _ => 0)))])) (fX4 r a b1 b2 b3 b4 b5) 6 := (ix_s (ix_s (ix_s (ix_s (ix_s (ix_1 (f := (fX4 r a b1 b2 b3 b4 b5)) rfl) rfl) rfl) rfl) rfl) rfl)
    refine BD_D (show va_D S (apw (apw (apw (apw (apw [(a, .inr (2, [.ref b1, .ref b2, .ref b3, .ref b4, .ref b5]))] ([(b1, .inl (cy 1, 201, .inl (fun _ => 0)))])) ([(b2, .inl (cy 1, 201, .inl (fun _ => 0)))])) ([(b3, .inl (cy 1, 201, .inl (fun _ => 0)))])) ([(b4, .inl (cy 1, 201, .inl (fun _ => 0)))])) ([(b5, .inl (cy 1, 201, .inl (fun _ => 0)))])) from hD) (fun i hi => ?_)
    rw [LO_at]
    exact hx9.2 i hi
  subst hSe
  refine W.vret hx hb hr0 (fun t ht hW => ⟨⟨rfl, (LO r (fX4 r a b1 b2 b3 b4 b5)), ?_, by rw [ht]; exact hB, hE⟩, hS.F ht⟩) hS.2.2 dX4_init_49
  show LO r _ r = a
  unfold LO
  rw [Nat.sub_self]
  rfl
def fX5 (r : Nat) (a : Nat) (b1 : Nat) (b2 : Nat) (b3 : Nat) (b4 : Nat) (b5 : Nat) (b6 : Nat) (b7 : Nat) (b8 : Nat) : Nat → Nat := fun i => if i = 0 then a else if i < 2 then b1 else if i < 3 then b2 else if i < 4 then b3 else if i < 5 then b4 else if i < 6 then b5 else if i < 7 then b6 else if i < 8 then b7 else b8
set_option maxHeartbeats 4000000 in
set_option maxRecDepth 100000 in
theorem i_X5 {r : Nat} (hr : rkp r pX5) : MetI yX5_init (.code yX5_init cX5_init 1 none :: W0) 1 3 [.null, .null, .null, .null, .null, .null, .null, .null, .int 0, .int 0] [] r 9 8 2216 := by
  refine MetI_of (by decide) rfl (fun a => by simp [lg_sl, Value.category]) ?_
  intro p l e s m args below meth c la D cy a S hSe hF hl hSz hP hD hS
  obtain ⟨CF, hr0, hlk, hin, hK, hKA⟩ := hF
  have CF0 := CF
  obtain ⟨hx, hb, hml, hown, hts⟩ := CF0
  have hla : la.size = 1 := hl.1
  refine lv_aload_n hx hb dX5_init_0 rfl (lv_at hl 0 rfl) ?_
  refine W.objInit hx hb hown (hts _ (List.mem_cons_of_mem _ (mW0 (List.mem_of_getElem? (i := 63) rfl)))) (hts _ (List.mem_cons_of_mem _ (mW0 (List.mem_of_getElem? (i := 2) rfl)))) (hts _ (List.mem_cons_of_mem _ (mW0 (List.mem_of_getElem? (i := 3) rfl)))) rfl (by rw [hml]; exact hl.1) rfl dX5_init_1 (by decide) (Nat.le_of_ble_eq_true rfl) ?_
  refine W.eq (g2 := F0 m 4 la []) rfl ?_
  refine lv_aload_n hx hb dX5_init_4 rfl (lv_at hl 0 rfl) ?_
  refine lv_iconst hx hb dX5_init_5 (v := 5) (by decide +kernel) ?_
  refine w_na CF hK (X := ((a, .inr (3, [.null, .null, .null, .null, .null, .null, .null, .null, .int 0, .int 0])) :: [])) hP hD hS hSz (Or.inl ⟨rfl, rfl⟩) (List.mem_cons_of_mem _ (mW0 (List.mem_of_getElem? (i := 4) rfl))) (by decide) (N := 5) (by decide +kernel) (by decide +kernel) (by decide +kernel) (by decide +kernel) dX5_init_6 ?_
  intro b1 H2 hP hD hS
  replace hP : va_P D vwCl ((a, .inr (3, [.null, .null, .null, .null, .null, .null, .null, .null, .int 0, .int 0])) :: ([(b1, .inl (cy 1, 5, .inl (fun _ => 0)))])) H2 := hP
  replace hD : va_D S ((a, .inr (3, [.null, .null, .null, .null, .null, .null, .null, .null, .int 0, .int 0])) :: ([(b1, .inl (cy 1, 5, .inl (fun _ => 0)))])) := hD
  refine w_putF CF hK hin (a := a) (ci := 3) (fs := [.null, .null, .null, .null, .null, .null, .null, .null, .int 0, .int 0]) (B := ([(b1, .inl (cy 1, 5, .inl (fun _ => 0)))])) hP hD hS (v := .ref b1) (ftX5_ok (9, 3, 0, 1, 10005, 1) (by decide)).1 rfl rfl rfl rfl (tyX5_ok 0 (by decide)) rfl rfl (by simp) dX5_init_8 ?_
  intro H2 locs2 hP hD hS
  refine W.eq (g2 := F0 m 11 la []) rfl ?_
  replace hP : va_P D vwCl ((a, .inr (3, [.ref b1, .null, .null, .null, .null, .null, .null, .null, .int 0, .int 0])) :: ([(b1, .inl (cy 1, 5, .inl (fun _ => 0)))])) H2 := hP
  replace hD : va_D S ((a, .inr (3, [.ref b1, .null, .null, .null, .null, .null, .null, .null, .int 0, .int 0])) :: ([(b1, .inl (cy 1, 5, .inl (fun _ => 0)))])) := hD
  refine lv_aload_n hx hb dX5_init_11 rfl (lv_at hl 0 rfl) ?_
  refine lv_sipush hx hb dX5_init_12 (v := 201) (by decide +kernel) ?_
  refine w_na CF hK (X := ((a, .inr (3, [.ref b1, .null, .null, .null, .null, .null, .null, .null, .int 0, .int 0])) :: ([(b1, .inl (cy 1, 5, .inl (fun _ => 0)))]))) hP hD hS hSz (Or.inl ⟨rfl, rfl⟩) (List.mem_cons_of_mem _ (mW0 (List.mem_of_getElem? (i := 4) rfl))) (by decide) (N := 201) (by decide +kernel) (by decide +kernel) (by decide +kernel) (by decide +kernel) dX5_init_15 ?_
  intro b2 H2 hP hD hS
  replace hP : va_P D vwCl ((a, .inr (3, [.ref b1, .null, .null, .null, .null, .null, .null, .null, .int 0, .int 0])) :: (apw ([(b1, .inl (cy 1, 5, .inl (fun _ => 0)))]) ([(b2, .inl (cy 1, 201, .inl (fun _ => 0)))]))) H2 := hP
  replace hD : va_D S ((a, .inr (3, [.ref b1, .null, .null, .null, .null, .null, .null, .null, .int 0, .int 0])) :: (apw ([(b1, .inl (cy 1, 5, .inl (fun _ => 0)))]) ([(b2, .inl (cy 1, 201, .inl (fun _ => 0)))]))) := hD
  refine w_putF CF hK hin (a := a) (ci := 3) (fs := [.ref b1, .null, .null, .null, .null, .null, .null, .null, .int 0, .int 0]) (B := (apw ([(b1, .inl (cy 1, 5, .inl (fun _ => 0)))]) ([(b2, .inl (cy 1, 201, .inl (fun _ => 0)))]))) hP hD hS (v := .ref b2) (ftX5_ok (15, 3, 1, 1, 10201, 2) (by decide)).1 rfl rfl rfl rfl (tyX5_ok 1 (by decide)) rfl rfl (by simp) dX5_init_17 ?_
  intro H2 locs2 hP hD hS
  refine W.eq (g2 := F0 m 20 la []) rfl ?_
  replace hP : va_P D vwCl ((a, .inr (3, [.ref b1, .ref b2, .null, .null, .null, .null, .null, .null, .int 0, .int 0])) :: (apw ([(b1, .inl (cy 1, 5, .inl (fun _ => 0)))]) ([(b2, .inl (cy 1, 201, .inl (fun _ => 0)))]))) H2 := hP
  replace hD : va_D S ((a, .inr (3, [.ref b1, .ref b2, .null, .null, .null, .null, .null, .null, .int 0, .int 0])) :: (apw ([(b1, .inl (cy 1, 5, .inl (fun _ => 0)))]) ([(b2, .inl (cy 1, 201, .inl (fun _ => 0)))]))) := hD
  refine lv_aload_n hx hb dX5_init_20 rfl (lv_at hl 0 rfl) ?_
  refine lv_sipush hx hb dX5_init_21 (v := 201) (by decide +kernel) ?_
  refine w_na CF hK (X := ((a, .inr (3, [.ref b1, .ref b2, .null, .null, .null, .null, .null, .null, .int 0, .int 0])) :: (apw ([(b1, .inl (cy 1, 5, .inl (fun _ => 0)))]) ([(b2, .inl (cy 1, 201, .inl (fun _ => 0)))])))) hP hD hS hSz (Or.inl ⟨rfl, rfl⟩) (List.mem_cons_of_mem _ (mW0 (List.mem_of_getElem? (i := 4) rfl))) (by decide) (N := 201) (by decide +kernel) (by decide +kernel) (by decide +kernel) (by decide +kernel) dX5_init_24 ?_
  intro b3 H2 hP hD hS
  replace hP : va_P D vwCl ((a, .inr (3, [.ref b1, .ref b2, .null, .null, .null, .null, .null, .null, .int 0, .int 0])) :: (apw (apw ([(b1, .inl (cy 1, 5, .inl (fun _ => 0)))]) ([(b2, .inl (cy 1, 201, .inl (fun _ => 0)))])) ([(b3, .inl (cy 1, 201, .inl (fun _ => 0)))]))) H2 := hP
  replace hD : va_D S ((a, .inr (3, [.ref b1, .ref b2, .null, .null, .null, .null, .null, .null, .int 0, .int 0])) :: (apw (apw ([(b1, .inl (cy 1, 5, .inl (fun _ => 0)))]) ([(b2, .inl (cy 1, 201, .inl (fun _ => 0)))])) ([(b3, .inl (cy 1, 201, .inl (fun _ => 0)))]))) := hD
  refine w_putF CF hK hin (a := a) (ci := 3) (fs := [.ref b1, .ref b2, .null, .null, .null, .null, .null, .null, .int 0, .int 0]) (B := (apw (apw ([(b1, .inl (cy 1, 5, .inl (fun _ => 0)))]) ([(b2, .inl (cy 1, 201, .inl (fun _ => 0)))])) ([(b3, .inl (cy 1, 201, .inl (fun _ => 0)))]))) hP hD hS (v := .ref b3) (ftX5_ok (18, 3, 2, 1, 10201, 3) (by decide)).1 rfl rfl rfl rfl (tyX5_ok 2 (by decide)) rfl rfl (by simp) dX5_init_26 ?_
  intro H2 locs2 hP hD hS
  refine W.eq (g2 := F0 m 29 la []) rfl ?_
  replace hP : va_P D vwCl ((a, .inr (3, [.ref b1, .ref b2, .ref b3, .null, .null, .null, .null, .null, .int 0, .int 0])) :: (apw (apw ([(b1, .inl (cy 1, 5, .inl (fun _ => 0)))]) ([(b2, .inl (cy 1, 201, .inl (fun _ => 0)))])) ([(b3, .inl (cy 1, 201, .inl (fun _ => 0)))]))) H2 := hP
  replace hD : va_D S ((a, .inr (3, [.ref b1, .ref b2, .ref b3, .null, .null, .null, .null, .null, .int 0, .int 0])) :: (apw (apw ([(b1, .inl (cy 1, 5, .inl (fun _ => 0)))]) ([(b2, .inl (cy 1, 201, .inl (fun _ => 0)))])) ([(b3, .inl (cy 1, 201, .inl (fun _ => 0)))]))) := hD
  refine lv_aload_n hx hb dX5_init_29 rfl (lv_at hl 0 rfl) ?_
  refine lv_sipush hx hb dX5_init_30 (v := 201) (by decide +kernel) ?_
  refine w_na CF hK (X := ((a, .inr (3, [.ref b1, .ref b2, .ref b3, .null, .null, .null, .null, .null, .int 0, .int 0])) :: (apw (apw ([(b1, .inl (cy 1, 5, .inl (fun _ => 0)))]) ([(b2, .inl (cy 1, 201, .inl (fun _ => 0)))])) ([(b3, .inl (cy 1, 201, .inl (fun _ => 0)))])))) hP hD hS hSz (Or.inl ⟨rfl, rfl⟩) (List.mem_cons_of_mem _ (mW0 (List.mem_of_getElem? (i := 4) rfl))) (by decide) (N := 201) (by decide +kernel) (by decide +kernel) (by decide +kernel) (by decide +kernel) dX5_init_33 ?_
  intro b4 H2 hP hD hS
  replace hP : va_P D vwCl ((a, .inr (3, [.ref b1, .ref b2, .ref b3, .null, .null, .null, .null, .null, .int 0, .int 0])) :: (apw (apw (apw ([(b1, .inl (cy 1, 5, .inl (fun _ => 0)))]) ([(b2, .inl (cy 1, 201, .inl (fun _ => 0)))])) ([(b3, .inl (cy 1, 201, .inl (fun _ => 0)))])) ([(b4, .inl (cy 1, 201, .inl (fun _ => 0)))]))) H2 := hP
  replace hD : va_D S ((a, .inr (3, [.ref b1, .ref b2, .ref b3, .null, .null, .null, .null, .null, .int 0, .int 0])) :: (apw (apw (apw ([(b1, .inl (cy 1, 5, .inl (fun _ => 0)))]) ([(b2, .inl (cy 1, 201, .inl (fun _ => 0)))])) ([(b3, .inl (cy 1, 201, .inl (fun _ => 0)))])) ([(b4, .inl (cy 1, 201, .inl (fun _ => 0)))]))) := hD
  refine w_putF CF hK hin (a := a) (ci := 3) (fs := [.ref b1, .ref b2, .ref b3, .null, .null, .null, .null, .null, .int 0, .int 0]) (B := (apw (apw (apw ([(b1, .inl (cy 1, 5, .inl (fun _ => 0)))]) ([(b2, .inl (cy 1, 201, .inl (fun _ => 0)))])) ([(b3, .inl (cy 1, 201, .inl (fun _ => 0)))])) ([(b4, .inl (cy 1, 201, .inl (fun _ => 0)))]))) hP hD hS (v := .ref b4) (ftX5_ok (21, 3, 3, 1, 10201, 4) (by decide)).1 rfl rfl rfl rfl (tyX5_ok 3 (by decide)) rfl rfl (by simp) dX5_init_35 ?_
  intro H2 locs2 hP hD hS
  refine W.eq (g2 := F0 m 38 la []) rfl ?_
  replace hP : va_P D vwCl ((a, .inr (3, [.ref b1, .ref b2, .ref b3, .ref b4, .null, .null, .null, .null, .int 0, .int 0])) :: (apw (apw (apw ([(b1, .inl (cy 1, 5, .inl (fun _ => 0)))]) ([(b2, .inl (cy 1, 201, .inl (fun _ => 0)))])) ([(b3, .inl (cy 1, 201, .inl (fun _ => 0)))])) ([(b4, .inl (cy 1, 201, .inl (fun _ => 0)))]))) H2 := hP
  replace hD : va_D S ((a, .inr (3, [.ref b1, .ref b2, .ref b3, .ref b4, .null, .null, .null, .null, .int 0, .int 0])) :: (apw (apw (apw ([(b1, .inl (cy 1, 5, .inl (fun _ => 0)))]) ([(b2, .inl (cy 1, 201, .inl (fun _ => 0)))])) ([(b3, .inl (cy 1, 201, .inl (fun _ => 0)))])) ([(b4, .inl (cy 1, 201, .inl (fun _ => 0)))]))) := hD
  refine lv_aload_n hx hb dX5_init_38 rfl (lv_at hl 0 rfl) ?_
  refine lv_sipush hx hb dX5_init_39 (v := 201) (by decide +kernel) ?_
  refine w_na CF hK (X := ((a, .inr (3, [.ref b1, .ref b2, .ref b3, .ref b4, .null, .null, .null, .null, .int 0, .int 0])) :: (apw (apw (apw ([(b1, .inl (cy 1, 5, .inl (fun _ => 0)))]) ([(b2, .inl (cy 1, 201, .inl (fun _ => 0)))])) ([(b3, .inl (cy 1, 201, .inl (fun _ => 0)))])) ([(b4, .inl (cy 1, 201, .inl (fun _ => 0)))])))) hP hD hS hSz (Or.inl ⟨rfl, rfl⟩) (List.mem_cons_of_mem _ (mW0 (List.mem_of_getElem? (i := 4) rfl))) (by decide) (N := 201) (by decide +kernel) (by decide +kernel) (by decide +kernel) (by decide +kernel) dX5_init_42 ?_
  intro b5 H2 hP hD hS
  replace hP : va_P D vwCl ((a, .inr (3, [.ref b1, .ref b2, .ref b3, .ref b4, .null, .null, .null, .null, .int 0, .int 0])) :: (apw (apw (apw (apw ([(b1, .inl (cy 1, 5, .inl (fun _ => 0)))]) ([(b2, .inl (cy 1, 201, .inl (fun _ => 0)))])) ([(b3, .inl (cy 1, 201, .inl (fun _ => 0)))])) ([(b4, .inl (cy 1, 201, .inl (fun _ => 0)))])) ([(b5, .inl (cy 1, 201, .inl (fun _ => 0)))]))) H2 := hP
  replace hD : va_D S ((a, .inr (3, [.ref b1, .ref b2, .ref b3, .ref b4, .null, .null, .null, .null, .int 0, .int 0])) :: (apw (apw (apw (apw ([(b1, .inl (cy 1, 5, .inl (fun _ => 0)))]) ([(b2, .inl (cy 1, 201, .inl (fun _ => 0)))])) ([(b3, .inl (cy 1, 201, .inl (fun _ => 0)))])) ([(b4, .inl (cy 1, 201, .inl (fun _ => 0)))])) ([(b5, .inl (cy 1, 201, .inl (fun _ => 0)))]))) := hD
  refine w_putF CF hK hin (a := a) (ci := 3) (fs := [.ref b1, .ref b2, .ref b3, .ref b4, .null, .null, .null, .null, .int 0, .int 0]) (B := (apw (apw (apw (apw ([(b1, .inl (cy 1, 5, .inl (fun _ => 0)))]) ([(b2, .inl (cy 1, 201, .inl (fun _ => 0)))])) ([(b3, .inl (cy 1, 201, .inl (fun _ => 0)))])) ([(b4, .inl (cy 1, 201, .inl (fun _ => 0)))])) ([(b5, .inl (cy 1, 201, .inl (fun _ => 0)))]))) hP hD hS (v := .ref b5) (ftX5_ok (24, 3, 4, 1, 10201, 5) (by decide)).1 rfl rfl rfl rfl (tyX5_ok 4 (by decide)) rfl rfl (by simp) dX5_init_44 ?_
  intro H2 locs2 hP hD hS
  refine W.eq (g2 := F0 m 47 la []) rfl ?_
  replace hP : va_P D vwCl ((a, .inr (3, [.ref b1, .ref b2, .ref b3, .ref b4, .ref b5, .null, .null, .null, .int 0, .int 0])) :: (apw (apw (apw (apw ([(b1, .inl (cy 1, 5, .inl (fun _ => 0)))]) ([(b2, .inl (cy 1, 201, .inl (fun _ => 0)))])) ([(b3, .inl (cy 1, 201, .inl (fun _ => 0)))])) ([(b4, .inl (cy 1, 201, .inl (fun _ => 0)))])) ([(b5, .inl (cy 1, 201, .inl (fun _ => 0)))]))) H2 := hP
  replace hD : va_D S ((a, .inr (3, [.ref b1, .ref b2, .ref b3, .ref b4, .ref b5, .null, .null, .null, .int 0, .int 0])) :: (apw (apw (apw (apw ([(b1, .inl (cy 1, 5, .inl (fun _ => 0)))]) ([(b2, .inl (cy 1, 201, .inl (fun _ => 0)))])) ([(b3, .inl (cy 1, 201, .inl (fun _ => 0)))])) ([(b4, .inl (cy 1, 201, .inl (fun _ => 0)))])) ([(b5, .inl (cy 1, 201, .inl (fun _ => 0)))]))) := hD
  refine lv_aload_n hx hb dX5_init_47 rfl (lv_at hl 0 rfl) ?_
  refine lv_sipush hx hb dX5_init_48 (v := 201) (by decide +kernel) ?_
  refine w_na CF hK (X := ((a, .inr (3, [.ref b1, .ref b2, .ref b3, .ref b4, .ref b5, .null, .null, .null, .int 0, .int 0])) :: (apw (apw (apw (apw ([(b1, .inl (cy 1, 5, .inl (fun _ => 0)))]) ([(b2, .inl (cy 1, 201, .inl (fun _ => 0)))])) ([(b3, .inl (cy 1, 201, .inl (fun _ => 0)))])) ([(b4, .inl (cy 1, 201, .inl (fun _ => 0)))])) ([(b5, .inl (cy 1, 201, .inl (fun _ => 0)))])))) hP hD hS hSz (Or.inl ⟨rfl, rfl⟩) (List.mem_cons_of_mem _ (mW0 (List.mem_of_getElem? (i := 4) rfl))) (by decide) (N := 201) (by decide +kernel) (by decide +kernel) (by decide +kernel) (by decide +kernel) dX5_init_51 ?_
  intro b6 H2 hP hD hS
  replace hP : va_P D vwCl ((a, .inr (3, [.ref b1, .ref b2, .ref b3, .ref b4, .ref b5, .null, .null, .null, .int 0, .int 0])) :: (apw (apw (apw (apw (apw ([(b1, .inl (cy 1, 5, .inl (fun _ => 0)))]) ([(b2, .inl (cy 1, 201, .inl (fun _ => 0)))])) ([(b3, .inl (cy 1, 201, .inl (fun _ => 0)))])) ([(b4, .inl (cy 1, 201, .inl (fun _ => 0)))])) ([(b5, .inl (cy 1, 201, .inl (fun _ => 0)))])) ([(b6, .inl (cy 1, 201, .inl (fun _ => 0)))]))) H2 := hP
  replace hD : va_D S ((a, .inr (3, [.ref b1, .ref b2, .ref b3, .ref b4, .ref b5, .null, .null, .null, .int 0, .int 0])) :: (apw (apw (apw (apw (apw ([(b1, .inl (cy 1, 5, .inl (fun _ => 0)))]) ([(b2, .inl (cy 1, 201, .inl (fun _ => 0)))])) ([(b3, .inl (cy 1, 201, .inl (fun _ => 0)))])) ([(b4, .inl (cy 1, 201, .inl (fun _ => 0)))])) ([(b5, .inl (cy 1, 201, .inl (fun _ => 0)))])) ([(b6, .inl (cy 1, 201, .inl (fun _ => 0)))]))) := hD
  refine w_putF CF hK hin (a := a) (ci := 3) (fs := [.ref b1, .ref b2, .ref b3, .ref b4, .ref b5, .null, .null, .null, .int 0, .int 0]) (B := (apw (apw (apw (apw (apw ([(b1, .inl (cy 1, 5, .inl (fun _ => 0)))]) ([(b2, .inl (cy 1, 201, .inl (fun _ => 0)))])) ([(b3, .inl (cy 1, 201, .inl (fun _ => 0)))])) ([(b4, .inl (cy 1, 201, .inl (fun _ => 0)))])) ([(b5, .inl (cy 1, 201, .inl (fun _ => 0)))])) ([(b6, .inl (cy 1, 201, .inl (fun _ => 0)))]))) hP hD hS (v := .ref b6) (ftX5_ok (27, 3, 5, 1, 10201, 6) (by decide)).1 rfl rfl rfl rfl (tyX5_ok 5 (by decide)) rfl rfl (by simp) dX5_init_53 ?_
  intro H2 locs2 hP hD hS
  refine W.eq (g2 := F0 m 56 la []) rfl ?_
  replace hP : va_P D vwCl ((a, .inr (3, [.ref b1, .ref b2, .ref b3, .ref b4, .ref b5, .ref b6, .null, .null, .int 0, .int 0])) :: (apw (apw (apw (apw (apw ([(b1, .inl (cy 1, 5, .inl (fun _ => 0)))]) ([(b2, .inl (cy 1, 201, .inl (fun _ => 0)))])) ([(b3, .inl (cy 1, 201, .inl (fun _ => 0)))])) ([(b4, .inl (cy 1, 201, .inl (fun _ => 0)))])) ([(b5, .inl (cy 1, 201, .inl (fun _ => 0)))])) ([(b6, .inl (cy 1, 201, .inl (fun _ => 0)))]))) H2 := hP
  replace hD : va_D S ((a, .inr (3, [.ref b1, .ref b2, .ref b3, .ref b4, .ref b5, .ref b6, .null, .null, .int 0, .int 0])) :: (apw (apw (apw (apw (apw ([(b1, .inl (cy 1, 5, .inl (fun _ => 0)))]) ([(b2, .inl (cy 1, 201, .inl (fun _ => 0)))])) ([(b3, .inl (cy 1, 201, .inl (fun _ => 0)))])) ([(b4, .inl (cy 1, 201, .inl (fun _ => 0)))])) ([(b5, .inl (cy 1, 201, .inl (fun _ => 0)))])) ([(b6, .inl (cy 1, 201, .inl (fun _ => 0)))]))) := hD
  refine lv_aload_n hx hb dX5_init_56 rfl (lv_at hl 0 rfl) ?_
  refine lv_sipush hx hb dX5_init_57 (v := 1005) (by decide +kernel) ?_
  refine w_na CF hK (X := ((a, .inr (3, [.ref b1, .ref b2, .ref b3, .ref b4, .ref b5, .ref b6, .null, .null, .int 0, .int 0])) :: (apw (apw (apw (apw (apw ([(b1, .inl (cy 1, 5, .inl (fun _ => 0)))]) ([(b2, .inl (cy 1, 201, .inl (fun _ => 0)))])) ([(b3, .inl (cy 1, 201, .inl (fun _ => 0)))])) ([(b4, .inl (cy 1, 201, .inl (fun _ => 0)))])) ([(b5, .inl (cy 1, 201, .inl (fun _ => 0)))])) ([(b6, .inl (cy 1, 201, .inl (fun _ => 0)))])))) hP hD hS hSz (Or.inl ⟨rfl, rfl⟩) (List.mem_cons_of_mem _ (mW0 (List.mem_of_getElem? (i := 4) rfl))) (by decide) (N := 1005) (by decide +kernel) (by decide +kernel) (by decide +kernel) (by decide +kernel) dX5_init_60 ?_
  intro b7 H2 hP hD hS
  replace hP : va_P D vwCl ((a, .inr (3, [.ref b1, .ref b2, .ref b3, .ref b4, .ref b5, .ref b6, .null, .null, .int 0, .int 0])) :: (apw (apw (apw (apw (apw (apw ([(b1, .inl (cy 1, 5, .inl (fun _ => 0)))]) ([(b2, .inl (cy 1, 201, .inl (fun _ => 0)))])) ([(b3, .inl (cy 1, 201, .inl (fun _ => 0)))])) ([(b4, .inl (cy 1, 201, .inl (fun _ => 0)))])) ([(b5, .inl (cy 1, 201, .inl (fun _ => 0)))])) ([(b6, .inl (cy 1, 201, .inl (fun _ => 0)))])) ([(b7, .inl (cy 1, 1005, .inl (fun _ => 0)))]))) H2 := hP
  replace hD : va_D S ((a, .inr (3, [.ref b1, .ref b2, .ref b3, .ref b4, .ref b5, .ref b6, .null, .null, .int 0, .int 0])) :: (apw (apw (apw (apw (apw (apw ([(b1, .inl (cy 1, 5, .inl (fun _ => 0)))]) ([(b2, .inl (cy 1, 201, .inl (fun _ => 0)))])) ([(b3, .inl (cy 1, 201, .inl (fun _ => 0)))])) ([(b4, .inl (cy 1, 201, .inl (fun _ => 0)))])) ([(b5, .inl (cy 1, 201, .inl (fun _ => 0)))])) ([(b6, .inl (cy 1, 201, .inl (fun _ => 0)))])) ([(b7, .inl (cy 1, 1005, .inl (fun _ => 0)))]))) := hD
  refine w_putF CF hK hin (a := a) (ci := 3) (fs := [.ref b1, .ref b2, .ref b3, .ref b4, .ref b5, .ref b6, .null, .null, .int 0, .int 0]) (B := (apw (apw (apw (apw (apw (apw ([(b1, .inl (cy 1, 5, .inl (fun _ => 0)))]) ([(b2, .inl (cy 1, 201, .inl (fun _ => 0)))])) ([(b3, .inl (cy 1, 201, .inl (fun _ => 0)))])) ([(b4, .inl (cy 1, 201, .inl (fun _ => 0)))])) ([(b5, .inl (cy 1, 201, .inl (fun _ => 0)))])) ([(b6, .inl (cy 1, 201, .inl (fun _ => 0)))])) ([(b7, .inl (cy 1, 1005, .inl (fun _ => 0)))]))) hP hD hS (v := .ref b7) (ftX5_ok (30, 3, 6, 1, 11005, 7) (by decide)).1 rfl rfl rfl rfl (tyX5_ok 6 (by decide)) rfl rfl (by simp) dX5_init_62 ?_
  intro H2 locs2 hP hD hS
  refine W.eq (g2 := F0 m 65 la []) rfl ?_
  replace hP : va_P D vwCl ((a, .inr (3, [.ref b1, .ref b2, .ref b3, .ref b4, .ref b5, .ref b6, .ref b7, .null, .int 0, .int 0])) :: (apw (apw (apw (apw (apw (apw ([(b1, .inl (cy 1, 5, .inl (fun _ => 0)))]) ([(b2, .inl (cy 1, 201, .inl (fun _ => 0)))])) ([(b3, .inl (cy 1, 201, .inl (fun _ => 0)))])) ([(b4, .inl (cy 1, 201, .inl (fun _ => 0)))])) ([(b5, .inl (cy 1, 201, .inl (fun _ => 0)))])) ([(b6, .inl (cy 1, 201, .inl (fun _ => 0)))])) ([(b7, .inl (cy 1, 1005, .inl (fun _ => 0)))]))) H2 := hP
  replace hD : va_D S ((a, .inr (3, [.ref b1, .ref b2, .ref b3, .ref b4, .ref b5, .ref b6, .ref b7, .null, .int 0, .int 0])) :: (apw (apw (apw (apw (apw (apw ([(b1, .inl (cy 1, 5, .inl (fun _ => 0)))]) ([(b2, .inl (cy 1, 201, .inl (fun _ => 0)))])) ([(b3, .inl (cy 1, 201, .inl (fun _ => 0)))])) ([(b4, .inl (cy 1, 201, .inl (fun _ => 0)))])) ([(b5, .inl (cy 1, 201, .inl (fun _ => 0)))])) ([(b6, .inl (cy 1, 201, .inl (fun _ => 0)))])) ([(b7, .inl (cy 1, 1005, .inl (fun _ => 0)))]))) := hD
  refine lv_aload_n hx hb dX5_init_65 rfl (lv_at hl 0 rfl) ?_
  refine lv_sipush hx hb dX5_init_66 (v := 201) (by decide +kernel) ?_
  refine w_na CF hK (X := ((a, .inr (3, [.ref b1, .ref b2, .ref b3, .ref b4, .ref b5, .ref b6, .ref b7, .null, .int 0, .int 0])) :: (apw (apw (apw (apw (apw (apw ([(b1, .inl (cy 1, 5, .inl (fun _ => 0)))]) ([(b2, .inl (cy 1, 201, .inl (fun _ => 0)))])) ([(b3, .inl (cy 1, 201, .inl (fun _ => 0)))])) ([(b4, .inl (cy 1, 201, .inl (fun _ => 0)))])) ([(b5, .inl (cy 1, 201, .inl (fun _ => 0)))])) ([(b6, .inl (cy 1, 201, .inl (fun _ => 0)))])) ([(b7, .inl (cy 1, 1005, .inl (fun _ => 0)))])))) hP hD hS hSz (Or.inl ⟨rfl, rfl⟩) (List.mem_cons_of_mem _ (mW0 (List.mem_of_getElem? (i := 4) rfl))) (by decide) (N := 201) (by decide +kernel) (by decide +kernel) (by decide +kernel) (by decide +kernel) dX5_init_69 ?_
  intro b8 H2 hP hD hS
  replace hP : va_P D vwCl ((a, .inr (3, [.ref b1, .ref b2, .ref b3, .ref b4, .ref b5, .ref b6, .ref b7, .null, .int 0, .int 0])) :: (apw (apw (apw (apw (apw (apw (apw ([(b1, .inl (cy 1, 5, .inl (fun _ => 0)))]) ([(b2, .inl (cy 1, 201, .inl (fun _ => 0)))])) ([(b3, .inl (cy 1, 201, .inl (fun _ => 0)))])) ([(b4, .inl (cy 1, 201, .inl (fun _ => 0)))])) ([(b5, .inl (cy 1, 201, .inl (fun _ => 0)))])) ([(b6, .inl (cy 1, 201, .inl (fun _ => 0)))])) ([(b7, .inl (cy 1, 1005, .inl (fun _ => 0)))])) ([(b8, .inl (cy 1, 201, .inl (fun _ => 0)))]))) H2 := hP
  replace hD : va_D S ((a, .inr (3, [.ref b1, .ref b2, .ref b3, .ref b4, .ref b5, .ref b6, .ref b7, .null, .int 0, .int 0])) :: (apw (apw (apw (apw (apw (apw (apw ([(b1, .inl (cy 1, 5, .inl (fun _ => 0)))]) ([(b2, .inl (cy 1, 201, .inl (fun _ => 0)))])) ([(b3, .inl (cy 1, 201, .inl (fun _ => 0)))])) ([(b4, .inl (cy 1, 201, .inl (fun _ => 0)))])) ([(b5, .inl (cy 1, 201, .inl (fun _ => 0)))])) ([(b6, .inl (cy 1, 201, .inl (fun _ => 0)))])) ([(b7, .inl (cy 1, 1005, .inl (fun _ => 0)))])) ([(b8, .inl (cy 1, 201, .inl (fun _ => 0)))]))) := hD
  refine w_putF CF hK hin (a := a) (ci := 3) (fs := [.ref b1, .ref b2, .ref b3, .ref b4, .ref b5, .ref b6, .ref b7, .null, .int 0, .int 0]) (B := (apw (apw (apw (apw (apw (apw (apw ([(b1, .inl (cy 1, 5, .inl (fun _ => 0)))]) ([(b2, .inl (cy 1, 201, .inl (fun _ => 0)))])) ([(b3, .inl (cy 1, 201, .inl (fun _ => 0)))])) ([(b4, .inl (cy 1, 201, .inl (fun _ => 0)))])) ([(b5, .inl (cy 1, 201, .inl (fun _ => 0)))])) ([(b6, .inl (cy 1, 201, .inl (fun _ => 0)))])) ([(b7, .inl (cy 1, 1005, .inl (fun _ => 0)))])) ([(b8, .inl (cy 1, 201, .inl (fun _ => 0)))]))) hP hD hS (v := .ref b8) (ftX5_ok (33, 3, 7, 1, 10201, 8) (by decide)).1 rfl rfl rfl rfl (tyX5_ok 7 (by decide)) rfl rfl (by simp) dX5_init_71 ?_
  intro H2 locs2 hP hD hS
  refine W.eq (g2 := F0 m 74 la []) rfl ?_
  replace hP : va_P D vwCl ((a, .inr (3, [.ref b1, .ref b2, .ref b3, .ref b4, .ref b5, .ref b6, .ref b7, .ref b8, .int 0, .int 0])) :: (apw (apw (apw (apw (apw (apw (apw ([(b1, .inl (cy 1, 5, .inl (fun _ => 0)))]) ([(b2, .inl (cy 1, 201, .inl (fun _ => 0)))])) ([(b3, .inl (cy 1, 201, .inl (fun _ => 0)))])) ([(b4, .inl (cy 1, 201, .inl (fun _ => 0)))])) ([(b5, .inl (cy 1, 201, .inl (fun _ => 0)))])) ([(b6, .inl (cy 1, 201, .inl (fun _ => 0)))])) ([(b7, .inl (cy 1, 1005, .inl (fun _ => 0)))])) ([(b8, .inl (cy 1, 201, .inl (fun _ => 0)))]))) H2 := hP
  replace hD : va_D S ((a, .inr (3, [.ref b1, .ref b2, .ref b3, .ref b4, .ref b5, .ref b6, .ref b7, .ref b8, .int 0, .int 0])) :: (apw (apw (apw (apw (apw (apw (apw ([(b1, .inl (cy 1, 5, .inl (fun _ => 0)))]) ([(b2, .inl (cy 1, 201, .inl (fun _ => 0)))])) ([(b3, .inl (cy 1, 201, .inl (fun _ => 0)))])) ([(b4, .inl (cy 1, 201, .inl (fun _ => 0)))])) ([(b5, .inl (cy 1, 201, .inl (fun _ => 0)))])) ([(b6, .inl (cy 1, 201, .inl (fun _ => 0)))])) ([(b7, .inl (cy 1, 1005, .inl (fun _ => 0)))])) ([(b8, .inl (cy 1, 201, .inl (fun _ => 0)))]))) := hD
  have q7 : va_P D vwCl (apw ((a, .inr (3, [.ref b1, .ref b2, .ref b3, .ref b4, .ref b5, .ref b6, .ref b7, .ref b8, .int 0, .int 0])) :: (apw (apw (apw (apw (apw (apw ([(b1, .inl (cy 1, 5, .inl (fun _ => 0)))]) ([(b2, .inl (cy 1, 201, .inl (fun _ => 0)))])) ([(b3, .inl (cy 1, 201, .inl (fun _ => 0)))])) ([(b4, .inl (cy 1, 201, .inl (fun _ => 0)))])) ([(b5, .inl (cy 1, 201, .inl (fun _ => 0)))])) ([(b6, .inl (cy 1, 201, .inl (fun _ => 0)))])) ([(b7, .inl (cy 1, 1005, .inl (fun _ => 0)))]))) ([(b8, .inl (cy 1, 201, .inl (fun _ => 0)))])) H2 := hP
  have q6 : va_P D vwCl (apw ((a, .inr (3, [.ref b1, .ref b2, .ref b3, .ref b4, .ref b5, .ref b6, .ref b7, .ref b8, .int 0, .int 0])) :: (apw (apw (apw (apw (apw ([(b1, .inl (cy 1, 5, .inl (fun _ => 0)))]) ([(b2, .inl (cy 1, 201, .inl (fun _ => 0)))])) ([(b3, .inl (cy 1, 201, .inl (fun _ => 0)))])) ([(b4, .inl (cy 1, 201, .inl (fun _ => 0)))])) ([(b5, .inl (cy 1, 201, .inl (fun _ => 0)))])) ([(b6, .inl (cy 1, 201, .inl (fun _ => 0)))]))) ([(b7, .inl (cy 1, 1005, .inl (fun _ => 0)))])) H2 := P_pre q7
  have q5 : va_P D vwCl (apw ((a, .inr (3, [.ref b1, .ref b2, .ref b3, .ref b4, .ref b5, .ref b6, .ref b7, .ref b8, .int 0, .int 0])) :: (apw (apw (apw (apw ([(b1, .inl (cy 1, 5, .inl (fun _ => 0)))]) ([(b2, .inl (cy 1, 201, .inl (fun _ => 0)))])) ([(b3, .inl (cy 1, 201, .inl (fun _ => 0)))])) ([(b4, .inl (cy 1, 201, .inl (fun _ => 0)))])) ([(b5, .inl (cy 1, 201, .inl (fun _ => 0)))]))) ([(b6, .inl (cy 1, 201, .inl (fun _ => 0)))])) H2 := P_pre q6
  have q4 : va_P D vwCl (apw ((a, .inr (3, [.ref b1, .ref b2, .ref b3, .ref b4, .ref b5, .ref b6, .ref b7, .ref b8, .int 0, .int 0])) :: (apw (apw (apw ([(b1, .inl (cy 1, 5, .inl (fun _ => 0)))]) ([(b2, .inl (cy 1, 201, .inl (fun _ => 0)))])) ([(b3, .inl (cy 1, 201, .inl (fun _ => 0)))])) ([(b4, .inl (cy 1, 201, .inl (fun _ => 0)))]))) ([(b5, .inl (cy 1, 201, .inl (fun _ => 0)))])) H2 := P_pre q5
  have q3 : va_P D vwCl (apw ((a, .inr (3, [.ref b1, .ref b2, .ref b3, .ref b4, .ref b5, .ref b6, .ref b7, .ref b8, .int 0, .int 0])) :: (apw (apw ([(b1, .inl (cy 1, 5, .inl (fun _ => 0)))]) ([(b2, .inl (cy 1, 201, .inl (fun _ => 0)))])) ([(b3, .inl (cy 1, 201, .inl (fun _ => 0)))]))) ([(b4, .inl (cy 1, 201, .inl (fun _ => 0)))])) H2 := P_pre q4
  have q2 : va_P D vwCl (apw ((a, .inr (3, [.ref b1, .ref b2, .ref b3, .ref b4, .ref b5, .ref b6, .ref b7, .ref b8, .int 0, .int 0])) :: (apw ([(b1, .inl (cy 1, 5, .inl (fun _ => 0)))]) ([(b2, .inl (cy 1, 201, .inl (fun _ => 0)))]))) ([(b3, .inl (cy 1, 201, .inl (fun _ => 0)))])) H2 := P_pre q3
  have q1 : va_P D vwCl (apw ((a, .inr (3, [.ref b1, .ref b2, .ref b3, .ref b4, .ref b5, .ref b6, .ref b7, .ref b8, .int 0, .int 0])) :: ([(b1, .inl (cy 1, 5, .inl (fun _ => 0)))])) ([(b2, .inl (cy 1, 201, .inl (fun _ => 0)))])) H2 := P_pre q2
  have q0 : va_P D vwCl (apw ((a, .inr (3, [.ref b1, .ref b2, .ref b3, .ref b4, .ref b5, .ref b6, .ref b7, .ref b8, .int 0, .int 0])) :: []) ([(b1, .inl (cy 1, 5, .inl (fun _ => 0)))])) H2 := P_pre q1
  have hB : va_P D vwCl (BD cy (LO r (fX5 r a b1 b2 b3 b4 b5 b6 b7 b8)) r 9) H2 := by
    intro i q hq
    obtain ⟨hi, rfl⟩ := BD_of hq
    by_cases c0 : i = 0
    · subst c0
      rw [LO_at, ce_o (k := 3) (hr 0 (by decide)) (by decide)]
      exact (P_pre q0) 0 _ rfl
    by_cases c1 : i < 2
    · obtain rfl : i = 1 := by omega
      rw [LO_at, ce_a (k := 10005) (hr 1 (by decide)) (by decide) (by decide)]
      exact (P_suf q0) 0 _ rfl
    by_cases c2 : i < 3
    · obtain rfl : i = 2 := by omega
      rw [LO_at, ce_a (k := 10201) (hr 2 (by decide)) (by decide) (by decide)]
      exact (P_suf q1) 0 _ rfl
    by_cases c3 : i < 4
    · obtain rfl : i = 3 := by omega
      rw [LO_at, ce_a (k := 10201) (hr 3 (by decide)) (by decide) (by decide)]
      exact (P_suf q2) 0 _ rfl
    by_cases c4 : i < 5
    · obtain rfl : i = 4 := by omega
      rw [LO_at, ce_a (k := 10201) (hr 4 (by decide)) (by decide) (by decide)]
      exact (P_suf q3) 0 _ rfl
    by_cases c5 : i < 6
    · obtain rfl : i = 5 := by omega
      rw [LO_at, ce_a (k := 10201) (hr 5 (by decide)) (by decide) (by decide)]
      exact (P_suf q4) 0 _ rfl
    by_cases c6 : i < 7
    · obtain rfl : i = 6 := by omega
      rw [LO_at, ce_a (k := 10201) (hr 6 (by decide)) (by decide) (by decide)]
      exact (P_suf q5) 0 _ rfl
    by_cases c7 : i < 8
    · obtain rfl : i = 7 := by omega
      rw [LO_at, ce_a (k := 11005) (hr 7 (by decide)) (by decide) (by decide)]
      exact (P_suf q6) 0 _ rfl
    by_cases c8 : i < 9
    · obtain rfl : i = 8 := by omega
      rw [LO_at, ce_a (k := 10201) (hr 8 (by decide)) (by decide) (by decide)]
      exact (P_suf q7) 0 _ rfl
    exact absurd hi (by omega)
  have hE : va_D S (BD cy (LO r (fX5 r a b1 b2 b3 b4 b5 b6 b7 b8)) r 9) := by
    have hx9 : IX (apw (apw (apw (apw (apw (apw (apw (apw [(a, .inr (3, [.ref b1, .ref b2, .ref b3, .ref b4, .ref b5, .ref b6, .ref b7, .ref b8, .int 0, .int 0]))] ([(b1, .inl (cy 1, 5, .inl (fun _ => 0)))])) ([(b2, .inl (cy 1, 201, .inl (fun _ => 0)))])) ([(b3, .inl (cy 1, 201, .inl (fun _ => 0)))])) ([(b4, .inl (cy 1, 201, .inl (fun _ => 0)))])) ([(b5, .inl (cy 1, 201, .inl (fun _ => 0)))])) ([(b6, .inl (cy 1, 201, .inl (fun _ => 0)))])) ([(b7, .inl (cy 1, 1005, .inl (fun _ => 0)))])) ([(b8, .inl (cy 1, 201, .inl (fun _ => 0)))])) (fX5 r a b1 b2 b3 b4 b5 b6 b7 b8) 9 := (ix_s (ix_s (ix_s (ix_s (ix_s (ix_s (ix_s (ix_s (ix_1 (f := (fX5 r a b1 b2 b3 b4 b5 b6 b7 b8)) rfl) rfl) rfl) rfl) rfl) rfl) rfl) rfl) rfl)
    refine BD_D (show va_D S (apw (apw (apw (apw (apw (apw (apw (apw [(a, .inr (3, [.ref b1, .ref b2, .ref b3, .ref b4, .ref b5, .ref b6, .ref b7, .ref b8, .int 0, .int 0]))] ([(b1, .inl (cy 1, 5, .inl (fun _ => 0)))])) ([(b2, .inl (cy 1, 201, .inl (fun _ => 0)))])) ([(b3, .inl (cy 1, 201, .inl (fun _ => 0)))])) ([(b4, .inl (cy 1, 201, .inl (fun _ => 0)))])) ([(b5, .inl (cy 1, 201, .inl (fun _ => 0)))])) ([(b6, .inl (cy 1, 201, .inl (fun _ => 0)))])) ([(b7, .inl (cy 1, 1005, .inl (fun _ => 0)))])) ([(b8, .inl (cy 1, 201, .inl (fun _ => 0)))])) from hD) (fun i hi => ?_)
    rw [LO_at]
    exact hx9.2 i hi
  subst hSe
  refine W.vret hx hb hr0 (fun t ht hW => ⟨⟨rfl, (LO r (fX5 r a b1 b2 b3 b4 b5 b6 b7 b8)), ?_, by rw [ht]; exact hB, hE⟩, hS.F ht⟩) hS.2.2 dX5_init_74
  show LO r _ r = a
  unfold LO
  rw [Nat.sub_self]
  rfl
def fX6a (r : Nat) (a : Nat) (b1 : Nat) : Nat → Nat := fun i => if i = 0 then a else b1
set_option maxHeartbeats 4000000 in
set_option maxRecDepth 100000 in
theorem i_X6a {r : Nat} (hr : rkp r pX6a) : MetI yX6_init (.code yX6_init cX6_init 2 none :: W0) 1 4 [.null, .int 0] [.int 60] r 2 1 60 := by
  refine MetI_of (by decide) rfl (fun a => by simp [lg_sl, Value.category]) ?_
  intro p l e s m args below meth c la D cy a S hSe hF hl hSz hP hD hS
  obtain ⟨CF, hr0, hlk, hin, hK, hKA⟩ := hF
  have CF0 := CF
  obtain ⟨hx, hb, hml, hown, hts⟩ := CF0
  have hla : la.size = 2 := hl.1
  refine lv_aload_n hx hb dX6_init_0 rfl (lv_at hl 0 rfl) ?_
  refine W.objInit hx hb hown (hts _ (List.mem_cons_of_mem _ (mW1 (List.mem_of_getElem? (i := 9) rfl)))) (hts _ (List.mem_cons_of_mem _ (mW0 (List.mem_of_getElem? (i := 2) rfl)))) (hts _ (List.mem_cons_of_mem _ (mW0 (List.mem_of_getElem? (i := 3) rfl)))) rfl (by rw [hml]; exact hl.1) rfl dX6_init_1 (by decide) (Nat.le_of_ble_eq_true rfl) ?_
  refine W.eq (g2 := F0 m 4 la []) rfl ?_
  refine lv_aload_n hx hb dX6_init_4 rfl (lv_at hl 0 rfl) ?_
  refine lv_iload_n hx hb dX6_init_5 rfl (lv_at hl 1 rfl) ?_
  refine w_na CF hK (X := ((a, .inr (4, [.null, .int 0])) :: [])) hP hD hS hSz (Or.inl ⟨rfl, rfl⟩) (List.mem_cons_of_mem _ (mW0 (List.mem_of_getElem? (i := 4) rfl))) (by decide) (N := 60) (by decide +kernel) (by decide +kernel) (by decide +kernel) (by decide +kernel) dX6_init_6 ?_
  intro b1 H2 hP hD hS
  replace hP : va_P D vwCl ((a, .inr (4, [.null, .int 0])) :: ([(b1, .inl (cy 1, 60, .inl (fun _ => 0)))])) H2 := hP
  replace hD : va_D S ((a, .inr (4, [.null, .int 0])) :: ([(b1, .inl (cy 1, 60, .inl (fun _ => 0)))])) := hD
  refine w_putF CF hK hin (a := a) (ci := 4) (fs := [.null, .int 0]) (B := ([(b1, .inl (cy 1, 60, .inl (fun _ => 0)))])) hP hD hS (v := .ref b1) (ftX6_ok (7, 4, 0, 1, 10060, 1) (by decide)).1 rfl rfl rfl rfl (tyX6_ok 0 (by decide)) rfl rfl (by simp) dX6_init_8 ?_
  intro H2 locs2 hP hD hS
  refine W.eq (g2 := F0 m 11 la []) rfl ?_
  replace hP : va_P D vwCl ((a, .inr (4, [.ref b1, .int 0])) :: ([(b1, .inl (cy 1, 60, .inl (fun _ => 0)))])) H2 := hP
  replace hD : va_D S ((a, .inr (4, [.ref b1, .int 0])) :: ([(b1, .inl (cy 1, 60, .inl (fun _ => 0)))])) := hD
  have q0 : va_P D vwCl (apw ((a, .inr (4, [.ref b1, .int 0])) :: []) ([(b1, .inl (cy 1, 60, .inl (fun _ => 0)))])) H2 := hP
  have hB : va_P D vwCl (BD cy (LO r (fX6a r a b1)) r 2) H2 := by
    intro i q hq
    obtain ⟨hi, rfl⟩ := BD_of hq
    by_cases c0 : i = 0
    · subst c0
      rw [LO_at, ce_o (k := 4) (hr 0 (by decide)) (by decide)]
      exact (P_pre q0) 0 _ rfl
    by_cases c1 : i < 2
    · obtain rfl : i = 1 := by omega
      rw [LO_at, ce_a (k := 10060) (hr 1 (by decide)) (by decide) (by decide)]
      exact (P_suf q0) 0 _ rfl
    exact absurd hi (by omega)
  have hE : va_D S (BD cy (LO r (fX6a r a b1)) r 2) := by
    have hx9 : IX (apw [(a, .inr (4, [.ref b1, .int 0]))] ([(b1, .inl (cy 1, 60, .inl (fun _ => 0)))])) (fX6a r a b1) 2 := (ix_s (ix_1 (f := (fX6a r a b1)) rfl) rfl)
    refine BD_D (show va_D S (apw [(a, .inr (4, [.ref b1, .int 0]))] ([(b1, .inl (cy 1, 60, .inl (fun _ => 0)))])) from hD) (fun i hi => ?_)
    rw [LO_at]
    exact hx9.2 i hi
  subst hSe
  refine W.vret hx hb hr0 (fun t ht hW => ⟨⟨rfl, (LO r (fX6a r a b1)), ?_, by rw [ht]; exact hB, hE⟩, hS.F ht⟩) hS.2.2 dX6_init_11
  show LO r _ r = a
  unfold LO
  rw [Nat.sub_self]
  rfl
def fX6b (r : Nat) (a : Nat) (b1 : Nat) : Nat → Nat := fun i => if i = 0 then a else b1
set_option maxHeartbeats 4000000 in
set_option maxRecDepth 100000 in
theorem i_X6b {r : Nat} (hr : rkp r pX6b) : MetI yX6_init (.code yX6_init cX6_init 2 none :: W0) 1 4 [.null, .int 0] [.int 201] r 2 1 201 := by
  refine MetI_of (by decide) rfl (fun a => by simp [lg_sl, Value.category]) ?_
  intro p l e s m args below meth c la D cy a S hSe hF hl hSz hP hD hS
  obtain ⟨CF, hr0, hlk, hin, hK, hKA⟩ := hF
  have CF0 := CF
  obtain ⟨hx, hb, hml, hown, hts⟩ := CF0
  have hla : la.size = 2 := hl.1
  refine lv_aload_n hx hb dX6_init_0 rfl (lv_at hl 0 rfl) ?_
  refine W.objInit hx hb hown (hts _ (List.mem_cons_of_mem _ (mW1 (List.mem_of_getElem? (i := 9) rfl)))) (hts _ (List.mem_cons_of_mem _ (mW0 (List.mem_of_getElem? (i := 2) rfl)))) (hts _ (List.mem_cons_of_mem _ (mW0 (List.mem_of_getElem? (i := 3) rfl)))) rfl (by rw [hml]; exact hl.1) rfl dX6_init_1 (by decide) (Nat.le_of_ble_eq_true rfl) ?_
  refine W.eq (g2 := F0 m 4 la []) rfl ?_
  refine lv_aload_n hx hb dX6_init_4 rfl (lv_at hl 0 rfl) ?_
  refine lv_iload_n hx hb dX6_init_5 rfl (lv_at hl 1 rfl) ?_
  refine w_na CF hK (X := ((a, .inr (4, [.null, .int 0])) :: [])) hP hD hS hSz (Or.inl ⟨rfl, rfl⟩) (List.mem_cons_of_mem _ (mW0 (List.mem_of_getElem? (i := 4) rfl))) (by decide) (N := 201) (by decide +kernel) (by decide +kernel) (by decide +kernel) (by decide +kernel) dX6_init_6 ?_
  intro b1 H2 hP hD hS
  replace hP : va_P D vwCl ((a, .inr (4, [.null, .int 0])) :: ([(b1, .inl (cy 1, 201, .inl (fun _ => 0)))])) H2 := hP
  replace hD : va_D S ((a, .inr (4, [.null, .int 0])) :: ([(b1, .inl (cy 1, 201, .inl (fun _ => 0)))])) := hD
  refine w_putF CF hK hin (a := a) (ci := 4) (fs := [.null, .int 0]) (B := ([(b1, .inl (cy 1, 201, .inl (fun _ => 0)))])) hP hD hS (v := .ref b1) (ftX6_ok (7, 9, 0, 1, 10201, 1) (by decide)).1 rfl rfl rfl rfl (tyX6_ok 0 (by decide)) rfl rfl (by simp) dX6_init_8 ?_
  intro H2 locs2 hP hD hS
  refine W.eq (g2 := F0 m 11 la []) rfl ?_
  replace hP : va_P D vwCl ((a, .inr (4, [.ref b1, .int 0])) :: ([(b1, .inl (cy 1, 201, .inl (fun _ => 0)))])) H2 := hP
  replace hD : va_D S ((a, .inr (4, [.ref b1, .int 0])) :: ([(b1, .inl (cy 1, 201, .inl (fun _ => 0)))])) := hD
  have q0 : va_P D vwCl (apw ((a, .inr (4, [.ref b1, .int 0])) :: []) ([(b1, .inl (cy 1, 201, .inl (fun _ => 0)))])) H2 := hP
  have hB : va_P D vwCl (BD cy (LO r (fX6b r a b1)) r 2) H2 := by
    intro i q hq
    obtain ⟨hi, rfl⟩ := BD_of hq
    by_cases c0 : i = 0
    · subst c0
      rw [LO_at, ce_o (k := 9) (hr 0 (by decide)) (by decide)]
      exact (P_pre q0) 0 _ rfl
    by_cases c1 : i < 2
    · obtain rfl : i = 1 := by omega
      rw [LO_at, ce_a (k := 10201) (hr 1 (by decide)) (by decide) (by decide)]
      exact (P_suf q0) 0 _ rfl
    exact absurd hi (by omega)
  have hE : va_D S (BD cy (LO r (fX6b r a b1)) r 2) := by
    have hx9 : IX (apw [(a, .inr (4, [.ref b1, .int 0]))] ([(b1, .inl (cy 1, 201, .inl (fun _ => 0)))])) (fX6b r a b1) 2 := (ix_s (ix_1 (f := (fX6b r a b1)) rfl) rfl)
    refine BD_D (show va_D S (apw [(a, .inr (4, [.ref b1, .int 0]))] ([(b1, .inl (cy 1, 201, .inl (fun _ => 0)))])) from hD) (fun i hi => ?_)
    rw [LO_at]
    exact hx9.2 i hi
  subst hSe
  refine W.vret hx hb hr0 (fun t ht hW => ⟨⟨rfl, (LO r (fX6b r a b1)), ?_, by rw [ht]; exact hB, hE⟩, hS.F ht⟩) hS.2.2 dX6_init_11
  show LO r _ r = a
  unfold LO
  rw [Nat.sub_self]
  rfl
def fX7 (r : Nat) (a : Nat) (b1 : Nat) (b2 : Nat) : Nat → Nat := fun i => if i = 0 then a else if i < 2 then b1 else b2
set_option maxHeartbeats 4000000 in
set_option maxRecDepth 100000 in
theorem i_X7 {r : Nat} (hr : rkp r pX7) : MetI yX7_init (.code yX7_init cX7_init 1 none :: W0) 1 5 [.null, .int 0, .int 0, .null, .int 0, .int 0] [] r 3 2 400 := by
  refine MetI_of (by decide) rfl (fun a => by simp [lg_sl, Value.category]) ?_
  intro p l e s m args below meth c la D cy a S hSe hF hl hSz hP hD hS
  obtain ⟨CF, hr0, hlk, hin, hK, hKA⟩ := hF
  have CF0 := CF
  obtain ⟨hx, hb, hml, hown, hts⟩ := CF0
  have hla : la.size = 1 := hl.1
  refine lv_aload_n hx hb dX7_init_0 rfl (lv_at hl 0 rfl) ?_
  refine W.objInit hx hb hown (hts _ (List.mem_cons_of_mem _ (mW3 (List.mem_of_getElem? (i := 21) rfl)))) (hts _ (List.mem_cons_of_mem _ (mW0 (List.mem_of_getElem? (i := 2) rfl)))) (hts _ (List.mem_cons_of_mem _ (mW0 (List.mem_of_getElem? (i := 3) rfl)))) rfl (by rw [hml]; exact hl.1) rfl dX7_init_1 (by decide) (Nat.le_of_ble_eq_true rfl) ?_
  refine W.eq (g2 := F0 m 4 la []) rfl ?_
  refine lv_aload_n hx hb dX7_init_4 rfl (lv_at hl 0 rfl) ?_
  refine lv_sipush hx hb dX7_init_5 (v := 400) (by decide +kernel) ?_
  refine w_na CF hK (X := ((a, .inr (5, [.null, .int 0, .int 0, .null, .int 0, .int 0])) :: [])) hP hD hS hSz (Or.inl ⟨rfl, rfl⟩) (List.mem_cons_of_mem _ (mW0 (List.mem_of_getElem? (i := 4) rfl))) (by decide) (N := 400) (by decide +kernel) (by decide +kernel) (by decide +kernel) (by decide +kernel) dX7_init_8 ?_
  intro b1 H2 hP hD hS
  replace hP : va_P D vwCl ((a, .inr (5, [.null, .int 0, .int 0, .null, .int 0, .int 0])) :: ([(b1, .inl (cy 1, 400, .inl (fun _ => 0)))])) H2 := hP
  replace hD : va_D S ((a, .inr (5, [.null, .int 0, .int 0, .null, .int 0, .int 0])) :: ([(b1, .inl (cy 1, 400, .inl (fun _ => 0)))])) := hD
  refine w_putF CF hK hin (a := a) (ci := 5) (fs := [.null, .int 0, .int 0, .null, .int 0, .int 0]) (B := ([(b1, .inl (cy 1, 400, .inl (fun _ => 0)))])) hP hD hS (v := .ref b1) (ftX7_ok (9, 5, 0, 1, 10400, 1) (by decide)).1 rfl rfl rfl rfl (tyX7_ok 0 (by decide)) rfl rfl (by simp) dX7_init_10 ?_
  intro H2 locs2 hP hD hS
  refine W.eq (g2 := F0 m 13 la []) rfl ?_
  replace hP : va_P D vwCl ((a, .inr (5, [.ref b1, .int 0, .int 0, .null, .int 0, .int 0])) :: ([(b1, .inl (cy 1, 400, .inl (fun _ => 0)))])) H2 := hP
  replace hD : va_D S ((a, .inr (5, [.ref b1, .int 0, .int 0, .null, .int 0, .int 0])) :: ([(b1, .inl (cy 1, 400, .inl (fun _ => 0)))])) := hD
  refine lv_aload_n hx hb dX7_init_13 rfl (lv_at hl 0 rfl) ?_
  refine lv_iconst hx hb dX7_init_14 (v := 0) (by decide +kernel) ?_
  refine w_na CF hK (X := ((a, .inr (5, [.ref b1, .int 0, .int 0, .null, .int 0, .int 0])) :: ([(b1, .inl (cy 1, 400, .inl (fun _ => 0)))]))) hP hD hS hSz (Or.inr (Or.inl ⟨rfl, rfl⟩)) (List.mem_cons_of_mem _ (mW3 (List.mem_of_getElem? (i := 23) rfl))) (by decide) (N := 0) (by decide +kernel) (by decide +kernel) (by decide +kernel) (by decide +kernel) dX7_init_15 ?_
  intro b2 H2 hP hD hS
  replace hP : va_P D vwCl ((a, .inr (5, [.ref b1, .int 0, .int 0, .null, .int 0, .int 0])) :: (apw ([(b1, .inl (cy 1, 400, .inl (fun _ => 0)))]) ([(b2, .inl (cy 2, 0, .inl (fun _ => 0)))]))) H2 := hP
  replace hD : va_D S ((a, .inr (5, [.ref b1, .int 0, .int 0, .null, .int 0, .int 0])) :: (apw ([(b1, .inl (cy 1, 400, .inl (fun _ => 0)))]) ([(b2, .inl (cy 2, 0, .inl (fun _ => 0)))]))) := hD
  refine w_put CF hK (a := a) (ci := 5) (fs := [.ref b1, .int 0, .int 0, .null, .int 0, .int 0]) (B := (apw ([(b1, .inl (cy 1, 400, .inl (fun _ => 0)))]) ([(b2, .inl (cy 2, 0, .inl (fun _ => 0)))]))) hP hD hS (v := .ref b2) (ftX7_ok (15, 5, 3, 2, 20400, 3) (by decide)).1 rfl rfl rfl (tyX7_ok 3 (by decide)) rfl rfl (by simp) dX7_init_17 ?_
  intro H2 locs2 hP hD hS
  refine W.eq (g2 := F0 m 20 la []) rfl ?_
  replace hP : va_P D vwCl ((a, .inr (5, [.ref b1, .int 0, .int 0, .ref b2, .int 0, .int 0])) :: (apw ([(b1, .inl (cy 1, 400, .inl (fun _ => 0)))]) ([(b2, .inl (cy 2, 0, .inl (fun _ => 0)))]))) H2 := hP
  replace hD : va_D S ((a, .inr (5, [.ref b1, .int 0, .int 0, .ref b2, .int 0, .int 0])) :: (apw ([(b1, .inl (cy 1, 400, .inl (fun _ => 0)))]) ([(b2, .inl (cy 2, 0, .inl (fun _ => 0)))]))) := hD
  have q1 : va_P D vwCl (apw ((a, .inr (5, [.ref b1, .int 0, .int 0, .ref b2, .int 0, .int 0])) :: ([(b1, .inl (cy 1, 400, .inl (fun _ => 0)))])) ([(b2, .inl (cy 2, 0, .inl (fun _ => 0)))])) H2 := hP
  have q0 : va_P D vwCl (apw ((a, .inr (5, [.ref b1, .int 0, .int 0, .ref b2, .int 0, .int 0])) :: []) ([(b1, .inl (cy 1, 400, .inl (fun _ => 0)))])) H2 := P_pre q1
  have hB : va_P D vwCl (BD cy (LO r (fX7 r a b1 b2)) r 3) H2 := by
    intro i q hq
    obtain ⟨hi, rfl⟩ := BD_of hq
    by_cases c0 : i = 0
    · subst c0
      rw [LO_at, ce_o (k := 5) (hr 0 (by decide)) (by decide)]
      exact (P_pre q0) 0 _ rfl
    by_cases c1 : i < 2
    · obtain rfl : i = 1 := by omega
      rw [LO_at, ce_a (k := 10400) (hr 1 (by decide)) (by decide) (by decide)]
      exact (P_suf q0) 0 _ rfl
    by_cases c2 : i < 3
    · obtain rfl : i = 2 := by omega
      rw [LO_at, ce_a (k := 20000) (hr 2 (by decide)) (by decide) (by decide)]
      exact (P_suf q1) 0 _ rfl
    exact absurd hi (by omega)
  have hE : va_D S (BD cy (LO r (fX7 r a b1 b2)) r 3) := by
    have hx9 : IX (apw (apw [(a, .inr (5, [.ref b1, .int 0, .int 0, .ref b2, .int 0, .int 0]))] ([(b1, .inl (cy 1, 400, .inl (fun _ => 0)))])) ([(b2, .inl (cy 2, 0, .inl (fun _ => 0)))])) (fX7 r a b1 b2) 3 := (ix_s (ix_s (ix_1 (f := (fX7 r a b1 b2)) rfl) rfl) rfl)
    refine BD_D (show va_D S (apw (apw [(a, .inr (5, [.ref b1, .int 0, .int 0, .ref b2, .int 0, .int 0]))] ([(b1, .inl (cy 1, 400, .inl (fun _ => 0)))])) ([(b2, .inl (cy 2, 0, .inl (fun _ => 0)))])) from hD) (fun i hi => ?_)
    rw [LO_at]
    exact hx9.2 i hi
  subst hSe
  refine W.vret hx hb hr0 (fun t ht hW => ⟨⟨rfl, (LO r (fX7 r a b1 b2)), ?_, by rw [ht]; exact hB, hE⟩, hS.F ht⟩) hS.2.2 dX7_init_20
  show LO r _ r = a
  unfold LO
  rw [Nat.sub_self]
  rfl
