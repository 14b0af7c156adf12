/-! ===== the start ===== -/
theorem arr_p {args : Array Value} {s : State} {ty : FieldType} (h : (Cond.arrayClass ty).before args s = true) (hty : ty = .int ∨ ty = .byte ∨ ty = .boolean) : ∃ cA : ClassId, ArrOfT s cA ty ∧ va_RA s cA ty := by
  obtain ⟨cA, kA, comp, h1, h2, h3⟩ := Cond.arrayClass_spec h
  refine ⟨cA, fun n z => ⟨fun k h => (by cases h), kA, h2, comp, h3⟩, ?_⟩
  rcases hty with rfl | rfl | rfl <;> exact h1
theorem arr_o {args : Array Value} {s : State} {n : String} (h : (Cond.arrayOver (.object n)).before args s = true) : ∃ cA : ClassId, ArrOfT s cA (.object n) ∧ va_RA s cA (.object n) := by
  obtain ⟨comp, cA, kA, h1, -, h2, h3, h4⟩ := Cond.arrayOver_spec h
  exact ⟨cA, fun N z => ⟨fun k h => (by cases h), kA, h2, comp, h3⟩, kA, comp, h2, h3, h1, h4⟩
theorem start_KK {args : Array Value} {s : State} (hts : ∀ w ∈ lw_tbl, w.before args s = true) : ∃ (D : va_G) (cy : Nat → ClassId), KK D cy s := by
  have hw : ∀ w ∈ (.initialized RX9 :: W0 : List Jvm.Cond), w.before args s = true := fun w h => hts w ((List.mem_cons.mp h).elim (fun e => e ▸ inW _ (mW0 (List.mem_of_getElem? (i := 24) rfl))) (inW w))
  obtain ⟨c0, i0, k0⟩ := u_known (C := RX1) (T := TX1) (N := 4) hw infX1 (hts _ (inW _ (mW5 (List.mem_of_getElem? (i := 38) rfl))))
  obtain ⟨c1, i1, k1⟩ := u_known (C := RX3) (T := TX3) (N := 3) hw infX3 (hts _ (inW _ (mW5 (List.mem_of_getElem? (i := 30) rfl))))
  obtain ⟨c2, i2, k2⟩ := u_known (C := RX4) (T := TX4) (N := 5) hw infX4 (hts _ (inW _ (mW1 (List.mem_of_getElem? (i := 26) rfl))))
  obtain ⟨c3, i3, k3⟩ := u_known (C := RX5) (T := TX5) (N := 10) hw infX5 (hts _ (inW _ (mW1 (List.mem_of_getElem? (i := 34) rfl))))
  obtain ⟨c4, i4, k4⟩ := u_known (C := RX6) (T := TX6) (N := 2) hw infX6 (hts _ (inW _ (mW1 (List.mem_of_getElem? (i := 21) rfl))))
  obtain ⟨c5, i5, k5⟩ := u_known (C := RX7) (T := TX7) (N := 6) hw infX7 (hts _ (inW _ (mW5 (List.mem_of_getElem? (i := 41) rfl))))
  obtain ⟨c6, i6, k6⟩ := u_known (C := RX8) (T := TX8) (N := 6) hw infX8 (hts _ (inW _ (mW1 (List.mem_of_getElem? (i := 37) rfl))))
  obtain ⟨c7, i7, k7⟩ := u_known (C := RX9) (T := TX9) (N := 12) hw infX9 (hts _ (inW _ (mW16 (List.mem_of_getElem? (i := 4) rfl))))
  obtain ⟨c8, i8, k8⟩ := u_known (C := RX10) (T := TX10) (N := 23) hw infX10 (hts _ (inW _ (mW16 (List.mem_of_getElem? (i := 6) rfl))))
  obtain ⟨t1, p1, p2⟩ := arr_p (hts _ t_ao.2.2.1) (Or.inl rfl)
  obtain ⟨t2, p3, p4⟩ := arr_p (hts _ t_ao.2.2.2.1) (Or.inr (Or.inl rfl))
  obtain ⟨t3, p5, p6⟩ := arr_p (hts _ t_ao.2.2.2.2.1) (Or.inr (Or.inr rfl))
  obtain ⟨t4, p7, p8⟩ := arr_o (hts _ t_ao.1)
  obtain ⟨t5, p9, p10⟩ := arr_o (hts _ t_ao.2.1)
  refine ⟨(fun c => [c0, c1, c2, c3, c4, c5, c6, c7, c8].getD c 0, fun c => [i0, i1, i2, i3, i4, i5, i6, i7, i8].getD c (fun _ => 0)), fun c => [t1, t1, t2, t3, t4, t5].getD c t1, ⟨fun c q hq => ?_, fun k q hq => ?_⟩, fun q hq => va_Nw.of rfl (hts _ (t_nw q hq))⟩
  · match c, hq with
    | 0, hq => cases hq; exact k0
    | 1, hq => cases hq; exact k1
    | 2, hq => cases hq; exact k2
    | 3, hq => cases hq; exact k3
    | 4, hq => cases hq; exact k4
    | 5, hq => cases hq; exact k5
    | 6, hq => cases hq; exact k6
    | 7, hq => cases hq; exact k7
    | 8, hq => cases hq; exact k8
    | c + 9, hq => exact absurd (List.getElem?_eq_some_iff.mp hq).1 (by simp)
  · match k, hq with
    | 0, hq => cases hq; exact ⟨p1, p2⟩
    | 1, hq => cases hq; exact ⟨p3, p4⟩
    | 2, hq => cases hq; exact ⟨p5, p6⟩
    | 3, hq => cases hq; exact ⟨p7, p8⟩
    | 4, hq => cases hq; exact ⟨p9, p10⟩
    | k + 5, hq => exact absurd (List.getElem?_eq_some_iff.mp hq).1 (by simp)
