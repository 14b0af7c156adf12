theorem str_ev {args : Array Value} {s : State} {t : Term} {n : String} (h : (Cond.exactly t n).before args s = true) : ∃ a : Nat, t.eval args s none [] s = some (.ref a) := by
  obtain ⟨a, c, cA, kA, q1, -⟩ := Cond.exactly_spec (args := args) (first := s) (o := none) (s := s) (idx := []) (t := t) (cls := n) h
  exact ⟨a, q1⟩
theorem start_KH {args : Array Value} {s : State} (h : (Jvm.Cond.and given_1 narrow_1).before args s = true) (hts : ∀ w ∈ lw_tbl, w.before args s = true) : ∃ P0 : KP, KH P0 (fun q => s.heap.size ≤ q) s s.heap := by
  have hn : ∀ w ∈ nar, w.before args s = true := flat_of_before _ h
  have hA : ∀ a : Nat, a < s.heap.size → ¬ (fun q => s.heap.size ≤ q) a := fun a h z => by
    have : s.heap.size ≤ a := z
    omega
  obtain ⟨adK, adV, hS, hev⟩ := vk_Sof (tm := tS) (len := wLen) (byt := wByt) (N := 11) (A := fun q => s.heap.size ≤ q) (by decide) (fun i hi => hn _ (n_st i hi).1) (fun i hi => hn _ (n_st i hi).2.1) (fun i hi => hn _ (n_st i hi).2.2.1) (fun i hi => hn _ (n_st i hi).2.2.2) (fun i hi j hj => hn _ (n_by i hi j hj)) (fun i j hi hj hij => (n_ne i hi j hj hij).elim (fun z => Or.inl (hn _ z)) (fun z => Or.inr (hn _ z))) hA
  have h0 : ∀ i : Nat, ∃ a : Nat, i < 11 → (tD i).eval args s none [] s = some (.ref a) := fun i => by
    by_cases hi : i < 11
    · obtain ⟨a, ha⟩ := str_ev (hn _ (n_ex i hi))
      exact ⟨a, fun _ => ha⟩
    · exact ⟨0, fun z => absurd z hi⟩
  obtain ⟨ad, had⟩ := Classical.axiomOfChoice h0
  obtain ⟨tr, hr1, hr2⟩ := va_Tof (tm := tR) (N := 11) (f := fun i => .ref (ad i)) (A := fun q => s.heap.size ≤ q) (by decide) (hn _ n_ot.1) (va_eqt (hn _ n_ot.2.1)) (fun j hj => va_eqv (hn _ (n_el j hj)) (had j hj)) hA
  obtain ⟨tw, hw1, hw2⟩ := va_Tof (tm := tW) (N := 11) (f := fun i => .int (if i = 10 then 0 else Int32.ofNat (i + 1))) (A := fun q => s.heap.size ≤ q) (by decide) (hn _ n_ot.2.2.1) (va_eqt (hn _ n_ot.2.2.2.1)) (fun j hj => va_eqt (hn _ (n_sw j hj))) hA
  obtain ⟨l1, l2, l3, l4, l5, l6, l7, l8, -⟩ := t_ls
  refine ⟨(ad, adK, adV, tr, tw), va_Zof (hts _ l1) (hts _ l2) hr1 hA, hr2, fun i hi => ⟨va_Oof (hn _ (n_ex i hi)) (had i hi) hA, vk_OFof (had i hi) (va_eqt (hn _ (n_fd i hi).1)) hA, vk_OFof (had i hi) (va_eqt (hn _ (n_fd i hi).2.1)) hA, vk_OFof (had i hi) (va_eqv (hn _ (n_fd i hi).2.2.1) (hev i hi)) hA, vk_OFof (had i hi) (va_eqt (hn _ (n_fd i hi).2.2.2)) hA⟩, hS, va_Zof (hts _ l3) (hts _ l4) hw1 hA, hw2, va_Zof (hts _ l5) (hts _ l6) (va_eqt (hn _ n_ot.2.2.2.2.1)) hA, va_Zqof (hts _ l7) (hts _ l8) (hn _ n_ot.2.2.2.2.2) hA⟩
theorem start_KE {args : Array Value} {s : State} (h : (Jvm.Cond.and given_1 narrow_1).before args s = true) (hts : ∀ w ∈ lw_tbl, w.before args s = true) : ∃ T : Nat × Nat, KE T (fun q => s.heap.size ≤ q) s s.heap := by
  have hn : ∀ w ∈ nar, w.before args s = true := flat_of_before _ h
  have hA : ∀ a : Nat, a < s.heap.size → ¬ (fun q => s.heap.size ≤ q) a := fun a h z => by
    have : s.heap.size ≤ a := z
    omega
  obtain ⟨u1, u2, u3, u4⟩ := n_th
  obtain ⟨v1, v2, v3, v4, v5⟩ := t_th
  obtain ⟨a1, h1⟩ := str_ev (hn _ u3)
  obtain ⟨a2, h2⟩ := str_ev (hn _ u4)
  exact ⟨(a1, a2), ⟨vx_Zqof (hts _ v1) (hts _ v3) (hn _ u1) hA, vx_Zqof (hts _ v2) (hts _ v3) (hn _ u2) hA⟩, ⟨vk_R.of (hts _ v4) h1, vk_R.of (hts _ v5) h2⟩, fun w hw => va_Nw.of (by
    have : ∀ w ∈ exB, w.onTables = true := by decide +kernel
    exact this w hw) (hts _ (t_ex w hw))⟩
theorem start_KN {args : Array Value} {s : State} (hts : ∀ w ∈ lw_tbl, w.before args s = true) : KN s := va_Nw.of rfl (hts _ t_ls.2.2.2.2.2.2.2.2)
theorem start_KA {args : Array Value} {s : State} (hts : ∀ w ∈ lw_tbl, w.before args s = true) : KA s := ⟨va_AO.of (hts _ t_ao.1), va_AO.of (hts _ t_ao.2.1)⟩
