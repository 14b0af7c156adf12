/-! rows out of which one is taken -/
def TkL (f g : Nat → Int) (s row i k : Int) : Prop := g 0 = f 0 ∧ (∀ j : Int, 0 ≤ j → j < 5 → mG g j = mG f j) ∧ (∀ o j : Int, 0 ≤ o → o < 200 → 0 ≤ j → j < 10 → tG g o j = tG f o j) ∧
  (∀ s' w : Int, 0 ≤ s' → s' < 5 → 0 ≤ w → w < 499 → (s' ≠ s ∨ w < row + i ∨ row + k ≤ w) → vG g s' w = vG f s' w) ∧ ∀ j : Int, i ≤ j → j < k → vG g s (row + j) = vG f s (row + j + 1)
theorem TkL_0 {f : Nat → Int} {s row i : Int} : TkL f f s row i i := ⟨rfl, fun _ _ _ => rfl, fun _ _ _ _ _ _ => rfl, fun _ _ _ _ _ _ _ => rfl, fun j a b => absurd b (by omega)⟩
theorem TkL_s {f g : Nat → Int} {s row i k : Int} (h : TkL f g s row i k) (h1 : 0 ≤ s) (h2 : s < 5) (h3 : 0 ≤ row) (h4 : 0 ≤ i) (h5 : i ≤ k) (h6 : row + k + 1 < 499) : TkL f (ud g (2008 + 499 * s + (row + k)).toNat (vG g s (row + k + 1))) s row i (k + 1) := by
  obtain ⟨t0, tm, tt, tv, tj⟩ := h
  refine ⟨by rw [f0_v h1 (by omega), t0], fun j a b => by rw [mG_v h1 (by omega) b, tm j a b], fun o j a b c d => by rw [tG_v h1 (by omega) b d, tt o j a b c d], fun s' w a b c d e => ?_, fun j a b => ?_⟩
  · rw [vG_v h1 h2 (by omega) (by omega) a b c d, if_neg (by omega), tv s' w a b c d (by omega)]
  · rw [vG_v h1 h2 (by omega) (by omega) h1 h2 (by omega) (by omega)]
    by_cases e : j = k
    · subst e
      rw [if_pos ⟨rfl, rfl⟩, tv s _ h1 h2 (by omega) (by omega) (by omega)]
    · rw [if_neg (by omega)]; exact tj j a (by omega)
theorem TkL_e {f g : Nat → Int} {s row many i k : Int} (h : TkL f g s row i k) (h1 : 0 ≤ s) (h2 : s < 5) (h3 : 0 ≤ many) (h4 : many + 1 = row) (h5 : 0 ≤ i) (h7 : k + 1 = vG f s many) (h8 : row + k < 499) (h9 : i ≤ k) : Tk f (ud g (2008 + 499 * s + many).toNat (vG g s many - 1)) s row many i := by
  obtain ⟨t0, tm, tt, tv, tj⟩ := h
  refine ⟨by rw [f0_v h1 (by omega), t0], fun j a b => by rw [mG_v h1 (by omega) b, tm j a b], fun o j a b c d => by rw [tG_v h1 (by omega) b d, tt o j a b c d], fun s' w a b c d e g => ?_, ?_, fun j a b => ?_⟩
  · rw [vG_v h1 h2 (by omega) (by omega) a b c d, if_neg (by omega), tv s' w a b c d (by omega)]
  · rw [vG_v h1 h2 (by omega) (by omega) h1 h2 (by omega) (by omega), if_pos ⟨rfl, rfl⟩, tv s many h1 h2 (by omega) (by omega) (by omega)]
  · rw [vG_v h1 h2 (by omega) (by omega) h1 h2 (by omega) (by omega), if_neg (by omega)]; exact tj j a (by omega)
theorem TkL_many {f g : Nat → Int} {s row many i k : Int} (h : TkL f g s row i k) (h1 : 0 ≤ s) (h2 : s < 5) (h3 : 0 ≤ many) (h4 : many < row) (h5 : 0 ≤ i) (h6 : row < 499) : vG g s many = vG f s many := h.2.2.2.1 s many h1 h2 h3 (by omega) (by omega)
/-! an op done -/
def DN (f g : Nat → Int) (s o : Int) : Prop := g 0 = f 0 ∧ (∀ k : Int, 0 ≤ k → k < 5 → mG g k = mG f k) ∧ (∀ s' w : Int, 0 ≤ s' → s' < 5 → 0 ≤ w → w < 499 → (s' ≠ s ∨ (w ≠ o / 40 ∧ w ≠ 6)) → vG g s' w = vG f s' w) ∧ vG g s (o / 40) = vG f s (o / 40) + 1
theorem DN_ok {f : Nat → Int} {s o v : Int} (h : Mm f) (h1 : 0 ≤ s) (h2 : s < 5) (ho : okO f o) (hd : ¬ o % 40 < vG f s (o / 40)) :
    Mm (ud (ud f (2008 + 499 * s + o / 40).toNat (vG f s (o / 40) + 1)) (2008 + 499 * s + 6).toNat v) ∧ DN f (ud (ud f (2008 + 499 * s + o / 40).toNat (vG f s (o / 40) + 1)) (2008 + 499 * s + 6).toNat v) s o := by
  obtain ⟨o1, o2, o3⟩ := ho
  unfold madeG at o3
  have hv := h.vec h1 h2 (show 0 ≤ o / 40 by omega) (by omega)
  refine ⟨Mm_free (Mm_vec h h1 h2 (by omega) (by omega) (by omega)) h1 h2 (by omega), ?_, fun k a b => ?_, fun s' w a b c d e => ?_, ?_⟩
  · rw [f0_v h1 (by omega), f0_v h1 (by omega)]
  · rw [mG_v h1 (by omega) b, mG_v h1 (by omega) b]
  · rw [vG_v h1 h2 (by omega) (by omega) a b c d, if_neg (by omega), vG_v h1 h2 (by omega) (by omega) a b c d, if_neg (by omega)]
  · rw [vG_v h1 h2 (by omega) (by omega) h1 h2 (by omega) (by omega), if_neg (by omega), vG_v h1 h2 (by omega) (by omega) h1 h2 (by omega) (by omega), if_pos ⟨rfl, rfl⟩]
/-- at one site: all but its waiting row may change, elsewhere nothing -/
def DH (f g : Nat → Int) (s : Int) : Prop := g 0 = f 0 ∧ (∀ k : Int, 0 ≤ k → k < 5 → mG g k = mG f k) ∧ ∀ s' w : Int, 0 ≤ s' → s' < 5 → 0 ≤ w → w < 499 → (s' ≠ s ∨ (7 ≤ w ∧ w < 68)) → vG g s' w = vG f s' w
theorem DH_0 {f : Nat → Int} {s : Int} : DH f f s := ⟨rfl, fun _ _ _ => rfl, fun _ _ _ _ _ _ _ => rfl⟩
theorem DH_t {f g g' : Nat → Int} {s i : Int} (h : DH f g s) (hi : 0 ≤ i) (t : Tk g g' s 69 68 i) : DH f g' s := ⟨by rw [t.1, h.1], fun k a b => by rw [t.2.1 k a b, h.2.1 k a b], fun s' w a b c d e => by rw [t.2.2.2.1 s' w a b c d (by omega) (by omega), h.2.2 s' w a b c d e]⟩
theorem DH_d {f g g' : Nat → Int} {s o : Int} (h : DH f g s) (h0 : 0 ≤ o) (h1 : o < 200) (t : DN g g' s o) : DH f g' s := ⟨by rw [t.1, h.1], fun k a b => by rw [t.2.1 k a b, h.2.1 k a b], fun s' w a b c d e => by rw [t.2.2.1 s' w a b c d (by omega), h.2.2 s' w a b c d e]⟩
/-- one delivered -/
def DV (f g : Nat → Int) (s : Int) : Prop := g 0 = f 0 ∧ vG g s 7 = vG f s 7 - 1
theorem Tk_ok {f g : Nat → Int} {s row many i o : Int} (t : Tk f g s row many i) (h : okO f o) : okO g o := okO_cg t.2.1 h
theorem DN_okO {f g : Nat → Int} {s o p : Int} (t : DN f g s o) (h : okO f p) : okO g p := okO_cg t.2.1 h
theorem okO_of {f : Nat → Int} {s o : Int} (h : Mm f) (h1 : 0 ≤ s) (h2 : s < 5) (h3 : 0 ≤ o) (h4 : o < 200) (h5 : o % 40 < vG f s (o / 40)) : okO f o := by
  have hv := h.vec h1 h2 (show 0 ≤ o / 40 by omega) (by omega)
  exact ⟨h3, h4, by unfold madeG; omega⟩
/-! syncing -/
def gap (g : Nat → Int) (a b : Int) : Nat := (vG g a 0 - vG g b 0).toNat + (vG g a 1 - vG g b 1).toNat + (vG g a 2 - vG g b 2).toNat + (vG g a 3 - vG g b 3).toNat + (vG g a 4 - vG g b 4).toNat
theorem gap_dn {f g : Nat → Int} {a b o : Int} (h1 : 0 ≤ a) (h2 : a < 5) (h3 : 0 ≤ b) (h4 : b < 5) (hab : a ≠ b) (h5 : 0 ≤ o) (h6 : o < 200) (hlt : vG f b (o / 40) < vG f a (o / 40)) (t : DN f g b o) : gap g a b + 1 ≤ gap f a b := by
  obtain ⟨-, -, t1, t2⟩ := t
  have ea : ∀ k : Int, 0 ≤ k → k < 5 → vG g a k = vG f a k := fun k c d => t1 a k h1 h2 c (by omega) (Or.inl hab)
  have eb : ∀ k : Int, 0 ≤ k → k < 5 → k ≠ o / 40 → vG g b k = vG f b k := fun k c d e => t1 b k h3 h4 c (by omega) (Or.inr ⟨e, by omega⟩)
  unfold gap
  rw [ea 0 (by omega) (by omega), ea 1 (by omega) (by omega), ea 2 (by omega) (by omega), ea 3 (by omega) (by omega), ea 4 (by omega) (by omega)]
  have hk : o / 40 = 0 ∨ o / 40 = 1 ∨ o / 40 = 2 ∨ o / 40 = 3 ∨ o / 40 = 4 := by omega
  rcases hk with e | e | e | e | e <;> rw [e] at t2 hlt eb
  · rw [eb 1 (by omega) (by omega) (by omega), eb 2 (by omega) (by omega) (by omega), eb 3 (by omega) (by omega) (by omega), eb 4 (by omega) (by omega) (by omega)]; omega
  · rw [eb 0 (by omega) (by omega) (by omega), eb 2 (by omega) (by omega) (by omega), eb 3 (by omega) (by omega) (by omega), eb 4 (by omega) (by omega) (by omega)]; omega
  · rw [eb 0 (by omega) (by omega) (by omega), eb 1 (by omega) (by omega) (by omega), eb 3 (by omega) (by omega) (by omega), eb 4 (by omega) (by omega) (by omega)]; omega
  · rw [eb 0 (by omega) (by omega) (by omega), eb 1 (by omega) (by omega) (by omega), eb 2 (by omega) (by omega) (by omega), eb 4 (by omega) (by omega) (by omega)]; omega
  · rw [eb 0 (by omega) (by omega) (by omega), eb 1 (by omega) (by omega) (by omega), eb 2 (by omega) (by omega) (by omega), eb 3 (by omega) (by omega) (by omega)]; omega
theorem MI_301 {I A A' : FN} (h : MI I A) (hm : Mm (A' 301)) (hf : ∀ r, r ≠ 301 → A' r = A r) : MI I A' := by
  obtain ⟨-, h2, h3, h4, h5, h6, h7, h8, h9⟩ := h
  refine ⟨hm, h2, ?_, h4, ?_, h6, h7, h8, ?_⟩
  · rw [hf 303 (by omega)]; exact h3
  · rw [hf 305 (by omega)]; exact h5
  · rw [hf 302 (by omega)]; exact h9
/-- all rows but m are as they were -/
def F1 (A B : FN) : Prop := ∀ r, r ≠ 301 → B r = A r
theorem F1_0 {A : FN} : F1 A A := fun _ _ => rfl
theorem F1_u {A B : FN} {i : Nat} {v : Int} (h : F1 A B) : F1 A (up2 B 301 i v) := fun r hr => by rw [up2_rn hr]; exact h r hr
theorem F1_t {A B C : FN} (h : F1 A B) (h2 : F1 B C) : F1 A C := fun r hr => (h2 r hr).trans (h r hr)
/-! sweeping -/
def unsw (g : Nat → Int) (s : Int) : Nat → Nat
  | 0 => 0
  | n + 1 => unsw g s n + if vG g s (294 + n) = 1 then 0 else 1
theorem unsw_eq {f g : Nat → Int} {s : Int} : ∀ n : Nat, (∀ i : Nat, i < n → vG g s (294 + i) = vG f s (294 + i)) → unsw g s n = unsw f s n
  | 0, _ => rfl
  | n + 1, h => by
    unfold unsw
    rw [unsw_eq n (fun i hi => h i (by omega)), h n (by omega)]
theorem unsw_dn {f : Nat → Int} {s o : Int} (h1 : 0 ≤ s) (h2 : s < 5) (h3 : 0 ≤ o) (hf : vG f s (294 + o) ≠ 1) : ∀ n : Nat, n ≤ 200 → (o < n → unsw (ud f (2008 + 499 * s + (294 + o)).toNat 1) s n + 1 = unsw f s n) ∧ (n ≤ o → unsw (ud f (2008 + 499 * s + (294 + o)).toNat 1) s n = unsw f s n)
  | 0, _ => ⟨fun h => absurd h (by omega), fun _ => rfl⟩
  | n + 1, hn => by
    obtain ⟨i1, i2⟩ := unsw_dn h1 h2 h3 hf n (by omega)
    have ev : vG (ud f (2008 + 499 * s + (294 + o)).toNat 1) s (294 + n) = if (n : Int) = o then 1 else vG f s (294 + n) := by
      unfold vG
      by_cases e : (n : Int) = o
      · rw [if_pos e, e]; exact ud_s
      · rw [if_neg e]; exact ud_n (by omega)
    refine ⟨fun h => ?_, fun h => ?_⟩
    · unfold unsw
      rw [ev]
      by_cases e : (n : Int) = o
      · rw [if_pos e, i2 (by omega), e, if_neg hf, if_pos rfl]
      · rw [if_neg e]
        have := i1 (by omega)
        omega
    · unfold unsw
      rw [ev, if_neg (show ¬ (n : Int) = o by omega), i2 (by omega)]
theorem unsw_le {g : Nat → Int} {s : Int} : ∀ n : Nat, unsw g s n ≤ n
  | 0 => Nat.le_refl _
  | n + 1 => by
    have := unsw_le (g := g) (s := s) n
    unfold unsw
    split <;> omega
theorem Tk_n {f g : Nat → Int} {s row many i : Int} (t : Tk f g s row many i) : vG g s many = vG f s many - 1 := t.2.2.2.2.1
theorem Tk_nd {f g : Nat → Int} {s row many i o : Int} (t : Tk f g s row many i) (h1 : 0 ≤ s) (h2 : s < 5) (h3 : 0 ≤ o) (h4 : o < 200) (h5 : 5 ≤ row) (h6 : 5 ≤ many) (h7 : 0 ≤ i) (h : ¬ o % 40 < vG f s (o / 40)) : ¬ o % 40 < vG g s (o / 40) := by
  rw [t.2.2.2.1 s (o / 40) h1 h2 (by omega) (by omega) (by omega) (by omega)]; exact h
theorem DN_h {f g : Nat → Int} {s o : Int} (t : DN f g s o) (h1 : 0 ≤ s) (h2 : s < 5) (h3 : 0 ≤ o) (h4 : o < 200) : vG g s 68 = vG f s 68 := t.2.2.1 s 68 h1 h2 (by omega) (by omega) (by omega)
theorem DV_t {f g : Nat → Int} {s i : Int} (t : Tk f g s 8 7 i) : DV f g s := ⟨t.1, Tk_n t⟩
theorem DV_d {f g g' g'' : Nat → Int} {s i o : Int} (t : Tk f g s 8 7 i) (h1 : 0 ≤ s) (h2 : s < 5) (h3 : 0 ≤ o) (h4 : o < 200) (d : DN g g' s o) (h : DH g' g'' s) : DV f g'' s := by
  refine ⟨by rw [h.1, d.1, t.1], ?_⟩
  rw [h.2.2 s 7 h1 h2 (by omega) (by omega) (by omega), d.2.2.1 s 7 h1 h2 (by omega) (by omega) (by omega), Tk_n t]
theorem DV_h {f g : Nat → Int} {s i o v w : Int} (t : Tk f g s 8 7 i) (h1 : 0 ≤ s) (h2 : s < 5) (h3 : 0 ≤ w) (h4 : w ≤ 200) : DV f (ud (ud g (2008 + 499 * s + (69 + w)).toNat o) (2008 + 499 * s + 68).toNat v) s := by
  refine ⟨by rw [f0_v h1 (by omega), f0_v h1 (by omega)]; exact t.1, ?_⟩
  rw [vG_v h1 h2 (by omega) (by omega) h1 h2 (by omega) (by omega), if_neg (by omega), vG_v h1 h2 (by omega) (by omega) h1 h2 (by omega) (by omega), if_neg (by omega), Tk_n t]
theorem rd_v {f : Nat → Int} {s w w' v : Int} (h1 : 0 ≤ s) (h3 : 0 ≤ w) (h5 : 0 ≤ w') (h : w ≠ w') : ud f (2008 + 499 * s + w).toNat v (2008 + 499 * s + w').toNat = vG f s w' := ud_n (by omega)
theorem Mm_holdI {f : Nat → Int} {s o x : Int} (h : Mm f) (h1 : 0 ≤ s) (h2 : s < 5) (h4 : okO f o) (h5 : x = 0 → ∀ i, 0 ≤ i → i < vG f s 68 → vG f s (69 + i) ≠ o) (hx : x = 0) :
    Mm (ud (ud f (2008 + 499 * s + (69 + vG f s 68)).toNat o) (2008 + 499 * s + 68).toNat (vG f s 68 + 1)) := (Mm_hold h h1 h2 h4 (h5 hx)).2
theorem mk_all {f : Nat → Int} {s b z k t e l : Int} (h : Mm f) (h1 : 0 ≤ s) (h2 : s < f 0) (h3 : mG f s < 40) (hb : nmOk f b) :
    let g := ud (ud (ud (ud (ud (ud (ud f (2 + s).toNat (mG f s + 1)) (2008 + 499 * s + 6).toNat z) (8 + 10 * (40 * s + mG f s) + 0).toNat k) (8 + 10 * (40 * s + mG f s) + 1).toNat t) (8 + 10 * (40 * s + mG f s) + 2).toNat e) (8 + 10 * (40 * s + mG f s) + 3).toNat b) (8 + 10 * (40 * s + mG f s) + 4).toNat l
    Mm g ∧ mG g s = mG f s + 1 ∧ vG g s s ≤ mG f s ∧ g 0 = f 0 := by
  have h0 := h.m0
  have hm := h.made h1 (by omega)
  have hv := h.vec h1 (show s < 5 by omega) h1 (by omega)
  have o1 : 0 ≤ 40 * s + mG f s := by omega
  have o2 : 40 * s + mG f s < 200 := by omega
  refine ⟨Mm_told (MK_beh (MK_told (MK_told (MK_told (MK_free (MK_1 h h1 h2 h3 hb) h1 (by omega) (by omega)) o1 o2 (by omega) (by omega) (by omega)) o1 o2 (by omega) (by omega) (by omega)) o1 o2 (by omega) (by omega) (by omega)) o1 o2) o1 o2 (by omega) (by omega) (by omega), ?_, ?_, ?_⟩
  · rw [mG_t (by omega) o1 (by omega), mG_t (by omega) o1 (by omega), mG_t (by omega) o1 (by omega), mG_t (by omega) o1 (by omega), mG_t (by omega) o1 (by omega), mG_v h1 (by omega) (by omega), mG_m h1 h1, if_pos rfl]
  · rw [vG_t h1 h1 o2 (by omega), vG_t h1 h1 o2 (by omega), vG_t h1 h1 o2 (by omega), vG_t h1 h1 o2 (by omega), vG_t h1 h1 o2 (by omega), vG_v h1 (by omega) (by omega) (by omega) h1 (by omega) h1 (by omega), if_neg (by omega), vG_m h1 h1 (by omega)]
    exact hv
  · rw [f0_t o1 (by omega), f0_t o1 (by omega), f0_t o1 (by omega), f0_t o1 (by omega), f0_t o1 (by omega), f0_v h1 (by omega), f0_m h1]
theorem okO_new {f : Nat → Int} {s n o : Int} (h1 : 0 ≤ s) (h2 : s < 5) (h3 : 0 ≤ n) (h4 : n < 40) (ho : o = 40 * s + n) (hm : mG f s = n + 1) : okO f o := by
  subst ho
  refine ⟨by omega, by omega, ?_⟩
  unfold madeG
  rw [show (40 * s + n) / 40 = s by omega, hm]
  omega
