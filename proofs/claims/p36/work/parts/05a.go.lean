/-! ===== the judgement Go: the machine at a frame over a world ===== -/
def lget : Nat → Lc → Option AV
  | _, [] => none
  | 0, v :: _ => v
  | n + 1, _ :: t => lget n t
def lgetK : Nat → Lc → (AV → Prop) → Prop
  | _, [], _ => False
  | 0, none :: _, _ => False
  | 0, some v :: _, k => k v
  | n + 1, _ :: t, k => lgetK n t k
def lputK : Nat → AV → Lc → (Lc → Prop) → Prop
  | _, _, [], _ => False
  | 0, v, _ :: t, k => k (some v :: t)
  | n + 1, v, x :: t, k => lputK n v t (fun t' => k (x :: t'))
theorem lgetK_spec : ∀ (i : Nat) (ls : Lc) (k : AV → Prop), lgetK i ls k → ∃ v, lget i ls = some v ∧ some v ∈ ls ∧ k v
  | _, [], _, h => by cases ‹Nat› <;> exact absurd h (by simp [lgetK])
  | 0, none :: _, _, h => absurd h (by simp [lgetK])
  | 0, some v :: _, k, h => ⟨v, rfl, List.mem_cons_self, by simpa [lgetK] using h⟩
  | n + 1, x :: t, k, h => by
    obtain ⟨v, h1, h2, h3⟩ := lgetK_spec n t k (by simpa [lgetK] using h)
    exact ⟨v, h1, List.mem_cons_of_mem _ h2, h3⟩
theorem lputK_spec : ∀ (i : Nat) (v : AV) (ls : Lc) (k : Lc → Prop), lputK i v ls k → ∃ ls', k ls' ∧ ls'.length = ls.length ∧ i < ls.length ∧ (∀ j w, lget j ls' = some w → (j = i ∧ w = v) ∨ (j ≠ i ∧ lget j ls = some w)) ∧ ∀ w, some w ∈ ls' → w = v ∨ some w ∈ ls
  | _, _, [], _, h => by cases ‹Nat› <;> exact absurd h (by simp [lputK])
  | 0, v, x :: t, k, h => by
    refine ⟨some v :: t, by simpa [lputK] using h, rfl, by simp, fun j w hj => ?_, fun w hw => ?_⟩
    · cases j with
      | zero => simp only [lget, Option.some.injEq] at hj; exact Or.inl ⟨rfl, hj.symm⟩
      | succ j => exact Or.inr ⟨by omega, hj⟩
    · rcases List.mem_cons.mp hw with e | e
      · exact Or.inl (Option.some.inj e)
      · exact Or.inr (List.mem_cons_of_mem _ e)
  | n + 1, v, x :: t, k, h => by
    obtain ⟨l', h1, h2, h3, h4, h5⟩ := lputK_spec n v t (fun t' => k (x :: t')) (by simpa [lputK] using h)
    refine ⟨x :: l', h1, by simp [h2], by simp; omega, fun j w hj => ?_, fun w hw => ?_⟩
    · cases j with
      | zero => exact Or.inr ⟨by omega, hj⟩
      | succ j =>
        rcases h4 j w hj with ⟨e1, e2⟩ | ⟨e1, e2⟩
        · exact Or.inl ⟨by omega, e2⟩
        · exact Or.inr ⟨by omega, e2⟩
    · rcases List.mem_cons.mp hw with e | e
      · exact Or.inr (by rw [e]; exact List.mem_cons_self)
      · rcases h5 w e with z | z
        · exact Or.inl z
        · exact Or.inr (List.mem_cons_of_mem _ z)
/-- the locals of the machine hold what the list says -/
def LR (L : Nat → Nat) (la : Array Slot) (nL : Nat) (ls : Lc) : Prop := ls.length = nL ∧ ∃ lv : List (Nat × Value), lv_has la nL lv ∧ ∀ i v, lget i ls = some v → (i, vv L v) ∈ lv
theorem LR.get {L : Nat → Nat} {la : Array Slot} {nL : Nat} {ls : Lc} (h : LR L la nL ls) {i : Nat} {v : AV} (hv : lget i ls = some v) : la[i]? = some (.val (vv L v)) := by
  obtain ⟨-, lv, h1, h2⟩ := h
  exact h1.2.2 _ (h2 i v hv)
theorem LR.put {L : Nat → Nat} {nL : Nat} {ls ls' : Lc} {i : Nat} {v : AV} {lv : List (Nat × Value)} {la' : Array Slot} (hlen : ls.length = nL) (hl' : ls'.length = ls.length)
    (h2 : ∀ i v, lget i ls = some v → (i, vv L v) ∈ lv) (hp : ∀ j w, lget j ls' = some w → (j = i ∧ w = v) ∨ (j ≠ i ∧ lget j ls = some w))
    (h : lv_has la' nL ((i, vv L v) :: lv.filter (fun q => !(q.1 == i) && !(q.1 + 1 == i && q.2.category == 2)))) : LR L la' nL ls' := by
  refine ⟨by rw [hl', hlen], _, h, fun j w hj => ?_⟩
  rcases hp j w hj with ⟨rfl, rfl⟩ | ⟨hne, hg⟩
  · exact List.mem_cons_self
  · refine List.mem_cons_of_mem _ (List.mem_filter.mpr ⟨h2 j w hg, ?_⟩)
    simp [hne, vv_cat]
def KK (D : va_G) (cy : Nat → ClassId) (U : State) : Prop := va_K D vwCl (tysOf cy) U ∧ ∀ q ∈ nwL, va_Nw (.methodLinkNest q.1 q.2.1 q.2.2.1 q.2.2.2) U
theorem KK.warm {D : va_G} {cy : Nat → ClassId} {s U : State} (hW : s.WarmedH U.vm) (h : KK D cy s) : KK D cy U := ⟨va_K.moved hW.alike h.1, fun q hq => va_Nw.warmM hW (h.2 q hq)⟩
theorem KK.vm {D : va_G} {cy : Nat → ClassId} {s U : State} (hv : s.vm = U.vm) (h : KK D cy s) : KK D cy U := ⟨va_K.moved (by rw [hv]; exact Vm.Alike.refl _) h.1, fun q hq => va_Nw.same rfl hv (h.2 q hq)⟩
abbrev Cx : Type := Program × Launch × Env × Room × State × MethodId × Array Value × List Frame × Method × Code × (State → Prop) × va_G × (Nat → ClassId) × (Nat → Nat) × List Nat × (Nat → Prop) × Nat × (Nat → Int)
def Go (X : Cx) (q : Nat × Nat) (pc : Nat) (ls : Lc) (st : List AV) (I A : FN) : Prop := match X with
  | (p, l, e, R, s, m, args, below, meth, c, Q, D, cy, L, lv, S, nL, i77) =>
    okF I → okF A → I 77 = i77 → okS lv st → okL lv ls → ∀ (H : Heap) (locs : List Loc) (la : Array Slot), va_P D vwCl (wd cy L lv I A) H → va_D S (wd cy L lv I A) → va_S S s.heap H locs → LR L la nL ls →
      W p l e R s m args below meth c H locs q.1 q.2 Q (F0 m pc la (st.map (vv L)))
/-- what stays as it is in a method's body -/
def Fx (X : Cx) (own : String) (bytes : ByteArray) (Ts : List Jvm.Cond) : Prop := match X with
  | (p, _, _, _, s, m, args, _, meth, c, _, D, cy, _, lv, S, nL, i77) =>
    p.tables.exec = Jvm.exec ∧ c.code = bytes ∧ c.maxLocals = nL ∧ s.vm.findClass own = some m.cls ∧ (∀ w ∈ Ts, w.before args s = true) ∧ KK D cy s ∧ (∀ q, s.heap.size ≤ q → S q) ∧ LvOk lv ∧ meth.locks = false ∧ (77 ∈ lv → ∀ i, i < 2 → i77 i ≠ 0 → 97 + 76 * i ∈ lv)
section G
variable {X : Cx} {own : String} {bytes : ByteArray} {Ts : List Jvm.Cond} {q : Nat × Nat} {pc : Nat} {ls : Lc} {st : List AV} {I A : FN}
theorem okS_c {lv : List Nat} {v : AV} {st : List AV} (h : okS lv st) (hv : wv lv v) : okS lv (v :: st) := fun w hw => (List.mem_cons.mp hw).elim (fun e => e ▸ hv) (h w)
theorem okS_h {lv : List Nat} {v : AV} {st : List AV} (h : okS lv (v :: st)) : wv lv v := h v List.mem_cons_self
theorem okS_t {lv : List Nat} {v : AV} {st : List AV} (h : okS lv (v :: st)) : okS lv st := fun w hw => h w (List.mem_cons_of_mem _ hw)
theorem g_iconst (hX : Fx X own bytes Ts) {n : Int} (hd : decode bytes pc = .ok (.iconst n, 1)) (hn : inI n) (k : Go X q (pc + 1) ls (.inl n :: st) I A) : Go X q pc ls st I A := by
  obtain ⟨p, l, e, R, s, m, args, below, meth, c, Q, D, cy, L, lv, S, nL, i77⟩ := X
  obtain ⟨hx, hb, hml, hown, hts, hK, hSz, hlv, hlk, him⟩ := hX
  intro hI hA hg hst hls H locs la hP hD hS hL
  exact lv_iconst hx hb hd rfl (k hI hA hg (okS_c hst hn) hls H locs la hP hD hS hL)
theorem i8_i32 {n : Int} (h1 : -128 ≤ n) (h2 : n ≤ 127) : (Int8.ofInt n).toInt32 = oI n := by
  rw [← Int32.toInt_inj, Int8.toInt_toInt32, Int8.toInt_ofInt_of_le (by omega) (by omega), oI_toInt ⟨by omega, by omega⟩]
theorem i16_i32 {n : Int} (h1 : -32768 ≤ n) (h2 : n ≤ 32767) : (Int16.ofInt n).toInt32 = oI n := by
  rw [← Int32.toInt_inj, Int16.toInt_toInt32, Int16.toInt_ofInt_of_le (by omega) (by omega), oI_toInt ⟨by omega, by omega⟩]
theorem g_bipush (hX : Fx X own bytes Ts) {n : Int} (hd : decode bytes pc = .ok (.bipush n, 2)) (h1 : -128 ≤ n) (h2 : n ≤ 127) (k : Go X q (pc + 2) ls (.inl n :: st) I A) : Go X q pc ls st I A := by
  obtain ⟨p, l, e, R, s, m, args, below, meth, c, Q, D, cy, L, lv, S, nL, i77⟩ := X
  obtain ⟨hx, hb, hml, hown, hts, hK, hSz, hlv, hlk, him⟩ := hX
  intro hI hA hg hst hls H locs la hP hD hS hL
  exact lv_bipush hx hb hd (i8_i32 h1 h2) (k hI hA hg (okS_c hst ⟨by omega, by omega⟩) hls H locs la hP hD hS hL)
theorem g_sipush (hX : Fx X own bytes Ts) {n : Int} (hd : decode bytes pc = .ok (.sipush n, 3)) (h1 : -32768 ≤ n) (h2 : n ≤ 32767) (k : Go X q (pc + 3) ls (.inl n :: st) I A) : Go X q pc ls st I A := by
  obtain ⟨p, l, e, R, s, m, args, below, meth, c, Q, D, cy, L, lv, S, nL, i77⟩ := X
  obtain ⟨hx, hb, hml, hown, hts, hK, hSz, hlv, hlk, him⟩ := hX
  intro hI hA hg hst hls H locs la hP hD hS hL
  exact lv_sipush hx hb hd (i16_i32 h1 h2) (k hI hA hg (okS_c hst ⟨by omega, by omega⟩) hls H locs la hP hD hS hL)
theorem g_ldc (hX : Fx X own bytes Ts) {i : Nat} {v : Int} (hd : decode bytes pc = .ok (.ldc i, 2)) (hv : inI v) (hc : Jvm.Cond.constant own i (oI v) ∈ Ts) (k : Go X q (pc + 2) ls (.inl v :: st) I A) : Go X q pc ls st I A := by
  obtain ⟨p, l, e, R, s, m, args, below, meth, c, Q, D, cy, L, lv, S, nL, i77⟩ := X
  obtain ⟨hx, hb, hml, hown, hts, hK, hSz, hlv, hlk, him⟩ := hX
  intro hI hA hg hst hls H locs la hP hD hS hL
  exact lv_ldc hx hb hown (hts _ hc) hd (k hI hA hg (okS_c hst hv) hls H locs la hP hD hS hL)
theorem g_ldcw (hX : Fx X own bytes Ts) {i : Nat} {v : Int} (hd : decode bytes pc = .ok (.ldc_w i, 3)) (hv : inI v) (hc : Jvm.Cond.constant own i (oI v) ∈ Ts) (k : Go X q (pc + 3) ls (.inl v :: st) I A) : Go X q pc ls st I A := by
  obtain ⟨p, l, e, R, s, m, args, below, meth, c, Q, D, cy, L, lv, S, nL, i77⟩ := X
  obtain ⟨hx, hb, hml, hown, hts, hK, hSz, hlv, hlk, him⟩ := hX
  intro hI hA hg hst hls H locs la hP hD hS hL
  exact lv_ldcw hx hb hown (hts _ hc) hd (k hI hA hg (okS_c hst hv) hls H locs la hP hD hS hL)
theorem g_iload_n (hX : Fx X own bytes Ts) {n : Fin 4} {x : Int} (hd : decode bytes pc = .ok (.iload_n n, 1)) (hl : lget (n : Nat) ls = some (.inl x)) (hm : some (.inl x) ∈ ls) (k : Go X q (pc + 1) ls (.inl x :: st) I A) : Go X q pc ls st I A := by
  obtain ⟨p, l, e, R, s, m, args, below, meth, c, Q, D, cy, L, lv, S, nL, i77⟩ := X
  obtain ⟨hx, hb, hml, hown, hts, hK, hSz, hlv, hlk, him⟩ := hX
  intro hI hA hg hst hls H locs la hP hD hS hL
  exact lv_iload_n hx hb hd rfl (hL.get hl) (k hI hA hg (okS_c hst (hls _ hm)) hls H locs la hP hD hS hL)
theorem g_iload (hX : Fx X own bytes Ts) {n : Nat} {x : Int} (hd : decode bytes pc = .ok (.iload n, 2)) (hl : lget n ls = some (.inl x)) (hm : some (.inl x) ∈ ls) (k : Go X q (pc + 2) ls (.inl x :: st) I A) : Go X q pc ls st I A := by
  obtain ⟨p, l, e, R, s, m, args, below, meth, c, Q, D, cy, L, lv, S, nL, i77⟩ := X
  obtain ⟨hx, hb, hml, hown, hts, hK, hSz, hlv, hlk, him⟩ := hX
  intro hI hA hg hst hls H locs la hP hD hS hL
  exact lv_iload hx hb hd (hL.get hl) (k hI hA hg (okS_c hst (hls _ hm)) hls H locs la hP hD hS hL)
theorem g_aload_n (hX : Fx X own bytes Ts) {n : Fin 4} {v : Nat × Nat} (hd : decode bytes pc = .ok (.aload_n n, 1)) (hl : lget (n : Nat) ls = some (.inr (some v))) (hm : some (.inr (some v)) ∈ ls) (k : Go X q (pc + 1) ls (.inr (some v) :: st) I A) : Go X q pc ls st I A := by
  obtain ⟨p, l, e, R, s, m, args, below, meth, c, Q, D, cy, L, lv, S, nL, i77⟩ := X
  obtain ⟨hx, hb, hml, hown, hts, hK, hSz, hlv, hlk, him⟩ := hX
  intro hI hA hg hst hls H locs la hP hD hS hL
  exact lv_aload_n hx hb hd rfl (hL.get hl) (k hI hA hg (okS_c hst (hls _ hm)) hls H locs la hP hD hS hL)
theorem g_aload (hX : Fx X own bytes Ts) {n : Nat} {v : Nat × Nat} (hd : decode bytes pc = .ok (.aload n, 2)) (hl : lget n ls = some (.inr (some v))) (hm : some (.inr (some v)) ∈ ls) (k : Go X q (pc + 2) ls (.inr (some v) :: st) I A) : Go X q pc ls st I A := by
  obtain ⟨p, l, e, R, s, m, args, below, meth, c, Q, D, cy, L, lv, S, nL, i77⟩ := X
  obtain ⟨hx, hb, hml, hown, hts, hK, hSz, hlv, hlk, him⟩ := hX
  intro hI hA hg hst hls H locs la hP hD hS hL
  exact lv_aload hx hb hd (hL.get hl) (k hI hA hg (okS_c hst (hls _ hm)) hls H locs la hP hD hS hL)
end G
