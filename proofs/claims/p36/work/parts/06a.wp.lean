/-! ===== wp: symbolic execution, and that it is sound ===== -/
abbrev Ctr : Type := Nat × Nat × Bool × PT × QT × AT
abbrev WT : Type := Nat × Nat → Nat → Lc → List AV → FN → FN → Prop
abbrev FLT : Type := Nat → Nat → Option (Nat × Nat × Nat × Nat)
def f4 (n : Fin 4) : Nat := n.val
theorem f4_0 : f4 0 = 0 := rfl
theorem f4_1 : f4 1 = 1 := rfl
theorem f4_2 : f4 2 = 2 := rfl
theorem f4_3 : f4 3 = 3 := rfl
def spl : Nat → List AV → List AV → (List AV → List AV → Prop) → Prop
  | 0, acc, st, k => k acc st
  | _ + 1, _, [], _ => False
  | n + 1, acc, v :: st, k => spl n (v :: acc) st k
theorem spl_spec : ∀ (n : Nat) (acc st : List AV) (k : List AV → List AV → Prop), spl n acc st k → ∃ as rest, k (as ++ acc) rest ∧ st = as.reverse ++ rest ∧ as.length = n
  | 0, acc, st, k, h => ⟨[], st, by simpa [spl] using h, rfl, rfl⟩
  | n + 1, acc, [], k, h => absurd h (by simp [spl])
  | n + 1, acc, v :: st, k, h => by
    obtain ⟨as, rest, h1, h2, h3⟩ := spl_spec n (v :: acc) st k (by simpa [spl] using h)
    refine ⟨as ++ [v], rest, by simpa using h1, by simp [h2], by simp [h3]⟩
def popI : List AV → (Int → List AV → Prop) → Prop
  | .inl x :: st, k => k x st
  | _, _ => False
def popR : List AV → (Nat → Nat → List AV → Prop) → Prop
  | .inr (some (k, r)) :: st, f => f k r st
  | _, _ => False
def popV : List AV → (AV → List AV → Prop) → Prop
  | v :: st, k => k v st
  | [], _ => False
def isI : AV → (Int → Prop) → Prop
  | .inl x, k => k x
  | _, _ => False
def isR : AV → (Nat × Nat → Prop) → Prop
  | .inr (some v), k => k v
  | _, _ => False
theorem popI_c {x : Int} {st : List AV} {k : Int → List AV → Prop} : popI (.inl x :: st) k = k x st := rfl
theorem popR_c {a b : Nat} {st : List AV} {k : Nat → Nat → List AV → Prop} : popR (.inr (some (a, b)) :: st) k = k a b st := rfl
theorem popV_c {v : AV} {st : List AV} {k : AV → List AV → Prop} : popV (v :: st) k = k v st := rfl
theorem isI_c {x : Int} {k : Int → Prop} : isI (.inl x) k = k x := rfl
theorem isR_c {v : Nat × Nat} {k : Nat × Nat → Prop} : isR (.inr (some v)) k = k v := rfl
theorem popI_s {st : List AV} {k : Int → List AV → Prop} (h : popI st k) : ∃ x st', st = .inl x :: st' ∧ k x st' := by
  match st, h with
  | .inl x :: st', h => exact ⟨x, st', rfl, h⟩
  | .inr _ :: _, h => exact absurd h (by simp [popI])
  | [], h => exact absurd h (by simp [popI])
theorem popR_s {st : List AV} {k : Nat → Nat → List AV → Prop} (h : popR st k) : ∃ a b st', st = .inr (some (a, b)) :: st' ∧ k a b st' := by
  match st, h with
  | .inr (some (a, b)) :: st', h => exact ⟨a, b, st', rfl, h⟩
  | .inr none :: _, h => exact absurd h (by simp [popR])
  | .inl _ :: _, h => exact absurd h (by simp [popR])
  | [], h => exact absurd h (by simp [popR])
theorem popV_s {st : List AV} {k : AV → List AV → Prop} (h : popV st k) : ∃ v st', st = v :: st' ∧ k v st' := by
  match st, h with
  | v :: st', h => exact ⟨v, st', rfl, h⟩
  | [], h => exact absurd h (by simp [popV])
theorem isI_s {v : AV} {k : Int → Prop} (h : isI v k) : ∃ x, v = .inl x ∧ k x := by
  match v, h with
  | .inl x, h => exact ⟨x, rfl, h⟩
  | .inr _, h => exact absurd h (by simp [isI])
theorem isR_s {v : AV} {k : Nat × Nat → Prop} (h : isR v k) : ∃ x, v = .inr (some x) ∧ k x := by
  match v, h with
  | .inr (some x), h => exact ⟨x, rfl, h⟩
  | .inr none, h => exact absurd h (by simp [isR])
  | .inl _, h => exact absurd h (by simp [isR])
def cmpP : Jvm.ClassFile.Cond → Int → Int → Prop
  | .eq, x, y => x = y
  | .ne, x, y => x ≠ y
  | .lt, x, y => x < y
  | .ge, x, y => y ≤ x
  | .gt, x, y => y < x
  | .le, x, y => x ≤ y
def swc (k : Int → Prop) (x : Int) : Int → List Int → Prop
  | _, [] => True
  | lo, o :: os => (x = lo → k o) ∧ swc k x (lo + 1) os
theorem swc_s {k : Int → Prop} {x : Int} : ∀ (l : List Int) (lo : Int), swc k x lo l → ∀ (i : Nat) (o : Int), l[i]? = some o → x = lo + i → k o
  | [], _, _, i, o, h, _ => by simp at h
  | a :: l, lo, h, 0, o, h1, h2 => by
    simp only [List.getElem?_cons_zero, Option.some.injEq] at h1
    subst h1
    exact h.1 (by simpa using h2)
  | a :: l, lo, h, i + 1, o, h1, h2 => swc_s l (lo + 1) h.2 i o (by simpa using h1) (by push_cast at h2; omega)
def swOk (pc : Nat) : List Int → Prop
  | [] => True
  | o :: os => 0 ≤ (pc : Int) + o ∧ swOk pc os
theorem swOk_s {pc : Nat} : ∀ (l : List Int), swOk pc l → ∀ (i : Nat) (o : Int), l[i]? = some o → 0 ≤ (pc : Int) + o
  | [], _, i, o, h => by simp at h
  | a :: l, h, 0, o, h1 => by
    simp only [List.getElem?_cons_zero, Option.some.injEq] at h1
    subst h1
    exact h.1
  | a :: l, h, i + 1, o, h1 => swOk_s l h.2 i o (by simpa using h1)
def rtOk (rt : Nat) (x : Int) : Prop := rt = 1 ∨ (rt = 2 ∧ (x = 0 ∨ x = 1))
theorem rtOk_1 {x : Int} : rtOk 1 x = True := by simp [rtOk]
theorem rtOk_2 {x : Int} : rtOk 2 x = (x = 0 ∨ x = 1) := by simp [rtOk]
def cal (ct : Nat → Option Ctr) (tag : Nat) (mx : Nat × Nat) (w : WT) (i : Nat) (q : Nat × Nat) (pc : Nat) (ls : Lc) (st : List AV) (I A : FN) : Prop := match ct i with
  | none => False
  | some (t, n, rv, P, Q, al) => t = tag ∧ spl n [] st (fun as rest => rest.length ≤ 8 ∧ P as I A ∧ q.1 + (al as I A).1 ≤ mx.1 ∧ q.2 + (al as I A).2 ≤ mx.2 ∧
      match rv with
      | true => ∀ (x : Int) (I' A' : FN), Q as I A (some x) I' A' → -2147483648 ≤ x → x ≤ 2147483647 → w (q.1 + (al as I A).1, q.2 + (al as I A).2) (pc + 3) ls (.inl x :: rest) I' A'
      | false => ∀ (I' A' : FN), Q as I A none I' A' → w (q.1 + (al as I A).1, q.2 + (al as I A).2) (pc + 3) ls rest I' A')
theorem cal_t {ct : Nat → Option Ctr} {tag i n : Nat} {P : PT} {Q : QT} {al : AT} {mx : Nat × Nat} {w : WT} {q : Nat × Nat} {pc : Nat} {ls : Lc} {st : List AV} {I A : FN} (h : ct i = some (tag, n, true, P, Q, al)) :
    cal ct tag mx w i q pc ls st I A = spl n [] st (fun as rest => rest.length ≤ 8 ∧ P as I A ∧ q.1 + (al as I A).1 ≤ mx.1 ∧ q.2 + (al as I A).2 ≤ mx.2 ∧ ∀ (x : Int) (I' A' : FN), Q as I A (some x) I' A' → -2147483648 ≤ x → x ≤ 2147483647 → w (q.1 + (al as I A).1, q.2 + (al as I A).2) (pc + 3) ls (.inl x :: rest) I' A') := by
  simp only [cal, h, true_and]
theorem cal_f {ct : Nat → Option Ctr} {tag i n : Nat} {P : PT} {Q : QT} {al : AT} {mx : Nat × Nat} {w : WT} {q : Nat × Nat} {pc : Nat} {ls : Lc} {st : List AV} {I A : FN} (h : ct i = some (tag, n, false, P, Q, al)) :
    cal ct tag mx w i q pc ls st I A = spl n [] st (fun as rest => rest.length ≤ 8 ∧ P as I A ∧ q.1 + (al as I A).1 ≤ mx.1 ∧ q.2 + (al as I A).2 ≤ mx.2 ∧ ∀ (I' A' : FN), Q as I A none I' A' → w (q.1 + (al as I A).1, q.2 + (al as I A).2) (pc + 3) ls rest I' A') := by
  simp only [cal, h, true_and]
theorem cal_r {ct : Nat → Option Ctr} {tag i n : Nat} {P : PT} {Q : QT} {al : AT} {mx : Nat × Nat} {w : WT} {q : Nat × Nat} {pc : Nat} {ls : Lc} {st : List AV} {I A : FN} (h : ct i = some (tag, n, true, P, Q, al)) (hro : ∀ as I A r I' A', Q as I A r I' A' → I' = I ∧ A' = A) :
    cal ct tag mx w i q pc ls st I A = spl n [] st (fun as rest => rest.length ≤ 8 ∧ P as I A ∧ q.1 + (al as I A).1 ≤ mx.1 ∧ q.2 + (al as I A).2 ≤ mx.2 ∧ ∀ (x : Int), Q as I A (some x) I A → -2147483648 ≤ x → x ≤ 2147483647 → w (q.1 + (al as I A).1, q.2 + (al as I A).2) (pc + 3) ls (.inl x :: rest) I A) := by
  rw [cal_t h]
  congr 1
  funext as rest
  refine propext ⟨fun hh => ⟨hh.1, hh.2.1, hh.2.2.1, hh.2.2.2.1, fun x hq a b => hh.2.2.2.2 x I A hq a b⟩, fun hh => ⟨hh.1, hh.2.1, hh.2.2.1, hh.2.2.2.1, fun x I' A' hq a b => ?_⟩⟩
  obtain ⟨rfl, rfl⟩ := hro _ _ _ _ _ _ hq
  exact hh.2.2.2.2 x hq a b
noncomputable def bI (c : Prop) : Int := @ite _ c (Classical.propDecidable c) 1 0
theorem bI_t {c : Prop} (h : c) : bI c = 1 := by unfold bI; exact if_pos h
theorem bI_f {c : Prop} (h : ¬ c) : bI c = 0 := by unfold bI; exact if_neg h
theorem bI_e0 {c : Prop} : (bI c = 0) = ¬ c := by
  by_cases h : c
  · rw [bI_t h]; exact propext ⟨fun e => absurd e (by decide), fun e => absurd h e⟩
  · rw [bI_f h]; exact propext ⟨fun _ => h, fun _ => rfl⟩
theorem bI_e1 {c : Prop} : (bI c = 1) = c := by
  by_cases h : c
  · rw [bI_t h]; exact propext ⟨fun _ => h, fun _ => rfl⟩
  · rw [bI_f h]; exact propext ⟨fun e => absurd e (by decide), fun e => absurd e h⟩
theorem bI_0e {c : Prop} : (0 = bI c) = ¬ c := by rw [eq_comm (a := (0 : Int))]; exact bI_e0
theorem bI_1e {c : Prop} : (1 = bI c) = c := by rw [eq_comm (a := (1 : Int))]; exact bI_e1
theorem bI_01 {c : Prop} : (bI c = 0 ∨ bI c = 1) = True := by
  rw [bI_e0, bI_e1]
  by_cases h : c <;> simp [h]
theorem bI_lo {c : Prop} : (-2147483648 ≤ bI c) = True := by
  by_cases h : c
  · simp [bI_t h]
  · simp [bI_f h]
theorem bI_hi {c : Prop} : (bI c ≤ 2147483647) = True := by
  by_cases h : c
  · simp [bI_t h]
  · simp [bI_f h]
def fget (o : Option (Nat × Nat × Nat × Nat)) (w : WT) (q : Nat × Nat) (pc : Nat) (ls : Lc) (r : Nat) (st : List AV) (I A : FN) : Prop := match o with
  | some (j, 0, _, _) => -2147483648 ≤ I r j → I r j ≤ 2147483647 → w q (pc + 3) ls (.inl (I r j) :: st) I A
  | some (_, 1, k2, off) => w q (pc + 3) ls (.inr (some (k2, r + off)) :: st) I A
  | some (j, 2, k2, off) => I r j ≠ 0 ∧ w q (pc + 3) ls (.inr (some (k2, r + off)) :: st) I A
  | _ => False
theorem fget_0 {j a b : Nat} {w : WT} {q : Nat × Nat} {pc : Nat} {ls : Lc} {r : Nat} {st : List AV} {I A : FN} : fget (some (j, 0, a, b)) w q pc ls r st I A = (-2147483648 ≤ I r j → I r j ≤ 2147483647 → w q (pc + 3) ls (.inl (I r j) :: st) I A) := rfl
theorem fget_1 {j a b : Nat} {w : WT} {q : Nat × Nat} {pc : Nat} {ls : Lc} {r : Nat} {st : List AV} {I A : FN} : fget (some (j, 1, a, b)) w q pc ls r st I A = w q (pc + 3) ls (.inr (some (a, r + b)) :: st) I A := rfl
theorem fget_2 {j a b : Nat} {w : WT} {q : Nat × Nat} {pc : Nat} {ls : Lc} {r : Nat} {st : List AV} {I A : FN} : fget (some (j, 2, a, b)) w q pc ls r st I A = (I r j ≠ 0 ∧ w q (pc + 3) ls (.inr (some (a, r + b)) :: st) I A) := rfl
def fput (o : Option (Nat × Nat × Nat × Nat)) (w : WT) (q : Nat × Nat) (pc : Nat) (ls : Lc) (v : AV) (r : Nat) (st : List AV) (I A : FN) : Prop := match o with
  | some (j, 0, _, _) => isI v (fun x => w q (pc + 3) ls st (up2 I r j x) A)
  | some (j, 2, k2, off) => v = .inr (some (k2, r + off)) ∧ w q (pc + 3) ls st (up2 I r j 1) A
  | _ => False
theorem fput_0 {j a b : Nat} {w : WT} {q : Nat × Nat} {pc : Nat} {ls : Lc} {v : AV} {r : Nat} {st : List AV} {I A : FN} : fput (some (j, 0, a, b)) w q pc ls v r st I A = isI v (fun x => w q (pc + 3) ls st (up2 I r j x) A) := rfl
theorem fput_2 {j a b : Nat} {w : WT} {q : Nat × Nat} {pc : Nat} {ls : Lc} {v : AV} {r : Nat} {st : List AV} {I A : FN} : fput (some (j, 2, a, b)) w q pc ls v r st I A = (v = .inr (some (a, r + b)) ∧ w q (pc + 3) ls st (up2 I r j 1) A) := rfl
def inR (x : Int) : Prop := -2147483648 ≤ x ∧ x ≤ 2147483647
def arI (b : Bool) (t : Int) (k : Int → Prop) : Prop := match b with
  | true => ∀ z qq : Int, z = t - 4294967296 * qq → -2147483648 ≤ z → z ≤ 2147483647 → k z
  | false => -2147483648 ≤ t ∧ t ≤ 2147483647 ∧ k t
theorem arI_t {t : Int} {k : Int → Prop} : arI true t k = ∀ z qq : Int, z = t - 4294967296 * qq → -2147483648 ≤ z → z ≤ 2147483647 → k z := rfl
theorem arI_f {t : Int} {k : Int → Prop} : arI false t k = (-2147483648 ≤ t ∧ t ≤ 2147483647 ∧ k t) := rfl
theorem arI_s {b : Bool} {t : Int} {k : Int → Prop} (h : arI b t k) : ∀ z qq : Int, z = t - 4294967296 * qq → -2147483648 ≤ z → z ≤ 2147483647 → k z := by
  cases b with
  | true => exact h
  | false =>
    intro z qq h1 h2 h3
    obtain ⟨h4, h5, h6⟩ := h
    have : z = t := by omega
    rw [this]
    exact h6
def dvI (b : Bool) (x y : Int) (k : Int → Prop) : Prop := match b with
  | true => 0 < y ∧ ∀ z : Int, ((0 ≤ x ∧ z = x / y) ∨ (x < 0 ∧ z = -((-x) / y))) → k z
  | false => 0 ≤ x ∧ 0 < y ∧ k (x / y)
theorem dvI_t {x y : Int} {k : Int → Prop} : dvI true x y k = (0 < y ∧ ∀ z : Int, ((0 ≤ x ∧ z = x / y) ∨ (x < 0 ∧ z = -((-x) / y))) → k z) := rfl
theorem dvI_f {x y : Int} {k : Int → Prop} : dvI false x y k = (0 ≤ x ∧ 0 < y ∧ k (x / y)) := rfl
theorem dvI_s {b : Bool} {x y : Int} {k : Int → Prop} (h : dvI b x y k) : 0 < y ∧ ∀ z : Int, (0 ≤ x → z = x / y) → (x < 0 → z = -((-x) / y)) → k z := by
  cases b with
  | true => exact ⟨h.1, fun z h1 h2 => h.2 z ((Int.lt_or_le x 0).elim (fun e => Or.inr ⟨e, h2 e⟩) (fun e => Or.inl ⟨e, h1 e⟩))⟩
  | false => exact ⟨h.2.1, fun z h1 _ => by rw [h1 h.1]; exact h.2.2⟩
def rmI (b : Bool) (x y : Int) (k : Int → Prop) : Prop := match b with
  | true => 0 < y ∧ ∀ z : Int, ((0 ≤ x ∧ z = x % y) ∨ (x < 0 ∧ z = -((-x) % y))) → -y < z → z < y → k z
  | false => 0 ≤ x ∧ 0 < y ∧ k (x % y)
theorem rmI_t {x y : Int} {k : Int → Prop} : rmI true x y k = (0 < y ∧ ∀ z : Int, ((0 ≤ x ∧ z = x % y) ∨ (x < 0 ∧ z = -((-x) % y))) → -y < z → z < y → k z) := rfl
theorem rmI_f {x y : Int} {k : Int → Prop} : rmI false x y k = (0 ≤ x ∧ 0 < y ∧ k (x % y)) := rfl
theorem rmI_s {b : Bool} {x y : Int} {k : Int → Prop} (h : rmI b x y k) : 0 < y ∧ ∀ z : Int, (0 ≤ x → z = x % y) → (x < 0 → z = -((-x) % y)) → -y < z → z < y → k z := by
  cases b with
  | true => exact ⟨h.1, fun z h1 h2 => h.2 z ((Int.lt_or_le x 0).elim (fun e => Or.inr ⟨e, h2 e⟩) (fun e => Or.inl ⟨e, h1 e⟩))⟩
  | false => exact ⟨h.2.1, fun z h1 _ _ _ => by rw [h1 h.1]; exact h.2.2⟩
def exI (fl : FLT) (lc : Nat → Option Int) (ct : Nat → Option Ctr) (post : Option Int → FN → FN → Prop) (rt : Nat) (mx : Nat × Nat) (wr : List Nat) (w : WT) (i : Instr) (len : Nat) (q : Nat × Nat) (pc : Nat) (ls : Lc) (st : List AV) (I A : FN) : Prop := match i with
  | .iconst n => len = 1 ∧ (-128 ≤ n ∧ n ≤ 127) ∧ w q (pc + 1) ls (.inl n :: st) I A
  | .bipush n => len = 2 ∧ (-128 ≤ n ∧ n ≤ 127) ∧ w q (pc + 2) ls (.inl n :: st) I A
  | .sipush n => len = 3 ∧ (-32768 ≤ n ∧ n ≤ 32767) ∧ w q (pc + 3) ls (.inl n :: st) I A
  | .ldc j => len = 2 ∧ (match lc j with | some v => w q (pc + 2) ls (.inl v :: st) I A | none => False)
  | .ldc_w j => len = 3 ∧ (match lc j with | some v => w q (pc + 3) ls (.inl v :: st) I A | none => False)
  | .iload_n n => len = 1 ∧ lgetK (f4 n) ls (fun v => isI v (fun x => w q (pc + 1) ls (.inl x :: st) I A))
  | .iload n => len = 2 ∧ lgetK n ls (fun v => isI v (fun x => w q (pc + 2) ls (.inl x :: st) I A))
  | .aload_n n => len = 1 ∧ lgetK (f4 n) ls (fun v => isR v (fun x => w q (pc + 1) ls (.inr (some x) :: st) I A))
  | .aload n => len = 2 ∧ lgetK n ls (fun v => isR v (fun x => w q (pc + 2) ls (.inr (some x) :: st) I A))
  | .istore_n n => len = 1 ∧ popI st (fun x s1 => lputK (f4 n) (.inl x) ls (fun ls' => w q (pc + 1) ls' s1 I A))
  | .istore n => len = 2 ∧ popI st (fun x s1 => lputK n (.inl x) ls (fun ls' => w q (pc + 2) ls' s1 I A))
  | .astore_n n => len = 1 ∧ popR st (fun a b s1 => lputK (f4 n) (.inr (some (a, b))) ls (fun ls' => w q (pc + 1) ls' s1 I A))
  | .astore n => len = 2 ∧ popR st (fun a b s1 => lputK n (.inr (some (a, b))) ls (fun ls' => w q (pc + 2) ls' s1 I A))
  | .iinc n d => len = 3 ∧ (-32768 ≤ d ∧ d ≤ 32767) ∧ lgetK n ls (fun v => isI v (fun x => arI (wr.elem pc) (x + d) (fun z => lputK n (.inl z) ls (fun ls' => w q (pc + 3) ls' st I A))))
  | .iadd => len = 1 ∧ popI st (fun y s1 => popI s1 (fun x s2 => arI (wr.elem pc) (x + y) (fun z => w q (pc + 1) ls (.inl z :: s2) I A)))
  | .isub => len = 1 ∧ popI st (fun y s1 => popI s1 (fun x s2 => arI (wr.elem pc) (x - y) (fun z => w q (pc + 1) ls (.inl z :: s2) I A)))
  | .imul => len = 1 ∧ popI st (fun y s1 => popI s1 (fun x s2 => arI (wr.elem pc) (x * y) (fun z => w q (pc + 1) ls (.inl z :: s2) I A)))
  | .iand => len = 1 ∧ popI st (fun y s1 => popI s1 (fun x s2 => ∀ z : Int, -2147483648 ≤ z → z ≤ 2147483647 → z = iAnd x y → (0 ≤ y → 0 ≤ z ∧ z ≤ y) → w q (pc + 1) ls (.inl z :: s2) I A))
  | .ior => len = 1 ∧ popI st (fun y s1 => popI s1 (fun x s2 => ∀ z : Int, -2147483648 ≤ z → z ≤ 2147483647 → z = iOr x y → w q (pc + 1) ls (.inl z :: s2) I A))
  | .ishl => len = 1 ∧ popI st (fun y s1 => popI s1 (fun x s2 => ∀ z : Int, -2147483648 ≤ z → z ≤ 2147483647 → z = iShl x y → w q (pc + 1) ls (.inl z :: s2) I A))
  | .ishr => len = 1 ∧ popI st (fun y s1 => popI s1 (fun x s2 => ∀ z : Int, -2147483648 ≤ z → z ≤ 2147483647 → z = iShr x y → w q (pc + 1) ls (.inl z :: s2) I A))
  | .iushr => len = 1 ∧ popI st (fun y s1 => popI s1 (fun x s2 => ∀ z : Int, -2147483648 ≤ z → z ≤ 2147483647 → z = iUsh x y → (y = 8 → 0 ≤ z ∧ z < 16777216) → w q (pc + 1) ls (.inl z :: s2) I A))
  | .i2b => len = 1 ∧ popI st (fun x s1 => ∀ z : Int, -128 ≤ z → z ≤ 127 → z = (oI x).toInt8.toInt → w q (pc + 1) ls (.inl z :: s1) I A)
  | .idiv => len = 1 ∧ popI st (fun y s1 => popI s1 (fun x s2 => dvI (wr.elem pc) x y (fun z => w q (pc + 1) ls (.inl z :: s2) I A)))
  | .irem => len = 1 ∧ popI st (fun y s1 => popI s1 (fun x s2 => rmI (wr.elem pc) x y (fun z => w q (pc + 1) ls (.inl z :: s2) I A)))
  | .dup => len = 1 ∧ popV st (fun v s1 => w q (pc + 1) ls (v :: v :: s1) I A)
  | .dup2 => len = 1 ∧ popV st (fun v s1 => popV s1 (fun u s2 => w q (pc + 1) ls (v :: u :: v :: u :: s2) I A))
  | .pop => len = 1 ∧ popV st (fun _ s1 => w q (pc + 1) ls s1 I A)
  | .goto off => len = 3 ∧ 0 ≤ (pc : Int) + off ∧ w q (tg pc off) ls st I A
  | .if_icmp c off => len = 3 ∧ 0 ≤ (pc : Int) + off ∧ popI st (fun y s1 => popI s1 (fun x s2 => (cmpP c x y → w q (tg pc off) ls s2 I A) ∧ (¬ cmpP c x y → w q (pc + 3) ls s2 I A)))
  | .ifCond c off => len = 3 ∧ 0 ≤ (pc : Int) + off ∧ popI st (fun x s1 => (cmpP c x 0 → w q (tg pc off) ls s1 I A) ∧ (¬ cmpP c x 0 → w q (pc + 3) ls s1 I A))
  | .tableswitch d lo hi offs => 0 ≤ (pc : Int) + d ∧ swOk pc offs.toList ∧ (offs.toList.length : Int) = hi - lo + 1 ∧ popI st (fun x s1 => (x < lo ∨ hi < x → w q (tg pc d) ls s1 I A) ∧ swc (fun o => w q (tg pc o) ls s1 I A) x lo offs.toList)
  | .iaload => len = 1 ∧ popI st (fun i s1 => popR s1 (fun k r s2 => k / 10000 = 1 ∧ 0 ≤ i ∧ i < ((k % 10000 : Nat) : Int) ∧ (-2147483648 ≤ A r i.toNat → A r i.toNat ≤ 2147483647 → w q (pc + 1) ls (.inl (A r i.toNat) :: s2) I A)))
  | .iastore => len = 1 ∧ popI st (fun x s0 => popI s0 (fun i s1 => popR s1 (fun k r s2 => k / 10000 = 1 ∧ 0 ≤ i ∧ i < ((k % 10000 : Nat) : Int) ∧ w q (pc + 1) ls s2 I (up2 A r i.toNat x))))
  | .baload => len = 1 ∧ popI st (fun i s1 => popR s1 (fun k r s2 => (k / 10000 = 2 ∨ k / 10000 = 3) ∧ 0 ≤ i ∧ i < ((k % 10000 : Nat) : Int) ∧ (-2147483648 ≤ A r i.toNat → A r i.toNat ≤ 2147483647 → w q (pc + 1) ls (.inl (A r i.toNat) :: s2) I A)))
  | .bastore => len = 1 ∧ popI st (fun x s0 => popI s0 (fun i s1 => popR s1 (fun k r s2 => ((k / 10000 = 2 ∧ -128 ≤ x ∧ x ≤ 127) ∨ (k / 10000 = 3 ∧ (x = 0 ∨ x = 1))) ∧ 0 ≤ i ∧ i < ((k % 10000 : Nat) : Int) ∧ w q (pc + 1) ls s2 I (up2 A r i.toNat x))))
  | .arraylength => len = 1 ∧ popR st (fun k _ s1 => (k / 10000 = 1 ∨ k / 10000 = 2) ∧ w q (pc + 1) ls (.inl ((k % 10000 : Nat) : Int) :: s1) I A)
  | .aaload => len = 1 ∧ popI st (fun i s1 => popR s1 (fun k r s2 => (k = 40005 ∧ 0 ≤ i ∧ i < 5 ∧ w q (pc + 1) ls (.inr (some (6, r + 1 + 13 * i.toNat)) :: s2) I A) ∨
      (k = 50002 ∧ r = 77 ∧ 0 ≤ i ∧ i < 2 ∧ (I 77 i.toNat = 0 → w q (pc + 1) ls (.inr none :: s2) I A) ∧ (I 77 i.toNat ≠ 0 → w q (pc + 1) ls (.inr (some (1, 97 + 76 * i.toNat)) :: s2) I A))))
  | .ifnonnull off => len = 3 ∧ 0 ≤ (pc : Int) + off ∧ popV st (fun v s1 => (match v with | .inr (some _) => w q (tg pc off) ls s1 I A | .inr none => w q (pc + 3) ls s1 I A | .inl _ => False))
  | .getfield j => len = 3 ∧ popR st (fun k r s1 => fget (fl j k) w q pc ls r s1 I A)
  | .putfield j => len = 3 ∧ popV st (fun v s1 => popR s1 (fun k r s2 => fput (fl j k) w q pc ls v r s2 I A))
  | .invokevirtual j => len = 3 ∧ cal ct 0 mx w j q pc ls st I A
  | .invokestatic j => len = 3 ∧ cal ct 1 mx w j q pc ls st I A
  | .ireturn => len = 1 ∧ popI st (fun x s1 => s1 = [] ∧ rtOk rt x ∧ q.1 ≤ mx.1 ∧ q.2 ≤ mx.2 ∧ post (some x) I A)
  | .return_ => len = 1 ∧ st = [] ∧ rt = 0 ∧ q.1 ≤ mx.1 ∧ q.2 ≤ mx.2 ∧ post none I A
  | _ => False
def exD (fl : FLT) (lc : Nat → Option Int) (ct : Nat → Option Ctr) (post : Option Int → FN → FN → Prop) (rt : Nat) (mx : Nat × Nat) (wr : List Nat) (w : WT) (d : Except DecodeError (Instr × Nat)) (q : Nat × Nat) (pc : Nat) (ls : Lc) (st : List AV) (I A : FN) : Prop := match d with
  | .ok (i, len) => exI fl lc ct post rt mx wr w i len q pc ls st I A
  | .error _ => False
def wp (bytes : ByteArray) (fl : FLT) (lc : Nat → Option Int) (ct : Nat → Option Ctr) (post : Option Int → FN → FN → Prop) (rt : Nat) (mx : Nat × Nat) (wr cut : List Nat) (G : WT) : Nat → WT
  | 0, _, _, _, _, _, _ => False
  | n + 1, q, pc, ls, st, I, A => if cut.elem pc = true then G q pc ls st I A else exD fl lc ct post rt mx wr (wp bytes fl lc ct post rt mx wr cut G n) (decode bytes pc) q pc ls st I A
