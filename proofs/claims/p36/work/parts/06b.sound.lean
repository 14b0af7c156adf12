theorem lputK_m : ∀ (i : Nat) (v : AV) (ls : Lc) (k k' : Lc → Prop), (∀ l, k l → k' l) → lputK i v ls k → lputK i v ls k'
  | _, _, [], _, _, _, h => by cases ‹Nat› <;> exact absurd h (by simp [lputK])
  | 0, v, x :: t, k, k', m, h => m _ h
  | n + 1, v, x :: t, k, k', m, h => lputK_m n v t (fun t' => k (x :: t')) (fun t' => k' (x :: t')) (fun l => m (x :: l)) h
def RtX (X : Cx) (bytes : ByteArray) (rt : Nat) (post : Option Int → FN → FN → Prop) (mx : Nat × Nat) : Prop :=
  (∀ (q : Nat × Nat) (pc : Nat) (ls : Lc) (I A : FN), q.1 ≤ mx.1 → q.2 ≤ mx.2 → decode bytes pc = .ok (.return_, 1) → rt = 0 → post none I A → Go X q pc ls [] I A) ∧
  (∀ (q : Nat × Nat) (pc : Nat) (ls : Lc) (x : Int) (I A : FN), q.1 ≤ mx.1 → q.2 ≤ mx.2 → decode bytes pc = .ok (.ireturn, 1) → rtOk rt x → post (some x) I A → Go X q pc ls [.inl x] I A)
section S
variable {X : Cx} {own : String} {bytes : ByteArray} {Ts : List Jvm.Cond} {fl : FLT} {lc : Nat → Option Int} {ct : Nat → Option Ctr} {post : Option Int → FN → FN → Prop} {rt : Nat} {mx : Nat × Nat}
def Env0 (X : Cx) (own : String) (bytes : ByteArray) (Ts : List Jvm.Cond) (fl : FLT) (lc : Nat → Option Int) (ct : Nat → Option Ctr) (post : Option Int → FN → FN → Prop) (rt : Nat) (mx : Nat × Nat) : Prop :=
  Fx X own bytes Ts ∧ (∀ i k j m k2 off, fl i k = some (j, m, k2, off) → FL own Ts i k j ∧ kF k j = (m, k2, off)) ∧ (∀ i v, lc i = some v → inI v ∧ Jvm.Cond.constant own i (oI v) ∈ Ts) ∧
  (∀ i t n rv P Q al, ct i = some (t, n, rv, P, Q, al) → CRule X bytes t i n rv P Q al mx) ∧ RtX X bytes rt post mx
theorem cal_sound (hct : ∀ i t n rv P Q al, ct i = some (t, n, rv, P, Q, al) → CRule X bytes t i n rv P Q al mx) {w : WT} (ih : ∀ q pc ls st I A, w q pc ls st I A → Go X q pc ls st I A) {tag i : Nat} {q : Nat × Nat} {pc : Nat} {ls : Lc} {st : List AV} {I A : FN}
    (h : cal ct tag mx w i q pc ls st I A) (hd : decode bytes pc = .ok (if tag = 0 then .invokevirtual i else .invokestatic i, 3)) : Go X q pc ls st I A := by
  unfold cal at h
  cases hc : ct i with
  | none => rw [hc] at h; exact False.elim h
  | some C =>
    obtain ⟨t, n, rv, P, Q, al⟩ := C
    rw [hc] at h
    obtain ⟨rfl, h1⟩ := h
    obtain ⟨as, rest, ⟨h2, h3, h4, h5, h6⟩, rfl, h7⟩ := spl_spec _ _ _ _ h1
    rw [List.append_nil] at h3 h4 h5 h6
    refine hct i t n rv P Q al hc q pc ls as rest I A hd h7 h2 h3 h4 h5 (fun r I' A' g1 g2 g3 => ih _ _ _ _ _ _ ?_)
    cases rv with
    | true =>
      cases r with
      | none => exact absurd g1 (by simp)
      | some x => exact h6 x I' A' g3 (g2 x rfl).1 (g2 x rfl).2
    | false =>
      cases r with
      | none => exact h6 I' A' g3
      | some x => exact absurd g1 (by simp)
set_option maxHeartbeats 4000000 in
theorem ex_sound (E : Env0 X own bytes Ts fl lc ct post rt mx) {wr : List Nat} {w : WT} (ih : ∀ q pc ls st I A, w q pc ls st I A → Go X q pc ls st I A) {i : Instr} {len : Nat} {q : Nat × Nat} {pc : Nat} {ls : Lc} {st : List AV} {I A : FN}
    (h : exI fl lc ct post rt mx wr w i len q pc ls st I A) (hd : decode bytes pc = .ok (i, len)) : Go X q pc ls st I A := by
  obtain ⟨hX, hfl, hlc, hct, hrt⟩ := E
  cases i with
  | iconst n => obtain ⟨rfl, ⟨h1, h2⟩, h3⟩ := h; exact g_iconst hX hd ⟨by omega, by omega⟩ (ih _ _ _ _ _ _ h3)
  | bipush n => obtain ⟨rfl, ⟨h1, h2⟩, h3⟩ := h; exact g_bipush hX hd h1 h2 (ih _ _ _ _ _ _ h3)
  | sipush n => obtain ⟨rfl, ⟨h1, h2⟩, h3⟩ := h; exact g_sipush hX hd h1 h2 (ih _ _ _ _ _ _ h3)
  | ldc j =>
    obtain ⟨rfl, h1⟩ := h
    cases hv : lc j with
    | none => simp only [hv] at h1
    | some v => simp only [hv] at h1; exact g_ldc hX hd (hlc j v hv).1 (hlc j v hv).2 (ih _ _ _ _ _ _ h1)
  | ldc_w j =>
    obtain ⟨rfl, h1⟩ := h
    cases hv : lc j with
    | none => simp only [hv] at h1
    | some v => simp only [hv] at h1; exact g_ldcw hX hd (hlc j v hv).1 (hlc j v hv).2 (ih _ _ _ _ _ _ h1)
  | iload_n n => obtain ⟨rfl, h1⟩ := h; obtain ⟨v, e1, e2, h2⟩ := lgetK_spec _ _ _ h1; obtain ⟨x, rfl, h3⟩ := isI_s h2; exact g_iload_n hX hd e1 e2 (ih _ _ _ _ _ _ h3)
  | iload n => obtain ⟨rfl, h1⟩ := h; obtain ⟨v, e1, e2, h2⟩ := lgetK_spec _ _ _ h1; obtain ⟨x, rfl, h3⟩ := isI_s h2; exact g_iload hX hd e1 e2 (ih _ _ _ _ _ _ h3)
  | aload_n n => obtain ⟨rfl, h1⟩ := h; obtain ⟨v, e1, e2, h2⟩ := lgetK_spec _ _ _ h1; obtain ⟨x, rfl, h3⟩ := isR_s h2; exact g_aload_n hX hd e1 e2 (ih _ _ _ _ _ _ h3)
  | aload n => obtain ⟨rfl, h1⟩ := h; obtain ⟨v, e1, e2, h2⟩ := lgetK_spec _ _ _ h1; obtain ⟨x, rfl, h3⟩ := isR_s h2; exact g_aload hX hd e1 e2 (ih _ _ _ _ _ _ h3)
  | istore_n n => obtain ⟨rfl, h1⟩ := h; obtain ⟨x, s1, rfl, h2⟩ := popI_s h1; exact g_istore_n hX hd (lputK_m _ _ _ _ _ (fun l hl => ih _ _ _ _ _ _ hl) h2)
  | istore n => obtain ⟨rfl, h1⟩ := h; obtain ⟨x, s1, rfl, h2⟩ := popI_s h1; exact g_istore hX hd (lputK_m _ _ _ _ _ (fun l hl => ih _ _ _ _ _ _ hl) h2)
  | astore_n n => obtain ⟨rfl, h1⟩ := h; obtain ⟨a, b, s1, rfl, h2⟩ := popR_s h1; exact g_astore_n hX hd (lputK_m _ _ _ _ _ (fun l hl => ih _ _ _ _ _ _ hl) h2)
  | astore n => obtain ⟨rfl, h1⟩ := h; obtain ⟨a, b, s1, rfl, h2⟩ := popR_s h1; exact g_astore hX hd (lputK_m _ _ _ _ _ (fun l hl => ih _ _ _ _ _ _ hl) h2)
  | iinc n d => obtain ⟨rfl, ⟨h1, h2⟩, h3⟩ := h; obtain ⟨v, e1, e2, h4⟩ := lgetK_spec _ _ _ h3; obtain ⟨x, rfl, h5⟩ := isI_s h4; exact g_iinc hX hd e1 e2 ⟨by omega, by omega⟩ (fun z qq a b c => lputK_m _ _ _ _ _ (fun l hl => ih _ _ _ _ _ _ hl) (arI_s h5 z qq a b c))
  | iadd => obtain ⟨rfl, h1⟩ := h; obtain ⟨y, s1, rfl, h2⟩ := popI_s h1; obtain ⟨x, s2, rfl, h3⟩ := popI_s h2; exact g_iadd hX hd (fun z qq a b c => ih _ _ _ _ _ _ (arI_s h3 z qq a b c))
  | isub => obtain ⟨rfl, h1⟩ := h; obtain ⟨y, s1, rfl, h2⟩ := popI_s h1; obtain ⟨x, s2, rfl, h3⟩ := popI_s h2; exact g_isub hX hd (fun z qq a b c => ih _ _ _ _ _ _ (arI_s h3 z qq a b c))
  | imul => obtain ⟨rfl, h1⟩ := h; obtain ⟨y, s1, rfl, h2⟩ := popI_s h1; obtain ⟨x, s2, rfl, h3⟩ := popI_s h2; exact g_imul hX hd (fun z qq a b c => ih _ _ _ _ _ _ (arI_s h3 z qq a b c))
  | iand => obtain ⟨rfl, h1⟩ := h; obtain ⟨y, s1, rfl, h2⟩ := popI_s h1; obtain ⟨x, s2, rfl, h3⟩ := popI_s h2; exact g_iand hX hd (fun z a b c d => ih _ _ _ _ _ _ (h3 z c d a b))
  | ior => obtain ⟨rfl, h1⟩ := h; obtain ⟨y, s1, rfl, h2⟩ := popI_s h1; obtain ⟨x, s2, rfl, h3⟩ := popI_s h2; exact g_ior hX hd (fun z a b c => ih _ _ _ _ _ _ (h3 z b c a))
  | ishl => obtain ⟨rfl, h1⟩ := h; obtain ⟨y, s1, rfl, h2⟩ := popI_s h1; obtain ⟨x, s2, rfl, h3⟩ := popI_s h2; exact g_ishl hX hd (fun z a b c => ih _ _ _ _ _ _ (h3 z b c a))
  | ishr => obtain ⟨rfl, h1⟩ := h; obtain ⟨y, s1, rfl, h2⟩ := popI_s h1; obtain ⟨x, s2, rfl, h3⟩ := popI_s h2; exact g_ishr hX hd (fun z a b c => ih _ _ _ _ _ _ (h3 z b c a))
  | iushr => obtain ⟨rfl, h1⟩ := h; obtain ⟨y, s1, rfl, h2⟩ := popI_s h1; obtain ⟨x, s2, rfl, h3⟩ := popI_s h2; exact g_iushr hX hd (fun z a b c d => ih _ _ _ _ _ _ (h3 z c d a b))
  | i2b => obtain ⟨rfl, h1⟩ := h; obtain ⟨x, s1, rfl, h2⟩ := popI_s h1; exact g_i2b hX hd (fun z a b c => ih _ _ _ _ _ _ (h2 z b c a))
  | idiv => obtain ⟨rfl, h1⟩ := h; obtain ⟨y, s1, rfl, h2⟩ := popI_s h1; obtain ⟨x, s2, rfl, h3⟩ := popI_s h2; exact g_idiv hX hd (dvI_s h3).1 (fun z _ b c => ih _ _ _ _ _ _ ((dvI_s h3).2 z b c))
  | irem => obtain ⟨rfl, h1⟩ := h; obtain ⟨y, s1, rfl, h2⟩ := popI_s h1; obtain ⟨x, s2, rfl, h3⟩ := popI_s h2; exact g_irem hX hd (rmI_s h3).1 (fun z _ b c d e => ih _ _ _ _ _ _ ((rmI_s h3).2 z b c d e))
  | dup => obtain ⟨rfl, h1⟩ := h; obtain ⟨v, s1, rfl, h2⟩ := popV_s h1; exact g_dup hX hd (ih _ _ _ _ _ _ h2)
  | dup2 => obtain ⟨rfl, h1⟩ := h; obtain ⟨v, s1, rfl, h2⟩ := popV_s h1; obtain ⟨u, s2, rfl, h3⟩ := popV_s h2; exact g_dup2 hX hd (ih _ _ _ _ _ _ h3)
  | pop => obtain ⟨rfl, h1⟩ := h; obtain ⟨v, s1, rfl, h2⟩ := popV_s h1; exact g_pop hX hd (ih _ _ _ _ _ _ h2)
  | goto off => obtain ⟨rfl, h1, h2⟩ := h; exact g_goto hX hd h1 (ih _ _ _ _ _ _ h2)
  | if_icmp c off =>
    obtain ⟨rfl, h0, h1⟩ := h
    obtain ⟨y, s1, rfl, h2⟩ := popI_s h1
    obtain ⟨x, s2, rfl, h3, h4⟩ := popI_s h2
    cases c with
    | eq => exact g_icmp_eq hX hd h0 (fun a => ih _ _ _ _ _ _ (h3 a)) (fun a => ih _ _ _ _ _ _ (h4 a))
    | ne => exact g_icmp_ne hX hd h0 (fun a => ih _ _ _ _ _ _ (h3 a)) (fun a => ih _ _ _ _ _ _ (h4 a))
    | lt => exact g_icmp_lt hX hd h0 (fun a => ih _ _ _ _ _ _ (h3 a)) (fun a => ih _ _ _ _ _ _ (h4 a))
    | ge => exact g_icmp_ge hX hd h0 (fun a => ih _ _ _ _ _ _ (h3 a)) (fun a => ih _ _ _ _ _ _ (h4 a))
    | gt => exact g_icmp_gt hX hd h0 (fun a => ih _ _ _ _ _ _ (h3 a)) (fun a => ih _ _ _ _ _ _ (h4 a))
    | le => exact g_icmp_le hX hd h0 (fun a => ih _ _ _ _ _ _ (h3 a)) (fun a => ih _ _ _ _ _ _ (h4 a))
  | ifCond c off =>
    obtain ⟨rfl, h0, h1⟩ := h
    obtain ⟨x, s1, rfl, h3, h4⟩ := popI_s h1
    cases c with
    | eq => exact g_if_eq hX hd h0 (fun a => ih _ _ _ _ _ _ (h3 a)) (fun a => ih _ _ _ _ _ _ (h4 a))
    | ne => exact g_if_ne hX hd h0 (fun a => ih _ _ _ _ _ _ (h3 a)) (fun a => ih _ _ _ _ _ _ (h4 a))
    | lt => exact g_if_lt hX hd h0 (fun a => ih _ _ _ _ _ _ (h3 a)) (fun a => ih _ _ _ _ _ _ (h4 a))
    | ge => exact g_if_ge hX hd h0 (fun a => ih _ _ _ _ _ _ (h3 a)) (fun a => ih _ _ _ _ _ _ (h4 a))
    | gt => exact g_if_gt hX hd h0 (fun a => ih _ _ _ _ _ _ (h3 a)) (fun a => ih _ _ _ _ _ _ (h4 a))
    | le => exact g_if_le hX hd h0 (fun a => ih _ _ _ _ _ _ (h3 a)) (fun a => ih _ _ _ _ _ _ (h4 a))
  | tableswitch d lo hi offs =>
    obtain ⟨h0, h1, h2, h3⟩ := h
    obtain ⟨x, s1, rfl, h4, h5⟩ := popI_s h3
    exact g_tsw hX hd h0 (fun i o ho => swOk_s offs.toList h1 i o (by rw [Array.getElem?_toList]; exact ho)) (by rw [← Array.length_toList]; exact h2) (fun a => ih _ _ _ _ _ _ (h4 a)) (fun i o ho hx => ih _ _ _ _ _ _ (swc_s offs.toList lo h5 i o (by rw [Array.getElem?_toList]; exact ho) hx))
  | iaload => obtain ⟨rfl, h1⟩ := h; obtain ⟨i, s1, rfl, h2⟩ := popI_s h1; obtain ⟨k, r, s2, rfl, h3, h4, h5, h6⟩ := popR_s h2; exact g_iaload hX hd h3 h4 h5 (fun a b => ih _ _ _ _ _ _ (h6 a b))
  | iastore => obtain ⟨rfl, h0⟩ := h; obtain ⟨x, s0, rfl, h1⟩ := popI_s h0; obtain ⟨i, s1, rfl, h2⟩ := popI_s h1; obtain ⟨k, r, s2, rfl, h3, h4, h5, h6⟩ := popR_s h2; exact g_iastore hX hd h3 h4 h5 (ih _ _ _ _ _ _ h6)
  | baload => obtain ⟨rfl, h1⟩ := h; obtain ⟨i, s1, rfl, h2⟩ := popI_s h1; obtain ⟨k, r, s2, rfl, h3, h4, h5, h6⟩ := popR_s h2; exact g_baload hX hd h3 h4 h5 (fun a b => ih _ _ _ _ _ _ (h6 a b))
  | bastore => obtain ⟨rfl, h0⟩ := h; obtain ⟨x, s0, rfl, h1⟩ := popI_s h0; obtain ⟨i, s1, rfl, h2⟩ := popI_s h1; obtain ⟨k, r, s2, rfl, h3, h4, h5, h6⟩ := popR_s h2; exact g_bastore hX hd h3 h4 h5 (ih _ _ _ _ _ _ h6)
  | arraylength => obtain ⟨rfl, h1⟩ := h; obtain ⟨k, r, s1, rfl, h2, h3⟩ := popR_s h1; exact g_alen hX hd h2 (ih _ _ _ _ _ _ h3)
  | aaload =>
    obtain ⟨rfl, h1⟩ := h
    obtain ⟨i, s1, rfl, h2⟩ := popI_s h1
    obtain ⟨k, r, s2, rfl, h3⟩ := popR_s h2
    rcases h3 with ⟨rfl, h4, h5, h6⟩ | ⟨rfl, rfl, h4, h5, h6, h7⟩
    · exact g_aaS hX hd h4 h5 (ih _ _ _ _ _ _ h6)
    · exact g_aaI hX hd h4 h5 (fun a => ih _ _ _ _ _ _ (h6 a)) (fun a => ih _ _ _ _ _ _ (h7 a))
  | ifnonnull off =>
    obtain ⟨rfl, h0, h1⟩ := h
    obtain ⟨v, s1, rfl, h2⟩ := popV_s h1
    match v, h2 with
    | .inr (some u), h2 => exact g_ifnn hX hd h0 (ih _ _ _ _ _ _ h2)
    | .inr none, h2 => exact g_ifnn0 hX hd (ih _ _ _ _ _ _ h2)
    | .inl x, h2 => exact False.elim h2
  | getfield j =>
    obtain ⟨rfl, h1⟩ := h
    obtain ⟨k, r, s1, rfl, h2⟩ := popR_s h1
    match ho : fl j k, h2 with
    | some (f, 0, a, b), h2 =>
      have hh := hfl _ _ _ _ _ _ ho
      exact g_get0 hX hh.1 (by rw [hh.2]) hd (fun a b => ih _ _ _ _ _ _ (h2 a b))
    | some (f, 1, a, b), h2 =>
      have hh := hfl _ _ _ _ _ _ ho
      exact g_get1 hX hh.1 hh.2 hd (ih _ _ _ _ _ _ h2)
    | some (f, 2, a, b), h2 =>
      have hh := hfl _ _ _ _ _ _ ho
      exact g_get2 hX hh.1 hh.2 h2.1 hd (ih _ _ _ _ _ _ h2.2)
    | some (f, n + 3, a, b), h2 => exact False.elim h2
    | none, h2 => exact False.elim h2
  | putfield j =>
    obtain ⟨rfl, h1⟩ := h
    obtain ⟨v, s0, rfl, h1⟩ := popV_s h1
    obtain ⟨k, r, s1, rfl, h2⟩ := popR_s h1
    match ho : fl j k, h2 with
    | some (f, 0, a, b), h2 =>
      have hh := hfl _ _ _ _ _ _ ho
      obtain ⟨x, rfl, h3⟩ := isI_s h2
      exact g_put0 hX hh.1 (by rw [hh.2]) hd (ih _ _ _ _ _ _ h3)
    | some (f, 1, a, b), h2 => exact False.elim h2
    | some (f, 2, a, b), h2 =>
      have hh := hfl _ _ _ _ _ _ ho
      obtain ⟨rfl, h3⟩ := h2
      exact g_put2 hX hh.1 hh.2 hd (ih _ _ _ _ _ _ h3)
    | some (f, n + 3, a, b), h2 => exact False.elim h2
    | none, h2 => exact False.elim h2
  | invokevirtual j => obtain ⟨rfl, h1⟩ := h; exact cal_sound hct ih h1 hd
  | invokestatic j => obtain ⟨rfl, h1⟩ := h; exact cal_sound hct ih h1 hd
  | ireturn => obtain ⟨rfl, h1⟩ := h; obtain ⟨x, s1, rfl, rfl, h3, h4, h5, h6⟩ := popI_s h1; exact hrt.2 q pc ls x I A h4 h5 hd h3 h6
  | return_ => obtain ⟨rfl, rfl, h3, h4, h5, h6⟩ := h; exact hrt.1 q pc ls I A h4 h5 hd h3 h6
  | _ => exact False.elim h
theorem wp_sound (E : Env0 X own bytes Ts fl lc ct post rt mx) {wr cut : List Nat} : ∀ (n : Nat) (q : Nat × Nat) (pc : Nat) (ls : Lc) (st : List AV) (I A : FN), wp bytes fl lc ct post rt mx wr cut (Go X) n q pc ls st I A → Go X q pc ls st I A
  | 0, _, _, _, _, _, _, h => False.elim h
  | n + 1, q, pc, ls, st, I, A, h => by
    unfold wp at h
    split at h
    · exact h
    · cases hd : decode bytes pc with
      | error e => rw [hd] at h; exact False.elim h
      | ok il =>
        obtain ⟨i, len⟩ := il
        rw [hd] at h
        exact ex_sound E (wp_sound E (wr := wr) (cut := cut) n) h hd
/-- from a cut on: one step, then wp -/
theorem wp_at (E : Env0 X own bytes Ts fl lc ct post rt mx) (wr cut : List Nat) (n : Nat) {q : Nat × Nat} {pc : Nat} {ls : Lc} {st : List AV} {I A : FN} (h : exD fl lc ct post rt mx wr (wp bytes fl lc ct post rt mx wr cut (Go X) n) (decode bytes pc) q pc ls st I A) : Go X q pc ls st I A := by
  cases hd : decode bytes pc with
  | error e => rw [hd] at h; exact False.elim h
  | ok il =>
    obtain ⟨i, len⟩ := il
    rw [hd] at h
    exact ex_sound E (wp_sound E (wr := wr) (cut := cut) n) h hd
end S
