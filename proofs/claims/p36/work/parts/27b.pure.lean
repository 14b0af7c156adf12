theorem Fr3_lt2 {I A J B K C : FN} {s : Int} (h2 : Fr3 J B K C) (h1 : Fr3 I A J B) (h : s < A 301 0) : s < C 301 0 := by rw [h2.a1, h1.a1]; exact h
theorem Fr3_mG2 {I A J B K C : FN} {s : Int} (h2 : Fr3 J B K C) (h1 : Fr3 I A J B) (h : mG (A 301) s < 40) : mG (C 301) s < 40 := by rw [h2.a1, h1.a1]; exact h
theorem Fm_2 {I A J B K C : FN} {v : Int} (h2 : Fr3 J B K C) (h1 : Fr3 (up2 I 300 0 v) A J B) : Fm I K := Fm_tr h1.fm0 h2.fm
