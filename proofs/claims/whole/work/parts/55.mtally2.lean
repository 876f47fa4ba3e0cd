/-! the model: letters, cord, knots -/
theorem vowM {l : Nat} (h : l < 1000) : s_X11_isVowel (nI l) = some (bI (vow l)) := vowI h
theorem mln {B l w : Nat} {S : aS} {s : Nat → Int32} (h : IM B S s) (hl : l < 16) (hw : w ≤ 5) : s_X11_letterNumber (nI l) (nI w) s = some (olI S l w) := by
  unfold olI
  rcases (by omega : w = 0 ∨ w = 1 ∨ w = 2 ∨ w = 3 ∨ w = 4 ∨ w = 5) with rfl | rfl | rfl | rfl | rfl | rfl
  · simp (disch := omega) only [s_X11_letterNumber, s_X11_turns, ↓reduceIte, nI_lit, mO_lit, mO_lt, mO_le, mO_gt, mO_ge, mO_ne, mO_ne', nI_add, nI_mul, nI_addlit0, bsome, c_le_f, c_le_t, c_lt_f, c_lt_t, c_eq_f, c_eq_t, if_true, if_false, fld_n, fst_n]
    rw [Int32.add_comm]
  · simp (disch := omega) only [s_X11_letterNumber, ↓reduceIte, nI_lit, mO_lit, mO_lt, mO_le, mO_gt, mO_ge, mO_ne, mO_ne', nI_add, nI_mul, nI_addlit0, bsome, c_le_f, c_le_t, c_lt_f, c_lt_t, c_eq_f, c_eq_t, if_true, if_false, fld_n, fst_n]; rfl
  · simp (disch := omega) only [s_X11_letterNumber, ↓reduceIte, nI_lit, mO_lit, mO_lt, mO_le, mO_gt, mO_ge, mO_ne, mO_ne', nI_add, nI_mul, nI_addlit0, bsome, c_le_f, c_le_t, c_lt_f, c_lt_t, c_eq_f, c_eq_t, if_true, if_false, fld_n, fst_n, cordM]; rfl
  · simp (disch := omega) only [s_X11_letterNumber, ↓reduceIte, nI_lit, mO_lit, mO_lt, mO_le, mO_gt, mO_ge, mO_ne, mO_ne', nI_add, nI_mul, nI_addlit0, bsome, c_le_f, c_le_t, c_lt_f, c_lt_t, c_eq_f, c_eq_t, if_true, if_false, fld_n, fst_n, vowM]
    cases vow l <;> simp (disch := omega) only [bI_t, bI_f, ↓reduceIte, nI_lit, mO_lit, mO_lt, mO_le, mO_gt, mO_ge, mO_ne, mO_ne', nI_add, nI_mul, nI_addlit0, bsome, c_le_f, c_le_t, c_lt_f, c_lt_t, c_eq_f, c_eq_t, if_true, if_false, fld_n, fst_n] <;> rfl
  · simp (disch := omega) only [s_X11_letterNumber, ↓reduceIte, nI_lit, mO_lit, mO_lt, mO_le, mO_gt, mO_ge, mO_ne, mO_ne', nI_add, nI_mul, nI_addlit0, bsome, c_le_f, c_le_t, c_lt_f, c_lt_t, c_eq_f, c_eq_t, if_true, if_false, fld_n, fst_n, mko h]; rfl
  · simp (disch := omega) only [s_X11_letterNumber, ↓reduceIte, nI_lit, mO_lit, mO_lt, mO_le, mO_gt, mO_ge, mO_ne, mO_ne', nI_add, nI_mul, nI_addlit0, bsome, c_le_f, c_le_t, c_lt_f, c_lt_t, c_eq_f, c_eq_t, if_true, if_false, fld_n, fst_n, mko h]; rfl
theorem mcl {B : Nat} {S : aS} {s : Nat → Int32} (h : IM B S s) : s_X11_cordByLetters s = some (cBLI S) := by
  simp (disch := omega) only [s_X11_cordByLetters, ↓reduceIte, nI_lit, mO_lit, mO_lt, mO_le, mO_gt, mO_ge, mO_ne, mO_ne', nI_add, nI_mul, nI_addlit0, bsome, c_le_f, c_le_t, c_lt_f, c_lt_t, c_eq_f, c_eq_t, if_true, if_false, fld_n, fst_n, msu h]
  rw [lsum (fun a x i => s_X11_cordByLetters_L10 s a x i) 16 (fun l => sA S (fun m => nI (kN 2 (nI l) m)) * (ckI (nI l) + nI 1)) (by omega)]
  · rfl
  · intro a l x hl
    simp (disch := omega) only [s_X11_cordByLetters_L10, ↓reduceIte, nI_lit, mO_lit, mO_lt, mO_le, mO_gt, mO_ge, mO_ne, mO_ne', nI_add, nI_mul, nI_addlit0, bsome, c_le_f, c_le_t, c_lt_f, c_lt_t, c_eq_f, c_eq_t, if_true, if_false, fld_n, fst_n, cordM, mko h]
  · intro a x
    simp (disch := omega) only [s_X11_cordByLetters_L10, ↓reduceIte, nI_lit, mO_lit, mO_lt, mO_le, mO_gt, mO_ge, mO_ne, mO_ne', nI_add, nI_mul, nI_addlit0, bsome, c_le_f, c_le_t, c_lt_f, c_lt_t, c_eq_f, c_eq_t, if_true, if_false, fld_n, fst_n]
theorem mcn {B : Nat} {S : aS} {s : Nat → Int32} (h : IM B S s) : s_X11_cordByNames s = some (sA S cdN) := by
  simp (disch := omega) only [s_X11_cordByNames, ↓reduceIte, nI_lit, mO_lit, mO_lt, mO_le, mO_gt, mO_ge, mO_ne, mO_ne', nI_add, nI_mul, nI_addlit0, bsome, c_le_f, c_le_t, c_lt_f, c_lt_t, c_eq_f, c_eq_t, if_true, if_false, fld_n, fst_n]
  rw [lsum (fun a x i => s_X11_cordByNames_L4 s a x i) 5 (fun f => coI S f) (by omega)]
  · rw [show nI 0 = 0 from rfl, Int32.zero_add]; rfl
  · intro a i x hi
    simp (disch := omega) only [s_X11_cordByNames_L4, ↓reduceIte, nI_lit, mO_lit, mO_lt, mO_le, mO_gt, mO_ge, mO_ne, mO_ne', nI_add, nI_mul, nI_addlit0, bsome, c_le_f, c_le_t, c_lt_f, c_lt_t, c_eq_f, c_eq_t, if_true, if_false, fld_n, fst_n, mco h hi]
  · intro a x
    simp (disch := omega) only [s_X11_cordByNames_L4, ↓reduceIte, nI_lit, mO_lit, mO_lt, mO_le, mO_gt, mO_ge, mO_ne, mO_ne', nI_add, nI_mul, nI_addlit0, bsome, c_le_f, c_le_t, c_lt_f, c_lt_t, c_eq_f, c_eq_t, if_true, if_false, fld_n, fst_n]
theorem lm1 (m : aN) : lmN m 1 = kN 1 mO m := by
  unfold lmN kN
  exact sN_congr fun k _ => by unfold pK; simp; rfl
theorem mal {B : Nat} {S : aS} {s : Nat → Int32} (h : IM B S s) : s_X11_allLoosened (nI 1) s = some (sA S (fun m => nI (kN 1 mO m))) := by
  simp (disch := omega) only [s_X11_allLoosened, ↓reduceIte, nI_lit, mO_lit, mO_lt, mO_le, mO_gt, mO_ge, mO_ne, mO_ne', nI_add, nI_mul, nI_addlit0, bsome, c_le_f, c_le_t, c_lt_f, c_lt_t, c_eq_f, c_eq_t, if_true, if_false, fld_n, fst_n]
  rw [lsum (fun a x i => s_X11_allLoosened_L4 (nI 1) s a x i) 5 (fun f => sI (sB S f).length (fun n => nI (kN 1 mO (nm S f n)))) (by omega)]
  · rw [show nI 0 = 0 from rfl, Int32.zero_add]; rfl
  · intro a f x hf
    have h6 := h.six hf
    simp (disch := omega) only [s_X11_allLoosened_L4, ↓reduceIte, nI_lit, mO_lit, mO_lt, mO_le, mO_gt, mO_ge, mO_ne, mO_ne', nI_add, nI_mul, nI_addlit0, bsome, c_le_f, c_le_t, c_lt_f, c_lt_t, c_eq_f, c_eq_t, if_true, if_false, fld_n, fst_n]
    rw [lsum (fun a x i => s_X11_allLoosened_L12 (nI 1) (nI f) s a x i) (sB S f).length (fun n => nI (kN 1 mO (nm S f n))) (by omega)]
    · rfl
    · intro a i x hi
      simp (disch := omega) only [s_X11_allLoosened_L12, ↓reduceIte, nI_lit, mO_lit, mO_lt, mO_le, mO_gt, mO_ge, mO_ne, mO_ne', nI_add, nI_mul, nI_addlit0, bsome, c_le_f, c_le_t, c_lt_f, c_lt_t, c_eq_f, c_eq_t, if_true, if_false, fld_n, fst_n, mof1 h hf, whr, mls (h.nam hf hi), lm1]
    · intro a x
      simp (disch := omega) only [s_X11_allLoosened_L12, ↓reduceIte, nI_lit, mO_lit, mO_lt, mO_le, mO_gt, mO_ge, mO_ne, mO_ne', nI_add, nI_mul, nI_addlit0, bsome, c_le_f, c_le_t, c_lt_f, c_lt_t, c_eq_f, c_eq_t, if_true, if_false, fld_n, fst_n, mof1 h hf]
  · intro a x
    simp (disch := omega) only [s_X11_allLoosened_L4, ↓reduceIte, nI_lit, mO_lit, mO_lt, mO_le, mO_gt, mO_ge, mO_ne, mO_ne', nI_add, nI_mul, nI_addlit0, bsome, c_le_f, c_le_t, c_lt_f, c_lt_t, c_eq_f, c_eq_t, if_true, if_false, fld_n, fst_n]
theorem mkx {B w k q : Nat} {s : Nat → Int32} {m : aN} (h : VM B s w m) (hk : k < m.length) (hq : q ≤ 2) : s_X11_knotNumber (nI w) (nI k) (nI q) s = some (okI m k q) := by
  have h8 := h.2.2.2.2.1
  have hw := h.1
  have m4 := h.2.2.1.2.2.2 k hk
  unfold okI
  rw [if_pos hk]
  simp (disch := omega) only [s_X11_knotNumber, ↓reduceIte, nI_lit, mO_lit, mO_lt, mO_le, mO_gt, mO_ge, mO_ne, mO_ne', nI_add, nI_mul, nI_addlit0, bsome, c_le_f, c_le_t, c_lt_f, c_lt_t, c_eq_f, c_eq_t, if_true, if_false, fld_n, fst_n, mti h hk, mrd h hk, m4]
  rcases (by omega : q = 0 ∨ q = 1 ∨ q = 2) with rfl | rfl | rfl <;> simp (disch := omega) only [↓reduceIte, nI_lit, mO_lit, mO_lt, mO_le, mO_gt, mO_ge, mO_ne, mO_ne', nI_add, nI_mul, nI_addlit0, bsome, c_le_f, c_le_t, c_lt_f, c_lt_t, c_eq_f, c_eq_t, if_true, if_false, fld_n, fst_n] <;> rfl
