/-! the model: numbers of a name, of a fisher, of an entry -/
theorem mst {B w st d b : Nat} {s : Nat → Int32} {m : aN} (h : VM B s w m) (e : EnvM B s st d b) : s_X11_storms (nI w) s = some (stlI st d b m) := by
  have e5 := e.2.2.1
  have hb := e.2.2.2.2.2.2.1
  have hu : ∀ n, ubN st d m n ≤ 8 := fun n => ubN_le h.2.2.2
  simp (disch := omega) only [s_X11_storms, ↓reduceIte, nI_lit, mO_lit, mO_lt, mO_le, mO_gt, mO_ge, mO_ne, mO_ne', nI_add, nI_mul, nI_addlit0, bsome, c_le_f, c_le_t, c_lt_f, c_lt_t, c_eq_f, c_eq_t, if_true, if_false, fld_n, fst_n]
  rcases lfind (fun a i => s_X11_storms_L2 (nI w) s a i) 1 60 (fun i => decide (b < ubN st d m (1 + i))) (fun i => nI (1 + i)) (by omega) (fun a i hi hp => by
      have := hu (1 + i)
      have hq := of_decide_eq_false hp
      simp (disch := omega) only [s_X11_storms_L2, ↓reduceIte, nI_lit, mO_lit, mO_lt, mO_le, mO_gt, mO_ge, mO_ne, mO_ne', nI_add, nI_mul, nI_addlit0, bsome, c_le_f, c_le_t, c_lt_f, c_lt_t, c_eq_f, c_eq_t, if_true, if_false, fld_n, fst_n]
      refine (bindE (mst2 h e (n := 1 + i) (by omega)) ?_)
      simp (disch := omega) only [↓reduceIte, nI_lit, mO_lit, mO_lt, mO_le, mO_gt, mO_ge, mO_ne, mO_ne', nI_add, nI_mul, nI_addlit0, bsome, c_le_f, c_le_t, c_lt_f, c_lt_t, c_eq_f, c_eq_t, if_true, if_false, fld_n, fst_n, e5]) (fun a i hi hp => by
      have := hu (1 + i)
      have hq := of_decide_eq_true hp
      simp (disch := omega) only [s_X11_storms_L2, ↓reduceIte, nI_lit, mO_lit, mO_lt, mO_le, mO_gt, mO_ge, mO_ne, mO_ne', nI_add, nI_mul, nI_addlit0, bsome, c_le_f, c_le_t, c_lt_f, c_lt_t, c_eq_f, c_eq_t, if_true, if_false, fld_n, fst_n]
      refine (bindE (mst2 h e (n := 1 + i) (by omega)) ?_)
      simp (disch := omega) only [↓reduceIte, nI_lit, mO_lit, mO_lt, mO_le, mO_gt, mO_ge, mO_ne, mO_ne', nI_add, nI_mul, nI_addlit0, bsome, c_le_f, c_le_t, c_lt_f, c_lt_t, c_eq_f, c_eq_t, if_true, if_false, fld_n, fst_n, e5]) (fun a => by
      simp (disch := omega) only [s_X11_storms_L2, ↓reduceIte, nI_lit, mO_lit, mO_lt, mO_le, mO_gt, mO_ge, mO_ne, mO_ne', nI_add, nI_mul, nI_addlit0, bsome, c_le_f, c_le_t, c_lt_f, c_lt_t, c_eq_f, c_eq_t, if_true, if_false, fld_n, fst_n]) with ⟨i, h1, h2, h3, h4⟩ | ⟨h1, h2⟩
  · rw [h4]; show some _ = _; unfold stlI; rw [ffI_some h1 h2 h3]
  · rw [h2]; show some _ = _; unfold stlI; rw [ffI_none h1]
theorem lm2u (m : aN) : lmN m 2 = u2 m := sN_congr fun k _ => by
  by_cases q : 2 ≤ (gK m k).2.1
  · rw [decide_eq_true q, decide_eq_true (by omega)]
  · rw [decide_eq_false q, decide_eq_false (by omega)]
theorem mnn {B w q st d b : Nat} {s : Nat → Int32} {m : aN} (h : VM B s w m) (e : EnvM B s st d b) (hq : q ≤ 4) : s_X11_nameNumber (nI w) (nI q) s = some (onI st d b m q) := by
  unfold onI
  rcases (by omega : q = 0 ∨ q = 1 ∨ q = 2 ∨ q = 3 ∨ q = 4) with rfl | rfl | rfl | rfl | rfl
  · simp (disch := omega) only [s_X11_nameNumber, ↓reduceIte, nI_lit, mO_lit, mO_lt, mO_le, mO_gt, mO_ge, mO_ne, mO_ne', nI_add, nI_mul, nI_addlit0, bsome, c_le_f, c_le_t, c_lt_f, c_lt_t, c_eq_f, c_eq_t, if_true, if_false, fld_n, fst_n, mkn h]
  · simp (disch := omega) only [s_X11_nameNumber, ↓reduceIte, nI_lit, mO_lit, mO_lt, mO_le, mO_gt, mO_ge, mO_ne, mO_ne', nI_add, nI_mul, nI_addlit0, bsome, c_le_f, c_le_t, c_lt_f, c_lt_t, c_eq_f, c_eq_t, if_true, if_false, fld_n, fst_n, mcd h]; rfl
  · simp (disch := omega) only [s_X11_nameNumber, ↓reduceIte, nI_lit, mO_lit, mO_lt, mO_le, mO_gt, mO_ge, mO_ne, mO_ne', nI_add, nI_mul, nI_addlit0, bsome, c_le_f, c_le_t, c_lt_f, c_lt_t, c_eq_f, c_eq_t, if_true, if_false, fld_n, fst_n, mls h, lm1]; rfl
  · simp (disch := omega) only [s_X11_nameNumber, ↓reduceIte, nI_lit, mO_lit, mO_lt, mO_le, mO_gt, mO_ge, mO_ne, mO_ne', nI_add, nI_mul, nI_addlit0, bsome, c_le_f, c_le_t, c_lt_f, c_lt_t, c_eq_f, c_eq_t, if_true, if_false, fld_n, fst_n, mls h, lm2u, ubN_0]; rfl
  · simp (disch := omega) only [s_X11_nameNumber, ↓reduceIte, nI_lit, mO_lit, mO_lt, mO_le, mO_gt, mO_ge, mO_ne, mO_ne', nI_add, nI_mul, nI_addlit0, bsome, c_le_f, c_le_t, c_lt_f, c_lt_t, c_eq_f, c_eq_t, if_true, if_false, fld_n, fst_n, mst h e]; rfl
theorem mfn {B f q : Nat} {S : aS} {s : Nat → Int32} (h : IM B S s) (hf : f < 5) (hq : q ≤ 4) : s_X11_fisherNumber (nI f) (nI q) s = some (ofI S f q) := by
  unfold ofI
  rcases (by omega : q = 0 ∨ q = 1 ∨ q = 2 ∨ q = 3 ∨ q = 4) with rfl | rfl | rfl | rfl | rfl
  · simp (disch := omega) only [s_X11_fisherNumber, ↓reduceIte, nI_lit, mO_lit, mO_lt, mO_le, mO_gt, mO_ge, mO_ne, mO_ne', nI_add, nI_mul, nI_addlit0, bsome, c_le_f, c_le_t, c_lt_f, c_lt_t, c_eq_f, c_eq_t, if_true, if_false, fld_n, fst_n, mof h hf]
  · simp (disch := omega) only [s_X11_fisherNumber, ↓reduceIte, nI_lit, mO_lit, mO_lt, mO_le, mO_gt, mO_ge, mO_ne, mO_ne', nI_add, nI_mul, nI_addlit0, bsome, c_le_f, c_le_t, c_lt_f, c_lt_t, c_eq_f, c_eq_t, if_true, if_false, fld_n, fst_n, mof h hf]; rfl
  · simp (disch := omega) only [s_X11_fisherNumber, ↓reduceIte, nI_lit, mO_lit, mO_lt, mO_le, mO_gt, mO_ge, mO_ne, mO_ne', nI_add, nI_mul, nI_addlit0, bsome, c_le_f, c_le_t, c_lt_f, c_lt_t, c_eq_f, c_eq_t, if_true, if_false, fld_n, fst_n, mle h hf]; rfl
  · simp (disch := omega) only [s_X11_fisherNumber, ↓reduceIte, nI_lit, mO_lit, mO_lt, mO_le, mO_gt, mO_ge, mO_ne, mO_ne', nI_add, nI_mul, nI_addlit0, bsome, c_le_f, c_le_t, c_lt_f, c_lt_t, c_eq_f, c_eq_t, if_true, if_false, fld_n, fst_n, nI_sub]
    rw [mof h hf (by omega)]; rfl
  · simp (disch := omega) only [s_X11_fisherNumber, ↓reduceIte, nI_lit, mO_lit, mO_lt, mO_le, mO_gt, mO_ge, mO_ne, mO_ne', nI_add, nI_mul, nI_addlit0, bsome, c_le_f, c_le_t, c_lt_f, c_lt_t, c_eq_f, c_eq_t, if_true, if_false, fld_n, fst_n, nI_sub]
    rw [mof h hf (by omega)]; rfl
theorem men {B i q : Nat} {S : aS} {s : Nat → Int32} (h : IM B S s) (hi : i < (sE S).length) (hq : q ≤ 3) : s_X11_entryNumber (nI i) (nI q) s = some (oeI (sE S) i q) := by
  have hE := h.2.2.2.1
  obtain ⟨e1, e2, e3, e4⟩ := h.1.2.2 i hi
  obtain ⟨o1, o2, o3, o4⟩ := h.2.2.2.2 i hi
  unfold em at e1 e2 e3 e4
  unfold oeI
  rw [if_pos hi]
  have hp := pk_getD (gE (sE S) i).1 0 o4
  rcases (by omega : q = 0 ∨ q = 1 ∨ q = 2 ∨ q = 3) with rfl | rfl | rfl | rfl
  · simp (disch := omega) only [s_X11_entryNumber, ↓reduceIte, nI_lit, mO_lit, mO_lt, mO_le, mO_gt, mO_ge, mO_ne, mO_ne', nI_add, nI_mul, nI_addlit0, bsome, c_le_f, c_le_t, c_lt_f, c_lt_t, c_eq_f, c_eq_t, if_true, if_false, fld_n, fst_n, Nat.add_zero, e1]
  · simp (disch := omega) only [s_X11_entryNumber, ↓reduceIte, nI_lit, mO_lit, mO_lt, mO_le, mO_gt, mO_ge, mO_ne, mO_ne', nI_add, nI_mul, nI_addlit0, bsome, c_le_f, c_le_t, c_lt_f, c_lt_t, c_eq_f, c_eq_t, if_true, if_false, fld_n, fst_n, e2]; rfl
  · simp (disch := omega) only [s_X11_entryNumber, ↓reduceIte, nI_lit, mO_lit, mO_lt, mO_le, mO_gt, mO_ge, mO_ne, mO_ne', nI_add, nI_mul, nI_addlit0, bsome, c_le_f, c_le_t, c_lt_f, c_lt_t, c_eq_f, c_eq_t, if_true, if_false, fld_n, fst_n, e3]; rfl
  · simp (disch := omega) only [s_X11_entryNumber, ↓reduceIte, nI_lit, mO_lit, mO_lt, mO_le, mO_gt, mO_ge, mO_ne, mO_ne', nI_add, nI_mul, nI_addlit0, bsome, c_le_f, c_le_t, c_lt_f, c_lt_t, c_eq_f, c_eq_t, if_true, if_false, fld_n, fst_n, e4, letA, hp]; rfl
