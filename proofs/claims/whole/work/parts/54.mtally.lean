/-! the model: what is told -/
theorem msu {B j : Nat} {S : aS} {s : Nat → Int32} (h : IM B S s) (hj : j < 4) : s_X11_sumOf (nI j) s = some (sI 5 (fun f => fN S f j)) := by
  simp (disch := omega) only [s_X11_sumOf, ↓reduceIte, nI_lit, mO_lit, mO_lt, mO_le, mO_gt, mO_ge, mO_ne, mO_ne', nI_add, nI_mul, nI_addlit0, bsome, c_le_f, c_le_t, c_lt_f, c_lt_t, c_eq_f, c_eq_t, if_true, if_false, fld_n, fst_n]
  rw [lsum (fun a x i => s_X11_sumOf_L4 (nI j) s a x i) 5 (fun f => fN S f j) (by omega)]
  · rw [show nI 0 = 0 from rfl, Int32.zero_add]; rfl
  · intro a i x hi
    simp (disch := omega) only [s_X11_sumOf_L4, ↓reduceIte, nI_lit, mO_lit, mO_lt, mO_le, mO_gt, mO_ge, mO_ne, mO_ne', nI_add, nI_mul, nI_addlit0, bsome, c_le_f, c_le_t, c_lt_f, c_lt_t, c_eq_f, c_eq_t, if_true, if_false, fld_n, fst_n, mof h hi hj]
  · intro a x
    simp (disch := omega) only [s_X11_sumOf_L4, ↓reduceIte, nI_lit, mO_lit, mO_lt, mO_le, mO_gt, mO_ge, mO_ne, mO_ne', nI_add, nI_mul, nI_addlit0, bsome, c_le_f, c_le_t, c_lt_f, c_lt_t, c_eq_f, c_eq_t, if_true, if_false, fld_n, fst_n]
theorem mko {B l r : Nat} {S : aS} {s : Nat → Int32} (h : IM B S s) (hr : r < 2) : s_X11_knotsOf (nI l) (nI r) s = some (sA S (fun m => nI (kN (2 + r) (nI l) m))) := by
  simp (disch := omega) only [s_X11_knotsOf, ↓reduceIte, nI_lit, mO_lit, mO_lt, mO_le, mO_gt, mO_ge, mO_ne, mO_ne', nI_add, nI_mul, nI_addlit0, bsome, c_le_f, c_le_t, c_lt_f, c_lt_t, c_eq_f, c_eq_t, if_true, if_false, fld_n, fst_n]
  rw [lsum (fun a x i => s_X11_knotsOf_L5 (nI l) (nI r) s a x i) 5 (fun f => sI (sB S f).length (fun n => nI (kN (2 + r) (nI l) (nm S f n)))) (by omega)]
  · show some (nI 0 + _) = _; rw [show nI 0 = 0 from rfl, Int32.zero_add]; rfl
  · intro a f x hf
    have h6 := h.six hf
    simp (disch := omega) only [s_X11_knotsOf_L5, ↓reduceIte, nI_lit, mO_lit, mO_lt, mO_le, mO_gt, mO_ge, mO_ne, mO_ne', nI_add, nI_mul, nI_addlit0, bsome, c_le_f, c_le_t, c_lt_f, c_lt_t, c_eq_f, c_eq_t, if_true, if_false, fld_n, fst_n]
    rw [lsum (fun a x i => s_X11_knotsOf_L14 (nI l) (nI r) (nI f) s a x i) (sB S f).length (fun n => nI (kN (2 + r) (nI l) (nm S f n))) (by omega)]
    · rfl
    · intro a n x hn
      have hv := h.nam hf hn
      have h8 := hv.2.2.2.2.1
      simp (disch := omega) only [s_X11_knotsOf_L14, ↓reduceIte, nI_lit, mO_lit, mO_lt, mO_le, mO_gt, mO_ge, mO_ne, mO_ne', nI_add, nI_mul, nI_addlit0, bsome, c_le_f, c_le_t, c_lt_f, c_lt_t, c_eq_f, c_eq_t, if_true, if_false, fld_n, fst_n, mof1 h hf, whr]
      rw [lsum (fun a x i => s_X11_knotsOf_L38 (nI l) (nI r) (nI (wh f n)) s a x i) (nm S f n).length (fun k => bI (pK (2 + r) (nI l) (gK (nm S f n) k))) (by omega)]
      · simp only [bsome, bI_nI, sI_nI]; rfl
      · intro a k x hk
        simp (disch := omega) only [s_X11_knotsOf_L38, ↓reduceIte, nI_lit, mO_lit, mO_lt, mO_le, mO_gt, mO_ge, mO_ne, mO_ne', nI_add, nI_mul, nI_addlit0, bsome, c_le_f, c_le_t, c_lt_f, c_lt_t, c_eq_f, c_eq_t, if_true, if_false, fld_n, fst_n, mkn hv, mti hv hk, mrd hv hk]
        rcases (by omega : r = 0 ∨ r = 1) with rfl | rfl
        · simp (disch := omega) only [↓reduceIte, nI_lit, mO_lit, mO_lt, mO_le, mO_gt, mO_ge, mO_ne, mO_ne', nI_add, nI_mul, nI_addlit0, bsome, c_le_f, c_le_t, c_lt_f, c_lt_t, c_eq_f, c_eq_t, if_true, if_false, fld_n, fst_n, pK]
          by_cases q : nI (gK (nm S f n) k).1 = nI l
          · simp [q, bI, nI_lit]
          · simp [q, bI, nI_lit, nI_addlit0]
        · simp (disch := omega) only [↓reduceIte, nI_lit, mO_lit, mO_lt, mO_le, mO_gt, mO_ge, mO_ne, mO_ne', nI_add, nI_mul, nI_addlit0, bsome, c_le_f, c_le_t, c_lt_f, c_lt_t, c_eq_f, c_eq_t, if_true, if_false, fld_n, fst_n, pK]
          by_cases q : nI (rdN (gK (nm S f n) k)) = nI l
          · simp [q, bI, nI_lit]
          · simp [q, bI, nI_lit, nI_addlit0]
      · intro a x
        simp (disch := omega) only [s_X11_knotsOf_L38, ↓reduceIte, nI_lit, mO_lit, mO_lt, mO_le, mO_gt, mO_ge, mO_ne, mO_ne', nI_add, nI_mul, nI_addlit0, bsome, c_le_f, c_le_t, c_lt_f, c_lt_t, c_eq_f, c_eq_t, if_true, if_false, fld_n, fst_n, mkn hv]
    · intro a x
      simp (disch := omega) only [s_X11_knotsOf_L14, ↓reduceIte, nI_lit, mO_lit, mO_lt, mO_le, mO_gt, mO_ge, mO_ne, mO_ne', nI_add, nI_mul, nI_addlit0, bsome, c_le_f, c_le_t, c_lt_f, c_lt_t, c_eq_f, c_eq_t, if_true, if_false, fld_n, fst_n, mof1 h hf]
  · intro a x
    simp (disch := omega) only [s_X11_knotsOf_L5, ↓reduceIte, nI_lit, mO_lit, mO_lt, mO_le, mO_gt, mO_ge, mO_ne, mO_ne', nI_add, nI_mul, nI_addlit0, bsome, c_le_f, c_le_t, c_lt_f, c_lt_t, c_eq_f, c_eq_t, if_true, if_false, fld_n, fst_n]
