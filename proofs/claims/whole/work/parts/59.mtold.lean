/-! the model: the text of a belt -/
theorem mch {B f j : Nat} {S : aS} {s : Nat → Int32} (h : IM B S s) (hf : f < 5) (hj : j < 2147483648) : s_X11_characterAt (nI f) (nI j) s = some (tdJ S f j) := by
  have h6 := h.six hf
  simp (disch := omega) only [s_X11_characterAt, ↓reduceIte, nI_lit, mO_lit, mO_lt, mO_le, mO_gt, mO_ge, mO_ne, mO_ne', nI_add, nI_mul, nI_addlit0, bsome, c_le_f, c_le_t, c_lt_f, c_lt_t, c_eq_f, c_eq_t, if_true, if_false, fld_n, fst_n]
  have key : ∀ (r n j' fuel : Nat), 1 ≤ n → r + n = (sB S f).length → r < fuel → j' < 2147483648 → (s_X11_characterAt_L5 (nI f) s fuel (nI j') (nI n)).bind (fun r9 => fsum r9 (fun r9 => some r9) (fun e10 => some mO)) = some (if j' = 0 then (if r = 0 then mO else nI 45) else tdI (nm S f) r n (j' - 1)) := by
    intro r
    induction r with
    | zero =>
      intro n j' fuel h0 h1 h2 h3
      obtain ⟨a, rfl⟩ : ∃ a, fuel = a + 1 := ⟨fuel - 1, by omega⟩
      simp (disch := omega) only [s_X11_characterAt_L5, ↓reduceIte, nI_lit, mO_lit, mO_lt, mO_le, mO_gt, mO_ge, mO_ne, mO_ne', nI_add, nI_mul, nI_addlit0, bsome, c_le_f, c_le_t, c_lt_f, c_lt_t, c_eq_f, c_eq_t, if_true, if_false, fld_n, fst_n, mof1 h hf]
      show some mO = _
      by_cases q : j' = 0
      · rw [if_pos q]
      · rw [if_neg q]; rfl
    | succ r ih =>
      intro n j' fuel h0 h1 h2 h3
      obtain ⟨a, rfl⟩ : ∃ a, fuel = a + 1 := ⟨fuel - 1, by omega⟩
      have hv := h.nam hf (n := n) (by omega)
      have h8 := hv.2.2.2.2.1
      by_cases q : j' = 0
      · subst q
        simp (disch := omega) only [s_X11_characterAt_L5, ↓reduceIte, nI_lit, mO_lit, mO_lt, mO_le, mO_gt, mO_ge, mO_ne, mO_ne', nI_add, nI_mul, nI_addlit0, bsome, c_le_f, c_le_t, c_lt_f, c_lt_t, c_eq_f, c_eq_t, if_true, if_false, fld_n, fst_n, mof1 h hf, whr]
        rfl
      · rw [if_neg q]
        simp (disch := omega) only [s_X11_characterAt_L5, ↓reduceIte, nI_lit, mO_lit, mO_lt, mO_le, mO_gt, mO_ge, mO_ne, mO_ne', nI_add, nI_mul, nI_addlit0, bsome, c_le_f, c_le_t, c_lt_f, c_lt_t, c_eq_f, c_eq_t, if_true, if_false, fld_n, fst_n, mof1 h hf, whr, mO_add, mkn hv]
        show _ = some (if j' - 1 < (nm S f n).length then cdI (rdN (gK (nm S f n) (j' - 1))) else if j' - 1 = (nm S f n).length then (if r = 0 then mO else nI 45) else tdI (nm S f) r (n + 1) (j' - 1 - ((nm S f n).length + 1)))
        by_cases q1 : j' - 1 < (nm S f n).length
        · have hrd := rdN_le (hv.2.2.2.2.2 _ q1)
          simp (disch := omega) only [↓reduceIte, nI_lit, mO_lit, mO_lt, mO_le, mO_gt, mO_ge, mO_ne, mO_ne', nI_add, nI_mul, nI_addlit0, bsome, c_le_f, c_le_t, c_lt_f, c_lt_t, c_eq_f, c_eq_t, if_true, if_false, fld_n, fst_n, mrd hv q1, if_pos q1]
          unfold cdI
          by_cases q2 : rdN (gK (nm S f n) (j' - 1)) = 16
          · simp (disch := omega) only [↓reduceIte, nI_lit, mO_lit, mO_lt, mO_le, mO_gt, mO_ge, mO_ne, mO_ne', nI_add, nI_mul, nI_addlit0, bsome, c_le_f, c_le_t, c_lt_f, c_lt_t, c_eq_f, c_eq_t, if_true, if_false, fld_n, fst_n, q2]; rfl
          · simp (disch := omega) only [↓reduceIte, nI_lit, mO_lit, mO_lt, mO_le, mO_gt, mO_ge, mO_ne, mO_ne', nI_add, nI_mul, nI_addlit0, bsome, c_le_f, c_le_t, c_lt_f, c_lt_t, c_eq_f, c_eq_t, if_true, if_false, fld_n, fst_n, if_neg q2]; rfl
        · simp (disch := omega) only [↓reduceIte, nI_lit, mO_lit, mO_lt, mO_le, mO_gt, mO_ge, mO_ne, mO_ne', nI_add, nI_mul, nI_addlit0, bsome, c_le_f, c_le_t, c_lt_f, c_lt_t, c_eq_f, c_eq_t, if_true, if_false, fld_n, fst_n, nI_sub, if_neg q1]
          rw [ih (n + 1) (j' - 1 - (nm S f n).length) a (by omega) (by omega) (by omega) (by omega)]
          by_cases q2 : j' - 1 = (nm S f n).length
          · rw [if_pos (by omega), if_pos q2]
          · rw [if_neg (by omega), if_neg q2, show j' - 1 - (nm S f n).length - 1 = j' - 1 - ((nm S f n).length + 1) from by omega]
  unfold tdJ
  obtain ⟨a, ha⟩ : ∃ a, gF = a + 1 := ⟨5999, rfl⟩
  rw [ha]
  cases hN : (sB S f).length with
  | zero =>
    simp (disch := omega) only [s_X11_characterAt_L5, ↓reduceIte, nI_lit, mO_lit, mO_lt, mO_le, mO_gt, mO_ge, mO_ne, mO_ne', nI_add, nI_mul, nI_addlit0, bsome, c_le_f, c_le_t, c_lt_f, c_lt_t, c_eq_f, c_eq_t, if_true, if_false, fld_n, fst_n, mof1 h hf, hN]
    rfl
  | succ r =>
    have hv := h.nam hf (n := 0) (by omega)
    have h8 := hv.2.2.2.2.1
    simp (disch := omega) only [s_X11_characterAt_L5, ↓reduceIte, nI_lit, mO_lit, mO_lt, mO_le, mO_gt, mO_ge, mO_ne, mO_ne', nI_add, nI_mul, nI_addlit0, bsome, c_le_f, c_le_t, c_lt_f, c_lt_t, c_eq_f, c_eq_t, if_true, if_false, fld_n, fst_n, mof1 h hf, whr, mkn hv]
    show _ = some (if j < (nm S f 0).length then cdI (rdN (gK (nm S f 0) j)) else if j = (nm S f 0).length then (if r = 0 then mO else nI 45) else tdI (nm S f) r (0 + 1) (j - ((nm S f 0).length + 1)))
    by_cases q1 : j < (nm S f 0).length
    · have hrd := rdN_le (hv.2.2.2.2.2 _ q1)
      simp (disch := omega) only [↓reduceIte, nI_lit, mO_lit, mO_lt, mO_le, mO_gt, mO_ge, mO_ne, mO_ne', nI_add, nI_mul, nI_addlit0, bsome, c_le_f, c_le_t, c_lt_f, c_lt_t, c_eq_f, c_eq_t, if_true, if_false, fld_n, fst_n, mrd hv q1, if_pos q1]
      unfold cdI
      by_cases q2 : rdN (gK (nm S f 0) j) = 16
      · simp (disch := omega) only [↓reduceIte, nI_lit, mO_lit, mO_lt, mO_le, mO_gt, mO_ge, mO_ne, mO_ne', nI_add, nI_mul, nI_addlit0, bsome, c_le_f, c_le_t, c_lt_f, c_lt_t, c_eq_f, c_eq_t, if_true, if_false, fld_n, fst_n, q2]; rfl
      · simp (disch := omega) only [↓reduceIte, nI_lit, mO_lit, mO_lt, mO_le, mO_gt, mO_ge, mO_ne, mO_ne', nI_add, nI_mul, nI_addlit0, bsome, c_le_f, c_le_t, c_lt_f, c_lt_t, c_eq_f, c_eq_t, if_true, if_false, fld_n, fst_n, if_neg q2]; rfl
    · simp (disch := omega) only [↓reduceIte, nI_lit, mO_lit, mO_lt, mO_le, mO_gt, mO_ge, mO_ne, mO_ne', nI_add, nI_mul, nI_addlit0, bsome, c_le_f, c_le_t, c_lt_f, c_lt_t, c_eq_f, c_eq_t, if_true, if_false, fld_n, fst_n, nI_sub, if_neg q1]
      have ha2 : 5999 = a := by unfold gF at ha; omega
      rw [key r (0 + 1) (j - (nm S f 0).length) a (by omega) (by omega) (by omega) (by omega)]
      by_cases q2 : j = (nm S f 0).length
      · rw [if_pos (by omega), if_pos q2]
      · rw [if_neg (by omega), if_neg q2, show j - (nm S f 0).length - 1 = j - ((nm S f 0).length + 1) from by omega]
