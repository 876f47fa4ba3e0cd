/-! the model: can be fastened; reads alike -/
theorem moI_0 {B : Nat} {x : aK} (h : OKK B x) : moI x = if x.2.1 = 1 then ckI (nI (rdN x)) - ckI (nI x.1) else nI 0 := by
  have h16 := rd16 h
  unfold moI
  by_cases q1 : x.2.1 = 1
  · rw [if_pos q1, if_neg (fun e => by have := h16.mp e; omega)]
  · rw [if_neg q1]
    by_cases q2 : rdN x = 16
    · rw [if_pos q2]
    · rw [if_neg q2]
      have q0 : x.2.1 = 0 := by
        have : ¬ 2 ≤ x.2.1 := fun e => q2 (h16.mpr e)
        omega
      have : rdN x = x.1 := by unfold rdN; rw [if_pos q0]
      rw [this]; show _ = 0; grind
theorem mcf {B f n : Nat} {S : aS} {s : Nat → Int32} (h : IM B S s) (hf : f < 5) (hn : n < (sB S f).length) : s_X11_canFasten (nI f) (nI n) s = some (if wfI S f n = nI 0 then nI 1 else nI 0) := by
  have hv := h.nam hf hn
  have h8 := hv.2.2.2.2.1
  have hw := hv.1
  have hB := hv.2.1
  have m4 := hv.2.2.1.2.2.2
  simp (disch := omega) only [s_X11_canFasten, ↓reduceIte, nI_lit, mO_lit, mO_lt, mO_le, mO_gt, mO_ge, mO_ne, mO_ne', nI_add, nI_mul, nI_addlit0, bsome, c_le_f, c_le_t, c_lt_f, c_lt_t, c_eq_f, c_eq_t, if_true, if_false, fld_n, fst_n, whr, mle h hf]
  rw [lsum (fun a x i => s_X11_canFasten_L12 (nI (wh f n)) s a x i) (nm S f n).length (fun k => moI (gK (nm S f n) k)) (by omega)]
  · rw [show nI 0 = 0 from rfl]
    simp only [bsome, Int32.zero_add]
    unfold wfI
    by_cases q : sI (nm S f n).length (fun k => moI (gK (nm S f n) k)) ≤ leftI S f
    · rw [if_pos q, if_neg (fun e => by rw [Int32.lt_iff_toInt_lt] at e; rw [Int32.le_iff_toInt_le] at q; omega)]; rfl
    · rw [if_neg q, if_pos (by rw [Int32.lt_iff_toInt_lt]; rw [Int32.le_iff_toInt_le] at q; omega)]; rfl
  · intro a k x hk
    have ho := hv.2.2.2.2.2 k hk
    have ho2 := ho.2.1
    simp (disch := omega) only [s_X11_canFasten_L12, ↓reduceIte, nI_lit, mO_lit, mO_lt, mO_le, mO_gt, mO_ge, mO_ne, mO_ne', nI_add, nI_mul, nI_addlit0, bsome, c_le_f, c_le_t, c_lt_f, c_lt_t, c_eq_f, c_eq_t, if_true, if_false, fld_n, fst_n, mkn hv, m4 k hk, mrd hv hk, mti hv hk, cordM]
    rw [moI_0 ho]
    by_cases q1 : (gK (nm S f n) k).2.1 = 1
    · simp (disch := omega) only [↓reduceIte, nI_lit, mO_lit, mO_lt, mO_le, mO_gt, mO_ge, mO_ne, mO_ne', nI_add, nI_mul, nI_addlit0, bsome, c_le_f, c_le_t, c_lt_f, c_lt_t, c_eq_f, c_eq_t, if_true, if_false, fld_n, fst_n, if_pos q1]
    · simp (disch := omega) only [↓reduceIte, nI_lit, mO_lit, mO_lt, mO_le, mO_gt, mO_ge, mO_ne, mO_ne', nI_add, nI_mul, nI_addlit0, bsome, c_le_f, c_le_t, c_lt_f, c_lt_t, c_eq_f, c_eq_t, if_true, if_false, fld_n, fst_n, if_neg q1]
  · intro a x
    simp (disch := omega) only [s_X11_canFasten_L12, ↓reduceIte, nI_lit, mO_lit, mO_lt, mO_le, mO_gt, mO_ge, mO_ne, mO_ne', nI_add, nI_mul, nI_addlit0, bsome, c_le_f, c_le_t, c_lt_f, c_lt_t, c_eq_f, c_eq_t, if_true, if_false, fld_n, fst_n, mkn hv]
