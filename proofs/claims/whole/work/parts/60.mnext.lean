/-! the model: what the next storm would do -/
theorem lb0 {st d k : Nat} {x : aK} : lbN st d k x 0 = x.2.1 := by
  unfold lbN
  by_cases hv : vow x.1 = true
  · rw [if_pos hv, Nat.add_zero]; omega
  · rw [if_neg hv]
theorem lb1 {st d k : Nat} {x : aK} (hd : 1 ≤ d) : lbN st d k x 1 = x.2.1 + bN (loB d k x (st + 1)) := by
  have := lbS (st := st) (k := k) (s := 0) (x := x) hd
  rw [lb0] at this
  exact this
theorem mns1 {B w q st d b : Nat} {s : Nat → Int32} {m : aN} (h : VM B s w m) (e : EnvM B s st d b) (hq : q ≤ 1) (x : Int32) :
    s_X11_stormNumber_L30 (nI q) (nI w) s gF x (nI 0) (nI 0) = some (x + (if q = 1 then nI (lnN st d m) else nI 0), nI (ubN st d m 1), nI m.length) := by
  have h8 := h.2.2.2.2.1
  have hw := h.1
  have m4 := h.2.2.1.2.2.2
  have e0 := e.1
  have hst := e.2.2.2.1
  have hB := e.2.2.2.2.2.2.2
  have hd := e.2.2.2.2.1
  have key := lp (fun a (y : Int32 × Int32 × Int32) => s_X11_stormNumber_L30 (nI q) (nI w) s a y.1 y.2.1 y.2.2) m.length
    (fun i y => y = (x + (if q = 1 then nI (sN i (fun k => lbN st d k (gK m k) 1 - (gK m k).2.1)) else nI 0), nI (sN i (fun k => bN (decide (1 < lbN st d k (gK m k) 1)))), nI i))
    (fun r => r = (x + (if q = 1 then nI (lnN st d m) else nI 0), nI (ubN st d m 1), nI m.length))
    (fun i hi a y hy => by
      subst hy
      have ho := (h.2.2.2.2.2 i hi).2.1
      have e1 := lb1 (st := st) (k := i) (x := gK m i) hd
      have e2 : lbN st d i (gK m i) 1 - (gK m i).2.1 = bN (loB d i (gK m i) (st + 1)) := by omega
      refine Or.inl ⟨(x + (if q = 1 then nI (sN (i + 1) (fun k => lbN st d k (gK m k) 1 - (gK m k).2.1)) else nI 0), nI (sN (i + 1) (fun k => bN (decide (1 < lbN st d k (gK m k) 1)))), nI (i + 1)), ?_, rfl⟩
      have s1 : sN (i + 1) (fun k => lbN st d k (gK m k) 1 - (gK m k).2.1) = sN i (fun k => lbN st d k (gK m k) 1 - (gK m k).2.1) + bN (loB d i (gK m i) (st + 1)) := by
        show sN i _ + (lbN st d i (gK m i) 1 - (gK m i).2.1) = _
        rw [e2]
      have s2 : sN (i + 1) (fun k => bN (decide (1 < lbN st d k (gK m k) 1))) = sN i (fun k => bN (decide (1 < lbN st d k (gK m k) 1))) + bN (decide (1 < (gK m i).2.1 + bN (loB d i (gK m i) (st + 1)))) := by
        show sN i _ + bN (decide (1 < lbN st d i (gK m i) 1)) = _
        rw [e1]
      rw [s1, s2]
      simp (disch := omega) only [s_X11_stormNumber_L30, ↓reduceIte, nI_lit, mO_lit, mO_lt, mO_le, mO_gt, mO_ge, mO_ne, mO_ne', nI_add, nI_mul, nI_addlit0, bsome, c_le_f, c_le_t, c_lt_f, c_lt_t, c_eq_f, c_eq_t, if_true, if_false, fld_n, fst_n, mkn h, m4 i hi, e0, mlo h e hi]
      rcases (by omega : q = 0 ∨ q = 1) with rfl | rfl <;> cases hl : loB d i (gK m i) (st + 1) <;> by_cases hq2 : 1 < (gK m i).2.1 <;> by_cases hq3 : 1 < (gK m i).2.1 + 1 <;>
        first
          | omega
          | (simp (disch := omega) [bI, bN, nI_lit, nI_add, nI_addlit0, c_le_f, c_le_t, c_eq_f, c_eq_t, hq2, hq3, Int32.add_assoc]; done))
    (fun a y hy => by
      subst hy
      exact ⟨(x + (if q = 1 then nI (lnN st d m) else nI 0), nI (ubN st d m 1), nI m.length), by simp (disch := omega) only [s_X11_stormNumber_L30, ↓reduceIte, nI_lit, mO_lit, mO_lt, mO_le, mO_gt, mO_ge, mO_ne, mO_ne', nI_add, nI_mul, nI_addlit0, bsome, c_le_f, c_le_t, c_lt_f, c_lt_t, c_eq_f, c_eq_t, if_true, if_false, fld_n, fst_n, mkn h]; rfl, rfl⟩)
    m.length 0 gF (x, nI 0, nI 0) (by omega) (by unfold gF; omega) (by
      show (x, nI 0, nI 0) = (x + (if q = 1 then nI 0 else nI 0), nI 0, nI 0)
      rw [show (if q = 1 then nI 0 else nI 0) = nI 0 from by split <;> rfl, nI_addlit0])
  obtain ⟨r, k1, rfl⟩ := key
  exact k1
theorem mns {B f q : Nat} {S : aS} {s : Nat → Int32} (h : IM B S s) (hf : f < 5) (hq : q ≤ 1) : s_X11_stormNumber (nI f) (nI q) s = some (nsI S f q) := by
  have h6 := h.six hf
  have e := h.env
  have e5 := e.2.2.1
  have hb := e.2.2.2.2.2.2.1
  simp (disch := omega) only [s_X11_stormNumber, ↓reduceIte, nI_lit, mO_lit, mO_lt, mO_le, mO_gt, mO_ge, mO_ne, mO_ne', nI_add, nI_mul, nI_addlit0, bsome, c_le_f, c_le_t, c_lt_f, c_lt_t, c_eq_f, c_eq_t, if_true, if_false, fld_n, fst_n]
  rw [lsum (fun a x i => s_X11_stormNumber_L5 (nI f) (nI q) s a x i) (sB S f).length (fun n => if q = 0 then bI (decide (sBo S < ubN (sSt S) (sD S) (nm S f n) 1)) else nI (lnN (sSt S) (sD S) (nm S f n))) (by omega)]
  · show some (nI 0 + _) = _
    rw [show nI 0 = 0 from rfl, Int32.zero_add]
    unfold nsI
    rcases (by omega : q = 0 ∨ q = 1) with rfl | rfl
    · simp only [if_true]
    · simp only [if_neg (show ¬ (1 = 0) by omega)]
  · intro a i x hi
    have hv := h.nam hf hi
    have hu := ubN_le (st := sSt S) (d := sD S) (s := 1) hv.2.2.2
    simp (disch := omega) only [s_X11_stormNumber_L5, ↓reduceIte, nI_lit, mO_lit, mO_lt, mO_le, mO_gt, mO_ge, mO_ne, mO_ne', nI_add, nI_mul, nI_addlit0, bsome, c_le_f, c_le_t, c_lt_f, c_lt_t, c_eq_f, c_eq_t, if_true, if_false, fld_n, fst_n, mof1 h hf, whr]
    refine bindE (mns1 hv e hq x) ?_
    rcases (by omega : q = 0 ∨ q = 1) with rfl | rfl
    · have z : x + (if 0 = 1 then nI (lnN (sSt S) (sD S) (nm S f i)) else nI 0) = x := by rw [if_neg (by omega), nI_addlit0]
      by_cases q2 : sBo S < ubN (sSt S) (sD S) (nm S f i) 1
      · simp (disch := omega) only [↓reduceIte, nI_lit, mO_lit, mO_lt, mO_le, mO_gt, mO_ge, mO_ne, mO_ne', nI_add, nI_mul, nI_addlit0, bsome, c_le_f, c_le_t, c_lt_f, c_lt_t, c_eq_f, c_eq_t, if_true, if_false, fld_n, fst_n, e5, decide_eq_true q2, bI_t, z]
      · simp (disch := omega) only [↓reduceIte, nI_lit, mO_lit, mO_lt, mO_le, mO_gt, mO_ge, mO_ne, mO_ne', nI_add, nI_mul, nI_addlit0, bsome, c_le_f, c_le_t, c_lt_f, c_lt_t, c_eq_f, c_eq_t, if_true, if_false, fld_n, fst_n, e5, decide_eq_false q2, bI_f, z]
    · have z : (if 1 = 1 then nI (lnN (sSt S) (sD S) (nm S f i)) else nI 0) = nI (lnN (sSt S) (sD S) (nm S f i)) := if_pos rfl
      have z2 : (if 1 = 0 then bI (decide (sBo S < ubN (sSt S) (sD S) (nm S f i) 1)) else nI (lnN (sSt S) (sD S) (nm S f i))) = nI (lnN (sSt S) (sD S) (nm S f i)) := if_neg (by omega)
      simp (disch := omega) only [z, z2, ↓reduceIte, nI_lit, mO_lit, mO_lt, mO_le, mO_gt, mO_ge, mO_ne, mO_ne', nI_add, nI_mul, nI_addlit0, bsome, c_le_f, c_le_t, c_lt_f, c_lt_t, c_eq_f, c_eq_t, if_true, if_false, fld_n, fst_n]
  · intro a x
    simp (disch := omega) only [s_X11_stormNumber_L5, ↓reduceIte, nI_lit, mO_lit, mO_lt, mO_le, mO_gt, mO_ge, mO_ne, mO_ne', nI_add, nI_mul, nI_addlit0, bsome, c_le_f, c_le_t, c_lt_f, c_lt_t, c_eq_f, c_eq_t, if_true, if_false, fld_n, fst_n, mof1 h hf]
