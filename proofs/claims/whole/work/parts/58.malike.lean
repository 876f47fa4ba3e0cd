/-! the model: can be fastened; reads alike -/
theorem moI_0 {B : Nat} {x : aK} (h : OKK B x) : moI x = if x.2.1 = 1 then ckI (nI (rdN x)) - ckI (nI x.1) else nI 0 := by
  have h16 := rd16 h
  unfold moI
  by_cases q1 : x.2.1 = 1
  · rw [if_pos q1, if_neg (fun e => by have := h16.mp e; omega)]
  · rw [if_neg q1]
    by_cases q2 : rdN x = 16
    · rw [if_pos q2]
    · rw [if_neg q2]
      have q0 : x.2.1 = 0 := by
        have : ¬ 2 ≤ x.2.1 := fun e => q2 (h16.mpr e)
        omega
      have : rdN x = x.1 := by unfold rdN; rw [if_pos q0]
      rw [this]; show _ = 0; grind
theorem mcf {B f n : Nat} {S : aS} {s : Nat → Int32} (h : IM B S s) (hf : f < 5) (hn : n < (sB S f).length) : s_X11_canFasten (nI f) (nI n) s = some (if wfI S f n = nI 0 then nI 1 else nI 0) := by
  have hv := h.nam hf hn
  have h8 := hv.2.2.2.2.1
  have hw := hv.1
  have hB := hv.2.1
  have m4 := hv.2.2.1.2.2.2
  simp (disch := omega) only [s_X11_canFasten, ↓reduceIte, nI_lit, mO_lit, mO_lt, mO_le, mO_gt, mO_ge, mO_ne, mO_ne', nI_add, nI_mul, nI_addlit0, bsome, c_le_f, c_le_t, c_lt_f, c_lt_t, c_eq_f, c_eq_t, if_true, if_false, fld_n, fst_n, whr, mle h hf]
  rw [lsum (fun a x i => s_X11_canFasten_L12 (nI (wh f n)) s a x i) (nm S f n).length (fun k => moI (gK (nm S f n) k)) (by omega)]
  · rw [show nI 0 = 0 from rfl]
    simp only [bsome, Int32.zero_add]
    unfold wfI
    by_cases q : sI (nm S f n).length (fun k => moI (gK (nm S f n) k)) ≤ leftI S f
    · rw [if_pos q, if_neg (fun e => by rw [Int32.lt_iff_toInt_lt] at e; rw [Int32.le_iff_toInt_le] at q; omega)]; rfl
    · rw [if_neg q, if_pos (by rw [Int32.lt_iff_toInt_lt]; rw [Int32.le_iff_toInt_le] at q; omega)]; rfl
  · intro a k x hk
    have ho := hv.2.2.2.2.2 k hk
    have ho2 := ho.2.1
    simp (disch := omega) only [s_X11_canFasten_L12, ↓reduceIte, nI_lit, mO_lit, mO_lt, mO_le, mO_gt, mO_ge, mO_ne, mO_ne', nI_add, nI_mul, nI_addlit0, bsome, c_le_f, c_le_t, c_lt_f, c_lt_t, c_eq_f, c_eq_t, if_true, if_false, fld_n, fst_n, mkn hv, m4 k hk, mrd hv hk, mti hv hk, cordM]
    rw [moI_0 ho]
    by_cases q1 : (gK (nm S f n) k).2.1 = 1
    · simp (disch := omega) only [↓reduceIte, nI_lit, mO_lit, mO_lt, mO_le, mO_gt, mO_ge, mO_ne, mO_ne', nI_add, nI_mul, nI_addlit0, bsome, c_le_f, c_le_t, c_lt_f, c_lt_t, c_eq_f, c_eq_t, if_true, if_false, fld_n, fst_n, if_pos q1]
    · simp (disch := omega) only [↓reduceIte, nI_lit, mO_lit, mO_lt, mO_le, mO_gt, mO_ge, mO_ne, mO_ne', nI_add, nI_mul, nI_addlit0, bsome, c_le_f, c_le_t, c_lt_f, c_lt_t, c_eq_f, c_eq_t, if_true, if_false, fld_n, fst_n, if_neg q1]
  · intro a x
    simp (disch := omega) only [s_X11_canFasten_L12, ↓reduceIte, nI_lit, mO_lit, mO_lt, mO_le, mO_gt, mO_ge, mO_ne, mO_ne', nI_add, nI_mul, nI_addlit0, bsome, c_le_f, c_le_t, c_lt_f, c_lt_t, c_eq_f, c_eq_t, if_true, if_false, fld_n, fst_n, mkn hv]
theorem mra {B w w' : Nat} {s : Nat → Int32} {m m' : aN} (h : VM B s w m) (h' : VM B s w' m') : s_X11_readAlike (nI w) (nI w') s = some (bI (raB m m')) := by
  have hl := h.2.2.2.2.1
  have hl' := h'.2.2.2.2.1
  unfold raB
  simp (disch := omega) only [s_X11_readAlike, mkn h, mkn h', ↓reduceIte, nI_lit, mO_lit, mO_lt, mO_le, mO_gt, mO_ge, mO_ne, mO_ne', nI_add, nI_mul, nI_addlit0, bsome, c_le_f, c_le_t, c_lt_f, c_lt_t, c_eq_f, c_eq_t, if_true, if_false, fld_n, fst_n]
  by_cases hq : m.length = m'.length
  · rw [decide_eq_true hq]
    simp (disch := omega) only [↓reduceIte, nI_lit, mO_lit, mO_lt, mO_le, mO_gt, mO_ge, mO_ne, mO_ne', nI_add, nI_mul, nI_addlit0, bsome, c_le_f, c_le_t, c_lt_f, c_lt_t, c_eq_f, c_eq_t, if_true, if_false, fld_n, fst_n]
    have key := lp (fun a (y : Int32 × Int32) => s_X11_readAlike_L22 (nI w) (nI w') s a y.1 y.2) m.length
      (fun i y => y = (bI (!(anyB i (fun k => decide (rdN (gK m k) ≠ rdN (gK m' k))))), nI i)) (fun r => r.1 = bI (!(anyB m.length (fun k => decide (rdN (gK m k) ≠ rdN (gK m' k))))))
      (fun i hi a y hy => by
        subst hy
        cases q : anyB i (fun k => decide (rdN (gK m k) ≠ rdN (gK m' k))) with
        | true =>
          refine Or.inr ⟨(nI 0, nI i), ?_, ?_⟩
          · simp (disch := omega) only [s_X11_readAlike_L22, ↓reduceIte, nI_lit, mO_lit, mO_lt, mO_le, mO_gt, mO_ge, mO_ne, mO_ne', nI_add, nI_mul, nI_addlit0, bsome, c_le_f, c_le_t, c_lt_f, c_lt_t, c_eq_f, c_eq_t, if_true, if_false, fld_n, fst_n, mkn h, Bool.not_true, bI_f]
          · have : anyB m.length (fun k => decide (rdN (gK m k) ≠ rdN (gK m' k))) = true := by
              have : ∃ k, k < i ∧ decide (rdN (gK m k) ≠ rdN (gK m' k)) = true := Classical.byContradiction fun hc => by
                have : anyB i (fun k => decide (rdN (gK m k) ≠ rdN (gK m' k))) = false := anyB_f fun k hk => by
                  cases e : decide (rdN (gK m k) ≠ rdN (gK m' k)) with
                  | false => rfl
                  | true => exact absurd ⟨k, hk, e⟩ hc
                rw [this] at q; cases q
              obtain ⟨k, hk, e⟩ := this
              exact anyB_t (by omega) e
            rw [this]; rfl
        | false =>
          refine Or.inl ⟨(bI (!(anyB (i + 1) (fun k => decide (rdN (gK m k) ≠ rdN (gK m' k))))), nI (i + 1)), ?_, rfl⟩
          have e1 : anyB (i + 1) (fun k => decide (rdN (gK m k) ≠ rdN (gK m' k))) = decide (rdN (gK m i) ≠ rdN (gK m' i)) := by
            show (anyB i _ || _) = _
            rw [q, Bool.false_or]
          rw [e1]
          have r1 := rdN_le (h.2.2.2.2.2 i hi)
          have r2 := rdN_le (h'.2.2.2.2.2 i (by omega))
          simp (disch := omega) only [s_X11_readAlike_L22, ↓reduceIte, nI_lit, mO_lit, mO_lt, mO_le, mO_gt, mO_ge, mO_ne, mO_ne', nI_add, nI_mul, nI_addlit0, bsome, c_le_f, c_le_t, c_lt_f, c_lt_t, c_eq_f, c_eq_t, if_true, if_false, fld_n, fst_n, mkn h, Bool.not_false, bI_t, mrd h hi, mrd h' (k := i) (by omega)]
          by_cases q2 : rdN (gK m i) = rdN (gK m' i)
          · simp (disch := omega) only [↓reduceIte, nI_lit, mO_lit, mO_lt, mO_le, mO_gt, mO_ge, mO_ne, mO_ne', nI_add, nI_mul, nI_addlit0, bsome, c_le_f, c_le_t, c_lt_f, c_lt_t, c_eq_f, c_eq_t, if_true, if_false, fld_n, fst_n, q2]; simp [bI]
          · simp (disch := omega) only [↓reduceIte, nI_lit, mO_lit, mO_lt, mO_le, mO_gt, mO_ge, mO_ne, mO_ne', nI_add, nI_mul, nI_addlit0, bsome, c_le_f, c_le_t, c_lt_f, c_lt_t, c_eq_f, c_eq_t, if_true, if_false, fld_n, fst_n]; simp [bI, q2])
      (fun a y hy => by
        subst hy
        exact ⟨(bI (!(anyB m.length (fun k => decide (rdN (gK m k) ≠ rdN (gK m' k))))), nI m.length), by simp (disch := omega) only [s_X11_readAlike_L22, ↓reduceIte, nI_lit, mO_lit, mO_lt, mO_le, mO_gt, mO_ge, mO_ne, mO_ne', nI_add, nI_mul, nI_addlit0, bsome, c_le_f, c_le_t, c_lt_f, c_lt_t, c_eq_f, c_eq_t, if_true, if_false, fld_n, fst_n, mkn h], rfl⟩)
      m.length 0 gF (nI 1, nI 0) (by omega) (by unfold gF; omega) rfl
    obtain ⟨r, k1, k2⟩ := key
    have k1 : s_X11_readAlike_L22 (nI w) (nI w') s gF (nI 1) (nI 0) = some r := k1
    refine bindE k1 ?_
    rw [k2, Bool.true_and]
    unfold fz
    rw [if_pos]
    cases anyB m.length (fun k => decide (rdN (gK m k) ≠ rdN (gK m' k))) <;> simp [bI] <;> decide
  · rw [decide_eq_false hq, Bool.false_and]
    simp (disch := omega) only [↓reduceIte, nI_lit, mO_lit, mO_lt, mO_le, mO_gt, mO_ge, mO_ne, mO_ne', nI_add, nI_mul, nI_addlit0, bsome, c_le_f, c_le_t, c_lt_f, c_lt_t, c_eq_f, c_eq_t, if_true, if_false, fld_n, fst_n]
    have k1 : s_X11_readAlike_L22 (nI w) (nI w') s gF (nI 0) (nI 0) = some (nI 0, nI 0) := by
      show s_X11_readAlike_L22 (nI w) (nI w') s (5999 + 1) (nI 0) (nI 0) = _
      by_cases q : m.length = 0
      · simp (disch := omega) only [s_X11_readAlike_L22, ↓reduceIte, nI_lit, mO_lit, mO_lt, mO_le, mO_gt, mO_ge, mO_ne, mO_ne', nI_add, nI_mul, nI_addlit0, bsome, c_le_f, c_le_t, c_lt_f, c_lt_t, c_eq_f, c_eq_t, if_true, if_false, fld_n, fst_n, mkn h, q]
      · simp (disch := omega) only [s_X11_readAlike_L22, ↓reduceIte, nI_lit, mO_lit, mO_lt, mO_le, mO_gt, mO_ge, mO_ne, mO_ne', nI_add, nI_mul, nI_addlit0, bsome, c_le_f, c_le_t, c_lt_f, c_lt_t, c_eq_f, c_eq_t, if_true, if_false, fld_n, fst_n, mkn h]
    refine bindE k1 ?_
    unfold fz
    rw [if_pos (show (nI 0, nI 0).fst = 0 ∨ (nI 0, nI 0).fst = 1 from Or.inl rfl)]
    rfl
