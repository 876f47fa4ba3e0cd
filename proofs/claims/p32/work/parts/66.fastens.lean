/-! the law: fastens -/
theorem ne_7003 {a : Nat} (h : a < 2147483648) : ¬ nI a = -7003 := by
  intro e
  have := congrArg Int32.toInt e
  rw [nI_toInt (by omega), show (-7003 : Int32).toInt = -7003 from by decide] at this
  omega
theorem rdN_tg (x : aK) : rdN (tgK x) = rdN x := by
  unfold tgK
  by_cases q : x.2.1 = 1
  · rw [if_pos q]
    show (if (0 : Nat) = 0 then rdN x else _) = _
    rw [if_pos rfl]
  · rw [if_neg q]
theorem loN_tg (m : aN) : loN (tgN m) = u2 m := by
  rw [loN_eq, tgN_len]
  unfold u2
  refine sN_congr fun k hk => ?_
  rw [tgN_gK hk]
  unfold tgK
  by_cases q : (gK m k).2.1 = 1
  · rw [if_pos q, decide_eq_false (by omega : ¬ 1 < (gK m k).2.1)]; rfl
  · rw [if_neg q]
    rcases (by omega : (gK m k).2.1 = 0 ∨ 1 < (gK m k).2.1) with t | t
    · rw [decide_eq_false (by omega), decide_eq_false (by omega)]
    · rw [decide_eq_true (by omega), decide_eq_true t]
theorem u2_tg (m : aN) : u2 (tgN m) = u2 m := by
  unfold u2
  rw [tgN_len]
  refine sN_congr fun k hk => ?_
  rw [tgN_gK hk]
  unfold tgK
  by_cases q : (gK m k).2.1 = 1
  · rw [if_pos q, decide_eq_false (by omega : ¬ 1 < (gK m k).2.1)]; rfl
  · rw [if_neg q]
theorem okI_tg (m : aN) (k : Nat) : okI (tgN m) k 1 = okI m k 1 := by
  unfold okI
  rw [tgN_len]
  by_cases q : k < m.length
  · rw [if_pos q, if_pos q, tgN_gK q, rdN_tg]; rfl
  · rw [if_neg q, if_neg q]
theorem aFast_B (f n : Nat) (S : aS) : sB (aFast f n S) f = (sB S f).set n (tgN (nm S f n)) := by obtain ⟨Bs, E, st, d, b, kt, ct, sp, ln, lo, gi⟩ := S; exact updF_s
theorem aFast_nm {f n : Nat} {S : aS} (hn : n < (sB S f).length) : nm (aFast f n S) f n = tgN (nm S f n) := by
  show (sB (aFast f n S) f).getD n [] = _
  rw [aFast_B, setD _ _ _ _ _ hn, if_pos rfl]
section
variable {B : Nat} {S : aS} {T : Option aS} {b : List Nat} {c hv hn bc wl : Nat → Int32} {ho hs ht bs ws : Int32} {f n g l p : Nat}
theorem fas33 (h : IC B S c) (hf : f < 5) (hn' : n < (sB S f).length) : ∃ arr, s_L_fastens_L33 (nI f) (nI n) c gF 0 (fun _ => 0) = some (nI 8, arr) ∧ ∀ k, k < 8 → arr k = okI (nm S f n) k 1 := by
  have key := lp (fun fu (y : Int32 × (Nat → Int32)) => s_L_fastens_L33 (nI f) (nI n) c fu y.1 y.2) 8
    (fun i y => ∃ arr, y = (nI i, arr) ∧ ∀ k, k < i → arr k = okI (nm S f n) k 1) (fun r => ∃ arr, r = (nI 8, arr) ∧ ∀ k, k < 8 → arr k = okI (nm S f n) k 1)
    (fun i hi fu y hy => by
      obtain ⟨arr, rfl, h1⟩ := hy
      have k1 := q_knot h hf hn' hi (w := 1) (by omega)
      refine Or.inl ⟨(nI (i + 1), upd arr i (okI (nm S f n) i 1)), ?_, _, rfl, fun k hk => ?_⟩
      · show s_L_fastens_L33 (nI f) (nI n) c (fu + 1) (nI i) arr = _
        rw [s_L_fastens_L33]
        refine ifF (by simp (disch := omega) only [↓reduceIte, nI_lit, mO_lit, mO_lt, mO_le, mO_gt, mO_ge, mO_ne, mO_ne', nI_add, nI_mul, nI_addlit0, bsome, c_le_f, c_le_t, c_lt_f, c_lt_t, c_eq_f, c_eq_t, if_true, if_false, fld_n, fst_n, not_false_eq_true]) (cal k1 ?_)
        rw [fst_n (by omega) (by omega), ← nI_add i 1]; rfl
      · by_cases e : k = i
        · subst e; rw [upd_s]
        · rw [upd_o e]; exact h1 k (by omega))
    (fun fu y hy => by
      obtain ⟨arr, rfl, h1⟩ := hy
      refine ⟨_, ?_, arr, rfl, h1⟩
      show s_L_fastens_L33 (nI f) (nI n) c (fu + 1) (nI 8) arr = _
      rw [s_L_fastens_L33]
      exact ifT (by decide) rfl) 8 0 gF (nI 0, fun _ => 0) (by omega) (by unfold gF; omega) ⟨_, rfl, fun k hk => absurd hk (Nat.not_lt_zero _)⟩
  obtain ⟨r, k1, arr, rfl, k2⟩ := key
  exact ⟨arr, k1, k2⟩
theorem fas119 {arr : Nat → Int32} {m : aN} (h : IC B S c) (hf : f < 5) (hn' : n < (sB S f).length) (ha : ∀ k, k < 8 → arr k = okI m k 1) (hm : ∀ k, k < 8 → okI (nm S f n) k 1 = okI m k 1) :
    s_L_fastens_L119 (nI f) (nI n) c ho hs hv arr gF 0 = some (.inr (nI 8)) := by
  refine lpN (fun fu (y : Int32) => s_L_fastens_L119 (nI f) (nI n) c ho hs hv arr fu y) 8 (fun i => nI i) _ (by omega) (fun i hi fu => ?_) (fun fu => ?_)
  · have k1 := q_knot h hf hn' hi (w := 1) (by omega)
    rw [hm i hi] at k1
    show s_L_fastens_L119 (nI f) (nI n) c ho hs hv arr (fu + 1) (nI i) = _
    rw [s_L_fastens_L119]
    refine ifF (by simp (disch := omega) only [↓reduceIte, nI_lit, mO_lit, mO_lt, mO_le, mO_gt, mO_ge, mO_ne, mO_ne', nI_add, nI_mul, nI_addlit0, bsome, c_le_f, c_le_t, c_lt_f, c_lt_t, c_eq_f, c_eq_t, if_true, if_false, fld_n, fst_n, not_false_eq_true]) (cal k1 ?_)
    rw [fld_n (by omega) (by omega), ha i hi]
    refine ifT rfl ?_
    rw [← nI_add i 1]; rfl
  · show s_L_fastens_L119 (nI f) (nI n) c ho hs hv arr (fu + 1) (nI 8) = _
    rw [s_L_fastens_L119]
    exact ifT (by decide) rfl
theorem wf_N {S : aS} (h : OKS B S) (hO : OKI S) (hf : f < 5) (hn' : n < (sB S f).length) : wfI S f n = nI 0 ↔ tgC (nm S f n) + cdB S f ≤ sLn S f := by
  have om := h.nam hf hn'
  have h1 := mo_sum om
  have h2 := hO.1.2.1 f hf
  have h3 := (h.2.1 f hf).2.2.1
  have h4 := tgC_le (nm S f n)
  have h5 := om.2.1
  unfold wfI
  rw [h1, left_N h hf h2]
  constructor
  · intro e
    by_cases q : nI (tgC (nm S f n)) ≤ nI (sLn S f - cdB S f)
    · have := le_nI (by omega) (by omega) q
      omega
    · rw [if_neg q] at e; exact absurd e (by decide)
  · intro e
    exact if_pos (nI_le (by omega) (by omega))
theorem fastensT (J : JP B S T b c ho hs ht hv hn bs bc) (hO : OKI S) (hf : f < 5) (hn' : n < (sB S f).length) :
    ∃ c' ho' hs' hv' S', s_L_fastens (nI f) (nI n) c ho hs hv = some (1, c', ho', hs', hv') ∧ JP B S' T b c' ho' hs' ht hv' hn bs bc ∧ OKI S' := by
  have h := J.1
  have om := h.2.nam hf hn'
  have n2 := q_name h hf hn' (w := 2) (by omega)
  have n2 : s_X10_name (nI f) (nI n) 2 c = some (.inl (nI (loN (nm S f n)))) := n2
  have n3 := q_name h hf hn' (w := 3) (by omega)
  rw [gone_eq] at n3
  have n3 : s_X10_name (nI f) (nI n) 3 c = some (.inl (nI (u2 (nm S f n)))) := n3
  have c2 := q_count h (w := 2) (by omega) hs
  have x2 : oaI S 2 = nI (nA S cN) := cord_N h.2
  rw [x2] at c2
  obtain ⟨arr, a1, a2⟩ := fas33 h hf hn'
  have htg := tgC_eq (nm S f n)
  have hl8 := om.2.1
  have hlo := loN_le (nm S f n)
  have esub : nI (loN (nm S f n)) - nI (u2 (nm S f n)) = nI (tgC (nm S f n)) := by rw [nI_sub (by omega)]; congr 1; omega
  have hw := wf_N h.2 hO hf hn'
  by_cases q : wfI S f n = nI 0
  · have hfit := hw.mp q
    obtain ⟨c', ho', hs', hv', g1, J'⟩ := p_fast J hf hn' q
    have h' := J'.1
    have hO' : OKI (aFast f n S) := by
      have := OKM_fast h.2 hO hf hn' hfit
      obtain ⟨Bs, E, st, d, b, kt, ct, sp, ln, lo, gi⟩ := S
      exact this
    have eN := aFast_nm (f := f) hn'
    have hn2 : n < (sB (aFast f n S) f).length := by rw [aFast_B, List.length_set]; exact hn'
    have m2 := q_name h' hf hn2 (w := 2) (by omega)
    have m3 := q_name h' hf hn2 (w := 3) (by omega)
    rw [gone_eq] at m3
    rw [eN] at m2 m3
    have m2 : s_X10_name (nI f) (nI n) 2 c' = some (.inl (nI (loN (tgN (nm S f n))))) := m2
    rw [loN_tg] at m2
    rw [u2_tg] at m3
    have d2 := q_count h' (w := 2) (by omega) hs'
    have y2 : oaI (aFast f n S) 2 = nI (nA S cN) + nI (tgC (nm S f n)) := by
      have e1 : oaI (aFast f n S) 2 = nI (nA (aFast f n S) cN) := cord_N h'.2
      rw [e1, ← hO'.1.1, ← tgI_N om, ← hO.1.1]
      obtain ⟨Bs, E, st, d, b, kt, ct, sp, ln, lo, gi⟩ := S
      rfl
    rw [y2] at d2
    have a3 := fas119 (ho := ho') (hs := hs') (hv := hv') (m := nm S f n) h' hf hn2 a2 (fun k _ => by rw [eN, okI_tg])
    have tf : s_L_tryFast (nI f) (nI n) c ho hs hv = some (nI (tgC (nm S f n)), c', ho', hs', hv') := bindE g1 rfl
    have htl := tgC_le (nm S f n)
    refine ⟨c', ho', hs', hv', aFast f n S, ?_, J', hO'⟩
    unfold s_L_fastens
    exact cal n2 (cal n3 (cal c2 (bindE a1 (bindE tf (ifF (ne_7003 (by omega)) (sumR a3 (ifT esub.symm (cal m2 (ifT rfl (cal m3 (ifT rfl (cal d2 (flT rfl (fz1 rfl))))))))))))))
  · have g1 := p_fastX J hf hn' q
    have tf : s_L_tryFast (nI f) (nI n) c ho hs hv = some (-7003, c, ho, hs, hv) := by
      refine bindE g1 ?_
      rw [fth_r]
      exact ifF (by rw [sIS_IO]; exact id) (ifT rfl rfl)
    have f2 := q_fisher h hf (w := 2) (by omega)
    have eL : ofI S f 2 = nI (sLn S f - cdB S f) := left_N h.2 hf (hO.1.2.1 f hf)
    rw [eL] at f2
    have hnf : ¬ tgC (nm S f n) + cdB S f ≤ sLn S f := fun e => q (hw.mpr e)
    have h2 := hO.1.2.1 f hf
    have htl := tgC_le (nm S f n)
    refine ⟨c, ho, hs, hv, S, ?_, J, hO⟩
    unfold s_L_fastens
    refine cal n2 (cal n3 (cal c2 (bindE a1 (bindE tf (ifT rfl (cal n2 (ifT rfl (cal c2 (ifT rfl (cal f2 (flF ?_ (fz1 rfl))))))))))))
    rw [esub]
    exact nI_ge (by omega) (by omega)
end
