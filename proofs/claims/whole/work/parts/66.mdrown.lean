/-! the model: a name is lost -/
theorem RepM_low {S S' : aS} {s s' : Nat → Int32} (h : RepM S s) (hl : LnS S) (fr : ∀ j, j ≠ 1 → j < 358 → s' j = s j) (h1 : s' 1 = nI (sE S').length)
    (hS : sB S' = sB S ∧ sSt S' = sSt S ∧ sD S' = sD S ∧ sBo S' = sBo S ∧ sKt S' = sKt S ∧ sCt S' = sCt S ∧ sSp S' = sSp S ∧ sLn S' = sLn S ∧ sLo S' = sLo S ∧ sGi S' = sGi S) (h3 : ∀ i, i < (sE S').length → ME s' i (gE (sE S') i)) : RepM S' s' := by
  obtain ⟨g0, g1, g2, g3, g4, g5, g6, g7⟩ := h.1
  obtain ⟨s1, s2, s3, s4, s5, s6, s7, s8, s9, s10⟩ := hS
  have st : ∀ w, stI S' w = stI S w := fun w => by unfold stI; rw [s7]
  refine RepM_mk ⟨by rw [fr _ (by omega) (by omega), s2]; exact g0, h1, by rw [fr _ (by omega) (by omega), s5]; exact g2, by rw [fr _ (by omega) (by omega), s6]; exact g3, by rw [fr _ (by omega) (by omega), s3]; exact g4, by rw [fr _ (by omega) (by omega), s4]; exact g5, by rw [fr _ (by omega) (by omega), st]; exact g6, by rw [fr _ (by omega) (by omega), st]; exact g7⟩ (fun f hf => ?_) h3
  obtain ⟨⟨a0, a1, a2, a3⟩, a4⟩ := h.2.1 f hf
  have hfd := fm_def f
  have h66 := (hl.1 f hf).1
  refine ⟨⟨by rw [fr _ (by omega) (by omega), s8]; exact a0, by rw [fr _ (by omega) (by omega), s1]; exact a1, by rw [fr _ (by omega) (by omega), s9]; exact a2, by rw [fr _ (by omega) (by omega), s10]; exact a3⟩, fun n hn => ?_⟩
  have e : nm S' f n = nm S f n := by unfold nm; rw [s1]
  rw [s1] at hn
  rw [e]
  have := wh_def f n
  exact MN_move (a4 n hn) ((hl.1 f hf).2 n hn).2 (fun j hj => fr _ (by omega) (by omega))
theorem aLose_t (f p : Nat) (Bs : Nat → List aN) (E : List aE) (st d b : Nat) (kt ct : Int32) (sp : Int32 × Int32) (ln : Nat → Nat) (lo gi : Nat → Int32) :
    aLose f p (Bs, E, st, d, b, kt, ct, sp, ln, lo, gi) = (updF Bs f ((Bs f).eraseIdx p), dropE E ++ [(fiL ((Bs f).getD p []), f, nI st)], st, d, b, kt, ct - cdN ((Bs f).getD p []), sp, ln, updF lo f (lo f + 1), gi) := rfl
theorem aLose_c (f p : Nat) (S : aS) : aCut f p (aNum 2 f (sLo S f + 1) 0 (aEnt f p S)) = aLose f p S := by
  obtain ⟨Bs, E, st, d, b, kt, ct, sp, ln, lo, gi⟩ := S
  rfl
theorem dropE_1 {E : List aE} (h : E.length = 12) : dropE (E.drop 1) = dropE E := by
  unfold dropE
  rw [if_pos (by simp [h]), if_neg (by omega)]
theorem aLose_d (f p : Nat) (S : aS) (h : (sE S).length = 12) : aLose f p (setE ((sE S).drop 1) S) = aLose f p S := by
  obtain ⟨Bs, E, st, d, b, kt, ct, sp, ln, lo, gi⟩ := S
  show aLose f p (Bs, E.drop 1, st, d, b, kt, ct, sp, ln, lo, gi) = _
  rw [aLose_t, aLose_t, dropE_1 (E := E) h]
theorem mdrT {B f n : Nat} {S : aS} {s : Nat → Int32} (h : IM B S s) (hf : f < 5) (hn : n < (sB S f).length) (hE : (sE S).length < 12) :
    ∃ s', (fld 406 s 1 fun v2 => (s_X11_whereIs (nI f) (nI n)).bind fun v3 => (s_X11_knots v3 s).bind fun v4 => fst 406 s (358 + (4 * v2)) v4 fun s5 => fst 406 s5 ((358 + (4 * v2)) + 1) (nI f) fun s6 => fld 406 s6 0 fun v7 => fst 406 s6 ((358 + (4 * v2)) + 2) v7 fun s8 => fld 406 s8 (v3 + 1) fun v9 => fst 406 s8 ((358 + (4 * v2)) + 3) v9 fun s10 => fld 406 s10 1 fun v11 => fst 406 s10 1 (v11 + 1) fun s12 => (s_X11_add (nI f) 2 1 s12).bind fun v13 => (s_X11_takeOff (nI f) (nI n) v13).bind fun v14 => some v14.2) = some s' ∧ IM B (aLose f n S) s' := by
  have hv := h.nam hf hn
  obtain ⟨m1, m2, m3, m4⟩ := hv.2.2.1
  have h66 := h.six hf
  have hwd := wh_def f n
  have hfd := fm_def f
  have g0 : s 0 = nI (sSt S) := h.1.1.1
  have g1 : s 1 = nI (sE S).length := h.1.1.2.1
  have hed := em_def (sE S).length
  have e2 : gE (sE S ++ [(fiL (nm S f n), f, nI (sSt S))]) (sE S).length = (fiL (nm S f n), f, nI (sSt S)) := gE_app2
  have hlow : ∀ i, i < (sE S).length → em i + 4 ≤ em (sE S).length := fun i hi => by have := em_def i; omega
  have hI : 358 + 4 * nI (sE S).length = nI (em (sE S).length) := by
    rw [show (358 : Int32) = nI 358 from rfl, show (4 : Int32) = nI 4 from rfl, nI_mul, nI_add]; rfl
  have hR : RepM (aEnt f n S) (upd (upd (upd (upd (upd s (em (sE S).length) (nI (nm S f n).length)) (em (sE S).length + 1) (nI f)) (em (sE S).length + 2) (nI (sSt S))) (em (sE S).length + 3) (nI (pk (fiL (nm S f n))))) 1 (nI ((sE S).length + 1))) := by
    unfold aEnt dropE
    rw [if_pos hE]
    refine RepM_low h.1 h.2.lns (fun j h1 h2 => by rw [upd_o (by omega), upd_o (by omega), upd_o (by omega), upd_o (by omega), upd_o (by omega)]) (by rw [setE_E, upd_s, List.length_append]; rfl) (setE_s _ _) (fun i hi => ?_)
    rw [setE_E] at hi ⊢
    rw [List.length_append] at hi
    have hi : i < (sE S).length + 1 := hi
    by_cases q : i = (sE S).length
    · rw [q, e2]
      refine ⟨?_, ?_, ?_, ?_⟩
      · rw [upd_o (by omega), upd_o (by omega), upd_o (by omega), upd_o (by omega), upd_s]
        show _ = nI (fiL (nm S f n)).length
        rw [fiL_len]
      · rw [upd_o (by omega), upd_o (by omega), upd_o (by omega), upd_s]
      · rw [upd_o (by omega), upd_o (by omega), upd_s]
      · rw [upd_o (by omega), upd_s]
    · have hi' : i < (sE S).length := by omega
      rw [gE_app1 hi']
      have h1 := hlow i hi'
      have h0 := em_def i
      exact ME_move (h.1.2.2 i hi') (fun j hj => by rw [upd_o (by omega), upd_o (by omega), upd_o (by omega), upd_o (by omega), upd_o (by omega)])
  have o1 := OKS_ent h.2 hf hn
  have f2 : upd (upd (upd (upd (upd s (em (sE S).length) (nI (nm S f n).length)) (em (sE S).length + 1) (nI f)) (em (sE S).length + 2) (nI (sSt S))) (em (sE S).length + 3) (nI (pk (fiL (nm S f n))))) 1 (nI ((sE S).length + 1)) (fm f + 2) = sLo S f := by
    have := (hR.2.1 f hf).1.2.2.1
    rw [aEnt_lo] at this; exact this
  have hR2 := mnum (x := sLo S f + 1) (v := 0) (j := 2) hR o1.lns hf (Or.inr (Or.inl rfl))
  have o2 := OKS_num (f := f) (j := 2) (x := sLo S f + 1) (v := 0) o1 (Or.inr (Or.inl rfl))
  have hn2 : n < (sB (aNum 2 f (sLo S f + 1) 0 (aEnt f n S)) f).length := by rw [aNum_B, aEnt_s]; exact hn
  have i2 : IM B (aNum 2 f (sLo S f + 1) 0 (aEnt f n S)) _ := ⟨hR2, o2⟩
  obtain ⟨s', k1, k2⟩ := mcut (B := B) hR2 o2.lns hf (i2.nam hf hn2) hn2
  have o3 := OKS_cut o2 hf hn2
  rw [aLose_c] at k2 o3
  have zk := mkn hv
  refine ⟨s', ?_, k2, o3⟩
  refine fldE (i := 1) rfl (by omega) (by omega) g1 (bindE (whr f n) (bindE zk (fstE (i := em (sE S).length) hI (by omega) (by omega) (fstE (i := em (sE S).length + 1) (by rw [hI]; simp only [nI_lit, nI_add]) (by omega) (by omega) (fldE (i := 0) (v := nI (sSt S)) rfl (by omega) (by omega) (by rw [upd_o (by omega), upd_o (by omega)]; exact g0) ?_)))))
  refine fstE (i := em (sE S).length + 2) (by rw [hI]; simp only [nI_lit, nI_add]) (by omega) (by omega) (fldE (i := wh f n + 1) (v := nI (pk (fiL (nm S f n)))) (by simp only [nI_lit, nI_add]) (by omega) (by omega) (by rw [upd_o (by omega), upd_o (by omega), upd_o (by omega)]; exact m2) ?_)
  refine fstE (i := em (sE S).length + 3) (by rw [hI]; simp only [nI_lit, nI_add]) (by omega) (by omega) (fldE (i := 1) (v := nI (sE S).length) rfl (by omega) (by omega) (by rw [upd_o (by omega), upd_o (by omega), upd_o (by omega), upd_o (by omega)]; exact g1) ?_)
  refine fstE (i := 1) rfl (by omega) (by omega) ?_
  have ze : nI (sE S).length + 1 = nI ((sE S).length + 1) := by simp only [nI_lit, nI_add]
  rw [ze]
  have za : s_X11_add (nI f) 2 1 (upd (upd (upd (upd (upd s (em (sE S).length) (nI (nm S f n).length)) (em (sE S).length + 1) (nI f)) (em (sE S).length + 2) (nI (sSt S))) (em (sE S).length + 3) (nI (pk (fiL (nm S f n))))) 1 (nI ((sE S).length + 1))) = some (upd (upd (upd (upd (upd (upd s (em (sE S).length) (nI (nm S f n).length)) (em (sE S).length + 1) (nI f)) (em (sE S).length + 2) (nI (sSt S))) (em (sE S).length + 3) (nI (pk (fiL (nm S f n))))) 1 (nI ((sE S).length + 1))) (fm f + 2) (sLo S f + 1)) := by
    rw [show (2 : Int32) = nI 2 from rfl, mad hf (by omega), f2]
  exact bindE za (bindE k1 rfl)
theorem mdrL {s : Nat → Int32} : ∃ r : Int32 × (Nat → Int32), s_X11_drown_L15 gF (nI 358) s = some r ∧ (∀ j, 358 ≤ j → j < 402 → r.2 j = s (j + 4)) ∧ ∀ j, j < 358 → r.2 j = s j := by
  have key := lp (fun a (y : Int32 × (Nat → Int32)) => s_X11_drown_L15 a y.1 y.2) 402
    (fun i y => 358 ≤ i ∧ y.1 = nI i ∧ (∀ j, 358 ≤ j → j < i → y.2 j = s (j + 4)) ∧ ∀ j, (j < 358 ∨ i ≤ j) → y.2 j = s j)
    (fun r => (∀ j, 358 ≤ j → j < 402 → r.2 j = s (j + 4)) ∧ ∀ j, j < 358 → r.2 j = s j)
    (fun i hi a y hy => by
      obtain ⟨x, c1⟩ := y
      obtain ⟨y0, y1, y2, y3⟩ := hy
      have y1 : x = nI i := y1
      subst y1
      refine Or.inl ⟨(nI (i + 1), upd c1 i (c1 (i + 4))), ?_, by omega, rfl, fun j h3 h4 => ?_, fun j hj => ?_⟩
      · simp (disch := omega) only [s_X11_drown_L15, ↓reduceIte, nI_lit, mO_lit, mO_lt, mO_le, mO_gt, mO_ge, mO_ne, mO_ne', nI_add, nI_mul, nI_addlit0, bsome, c_le_f, c_le_t, c_lt_f, c_lt_t, c_eq_f, c_eq_t, if_true, if_false, fld_n, fst_n]
      · show upd c1 i (c1 (i + 4)) j = _
        by_cases q : j = i
        · subst q; rw [upd_s]; exact y3 _ (by omega)
        · rw [upd_o q]; exact y2 j h3 (by omega)
      · show upd c1 i (c1 (i + 4)) j = _
        rw [upd_o (by omega)]; exact y3 j (by omega))
    (fun a y hy => by
      obtain ⟨x, c1⟩ := y
      obtain ⟨y0, y1, y2, y3⟩ := hy
      have y1 : x = nI 402 := y1
      subst y1
      exact ⟨(nI 402, c1), by simp (disch := omega) only [s_X11_drown_L15, ↓reduceIte, nI_lit, mO_lit, mO_lt, mO_le, mO_gt, mO_ge, mO_ne, mO_ne', nI_add, nI_mul, nI_addlit0, bsome, c_le_f, c_le_t, c_lt_f, c_lt_t, c_eq_f, c_eq_t, if_true, if_false, fld_n, fst_n], y2, fun j hj => y3 j (Or.inl hj)⟩)
    44 358 gF (nI 358, s) (by omega) (by unfold gF; omega) ⟨Nat.le_refl _, rfl, fun j h3 h4 => by omega, fun j _ => rfl⟩
  exact key
theorem mdrown {B f n : Nat} {S : aS} {s : Nat → Int32} (h : IM B S s) (hf : f < 5) (hn : n < (sB S f).length) :
    ∃ s', s_X11_drown (nI f) (nI n) s = some s' ∧ IM B (aLose f n S) s' := by
  have hE := h.2.2.2.1
  have g1 : s 1 = nI (sE S).length := h.1.1.2.1
  unfold s_X11_drown
  rw [show (1 : Int32) = nI 1 from rfl, fld_n (by omega) (by omega), g1]
  by_cases q : (sE S).length < 12
  · rw [if_neg (by rw [show (12 : Int32) = nI 12 from rfl, c_eq_f (by omega) (by omega) (by omega)]; exact id)]
    exact mdrT h hf hn q
  · have hN : (sE S).length = 12 := by omega
    rw [hN, if_pos (show nI 12 = 12 from rfl)]
    obtain ⟨⟨r1, s1⟩, k1, k2, k3⟩ := mdrL (s := s)
    have k2 : ∀ j, 358 ≤ j → j < 402 → s1 j = s (j + 4) := k2
    have k3 : ∀ j, j < 358 → s1 j = s j := k3
    have q1 : s1 1 = nI 12 := by rw [k3 _ (by omega), g1, hN]
    have hR : RepM (setE ((sE S).drop 1) S) (upd s1 1 (nI 11)) := by
      refine RepM_low h.1 h.2.lns (fun j h1 h2 => by rw [upd_o h1, k3 _ h2]) (by rw [setE_E, upd_s]; simp [hN]) (setE_s _ _) (fun i hi => ?_)
      rw [setE_E] at hi ⊢
      simp only [List.length_drop] at hi
      rw [drop1_gE]
      have h1 := em_def i
      have h2 := em_def (i + 1)
      exact ME_move (h.1.2.2 (i + 1) (by omega)) (fun j hj => by
        rw [upd_o (by omega), k2 _ (by omega) (by omega)]; exact congrArg s (by omega))
    obtain ⟨t1, t2, t3, t4, t5, t6, t7, t8, t9, t10⟩ := setE_s ((sE S).drop 1) S
    have hnm : ∀ g i, nm (setE ((sE S).drop 1) S) g i = nm S g i := fun g i => by unfold nm; rw [t1]
    have hO : OKS B (setE ((sE S).drop 1) S) := by
      refine ⟨by rw [t2, t3, t4]; exact h.2.1, fun g hg => ⟨by rw [t1]; exact (h.2.2.1 g hg).1, by rw [t8]; exact (h.2.2.1 g hg).2.1, by rw [t8]; exact (h.2.2.1 g hg).2.2.1, fun i hi => ?_⟩, ?_, fun i hi => ?_⟩
      · rw [t1] at hi; rw [hnm]; exact (h.2.2.1 g hg).2.2.2 i hi
      · rw [setE_E]; simp; omega
      · rw [setE_E] at hi ⊢
        simp only [List.length_drop] at hi
        rw [drop1_gE]; exact h.2.2.2.2 (i + 1) (by omega)
    obtain ⟨s', h1, h2⟩ := mdrT (B := B) ⟨hR, hO⟩ hf (by rw [t1]; exact hn) (by rw [setE_E]; simp; omega)
    rw [aLose_d _ _ _ hN] at h2
    refine ⟨s', bindE k1 (fldE (i := 1) rfl (by omega) (by omega) q1 (fstE (i := 1) rfl (by omega) (by omega) ?_)), h2⟩
    rw [show nI 12 - nI 1 = nI 11 from rfl]
    exact h1
