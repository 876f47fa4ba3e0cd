/-! the model: tying, giving -/
theorem fiL_tie : ∀ (w : List Nat), fiL (tieN w) = w
  | [] => rfl
  | x :: r => congrArg (fun l => x :: l) (fiL_tie r)
theorem ltL_tie : ∀ (w : List Nat), ltL (tieN w) = w
  | [] => rfl
  | x :: r => congrArg (fun l => x :: l) (ltL_tie r)
theorem cdN_tie (w : List Nat) : cdN (tieN w) = cdW w := by rw [← cdW_ltL, ltL_tie]
theorem OKN_tie {B : Nat} {w : List Nat} (h : OKW w) : OKN B (tieN w) := by
  refine ⟨by rw [tieN_len]; exact h.1, by rw [tieN_len]; exact h.2.1, fun k hk => ?_⟩
  rw [tieN_len] at hk
  rw [tieN_gK w hk]
  exact ⟨h.2.2 k hk, Nat.zero_le _, h.2.2 k hk, fun h0 => absurd h0 (Nat.lt_irrefl 0)⟩
theorem mtieL {p : Nat} (s : Nat → Int32) (hp : p + 11 ≤ 406) : ∃ r : Int32 × (Nat → Int32), s_X11_doTie_L53 (nI p) gF (nI 0) s = some r ∧ (∀ k, k < 8 → r.2 (p + 3 + k) = nI 0) ∧ ∀ j, (j < p + 3 ∨ p + 11 ≤ j) → r.2 j = s j := by
  have key := lp (fun a (y : Int32 × (Nat → Int32)) => s_X11_doTie_L53 (nI p) a y.1 y.2) 8
    (fun i y => y.1 = nI i ∧ (∀ k, k < i → y.2 (p + 3 + k) = nI 0) ∧ ∀ j, (j < p + 3 ∨ p + 11 ≤ j) → y.2 j = s j)
    (fun r => (∀ k, k < 8 → r.2 (p + 3 + k) = nI 0) ∧ ∀ j, (j < p + 3 ∨ p + 11 ≤ j) → r.2 j = s j)
    (fun i hi a y hy => by
      obtain ⟨x, c1⟩ := y
      obtain ⟨y1, y2, y3⟩ := hy
      have y1 : x = nI i := y1
      subst y1
      refine Or.inl ⟨(nI (i + 1), upd c1 (p + 3 + i) (nI 0)), ?_, rfl, fun k hk => ?_, fun j hj => ?_⟩
      · simp (disch := omega) only [s_X11_doTie_L53, ↓reduceIte, nI_lit, mO_lit, mO_lt, mO_le, mO_gt, mO_ge, mO_ne, mO_ne', nI_add, nI_mul, nI_addlit0, bsome, c_le_f, c_le_t, c_lt_f, c_lt_t, c_eq_f, c_eq_t, if_true, if_false, fld_n, fst_n]
      · show upd c1 (p + 3 + i) (nI 0) (p + 3 + k) = _
        by_cases q : k = i
        · subst q; rw [upd_s]
        · rw [upd_o (by omega)]; exact y2 k (by omega)
      · show upd c1 (p + 3 + i) (nI 0) j = _
        rw [upd_o (by omega)]; exact y3 j hj)
    (fun a y hy => by
      obtain ⟨x, c1⟩ := y
      obtain ⟨y1, y2, y3⟩ := hy
      have y1 : x = nI 8 := y1
      subst y1
      exact ⟨(nI 8, c1), by simp (disch := omega) only [s_X11_doTie_L53, ↓reduceIte, nI_lit, mO_lit, mO_lt, mO_le, mO_gt, mO_ge, mO_ne, mO_ne', nI_add, nI_mul, nI_addlit0, bsome, c_le_f, c_le_t, c_lt_f, c_lt_t, c_eq_f, c_eq_t, if_true, if_false, fld_n, fst_n], y2, y3⟩)
    8 0 gF (nI 0, s) (by omega) (by unfold gF; omega) ⟨rfl, fun k hk => by omega, fun j _ => rfl⟩
  exact key
theorem mtie {f : Nat} {S : aS} {s : Nat → Int32} {w : List Nat} (h : RepM S s) (hl : LnS S) (hf : f < 5) (h6 : (sB S f).length < 6) (hw : OKW w) :
    ∃ s', s_X11_doTie (nI f) (nI (pk w)) (nI w.length) s = some (nI (sB S f).length, s') ∧ RepM (aTie f w S) s' := by
  obtain ⟨⟨g0, g1, g2, g3, g4, g5, g6, g7⟩, hF, hEn⟩ := id h
  obtain ⟨Bs, E, st, d, b, kt, ct, sp, ln, lo, gi⟩ := S
  have g2 : s 2 = kt := g2
  have g3 : s 3 = ct := g3
  generalize hN : (sB (Bs, E, st, d, b, kt, ct, sp, ln, lo, gi) f).length = N at *
  have hN : (Bs f).length = N := hN
  have hfd := fm_def f
  have hwd := wh_def f N
  have hw0 := wh_def f 0
  have hw6 := wh_def f 6
  obtain ⟨⟨a0, a1, a2, a3⟩, a4⟩ := hF f hf
  have a1 : s (fm f + 1) = nI N := by rw [← hN]; exact a1
  have hw8 := hw.2.1
  generalize hW : wh f N = W at *
  obtain ⟨⟨r1, s4⟩, k1, k2, k3⟩ := mtieL (p := W) (upd (upd (upd s W (nI w.length)) (W + 1) (nI (pk w))) (W + 2) (nI (pk w))) (by omega)
  have k2 : ∀ k, k < 8 → s4 (W + 3 + k) = nI 0 := k2
  have k3 : ∀ j, (j < W + 3 ∨ W + 11 ≤ j) → s4 j = upd (upd (upd s W (nI w.length)) (W + 1) (nI (pk w))) (W + 2) (nI (pk w)) j := k3
  have fr4 : ∀ j, (j < W ∨ W + 11 ≤ j) → s4 j = s j := fun j hj => by rw [k3 _ (by omega), upd_o (by omega), upd_o (by omega), upd_o (by omega)]
  have v0 : s4 W = nI w.length := by rw [k3 _ (by omega), upd_o (by omega), upd_o (by omega), upd_s]
  have v1 : s4 (W + 1) = nI (pk w) := by rw [k3 _ (by omega), upd_o (by omega), upd_s]
  have v2 : s4 (W + 2) = nI (pk w) := by rw [k3 _ (by omega), upd_s]
  have q2 : s4 2 = kt := by rw [fr4 _ (by omega), g2]
  have q3 : s4 3 = ct := by rw [fr4 _ (by omega), g3]
  have q1 : s4 (fm f + 1) = nI N := by rw [fr4 _ (by omega), a1]
  have hMN : ∀ s5 : Nat → Int32, (∀ j, W ≤ j → j < W + 11 → s5 j = s4 j) → MN s5 W (tieN w) := fun s5 h5 => by
    refine ⟨by rw [h5 _ (by omega) (by omega), tieN_len, v0], by rw [h5 _ (by omega) (by omega), fiL_tie, v1], by rw [h5 _ (by omega) (by omega), ltL_tie, v2], fun k hk => ?_⟩
    rw [tieN_len] at hk
    rw [h5 _ (by omega) (by omega), k2 k (by omega), tieN_gK w hk]
  have hcd : s_X11_cordOf (nI W) (upd s4 2 (kt + nI w.length)) = some (cdW w) := by
    have := mcd (B := 0) (w := W) (m := tieN w) (s := upd s4 2 (kt + nI w.length)) ⟨by omega, by omega, hMN _ (fun j h1 h2 => upd_o (by omega)), OKN_tie hw⟩
    rw [cdN_tie] at this; exact this
  refine ⟨upd (upd (upd s4 2 (kt + nI w.length)) 3 (ct + cdW w)) (fm f + 1) (nI (N + 1)), ?_, ?_⟩
  · have zo : s_X11_of (nI f) 1 s = some (nI N) := by rw [show (1 : Int32) = nI 1 from rfl, mofc hf (by omega), a1]
    have zw : s_X11_whereIs (nI f) (nI N) = some (nI W) := by rw [whr, hW]
    have zh := whL hw
    have za : s_X11_add (nI f) 1 1 (upd (upd s4 2 (kt + nI w.length)) 3 (ct + cdW w)) = some (upd (upd (upd s4 2 (kt + nI w.length)) 3 (ct + cdW w)) (fm f + 1) (nI (N + 1))) := by
      rw [show (1 : Int32) = nI 1 from rfl, mad hf (by omega), upd_o (by omega), upd_o (by omega), q1, nI_add]
    have zo2 : s_X11_of (nI f) 1 (upd (upd (upd s4 2 (kt + nI w.length)) 3 (ct + cdW w)) (fm f + 1) (nI (N + 1))) = some (nI (N + 1)) := by
      rw [show (1 : Int32) = nI 1 from rfl, mofc hf (by omega), upd_s]
    refine bindE zo (bindE zw (fstE (i := W) (by simp only [nI_lit, nI_addlit0]) (by omega) (by omega) (bindE zh (fstE (i := W + 1) (by simp only [nI_lit, nI_add]) (by omega) (by omega) (bindE zh (fstE (i := W + 2) (by simp only [nI_lit, nI_add]) (by omega) (by omega) (bindE k1 ?_)))))))
    refine fldE (i := 2) rfl (by omega) (by omega) q2 (fstE (i := 2) rfl (by omega) (by omega) (fldE (i := 3) rfl (by omega) (by omega) ((upd_o (by omega)).trans q3) (bindE hcd (fstE (i := 3) rfl (by omega) (by omega) (bindE za (bindE zo2 ?_))))))
    rw [show (1 : Int32) = nI 1 from rfl, nI_sub (by omega)]
    rfl
  · have u2' : upd (upd (upd s4 2 (kt + nI w.length)) 3 (ct + cdW w)) (fm f + 1) (nI (N + 1)) 2 = kt + nI w.length := by rw [upd_o (by omega), upd_o (by omega), upd_s]
    have u3' : upd (upd (upd s4 2 (kt + nI w.length)) 3 (ct + cdW w)) (fm f + 1) (nI (N + 1)) 3 = ct + cdW w := by rw [upd_o (by omega), upd_s]
    have u1' : upd (upd (upd s4 2 (kt + nI w.length)) 3 (ct + cdW w)) (fm f + 1) (nI (N + 1)) (fm f + 1) = nI (N + 1) := upd_s
    have fr5 : ∀ j, j ≠ 2 → j ≠ 3 → j ≠ fm f + 1 → upd (upd (upd s4 2 (kt + nI w.length)) 3 (ct + cdW w)) (fm f + 1) (nI (N + 1)) j = s4 j := fun j h1 h2 h3 => by rw [upd_o h3, upd_o h2, upd_o h1]
    generalize upd (upd (upd s4 2 (kt + nI w.length)) 3 (ct + cdW w)) (fm f + 1) (nI (N + 1)) = s' at *
    have fr : ∀ j, j ≠ 2 → j ≠ 3 → j ≠ fm f + 1 → (j < W ∨ W + 11 ≤ j) → s' j = s j := fun j h1 h2 h3 h4 => by rw [fr5 _ h1 h2 h3, fr4 _ h4]
    refine RepM_blk h hl hf rfl ⟨?_, ?_, u2', u3', ?_, ?_, ?_, ?_⟩ (fun j h8 hj1 hj2 => fr _ (by omega) (by omega) (by omega) (by omega)) (fun g hg => ⟨updF_o hg, rfl, rfl, rfl⟩) ⟨⟨?_, ?_, ?_, ?_⟩, fun i hi => ?_⟩
    · rw [fr _ (by omega) (by omega) (by omega) (by omega)]; exact g0
    · rw [fr _ (by omega) (by omega) (by omega) (by omega)]; exact g1
    · rw [fr _ (by omega) (by omega) (by omega) (by omega)]; exact g4
    · rw [fr _ (by omega) (by omega) (by omega) (by omega)]; exact g5
    · rw [fr _ (by omega) (by omega) (by omega) (by omega)]; exact g6
    · rw [fr _ (by omega) (by omega) (by omega) (by omega)]; exact g7
    · rw [fr _ (by omega) (by omega) (by omega) (by omega)]; exact a0
    · rw [u1']
      show _ = nI (updF Bs f (Bs f ++ [tieN w]) f).length
      rw [updF_s]; simp [hN]
    · rw [fr _ (by omega) (by omega) (by omega) (by omega)]; exact a2
    · rw [fr _ (by omega) (by omega) (by omega) (by omega)]; exact a3
    · have hi : i < (updF Bs f (Bs f ++ [tieN w]) f).length := hi
      show MN s' (wh f i) ((updF Bs f (Bs f ++ [tieN w]) f).getD i [])
      rw [updF_s] at hi ⊢
      simp only [List.length_append, List.length_cons, List.length_nil] at hi
      have hni := wh_def f i
      by_cases q : i = N
      · subst q
        have e3 : (Bs f ++ [tieN w]).getD i [] = tieN w := by rw [← hN]; exact getD_app2
        rw [e3, hW]
        exact hMN _ (fun j h1 h2 => fr5 _ (by omega) (by omega) (by omega))
      · have e3 : (Bs f ++ [tieN w]).getD i [] = (Bs f).getD i [] := getD_app1 (by omega)
        rw [e3]
        have hm8 : ((Bs f).getD i []).length ≤ 8 := ((hl.1 f hf).2 i (by show i < (Bs f).length; omega)).2
        exact MN_move (a4 i (by show i < (Bs f).length; omega)) hm8 (fun j hj => fr _ (by omega) (by omega) (by omega) (by omega))
/-- giving -/
theorem mgive {B f n g : Nat} {S : aS} {s : Nat → Int32} (h : IM B S s) (hf : f < 5) (hn : n < (sB S f).length) (hg : g < 5) (hgf : f ≠ g) (h6 : (sB S g).length < 6) (hu : urB (nm S f n) = false) :
    ∃ s', s_X11_doGive (nI f) (nI n) (nI g) s = some (nI (sB S g).length, s') ∧ IM B (aGive f n g S) s' := by
  have hv := h.nam hf hn
  have hok := rdL_ok hv.2.2.2 hu
  have hlen : (rdL (nm S f n)).length = (nm S f n).length := by unfold rdL; simp
  obtain ⟨s1, h1, h2⟩ := mcut (B := B) h.1 h.2.lns hf hv hn
  have o1 := OKS_cut h.2 hf hn
  have g3 : s1 (fm f + 3) = sGi S f := by
    have := (h2.2.1 f hf).1.2.2.2
    rw [aCut_gi] at this; exact this
  have z3 : s_X11_add (nI f) 3 1 s1 = some (upd s1 (fm f + 3) (sGi S f + 1)) := by rw [show (3 : Int32) = nI 3 from rfl, mad hf (by omega), g3]
  have r2 := mnum (x := sGi S f + 1) (v := 0) (j := 3) h2 o1.lns hf (Or.inr (Or.inr rfl))
  have o2 := OKS_num (f := f) (j := 3) (x := sGi S f + 1) (v := 0) o1 (Or.inr (Or.inr rfl))
  have eB : sB (aNum 3 f (sGi S f + 1) 0 (aCut f n S)) g = sB S g := by rw [aNum_B, aCut_B f n g S (fun e => hgf e.symm)]
  obtain ⟨s', h3, h4⟩ := mtie (f := g) r2 o2.lns hg (by rw [eB]; exact h6) hok
  rw [eB, hlen] at h3
  exact ⟨s', bindE (whr f n) (bindE (mrl hv hu) (bindE (mkn hv) (bindE h1 (bindE z3 (bindE h3 rfl))))), h4, OKS_tie o2 hg (by rw [eB]; exact h6) hok⟩
