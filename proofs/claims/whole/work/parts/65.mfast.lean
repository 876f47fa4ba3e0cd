/-! the model: tightening -/
theorem mnam {f n : Nat} {m : aN} {x : Int32} {S : aS} {s s' : Nat → Int32} (h : RepM S s) (hl : LnS S) (hf : f < 5) (hn : n < (sB S f).length) (h3 : s' 3 = x) (hm : MN s' (wh f n) m)
    (fr : ∀ j, j ≠ 3 → (j < wh f n ∨ wh f n + 11 ≤ j) → s' j = s j) : RepM (aNam f n m x S) s' := by
  have h66 := (hl.1 f hf).1
  have hw := wh_def f n
  have hw0 := wh_def f 0
  have hw6 := wh_def f 6
  have hfd := fm_def f
  obtain ⟨⟨a0, a1, a2, a3⟩, a4⟩ := h.2.1 f hf
  obtain ⟨g0, g1, g2, g3, g4, g5, g6, g7⟩ := h.1
  obtain ⟨Bs, E, st, d, b, kt, ct, sp, ln, lo, gi⟩ := S
  have hn : n < (Bs f).length := hn
  have h66 : (Bs f).length ≤ 6 := h66
  refine RepM_blk h hl hf rfl ⟨?_, ?_, ?_, h3, ?_, ?_, ?_, ?_⟩ (fun j h8 hj hj2 => by rw [fr _ (by omega) (by omega)]) (fun g hg => ⟨updF_o hg, rfl, rfl, rfl⟩) ⟨⟨?_, ?_, ?_, ?_⟩, fun i hi => ?_⟩
  · rw [fr _ (by omega) (by omega)]; exact g0
  · rw [fr _ (by omega) (by omega)]; exact g1
  · rw [fr _ (by omega) (by omega)]; exact g2
  · rw [fr _ (by omega) (by omega)]; exact g4
  · rw [fr _ (by omega) (by omega)]; exact g5
  · rw [fr _ (by omega) (by omega)]; exact g6
  · rw [fr _ (by omega) (by omega)]; exact g7
  · rw [fr _ (by omega) (by omega)]; exact a0
  · rw [fr _ (by omega) (by omega), a1]
    show nI (Bs f).length = nI (updF Bs f ((Bs f).set n m) f).length
    rw [updF_s, List.length_set]
  · rw [fr _ (by omega) (by omega)]; exact a2
  · rw [fr _ (by omega) (by omega)]; exact a3
  · have hi : i < (updF Bs f ((Bs f).set n m) f).length := hi
    rw [updF_s, List.length_set] at hi
    show MN s' (wh f i) ((updF Bs f ((Bs f).set n m) f).getD i [])
    rw [updF_s, setD _ _ _ _ _ hn]
    have hni := wh_def f i
    by_cases q : i = n
    · rw [if_pos q, q]; exact hm
    · rw [if_neg q]
      exact MN_move (a4 i hi) ((hl.1 f hf).2 i hi).2 (fun j hj => fr _ (by omega) (by omega))
theorem ext0 {a b : List Nat} (hl : a.length = b.length) (h : ∀ k, k < b.length → a.getD k 0 = b.getD k 0) : a = b := by
  apply List.ext_getElem hl
  intro i h1 h2
  have := h i h2
  simpa [List.getD_eq_getElem?_getD, List.getElem?_eq_getElem h1, List.getElem?_eq_getElem h2] using this
theorem pk_step : ∀ (l l' : List Nat) (i d : Nat), l'.length = l.length → i < l.length → (∀ k, k < l.length → k ≠ i → l'.getD k 0 = l.getD k 0) → l'.getD i 0 = l.getD i 0 + d → pk l' = pk l + d * 16 ^ i := by
  intro l
  induction l with
  | nil => intro l' i d _ h; exact absurd h (Nat.not_lt_zero i)
  | cons x r ih =>
    intro l' i d hl hi h1 h2
    cases l' with
    | nil => cases hl
    | cons y r' =>
      have hl' : r'.length = r.length := by simpa using hl
      cases i with
      | zero =>
        have e1 : y = x + d := h2
        have e2 : r' = r := ext0 hl' (fun k hk => h1 (k + 1) (by simp; omega) (by omega))
        show y + 16 * pk r' = x + 16 * pk r + d * 16 ^ 0
        rw [e2, Nat.pow_zero]; omega
      | succ i =>
        have e1 : y = x := h1 0 (by simp) (by omega)
        have e2 := ih r' i d hl' (by simp at hi; omega) (fun k hk hne => h1 (k + 1) (by simp; omega) (by omega)) h2
        show y + 16 * pk r' = x + 16 * pk r + d * 16 ^ (i + 1)
        rw [e1, e2, Nat.pow_succ, Nat.mul_add, Nat.add_assoc, ← Nat.mul_assoc d, Nat.mul_comm 16 (d * 16 ^ i)]
theorem shl16 : ∀ n, n < 8 → nI 1 <<< (nI (4 * n) &&& nI 31) = nI (16 ^ n) := by decide +kernel
def tgP (m : aN) (i : Nat) : aN := ixM m (fun k x => if k < i then tgK x else x)
theorem tgP_len (m : aN) (i : Nat) : (tgP m i).length = m.length := ixM_len m _
theorem tgP_gK (m : aN) (i : Nat) {k : Nat} (h : k < m.length) : gK (tgP m i) k = if k < i then tgK (gK m k) else gK m k := ixM_gK m _ h
theorem tgP_0 (m : aN) : ltL (tgP m 0) = ltL m := ext0 (by rw [ltL_len, ltL_len, tgP_len]) (fun k hk => by
  rw [ltL_len] at hk
  rw [ltL_getD _ (by rw [tgP_len]; exact hk), ltL_getD _ hk, tgP_gK _ _ hk, if_neg (Nat.not_lt_zero k)])
theorem tgP_fi (m : aN) (i : Nat) : fiL (tgP m i) = fiL m := ext0 (by rw [fiL_len, fiL_len, tgP_len]) (fun k hk => by
  rw [fiL_len] at hk
  rw [fiL_getD _ (by rw [tgP_len]; exact hk), fiL_getD _ hk, tgP_gK _ _ hk]
  by_cases q : k < i
  · rw [if_pos q]
    unfold tgK
    by_cases q2 : (gK m k).2.1 = 1
    · rw [if_pos q2]
    · rw [if_neg q2]
  · rw [if_neg q])
theorem tgP_all (m : aN) : tgP m m.length = tgN m := by
  unfold tgP tgN ixM
  apply List.map_congr_left
  intro k hk
  exact if_pos (List.mem_range.mp hk)
theorem rd1 {x : aK} (h : x.2.1 = 1) : rdN x = x.1 + 1 := by unfold rdN; rw [if_neg (by omega), if_pos h]
theorem tgP_pk {m : aN} {i : Nat} (hi : i < m.length) (h1 : (gK m i).2.1 = 1) : pk (ltL (tgP m (i + 1))) = pk (ltL (tgP m i)) + 16 ^ i := by
  have := pk_step (ltL (tgP m i)) (ltL (tgP m (i + 1))) i 1 (by rw [ltL_len, ltL_len, tgP_len, tgP_len]) (by rw [ltL_len, tgP_len]; exact hi) (fun k hk hne => by
    rw [ltL_len, tgP_len] at hk
    rw [ltL_getD _ (by rw [tgP_len]; exact hk), ltL_getD _ (by rw [tgP_len]; exact hk), tgP_gK _ _ hk, tgP_gK _ _ hk]
    by_cases q : k < i
    · rw [if_pos (by omega), if_pos q]
    · rw [if_neg (by omega), if_neg q]) (by
    rw [ltL_getD _ (by rw [tgP_len]; exact hi), ltL_getD _ (by rw [tgP_len]; exact hi), tgP_gK _ _ hi, tgP_gK _ _ hi, if_pos (by omega), if_neg (by omega)]
    unfold tgK
    rw [if_pos h1]
    exact rd1 h1)
  rw [this, Nat.one_mul]
theorem tgP_same {m : aN} {i : Nat} (h1 : (gK m i).2.1 ≠ 1) {k : Nat} (hk : k < m.length) : gK (tgP m (i + 1)) k = gK (tgP m i) k := by
  rw [tgP_gK _ _ hk, tgP_gK _ _ hk]
  by_cases e : k = i
  · subst e
    rw [if_pos (by omega), if_neg (by omega)]
    unfold tgK; rw [if_neg h1]
  · by_cases q : k < i
    · rw [if_pos (by omega), if_pos q]
    · rw [if_neg (by omega), if_neg q]
theorem vow16 {l : Nat} (h : vow l = true) : l + 1 < 16 := by
  unfold vow at h
  simp only [Bool.or_eq_true, beq_iff_eq] at h
  omega
theorem OKK_tg {B : Nat} {x : aK} (h : OKK B x) : OKK B (tgK x) := by
  unfold tgK
  by_cases q : x.2.1 = 1
  · rw [if_pos q]
    refine ⟨?_, Nat.zero_le _, h.2.2.1, fun c => absurd c (Nat.lt_irrefl 0)⟩
    show rdN x < 16
    rw [rd1 q]; exact vow16 (h.2.2.2 (by omega))
  · rw [if_neg q]; exact h
theorem OKN_tgP {B : Nat} {m : aN} (h : OKN B m) (i : Nat) : OKN B (tgP m i) := by
  refine ⟨by rw [tgP_len]; exact h.1, by rw [tgP_len]; exact h.2.1, fun k hk => ?_⟩
  rw [tgP_len] at hk
  rw [tgP_gK _ _ hk]
  by_cases q : k < i
  · rw [if_pos q]; exact OKK_tg (h.2.2 k hk)
  · rw [if_neg q]; exact h.2.2 k hk
theorem sN_add (N : Nat) (f g : Nat → Nat) : sN N (fun i => f i + g i) = sN N f + sN N g := by
  induction N with
  | zero => rfl
  | succ n ih => show sN n _ + (f n + g n) = (sN n f + f n) + (sN n g + g n); rw [ih]; omega
theorem tgC_lm (m : aN) : lmN m 1 = lmN m 2 + tgC m := by
  unfold lmN tgC
  rw [← sN_add]
  refine sN_congr fun k _ => ?_
  by_cases q1 : 1 ≤ (gK m k).2.1
  · by_cases q2 : 2 ≤ (gK m k).2.1
    · rw [decide_eq_true q1, decide_eq_true q2, decide_eq_false (by omega)]; rfl
    · rw [decide_eq_true q1, decide_eq_false q2, decide_eq_true (by omega)]; rfl
  · rw [decide_eq_false q1, decide_eq_false (by omega), decide_eq_false (by omega)]; rfl
theorem cdN_tg {B : Nat} {m : aN} (h : OKN B m) : cdN (tgN m) = cdN m + tgI m := by
  unfold cdN tgI
  have e : (tgN m).length = m.length := ixM_len m _
  rw [e, Int32.add_assoc, ← sI_add]
  congr 1
  refine sI_congr fun k hk => ?_
  rw [show gK (tgN m) k = tgK (gK m k) from ixM_gK m _ hk]
  by_cases q : (gK m k).2.1 = 1
  · rw [if_pos q, moI_0 (h.2.2 k hk), if_pos q]
    have e2 : (tgK (gK m k)).1 = rdN (gK m k) := by unfold tgK; rw [if_pos q]
    rw [e2]; grind
  · rw [if_neg q]
    have e2 : tgK (gK m k) = gK m k := by unfold tgK; rw [if_neg q]
    rw [e2, Int32.add_zero]
theorem mfast {B f n : Nat} {S : aS} {s : Nat → Int32} (h : IM B S s) (hf : f < 5) (hn : n < (sB S f).length) :
    ∃ s', s_X11_doFast (nI f) (nI n) s = some (nI (tgC (nm S f n)), s') ∧ IM B (aFast f n S) s' := by
  have hv := h.nam hf hn
  obtain ⟨hw, hB, hMN, hm⟩ := id hv
  have hl8 := hm.2.1
  have hlm := lm_le (t := 1) hm
  have htg := tgC_lm (nm S f n)
  have hwd := wh_def f n
  have hfd := fm_def f
  have g3 : s 3 = sCt S := h.1.1.2.2.2.1
  generalize hmm : nm S f n = m at *
  generalize hW : wh f n = W at *
  obtain ⟨m1, m2, m3, m4⟩ := hMN
  have key := lp (fun a (y : Int32 × (Nat → Int32)) => s_X11_doFast_L31 (nI W) a y.1 y.2) m.length
    (fun i y => y.1 = nI i ∧ MN y.2 W (tgP m i) ∧ ∀ j, (j < W ∨ W + 11 ≤ j) → y.2 j = upd s 3 (sCt S - cdN m) j)
    (fun r => MN r.2 W (tgN m) ∧ ∀ j, (j < W ∨ W + 11 ≤ j) → r.2 j = upd s 3 (sCt S - cdN m) j)
    (fun i hi a y hy => by
      obtain ⟨x, c1⟩ := y
      obtain ⟨y1, y2, y3⟩ := hy
      have y1 : x = nI i := y1
      subst y1
      obtain ⟨b1, b2, b3, b4⟩ := id y2
      have b1 : c1 W = _ := b1
      have b3 : c1 (W + 2) = _ := b3
      have hk : s_X11_knots (nI W) c1 = some (nI m.length) := by
        simp (disch := omega) only [s_X11_knots, ↓reduceIte, nI_lit, mO_lit, mO_lt, mO_le, mO_gt, mO_ge, mO_ne, mO_ne', nI_add, nI_mul, nI_addlit0, bsome, c_le_f, c_le_t, c_lt_f, c_lt_t, c_eq_f, c_eq_t, if_true, if_false, fld_n, fst_n, b1, tgP_len]
      have b5 : c1 (W + 3 + i) = nI (gK m i).2.1 := by
        have := b4 i (by rw [tgP_len]; exact hi)
        rw [tgP_gK _ _ hi, if_neg (Nat.lt_irrefl i)] at this; exact this
      have ho := (hm.2.2 i hi).2.1
      by_cases q : (gK m i).2.1 = 1
      · refine Or.inl ⟨(nI (i + 1), upd (upd c1 (W + 2) (nI (pk (ltL (tgP m (i + 1)))))) (W + 3 + i) (nI 0)), ?_, rfl, ⟨?_, ?_, ?_, fun k hk => ?_⟩, fun j hj => ?_⟩
        · rw [tgP_pk hi q]
          simp (disch := omega) only [s_X11_doFast_L31, hk, ↓reduceIte, nI_lit, mO_lit, mO_lt, mO_le, mO_gt, mO_ge, mO_ne, mO_ne', nI_add, nI_mul, nI_addlit0, bsome, c_le_f, c_le_t, c_lt_f, c_lt_t, c_eq_f, c_eq_t, if_true, if_false, fld_n, fst_n, b5, q, b3, shl16]
        · show upd (upd c1 _ _) _ _ W = _
          rw [upd_o (by omega), upd_o (by omega), b1, tgP_len, tgP_len]
        · show upd (upd c1 _ _) _ _ (W + 1) = _
          rw [upd_o (by omega), upd_o (by omega), tgP_fi]
          have := b2; rw [tgP_fi] at this; exact this
        · show upd (upd c1 _ _) _ _ (W + 2) = _
          rw [upd_o (by omega), upd_s]
        · rw [tgP_len] at hk
          show upd (upd c1 _ _) _ _ (W + 3 + k) = _
          rw [tgP_gK _ _ hk]
          by_cases e : k = i
          · subst e
            rw [upd_s, if_pos (by omega)]
            unfold tgK; rw [if_pos q]
          · have := b4 k (by rw [tgP_len]; exact hk)
            rw [tgP_gK _ _ hk] at this
            rw [upd_o (by omega), upd_o (by omega)]
            refine Eq.trans this ?_
            by_cases q2 : k < i
            · rw [if_pos q2, if_pos (by omega)]
            · rw [if_neg q2, if_neg (by omega)]
        · show upd (upd c1 _ _) _ _ j = _
          rw [upd_o (by omega), upd_o (by omega)]; exact y3 j hj
      · refine Or.inl ⟨(nI (i + 1), c1), ?_, rfl, ?_, y3⟩
        · simp (disch := omega) only [s_X11_doFast_L31, hk, ↓reduceIte, nI_lit, mO_lit, mO_lt, mO_le, mO_gt, mO_ge, mO_ne, mO_ne', nI_add, nI_mul, nI_addlit0, bsome, c_le_f, c_le_t, c_lt_f, c_lt_t, c_eq_f, c_eq_t, if_true, if_false, fld_n, fst_n, b5]
        · have e : ltL (tgP m (i + 1)) = ltL (tgP m i) := ext0 (by rw [ltL_len, ltL_len, tgP_len, tgP_len]) (fun k hk => by
            rw [ltL_len, tgP_len] at hk
            rw [ltL_getD _ (by rw [tgP_len]; exact hk), ltL_getD _ (by rw [tgP_len]; exact hk), tgP_same q hk])
          refine ⟨by rw [tgP_len]; rw [tgP_len] at b1; exact b1, by rw [tgP_fi]; rw [tgP_fi] at b2; exact b2, by rw [e]; exact b3, fun k hk => ?_⟩
          rw [tgP_len] at hk
          rw [tgP_same q hk]
          exact b4 k (by rw [tgP_len]; exact hk))
    (fun a y hy => by
      obtain ⟨x, c1⟩ := y
      obtain ⟨y1, y2, y3⟩ := hy
      have y1 : x = nI _ := y1
      subst y1
      have b1 : c1 W = _ := y2.1
      have hk : s_X11_knots (nI W) c1 = some (nI m.length) := by
        simp (disch := omega) only [s_X11_knots, ↓reduceIte, nI_lit, mO_lit, mO_lt, mO_le, mO_gt, mO_ge, mO_ne, mO_ne', nI_add, nI_mul, nI_addlit0, bsome, c_le_f, c_le_t, c_lt_f, c_lt_t, c_eq_f, c_eq_t, if_true, if_false, fld_n, fst_n, b1, tgP_len]
      rw [tgP_all] at y2
      exact ⟨(nI m.length, c1), by simp (disch := omega) only [s_X11_doFast_L31, hk, ↓reduceIte, nI_lit, mO_lit, mO_lt, mO_le, mO_gt, mO_ge, mO_ne, mO_ne', nI_add, nI_mul, nI_addlit0, bsome, c_le_f, c_le_t, c_lt_f, c_lt_t, c_eq_f, c_eq_t, if_true, if_false, fld_n, fst_n], y2, y3⟩)
    m.length 0 gF (nI 0, upd s 3 (sCt S - cdN m)) (by omega) (by unfold gF; omega) ⟨rfl, by
      refine ⟨?_, ?_, ?_, fun k hk => ?_⟩
      · show upd s 3 _ W = _; rw [upd_o (by omega), tgP_len]; exact m1
      · show upd s 3 _ (W + 1) = _; rw [upd_o (by omega), tgP_fi]; exact m2
      · show upd s 3 _ (W + 2) = _; rw [upd_o (by omega), tgP_0]; exact m3
      · rw [tgP_len] at hk
        show upd s 3 _ (W + 3 + k) = _
        rw [upd_o (by omega), tgP_gK _ _ hk, if_neg (Nat.not_lt_zero k)]; exact m4 k hk, fun j _ => rfl⟩
  obtain ⟨⟨r1, s2⟩, k1, k2, k3⟩ := key
  have k1 : s_X11_doFast_L31 (nI W) gF (nI 0) (upd s 3 (sCt S - cdN m)) = some (r1, s2) := k1
  have k2 : MN s2 W (tgN m) := k2
  have k3 : ∀ j, (j < W ∨ W + 11 ≤ j) → s2 j = upd s 3 (sCt S - cdN m) j := k3
  have q3 : s2 3 = sCt S - cdN m := by rw [k3 _ (by omega), upd_s]
  have hok : OKN B (tgN m) := by rw [← tgP_all]; exact OKN_tgP hm _
  have hc2 : s_X11_cordOf (nI W) s2 = some (cdN (tgN m)) := mcd ⟨hw, hB, k2, hok⟩
  have zw : s_X11_whereIs (nI f) (nI n) = some (nI W) := by rw [whr, hW]
  have zt : s_X11_tightened (nI f) (nI n) s = some (nI (tgC m)) := by
    have e1 : nI (lmN m 1) - nI (lmN m 2) = nI (tgC m) := by rw [nI_sub (by omega)]; congr 1; omega
    refine bindE zw (bindE (mls hv (t := 1) (by omega)) (bindE (mls hv (t := 2) (by omega)) ?_))
    rw [e1]
  refine ⟨upd s2 3 (sCt S + tgI m), ?_, ?_, ?_⟩
  · have e2 : sCt S - cdN m + cdN (tgN m) = sCt S + tgI m := by rw [cdN_tg hm]; grind
    refine bindE zw (bindE zt (fldE (i := 3) rfl (by omega) (by omega) g3 (bindE (mcd hv) (fstE (i := 3) rfl (by omega) (by omega) (bindE k1 (fldE (i := 3) rfl (by omega) (by omega) q3 (bindE hc2 (fstE (i := 3) rfl (by omega) (by omega) ?_))))))))
    rw [e2]
  · unfold aFast
    rw [hmm]
    refine mnam h.1 h.2.lns hf hn upd_s ?_ (fun j h1 h2 => by rw [upd_o h1, k3 _ (by omega), upd_o h1])
    rw [hW]
    obtain ⟨c1, c2, c3, c4⟩ := k2
    exact ⟨by rw [upd_o (by omega)]; exact c1, by rw [upd_o (by omega)]; exact c2, by rw [upd_o (by omega)]; exact c3, fun k hk => by rw [upd_o (by omega)]; exact c4 k hk⟩
  · unfold aFast
    rw [hmm]
    exact OKS_nam h.2 hf hn hok
