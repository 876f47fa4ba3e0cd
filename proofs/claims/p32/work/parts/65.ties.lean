/-! the law: ties -/
theorem low_d {β : Type} {g : Int32 → Option β} {r : Option β} {n : Nat} {v : Int32} (h0 : 0 < n) (hn : n < 2147483648) (z : ∀ x, x < n → g (nI x) = r) : (s_L_low v (nI n)).bind g = r := by
  obtain ⟨x, hx, e⟩ := low_ok h0 hn v
  exact bindE e (z x hx)
theorem let14 : ∀ r, r < 16 → (if (nI r &&& 3) = 3 then (14 : Int32) else 4 * (nI r &&& 3)) = nI (if r % 4 = 3 then 14 else 4 * (r % 4)) := by decide +kernel
def cdL (w : List Nat) : List Nat := w.map (fun x => x + 97)
theorem cdL_len (w : List Nat) : (cdL w).length = w.length := by unfold cdL; simp
theorem cdL_getD (w : List Nat) {k : Nat} (h : k < w.length) : (cdL w).getD k 0 = w.getD k 0 + 97 := by
  unfold cdL
  simp only [List.getD_eq_getElem?_getD, List.getElem?_map]
  rw [List.getElem?_eq_getElem h]; rfl
theorem cdL_wB {w : List Nat} (h1 : 1 ≤ w.length) (h8 : w.length ≤ 8) (h : ∀ k, k < w.length → w.getD k 0 < 16) : wB (cdL w) = true := by
  unfold wB spB
  rw [cdL_len, decide_eq_true (by omega), decide_eq_true (by omega), anyB_f]
  · rfl
  · intro k hk
    have hk : k < w.length := by omega
    have := h k hk
    rw [Nat.zero_add, cdL_getD w hk]
    unfold ltB
    rw [decide_eq_true (by omega), decide_eq_true (by omega)]; rfl
theorem cdL_wW (w : List Nat) : wW (cdL w) = w := by
  unfold wW spW
  rw [cdL_len, Nat.sub_zero]
  apply List.ext_getElem?
  intro i
  by_cases h : i < w.length
  · have e := cdL_getD w h
    rw [List.getElem?_map, List.getElem?_range h]
    show some ((cdL w).getD (0 + i) 0 - 97) = _
    rw [Nat.zero_add, e, Nat.add_sub_cancel, List.getD_eq_getElem?_getD, List.getElem?_eq_getElem h]; rfl
  · rw [List.getElem?_eq_none (by simp; omega), List.getElem?_eq_none (by omega)]
theorem wt0 {S : aS} {f : Nat} {w : List Nat} (h : wtI S f w = nI 0) : (sB S f).length < 6 ∧ cdW w ≤ leftI S f := by
  unfold wtI at h
  by_cases q1 : (sB S f).length < 6
  · rw [if_pos q1] at h
    by_cases q2 : cdW w ≤ leftI S f
    · exact ⟨q1, q2⟩
    · rw [if_neg q2] at h; exact absurd h (by decide)
  · rw [if_neg q1] at h; exact absurd h (by decide)
theorem le_nI {a b : Nat} (ha : a < 2147483648) (hb : b < 2147483648) (h : nI a ≤ nI b) : a ≤ b := by
  rcases Nat.lt_or_ge b a with q | q
  · exact absurd h (nI_ge q (by omega))
  · exact q
theorem cN_tie {w : List Nat} (h8 : w.length ≤ 8) (h : ∀ k, k < w.length → w.getD k 0 < 16) : cN (tieN w) ≤ 98 := by
  unfold cN
  rw [tieN_len]
  have h1 := sN_le (N := w.length) (f := fun k => ckN (gK (tieN w) k).1 + 1) (b := 12) (fun k hk => by
    have := h k hk
    have := ckN_le (l := w.getD k 0) (by omega)
    show ckN (gK (tieN w) k).1 + 1 ≤ 12
    rw [tieN_gK w hk]
    show ckN (w.getD k 0) + 1 ≤ 12
    omega)
  omega
theorem fit0 {B f : Nat} {S : aS} {w : List Nat} (h : OKS B S) (hO : OKI S) (hf : f < 5) (h8 : w.length ≤ 8) (hw : ∀ k, k < w.length → w.getD k 0 < 16) (q : wtI S f w = nI 0) : cN (tieN w) + cdB S f ≤ sLn S f := by
  have h1 := (wt0 q).2
  have h2 := hO.1.2.1 f hf
  have h3 := (h.2.1 f hf).2.2.1
  have h4 := cN_tie h8 hw
  rw [cdW_N hw, left_N h hf h2] at h1
  have := le_nI (by omega) (by omega) h1
  omega
section
variable {B : Nat} {S : aS} {T : Option aS} {b : List Nat} {c hv hn bc wl : Nat → Int32} {ho hs ht bs ws : Int32} {f n g l p : Nat}
theorem tie39 {K : Nat} {v x5 : Int32} {arr : Nat → Int32} (h1 : 1 ≤ K) (h8 : K ≤ 8) (hb : RepB [] 0 bc) : ∃ w bs' bc' arr', w.length = K ∧ (∀ k, k < K → w.getD k 0 < 16) ∧
    s_L_ties_L39 v (nI K) gF x5 0 0 bc arr = some (nI K, nI K, bs', bc', arr') ∧ RepB (cdL w) bs' bc' ∧ ∀ k, k < K → arr' k = nI (w.getD k 0) := by
  have key := lp (fun fu (y : Int32 × Int32 × Int32 × (Nat → Int32) × (Nat → Int32)) => s_L_ties_L39 v (nI K) fu y.1 y.2.1 y.2.2.1 y.2.2.2.1 y.2.2.2.2) K
    (fun i y => ∃ (w : List Nat) (x : Int32) (bs' : Int32) (bc' arr' : Nat → Int32), y = (x, nI i, bs', bc', arr') ∧ w.length = i ∧ (∀ k, k < i → w.getD k 0 < 16) ∧ (0 < i → x = nI i) ∧ RepB (cdL w) bs' bc' ∧ ∀ k, k < i → arr' k = nI (w.getD k 0))
    (fun r => ∃ (w : List Nat) (bs' : Int32) (bc' arr' : Nat → Int32), r = (nI K, nI K, bs', bc', arr') ∧ w.length = K ∧ (∀ k, k < K → w.getD k 0 < 16) ∧ RepB (cdL w) bs' bc' ∧ ∀ k, k < K → arr' k = nI (w.getD k 0))
    (fun i hi fu y hy => by
      obtain ⟨w, x, bs1, bc1, arr1, rfl, w1, w2, w3, w4, w5⟩ := hy
      obtain ⟨r6, q6, e6⟩ := low_ok (n := 16) (by omega) (by omega) (v >>> ((3 * nI i) &&& 31))
      obtain ⟨r7, q7, e7⟩ := low_ok (n := 3) (by omega) (by omega) (v >>> (((2 * nI i) + 1) &&& 31))
      obtain ⟨x8, q8, e8⟩ : ∃ x8, x8 < 16 ∧ (if nI r7 ≤ 0 then nI r6 else (if (nI r6 &&& 3) = 3 then 14 else (4 * (nI r6 &&& 3)))) = nI x8 := by
        by_cases q : nI r7 ≤ 0
        · exact ⟨r6, q6, if_pos q⟩
        · refine ⟨_, ?_, (if_neg q).trans (let14 r6 q6)⟩
          by_cases q2 : r6 % 4 = 3
          · rw [if_pos q2]; omega
          · rw [if_neg q2]; omega
      have hlen : (cdL w).length = i := by rw [cdL_len, w1]
      obtain ⟨bs2, bc2, g1, g2⟩ := q_append (j := 97 + x8) w4 (by omega) (by omega) (by omega)
      rw [hlen, ← nI_add 97 x8] at g1
      have ew : cdL (w ++ [x8]) = cdL w ++ [97 + x8] := by unfold cdL; rw [List.map_append]; simp [Nat.add_comm]
      refine Or.inl ⟨(nI (i + 1), nI (i + 1), bs2, bc2, upd arr1 i (nI x8)), ?_, w ++ [x8], nI (i + 1), bs2, bc2, upd arr1 i (nI x8), rfl, by simp [w1], fun k hk => ?_, fun _ => rfl, by rw [ew]; exact g2, fun k hk => ?_⟩
      · show s_L_ties_L39 v (nI K) (fu + 1) x (nI i) bs1 bc1 arr1 = _
        rw [s_L_ties_L39]
        refine ifF (by simp (disch := omega) only [↓reduceIte, nI_lit, mO_lit, mO_lt, mO_le, mO_gt, mO_ge, mO_ne, mO_ne', nI_add, nI_mul, nI_addlit0, bsome, c_le_f, c_le_t, c_lt_f, c_lt_t, c_eq_f, c_eq_t, if_true, if_false, fld_n, fst_n, not_false_eq_true]) (bindE e6 (bindE e7 (flV e8 ?_)))
        rw [fst_n (by omega) (by omega), fld_n (by omega) (by omega), upd_s]
        refine calM (v := nI (i + 1)) (w := (bs2, bc2)) g1 ?_
        rw [← nI_add i 1]; rfl
      · by_cases e : k = i
        · subst e; rw [← w1, getD_app2]; exact q8
        · rw [getD_app1 (by omega)]; exact w2 k (by omega)
      · by_cases e : k = i
        · subst e; rw [upd_s, ← w1, getD_app2]
        · rw [upd_o e, getD_app1 (by omega)]; exact w5 k (by omega))
    (fun fu y hy => by
      obtain ⟨w, x, bs1, bc1, arr1, rfl, w1, w2, w3, w4, w5⟩ := hy
      have w3 := w3 (by omega)
      subst w3
      refine ⟨_, ?_, w, bs1, bc1, arr1, rfl, w1, w2, w4, w5⟩
      show s_L_ties_L39 v (nI K) (fu + 1) _ (nI K) _ _ _ = _
      rw [s_L_ties_L39]
      exact ifT (by simp (disch := omega) only [↓reduceIte, nI_lit, mO_lit, mO_lt, mO_le, mO_gt, mO_ge, mO_ne, mO_ne', nI_add, nI_mul, nI_addlit0, bsome, c_le_f, c_le_t, c_lt_f, c_lt_t, c_eq_f, c_eq_t, if_true, if_false, fld_n, fst_n, not_false_eq_true]) rfl) K 0 gF (x5, nI 0, 0, bc, arr) (by omega) (by unfold gF; omega) ⟨[], x5, 0, bc, arr, rfl, rfl, fun k hk => absurd hk (Nat.not_lt_zero _), fun h => absurd h (Nat.lt_irrefl _), hb, fun k hk => absurd hk (Nat.not_lt_zero _)⟩
  obtain ⟨r, k1, w, bs', bc', arr', rfl, k2, k3, k4, k5⟩ := key
  exact ⟨w, bs', bc', arr', k2, k3, k1, k4, k5⟩
theorem tie170 {x : Option Nat} (h : IC B S c) (hb : RepB b bs bc) (hw : wB b = true) (hx : bbS S (wW b) 0 5 x) : ∃ w1 w2, s_L_ties_L170 (oI x) c ho hs hv bs bc gF 0 ws wl = some (.inr (nI 5, w1, w2)) := by
  have key := lp (fun fu (y : Int32 × Int32 × (Nat → Int32)) => s_L_ties_L170 (oI x) c ho hs hv bs bc fu y.1 y.2.1 y.2.2) 5
    (fun i y => ∃ w1 w2, y = (nI i, w1, w2)) (fun r => ∃ w1 w2, r = .inr (nI 5, w1, w2))
    (fun g hg fu y hy => by
      obtain ⟨w1, w2, rfl⟩ := hy
      obtain ⟨v1, v2, g1⟩ := q_whyNot h hg hb hw w1 w2
      refine Or.inl ⟨(nI (g + 1), v1, v2), ?_, v1, v2, rfl⟩
      show s_L_ties_L170 (oI x) c ho hs hv bs bc (fu + 1) (nI g) w1 w2 = _
      rw [s_L_ties_L170]
      refine ifF (by simp (disch := omega) only [↓reduceIte, nI_lit, mO_lit, mO_lt, mO_le, mO_gt, mO_ge, mO_ne, mO_ne', nI_add, nI_mul, nI_addlit0, bsome, c_le_f, c_le_t, c_lt_f, c_lt_t, c_eq_f, c_eq_t, if_true, if_false, fld_n, fst_n, not_false_eq_true]) (calM (v := wtI S g (wW b)) (w := (v1, v2)) g1 ?_)
      rw [← nI_add g 1]
      by_cases q : wtI S g (wW b) = 0
      · refine ifT q ?_
        cases x with
        | none => exact absurd q (hx g (Nat.zero_le _) hg)
        | some g0 =>
          obtain ⟨⟨a1, a2⟩, a3, a4, a5⟩ := hx
          have k2 := q_fisher h hg (w := 2) (by omega)
          have k3 := q_fisher h a2 (w := 2) (by omega)
          have b4 := a4 g (Nat.zero_le _) hg q
          refine ifF (nI_pos (by omega)) (cal k2 (cal k3 (ifF ?_ (cal k2 (cal k3 ?_)))))
          · show ¬ leftI S g0 < leftI S g
            rw [Int32.lt_iff_toInt_lt]; omega
          · by_cases q2 : leftI S g = leftI S g0
            · refine ifT q2 (ifT (nI_le ?_ (by omega)) rfl)
              rcases Nat.lt_or_ge g g0 with q3 | q3
              · have := a5 g (Nat.zero_le _) q3 q
                rw [q2] at this; omega
              · exact q3
            · exact ifF q2 rfl
      · exact ifF q rfl)
    (fun fu y hy => by
      obtain ⟨w1, w2, rfl⟩ := hy
      refine ⟨_, ?_, w1, w2, rfl⟩
      show s_L_ties_L170 (oI x) c ho hs hv bs bc (fu + 1) (nI 5) w1 w2 = _
      rw [s_L_ties_L170]
      exact ifT (by decide) rfl) 5 0 gF (nI 0, ws, wl) (by omega) (by unfold gF; omega) ⟨ws, wl, rfl⟩
  obtain ⟨r, k1, w1, w2, rfl⟩ := key
  exact ⟨w1, w2, k1⟩
theorem tie293 {w : List Nat} {arr : Nat → Int32} (h : IC B (aTie f w S) c) (hf : f < 5) (h8 : w.length ≤ 8) (hw : ∀ k, k < w.length → w.getD k 0 < 16) (ha : ∀ k, k < w.length → arr k = nI (w.getD k 0)) :
    s_L_ties_L293 (nI f) (nI w.length) (nI (sB S f).length) (nI (sB S f).length) c ho hs hv bs bc ws wl arr gF 0 = some (.inr (nI w.length)) := by
  have eB : sB (aTie f w S) f = sB S f ++ [tieN w] := by obtain ⟨Bs, E, st, d, b, kt, ct, sp, ln, lo, gi⟩ := S; exact updF_s
  have eN : nm (aTie f w S) f (sB S f).length = tieN w := by unfold nm; rw [eB, getD_app2]
  have hlt : (sB S f).length < (sB (aTie f w S) f).length := by rw [eB]; simp
  refine lpN (fun fu (y : Int32) => s_L_ties_L293 (nI f) (nI w.length) (nI (sB S f).length) (nI (sB S f).length) c ho hs hv bs bc ws wl arr fu y) w.length (fun i => nI i) _ (by omega) (fun i hi fu => ?_) (fun fu => ?_)
  · have k1 := q_knot h hf hlt (k := i) (w := 1) (by omega) (by omega)
    have k2 := q_knot h hf hlt (k := i) (w := 2) (by omega) (by omega)
    have e1 : okI (tieN w) i 1 = nI (w.getD i 0) := by unfold okI; rw [tieN_len, if_pos hi, tieN_gK w hi]; rfl
    have e2 : okI (tieN w) i 2 = nI 0 := by unfold okI; rw [tieN_len, if_pos hi, tieN_gK w hi]; rfl
    rw [eN, e1] at k1
    rw [eN, e2] at k2
    show s_L_ties_L293 (nI f) (nI w.length) (nI (sB S f).length) (nI (sB S f).length) c ho hs hv bs bc ws wl arr (fu + 1) (nI i) = _
    rw [s_L_ties_L293]
    refine ifF (by simp (disch := omega) only [↓reduceIte, nI_lit, mO_lit, mO_lt, mO_le, mO_gt, mO_ge, mO_ne, mO_ne', nI_add, nI_mul, nI_addlit0, bsome, c_le_f, c_le_t, c_lt_f, c_lt_t, c_eq_f, c_eq_t, if_true, if_false, fld_n, fst_n, not_false_eq_true]) (ifT rfl (cal k1 ?_))
    rw [fld_n (by omega) (by omega), ha i hi]
    refine ifT rfl (cal k2 (ifT rfl ?_))
    rw [← nI_add i 1]; rfl
  · show s_L_ties_L293 (nI f) (nI w.length) (nI (sB S f).length) (nI (sB S f).length) c ho hs hv bs bc ws wl arr (fu + 1) (nI w.length) = _
    rw [s_L_ties_L293]
    exact ifT (by simp (disch := omega) only [↓reduceIte, nI_lit, mO_lit, mO_lt, mO_le, mO_gt, mO_ge, mO_ne, mO_ne', nI_add, nI_mul, nI_addlit0, bsome, c_le_f, c_le_t, c_lt_f, c_lt_t, c_eq_f, c_eq_t, if_true, if_false, fld_n, fst_n, not_false_eq_true]) rfl
theorem tryTie0 (J : JP B S T b c ho hs ht hv hn bs bc) (hw : wB b = true) (hf : f < 5) (q : wtI S f (wW b) = nI 0) :
    ∃ c' ho' hs' hv' bs' w1 w2, s_L_tryTie (nI f) c ho hs hv bs bc ws wl = some (nI (sB S f).length, c', ho', hs', hv', bs', w1, w2) ∧ JP B (aTie f (wW b) S) T [] c' ho' hs' ht hv' hn bs' bc := by
  obtain ⟨c', ho', hs', hv', bs', w1, w2, g1, g2⟩ := p_tie (ws := ws) (wl := wl) J hw hf q
  exact ⟨c', ho', hs', hv', bs', w1, w2, bindE g1 rfl, g2⟩
theorem tryTieX (J : JP B S T b c ho hs ht hv hn bs bc) (hw : wB b = true) (hf : f < 5) (q : wtI S f (wW b) ≠ nI 0) :
    ∃ w1 w2, s_L_tryTie (nI f) c ho hs hv bs bc ws wl = some (-7003, c, ho, hs, hv, bs, w1, w2) := by
  obtain ⟨w1, w2, g1⟩ := p_tieX (ws := ws) (wl := wl) J hw hf q
  refine ⟨w1, w2, bindE g1 ?_⟩
  rw [fth_r]
  exact ifF (by rw [sIS_IO]; exact id) (ifF (by rw [sIS_IA]; exact id) (ifT rfl rfl))
theorem tiesT (J : JP B S T b c ho hs ht hv hn bs bc) (hO : OKI S) (hf : f < 5) (v : Int32) :
    ∃ c' ho' hs' hv' bs' bc' w1 w2 b' S', s_L_ties (nI f) v c ho hs hv bs bc ws wl = some (1, c', ho', hs', hv', bs', bc', w1, w2) ∧ JP B S' T b' c' ho' hs' ht hv' hn bs' bc' ∧ OKI S' ∧ sSt S' = sSt S := by
  have h := J.1
  have h6 := h.six hf
  obtain ⟨r1, hr1, e1⟩ := low_ok (n := 3) (by omega) (by omega) (v >>> (9 &&& 31))
  obtain ⟨K0, hK0, hK8, e2⟩ : ∃ K0, 0 < K0 ∧ K0 ≤ 8 ∧ (if nI r1 = 0 then (8 : Int32) else 3) = nI K0 := by
    by_cases q : nI r1 = 0
    · exact ⟨8, by omega, by omega, if_pos q⟩
    · exact ⟨3, by omega, by omega, if_neg q⟩
  obtain ⟨r4, hr4, e4⟩ := low_ok (n := K0) hK0 (by omega) v
  have eK : 1 + nI r4 = nI (1 + r4) := nI_add 1 r4
  obtain ⟨w, bs1, bc1, arr, lw, hw16, l39, hb1, harr⟩ := tie39 (K := 1 + r4) (v := v) (x5 := bs) (bc := bc) (arr := fun _ => 0) (by omega) (by omega) RepB_nil
  have hwB := cdL_wB (w := w) (by omega) (by omega) (by rw [lw]; exact hw16)
  have hwW := cdL_wW w
  have J1 : JP B S T (cdL w) c ho hs ht hv hn bs1 bc1 := ⟨J.1, J.2.1, J.2.2.1, hb1⟩
  have hbs1 : bs1 = nI (1 + r4) := by rw [← lw, ← cdL_len]; exact hb1.1
  obtain ⟨a1, a2, g1⟩ := q_whyNot h hf hb1 hwB ws wl
  obtain ⟨x, a3, a4, g2, hx⟩ := q_best h hb1 hwB a1 a2
  have c9 := q_count h (w := 9) (by omega) hs
  have f1 := q_fisher h hf (w := 1) (by omega)
  have f1 : s_X10_fisher (nI f) 1 c = some (.inl (nI (sB S f).length)) := f1
  rw [← eK] at l39
  have h8 : w.length ≤ 8 := by omega
  have hw16' : ∀ k, k < w.length → w.getD k 0 < 16 := by rw [lw]; exact hw16
  have harr' : ∀ k, k < w.length → arr k = nI (w.getD k 0) := by rw [lw]; exact harr
  obtain ⟨kw, kw1, kw2, kw3⟩ := wtI_6 S f w
  cases x with
  | none =>
    obtain ⟨a5, a6, g3⟩ := tie170 (x := none) (ho := ho) (hs := hs) (hv := hv) (ws := a3) (wl := a4) h hb1 hwB hx
    by_cases q : wtI S f w = nI 0
    · have q' : wtI S f (wW (cdL w)) = nI 0 := by rw [hwW]; exact q
      obtain ⟨c', ho', hs', hv', bs', a7, a8, g4, J2⟩ := tryTie0 (ws := a5) (wl := a6) J1 hwB hf q'
      rw [hwW] at J2
      have h' := J2.1
      have hO' : OKI (aTie f w S) := by
        have := OKM_tie (B := B) hO hf hw16' (fit0 h.2 hO hf h8 hw16' q)
        obtain ⟨Bs, E, st, d, b, kt, ct, sp, ln, lo, gi⟩ := S
        exact this
      have eB : sB (aTie f w S) f = sB S f ++ [tieN w] := by obtain ⟨Bs, E, st, d, b, kt, ct, sp, ln, lo, gi⟩ := S; exact updF_s
      have eN : nm (aTie f w S) f (sB S f).length = tieN w := by unfold nm; rw [eB, getD_app2]
      have hlt : (sB S f).length < (sB (aTie f w S) f).length := by rw [eB]; simp
      have g5 := tie293 (S := S) (arr := arr) (ho := ho') (hs := hs') (hv := hv') (bs := bs') (bc := bc1) (ws := a7) (wl := a8) h' hf h8 hw16' harr'
      have n0 := q_name h' hf hlt (w := 0) (by omega)
      rw [eN] at n0
      have n0 : s_X10_name (nI f) (nI (sB S f).length) 0 c' = some (.inl (nI (tieN w).length)) := n0
      rw [tieN_len] at n0
      have d9 := q_count h' (w := 9) (by omega) hs'
      have ed9 : oaI (aTie f w S) 9 = oaI S 9 + nI w.length := by obtain ⟨Bs, E, st, d, b, kt, ct, sp, ln, lo, gi⟩ := S; rfl
      rw [ed9] at d9
      have ee := endsT h' hf (n := (sB S f).length) (by rw [eB]; simp)
      rw [lw, ← eK] at g5 n0 d9
      refine ⟨c', ho', hs', hv', bs', bc1, a7, a8, [], aTie f w S, ?_, J2, hO', by obtain ⟨Bs, E, st, d, b, kt, ct, sp, ln, lo, gi⟩ := S; rfl⟩
      unfold s_L_ties
      refine bindE e1 (flV e2 (bindE e4 (bindE (q_clear bs) (bindE l39 (calM (v := wtI S f (wW (cdL w))) (w := (a1, a2)) g1 (calM (v := oI none) (w := (a3, a4)) g2 (cal c9 (cal f1 (ifT (by decide) (sumR g3 (bindE g4 (ifT ?_ (sumR g5 (ifT rfl (cal n0 (ifT rfl (cal d9 (ifT rfl (bindE ee (flV (v := 1) (ifF (by decide) (ifT ?_ rfl)) (fz1 rfl)))))))))))))))))))))
      · rw [q']; decide
      · rw [eK]
    · have q' : wtI S f (wW (cdL w)) ≠ nI 0 := by rw [hwW]; exact q
      obtain ⟨a7, a8, g4⟩ := tryTieX (ws := a5) (wl := a6) J1 hwB hf q'
      have hk0 : 0 < kw := by
        rcases Nat.eq_zero_or_pos kw with e | e
        · subst e; exact absurd kw2 q
        · exact e
      refine ⟨c, ho, hs, hv, 0, bc1, a7, a8, [], S, ?_, ⟨J.1, J.2.1, J.2.2.1, RepB_nil⟩, hO, rfl⟩
      unfold s_L_ties
      refine bindE e1 (flV e2 (bindE e4 (bindE (q_clear bs) (bindE l39 (calM (v := wtI S f (wW (cdL w))) (w := (a1, a2)) g1 (calM (v := oI none) (w := (a3, a4)) g2 (cal c9 (cal f1 (ifT (by decide) (sumR g3 (bindE g4 (ifF ?_ (ifT rfl (ifF ?_ (cal f1 (ifT rfl (bindE (q_clear bs1) (flT ?_ (fz1 rfl)))))))))))))))))))
      · rw [hwW, kw2]; exact nI_ge (a := 0) hk0 (by omega)
      · rw [hwW, kw2]; exact nI_nlt (a := 3) kw1 (by omega)
      · rw [hbs1, eK]
  | some g0 =>
    obtain ⟨a3', a4', g2'⟩ := q_whyNot h hx.1.2 hb1 hwB a3 a4
    rw [hx.2.1] at g2'
    obtain ⟨a5, a6, g3⟩ := tie170 (x := some g0) (ho := ho) (hs := hs) (hv := hv) (ws := a3') (wl := a4') h hb1 hwB hx
    have hg0 := hx.1.2
    by_cases q : wtI S f w = nI 0
    · have q' : wtI S f (wW (cdL w)) = nI 0 := by rw [hwW]; exact q
      obtain ⟨c', ho', hs', hv', bs', a7, a8, g4, J2⟩ := tryTie0 (ws := a5) (wl := a6) J1 hwB hf q'
      rw [hwW] at J2
      have h' := J2.1
      have hO' : OKI (aTie f w S) := by
        have := OKM_tie (B := B) hO hf hw16' (fit0 h.2 hO hf h8 hw16' q)
        obtain ⟨Bs, E, st, d, b, kt, ct, sp, ln, lo, gi⟩ := S
        exact this
      have eB : sB (aTie f w S) f = sB S f ++ [tieN w] := by obtain ⟨Bs, E, st, d, b, kt, ct, sp, ln, lo, gi⟩ := S; exact updF_s
      have eN : nm (aTie f w S) f (sB S f).length = tieN w := by unfold nm; rw [eB, getD_app2]
      have hlt : (sB S f).length < (sB (aTie f w S) f).length := by rw [eB]; simp
      have g5 := tie293 (S := S) (arr := arr) (ho := ho') (hs := hs') (hv := hv') (bs := bs') (bc := bc1) (ws := a7) (wl := a8) h' hf h8 hw16' harr'
      have n0 := q_name h' hf hlt (w := 0) (by omega)
      rw [eN] at n0
      have n0 : s_X10_name (nI f) (nI (sB S f).length) 0 c' = some (.inl (nI (tieN w).length)) := n0
      rw [tieN_len] at n0
      have d9 := q_count h' (w := 9) (by omega) hs'
      have ed9 : oaI (aTie f w S) 9 = oaI S 9 + nI w.length := by obtain ⟨Bs, E, st, d, b, kt, ct, sp, ln, lo, gi⟩ := S; rfl
      rw [ed9] at d9
      have ee := endsT h' hf (n := (sB S f).length) (by rw [eB]; simp)
      rw [lw, ← eK] at g5 n0 d9
      refine ⟨c', ho', hs', hv', bs', bc1, a7, a8, [], aTie f w S, ?_, J2, hO', by obtain ⟨Bs, E, st, d, b, kt, ct, sp, ln, lo, gi⟩ := S; rfl⟩
      unfold s_L_ties
      refine bindE e1 (flV e2 (bindE e4 (bindE (q_clear bs) (bindE l39 (calM (v := wtI S f (wW (cdL w))) (w := (a1, a2)) g1 (calM (v := oI (some g0)) (w := (a3, a4)) g2 (cal c9 (cal f1 (ifF (nI_pos (n := g0) (by omega)) (calM (v := nI 0) (w := (a3', a4')) g2' (ifT rfl (sumR g3 (bindE g4 (ifT ?_ (sumR g5 (ifT rfl (cal n0 (ifT rfl (cal d9 (ifT rfl (bindE ee (flV (v := 1) (ifF (by decide) (ifT ?_ rfl)) (fz1 rfl)))))))))))))))))))))))
      · rw [q']; decide
      · rw [eK]
    · have q' : wtI S f (wW (cdL w)) ≠ nI 0 := by rw [hwW]; exact q
      obtain ⟨a7, a8, g4⟩ := tryTieX (ws := a5) (wl := a6) J1 hwB hf q'
      have hk0 : 0 < kw := by
        rcases Nat.eq_zero_or_pos kw with e | e
        · subst e; exact absurd kw2 q
        · exact e
      refine ⟨c, ho, hs, hv, 0, bc1, a7, a8, [], S, ?_, ⟨J.1, J.2.1, J.2.2.1, RepB_nil⟩, hO, rfl⟩
      unfold s_L_ties
      refine bindE e1 (flV e2 (bindE e4 (bindE (q_clear bs) (bindE l39 (calM (v := wtI S f (wW (cdL w))) (w := (a1, a2)) g1 (calM (v := oI (some g0)) (w := (a3, a4)) g2 (cal c9 (cal f1 (ifF (nI_pos (n := g0) (by omega)) (calM (v := nI 0) (w := (a3', a4')) g2' (ifT rfl (sumR g3 (bindE g4 (ifF ?_ (ifT rfl (ifF ?_ (cal f1 (ifT rfl (bindE (q_clear bs1) (flT ?_ (fz1 rfl)))))))))))))))))))))
      · rw [hwW, kw2]; exact nI_ge (a := 0) hk0 (by omega)
      · rw [hwW, kw2]; exact nI_nlt (a := 3) kw1 (by omega)
      · rw [hbs1, eK]
end
