/-! the class: what changes the belts -/
def updF {α : Type} (g : Nat → α) (f : Nat) (x : α) : Nat → α := fun i => if i = f then x else g i
theorem updF_s {α : Type} {g : Nat → α} {f : Nat} {x : α} : updF g f x f = x := if_pos rfl
theorem updF_o {α : Type} {g : Nat → α} {f i : Nat} {x : α} (h : i ≠ f) : updF g f x i = g i := if_neg h
theorem CN_move {c c' : Nat → Int32} {f n g n' : Nat} {m : aN} (h : CN c f n m) (hm : m.length ≤ 8) (hc : ∀ j, j < 25 → c' (nc g n' + j) = c (nc f n + j)) : CN c' g n' m := by
  obtain ⟨h1, h2⟩ := h
  refine ⟨by have := hc 0 (by omega); rw [Nat.add_zero, Nat.add_zero] at this; rw [this, h1], fun k hk => ?_⟩
  obtain ⟨a1, a2, a3⟩ := h2 k hk
  have e : ∀ j, j < 3 → c' (kc g n' k + j) = c (kc f n k + j) := fun j hj => by
    have := hc (1 + k * 3 + j) (by omega)
    rw [show nc g n' + (1 + k * 3 + j) = kc g n' k + j from by unfold nc kc; omega, show nc f n + (1 + k * 3 + j) = kc f n k + j from by unfold nc kc; omega] at this
    exact this
  exact ⟨by have := e 0 (by omega); rw [Nat.add_zero, Nat.add_zero] at this; rw [this, a1], by rw [e 1 (by omega), a2], by rw [e 2 (by omega), a3]⟩
theorem CE_move {c c' : Nat → Int32} {i i' : Nat} {e : aE} (h : CE c i e) (hm : e.1.length ≤ 8) (hc : ∀ j, j < 11 → c' (ec i' + j) = c (ec i + j)) : CE c' i' e := by
  obtain ⟨h1, h2, h3, h4⟩ := h
  refine ⟨by have := hc 0 (by omega); rw [Nat.add_zero, Nat.add_zero] at this; rw [this, h1], by rw [hc 1 (by omega), h2], by rw [hc 2 (by omega), h3], fun k hk => by rw [hc (3 + k) (by omega), h4 k hk]⟩
/-- taking cells out -/
theorem closeUp_ok {c : Nat → Int32} {a e t : Nat} (h1 : a ≤ e - t) (ht : t ≤ e) (h2 : e ≤ 910) : ∃ c', s_X7_closeUp (nI a) (nI e) (nI t) c = some c' ∧ (∀ i, a ≤ i → i < e - t → c' i = c (i + t)) ∧ ∀ i, i < a ∨ e - t ≤ i → c' i = c i := by
  have key := lp (fun n (y : Int32 × (Nat → Int32)) => s_X7_closeUp_L3 (nI e) (nI t) n y.1 y.2) (e - t)
    (fun i y => a ≤ i ∧ y.1 = nI i ∧ (∀ j, a ≤ j → j < i → y.2 j = c (j + t)) ∧ ∀ j, j < a ∨ i ≤ j → y.2 j = c j)
    (fun r => (∀ i, a ≤ i → i < e - t → r.2 i = c (i + t)) ∧ ∀ i, i < a ∨ e - t ≤ i → r.2 i = c i)
    (fun i hi n y hy => by
      obtain ⟨x, c1⟩ := y
      obtain ⟨y0, y1, y2, y3⟩ := hy
      have y1 : x = nI i := y1
      subst y1
      refine Or.inl ⟨(nI (i + 1), upd c1 i (c1 (i + t))), ?_, by omega, rfl, fun j h3 h4 => ?_, fun j hj => ?_⟩
      · simp (disch := omega) only [s_X7_closeUp_L3, ↓reduceIte, nI_lit, mO_lit, mO_lt, mO_le, mO_gt, mO_ge, mO_ne, mO_ne', nI_add, nI_mul, nI_addlit0, bsome, c_le_f, c_le_t, c_lt_f, c_lt_t, c_eq_f, c_eq_t, if_true, if_false, fld_n, fst_n, nI_sub, at_ok, put_ok]
      · by_cases e1 : j = i
        · subst e1; show upd c1 j _ j = _; rw [upd_s]; exact y3 _ (by omega)
        · show upd c1 i _ j = _; rw [upd_o e1]; exact y2 j h3 (by omega)
      · show upd c1 i _ j = _; rw [upd_o (by omega)]; exact y3 j (by omega))
    (fun n y hy => by
      obtain ⟨x, c1⟩ := y
      obtain ⟨y0, y1, y2, y3⟩ := hy
      have y1 : x = nI (e - t) := y1
      subst y1
      exact ⟨(nI (e - t), c1), by simp (disch := omega) only [s_X7_closeUp_L3, ↓reduceIte, nI_lit, mO_lit, mO_lt, mO_le, mO_gt, mO_ge, mO_ne, mO_ne', nI_add, nI_mul, nI_addlit0, bsome, c_le_f, c_le_t, c_lt_f, c_lt_t, c_eq_f, c_eq_t, if_true, if_false, fld_n, fst_n, nI_sub], y2, y3⟩)
    (e - t - a) a gF (nI a, c) (by omega) (by unfold gF; omega) ⟨Nat.le_refl _, rfl, fun j h3 h4 => by omega, fun j _ => rfl⟩
  obtain ⟨r, k1, k2, k3⟩ := key
  exact ⟨r.2, by unfold s_X7_closeUp; rw [show s_X7_closeUp_L3 (nI e) (nI t) gF (nI a) c = some r from k1]; rfl, k2, k3⟩
/-- tie -/
def tieN (w : List Nat) : aN := w.map (fun l => (l, 0, l))
theorem tieN_len (w : List Nat) : (tieN w).length = w.length := by unfold tieN; simp
theorem tieN_gK (w : List Nat) {k : Nat} (h : k < w.length) : gK (tieN w) k = (w.getD k 0, 0, w.getD k 0) := by
  unfold gK tieN
  simp only [List.getD_eq_getElem?_getD, List.getElem?_map]
  rw [List.getElem?_eq_getElem h]; rfl
def aTie (f : Nat) (w : List Nat) : aS → aS
  | (Bs, E, st, d, b, kt, ct, r) => (updF Bs f (Bs f ++ [tieN w]), E, st, d, b, kt + nI w.length, ct + cdW w, r)
theorem getD_app1 {α : Type} {l : List α} {x z : α} {i : Nat} (h : i < l.length) : (l ++ [x]).getD i z = l.getD i z := by
  simp only [List.getD_eq_getElem?_getD, List.getElem?_append_left h]
theorem getD_app2 {α : Type} {l : List α} {x z : α} : (l ++ [x]).getD l.length z = x := by
  simp [List.getD_eq_getElem?_getD]
theorem tieC {B f : Nat} {S : aS} {c : Nat → Int32} {w : List Nat} {sz : Int32} {lt : Nat → Int32} (h : RepC S c) (h6 : (sB S f).length < 6) (hf : f < 5)
    (hE : (sE S).length ≤ 12 ∧ ∀ i, i < (sE S).length → OKE (gE (sE S) i)) (hB : ∀ f, f < 5 → (sB S f).length ≤ 6 ∧ ∀ n, n < (sB S f).length → OKN B (nm S f n)) (hw : RepW w sz lt) :
    ∃ c', s_X4_tieOn (nI f) c sz lt = some (nI (sB S f).length, c') ∧ RepC (aTie f w S) c' := by
  obtain ⟨w1, w2, w3⟩ := id hw
  obtain ⟨⟨g0, g1, g2, g3, g4, g5, g6, g7⟩, hF, hEn⟩ := h
  obtain ⟨Bs, E, st, d, b, kt, ct, sp, ln, lo, gi⟩ := S
  have g3 : c 3 = kt := g3
  have g4 : c 4 = ct := g4
  generalize hN : (sB (Bs, E, st, d, b, kt, ct, sp, ln, lo, gi) f).length = N at *
  have hN : (Bs f).length = N := hN
  have hff := fc_lt hf
  have hnn := nc_lt (n := N) hf (by omega)
  have f1 := (hF f hf).1.2.1
  have f1 : c (fc f + 1) = nI N := by rw [← hN]; exact f1
  have key := lp (fun n (y : Int32 × (Nat → Int32)) => s_X4_tieOn_L24 (nI f) (nI N) (nI w.length) lt n y.1 y.2) w.length
    (fun i y => y.1 = nI i ∧ (∀ k, k < i → y.2 (kc f N k) = nI (w.getD k 0) ∧ y.2 (kc f N k + 1) = nI 0 ∧ y.2 (kc f N k + 2) = nI (w.getD k 0)) ∧ ∀ j, j < kc f N 0 ∨ kc f N i ≤ j → y.2 j = upd c (nc f N) (nI w.length) j)
    (fun r => (∀ k, k < w.length → r.2 (kc f N k) = nI (w.getD k 0) ∧ r.2 (kc f N k + 1) = nI 0 ∧ r.2 (kc f N k + 2) = nI (w.getD k 0)) ∧ ∀ j, j < kc f N 0 ∨ kc f N w.length ≤ j → r.2 j = upd c (nc f N) (nI w.length) j)
    (fun i hi n y hy => by
      obtain ⟨x, c1⟩ := y
      obtain ⟨y1, y2, y3⟩ := hy
      have y1 : x = nI i := y1
      subst y1
      have hk := kc_lt (k := i) hf (show N < 6 by omega) (by omega)
      refine Or.inl ⟨(nI (i + 1), upd (upd (upd c1 (kc f N i) (nI (w.getD i 0))) (kc f N i + 1) (nI 0)) (kc f N i + 2) (nI (w.getD i 0))), ?_, rfl, fun k hk => ?_, fun j hj => ?_⟩
      · subst w1
        simp (disch := omega) only [s_X4_tieOn_L24, s_X9_size, ↓reduceIte, nI_lit, mO_lit, mO_lt, mO_le, mO_gt, mO_ge, mO_ne, mO_ne', nI_add, nI_mul, nI_addlit0, bsome, c_le_f, c_le_t, c_lt_f, c_lt_t, c_eq_f, c_eq_t, if_true, if_false, fld_n, fst_n, kcell, wat hw hi, put_ok]
      · by_cases e1 : k = i
        · subst e1
          show upd (upd (upd c1 (kc f N k) (nI (w.getD k 0))) (kc f N k + 1) (nI 0)) (kc f N k + 2) (nI (w.getD k 0)) (kc f N k) = _ ∧ upd (upd (upd c1 (kc f N k) (nI (w.getD k 0))) (kc f N k + 1) (nI 0)) (kc f N k + 2) (nI (w.getD k 0)) (kc f N k + 1) = _ ∧ upd (upd (upd c1 (kc f N k) (nI (w.getD k 0))) (kc f N k + 1) (nI 0)) (kc f N k + 2) (nI (w.getD k 0)) (kc f N k + 2) = _
          exact ⟨by rw [upd_o (by omega), upd_o (by omega), upd_s], by rw [upd_o (by omega), upd_s], by rw [upd_s]⟩
        · obtain ⟨a1, a2, a3⟩ := y2 k (by omega)
          have e2 : kc f N k + 3 ≤ kc f N i := by unfold kc; omega
          show upd (upd (upd c1 (kc f N i) (nI (w.getD i 0))) (kc f N i + 1) (nI 0)) (kc f N i + 2) (nI (w.getD i 0)) (kc f N k) = _ ∧ upd (upd (upd c1 (kc f N i) (nI (w.getD i 0))) (kc f N i + 1) (nI 0)) (kc f N i + 2) (nI (w.getD i 0)) (kc f N k + 1) = _ ∧ upd (upd (upd c1 (kc f N i) (nI (w.getD i 0))) (kc f N i + 1) (nI 0)) (kc f N i + 2) (nI (w.getD i 0)) (kc f N k + 2) = _
          exact ⟨by rw [upd_o (by omega), upd_o (by omega), upd_o (by omega)]; exact a1, by rw [upd_o (by omega), upd_o (by omega), upd_o (by omega)]; exact a2, by rw [upd_o (by omega), upd_o (by omega), upd_o (by omega)]; exact a3⟩
      · have e2 : kc f N (i + 1) = kc f N i + 3 := by unfold kc; omega
        have e3 : kc f N 0 ≤ kc f N i := by unfold kc; omega
        show upd (upd (upd c1 (kc f N i) (nI (w.getD i 0))) (kc f N i + 1) (nI 0)) (kc f N i + 2) (nI (w.getD i 0)) j = _
        rw [upd_o (by omega), upd_o (by omega), upd_o (by omega)]
        exact y3 j (by omega))
    (fun n y hy => by
      obtain ⟨x, c1⟩ := y
      obtain ⟨y1, y2, y3⟩ := hy
      have y1 : x = nI _ := y1
      subst y1
      exact ⟨(nI w.length, c1), by simp (disch := omega) only [s_X4_tieOn_L24, s_X9_size, ↓reduceIte, nI_lit, mO_lit, mO_lt, mO_le, mO_gt, mO_ge, mO_ne, mO_ne', nI_add, nI_mul, nI_addlit0, bsome, c_le_f, c_le_t, c_lt_f, c_lt_t, c_eq_f, c_eq_t, if_true, if_false, fld_n, fst_n], y2, y3⟩)
    w.length 0 gF (nI 0, upd c (nc f N) (nI w.length)) (by omega) (by unfold gF; omega) ⟨rfl, fun k hk => by omega, fun j _ => rfl⟩
  obtain ⟨⟨r1, c1⟩, k1, k2, k3⟩ := key
  have k1 : s_X4_tieOn_L24 (nI f) (nI N) (nI w.length) lt gF (nI 0) (upd c (nc f N) (nI w.length)) = some (r1, c1) := k1
  have k3 : ∀ j, j < kc f N 0 ∨ kc f N w.length ≤ j → c1 j = upd c (nc f N) (nI w.length) j := k3
  have hk0 : kc f N 0 = nc f N + 1 := by unfold kc nc; omega
  have hkw : kc f N w.length ≤ nc f N + 25 := by unfold kc nc; omega
  have hk0w : kc f N 0 ≤ kc f N w.length := by unfold kc; omega
  have fr : ∀ j, j < nc f N ∨ nc f N + 25 ≤ j → c1 j = c j := fun j hj => by
    rw [k3 j (by omega), upd_o (by omega)]
  have hnc : nc f N = fc f + 4 + N * 25 := by unfold nc fc; omega
  have hfc : 8 ≤ fc f := by unfold fc; omega
  have q1 : c1 (fc f + 1) = nI N := by rw [fr _ (by omega), f1]
  have q3 : c1 3 = kt := by rw [fr _ (by omega), g3]
  have q4 : c1 4 = ct := by rw [fr _ (by omega), g4]
  refine ⟨upd (upd (upd c1 (fc f + 1) (nI (N + 1))) 3 (kt + nI w.length)) 4 (ct + cdW w), ?_, ?_⟩
  · subst w1
    have hnm : s_X7_names (nI f) c = some (nI N) := by simp (disch := omega) only [s_X7_names, fcell, at_ok, ↓reduceIte, nI_lit, mO_lit, mO_lt, mO_le, mO_gt, mO_ge, mO_ne, mO_ne', nI_add, nI_mul, nI_addlit0, bsome, c_le_f, c_le_t, c_lt_f, c_lt_t, c_eq_f, c_eq_t, if_true, if_false, fld_n, fst_n, f1]
    simp (disch := omega) only [s_X4_tieOn, s_X9_size, ↓reduceIte, nI_lit, mO_lit, mO_lt, mO_le, mO_gt, mO_ge, mO_ne, mO_ne', nI_add, nI_mul, nI_addlit0, bsome, c_le_f, c_le_t, c_lt_f, c_lt_t, c_eq_f, c_eq_t, if_true, if_false, fld_n, fst_n, hnm, ncell, put_ok, k1, fcell, add_ok, q1, wcd hw]
    rw [upd_o (by omega), q3, upd_o (by omega), upd_o (by omega), q4]
  · have fr2 : ∀ j, (j < nc f N ∨ nc f N + 25 ≤ j) → j ≠ 3 → j ≠ 4 → j ≠ fc f + 1 → upd (upd (upd c1 (fc f + 1) (nI (N + 1))) 3 (kt + nI w.length)) 4 (ct + cdW w) j = c j := fun j h1 h2 h3 h4 => by
      rw [upd_o h3, upd_o h2, upd_o h4, fr j h1]
    generalize hc' : upd (upd (upd c1 (fc f + 1) (nI (N + 1))) 3 (kt + nI w.length)) 4 (ct + cdW w) = c' at *
    refine ⟨⟨?_, ?_, ?_, ?_, ?_, ?_, ?_, ?_⟩, fun g hg => ?_, fun i hi => ?_⟩
    · rw [fr2 0 (by omega) (by omega) (by omega) (by omega)]; exact g0
    · rw [fr2 1 (by omega) (by omega) (by omega) (by omega)]; exact g1
    · rw [fr2 2 (by omega) (by omega) (by omega) (by omega)]; exact g2
    · rw [← hc', upd_o (by omega), upd_s]; rfl
    · rw [← hc', upd_s]; rfl
    · rw [fr2 5 (by omega) (by omega) (by omega) (by omega)]; exact g5
    · rw [fr2 6 (by omega) (by omega) (by omega) (by omega)]; exact g6
    · rw [fr2 7 (by omega) (by omega) (by omega) (by omega)]; exact g7
    · obtain ⟨⟨a0, a1, a2, a3⟩, a4⟩ := hF g hg
      have hgf : fc g + 154 ≤ fc f ∨ fc g = fc f ∨ fc f + 154 ≤ fc g := by unfold fc; omega
      have hg8 : 8 ≤ fc g := by unfold fc; omega
      refine ⟨⟨?_, ?_, ?_, ?_⟩, fun n hn => ?_⟩
      · rw [fr2 (fc g) (by omega) (by omega) (by omega) (by omega)]; exact a0
      · by_cases e : g = f
        · subst e
          rw [← hc', upd_o (by omega), upd_o (by omega), upd_s]
          show _ = nI (updF Bs g (Bs g ++ [tieN w]) g).length
          rw [updF_s]; simp [hN]
        · have hgf2 : fc g + 154 ≤ fc f ∨ fc f + 154 ≤ fc g := by unfold fc; omega
          rw [fr2 (fc g + 1) (by omega) (by omega) (by omega) (by omega), a1]
          show _ = nI (updF Bs f (Bs f ++ [tieN w]) g).length
          rw [updF_o e]; rfl
      · rw [fr2 (fc g + 2) (by omega) (by omega) (by omega) (by omega)]; exact a2
      · rw [fr2 (fc g + 3) (by omega) (by omega) (by omega) (by omega)]; exact a3
      · have hn : n < (updF Bs f (Bs f ++ [tieN w]) g).length := hn
        show CN c' g n ((updF Bs f (Bs f ++ [tieN w]) g).getD n [])
        have hng : nc g n = fc g + 4 + n * 25 := by unfold nc fc; omega
        by_cases e : g = f
        · subst e
          rw [updF_s] at hn ⊢
          simp only [List.length_append, List.length_cons, List.length_nil] at hn
          by_cases e2 : n = N
          · subst e2
            have e3 : (Bs g ++ [tieN w]).getD n [] = tieN w := by rw [← hN]; exact getD_app2
            rw [e3]
            refine ⟨?_, fun k hk => ?_⟩
            · rw [tieN_len, ← hc', upd_o (by omega), upd_o (by omega), upd_o (by omega), k3 _ (by omega), upd_s]
            · rw [tieN_len] at hk
              obtain ⟨b1, b2, b3⟩ := k2 k hk
              have b1 : c1 (kc g n k) = _ := b1
              have b2 : c1 (kc g n k + 1) = _ := b2
              have b3 : c1 (kc g n k + 2) = _ := b3
              have hkk : nc g n + 1 ≤ kc g n k := by unfold kc nc; omega
              rw [tieN_gK w hk, ← hc']
              refine ⟨?_, ?_, ?_⟩ <;> rw [upd_o (by omega), upd_o (by omega), upd_o (by omega)] <;> assumption
          · have e3 : (Bs g ++ [tieN w]).getD n [] = (Bs g).getD n [] := getD_app1 (by omega)
            rw [e3]
            refine CN_move (a4 n (by show n < (Bs g).length; omega)) (((hB g hg).2 n (by show n < (Bs g).length; omega)).2.1) (fun j hj => fr2 _ (by omega) (by omega) (by omega) (by omega))
        · have hgf2 : fc g + 154 ≤ fc f ∨ fc f + 154 ≤ fc g := by unfold fc; omega
          rw [updF_o e] at hn ⊢
          have h66 := (hB g hg).1
          have hn6 : n < 6 := Nat.lt_of_lt_of_le hn h66
          exact CN_move (a4 n hn) (((hB g hg).2 n hn).2.1) (fun j hj => fr2 _ (by omega) (by omega) (by omega) (by omega))
    · have h778 : ec i = 778 + i * 11 := rfl
      have hfe : fc f = 8 + f * 154 := rfl
      exact CE_move (hEn i hi) ((hE.2 i hi).2.1) (fun j hj => fr2 _ (by omega) (by omega) (by omega) (by omega))
