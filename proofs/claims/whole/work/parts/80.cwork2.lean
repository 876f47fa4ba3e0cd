/-! the class: works -/
theorem scn_O {b : List Nat} {n i : Nat} (h : (scn b (n + 1) i).1 = true) : qO b i = true ∧ (qE b i = b.length ∨ (gB b (qE b i) = 59 ∧ qE b i ≠ b.length ∧ (scn b n (qE b i + 1)).1 = true)) := by
  have e : scn b (n + 1) i = if qO b i = true then (if qE b i = b.length then (true, b.length) else if gB b (qE b i) = 59 then scn b n (qE b i + 1) else (false, qE b i)) else (false, qE b i) := rfl
  rw [e] at h
  by_cases q1 : qO b i = true
  · rw [if_pos q1] at h
    refine ⟨q1, ?_⟩
    by_cases q2 : qE b i = b.length
    · exact Or.inl q2
    · rw [if_neg q2] at h
      by_cases q3 : gB b (qE b i) = 59
      · rw [if_pos q3] at h; exact Or.inr ⟨q3, q2, h⟩
      · rw [if_neg q3] at h; cases h
  · rw [if_neg q1] at h; cases h
theorem skp {b : List Nat} {cs c wl : Nat → Int32} {x1 ws : Int32} (hb : RepB b (nI b.length) cs) {i e : Nat} (he : e ≤ b.length) (hne : ∀ j, i ≤ j → j < e → gB b j ≠ 59) : ∀ (m j a : Nat), j + m = e + 1 → i < j → j ≤ b.length → m = 0 ∨ e < b.length ∨ True → (∀ k, j ≤ k → k ≤ e → k < b.length) →
    s_X10_work_L58 (nI b.length) cs (a + m) x1 (nI 0) (nI j) c ws wl = s_X10_work_L58 (nI b.length) cs a x1 (nI 0) (nI (e + 1)) c ws wl := by
  intro m
  induction m with
  | zero => intro j a h1 _ _ _ _; rw [Nat.add_zero] at h1; rw [h1]; rfl
  | succ m ih =>
    intro j a h1 h2 h3 h4 h5
    have h60 := hb.2.1
    have hj := h5 j (Nat.le_refl _) (by omega)
    have hbg := bgF hb (j := j) (by omega) (by omega) (hne (j - 1) (by omega) (by omega))
    have e1 : s_X10_work_L58 (nI b.length) cs (a + m + 1) x1 (nI 0) (nI j) c ws wl = s_X10_work_L58 (nI b.length) cs (a + m) x1 (nI 0) (nI (j + 1)) c ws wl := by
      simp (disch := omega) only [s_X10_work_L58, s_X1_size, ↓reduceIte, nI_lit, mO_lit, mO_lt, mO_le, mO_gt, mO_ge, mO_ne, mO_ne', nI_add, nI_mul, nI_addlit0, bsome, c_le_f, c_le_t, c_lt_f, c_lt_t, c_eq_f, c_eq_t, if_true, if_false, fld_n, fst_n, hbg]
    rw [show a + (m + 1) = a + m + 1 from rfl, e1]
    exact ih (j + 1) a (by omega) (by omega) (by omega) (Or.inr (Or.inr trivial)) (fun k k1 k2 => h5 k (by omega) k2)
theorem cwE {b : List Nat} {cs c wl : Nat → Int32} {x1 x2 ws : Int32} {a j : Nat} (h60 : b.length ≤ 60) (hj : j = b.length) : s_X10_work_L58 (nI b.length) cs (a + 1) x1 x2 (nI j) c ws wl = some (x1, x2, nI j, c, ws, wl) := by
  subst hj
  simp (disch := omega) only [s_X10_work_L58, s_X1_size, ↓reduceIte, nI_lit, mO_lit, mO_lt, mO_le, mO_gt, mO_ge, mO_ne, mO_ne', nI_add, nI_mul, nI_addlit0, bsome, c_le_f, c_le_t, c_lt_f, c_lt_t, c_eq_f, c_eq_t, if_true, if_false, fld_n, fst_n]
theorem cwR {b : List Nat} {cs c wl : Nat → Int32} {x1 x2 ws : Int32} {a j : Nat} (h60 : b.length ≤ 60) (hj : j ≤ b.length) (h2 : ¬ x2 = 0) : s_X10_work_L58 (nI b.length) cs (a + 1) x1 x2 (nI j) c ws wl = some (x1, x2, nI j, c, ws, wl) := by
  rcases Nat.lt_or_ge j b.length with q | q
  · show (if nI b.length ≤ nI j then _ else (if x2 = 0 then _ else _)) = _
    rw [if_neg (by rw [c_le_f q (by omega)]; exact id), if_neg h2]
  · exact cwE h60 (by omega)
theorem cwk {b : List Nat} {cs : Nat → Int32} (hb : RepB b (nI b.length) cs) : ∀ (n i dn B fuel : Nat) (S : aS) (c : Nat → Int32) (ws : Int32) (wl : Nat → Int32), IC B S c → (scn b n i).1 = true → (i = 0 ∨ 1 ≤ i ∧ gB b (i - 1) = 59) → i ≤ b.length → B + n < 1000000 → b.length - i + 1 < fuel →
    ∃ res, s_X10_work_L58 (nI b.length) cs fuel (nI dn) (nI 0) (nI i) c ws wl = some res ∧ res.1 = nI (exS b n i dn S).1 ∧ res.2.1 = (exS b n i dn S).2.1 ∧ IC (B + n) (exS b n i dn S).2.2 res.2.2.2.1 := by
  intro n
  induction n with
  | zero => intro i dn B fuel S c ws wl h hs; cases hs
  | succ n ih =>
    intro i dn B fuel S c ws wl h hs hbi hi hB hf
    obtain ⟨a, rfl⟩ : ∃ a, fuel = a + 1 := ⟨fuel - 1, by omega⟩
    have h60 := hb.2.1
    obtain ⟨hO, hE'⟩ := scn_O hs
    have he : qE b i = b.length ∨ gB b (qE b i) = 59 := by
      rcases hE' with q | q
      · exact Or.inl q
      · exact Or.inr q.1
    have hil := (prt hO).1
    have hEl := qE_le hi
    have hM := qO_pos hO
    have hEi : qE b i = i + qM b i := rfl
    obtain ⟨r, w1, w2, w3⟩ := wnd (ws := ws) (wl := wl) h hb hO he
    have hbg := bgT hb hi hbi
    obtain ⟨k, k1, k2⟩ := rsn_6 b i S
    have step : s_X10_work_L58 (nI b.length) cs (a + 1) (nI dn) (nI 0) (nI i) c ws wl = if rsn b i S = 0 then ((s_X10_doPart (nI i) c (nI b.length) cs r.2.1 r.2.2).bind fun v8 => s_X10_work_L58 (nI b.length) cs a (nI dn + 1) (rsn b i S) (nI i + 1) v8 r.2.1 r.2.2) else s_X10_work_L58 (nI b.length) cs a (nI dn) (rsn b i S) (nI i + 1) c r.2.1 r.2.2 := by
      show (if nI b.length ≤ nI i then _ else (if nI 0 = 0 then _ else _)) = _
      rw [if_neg (by rw [c_le_f hil (by omega)]; exact id), if_pos (show nI 0 = 0 from rfl)]
      refine bindE hbg ?_
      rw [if_neg (by exact n10)]
      refine bindE w1 ?_
      rw [w2]
    have ee : exS b (n + 1) i dn S = if rsn b i S = nI 0 then (if qE b i = b.length then (dn + 1, nI 0, act b i S) else exS b n (qE b i + 1) (dn + 1) (act b i S)) else (dn, rsn b i S, S) := rfl
    have e1 : nI i + 1 = nI (i + 1) := nI_add i 1
    have e2 : nI dn + 1 = nI (dn + 1) := nI_add dn 1
    rw [step, ee]
    by_cases q : rsn b i S = nI 0
    · rw [if_pos q, if_pos (show rsn b i S = 0 from q)]
      obtain ⟨c', d1, d2⟩ := doP h hb hO (by omega) q (w3 q).1 (w3 q).2
      by_cases qe : qE b i = b.length
      · rw [if_pos qe]
        refine ⟨(nI (dn + 1), nI 0, nI b.length, c', r.2.1, r.2.2), ?_, rfl, rfl, IC_mono d2 (by omega) (by omega)⟩
        refine bindE d1 ?_
        rw [e1, e2, q]
        have hsk : ∀ (m j a' : Nat), j + m = b.length → i < j → s_X10_work_L58 (nI b.length) cs (a' + m) (nI (dn + 1)) (nI 0) (nI j) c' r.2.1 r.2.2 = s_X10_work_L58 (nI b.length) cs a' (nI (dn + 1)) (nI 0) (nI b.length) c' r.2.1 r.2.2 := by
          intro m
          induction m with
          | zero => intro j a' h1 h2; rw [Nat.add_zero] at h1; rw [h1]; rfl
          | succ m ihm =>
            intro j a' h1 h2
            have hbj := bgF hb (j := j) (by omega) (by omega) (q59 (i := i) (by omega) (by omega))
            have e3 : s_X10_work_L58 (nI b.length) cs (a' + m + 1) (nI (dn + 1)) (nI 0) (nI j) c' r.2.1 r.2.2 = s_X10_work_L58 (nI b.length) cs (a' + m) (nI (dn + 1)) (nI 0) (nI (j + 1)) c' r.2.1 r.2.2 := by
              simp (disch := omega) only [s_X10_work_L58, s_X1_size, ↓reduceIte, nI_lit, mO_lit, mO_lt, mO_le, mO_gt, mO_ge, mO_ne, mO_ne', nI_add, nI_mul, nI_addlit0, bsome, c_le_f, c_le_t, c_lt_f, c_lt_t, c_eq_f, c_eq_t, if_true, if_false, fld_n, fst_n, hbj]
            rw [show a' + (m + 1) = a' + m + 1 from rfl, e3]
            exact ihm (j + 1) a' (by omega) (by omega)
        have h5 := hsk (b.length - (i + 1)) (i + 1) (a - (b.length - (i + 1))) (by omega) (by omega)
        rw [show a - (b.length - (i + 1)) + (b.length - (i + 1)) = a from by omega] at h5
        rw [h5]
        obtain ⟨a', ha'⟩ : ∃ a', a - (b.length - (i + 1)) = a' + 1 := ⟨a - (b.length - (i + 1)) - 1, by omega⟩
        rw [ha']
        exact cwE h60 rfl
      · rw [if_neg qe]
        rcases hE' with q5 | ⟨q5, -, q6⟩
        · exact absurd q5 qe
        · have hsk := skp (c := c') (x1 := nI (dn + 1)) (ws := r.2.1) (wl := r.2.2) hb (i := i) (e := qE b i) hEl (fun j j1 j2 => q59 j1 j2) (qE b i + 1 - (i + 1)) (i + 1) (a - (qE b i + 1 - (i + 1))) (by omega) (by omega) (by omega) (Or.inr (Or.inr trivial)) (fun k _ k2 => by omega)
          rw [show a - (qE b i + 1 - (i + 1)) + (qE b i + 1 - (i + 1)) = a from by omega] at hsk
          obtain ⟨res, z1, z2, z3, z4⟩ := ih (qE b i + 1) (dn + 1) (B + 1) (a - (qE b i + 1 - (i + 1))) (act b i S) c' r.2.1 r.2.2 d2 q6 (Or.inr ⟨by omega, by rw [show qE b i + 1 - 1 = qE b i from rfl]; exact q5⟩) (by omega) (by omega) (by omega)
          refine ⟨res, ?_, z2, z3, by rw [show B + (n + 1) = B + 1 + n from by omega]; exact z4⟩
          refine bindE d1 ?_
          rw [e1, e2, q, hsk]
          exact z1
    · rw [if_neg q, if_neg (show ¬ rsn b i S = 0 from q)]
      obtain ⟨a', rfl⟩ : ∃ a', a = a' + 1 := ⟨a - 1, by omega⟩
      refine ⟨(nI dn, rsn b i S, nI (i + 1), c, r.2.1, r.2.2), ?_, rfl, rfl, IC_mono h (by omega) (by omega)⟩
      rw [e1]
      exact cwR h60 (by omega) q
