/-! the class: it does the parts of a text -/
theorem cdg {b : List Nat} {sz : Int32} {cs : Nat → Int32} (h : RepB b sz cs) {j : Nat} (hj : j < b.length) (h48 : 48 ≤ gB b j) : s_X1_digitAt (nI j) sz cs = some (nI (gB b j - 48)) := by
  refine bindE (bat h hj) ?_
  have e : nI (b.getD j 0) - 48 = nI (gB b j - 48) := nI_sub (b := 48) h48
  rw [e]
theorem cdgX {b : List Nat} {sz : Int32} {cs : Nat → Int32} (h : RepB b sz cs) {j : Nat} (hj : j < 1000) : ∃ v, s_X1_digitAt (nI j) sz cs = some v := by
  rcases Nat.lt_or_ge j b.length with q | q
  · exact ⟨_, bindE (bat h q) rfl⟩
  · exact ⟨_, bindE (bat_o h q (by omega)) rfl⟩
theorem pfA : ∀ p, p < 6 → 1 ≤ p → s_X5_placeOfFisher (nI (chP p)) = some (nI (plF p)) := by decide +kernel
theorem eop {b : List Nat} {sz : Int32} {cs : Nat → Int32} (h : RepB b sz cs) {i : Nat} (hi : i ≤ b.length) (he : qE b i = b.length ∨ gB b (qE b i) = 59) : s_X1_endOfPart (nI i) sz cs = some (nI (qE b i)) := by
  have hs := h.1
  subst hs
  have h60 := h.2.1
  have hE := qE_le hi
  have key : ∀ (m j fuel : Nat), j + m = qE b i → i ≤ j → m < fuel → s_X1_endOfPart_L2 (nI b.length) cs fuel (nI j) = some (nI (qE b i)) := by
    intro m
    induction m with
    | zero =>
      intro j fuel h1 h2 h3
      obtain ⟨a, rfl⟩ : ∃ a, fuel = a + 1 := ⟨fuel - 1, by omega⟩
      have : j = qE b i := by omega
      subst this
      by_cases q : qE b i = b.length
      · rw [q]
        simp (disch := omega) only [s_X1_endOfPart_L2, ↓reduceIte, nI_lit, mO_lit, mO_lt, mO_le, mO_gt, mO_ge, mO_ne, mO_ne', nI_add, nI_mul, nI_addlit0, bsome, c_le_f, c_le_t, c_lt_f, c_lt_t, c_eq_f, c_eq_t, if_true, if_false, fld_n, fst_n]
      · have hb := bat h (i := qE b i) (by omega)
        have e59 : b.getD (qE b i) 0 = 59 := by
          rcases he with he | he
          · exact absurd he q
          · exact he
        rw [e59] at hb
        simp (disch := omega) only [s_X1_endOfPart_L2, ↓reduceIte, nI_lit, mO_lit, mO_lt, mO_le, mO_gt, mO_ge, mO_ne, mO_ne', nI_add, nI_mul, nI_addlit0, bsome, c_le_f, c_le_t, c_lt_f, c_lt_t, c_eq_f, c_eq_t, if_true, if_false, fld_n, fst_n, hb]
    | succ m ih =>
      intro j fuel h1 h2 h3
      obtain ⟨a, rfl⟩ : ∃ a, fuel = a + 1 := ⟨fuel - 1, by omega⟩
      have hb := bat h (i := j) (by omega)
      have hne : b.getD j 0 ≠ 59 := q59 h2 (by omega)
      have hr := (h.2.2 j (by omega)).2.2
      simp (disch := omega) only [s_X1_endOfPart_L2, ↓reduceIte, nI_lit, mO_lit, mO_lt, mO_le, mO_gt, mO_ge, mO_ne, mO_ne', nI_add, nI_mul, nI_addlit0, bsome, c_le_f, c_le_t, c_lt_f, c_lt_t, c_eq_f, c_eq_t, if_true, if_false, fld_n, fst_n, hb]
      exact ih (j + 1) a (by omega) (by omega) (by omega)
  exact bindE (key (qE b i - i) i gF (by unfold qE; omega) (Nat.le_refl _) (by unfold gF; omega)) rfl
theorem bgT {b : List Nat} {sz : Int32} {cs : Nat → Int32} (h : RepB b sz cs) {i : Nat} (hi : i ≤ b.length) (hb : i = 0 ∨ 1 ≤ i ∧ gB b (i - 1) = 59) : s_X1_beginsPart (nI i) sz cs = some (nI 1) := by
  have h60 := h.2.1
  rcases hb with rfl | ⟨h1, h2⟩
  · rfl
  · have h3 := bat h (i := i - 1) (by omega)
    unfold gB at h2
    rw [h2] at h3
    simp (disch := omega) only [s_X1_beginsPart, ↓reduceIte, nI_lit, mO_lit, mO_lt, mO_le, mO_gt, mO_ge, mO_ne, mO_ne', nI_add, nI_mul, nI_addlit0, bsome, c_le_f, c_le_t, c_lt_f, c_lt_t, c_eq_f, c_eq_t, if_true, if_false, fld_n, fst_n, nI_sub, h3]
theorem bgF {b : List Nat} {sz : Int32} {cs : Nat → Int32} (h : RepB b sz cs) {j : Nat} (h1 : 1 ≤ j) (hj : j ≤ b.length) (h2 : gB b (j - 1) ≠ 59) : s_X1_beginsPart (nI j) sz cs = some (nI 0) := by
  have h60 := h.2.1
  have h3 := bat h (i := j - 1) (by omega)
  have hr := (h.2.2 (j - 1) (by omega)).2.2
  unfold gB at h2
  simp (disch := omega) only [s_X1_beginsPart, ↓reduceIte, nI_lit, mO_lit, mO_lt, mO_le, mO_gt, mO_ge, mO_ne, mO_ne', nI_add, nI_mul, nI_addlit0, bsome, c_le_f, c_le_t, c_lt_f, c_lt_t, c_eq_f, c_eq_t, if_true, if_false, fld_n, fst_n, nI_sub, h3]
theorem hasN2 {B : Nat} {S : aS} {c : Nat → Int32} (h : IC B S c) {f n : Nat} (hf : f < 5) (hn : n < 1000) : s_X7_hasName (nI f) (nI n) c = some (nI (bN (decide (n < (sB S f).length)))) := by
  rw [hasN h hf (by omega), bI_nI]
theorem wnd {B i : Nat} {S : aS} {c cs wl : Nat → Int32} {ws : Int32} {b : List Nat} (h : IC B S c) (hb : RepB b (nI b.length) cs) (hO : qO b i = true) (he : qE b i = b.length ∨ gB b (qE b i) = 59) :
    ∃ r, s_X10_whyNotDone (nI i) c (nI b.length) cs ws wl = some r ∧ r.1 = rsn b i S ∧ (rsn b i S = nI 0 → (qP b i = 1 → RepW (qW b i) r.2.1 r.2.2) ∧ (qP b i = 3 → RepW (rdL (nm S (qF b i) (qN b i))) r.2.1 r.2.2)) := by
  obtain ⟨p1, p2, ⟨a1, a2, a3⟩, p4, p5, p6⟩ := prt hO
  have hp := qP_lt b i
  have h60 := hb.2.1
  have hch := qP_inv hb p1 p2
  have hpl := pfA _ hp p2
  have hat := bat hb p1
  have hat : s_X1_at (nI i) (nI b.length) cs = some (nI (chP (qP b i))) := by rw [hat, ← hch]; rfl
  have hdF : s_X1_digitAt (nI i + nI (plF (qP b i))) (nI b.length) cs = some (nI (qF b i)) := by rw [nI_add]; exact cdg hb a3 a1
  have hF5 : qF b i < 5 := by unfold qF; omega
  have hE := qE_le (b := b) (i := i) (by omega)
  unfold rsn
  by_cases q2 : qP b i = 2
  · rw [if_pos q2]
    refine ⟨(nI 0, ws, wl), ?_, rfl, fun _ => ⟨fun c => by omega, fun c => by omega⟩⟩
    refine bindE hat (bindE hpl (bindE hdF ?_))
    rw [q2]; rfl
  · rw [if_neg q2]
    by_cases q1 : qP b i = 1
    · rw [if_pos q1]
      have hsp := p6 q1
      have hpF : plF (qP b i) = 3 := by rw [q1]; rfl
      have hlt := (OKW_sp hsp).1
      rw [spW_len] at hlt
      obtain ⟨r, s1, s2, s3⟩ := spl (ws := ws) (lt := wl) hb (a := i + 5) (e := qE b i) hE (by omega)
      have hw := s3 hsp
      have hwt := wnt h hF5 hw
      refine ⟨(wtI S (qF b i) (qW b i), r.2.1, r.2.2), ?_, rfl, fun _ => ⟨fun _ => hw, fun c => by omega⟩⟩
      refine bindE hat (bindE hpl (bindE hdF ?_))
      rw [hpF, q1, if_neg (by decide), if_pos (by rfl)]
      refine bindE (eop hb (by omega) he) (bindE (a := r) ?_ (bindE hwt rfl))
      rw [nI_add, show (2 : Int32) = nI 2 from rfl, nI_add, show i + 3 + 2 = i + 5 from rfl]
      exact s1
    · rw [if_neg q1]
      have q3 : 3 ≤ qP b i := by omega
      obtain ⟨n1, n2, n3⟩ := p4 q3
      have hdN : s_X1_digitAt (nI i + nI (plF (qP b i)) + 2) (nI b.length) cs = some (nI (qN b i)) := by
        rw [nI_add, show (2 : Int32) = nI 2 from rfl, nI_add]; exact cdg hb n3 n1
      have hN6 : qN b i < 6 := by unfold qN; omega
      have hha := hasN2 h hF5 (n := qN b i) (by omega)
      have hc115 : ¬ (nI (chP (qP b i)) = 115) := by
        rcases (by omega : qP b i = 3 ∨ qP b i = 4 ∨ qP b i = 5) with q | q | q <;> rw [q] <;> decide
      have hc116 : ¬ (nI (chP (qP b i)) = 116) := by
        rcases (by omega : qP b i = 3 ∨ qP b i = 4 ∨ qP b i = 5) with q | q | q <;> rw [q] <;> decide
      by_cases qn : qN b i < (sB S (qF b i)).length
      · rw [if_pos qn]
        rw [decide_eq_true qn] at hha
        by_cases q33 : qP b i = 3
        · rw [if_pos q33]
          obtain ⟨g1, g2, g3⟩ := p5 q33
          have hdG : s_X1_digitAt (nI i + nI (plF (qP b i)) + 4) (nI b.length) cs = some (nI (qG b i)) := by
            rw [nI_add, show (4 : Int32) = nI 4 from rfl, nI_add]; exact cdg hb g3 g1
          have hG5 : qG b i < 5 := by unfold qG; omega
          obtain ⟨r, r1, r2, r3⟩ := wng (sz := ws) (lt := wl) h hF5 qn hG5
          refine ⟨(r.1, r.2.1, r.2.2), ?_, r2, fun e => ⟨fun c => by omega, fun _ => ?_⟩⟩
          · refine bindE hat (bindE hpl (bindE hdF ?_))
            rw [if_neg hc115, if_neg hc116]
            refine bindE hdN (bindE hha ?_)
            rw [if_neg (by exact n10), if_pos (by rw [q33]; rfl)]
            exact bindE hdG (bindE r1 rfl)
          · obtain ⟨k, k1, k2, k3⟩ := wgI_6 S (qF b i) (qN b i) (qG b i)
            rw [k2] at e
            obtain ⟨k4, k5, -⟩ := k3 (nI0_inj (by omega) e)
            exact r3 k4 k5
        · rw [if_neg q33]
          by_cases q4 : qP b i = 4
          · rw [if_pos q4]
            refine ⟨(wfI S (qF b i) (qN b i), ws, wl), ?_, rfl, fun _ => ⟨fun c => by omega, fun c => by omega⟩⟩
            refine bindE hat (bindE hpl (bindE hdF ?_))
            rw [if_neg hc115, if_neg hc116]
            refine bindE hdN (bindE hha ?_)
            rw [if_neg (by exact n10), if_neg (by rw [q4]; decide), if_pos (by rw [q4]; rfl)]
            exact bindE (wnf h hF5 qn) rfl
          · rw [if_neg q4]
            have q5 : qP b i = 5 := by omega
            refine ⟨(nI 0, ws, wl), ?_, rfl, fun _ => ⟨fun c => by omega, fun c => by omega⟩⟩
            refine bindE hat (bindE hpl (bindE hdF ?_))
            rw [if_neg hc115, if_neg hc116]
            refine bindE hdN (bindE hha ?_)
            rw [if_neg (by exact n10), if_neg (by rw [q5]; decide), if_neg (by rw [q5]; decide)]
            rfl
      · rw [if_neg qn]
        rw [decide_eq_false qn] at hha
        refine ⟨(nI 6, ws, wl), ?_, rfl, fun e => absurd e (by decide)⟩
        refine bindE hat (bindE hpl (bindE hdF ?_))
        rw [if_neg hc115, if_neg hc116]
        refine bindE hdN (bindE hha ?_)
        rw [if_pos (by rfl)]
        rfl
theorem doP {B i : Nat} {S : aS} {c cs wl : Nat → Int32} {ws : Int32} {b : List Nat} (h : IC B S c) (hb : RepB b (nI b.length) cs) (hO : qO b i = true) (hB : B + 1 < 1000000) (hr : rsn b i S = nI 0)
    (hw1 : qP b i = 1 → RepW (qW b i) ws wl) (hw3 : qP b i = 3 → RepW (rdL (nm S (qF b i) (qN b i))) ws wl) :
    ∃ c', s_X10_doPart (nI i) c (nI b.length) cs ws wl = some c' ∧ IC (B + 1) (act b i S) c' := by
  obtain ⟨p1, p2, ⟨a1, a2, a3⟩, p4, p5, p6⟩ := prt hO
  have hp := qP_lt b i
  have h60 := hb.2.1
  have hch := qP_inv hb p1 p2
  have hpl := pfA _ hp p2
  have hat := bat hb p1
  have hat : s_X1_at (nI i) (nI b.length) cs = some (nI (chP (qP b i))) := by rw [hat, ← hch]; rfl
  have hdF : s_X1_digitAt (nI i + nI (plF (qP b i))) (nI b.length) cs = some (nI (qF b i)) := by rw [nI_add]; exact cdg hb a3 a1
  have hF5 : qF b i < 5 := by unfold qF; omega
  have hpF5 : plF (qP b i) ≤ 5 := by
    have : ∀ p, p < 6 → plF p ≤ 5 := by decide
    exact this _ hp
  obtain ⟨v4, hv4⟩ := cdgX hb (j := i + plF (qP b i) + 2) (by omega)
  have hv4 : s_X1_digitAt (nI i + nI (plF (qP b i)) + 2) (nI b.length) cs = some v4 := by
    rw [nI_add, show (2 : Int32) = nI 2 from rfl, nI_add]; exact hv4
  unfold rsn at hr
  unfold act
  by_cases q2 : qP b i = 2
  · rw [if_pos q2]
    obtain ⟨c', k1, k2⟩ := stoC h hF5 hB
    refine ⟨c', ?_, k2⟩
    refine bindE hat (bindE hpl (bindE hdF (bindE hv4 ?_)))
    rw [q2, if_neg (by decide), if_neg (by decide), if_pos (by rfl)]
    exact bindE k1 rfl
  · rw [if_neg q2] at hr ⊢
    by_cases q1 : qP b i = 1
    · rw [if_pos q1] at hr ⊢
      obtain ⟨k, k1, k2, k3⟩ := wtI_6 S (qF b i) (qW b i)
      rw [k2] at hr
      have h6 := k3 (nI0_inj (by omega) hr)
      have hok := OKW_sp (p6 q1)
      obtain ⟨c', m1, m2⟩ := tieC (B := B) (f := qF b i) h.1 h6 hF5 h.2.2.2 (fun f hf => ⟨(h.2.2.1 f hf).1, (h.2.2.1 f hf).2.2.2⟩) (hw1 q1)
      refine ⟨c', ?_, IC_mono ⟨m2, OKS_tie h.2 hF5 h6 hok⟩ (by omega) hB⟩
      refine bindE hat (bindE hpl (bindE hdF (bindE hv4 ?_)))
      rw [q1, if_neg (by decide), if_neg (by decide), if_neg (by decide), if_pos (by rfl)]
      exact bindE m1 rfl
    · rw [if_neg q1] at hr ⊢
      have q3 : 3 ≤ qP b i := by omega
      obtain ⟨n1, n2, n3⟩ := p4 q3
      have hdN : s_X1_digitAt (nI i + nI (plF (qP b i)) + 2) (nI b.length) cs = some (nI (qN b i)) := by
        rw [nI_add, show (2 : Int32) = nI 2 from rfl, nI_add]; exact cdg hb n3 n1
      by_cases qn : qN b i < (sB S (qF b i)).length
      · rw [if_pos qn] at hr
        by_cases q33 : qP b i = 3
        · rw [if_pos q33] at hr ⊢
          obtain ⟨g1, g2, g3⟩ := p5 q33
          have hdG : s_X1_digitAt (nI i + nI (plF (qP b i)) + 4) (nI b.length) cs = some (nI (qG b i)) := by
            rw [nI_add, show (4 : Int32) = nI 4 from rfl, nI_add]; exact cdg hb g3 g1
          have hG5 : qG b i < 5 := by unfold qG; omega
          obtain ⟨k, k1, k2, k3⟩ := wgI_6 S (qF b i) (qN b i) (qG b i)
          rw [k2] at hr
          obtain ⟨k4, k5, k6⟩ := k3 (nI0_inj (by omega) hr)
          obtain ⟨c', m1, m2⟩ := givC h hF5 qn hG5 k4 k6 k5 (hw3 q33)
          refine ⟨c', ?_, IC_mono m2 (by omega) hB⟩
          refine bindE hat (bindE hpl (bindE hdF (bindE hdN ?_)))
          rw [q33] at hdG ⊢
          rw [if_neg (by decide), if_pos (by rfl)]
          exact bindE hdG (bindE m1 rfl)
        · rw [if_neg q33] at hr ⊢
          by_cases q4 : qP b i = 4
          · rw [if_pos q4]
            obtain ⟨c', m1, m2⟩ := fastC h.1 h.2.lns (h.nam hF5 qn) qn
            refine ⟨c', ?_, IC_mono ⟨m2, OKS_fast h.2 hF5 qn⟩ (by omega) hB⟩
            refine bindE hat (bindE hpl (bindE hdF (bindE hdN ?_)))
            rw [q4, if_pos (by rfl)]
            exact bindE m1 rfl
          · rw [if_neg q4]
            have q5 : qP b i = 5 := by omega
            obtain ⟨c', m1, m2⟩ := cutC h.1 h.2.lns (h.nam hF5 qn) qn
            refine ⟨c', ?_, IC_mono ⟨m2, OKS_cut h.2 hF5 qn⟩ (by omega) hB⟩
            refine bindE hat (bindE hpl (bindE hdF (bindE hdN ?_)))
            rw [q5, if_neg (by decide), if_neg (by decide), if_neg (by decide), if_neg (by decide)]
            exact bindE m1 rfl
      · rw [if_neg qn] at hr
        exact absurd hr (by decide)
