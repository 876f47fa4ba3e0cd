/-! the model: it does the parts of a text -/
theorem mfis {f : Nat} (hf : f < 2147483648) : s_X11_isFisher (nI f) = some (bI (decide (f < 5))) := by
  have hm := min_ (a := f) (lo := 0) (hi := 4) hf (by omega) (by omega)
  rw [decide_eq_true (Nat.zero_le f), Bool.true_and, show decide (f ≤ 4) = decide (f < 5) from decide_eq_decide.mpr (by omega)] at hm
  refine bindE hm ?_
  exact fz_b
theorem mnam2 {B : Nat} {S : aS} {s : Nat → Int32} (h : IM B S s) {f n : Nat} (hf : f < 5) (hn : n < 1000) : s_X11_isName (nI f) (nI n) s = some (bI (decide (n < (sB S f).length))) := by
  have h6 := h.six hf
  have hF := mfis (f := f) (by omega)
  rw [decide_eq_true hf] at hF
  refine bindE hF ?_
  rw [if_neg (by exact n10)]
  refine bindE (mof1 h hf) ?_
  by_cases q : n < (sB S f).length
  · have hm := min_ (a := n) (lo := 0) (hi := (sB S f).length - 1) (by omega) (by omega) (by omega)
    rw [decide_eq_true (Nat.zero_le n), decide_eq_true (show n ≤ (sB S f).length - 1 by omega)] at hm
    have e : nI (sB S f).length - 1 = nI ((sB S f).length - 1) := nI_sub (b := 1) (by omega)
    rw [e, decide_eq_true q]
    exact bindE hm rfl
  · rw [decide_eq_false q]
    rcases Nat.eq_zero_or_pos (sB S f).length with h0 | h0
    · rw [h0]
      refine bindE (a := nI 0) ?_ rfl
      have e : nI 0 - 1 = mO := rfl
      rw [e]
      simp (disch := omega) only [s_X11_in, ↓reduceIte, nI_lit, mO_lit, mO_lt, mO_le, mO_gt, mO_ge, mO_ne, mO_ne', nI_add, nI_mul, nI_addlit0, bsome, c_le_f, c_le_t, c_lt_f, c_lt_t, c_eq_f, c_eq_t, if_true, if_false, fld_n, fst_n]
    · have hm := min_ (a := n) (lo := 0) (hi := (sB S f).length - 1) (by omega) (by omega) (by omega)
      rw [decide_eq_true (Nat.zero_le n), decide_eq_false (show ¬ n ≤ (sB S f).length - 1 by omega)] at hm
      have e : nI (sB S f).length - 1 = nI ((sB S f).length - 1) := nI_sub (b := 1) (by omega)
      rw [e]
      exact bindE hm rfl
theorem msop {B i : Nat} {S : aS} {s text : Nat → Int32} {sp sm on tw th bg : Int32} {b : List Nat} (h : IM B S s) (hb : RepB b (nI b.length) text) (hO : qO b i = true)
    (h1 : on = nI (qF b i)) (h2 : qP b i = 1 → bg = nI (i + 5)) (h3 : 3 ≤ qP b i → tw = nI (qN b i)) (h4 : qP b i = 3 → th = nI (qG b i)) :
    ∃ r, s_X11_stopOfPart sp sm (nI (qE b i)) (nI (gB b i)) on tw th bg s text = some r ∧ r.1 = rsn b i S ∧ (qP b i = 1 → r.2.1 = nI (pk (qW b i)) ∧ r.2.2 = nI (qW b i).length) := by
  obtain ⟨p1, p2, ⟨a1, a2, a3⟩, p4, p5, p6⟩ := prt hO
  have hp := qP_lt b i
  have h60 := hb.2.1
  have hch := qP_inv hb p1 p2
  have hF5 : qF b i < 5 := by unfold qF; omega
  have hE := qE_le (b := b) (i := i) (by omega)
  rw [hch]
  subst h1
  unfold rsn
  by_cases q2 : qP b i = 2
  · rw [if_pos q2]
    refine ⟨(nI 0, sp, sm), ?_, rfl, fun c => by omega⟩
    rw [q2]; rfl
  · rw [if_neg q2]
    by_cases q1 : qP b i = 1
    · rw [if_pos q1]
      have hsp := p6 q1
      have hok := OKW_sp hsp
      have hlt := hok.1
      rw [spW_len] at hlt
      obtain ⟨r, s1, s2, s3, s4⟩ := msp (sp := sp) (sm := sm) hb (a := i + 5) (e := qE b i) (by omega) hE
      obtain ⟨x1, x2, x3⟩ := r
      have s2 : x1 = _ := s2
      have s3 : x3 = _ := s3
      have s5 : x2 = _ := s4 hsp
      clear s4
      rw [hsp] at s2
      subst s2 s3 s5
      have hl : nI (qE b i - (i + 5)) = nI (qW b i).length := by unfold qW; rw [spW_len]
      have hre := mre h hF5 hok
      rw [spW_len] at hre
      refine ⟨(wtI S (qF b i) (qW b i), nI (pk (qW b i)), nI (qE b i - (i + 5))), ?_, rfl, fun _ => ⟨rfl, hl⟩⟩
      have hbg := h2 q1
      subst hbg
      rw [q1]
      show (if nI 116 = 102 then _ else (if nI 116 = 103 then _ else (if nI 116 = 115 then _ else (if nI 116 = 116 then _ else _)))) = _
      rw [if_neg (by decide), if_neg (by decide), if_neg (by decide), if_pos (by rfl)]
      refine bindE s1 ?_
      rw [if_neg (by exact n10)]
      exact bindE hre rfl
    · rw [if_neg q1]
      have q3 : 3 ≤ qP b i := by omega
      obtain ⟨n1, n2, n3⟩ := p4 q3
      have hN6 : qN b i < 6 := by unfold qN; omega
      have htw := h3 q3
      subst htw
      have hha := mnam2 h hF5 (n := qN b i) (by omega)
      by_cases qn : qN b i < (sB S (qF b i)).length
      · rw [if_pos qn]
        rw [decide_eq_true qn] at hha
        by_cases q33 : qP b i = 3
        · rw [if_pos q33]
          obtain ⟨g1, g2, g3⟩ := p5 q33
          have hG5 : qG b i < 5 := by unfold qG; omega
          have hth := h4 q33
          subst hth
          refine ⟨(wgI S (qF b i) (qN b i) (qG b i), sp, sm), ?_, rfl, fun c => by omega⟩
          rw [q33]
          show (if nI 103 = 102 then _ else (if nI 103 = 103 then _ else _)) = _
          rw [if_neg (by decide), if_pos (by rfl)]
          refine bindE hha ?_
          rw [if_neg (by exact n10)]
          exact bindE (mgi h hF5 qn hG5) rfl
        · rw [if_neg q33]
          by_cases q4 : qP b i = 4
          · rw [if_pos q4]
            refine ⟨(wfI S (qF b i) (qN b i), sp, sm), ?_, rfl, fun c => by omega⟩
            rw [q4]
            show (if nI 102 = 102 then _ else _) = _
            rw [if_pos (by rfl)]
            refine bindE hha ?_
            rw [if_neg (by exact n10)]
            refine bindE (mcf h hF5 qn) ?_
            obtain ⟨k, k1, k2⟩ := wfI_6 S (qF b i) (qN b i)
            by_cases q : wfI S (qF b i) (qN b i) = nI 0
            · rw [if_pos q, if_neg (by exact n10), q]; rfl
            · rw [if_neg q, if_pos (show nI 0 = 0 from rfl)]
              have : wfI S (qF b i) (qN b i) = nI 2 := by
                unfold wfI at q ⊢
                by_cases q7 : sI (nm S (qF b i) (qN b i)).length (fun k => moI (gK (nm S (qF b i) (qN b i)) k)) ≤ leftI S (qF b i)
                · rw [if_pos q7] at q; exact absurd rfl q
                · rw [if_neg q7]
              rw [this]; rfl
          · rw [if_neg q4]
            have q5 : qP b i = 5 := by omega
            refine ⟨(nI 0, sp, sm), ?_, rfl, fun c => by omega⟩
            rw [q5]
            show (if nI 99 = 102 then _ else (if nI 99 = 103 then _ else (if nI 99 = 115 then _ else (if nI 99 = 116 then _ else _)))) = _
            rw [if_neg (by decide), if_neg (by decide), if_neg (by decide), if_neg (by decide)]
            refine bindE hha ?_
            rw [if_neg (by exact n10)]; rfl
      · rw [if_neg qn]
        rw [decide_eq_false qn] at hha
        refine ⟨(nI 6, sp, sm), ?_, rfl, fun c => by omega⟩
        rcases (by omega : qP b i = 3 ∨ qP b i = 4 ∨ qP b i = 5) with q | q | q <;> rw [q]
        · show (if nI 103 = 102 then _ else (if nI 103 = 103 then _ else _)) = _
          rw [if_neg (by decide), if_pos (by rfl)]
          refine bindE hha ?_
          rw [if_pos (show bI false = 0 from rfl)]; rfl
        · show (if nI 102 = 102 then _ else _) = _
          rw [if_pos (by rfl)]
          refine bindE hha ?_
          rw [if_pos (show bI false = 0 from rfl)]; rfl
        · show (if nI 99 = 102 then _ else (if nI 99 = 103 then _ else (if nI 99 = 115 then _ else (if nI 99 = 116 then _ else _)))) = _
          rw [if_neg (by decide), if_neg (by decide), if_neg (by decide), if_neg (by decide)]
          refine bindE hha ?_
          rw [if_pos (show bI false = 0 from rfl)]; rfl
theorem mdo {B i : Nat} {S : aS} {s : Nat → Int32} {sp sm on tw th : Int32} {b : List Nat} {sz : Int32} {cs : Nat → Int32} (h : IM B S s) (hb : RepB b sz cs) (hO : qO b i = true) (hB : B + 1 < 1000000) (hr : rsn b i S = nI 0)
    (h1 : on = nI (qF b i)) (h3 : 3 ≤ qP b i → tw = nI (qN b i)) (h4 : qP b i = 3 → th = nI (qG b i)) (hw : qP b i = 1 → sp = nI (pk (qW b i)) ∧ sm = nI (qW b i).length) :
    ∃ r : Int32 × (Nat → Int32), s_X11_does sp sm (nI (gB b i)) on tw th s = some r ∧ IM (B + 1) (act b i S) r.2 := by
  obtain ⟨p1, p2, ⟨a1, a2, a3⟩, p4, p5, p6⟩ := prt hO
  have hp := qP_lt b i
  have hch := qP_inv hb p1 p2
  have hF5 : qF b i < 5 := by unfold qF; omega
  rw [hch]
  subst h1
  unfold rsn at hr
  unfold act
  by_cases q2 : qP b i = 2
  · rw [if_pos q2]
    obtain ⟨s', k1, k2⟩ := mstorm h hF5 hB
    refine ⟨(nI (aStorm (qF b i) S).1, s'), ?_, k2⟩
    rw [q2]
    show (if nI 115 = 102 then _ else (if nI 115 = 103 then _ else (if nI 115 = 115 then _ else _))) = _
    rw [if_neg (by decide), if_neg (by decide), if_pos (by rfl)]
    exact bindE k1 rfl
  · rw [if_neg q2] at hr ⊢
    by_cases q1 : qP b i = 1
    · rw [if_pos q1] at hr ⊢
      obtain ⟨k, k1, k2, k3⟩ := wtI_6 S (qF b i) (qW b i)
      rw [k2] at hr
      have h6 := k3 (nI0_inj (by omega) hr)
      have hok := OKW_sp (p6 q1)
      obtain ⟨hw1, hw2⟩ := hw q1
      subst hw1 hw2
      obtain ⟨s', m1, m2⟩ := mtie (f := qF b i) h.1 h.2.lns hF5 h6 hok
      refine ⟨(nI (sB S (qF b i)).length, s'), ?_, IM_mono ⟨m2, OKS_tie h.2 hF5 h6 hok⟩ (by omega) hB⟩
      rw [q1]
      show (if nI 116 = 102 then _ else (if nI 116 = 103 then _ else (if nI 116 = 115 then _ else (if nI 116 = 116 then _ else _)))) = _
      rw [if_neg (by decide), if_neg (by decide), if_neg (by decide), if_pos (by rfl)]
      exact bindE m1 rfl
    · rw [if_neg q1] at hr ⊢
      have q3 : 3 ≤ qP b i := by omega
      have htw := h3 q3
      subst htw
      by_cases qn : qN b i < (sB S (qF b i)).length
      · rw [if_pos qn] at hr
        by_cases q33 : qP b i = 3
        · rw [if_pos q33] at hr ⊢
          obtain ⟨g1, g2, g3⟩ := p5 q33
          have hG5 : qG b i < 5 := by unfold qG; omega
          have hth := h4 q33
          subst hth
          obtain ⟨k, k1, k2, k3⟩ := wgI_6 S (qF b i) (qN b i) (qG b i)
          rw [k2] at hr
          obtain ⟨k4, k5, k6⟩ := k3 (nI0_inj (by omega) hr)
          obtain ⟨s', m1, m2⟩ := mgive h hF5 qn hG5 k4 k6 k5
          refine ⟨(nI (sB S (qG b i)).length, s'), ?_, IM_mono m2 (by omega) hB⟩
          rw [q33]
          show (if nI 103 = 102 then _ else (if nI 103 = 103 then _ else _)) = _
          rw [if_neg (by decide), if_pos (by rfl)]
          exact bindE m1 rfl
        · rw [if_neg q33] at hr ⊢
          by_cases q4 : qP b i = 4
          · rw [if_pos q4]
            obtain ⟨s', m1, m2⟩ := mfast h hF5 qn
            refine ⟨(nI (tgC (nm S (qF b i) (qN b i))), s'), ?_, IM_mono m2 (by omega) hB⟩
            rw [q4]
            show (if nI 102 = 102 then _ else _) = _
            rw [if_pos (by rfl)]
            exact bindE m1 rfl
          · rw [if_neg q4]
            have q5 : qP b i = 5 := by omega
            obtain ⟨s', m1, m2⟩ := mcut (B := B) h.1 h.2.lns hF5 (h.nam hF5 qn) qn
            refine ⟨(cdN (nm S (qF b i) (qN b i)), s'), ?_, IM_mono ⟨m2, OKS_cut h.2 hF5 qn⟩ (by omega) hB⟩
            rw [q5]
            show (if nI 99 = 102 then _ else (if nI 99 = 103 then _ else (if nI 99 = 115 then _ else (if nI 99 = 116 then _ else _)))) = _
            rw [if_neg (by decide), if_neg (by decide), if_neg (by decide), if_neg (by decide)]
            exact bindE m1 rfl
      · rw [if_neg qn] at hr
        exact absurd hr (by decide)
theorem mwk {b : List Nat} {text : Nat → Int32} (hb : RepB b (nI b.length) text) : ∀ (n i dn B fuel : Nat) (r : Int32 × Int32 × Int32 × Int32 × Int32 × Int32 × Int32) (sp sm sb : Int32) (S : aS) (s : Nat → Int32), RP b i (some r) → IM B S s → (scn b n i).1 = true → i ≤ b.length → B + n < 1000000 → n < fuel →
    ∃ res, (s_X11_readText_L20 1 (nI b.length) text fuel r.1 sp sm r.2.1 r.2.2.1 r.2.2.2.1 r.2.2.2.2.1 r.2.2.2.2.2.1 r.2.2.2.2.2.2 (nI dn) sb s).bind mtK = some res ∧ res.1 = nI 1 ∧ res.2.2.2.2.2.2.2.2.2.1 = nI (exS b n i dn S).1 ∧ res.2.2.2.2.2.2.2.2.2.2.1 = (exS b n i dn S).2.1 ∧ IM (B + n) (exS b n i dn S).2.2 res.2.2.2.2.2.2.2.2.2.2.2 := by
  intro n
  induction n with
  | zero => intro i dn B fuel r sp sm sb S s _ _ hs; cases hs
  | succ n ih =>
    intro i dn B fuel r sp sm sb S s hr h hs hi hB hf
    obtain ⟨a, rfl⟩ : ∃ a, fuel = a + 1 := ⟨fuel - 1, by omega⟩
    have h60 := hb.2.1
    obtain ⟨hO, hE'⟩ := scn_O hs
    have hE := qE_le hi
    have hM := qO_pos hO
    have hEi : qE b i = i + qM b i := rfl
    obtain ⟨r0, e0, r1, r2, r3⟩ := hr
    injection e0 with e0
    subst e0
    obtain ⟨x1, x2, x3, x4, x5, x6, x7⟩ := r
    obtain ⟨t1, t2, t3, t4, t5⟩ := r3 hO
    have r1 : x1 = _ := r1
    have r2 : x2 = _ := r2
    have t1 : x3 = _ := t1
    rw [hO] at r1
    subst r1 r2 t1
    have t2 : x4 = nI (qF b i) := t2
    have t3 : qP b i = 1 → x7 = nI (i + 5) := t3
    have t4 : 3 ≤ qP b i → x5 = nI (qN b i) := t4
    have t5 : qP b i = 3 → x6 = nI (qG b i) := t5
    obtain ⟨v, v1, v2, v3⟩ := msop (sp := sp) (sm := sm) (th := x6) (tw := x5) (bg := x7) h hb hO t2 t3 t4 t5
    obtain ⟨k, k1, k2⟩ := rsn_6 b i S
    have ee : exS b (n + 1) i dn S = if rsn b i S = nI 0 then (if qE b i = b.length then (dn + 1, nI 0, act b i S) else exS b n (qE b i + 1) (dn + 1) (act b i S)) else (dn, rsn b i S, S) := rfl
    have e2 : nI dn + 1 = nI (dn + 1) := nI_add dn 1
    rw [ee]
    by_cases q : rsn b i S = nI 0
    · rw [if_pos q]
      obtain ⟨w, d1, d2⟩ := mdo (sp := v.2.1) (sm := v.2.2) (th := x6) (tw := x5) h hb hO (by omega) q t2 t4 t5 v3
      have hle : v.1 ≤ 0 := by rw [v2, q]; decide
      by_cases qe : qE b i = b.length
      · rw [if_pos qe]
        refine ⟨(1, v.2.1, v.2.2, nI (qE b i), nI (gB b i), x4, x5, x6, x7, nI dn + 1, v.1, w.2), ?_, rfl, e2, by rw [v2]; exact q, IM_mono d2 (by omega) (by omega)⟩
        refine bindE (a := .inl (1, v.2.1, v.2.2, nI (qE b i), nI (gB b i), x4, x5, x6, x7, nI dn + 1, v.1, w.2)) ?_ rfl
        show (if _ then _ else (if _ then _ else (s_X11_stopOfPart sp sm (nI (qE b i)) (nI (gB b i)) x4 x5 x6 x7 s text).bind _)) = _
        rw [if_neg (by exact n10), if_neg (by decide)]
        refine bindE v1 ?_
        rw [if_pos hle]
        refine bindE d1 ?_
        rw [if_pos (by rw [qe])]
      · rw [if_neg qe]
        have hne : ¬ (nI (qE b i) = nI b.length) := by rw [c_eq_f qe (by omega) (by omega)]; exact id
        rcases hE' with q5 | ⟨q5, -, q6⟩
        · exact absurd q5 qe
        · have ht := mtkT hb (c := 59) (q := qE b i) pln59 (by omega) (by rw [tk59 (by omega), decide_eq_true q5])
          obtain ⟨r', m1, m2⟩ := id (rpA (kd := nI (gB b i)) (on := x4) (tw := x5) (th := x6) (bg := x7) hb (q := qE b i + 1) (by omega))
          have hr' : RP b (qE b i + 1) (some r') := ⟨r', rfl, m2⟩
          obtain ⟨res, z1, z2, z3, z4, z5⟩ := ih (qE b i + 1) (dn + 1) (B + 1) a r' v.2.1 v.2.2 v.1 (act b i S) w.2 hr' d2 q6 (by omega) (by omega) (by omega)
          refine ⟨res, ?_, z2, z3, z4, by rw [show B + (n + 1) = B + 1 + n from by omega]; exact z5⟩
          rw [← z1]
          congr 1
          show (if _ then _ else (if _ then _ else (s_X11_stopOfPart sp sm (nI (qE b i)) (nI (gB b i)) x4 x5 x6 x7 s text).bind _)) = _
          rw [if_neg (by exact n10), if_neg (by decide)]
          refine bindE v1 ?_
          rw [if_pos hle]
          refine bindE d1 ?_
          rw [if_neg hne]
          refine bindE ht ?_
          rw [if_neg (by exact n10)]
          refine bindE m1 ?_
          rw [e2]
          by_cases q4 : r'.1 = 0
          · rw [if_pos q4, q4]
          · rw [if_neg q4]
            have : r'.1 = 1 := by
              have := m2.1
              cases hb : qO b (qE b i + 1) with
              | false => rw [hb] at this; exact absurd this q4
              | true => rw [hb] at this; exact this
            rw [this]
    · rw [if_neg q]
      have hle : ¬ v.1 ≤ 0 := by
        rw [v2, k2]
        have hk0 : k ≠ 0 := fun e => q (by rw [k2, e])
        exact nI_ge (a := 0) (b := k) (by omega) (by omega)
      refine ⟨(1, v.2.1, v.2.2, nI (qE b i), nI (gB b i), x4, x5, x6, x7, nI dn, v.1, s), ?_, rfl, rfl, v2, IM_mono h (by omega) (by omega)⟩
      refine bindE (a := .inl (1, v.2.1, v.2.2, nI (qE b i), nI (gB b i), x4, x5, x6, x7, nI dn, v.1, s)) ?_ rfl
      show (if _ then _ else (if _ then _ else (s_X11_stopOfPart sp sm (nI (qE b i)) (nI (gB b i)) x4 x5 x6 x7 s text).bind _)) = _
      rw [if_neg (by exact n10), if_neg (by decide)]
      refine bindE v1 ?_
      rw [if_neg hle]
