/-! the law: texts, saved states, works -/
theorem RepB_app {b : List Nat} {sz : Int32} {cs : Nat → Int32} {x : Nat} (h : RepB b sz cs) (h60 : b.length < 60) (h1 : 33 ≤ x) (h2 : x ≤ 126) : RepB (b ++ [x]) (nI (b.length + 1)) (upd cs b.length (nI x)) := by
  obtain ⟨r1, r2, r3⟩ := h
  refine ⟨by rw [List.length_append]; rfl, by rw [List.length_append]; simp; omega, fun i hi => ?_⟩
  rw [List.length_append] at hi
  have hi : i < b.length + 1 := hi
  by_cases q : i = b.length
  · subst q
    rw [getD_app2, upd_s]
    exact ⟨rfl, h1, h2⟩
  · rw [getD_app1 (by omega), upd_o q]
    exact r3 i (by omega)
section
variable {B : Nat} {S : aS} {H : List aS} {T : Option aS} {b : List Nat} {c hv hn bc ms mv mn mx wl : Nat → Int32} {ho hs ht bs mm mt ml th ws sp sm rl pl kd on tw t3 bg dn sb : Int32} {rp : Nat} {o : Nat → Int64}
theorem w_append (J : JR B S H T b c ho hs ht hv hn bs bc mm mt ml ms mv mn mx) (a1 : Int32) : ∃ k v o' bs' bc' ml' mx', s_L_append a1 bs bc o = some (k, bs', bc', o') ∧ s_X11_append a1 ml th mx = some (v, ml', k, mx') ∧ (k = 0 → o' 0 = Int32.toInt64 v) ∧ ∃ b', JR B S H T b' c ho hs ht hv hn bs' bc' mm mt ml' ms mv mn mx' := by
  obtain ⟨h1, h2, h3, h4, h5, h6, h7, h8⟩ := id J
  have hbs := h4.1
  have hml := h8.1
  have h60 := h4.2.1
  subst hbs hml
  have bad : a1 < 33 ∨ (¬ a1 < 33 ∧ ¬ a1 ≤ 126) → s_X11_in a1 33 126 = some 0 → ∃ k v o' bs' bc' ml' mx', s_L_append a1 (nI b.length) bc o = some (k, bs', bc', o') ∧ s_X11_append a1 (nI b.length) th mx = some (v, ml', k, mx') ∧ (k = 0 → o' 0 = Int32.toInt64 v) ∧ ∃ b', JR B S H T b' c ho hs ht hv hn bs' bc' mm mt ml' ms mv mn mx' := fun q qi => by
    refine ⟨1, 0, o, nI b.length, bc, nI b.length, mx, ?_, bindE qi rfl, fun e => absurd e (by decide), b, J⟩
    refine bindE (a := (.inr "java/lang/IllegalArgumentException", nI b.length, bc)) ?_ rfl
    rcases q with q | ⟨q1, q2⟩
    · show (if _ then _ else _) = _
      rw [if_pos q]
    · show (if _ then _ else (if _ then _ else _)) = _
      rw [if_neg q1, if_neg q2]
  rcases rng a1 127 (by omega) with ⟨x, hx, rfl⟩ | q | ⟨q, q2⟩
  · by_cases q33 : x < 33
    · exact bad (Or.inl (nI_lt (b := 33) q33 (by omega))) (in_F1 (lo := 33) (nI_lt q33 (by omega)))
    · have hin : s_X11_in (nI x) 33 126 = some 1 := in_T (lo := 33) (hi := 126) (by omega) (by omega) (by omega)
      have n1 : ¬ nI x < 33 := nI_nlt (b := 33) (by omega) (by omega)
      have n2 : nI x ≤ 126 := nI_le (b := 126) (by omega) (by omega)
      by_cases q60 : b.length < 60
      · have hful : s_X1_isFull (nI b.length) = some 0 := if_pos (nI_lt (b := 60) q60 (by omega))
        have hadd : s_X1_add (nI x) (nI b.length) bc = some (nI (b.length + 1), nI (b.length + 1), upd bc b.length (nI x)) := by
          simp (disch := omega) only [s_X1_add, ↓reduceIte, nI_lit, mO_lit, mO_lt, mO_le, mO_gt, mO_ge, mO_ne, mO_ne', nI_add, nI_mul, nI_addlit0, bsome, c_le_f, c_le_t, c_lt_f, c_lt_t, c_eq_f, c_eq_t, if_true, if_false, fld_n, fst_n]
        refine ⟨0, nI (b.length + 1), oW o _, nI (b.length + 1), upd bc b.length (nI x), nI (b.length + 1), upd mx b.length (nI x), ?_, ?_, fun _ => rfl, b ++ [x], h1, h2, h3, RepB_app h4 q60 (by omega) (by omega), h5, h6, h7, RepB_app h8 q60 (by omega) (by omega)⟩
        · refine bindE (a := (.inl (nI (b.length + 1)), nI (b.length + 1), upd bc b.length (nI x))) ?_ rfl
          show (if _ then _ else (if _ then _ else _)) = _
          rw [if_neg n1, if_pos n2]
          refine bindE hful ?_
          rw [if_pos rfl]
          exact bindE hadd rfl
        · refine bindE hin ?_
          have ne : ¬ nI b.length = 60 := by rw [show (60 : Int32) = nI 60 from rfl, c_eq_f (by omega) (by omega) (by omega)]; exact id
          rw [if_neg (by exact n10), if_neg ne]
          refine bindE (hold0 th) ?_
          rw [if_neg (by exact n10)]
          refine fstE (i := b.length) rfl q60 (by omega) ?_
          rw [show nI b.length + 1 = nI (b.length + 1) from nI_add _ 1]
      · have e60 : b.length = 60 := by omega
        refine ⟨2, 0, o, nI b.length, bc, nI b.length, mx, ?_, ?_, fun e => absurd e (by decide), b, J⟩
        · refine bindE (a := (.inr "java/lang/IllegalStateException", nI b.length, bc)) ?_ rfl
          show (if _ then _ else (if _ then _ else _)) = _
          rw [if_neg n1, if_pos n2, e60]
          rfl
        · refine bindE hin ?_
          rw [if_neg (by exact n10), if_pos (by rw [e60]; rfl)]
          rfl
  · exact bad (Or.inl (neg_lt (m := 33) q (by omega))) (in_F1 (lo := 33) (neg_lt q (by omega)))
  · have hgt := lt_of (m := 126) q2 (by omega) (by omega)
    refine bad ?_ (in_F2 (hi := 126) hgt)
    by_cases q4 : a1 < 33
    · exact Or.inl q4
    · exact Or.inr ⟨q4, nle_of (m := 126) q2 (by omega) (by omega)⟩
theorem w_first (J : JR B S H T b c ho hs ht hv hn bs bc mm mt ml ms mv mn mx) : ∃ v rp' rl' sp' sm' pl' kd' on' tw' t3' bg' dn' sb', s_X10_firstError bs bc rp rl = some (v, rp', rl') ∧ s_X11_firstError ml th sp sm pl kd on tw t3 bg dn sb ms mx = some (v, 0, sp', sm', pl', kd', on', tw', t3', bg', dn', sb', ms) := by
  obtain ⟨h1, h2, h3, h4, h5, h6, h7, h8⟩ := id J
  obtain ⟨e, p', k', r1, r2, r3, r4, r5, r6⟩ := rdA (pt := rp) (pl := rl) h4
  obtain ⟨⟨x1, x2, x3, x4, x5, x6, x7, x8, x9, x10, x11, x12⟩, m1, m2, m3, m4⟩ := mtA (sp := sp) (sm := sm) (pl := pl) (kd := kd) (on := on) (tw := tw) (th := t3) (bg := bg) (dn := dn) (sb := sb) (s := ms) h8
  have m2 : x1 = _ := m2
  have m3 : x4 = _ := m3
  have m4 : x12 = ms := m4
  subst m2 m3 m4
  have hml := h8.1
  refine ⟨nI e, p', nI k', x2, x3, nI (scn b 61 0).2, x5, x6, x7, x8, x9, x10, x11, bindE r1 rfl, bindE m1 ?_⟩
  cases hq : (scn b 61 0).1 with
  | false =>
    rw [if_pos (show (bI false : Int32) = 0 from rfl), r2]; rfl
  | true =>
    rw [if_neg (by exact n10), r2, scn_L b 61 0 hq, hml]; rfl
theorem w_work (J : JR B S H T b c ho hs ht hv hn bs bc mm mt ml ms mv mn mx) (hB : B + 61 < 1000000) : ∃ k v o' c' ho' hs' hv' bs' rp' rl' w1 w2 mm' ml' sp' sm' pl' kd' on' tw' t3' bg' dn' sb' ms' mv',
    s_L_work c ho hs hv bs bc rp rl ws wl o = some (k, c', ho', hs', hv', bs', rp', rl', w1, w2, o') ∧ s_X11_work mm ml th sp sm pl kd on tw t3 bg dn sb ms mv mx = some (v, mm', ml', k, sp', sm', pl', kd', on', tw', t3', bg', dn', sb', ms', mv') ∧ (k = 0 → o' 0 = Int32.toInt64 v) ∧
    ∃ S' H' b', JR (B + 61) S' H' T b' c' ho' hs' ht hv' hn bs' bc mm' mt ml' ms' mv' mn mx := by
  obtain ⟨h1, h2, h3, h4, h5, h6, h7, h8⟩ := id J
  obtain ⟨e, p', k', r1, r2, r3, r4, r5, r6⟩ := rdA (pt := rp) (pl := rl) h4
  obtain ⟨⟨x1, x2, x3, x4, x5, x6, x7, x8, x9, x10, x11, x12⟩, m1, m2, m3, m4⟩ := mtA (sp := sp) (sm := sm) (pl := pl) (kd := kd) (on := on) (tw := tw) (th := t3) (bg := bg) (dn := dn) (sb := sb) (s := ms) h8
  have m2 : x1 = _ := m2
  have m4 : x12 = ms := m4
  clear m3
  rw [m4] at m1
  subst m2
  clear m4
  have hml := h8.1
  have hbs := h4.1
  have h60 := h4.2.1
  subst hml hbs
  cases hq : (scn b 61 0).1 with
  | false =>
    rw [hq] at m1 r6
    refine ⟨1, 0, o, c, ho, hs, hv, nI b.length, p', nI k', ws, wl, mm, nI b.length, x2, x3, x4, x5, x6, x7, x8, x9, x10, x11, ms, mv, ?_, bindE m1 rfl, fun e => absurd e (by decide), S, H, b, JR_mono J (by omega) hB⟩
    refine bindE (a := (.inr "java/lang/IllegalArgumentException", c, ho, hs, hv, nI b.length, p', nI k', ws, wl)) (bindE r1 (bindE rfl ?_)) rfl
    by_cases qe : e < b.length
    · rw [if_pos (by exact nI_lt qe (by omega))]
    · have hm := mayE p' r4 k' r5
      rw [r6 (by omega)] at hm
      rw [if_neg (by exact nI_nlt (by omega) (by omega))]
      refine bindE hm ?_
      rw [if_pos (by rfl)]
  | true =>
    have hL := scn_L b 61 0 hq
    rw [hq] at m1 r6
    have hm := mayE p' r4 k' r5
    rw [r6 (by omega)] at hm
    obtain ⟨⟨p1, p2, p3⟩, s1, s2⟩ := psh h1 h2
    obtain ⟨⟨q1, q2⟩, t1, t2⟩ := msave h5 h6
    obtain ⟨⟨y1, y2, y3, y4, y5, y6⟩, z1, z2, z3, z4⟩ := cwk h4 61 0 0 B gF S c ws wl h1 hq (Or.inl rfl) (by omega) hB (by unfold gF; omega)
    obtain ⟨r', k1, k2⟩ := id (rpA (kd := x5) (on := x6) (tw := x7) (th := x8) (bg := x9) h8 (q := 0) (by omega))
    obtain ⟨⟨u1, u2, u3, u4, u5, u6, u7, u8, u9, u10, u11, u12⟩, v1, v2, v3, v4, v5⟩ := mwk h8 61 0 0 B gF r' x2 x3 (nI 0) S ms ⟨r', rfl, k2⟩ h5 hq (by omega) hB (by unfold gF; omega)
    have z2 : y1 = _ := z2
    have z3 : y2 = _ := z3
    have z4 : IC (B + 61) (exS b 61 0 0 S).2.2 y4 := z4
    have v2 : u1 = _ := v2
    have v3 : u10 = _ := v3
    have v4 : u11 = _ := v4
    have v5 : IM (B + 61) (exS b 61 0 0 S).2.2 u12 := v5
    subst z2 z3 v2 v3 v4
    have hex6 : ∀ (n i dn : Nat) (S : aS), ∃ k, k ≤ 6 ∧ (exS b n i dn S).2.1 = nI k := by
      intro n
      induction n with
      | zero => intro i dn S; exact ⟨0, by omega, rfl⟩
      | succ n ih =>
        intro i dn S
        have ee : exS b (n + 1) i dn S = if rsn b i S = nI 0 then (if qE b i = b.length then (dn + 1, nI 0, act b i S) else exS b n (qE b i + 1) (dn + 1) (act b i S)) else (dn, rsn b i S, S) := rfl
        rw [ee]
        by_cases q : rsn b i S = nI 0
        · rw [if_pos q]
          by_cases q2 : qE b i = b.length
          · rw [if_pos q2]; exact ⟨0, by omega, rfl⟩
          · rw [if_neg q2]; exact ih _ _ _
        · rw [if_neg q]; exact rsn_6 b i S
    obtain ⟨kk, kk1, kk2⟩ := hex6 61 0 0 S
    have hrd2 : s_X11_readText 1 (nI b.length) x2 x3 x4 x5 x6 x7 x8 x9 x10 x11 ms mx = some (nI 1, u2, u3, u4, u5, u6, u7, u8, u9, nI (exS b 61 0 0 S).1, (exS b 61 0 0 S).2.1, u12) := bindE k1 v1
    have hC := IC_sp (x := nI (exS b 61 0 0 S).1) (y := (exS b 61 0 0 S).2.1) z4
    have hM := IM_sp (x := nI (exS b 61 0 0 S).1) (y := (exS b 61 0 0 S).2.1) v5
    generalize exS b 61 0 0 S = E at *
    obtain ⟨e1, e2, e3⟩ := E
    have kk2 : e2 = nI kk := kk2
    subst kk2
    refine ⟨0, nI e1, oW o _, upd (upd y4 5 (nI e1)) 6 (nI kk), p1, p2, p3, 0, p', nI k', y5, y6, q1, 0, u2, u3, u4, u5, u6, u7, u8, u9, nI e1, nI kk, upd (upd u12 6 (if nI kk = nI 0 then mO else nI e1)) 7 (if nI kk = nI 0 then mO else nI kk), q2, ?_, ?_, fun _ => rfl, aSp (nI e1, nI kk) e3, pushH H S, [], hC, RepH_mono s2 (by omega) hB, TC_mono h3 (by omega) hB, RepB_nil, hM, RepHM_mono t2 (by omega) hB, TM_mono h7 (by omega) hB, RepB_nil⟩
    · refine bindE (a := (.inl (nI e1), upd (upd y4 5 (nI e1)) 6 (nI kk), p1, p2, p3, 0, p', nI k', y5, y6)) (bindE r1 (bindE rfl ?_)) rfl
      rw [if_neg (by exact nI_nlt (by omega) (by omega))]
      refine bindE hm ?_
      rw [if_neg (by exact n10)]
      exact bindE s1 (bindE z1 (bindE (put_ok (i := 5) (by omega)) (bindE (put_ok (i := 6) (by omega)) (bindE rfl rfl))))
    · refine bindE m1 ?_
      rw [if_neg (by exact n10)]
      refine bindE (hold0 th) ?_
      rw [if_neg (by exact n10)]
      refine bindE t1 (bindE hrd2 ?_)
      by_cases q : kk = 0
      · subst q
        have n00 : nI 0 ≤ 0 := by decide
        rw [if_pos (by exact n00)]
        refine fstE (i := 6) rfl (by omega) (by omega) ?_
        rw [if_pos (by exact n00)]
        refine fstE (i := 7) rfl (by omega) (by omega) ?_
        rw [if_neg (by exact n10), if_pos rfl, if_pos rfl]
        rfl
      · have n0 : ¬ nI kk ≤ 0 := nI_ge (a := 0) (by omega) (by omega)
        have n1 : ¬ nI kk = nI 0 := nI_ne0 (by omega) (by omega)
        rw [if_neg (by exact n0)]
        refine fstE (i := 6) rfl (by omega) (by omega) ?_
        rw [if_neg (by exact n0)]
        refine fstE (i := 7) rfl (by omega) (by omega) ?_
        rw [if_neg (by exact n10), if_neg n1, if_neg n1]
theorem w_undo (J : JR B S H T b c ho hs ht hv hn bs bc mm mt ml ms mv mn mx) : ∃ k v o' c' hs' mm' ms', s_L_undo c ho hs hv o = some (k, c', hs', o') ∧ s_X11_undo mm th ms mv = some (v, mm', k, ms') ∧ (k = 0 → o' 0 = Int32.toInt64 v) ∧ ∃ S' H', JR B S' H' T b c' ho hs' ht hv hn bs bc mm' mt ml ms' mv mn mx := by
  obtain ⟨h1, h2, h3, h4, h5, h6, h7, h8⟩ := id J
  have hhs : hs = nI H.length := by obtain ⟨o, _, _, q, _⟩ := h2; exact q
  have hmm : mm = nI H.length := h6.1
  have h66 : H.length ≤ 6 := h6.2.1
  rcases Nat.eq_zero_or_pos H.length with q | q
  · rw [q] at hhs hmm
    subst hhs hmm
    exact ⟨1, 0, o, c, nI 0, nI 0, ms, rfl, rfl, fun e => absurd e (by decide), S, H, J⟩
  · obtain ⟨n, hn'⟩ : ∃ n, H.length = n + 1 := ⟨H.length - 1, by omega⟩
    rw [hn'] at hhs hmm
    subst hhs hmm
    obtain ⟨c', s1, s2, s3⟩ := pop (c := c) h2 hn'
    obtain ⟨m', t1, t2, t3⟩ := mpop (s := ms) h6 hn'
    have e1 : nI (n + 1) - 1 = nI n := nI_sub (b := 1) (by omega)
    refine ⟨0, nI n, oW o _, c', nI n, nI n, m', ?_, ?_, fun _ => rfl, gS H n, H.take n, s2, s3, h3, h4, t2, t3, h7, h8⟩
    · refine bindE (a := (.inl (nI n), c', nI n)) ?_ rfl
      show (if _ then _ else _) = _
      rw [if_neg (by exact nI_ne0 (by omega) (by omega))]
      exact bindE s1 rfl
    · show (if _ then _ else _) = _
      rw [if_neg (by exact nI_ge (a := 0) (by omega) (by omega))]
      refine bindE (hold0 th) ?_
      rw [if_neg (by exact n10)]
      refine bindE t1 ?_
      rw [e1]
theorem w_keep (J : JR B S H T b c ho hs ht hv hn bs bc mm mt ml ms mv mn mx) : ∃ v ht' hn' mt' mn', s_X10_keep c ht hn = some (v, ht', hn') ∧ s_X11_keep mt th ms mn = some (v, mt', 0, mn') ∧ ∃ T', JR B S H T' b c ho hs ht' hv hn' bs bc mm mt' ml ms mv mn' mx := by
  obtain ⟨h1, h2, h3, h4, h5, h6, h7, h8⟩ := id J
  obtain ⟨r, s1, s2⟩ := ctake (sn := hn) h1
  obtain ⟨r', t1, t2⟩ := mtake (sn := mn) h5
  have hsu : s_X11_sumOf 1 ms = some (sI 5 (fun f => fN S f 1)) := msu (j := 1) h5 (by omega)
  exact ⟨sI 5 (fun f => fN S f 1), 1, r, 1, r', bindE (bindE s1 rfl) (bindE (nmA h1) rfl), bindE t1 (bindE hsu rfl), some S, h1, h2, ⟨rfl, s2⟩, h4, h5, h6, ⟨rfl, t2⟩, h8⟩
theorem w_restore (J : JR B S H T b c ho hs ht hv hn bs bc mm mt ml ms mv mn mx) : ∃ k v o' c' ho' hs' hv' mm' ms' mv', s_L_restore c ho hs ht hv hn o = some (k, c', ho', hs', hv', o') ∧ s_X11_restore mm mt th ms mv mn = some (v, mm', k, ms', mv') ∧ (k = 0 → o' 0 = Int32.toInt64 v) ∧ ∃ S' H', JR B S' H' T b c' ho' hs' ht hv' hn bs bc mm' mt ml ms' mv' mn mx := by
  obtain ⟨h1, h2, h3, h4, h5, h6, h7, h8⟩ := id J
  cases T with
  | none =>
    have h3 : ht = nI 0 := h3
    have h7 : mt = nI 0 := h7
    subst h3 h7
    exact ⟨1, 0, o, c, ho, hs, hv, mm, ms, mv, bindE (a := (.inr "java/lang/IllegalStateException", c, ho, hs, hv)) (bindE (a := 0) (fz_b (b := false)) rfl) rfl, rfl, fun e => absurd e (by decide), S, H, J⟩
  | some S2 =>
    obtain ⟨e1, i1⟩ := h3
    obtain ⟨e2, i2⟩ := h7
    subst e1 e2
    obtain ⟨⟨p1, p2, p3⟩, s1, s2⟩ := psh h1 h2
    obtain ⟨⟨q1, q2⟩, t1, t2⟩ := msave h5 h6
    obtain ⟨c', u1, u2⟩ := cload (c := c) i1
    obtain ⟨m', v1, v2⟩ := mtake (sn := ms) i2
    have hsu : s_X11_sumOf 1 m' = some (sI 5 (fun f => fN S2 f 1)) := msu (j := 1) v2 (by omega)
    refine ⟨0, sI 5 (fun f => fN S2 f 1), oW o _, c', p1, p2, p3, q1, m', q2, ?_, ?_, fun _ => rfl, S2, pushH H S, u2, s2, ⟨rfl, i1⟩, h4, v2, t2, ⟨rfl, i2⟩, h8⟩
    · refine bindE (a := (.inl (sI 5 (fun f => fN S2 f 1)), c', p1, p2, p3)) (bindE (a := 1) (fz_b (b := true)) ?_) rfl
      rw [if_neg (by exact n10)]
      exact bindE s1 (bindE (bindE u1 rfl) (bindE (nmA u2) rfl))
    · show (if _ then _ else _) = _
      rw [if_neg (by exact n10)]
      refine bindE (hold0 th) ?_
      rw [if_neg (by exact n10)]
      exact bindE t1 (bindE v1 (bindE hsu rfl))
end
