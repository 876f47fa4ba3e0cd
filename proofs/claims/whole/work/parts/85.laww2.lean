/-! the law: belts, settings, texts, saved states -/
theorem RepM_head {S S' : aS} {s s' : Nat → Int32} (h : RepM S s) (hl : LnS S) (h1 : HdM S' s') (fr : ∀ j, 8 ≤ j → s' j = s j) (hS : sB S' = sB S ∧ sLn S' = sLn S ∧ sLo S' = sLo S ∧ sGi S' = sGi S ∧ sE S' = sE S) : RepM S' s' := by
  obtain ⟨s1, s2, s3, s4, s5⟩ := hS
  have hd := fm_def 0
  have hw := wh_def 0 0
  refine RepM_blk (f := 0) h hl (by omega) s5 h1 (fun j h8 _ _ => fr j h8) (fun g _ => ⟨by rw [s1], by rw [s2], by rw [s3], by rw [s4]⟩) ?_
  obtain ⟨⟨a0, a1, a2, a3⟩, a4⟩ := h.2.1 0 (by omega)
  refine ⟨⟨by rw [fr _ (by omega), s2]; exact a0, by rw [fr _ (by omega), s1]; exact a1, by rw [fr _ (by omega), s3]; exact a2, by rw [fr _ (by omega), s4]; exact a3⟩, fun n hn => ?_⟩
  have e : nm S' 0 n = nm S 0 n := by unfold nm; rw [s1]
  rw [s1] at hn
  rw [e]
  have := wh_def 0 n
  exact MN_move (a4 n hn) ((hl.1 0 (by omega)).2 n hn).2 (fun j hj => fr _ (by omega))
def aSd (v : Nat) : aS → aS
  | (Bs, E, st, _, r) => (Bs, E, st, v, r)
def aSb (v : Nat) : aS → aS
  | (Bs, E, st, d, _, r) => (Bs, E, st, d, v, r)
def aSp (x : Int32 × Int32) : aS → aS
  | (Bs, E, st, d, b, kt, ct, _, r) => (Bs, E, st, d, b, kt, ct, x, r)
theorem IC_d {B v : Nat} {S : aS} {c : Nat → Int32} (h : IC B S c) (h1 : 1 ≤ v) (h9 : v ≤ 9) : IC B (aSd v S) (upd c 1 (nI v)) := by
  obtain ⟨g0, g1, g2, g3, g4, g5, g6, g7⟩ := h.1.1
  have hl := h.2.lns
  obtain ⟨hR, ⟨o1, o2⟩⟩ := h
  obtain ⟨Bs, E, st, d, b, kt, ct, sp, r⟩ := S
  refine ⟨RepC_head hR hl ⟨?_, upd_s, ?_, ?_, ?_, ?_, ?_, ?_⟩ (fun j hj => upd_o (by omega)) ⟨rfl, rfl, rfl, rfl, rfl⟩, ⟨o1.1, o1.2.1, h1, h9, o1.2.2.2.2⟩, o2⟩
  · rw [upd_o (by omega)]; exact g0
  · rw [upd_o (by omega)]; exact g2
  · rw [upd_o (by omega)]; exact g3
  · rw [upd_o (by omega)]; exact g4
  · rw [upd_o (by omega)]; exact g5
  · rw [upd_o (by omega)]; exact g6
  · rw [upd_o (by omega)]; exact g7
theorem IC_b {B v : Nat} {S : aS} {c : Nat → Int32} (h : IC B S c) (h8 : v ≤ 8) : IC B (aSb v S) (upd c 2 (nI v)) := by
  obtain ⟨g0, g1, g2, g3, g4, g5, g6, g7⟩ := h.1.1
  have hl := h.2.lns
  obtain ⟨hR, ⟨o1, o2⟩⟩ := h
  obtain ⟨Bs, E, st, d, b, kt, ct, sp, r⟩ := S
  refine ⟨RepC_head hR hl ⟨?_, ?_, upd_s, ?_, ?_, ?_, ?_, ?_⟩ (fun j hj => upd_o (by omega)) ⟨rfl, rfl, rfl, rfl, rfl⟩, ⟨o1.1, o1.2.1, o1.2.2.1, o1.2.2.2.1, h8⟩, o2⟩
  · rw [upd_o (by omega)]; exact g0
  · rw [upd_o (by omega)]; exact g1
  · rw [upd_o (by omega)]; exact g3
  · rw [upd_o (by omega)]; exact g4
  · rw [upd_o (by omega)]; exact g5
  · rw [upd_o (by omega)]; exact g6
  · rw [upd_o (by omega)]; exact g7
theorem IC_sp {B : Nat} {x y : Int32} {S : aS} {c : Nat → Int32} (h : IC B S c) : IC B (aSp (x, y) S) (upd (upd c 5 x) 6 y) := by
  obtain ⟨g0, g1, g2, g3, g4, g5, g6, g7⟩ := h.1.1
  have hl := h.2.lns
  obtain ⟨hR, ⟨o1, o2⟩⟩ := h
  obtain ⟨Bs, E, st, d, b, kt, ct, sp, r⟩ := S
  refine ⟨RepC_head hR hl ⟨?_, ?_, ?_, ?_, ?_, ?_, upd_s, ?_⟩ (fun j hj => by rw [upd_o (by omega), upd_o (by omega)]) ⟨rfl, rfl, rfl, rfl, rfl⟩, o1, o2⟩
  · rw [upd_o (by omega), upd_o (by omega)]; exact g0
  · rw [upd_o (by omega), upd_o (by omega)]; exact g1
  · rw [upd_o (by omega), upd_o (by omega)]; exact g2
  · rw [upd_o (by omega), upd_o (by omega)]; exact g3
  · rw [upd_o (by omega), upd_o (by omega)]; exact g4
  · rw [upd_o (by omega), upd_s]; rfl
  · rw [upd_o (by omega), upd_o (by omega)]; exact g7
theorem IM_d {B v : Nat} {S : aS} {s : Nat → Int32} (h : IM B S s) (h1 : 1 ≤ v) (h9 : v ≤ 9) : IM B (aSd v S) (upd s 4 (nI v)) := by
  obtain ⟨g0, g1, g2, g3, g4, g5, g6, g7⟩ := h.1.1
  have hl := h.2.lns
  obtain ⟨hR, ⟨o1, o2⟩⟩ := h
  obtain ⟨Bs, E, st, d, b, kt, ct, sp, r⟩ := S
  refine ⟨RepM_head hR hl ⟨?_, ?_, ?_, ?_, upd_s, ?_, ?_, ?_⟩ (fun j hj => upd_o (by omega)) ⟨rfl, rfl, rfl, rfl, rfl⟩, ⟨o1.1, o1.2.1, h1, h9, o1.2.2.2.2⟩, o2⟩
  · rw [upd_o (by omega)]; exact g0
  · rw [upd_o (by omega)]; exact g1
  · rw [upd_o (by omega)]; exact g2
  · rw [upd_o (by omega)]; exact g3
  · rw [upd_o (by omega)]; exact g5
  · rw [upd_o (by omega)]; exact g6
  · rw [upd_o (by omega)]; exact g7
theorem IM_b {B v : Nat} {S : aS} {s : Nat → Int32} (h : IM B S s) (h8 : v ≤ 8) : IM B (aSb v S) (upd s 5 (nI v)) := by
  obtain ⟨g0, g1, g2, g3, g4, g5, g6, g7⟩ := h.1.1
  have hl := h.2.lns
  obtain ⟨hR, ⟨o1, o2⟩⟩ := h
  obtain ⟨Bs, E, st, d, b, kt, ct, sp, r⟩ := S
  refine ⟨RepM_head hR hl ⟨?_, ?_, ?_, ?_, ?_, upd_s, ?_, ?_⟩ (fun j hj => upd_o (by omega)) ⟨rfl, rfl, rfl, rfl, rfl⟩, ⟨o1.1, o1.2.1, o1.2.2.1, o1.2.2.2.1, h8⟩, o2⟩
  · rw [upd_o (by omega)]; exact g0
  · rw [upd_o (by omega)]; exact g1
  · rw [upd_o (by omega)]; exact g2
  · rw [upd_o (by omega)]; exact g3
  · rw [upd_o (by omega)]; exact g4
  · rw [upd_o (by omega)]; exact g6
  · rw [upd_o (by omega)]; exact g7
theorem IM_sp {B : Nat} {x y : Int32} {S : aS} {s : Nat → Int32} (h : IM B S s) : IM B (aSp (x, y) S) (upd (upd s 6 (if y = nI 0 then mO else x)) 7 (if y = nI 0 then mO else y)) := by
  obtain ⟨g0, g1, g2, g3, g4, g5, g6, g7⟩ := h.1.1
  have hl := h.2.lns
  obtain ⟨hR, ⟨o1, o2⟩⟩ := h
  obtain ⟨Bs, E, st, d, b, kt, ct, sp, r⟩ := S
  refine ⟨RepM_head hR hl ⟨?_, ?_, ?_, ?_, ?_, ?_, ?_, ?_⟩ (fun j hj => by rw [upd_o (by omega), upd_o (by omega)]) ⟨rfl, rfl, rfl, rfl, rfl⟩, o1, o2⟩
  · rw [upd_o (by omega), upd_o (by omega)]; exact g0
  · rw [upd_o (by omega), upd_o (by omega)]; exact g1
  · rw [upd_o (by omega), upd_o (by omega)]; exact g2
  · rw [upd_o (by omega), upd_o (by omega)]; exact g3
  · rw [upd_o (by omega), upd_o (by omega)]; exact g4
  · rw [upd_o (by omega), upd_o (by omega)]; exact g5
  · rw [upd_o (by omega), upd_s]; rfl
  · rw [upd_s]; rfl
theorem set_0 {a2 ho hs : Int32} {c hv : Nat → Int32} : s_X10_set 0 a2 c ho hs hv = if a2 < 1 then some (.inr "java/lang/IllegalArgumentException", c, ho, hs, hv) else if a2 ≤ 9 then ((s_X3_push ho hs hv c).bind fun v10 => (s_X7_at (1 + 0) c).bind fun v11 => (s_X7_put (1 + 0) a2 c).bind fun v12 => some (.inl v11, v12, v10.1, v10.2.1, v10.2.2)) else some (.inr "java/lang/IllegalArgumentException", c, ho, hs, hv) := by
  unfold s_X10_set
  rw [if_pos rfl, if_pos rfl, if_pos rfl]
theorem set_1 {a2 ho hs : Int32} {c hv : Nat → Int32} : s_X10_set 1 a2 c ho hs hv = if a2 < 0 then some (.inr "java/lang/IllegalArgumentException", c, ho, hs, hv) else if a2 ≤ 8 then ((s_X3_push ho hs hv c).bind fun v10 => (s_X7_at (1 + 1) c).bind fun v11 => (s_X7_put (1 + 1) a2 c).bind fun v12 => some (.inl v11, v12, v10.1, v10.2.1, v10.2.2)) else some (.inr "java/lang/IllegalArgumentException", c, ho, hs, hv) := by
  unfold s_X10_set
  have e : ¬ (1 : Int32) = 0 := by decide
  rw [if_neg e, if_pos rfl, if_neg e, if_neg e]
section
variable {B : Nat} {S : aS} {H : List aS} {T : Option aS} {b : List Nat} {c hv hn bc ms mv mn mx wl : Nat → Int32} {ho hs ht bs mm mt ml th ws sp sm : Int32} {o : Nat → Int64}
theorem w_belt (J : JR B S H T b c ho hs ht hv hn bs bc mm mt ml ms mv mn mx) (a1 a2 : Int32) : ∃ k v o' c' ho' hs' hv' mm' ms' mv', s_L_belt a1 a2 c ho hs hv o = some (k, c', ho', hs', hv', o') ∧ s_X11_belt a1 a2 mm th ms mv = some (v, mm', k, ms', mv') ∧ (k = 0 → o' 0 = Int32.toInt64 v) ∧ ∃ S' H', JR B S' H' T b c' ho' hs' ht hv' hn bs bc mm' mt ml ms' mv' mn mx := by
  obtain ⟨h1, h2, h3, h4, h5, h6, h7, h8⟩ := id J
  rcases fishD a1 with ⟨f, hf, rfl⟩ | ⟨w1, w2⟩
  · obtain ⟨f1, f2⟩ := fishT hf
    have bad : a2 < 20 ∨ (¬ a2 < 20 ∧ ¬ a2 ≤ 120) → s_X11_in a2 20 120 = some 0 → ∃ k v o' c' ho' hs' hv' mm' ms' mv', s_L_belt (nI f) a2 c ho hs hv o = some (k, c', ho', hs', hv', o') ∧ s_X11_belt (nI f) a2 mm th ms mv = some (v, mm', k, ms', mv') ∧ (k = 0 → o' 0 = Int32.toInt64 v) ∧ ∃ S' H', JR B S' H' T b c' ho' hs' ht hv' hn bs bc mm' mt ml ms' mv' mn mx := fun q qi => by
      refine ⟨2, 0, o, c, ho, hs, hv, mm, ms, mv, ?_, ?_, fun e => absurd e (by decide), S, H, J⟩
      · refine bindE (a := (.inr "java/lang/IllegalArgumentException", c, ho, hs, hv)) (bindE f1 ?_) rfl
        rw [fth_l]
        rcases q with q | ⟨q1, q2⟩
        · exact if_pos q
        · show (if _ then _ else (if _ then _ else _)) = _
          rw [if_neg q1, if_neg q2]
      · refine bindE f2 ?_
        rw [if_neg (by exact n10)]
        exact bindE qi rfl
    rcases rng a2 121 (by omega) with ⟨l, hl, rfl⟩ | q | ⟨q, q2⟩
    · by_cases q20 : l < 20
      · exact bad (Or.inl (nI_lt (b := 20) q20 (by omega))) (in_F1 (lo := 20) (nI_lt q20 (by omega)))
      · have hin : s_X11_in (nI l) 20 120 = some 1 := in_T (lo := 20) (hi := 120) (by omega) (by omega) (by omega)
        have n1 : ¬ nI l < 20 := nI_nlt (b := 20) (by omega) (by omega)
        have n2 : nI l ≤ 120 := nI_le (b := 120) (by omega) (by omega)
        have hff := fc_lt hf
        have hat : s_X7_at (nI (fc f + 0)) c = some (nI (sLn S f)) := fcl h1 hf (by omega)
        have hfc : s_X7_fisherCell (nI f) 0 = some (nI (fc f + 0)) := fcell f 0
        have hlf := lft h1 hf
        have hco := mco h5 hf
        have el : nI (sLn S f) - leftI S f = coI S f := by unfold leftI coI; grind
        by_cases q3 : coI S f ≤ nI l
        · obtain ⟨⟨p1, p2, p3⟩, s1, s2⟩ := psh h1 h2
          obtain ⟨⟨q1, q2⟩, t1, t2⟩ := msave h5 h6
          have o2 := OKS_num (f := f) (j := 0) (x := nI l) (v := l) h1.2 (Or.inl ⟨rfl, by omega, by omega⟩)
          have r1 := numC (f := f) (j := 0) (x := nI l) (v := l) h1.1 h1.2.lns hf (Or.inl ⟨rfl, rfl⟩)
          have r2 := mnum (f := f) (j := 0) (x := nI l) (v := l) h5.1 h5.2.lns hf (Or.inl ⟨rfl, rfl⟩)
          have hof : s_X11_of (nI f) 0 ms = some (nI (sLn S f)) := mof0 h5 hf
          have e2 : ms (fm f + 0) = nI (sLn S f) := (h5.1.2.1 f hf).1.1
          have had : s_X11_add (nI f) 0 (nI l - nI (sLn S f)) ms = some (upd ms (fm f + 0) (nI l)) := by
            have := mad (f := f) (j := 0) (x := nI l - nI (sLn S f)) (s := ms) hf (by omega)
            rw [e2, show nI (sLn S f) + (nI l - nI (sLn S f)) = nI l from by grind] at this
            exact this
          refine ⟨0, nI (sLn S f), oW o _, upd c (fc f + 0) (nI l), p1, p2, p3, q1, upd ms (fm f + 0) (nI l), q2, ?_, ?_, fun _ => rfl, aNum 0 f (nI l) l S, pushH H S, ⟨r1, o2⟩, s2, h3, h4, ⟨r2, o2⟩, t2, h7, h8⟩
          · refine bindE (a := (.inl (nI (sLn S f)), upd c (fc f + 0) (nI l), p1, p2, p3)) (bindE f1 ?_) rfl
            rw [fth_l]
            show (if _ then _ else (if _ then _ else _)) = _
            rw [if_neg n1, if_pos n2]
            refine bindE hfc (bindE hat (bindE hlf ?_))
            rw [el, if_pos q3]
            exact bindE s1 (bindE hfc (bindE (put_ok (by omega)) rfl))
          · refine bindE f2 ?_
            rw [if_neg (by exact n10)]
            refine bindE hin ?_
            rw [if_neg (by exact n10)]
            refine bindE hco ?_
            rw [if_pos q3]
            refine bindE (hold0 th) ?_
            rw [if_neg (by exact n10)]
            exact bindE t1 (bindE hof (bindE had rfl))
        · refine ⟨3, 0, o, c, ho, hs, hv, mm, ms, mv, ?_, ?_, fun e => absurd e (by decide), S, H, J⟩
          · refine bindE (a := (.inr "java/lang/IllegalStateException", c, ho, hs, hv)) (bindE f1 ?_) rfl
            rw [fth_l]
            show (if _ then _ else (if _ then _ else _)) = _
            rw [if_neg n1, if_pos n2]
            refine bindE hfc (bindE hat (bindE hlf ?_))
            rw [el, if_neg q3]
          · refine bindE f2 ?_
            rw [if_neg (by exact n10)]
            refine bindE hin ?_
            rw [if_neg (by exact n10)]
            refine bindE hco ?_
            rw [if_neg q3]; rfl
    · exact bad (Or.inl (neg_lt (m := 20) q (by omega))) (in_F1 (lo := 20) (neg_lt q (by omega)))
    · have hgt := lt_of (m := 120) q2 (by omega) (by omega)
      refine bad ?_ (in_F2 (hi := 120) hgt)
      by_cases q4 : a2 < 20
      · exact Or.inl q4
      · exact Or.inr ⟨q4, nle_of (m := 120) q2 (by omega) (by omega)⟩
  · exact ⟨1, 0, o, c, ho, hs, hv, mm, ms, mv, bindE (a := (.inr "java/lang/IndexOutOfBoundsException", c, ho, hs, hv)) (bindE w1 rfl) rfl, bindE w2 rfl, fun e => absurd e (by decide), S, H, J⟩
theorem w_set (J : JR B S H T b c ho hs ht hv hn bs bc mm mt ml ms mv mn mx) (a1 a2 : Int32) : ∃ k v o' c' ho' hs' hv' mm' ms' mv', s_L_set a1 a2 c ho hs hv o = some (k, c', ho', hs', hv', o') ∧ s_X11_set a1 a2 mm th ms mv = some (v, mm', k, ms', mv') ∧ (k = 0 → o' 0 = Int32.toInt64 v) ∧ ∃ S' H', JR B S' H' T b c' ho' hs' ht hv' hn bs bc mm' mt ml ms' mv' mn mx := by
  obtain ⟨h1, h2, h3, h4, h5, h6, h7, h8⟩ := id J
  obtain ⟨⟨p1, p2, p3⟩, s1, s2⟩ := psh h1 h2
  obtain ⟨⟨q1, q2⟩, t1, t2⟩ := msave h5 h6
  by_cases z0 : a1 = 0
  · subst z0
    have hin1 : s_X11_in 0 0 1 = some 1 := rfl
    have bad : a2 < 1 ∨ (¬ a2 < 1 ∧ ¬ a2 ≤ 9) → s_X11_in a2 1 9 = some 0 → ∃ k v o' c' ho' hs' hv' mm' ms' mv', s_L_set 0 a2 c ho hs hv o = some (k, c', ho', hs', hv', o') ∧ s_X11_set 0 a2 mm th ms mv = some (v, mm', k, ms', mv') ∧ (k = 0 → o' 0 = Int32.toInt64 v) ∧ ∃ S' H', JR B S' H' T b c' ho' hs' ht hv' hn bs bc mm' mt ml ms' mv' mn mx := fun q qi => by
      refine ⟨2, 0, o, c, ho, hs, hv, mm, ms, mv, ?_, ?_, fun e => absurd e (by decide), S, H, J⟩
      · refine bindE (a := (.inr "java/lang/IllegalArgumentException", c, ho, hs, hv)) ?_ rfl
        rcases q with q | ⟨q1, q2⟩
        · rw [set_0, if_pos q]
        · rw [set_0, if_neg q1, if_neg q2]
      · show (s_X11_in a2 1 9).bind _ = _
        exact bindE qi (bindE hin1 rfl)
    rcases rng a2 10 (by omega) with ⟨l, hl, rfl⟩ | q | ⟨q, q2⟩
    · by_cases q0 : l < 1
      · exact bad (Or.inl (nI_lt (b := 1) q0 (by omega))) (in_F1 (lo := 1) (nI_lt q0 (by omega)))
      · have hin : s_X11_in (nI l) 1 9 = some 1 := in_T (lo := 1) (hi := 9) (by omega) (by omega) (by omega)
        have n1 : ¬ nI l < 1 := nI_nlt (b := 1) (by omega) (by omega)
        have n2 : nI l ≤ 9 := nI_le (b := 9) (by omega) (by omega)
        have hat : s_X7_at (1 + 0) c = some (nI (sD S)) := by
          have := at_ok (i := 1) (c := c) (by omega)
          rw [h1.1.1.2.1] at this; exact this
        have hpt : s_X7_put (1 + 0) (nI l) c = some (upd c 1 (nI l)) := put_ok (i := 1) (by omega)
        have g4 : ms 4 = nI (sD S) := h5.1.1.2.2.2.2.1
        refine ⟨0, nI (sD S), oW o _, upd c 1 (nI l), p1, p2, p3, q1, upd ms 4 (nI l), q2, ?_, ?_, fun _ => rfl, aSd l S, pushH H S, IC_d h1 (by omega) (by omega), s2, h3, h4, IM_d h5 (by omega) (by omega), t2, h7, h8⟩
        · refine bindE (a := (.inl (nI (sD S)), upd c 1 (nI l), p1, p2, p3)) ?_ rfl
          rw [set_0, if_neg n1, if_pos n2]
          exact bindE s1 (bindE hat (bindE hpt rfl))
        · show (s_X11_in (nI l) 1 9).bind _ = _
          refine bindE hin (bindE hin1 ?_)
          rw [if_neg (by exact n10), if_neg (by exact n10)]
          refine bindE (hold0 th) ?_
          rw [if_neg (by exact n10)]
          exact bindE t1 (fldE (i := 4) rfl (by omega) (by omega) g4 (fstE (i := 4) rfl (by omega) (by omega) rfl))
    · exact bad (Or.inl (neg_lt (m := 1) q (by omega))) (in_F1 (lo := 1) (neg_lt q (by omega)))
    · have hgt := lt_of (m := 9) q2 (by omega) (by omega)
      refine bad ?_ (in_F2 (hi := 9) hgt)
      by_cases q4 : a2 < 1
      · exact Or.inl q4
      · exact Or.inr ⟨q4, nle_of (m := 9) q2 (by omega) (by omega)⟩
  · by_cases z1 : a1 = 1
    · subst z1
      have hin1 : s_X11_in 1 0 1 = some 1 := rfl
      have bad : a2 < 0 ∨ (¬ a2 < 0 ∧ ¬ a2 ≤ 8) → s_X11_in a2 0 8 = some 0 → ∃ k v o' c' ho' hs' hv' mm' ms' mv', s_L_set 1 a2 c ho hs hv o = some (k, c', ho', hs', hv', o') ∧ s_X11_set 1 a2 mm th ms mv = some (v, mm', k, ms', mv') ∧ (k = 0 → o' 0 = Int32.toInt64 v) ∧ ∃ S' H', JR B S' H' T b c' ho' hs' ht hv' hn bs bc mm' mt ml ms' mv' mn mx := fun q qi => by
        refine ⟨2, 0, o, c, ho, hs, hv, mm, ms, mv, ?_, ?_, fun e => absurd e (by decide), S, H, J⟩
        · refine bindE (a := (.inr "java/lang/IllegalArgumentException", c, ho, hs, hv)) ?_ rfl
          rcases q with q | ⟨q1, q2⟩
          · rw [set_1, if_pos q]
          · rw [set_1, if_neg q1, if_neg q2]
        · show (s_X11_in a2 0 8).bind _ = _
          exact bindE qi (bindE hin1 rfl)
      rcases rng a2 9 (by omega) with ⟨l, hl, rfl⟩ | q | ⟨q, q2⟩
      · have hin : s_X11_in (nI l) 0 8 = some 1 := in_T (lo := 0) (hi := 8) (by omega) (by omega) (by omega)
        have n1 : ¬ nI l < 0 := nI_pos (by omega)
        have n2 : nI l ≤ 8 := nI_le (b := 8) (by omega) (by omega)
        have hat : s_X7_at (1 + 1) c = some (nI (sBo S)) := by
          have := at_ok (i := 2) (c := c) (by omega)
          rw [h1.1.1.2.2.1] at this; exact this
        have hpt : s_X7_put (1 + 1) (nI l) c = some (upd c 2 (nI l)) := put_ok (i := 2) (by omega)
        have g5 : ms 5 = nI (sBo S) := h5.1.1.2.2.2.2.2.1
        refine ⟨0, nI (sBo S), oW o _, upd c 2 (nI l), p1, p2, p3, q1, upd ms 5 (nI l), q2, ?_, ?_, fun _ => rfl, aSb l S, pushH H S, IC_b h1 (by omega), s2, h3, h4, IM_b h5 (by omega), t2, h7, h8⟩
        · refine bindE (a := (.inl (nI (sBo S)), upd c 2 (nI l), p1, p2, p3)) ?_ rfl
          rw [set_1, if_neg n1, if_pos n2]
          exact bindE s1 (bindE hat (bindE hpt rfl))
        · show (s_X11_in (nI l) 0 8).bind _ = _
          refine bindE hin (bindE hin1 ?_)
          rw [if_neg (by exact n10), if_neg (by exact n10)]
          refine bindE (hold0 th) ?_
          rw [if_neg (by exact n10)]
          exact bindE t1 (fldE (i := 5) rfl (by omega) (by omega) g5 (fstE (i := 5) rfl (by omega) (by omega) rfl))
      · exact bad (Or.inl q) (in_F1 (lo := 0) q)
      · have hgt := lt_of (m := 8) q2 (by omega) (by omega)
        exact bad (Or.inr ⟨q, nle_of (m := 8) q2 (by omega) (by omega)⟩) (in_F2 (hi := 8) hgt)
    · have hin1 : s_X11_in a1 0 1 = some 0 := by
        rcases rng a1 2 (by omega) with ⟨l, hl, rfl⟩ | q | ⟨q, q2⟩
        · rcases (by omega : l = 0 ∨ l = 1) with rfl | rfl
          · exact absurd rfl z0
          · exact absurd rfl z1
        · exact in_F1 (lo := 0) q
        · exact in_F2 (hi := 1) (lt_of q2 (by omega) (by omega))
      have hx : ∃ r, s_X11_in a2 0 8 = some r := by
        unfold s_X11_in
        by_cases q : a2 < 0
        · rw [if_pos q]; exact ⟨_, rfl⟩
        · rw [if_neg q]
          by_cases q2 : (8 : Int32) < a2
          · rw [if_pos q2]; exact ⟨_, rfl⟩
          · rw [if_neg q2]; exact ⟨_, rfl⟩
      obtain ⟨r, hr⟩ := hx
      refine ⟨1, 0, o, c, ho, hs, hv, mm, ms, mv, ?_, ?_, fun e => absurd e (by decide), S, H, J⟩
      · refine bindE (a := (.inr "java/lang/IndexOutOfBoundsException", c, ho, hs, hv)) ?_ rfl
        show (if _ then _ else (if _ then _ else _)) = _
        rw [if_neg z0, if_neg z1]
      · show (if _ then _ else _) = _
        rw [if_neg z0]
        exact bindE hr (bindE hin1 rfl)
end
