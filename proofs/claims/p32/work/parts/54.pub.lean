/-! the class: its public methods at good arguments -/
theorem fishT {f : Nat} (hf : f < 5) : s_X10_needFisher (nI f) = some (.inl ()) := by
  show (if _ then _ else (if _ then _ else _)) = _
  rw [if_neg (nI_pos (by omega)), if_pos (by exact nI_lt (b := 5) hf (by omega))]
theorem whatT {w N : Nat} (hw : w ≤ N) (hN : N < 2147483648) : s_X10_needWhat (nI w) (nI N) = some (.inl ()) := by
  show (if _ then _ else (if _ then _ else _)) = _
  rw [if_neg (nI_pos (by omega)), if_pos (nI_le hw (by omega))]
section
variable {B : Nat} {S : aS} {c : Nat → Int32} {f n g k w l j : Nat}
theorem nameT (h : IC B S c) (hf : f < 5) (hn : n < (sB S f).length) : s_X10_needName (nI f) (nI n) c = some (.inl ()) := by
  have h6 := h.six hf
  have z1 := hasN h hf (n := n) (by omega)
  rw [decide_eq_true hn] at z1
  refine bindE (fishT hf) (bindE z1 ?_)
  rw [if_neg (by exact n10)]
theorem q_name (h : IC B S c) (hf : f < 5) (hn : n < (sB S f).length) (hw : w ≤ 4) : s_X10_name (nI f) (nI n) (nI w) c = some (.inl (onI (sSt S) (sD S) (sBo S) (nm S f n) w)) :=
  bindE (nameT h hf hn) (bindE (whatT (N := 4) hw (by omega)) (bindE (oNm (h.nam hf hn) h.env hw) rfl))
theorem q_knot (h : IC B S c) (hf : f < 5) (hn : n < (sB S f).length) (hk : k < 8) (hw : w ≤ 2) : s_X10_knot (nI f) (nI n) (nI k) (nI w) c = some (.inl (okI (nm S f n) k w)) := by
  refine bindE (nameT h hf hn) ?_
  rw [fth_l, if_neg (nI_pos (by omega)), if_pos (by exact nI_lt (b := 8) hk (by omega))]
  exact bindE (whatT (N := 2) hw (by omega)) (bindE (oKt (h.nam hf hn) (by omega) hw) rfl)
theorem q_letter (h : IC B S c) (hl : l < 16) (hw : w ≤ 5) : s_X10_letter (nI l) (nI w) c = some (.inl (olI S l w)) := by
  show (if _ then _ else (if _ then _ else _)) = _
  rw [if_neg (nI_pos (by omega)), if_pos (by exact nI_lt (b := 16) hl (by omega))]
  exact bindE (whatT (N := 5) hw (by omega)) (bindE (oLe h hl hw) rfl)
theorem q_fisher (h : IC B S c) (hf : f < 5) (hw : w ≤ 4) : s_X10_fisher (nI f) (nI w) c = some (.inl (ofI S f w)) :=
  bindE (fishT hf) (bindE (whatT (N := 4) hw (by omega)) (bindE (oFi h hf hw) rfl))
theorem q_ifStorm (h : IC B S c) (hf : f < 5) (hw : w ≤ 1) : s_X10_ifStorm (nI f) (nI w) c = some (.inl (nsI S f w)) :=
  bindE (fishT hf) (bindE (whatT (N := 1) hw (by omega)) (bindE (nxS h hf hw) rfl))
theorem q_count (h : IC B S c) (hw : w ≤ 12) (z : Int32) : s_X10_count (nI w) c z = some (.inl (oaI S w)) := by
  refine bindE (whatT (N := 13) (by omega) (by omega)) ?_
  rw [fth_l, if_neg (by rw [show (13 : Int32) = nI 13 from rfl, c_eq_f (by omega) (by omega) (by omega)]; exact id)]
  exact bindE (oAl h hw) rfl
theorem q_drowned (h : IC B S c) (hj : j < 2147483648) (hw : w ≤ 3) : s_X10_drowned (nI j) (nI w) c = some (.inl (oeI (sE S) j w)) := by
  show (if _ then _ else _) = _
  rw [if_pos (nneg_le (nI_pos (by omega)))]
  exact bindE (whatT (N := 3) hw (by omega)) (bindE (oEn h hj hw) rfl)
theorem q_stopped (h : IC B S c) (hw : w ≤ 1) : s_X10_stopped (nI w) c = some (.inl (stI S w)) := by
  rcases (by omega : w = 0 ∨ w = 1) with rfl | rfl
  · exact bindE (nSt h.1 (w := 0) (by omega)) rfl
  · exact bindE (nSt h.1 (w := 1) (by omega)) rfl
theorem q_told (h : IC B S c) (hf : f < 5) (hj : j < 2147483648) : s_X10_told (nI f) (nI j) c = some (.inl (tdI (nm S f) (sB S f).length 0 j)) := by
  refine bindE (fishT hf) ?_
  rw [fth_l, if_pos (nneg_le (nI_pos (by omega)))]
  exact bindE (tdC h hf hj) rfl
theorem q_share (h : IC B S c) : s_X10_trueShare c = some (shU S) := bindE (csh h) rfl
theorem q_noGift (h : IC B S c) (hf : f < 5) (hn : n < (sB S f).length) (hg : g < 5) (ws : Int32) (wl : Nat → Int32) : ∃ w1 w2, s_X10_noGift (nI f) (nI n) (nI g) c ws wl = some (.inl (wgI S f n g), w1, w2) := by
  obtain ⟨⟨r1, r2, r3⟩, k1, k2, -⟩ := wng (sz := ws) (lt := wl) h hf hn hg
  have k2 : r1 = _ := k2
  subst k2
  exact ⟨r2, r3, bindE (nameT h hf hn) (bindE (fishT hg) (bindE k1 rfl))⟩
variable {b : List Nat} {bs : Int32} {bc : Nat → Int32}
theorem q_clear (bs : Int32) : s_X10_clearBuffer bs = some (bs, 0) := rfl
theorem q_append (h : RepB b bs bc) (h1 : 33 ≤ j) (h2 : j ≤ 126) (h60 : b.length < 60) : ∃ bs' bc', s_X10_append (nI j) bs bc = some (.inl (nI (b.length + 1)), bs', bc') ∧ RepB (b ++ [j]) bs' bc' := by
  have hbs := h.1
  subst hbs
  have hful : s_X1_isFull (nI b.length) = some 0 := if_pos (nI_lt (b := 60) h60 (by omega))
  have hadd : s_X1_add (nI j) (nI b.length) bc = some (nI (b.length + 1), nI (b.length + 1), upd bc b.length (nI j)) := by
    simp (disch := omega) only [s_X1_add, ↓reduceIte, nI_lit, mO_lit, mO_lt, mO_le, mO_gt, mO_ge, mO_ne, mO_ne', nI_add, nI_mul, nI_addlit0, bsome, c_le_f, c_le_t, c_lt_f, c_lt_t, c_eq_f, c_eq_t, if_true, if_false, fld_n, fst_n]
  refine ⟨nI (b.length + 1), upd bc b.length (nI j), ?_, RepB_app h h60 h1 h2⟩
  have m1 : ¬ nI j < 33 := nI_nlt (b := 33) (by omega) (by omega)
  have m2 : nI j ≤ 126 := nI_le (b := 126) (by omega) (by omega)
  show (if _ then _ else (if _ then _ else _)) = _
  rw [if_neg m1, if_pos m2]
  refine bindE hful ?_
  rw [if_pos rfl]
  exact bindE hadd rfl
theorem q_whyNot (h : IC B S c) (hf : f < 5) (hb : RepB b bs bc) (hw : wB b = true) (ws : Int32) (wl : Nat → Int32) : ∃ w1 w2, s_X10_whyNot (nI f) c bs bc ws wl = some (.inl (wtI S f (wW b)), w1, w2) := by
  obtain ⟨w1, w2, h1, h2⟩ := wrdT (ws := ws) (lt := wl) hb hw
  exact ⟨w1, w2, bindE (fishT hf) (bindE h1 (bindE (wnt h hf h2) rfl))⟩
theorem q_best (h : IC B S c) (hb : RepB b bs bc) (hw : wB b = true) (ws : Int32) (wl : Nat → Int32) : ∃ x w1 w2, s_X10_bestBelt c bs bc ws wl = some (.inl (oI x), w1, w2) ∧ bbS S (wW b) 0 5 x := by
  obtain ⟨w1, w2, h1, h2⟩ := wrdT (ws := ws) (lt := wl) hb hw
  obtain ⟨x, x1, x2⟩ := bbt h h2
  exact ⟨x, w1, w2, bindE h1 (bindE x1 rfl), x2⟩
end
/-- the object: its state, the snapshot, the buffer; the saved states, whichever they are -/
def JP (B : Nat) (S : aS) (T : Option aS) (b : List Nat) (c : Nat → Int32) (ho hs ht : Int32) (hv hn : Nat → Int32) (bs : Int32) (bc : Nat → Int32) : Prop :=
  IC B S c ∧ (∃ H, RepH B H ho hs hv) ∧ TC B T ht hn ∧ RepB b bs bc
theorem JP_mono {B B' : Nat} {S : aS} {T : Option aS} {b : List Nat} {c : Nat → Int32} {ho hs ht : Int32} {hv hn : Nat → Int32} {bs : Int32} {bc : Nat → Int32} (h : JP B S T b c ho hs ht hv hn bs bc) (hB : B ≤ B') (h6 : B' < 1000000) : JP B' S T b c ho hs ht hv hn bs bc := by
  obtain ⟨h1, ⟨H, h2⟩, h3, h4⟩ := h
  exact ⟨IC_mono h1 hB h6, ⟨H, RepH_mono h2 hB h6⟩, TC_mono h3 hB h6, h4⟩
section
variable {B : Nat} {S : aS} {T : Option aS} {b : List Nat} {c hv hn bc wl : Nat → Int32} {ho hs ht bs ws : Int32} {f n g l : Nat}
theorem p_psh (J : JP B S T b c ho hs ht hv hn bs bc) : ∃ ho' hs' hv', s_X3_push ho hs hv c = some (ho', hs', hv') ∧ ∃ H, RepH B H ho' hs' hv' := by
  obtain ⟨h1, ⟨H, h2⟩, h3, h4⟩ := J
  obtain ⟨⟨p1, p2, p3⟩, s1, s2⟩ := psh h1 h2
  exact ⟨p1, p2, p3, s1, _, s2⟩
theorem p_tie (J : JP B S T b c ho hs ht hv hn bs bc) (hw : wB b = true) (hf : f < 5) (q : wtI S f (wW b) = nI 0) :
    ∃ c' ho' hs' hv' bs' w1 w2, s_X10_tie (nI f) c ho hs hv bs bc ws wl = some (.inl (nI (sB S f).length), c', ho', hs', hv', bs', w1, w2) ∧ JP B (aTie f (wW b) S) T [] c' ho' hs' ht hv' hn bs' bc := by
  obtain ⟨h1, h2, h3, h4⟩ := id J
  obtain ⟨w1, w2, n1, n2⟩ := wrdT (ws := ws) (lt := wl) h4 hw
  have hc := wnt h1 hf n2
  rw [q] at hc
  obtain ⟨k, k1, k2, k3⟩ := wtI_6 S f (wW b)
  have k0 : k = 0 := by
    rw [k2] at q
    exact (nI_eq (by omega) (by omega)).mp q
  have h66 := k3 k0
  obtain ⟨p1, p2, p3, s1, s2⟩ := p_psh J
  obtain ⟨c', u1, u2⟩ := tieC (B := B) (f := f) h1.1 h66 hf h1.2.2.2 (fun f hf => ⟨(h1.2.2.1 f hf).1, (h1.2.2.1 f hf).2.2.2⟩) n2
  have o2 := OKS_tie h1.2 hf h66 (wW_ok hw)
  refine ⟨c', p1, p2, p3, 0, w1, w2, ?_, ⟨u2, o2⟩, s2, h3, RepB_nil⟩
  refine bindE (fishT hf) (bindE n1 (bindE hc ?_))
  rw [if_pos (show nI 0 = 0 from rfl)]
  exact bindE s1 (bindE rfl (bindE u1 rfl))
theorem p_tieX (J : JP B S T b c ho hs ht hv hn bs bc) (hw : wB b = true) (hf : f < 5) (q : wtI S f (wW b) ≠ nI 0) :
    ∃ w1 w2, s_X10_tie (nI f) c ho hs hv bs bc ws wl = some (.inr "java/lang/IllegalStateException", c, ho, hs, hv, bs, w1, w2) := by
  obtain ⟨h1, h2, h3, h4⟩ := id J
  obtain ⟨w1, w2, n1, n2⟩ := wrdT (ws := ws) (lt := wl) h4 hw
  have hc := wnt h1 hf n2
  refine ⟨w1, w2, bindE (fishT hf) (bindE n1 (bindE hc ?_))⟩
  rw [if_neg (by exact q)]
theorem p_cut (J : JP B S T b c ho hs ht hv hn bs bc) (hf : f < 5) (hn' : n < (sB S f).length) :
    ∃ c' ho' hs' hv', s_X10_cut (nI f) (nI n) c ho hs hv = some (.inl (cdN (nm S f n)), c', ho', hs', hv') ∧ JP B (aCut f n S) T b c' ho' hs' ht hv' hn bs bc := by
  obtain ⟨h1, h2, h3, h4⟩ := id J
  obtain ⟨p1, p2, p3, s1, s2⟩ := p_psh J
  obtain ⟨c', u1, u2⟩ := cutC h1.1 h1.2.lns (h1.nam hf hn') hn'
  exact ⟨c', p1, p2, p3, bindE (nameT h1 hf hn') (bindE s1 (bindE u1 rfl)), ⟨u2, OKS_cut h1.2 hf hn'⟩, s2, h3, h4⟩
theorem p_fast (J : JP B S T b c ho hs ht hv hn bs bc) (hf : f < 5) (hn' : n < (sB S f).length) (q : wfI S f n = nI 0) :
    ∃ c' ho' hs' hv', s_X10_fast (nI f) (nI n) c ho hs hv = some (.inl (nI (tgC (nm S f n))), c', ho', hs', hv') ∧ JP B (aFast f n S) T b c' ho' hs' ht hv' hn bs bc := by
  obtain ⟨h1, h2, h3, h4⟩ := id J
  have hc := wnf h1 hf hn'
  rw [q] at hc
  obtain ⟨p1, p2, p3, s1, s2⟩ := p_psh J
  obtain ⟨c', u1, u2⟩ := fastC h1.1 h1.2.lns (h1.nam hf hn') hn'
  refine ⟨c', p1, p2, p3, ?_, ⟨u2, OKS_fast h1.2 hf hn'⟩, s2, h3, h4⟩
  refine bindE (nameT h1 hf hn') (bindE hc ?_)
  rw [if_pos (show nI 0 = 0 from rfl)]
  exact bindE s1 (bindE u1 rfl)
theorem p_fastX (J : JP B S T b c ho hs ht hv hn bs bc) (hf : f < 5) (hn' : n < (sB S f).length) (q : wfI S f n ≠ nI 0) :
    s_X10_fast (nI f) (nI n) c ho hs hv = some (.inr "java/lang/IllegalStateException", c, ho, hs, hv) := by
  obtain ⟨h1, h2, h3, h4⟩ := id J
  have hc := wnf h1 hf hn'
  refine bindE (nameT h1 hf hn') (bindE hc ?_)
  rw [if_neg (by exact q)]
theorem p_give (J : JP B S T b c ho hs ht hv hn bs bc) (hf : f < 5) (hn' : n < (sB S f).length) (hg : g < 5) (q : wgI S f n g = nI 0) :
    ∃ c' ho' hs' hv' w1 w2, s_X10_give (nI f) (nI n) (nI g) c ho hs hv ws wl = some (.inl (nI (sB S g).length), c', ho', hs', hv', w1, w2) ∧ JP B (aGive f n g S) T b c' ho' hs' ht hv' hn bs bc := by
  obtain ⟨h1, h2, h3, h4⟩ := id J
  obtain ⟨⟨r1, r2, r3⟩, k1, k2, k3⟩ := wng (sz := ws) (lt := wl) h1 hf hn' hg
  have k2 : r1 = _ := k2
  have k3 : f ≠ g → urB (nm S f n) = false → RepW (rdL (nm S f n)) r2 r3 := k3
  rw [q] at k2
  subst k2
  obtain ⟨k, x1, x2, x3⟩ := wgI_6 S f n g
  have k0 : k = 0 := by
    rw [x2] at q
    exact (nI_eq (by omega) (by omega)).mp q
  obtain ⟨y1, y2, y3⟩ := x3 k0
  obtain ⟨p1, p2, p3, s1, s2⟩ := p_psh J
  obtain ⟨c', u1, u2⟩ := givC h1 hf hn' hg y1 y3 y2 (k3 y1 y2)
  refine ⟨c', p1, p2, p3, r2, r3, ?_, u2, s2, h3, h4⟩
  refine bindE (nameT h1 hf hn') (bindE (fishT hg) (bindE k1 ?_))
  rw [if_pos (show nI 0 = 0 from rfl)]
  exact bindE s1 (bindE u1 rfl)
theorem p_giveX (J : JP B S T b c ho hs ht hv hn bs bc) (hf : f < 5) (hn' : n < (sB S f).length) (hg : g < 5) (q : wgI S f n g ≠ nI 0) :
    ∃ w1 w2, s_X10_give (nI f) (nI n) (nI g) c ho hs hv ws wl = some (.inr "java/lang/IllegalStateException", c, ho, hs, hv, w1, w2) := by
  obtain ⟨h1, h2, h3, h4⟩ := id J
  obtain ⟨⟨r1, r2, r3⟩, k1, k2, k3⟩ := wng (sz := ws) (lt := wl) h1 hf hn' hg
  have k2 : r1 = _ := k2
  subst k2
  refine ⟨r2, r3, bindE (nameT h1 hf hn') (bindE (fishT hg) (bindE k1 ?_))⟩
  rw [if_neg (by exact q)]
theorem p_storm (J : JP B S T b c ho hs ht hv hn bs bc) (hB : B + 1 < 1000000) (hf : f < 5) :
    ∃ c' ho' hs' hv', s_X10_storm (nI f) c ho hs hv = some (.inl (nI (aStorm f S).1), c', ho', hs', hv') ∧ JP (B + 1) (aStorm f S).2 T b c' ho' hs' ht hv' hn bs bc := by
  obtain ⟨h1, h2, h3, h4⟩ := id J
  obtain ⟨p1, p2, p3, s1, H, s2⟩ := p_psh J
  obtain ⟨c', u1, u2⟩ := stoC h1 hf hB
  exact ⟨c', p1, p2, p3, bindE (fishT hf) (bindE s1 (bindE u1 rfl)), u2, ⟨H, RepH_mono s2 (by omega) hB⟩, TC_mono h3 (by omega) hB, h4⟩
theorem p_belt (J : JP B S T b c ho hs ht hv hn bs bc) (hf : f < 5) (h20 : 20 ≤ l) (h120 : l ≤ 120) (q : nI (sLn S f) - leftI S f ≤ nI l) :
    ∃ c' ho' hs' hv', s_X10_belt (nI f) (nI l) c ho hs hv = some (.inl (nI (sLn S f)), c', ho', hs', hv') ∧ JP B (aNum 0 f (nI l) l S) T b c' ho' hs' ht hv' hn bs bc := by
  obtain ⟨h1, h2, h3, h4⟩ := id J
  obtain ⟨p1, p2, p3, s1, s2⟩ := p_psh J
  have hff := fc_lt hf
  have hat : s_X7_at (nI (fc f + 0)) c = some (nI (sLn S f)) := fcl h1 hf (by omega)
  have hfc : s_X7_fisherCell (nI f) 0 = some (nI (fc f + 0)) := fcell f 0
  have hlf := lft h1 hf
  have o2 := OKS_num (f := f) (j := 0) (x := nI l) (v := l) h1.2 (Or.inl ⟨rfl, by omega, by omega⟩)
  have r1 := numC (f := f) (j := 0) (x := nI l) (v := l) h1.1 h1.2.lns hf (Or.inl ⟨rfl, rfl⟩)
  refine ⟨upd c (fc f + 0) (nI l), p1, p2, p3, ?_, ⟨r1, o2⟩, s2, h3, h4⟩
  have m1 : ¬ nI l < 20 := nI_nlt (b := 20) (by omega) (by omega)
  have m2 : nI l ≤ 120 := nI_le (b := 120) (by omega) (by omega)
  refine bindE (fishT hf) ?_
  rw [fth_l, if_neg m1, if_pos m2]
  refine bindE hfc (bindE hat (bindE hlf ?_))
  rw [if_pos q]
  exact bindE s1 (bindE hfc (bindE (put_ok (by omega)) rfl))
theorem p_set0 (J : JP B S T b c ho hs ht hv hn bs bc) (h1l : 1 ≤ l) (h9 : l ≤ 9) :
    ∃ c' ho' hs' hv', s_X10_set 0 (nI l) c ho hs hv = some (.inl (nI (sD S)), c', ho', hs', hv') ∧ JP B (aSd l S) T b c' ho' hs' ht hv' hn bs bc := by
  obtain ⟨h1, h2, h3, h4⟩ := id J
  obtain ⟨p1, p2, p3, s1, s2⟩ := p_psh J
  have hat : s_X7_at (1 + 0) c = some (nI (sD S)) := by
    have := at_ok (i := 1) (c := c) (by omega)
    rw [h1.1.1.2.1] at this; exact this
  have hpt : s_X7_put (1 + 0) (nI l) c = some (upd c 1 (nI l)) := put_ok (i := 1) (by omega)
  refine ⟨upd c 1 (nI l), p1, p2, p3, ?_, IC_d h1 h1l h9, s2, h3, h4⟩
  have m1 : ¬ nI l < 1 := nI_nlt (b := 1) (by omega) (by omega)
  have m2 : nI l ≤ 9 := nI_le (b := 9) (by omega) (by omega)
  rw [set_0, if_neg m1, if_pos m2]
  exact bindE s1 (bindE hat (bindE hpt rfl))
theorem p_set1 (J : JP B S T b c ho hs ht hv hn bs bc) (h8 : l ≤ 8) :
    ∃ c' ho' hs' hv', s_X10_set 1 (nI l) c ho hs hv = some (.inl (nI (sBo S)), c', ho', hs', hv') ∧ JP B (aSb l S) T b c' ho' hs' ht hv' hn bs bc := by
  obtain ⟨h1, h2, h3, h4⟩ := id J
  obtain ⟨p1, p2, p3, s1, s2⟩ := p_psh J
  have hat : s_X7_at (1 + 1) c = some (nI (sBo S)) := by
    have := at_ok (i := 2) (c := c) (by omega)
    rw [h1.1.1.2.2.1] at this; exact this
  have hpt : s_X7_put (1 + 1) (nI l) c = some (upd c 2 (nI l)) := put_ok (i := 2) (by omega)
  refine ⟨upd c 2 (nI l), p1, p2, p3, ?_, IC_b h1 h8, s2, h3, h4⟩
  have m1 : ¬ nI l < 0 := nI_pos (by omega)
  have m2 : nI l ≤ 8 := nI_le (b := 8) (by omega) (by omega)
  rw [set_1, if_neg m1, if_pos m2]
  exact bindE s1 (bindE hat (bindE hpt rfl))
theorem p_keep (J : JP B S T b c ho hs ht hv hn bs bc) :
    ∃ ht' hn', s_X10_keep c ht hn = some (oaI S 0, ht', hn') ∧ JP B S (some S) b c ho hs ht' hv hn' bs bc := by
  obtain ⟨h1, h2, h3, h4⟩ := id J
  obtain ⟨r, s1, s2⟩ := ctake (sn := hn) h1
  exact ⟨1, r, bindE (bindE s1 rfl) (bindE (nmA h1) rfl), h1, h2, ⟨rfl, s2⟩, h4⟩
theorem p_restore {S2 : aS} (J : JP B S (some S2) b c ho hs ht hv hn bs bc) :
    ∃ c' ho' hs' hv', s_X10_restore c ho hs ht hv hn = some (.inl (oaI S2 0), c', ho', hs', hv') ∧ JP B S2 (some S2) b c' ho' hs' ht hv' hn bs bc := by
  obtain ⟨h1, h2, ⟨e1, i1⟩, h4⟩ := id J
  obtain ⟨p1, p2, p3, s1, s2⟩ := p_psh J
  obtain ⟨c', u1, u2⟩ := cload (c := c) i1
  subst e1
  refine ⟨c', p1, p2, p3, ?_, u2, s2, ⟨rfl, i1⟩, h4⟩
  refine bindE (a := 1) (fz_b (b := true)) ?_
  rw [if_neg (by exact n10)]
  exact bindE s1 (bindE (bindE u1 rfl) (bindE (nmA u2) rfl))
end
