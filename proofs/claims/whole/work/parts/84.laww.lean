/-! the law: what reads the buffer as a name, and the belts' changes -/
theorem wrdT {b : List Nat} {sz ws : Int32} {cs lt : Nat → Int32} (h : RepB b sz cs) (hw : wB b = true) : ∃ w1 w2, s_X10_needWord sz cs ws lt = some (.inl (), w1, w2) ∧ RepW (wW b) w1 w2 := by
  obtain ⟨⟨r1, w1, w2⟩, h1, h2, h3⟩ := nWd (ws := ws) (lt := lt) h
  have h2 : r1 = _ := h2
  rw [hw, if_pos rfl] at h2
  subst h2
  exact ⟨w1, w2, h1, h3 hw⟩
theorem wrdF {b : List Nat} {sz ws : Int32} {cs lt : Nat → Int32} (h : RepB b sz cs) (hw : wB b = false) : ∃ w1 w2, s_X10_needWord sz cs ws lt = some (.inr "java/lang/IllegalArgumentException", w1, w2) := by
  obtain ⟨⟨r1, w1, w2⟩, h1, h2, h3⟩ := nWd (ws := ws) (lt := lt) h
  have h2 : r1 = _ := h2
  rw [hw, if_neg (by simp)] at h2
  subst h2
  exact ⟨w1, w2, h1⟩
theorem mspT {b : List Nat} {len sp sm : Int32} {text : Nat → Int32} (h : RepB b len text) (hw : wB b = true) : s_X11_isSpelt 0 len sp sm text = some (1, nI (pk (wW b)), nI (wW b).length) := by
  obtain ⟨⟨r1, r2, r3⟩, h1, h2, h3⟩ := mspW (sp := sp) (sm := sm) h
  have h2 : r1 = _ := h2
  obtain ⟨h4, h5⟩ := h3 hw
  have h4 : r2 = _ := h4
  have h5 : r3 = _ := h5
  rw [hw] at h2
  subst h2 h4 h5
  exact h1
theorem mspF {b : List Nat} {len sp sm : Int32} {text : Nat → Int32} (h : RepB b len text) (hw : wB b = false) : ∃ r2 r3, s_X11_isSpelt 0 len sp sm text = some (0, r2, r3) := by
  obtain ⟨⟨r1, r2, r3⟩, h1, h2, h3⟩ := mspW (sp := sp) (sm := sm) h
  have h2 : r1 = _ := h2
  rw [hw] at h2
  subst h2
  exact ⟨r2, r3, h1⟩
def An3 (o : Nat → Int64) (cl : Option (Int32 × Int32 × (Nat → Int32) × (Nat → Int64))) (ml : Option (Int32 × Int32 × Int32 × Int32)) : Prop := ∃ k v o' w1 w2 sp sm, cl = some (k, w1, w2, o') ∧ ml = some (v, k, sp, sm) ∧ (k = 0 → o' 0 = Int32.toInt64 v)
def An4 (o : Nat → Int64) (cl : Option (Int32 × Int32 × (Nat → Int32) × (Nat → Int64))) (ml : Option (Int32 × Int32)) : Prop := ∃ k v o' w1 w2, cl = some (k, w1, w2, o') ∧ ml = some (v, k) ∧ (k = 0 → o' 0 = Int32.toInt64 v)
section
variable {B : Nat} {S : aS} {c s bc mx wl : Nat → Int32} {th bs ml ws sp sm : Int32} {b : List Nat} {o : Nat → Int64}
theorem an_find (h : IC B S c) (hm : IM B S s) (hb : RepB b bs bc) (hx : RepB b ml mx) : An3 o (s_L_find c bs bc ws wl o) (s_X11_find ml th sp sm s mx) := by
  cases hw : wB b with
  | true =>
    obtain ⟨w1, w2, h1, h2⟩ := wrdT (ws := ws) (lt := wl) hb hw
    refine ⟨0, lastI (sE S).length (fun i => eqB (gE (sE S) i).1 (wW b)), oW o _, w1, w2, nI (pk (wW b)), nI (wW b).length, ?_, ?_, fun _ => rfl⟩
    · exact bindE (a := (.inl (lastI (sE S).length (fun i => eqB (gE (sE S) i).1 (wW b))), w1, w2)) (bindE h1 (bindE (lWi h h2) rfl)) rfl
    · refine bindE (mspT hx hw) ?_
      rw [if_neg (by exact n10)]
      refine bindE (hold0 th) ?_
      rw [if_neg (by exact n10)]
      exact bindE (mfd hm (wW_ok hw)) rfl
  | false =>
    obtain ⟨w1, w2, h1⟩ := wrdF (ws := ws) (lt := wl) hb hw
    obtain ⟨r2, r3, h2⟩ := mspF (sp := sp) (sm := sm) hx hw
    exact ⟨1, 0, o, w1, w2, r2, r3, bindE (a := (.inr "java/lang/IllegalArgumentException", w1, w2)) (bindE h1 rfl) rfl, bindE h2 rfl, fun e => absurd e (by decide)⟩
theorem an_bestBelt (h : IC B S c) (hm : IM B S s) (hb : RepB b bs bc) (hx : RepB b ml mx) : An3 o (s_L_bestBelt c bs bc ws wl o) (s_X11_bestBelt ml th sp sm s mx) := by
  cases hw : wB b with
  | true =>
    obtain ⟨w1, w2, h1, h2⟩ := wrdT (ws := ws) (lt := wl) hb hw
    obtain ⟨x, x1, x2⟩ := bbt h h2
    obtain ⟨y, y1, y2⟩ := mbb hm (wW_ok hw)
    have e := bbS_one x2 y2
    subst e
    refine ⟨0, oI x, oW o _, w1, w2, nI (pk (wW b)), nI (wW b).length, ?_, ?_, fun _ => rfl⟩
    · exact bindE (a := (.inl (oI x), w1, w2)) (bindE h1 (bindE x1 rfl)) rfl
    · refine bindE (mspT hx hw) ?_
      rw [if_neg (by exact n10)]
      refine bindE (hold0 th) ?_
      rw [if_neg (by exact n10)]
      exact bindE y1 rfl
  | false =>
    obtain ⟨w1, w2, h1⟩ := wrdF (ws := ws) (lt := wl) hb hw
    obtain ⟨r2, r3, h2⟩ := mspF (sp := sp) (sm := sm) hx hw
    exact ⟨1, 0, o, w1, w2, r2, r3, bindE (a := (.inr "java/lang/IllegalArgumentException", w1, w2)) (bindE h1 rfl) rfl, bindE h2 rfl, fun e => absurd e (by decide)⟩
theorem an_whyNot (h : IC B S c) (hm : IM B S s) (hb : RepB b bs bc) (hx : RepB b ml mx) (a1 : Int32) : An3 o (s_L_whyNot a1 c bs bc ws wl o) (s_X11_whyNot a1 ml th sp sm s mx) := by
  rcases fishD a1 with ⟨f, hf, rfl⟩ | ⟨f1, f2⟩
  · obtain ⟨f1, f2⟩ := fishT hf
    cases hw : wB b with
    | true =>
      obtain ⟨w1, w2, h1, h2⟩ := wrdT (ws := ws) (lt := wl) hb hw
      refine ⟨0, wtI S f (wW b), oW o _, w1, w2, nI (pk (wW b)), nI (wW b).length, ?_, ?_, fun _ => rfl⟩
      · exact bindE (a := (.inl (wtI S f (wW b)), w1, w2)) (bindE f1 (bindE h1 (bindE (wnt h hf h2) rfl))) rfl
      · refine bindE (mspT hx hw) (bindE f2 ?_)
        rw [if_neg (by exact n10), if_neg (by exact n10)]
        refine bindE (hold0 th) ?_
        rw [if_neg (by exact n10)]
        exact bindE (mre hm hf (wW_ok hw)) rfl
    | false =>
      obtain ⟨w1, w2, h1⟩ := wrdF (ws := ws) (lt := wl) hb hw
      obtain ⟨r2, r3, h2⟩ := mspF (sp := sp) (sm := sm) hx hw
      refine ⟨2, 0, o, w1, w2, r2, r3, bindE (a := (.inr "java/lang/IllegalArgumentException", w1, w2)) (bindE f1 (bindE h1 rfl)) rfl, bindE h2 (bindE f2 ?_), fun e => absurd e (by decide)⟩
      rw [if_neg (by exact n10), if_pos rfl]; rfl
  · cases hw : wB b with
    | true => exact ⟨1, 0, o, ws, wl, _, _, bindE (a := (.inr "java/lang/IndexOutOfBoundsException", ws, wl)) (bindE f1 rfl) rfl, bindE (mspT hx hw) (bindE f2 rfl), fun e => absurd e (by decide)⟩
    | false =>
      obtain ⟨r2, r3, h2⟩ := mspF (sp := sp) (sm := sm) hx hw
      exact ⟨1, 0, o, ws, wl, _, _, bindE (a := (.inr "java/lang/IndexOutOfBoundsException", ws, wl)) (bindE f1 rfl) rfl, bindE h2 (bindE f2 rfl), fun e => absurd e (by decide)⟩
theorem an_noGift (h : IC B S c) (hm : IM B S s) (a1 a2 a3 : Int32) : An4 o (s_L_noGift a1 a2 a3 c ws wl o) (s_X11_noGift a1 a2 a3 th s) := by
  rcases nameD h hm a1 a2 with ⟨f, n, hf, hn, rfl, rfl⟩ | ⟨w1, w2⟩
  · obtain ⟨f1, f2⟩ := nameT h hm hf hn
    rcases fishD a3 with ⟨g, hg, rfl⟩ | ⟨g1, g2⟩
    · obtain ⟨g1, g2⟩ := fishT hg
      obtain ⟨⟨r1, r2, r3⟩, k1, k2, -⟩ := wng (sz := ws) (lt := wl) h hf hn hg
      have k2 : r1 = _ := k2
      subst k2
      refine ⟨0, wgI S f n g, oW o _, r2, r3, ?_, ?_, fun _ => rfl⟩
      · exact bindE (a := (.inl (wgI S f n g), r2, r3)) (bindE f1 (bindE g1 (bindE k1 rfl))) rfl
      · refine bindE f2 ?_
        rw [if_neg (by exact n10)]
        refine bindE g2 ?_
        rw [if_neg (by exact n10)]
        refine bindE (hold0 th) ?_
        rw [if_neg (by exact n10)]
        exact bindE (mgi hm hf hn hg) rfl
    · refine ⟨1, 0, o, ws, wl, bindE (a := (.inr "java/lang/IndexOutOfBoundsException", ws, wl)) (bindE f1 (bindE g1 rfl)) rfl, bindE f2 ?_, fun e => absurd e (by decide)⟩
      rw [if_neg (by exact n10)]
      exact bindE g2 rfl
  · exact ⟨1, 0, o, ws, wl, bindE (a := (.inr "java/lang/IndexOutOfBoundsException", ws, wl)) (bindE w1 rfl) rfl, bindE w2 rfl, fun e => absurd e (by decide)⟩
end
theorem RepB_nil {cs : Nat → Int32} : RepB [] 0 cs := ⟨rfl, by simp, fun i hi => absurd hi (Nat.not_lt_zero i)⟩
section
variable {B : Nat} {S : aS} {H : List aS} {T : Option aS} {b : List Nat} {c hv hn bc ms mv mn mx wl : Nat → Int32} {ho hs ht bs mm mt ml th ws sp sm : Int32} {o : Nat → Int64}
theorem w_tie (J : JR B S H T b c ho hs ht hv hn bs bc mm mt ml ms mv mn mx) (a1 : Int32) : ∃ k v o' c' ho' hs' hv' bs' w1 w2 mm' ml' sp' sm' ms' mv', s_L_tie a1 c ho hs hv bs bc ws wl o = some (k, c', ho', hs', hv', bs', w1, w2, o') ∧ s_X11_tie a1 mm ml th sp sm ms mv mx = some (v, mm', ml', k, sp', sm', ms', mv') ∧ (k = 0 → o' 0 = Int32.toInt64 v) ∧ ∃ S' H' b', JR B S' H' T b' c' ho' hs' ht hv' hn bs' bc mm' mt ml' ms' mv' mn mx := by
  obtain ⟨h1, h2, h3, h4, h5, h6, h7, h8⟩ := id J
  rcases fishD a1 with ⟨f, hf, rfl⟩ | ⟨f1, f2⟩
  · obtain ⟨f1, f2⟩ := fishT hf
    cases hw : wB b with
    | true =>
      obtain ⟨w1, w2, n1, n2⟩ := wrdT (ws := ws) (lt := wl) h4 hw
      have hok := wW_ok hw
      obtain ⟨k, k1, k2, k3⟩ := wtI_6 S f (wW b)
      have hc := wnt h1 hf n2
      have hmr := mre h5 hf hok
      rw [k2] at hc hmr
      by_cases q : k = 0
      · subst q
        have h66 := k3 rfl
        obtain ⟨⟨p1, p2, p3⟩, s1, s2⟩ := psh h1 h2
        obtain ⟨⟨q1, q2⟩, t1, t2⟩ := msave h5 h6
        obtain ⟨c', u1, u2⟩ := tieC (B := B) (f := f) h1.1 h66 hf h1.2.2.2 (fun f hf => ⟨(h1.2.2.1 f hf).1, (h1.2.2.1 f hf).2.2.2⟩) n2
        obtain ⟨m', v1, v2⟩ := mtie (f := f) h5.1 h5.2.lns hf h66 hok
        have o2 := OKS_tie h1.2 hf h66 hok
        refine ⟨0, nI (sB S f).length, oW o _, c', p1, p2, p3, 0, w1, w2, q1, 0, nI (pk (wW b)), nI (wW b).length, m', q2, ?_, ?_, fun _ => rfl, aTie f (wW b) S, pushH H S, [], ⟨u2, o2⟩, s2, h3, RepB_nil, ⟨v2, o2⟩, t2, h7, RepB_nil⟩
        · refine bindE (a := (.inl (nI (sB S f).length), c', p1, p2, p3, 0, w1, w2)) (bindE f1 (bindE n1 (bindE hc ?_))) rfl
          rw [if_pos (show nI 0 = 0 from rfl)]
          exact bindE s1 (bindE rfl (bindE u1 rfl))
        · refine bindE (mspT h8 hw) (bindE f2 ?_)
          rw [if_neg (by exact n10), if_neg (by exact n10)]
          refine bindE hmr ?_
          rw [if_pos (by decide)]
          refine bindE (hold0 th) ?_
          rw [if_neg (by exact n10)]
          exact bindE t1 (bindE v1 rfl)
      · refine ⟨3, 0, o, c, ho, hs, hv, bs, w1, w2, mm, ml, nI (pk (wW b)), nI (wW b).length, ms, mv, ?_, ?_, fun e => absurd e (by decide), S, H, b, J⟩
        · refine bindE (a := (.inr "java/lang/IllegalStateException", c, ho, hs, hv, bs, w1, w2)) (bindE f1 (bindE n1 (bindE hc ?_))) rfl
          rw [if_neg (nI_ne0 (by omega) (by omega))]
        · refine bindE (mspT h8 hw) (bindE f2 ?_)
          rw [if_neg (by exact n10), if_neg (by exact n10)]
          refine bindE hmr ?_
          rw [if_neg (by exact nI_ge (a := 0) (by omega) (by omega))]
          rfl
    | false =>
      obtain ⟨w1, w2, n1⟩ := wrdF (ws := ws) (lt := wl) h4 hw
      obtain ⟨r2, r3, n2⟩ := mspF (sp := sp) (sm := sm) h8 hw
      refine ⟨2, 0, o, c, ho, hs, hv, bs, w1, w2, mm, ml, r2, r3, ms, mv, bindE (a := (.inr "java/lang/IllegalArgumentException", c, ho, hs, hv, bs, w1, w2)) (bindE f1 (bindE n1 rfl)) rfl, bindE n2 (bindE f2 ?_), fun e => absurd e (by decide), S, H, b, J⟩
      rw [if_neg (by exact n10), if_pos rfl]; rfl
  · cases hw : wB b with
    | true => exact ⟨1, 0, o, c, ho, hs, hv, bs, ws, wl, mm, ml, _, _, ms, mv, bindE (a := (.inr "java/lang/IndexOutOfBoundsException", c, ho, hs, hv, bs, ws, wl)) (bindE f1 rfl) rfl, bindE (mspT h8 hw) (bindE f2 rfl), fun e => absurd e (by decide), S, H, b, J⟩
    | false =>
      obtain ⟨r2, r3, n2⟩ := mspF (sp := sp) (sm := sm) h8 hw
      exact ⟨1, 0, o, c, ho, hs, hv, bs, ws, wl, mm, ml, _, _, ms, mv, bindE (a := (.inr "java/lang/IndexOutOfBoundsException", c, ho, hs, hv, bs, ws, wl)) (bindE f1 rfl) rfl, bindE n2 (bindE f2 rfl), fun e => absurd e (by decide), S, H, b, J⟩
theorem w_cut (J : JR B S H T b c ho hs ht hv hn bs bc mm mt ml ms mv mn mx) (a1 a2 : Int32) : ∃ k v o' c' ho' hs' hv' mm' ms' mv', s_L_cut a1 a2 c ho hs hv o = some (k, c', ho', hs', hv', o') ∧ s_X11_cut a1 a2 mm th ms mv = some (v, mm', k, ms', mv') ∧ (k = 0 → o' 0 = Int32.toInt64 v) ∧ ∃ S' H', JR B S' H' T b c' ho' hs' ht hv' hn bs bc mm' mt ml ms' mv' mn mx := by
  obtain ⟨h1, h2, h3, h4, h5, h6, h7, h8⟩ := id J
  rcases nameD h1 h5 a1 a2 with ⟨f, n, hf, hn', rfl, rfl⟩ | ⟨w1, w2⟩
  · obtain ⟨f1, f2⟩ := nameT h1 h5 hf hn'
    obtain ⟨⟨p1, p2, p3⟩, s1, s2⟩ := psh h1 h2
    obtain ⟨⟨q1, q2⟩, t1, t2⟩ := msave h5 h6
    obtain ⟨c', u1, u2⟩ := cutC h1.1 h1.2.lns (h1.nam hf hn') hn'
    obtain ⟨m', v1, v2⟩ := mcut (B := B) h5.1 h5.2.lns hf (h5.nam hf hn') hn'
    have o2 := OKS_cut h1.2 hf hn'
    refine ⟨0, cdN (nm S f n), oW o _, c', p1, p2, p3, q1, m', q2, ?_, ?_, fun _ => rfl, aCut f n S, pushH H S, ⟨u2, o2⟩, s2, h3, h4, ⟨v2, o2⟩, t2, h7, h8⟩
    · exact bindE (a := (.inl (cdN (nm S f n)), c', p1, p2, p3)) (bindE f1 (bindE s1 (bindE u1 rfl))) rfl
    · refine bindE f2 ?_
      rw [if_neg (by exact n10)]
      refine bindE (hold0 th) ?_
      rw [if_neg (by exact n10)]
      exact bindE t1 (bindE v1 rfl)
  · exact ⟨1, 0, o, c, ho, hs, hv, mm, ms, mv, bindE (a := (.inr "java/lang/IndexOutOfBoundsException", c, ho, hs, hv)) (bindE w1 rfl) rfl, bindE w2 rfl, fun e => absurd e (by decide), S, H, J⟩
theorem w_fast (J : JR B S H T b c ho hs ht hv hn bs bc mm mt ml ms mv mn mx) (a1 a2 : Int32) : ∃ k v o' c' ho' hs' hv' mm' ms' mv', s_L_fast a1 a2 c ho hs hv o = some (k, c', ho', hs', hv', o') ∧ s_X11_fast a1 a2 mm th ms mv = some (v, mm', k, ms', mv') ∧ (k = 0 → o' 0 = Int32.toInt64 v) ∧ ∃ S' H', JR B S' H' T b c' ho' hs' ht hv' hn bs bc mm' mt ml ms' mv' mn mx := by
  obtain ⟨h1, h2, h3, h4, h5, h6, h7, h8⟩ := id J
  rcases nameD h1 h5 a1 a2 with ⟨f, n, hf, hn', rfl, rfl⟩ | ⟨w1, w2⟩
  · obtain ⟨f1, f2⟩ := nameT h1 h5 hf hn'
    have hc := wnf h1 hf hn'
    have hm' := mcf h5 hf hn'
    by_cases q : wfI S f n = nI 0
    · rw [q] at hc
      rw [if_pos q] at hm'
      obtain ⟨⟨p1, p2, p3⟩, s1, s2⟩ := psh h1 h2
      obtain ⟨⟨q1, q2⟩, t1, t2⟩ := msave h5 h6
      obtain ⟨c', u1, u2⟩ := fastC h1.1 h1.2.lns (h1.nam hf hn') hn'
      obtain ⟨m', v1, v2⟩ := mfast h5 hf hn'
      have o2 := OKS_fast h1.2 hf hn'
      refine ⟨0, nI (tgC (nm S f n)), oW o _, c', p1, p2, p3, q1, m', q2, ?_, ?_, fun _ => rfl, aFast f n S, pushH H S, ⟨u2, o2⟩, s2, h3, h4, v2, t2, h7, h8⟩
      · refine bindE (a := (.inl (nI (tgC (nm S f n))), c', p1, p2, p3)) (bindE f1 (bindE hc ?_)) rfl
        rw [if_pos (show nI 0 = 0 from rfl)]
        exact bindE s1 (bindE u1 rfl)
      · refine bindE f2 ?_
        rw [if_neg (by exact n10)]
        refine bindE hm' ?_
        rw [if_neg (by exact n10)]
        refine bindE (hold0 th) ?_
        rw [if_neg (by exact n10)]
        exact bindE t1 (bindE v1 rfl)
    · rw [if_neg q] at hm'
      refine ⟨2, 0, o, c, ho, hs, hv, mm, ms, mv, ?_, ?_, fun e => absurd e (by decide), S, H, J⟩
      · refine bindE (a := (.inr "java/lang/IllegalStateException", c, ho, hs, hv)) (bindE f1 (bindE hc ?_)) rfl
        rw [if_neg (by exact q)]
      · refine bindE f2 ?_
        rw [if_neg (by exact n10)]
        refine bindE hm' ?_
        rw [if_pos (show nI 0 = 0 from rfl)]; rfl
  · exact ⟨1, 0, o, c, ho, hs, hv, mm, ms, mv, bindE (a := (.inr "java/lang/IndexOutOfBoundsException", c, ho, hs, hv)) (bindE w1 rfl) rfl, bindE w2 rfl, fun e => absurd e (by decide), S, H, J⟩
theorem w_give (J : JR B S H T b c ho hs ht hv hn bs bc mm mt ml ms mv mn mx) (a1 a2 a3 : Int32) : ∃ k v o' c' ho' hs' hv' w1 w2 mm' ms' mv', s_L_give a1 a2 a3 c ho hs hv ws wl o = some (k, c', ho', hs', hv', w1, w2, o') ∧ s_X11_give a1 a2 a3 mm th ms mv = some (v, mm', k, ms', mv') ∧ (k = 0 → o' 0 = Int32.toInt64 v) ∧ ∃ S' H', JR B S' H' T b c' ho' hs' ht hv' hn bs bc mm' mt ml ms' mv' mn mx := by
  obtain ⟨h1, h2, h3, h4, h5, h6, h7, h8⟩ := id J
  rcases nameD h1 h5 a1 a2 with ⟨f, n, hf, hn', rfl, rfl⟩ | ⟨w1, w2⟩
  · obtain ⟨f1, f2⟩ := nameT h1 h5 hf hn'
    rcases fishD a3 with ⟨g, hg, rfl⟩ | ⟨g1, g2⟩
    · obtain ⟨g1, g2⟩ := fishT hg
      obtain ⟨⟨r1, r2, r3⟩, k1, k2, k3⟩ := wng (sz := ws) (lt := wl) h1 hf hn' hg
      have k2 : r1 = _ := k2
      have k3 : f ≠ g → urB (nm S f n) = false → RepW (rdL (nm S f n)) r2 r3 := k3
      have hm' := mgi h5 hf hn' hg
      obtain ⟨k, x1, x2, x3⟩ := wgI_6 S f n g
      rw [x2] at k2 hm'
      subst k2
      by_cases q : k = 0
      · subst q
        obtain ⟨y1, y2, y3⟩ := x3 rfl
        obtain ⟨⟨p1, p2, p3⟩, s1, s2⟩ := psh h1 h2
        obtain ⟨⟨q1, q2⟩, t1, t2⟩ := msave h5 h6
        obtain ⟨c', u1, u2⟩ := givC h1 hf hn' hg y1 y3 y2 (k3 y1 y2)
        obtain ⟨m', v1, v2⟩ := mgive h5 hf hn' hg y1 y3 y2
        refine ⟨0, nI (sB S g).length, oW o _, c', p1, p2, p3, r2, r3, q1, m', q2, ?_, ?_, fun _ => rfl, aGive f n g S, pushH H S, u2, s2, h3, h4, v2, t2, h7, h8⟩
        · refine bindE (a := (.inl (nI (sB S g).length), c', p1, p2, p3, r2, r3)) (bindE f1 (bindE g1 (bindE k1 ?_))) rfl
          rw [if_pos (show nI 0 = 0 from rfl)]
          exact bindE s1 (bindE u1 rfl)
        · refine bindE f2 ?_
          rw [if_neg (by exact n10)]
          refine bindE g2 ?_
          rw [if_neg (by exact n10)]
          refine bindE hm' ?_
          rw [if_pos (by decide)]
          refine bindE (hold0 th) ?_
          rw [if_neg (by exact n10)]
          exact bindE t1 (bindE v1 rfl)
      · refine ⟨2, 0, o, c, ho, hs, hv, r2, r3, mm, ms, mv, ?_, ?_, fun e => absurd e (by decide), S, H, J⟩
        · refine bindE (a := (.inr "java/lang/IllegalStateException", c, ho, hs, hv, r2, r3)) (bindE f1 (bindE g1 (bindE k1 ?_))) rfl
          rw [if_neg (by exact nI_ne0 (by omega) (by omega))]
        · refine bindE f2 ?_
          rw [if_neg (by exact n10)]
          refine bindE g2 ?_
          rw [if_neg (by exact n10)]
          refine bindE hm' ?_
          rw [if_neg (by exact nI_ge (a := 0) (by omega) (by omega))]
          rfl
    · refine ⟨1, 0, o, c, ho, hs, hv, ws, wl, mm, ms, mv, bindE (a := (.inr "java/lang/IndexOutOfBoundsException", c, ho, hs, hv, ws, wl)) (bindE f1 (bindE g1 rfl)) rfl, bindE f2 ?_, fun e => absurd e (by decide), S, H, J⟩
      rw [if_neg (by exact n10)]
      exact bindE g2 rfl
  · exact ⟨1, 0, o, c, ho, hs, hv, ws, wl, mm, ms, mv, bindE (a := (.inr "java/lang/IndexOutOfBoundsException", c, ho, hs, hv, ws, wl)) (bindE w1 rfl) rfl, bindE w2 rfl, fun e => absurd e (by decide), S, H, J⟩
theorem w_storm (J : JR B S H T b c ho hs ht hv hn bs bc mm mt ml ms mv mn mx) (hB : B + 1 < 1000000) (a1 : Int32) : ∃ k v o' c' ho' hs' hv' mm' ms' mv', s_L_storm a1 c ho hs hv o = some (k, c', ho', hs', hv', o') ∧ s_X11_storm a1 mm th ms mv = some (v, mm', k, ms', mv') ∧ (k = 0 → o' 0 = Int32.toInt64 v) ∧ ∃ S' H', JR (B + 1) S' H' T b c' ho' hs' ht hv' hn bs bc mm' mt ml ms' mv' mn mx := by
  obtain ⟨h1, h2, h3, h4, h5, h6, h7, h8⟩ := id J
  rcases fishD a1 with ⟨f, hf, rfl⟩ | ⟨w1, w2⟩
  · obtain ⟨f1, f2⟩ := fishT hf
    obtain ⟨⟨p1, p2, p3⟩, s1, s2⟩ := psh h1 h2
    obtain ⟨⟨q1, q2⟩, t1, t2⟩ := msave h5 h6
    obtain ⟨c', u1, u2⟩ := stoC h1 hf hB
    obtain ⟨m', v1, v2⟩ := mstorm h5 hf hB
    refine ⟨0, nI (aStorm f S).1, oW o _, c', p1, p2, p3, q1, m', q2, ?_, ?_, fun _ => rfl, (aStorm f S).2, pushH H S, u2, RepH_mono s2 (by omega) hB, TC_mono h3 (by omega) hB, h4, v2, RepHM_mono t2 (by omega) hB, TM_mono h7 (by omega) hB, h8⟩
    · exact bindE (a := (.inl (nI (aStorm f S).1), c', p1, p2, p3)) (bindE f1 (bindE s1 (bindE u1 rfl))) rfl
    · refine bindE f2 ?_
      rw [if_neg (by exact n10)]
      refine bindE (hold0 th) ?_
      rw [if_neg (by exact n10)]
      exact bindE t1 (bindE v1 rfl)
  · exact ⟨1, 0, o, c, ho, hs, hv, mm, ms, mv, bindE (a := (.inr "java/lang/IndexOutOfBoundsException", c, ho, hs, hv)) (bindE w1 rfl) rfl, bindE w2 rfl, fun e => absurd e (by decide), S, H, JR_mono J (by omega) hB⟩
end
