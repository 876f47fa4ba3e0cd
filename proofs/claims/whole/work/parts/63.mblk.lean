/-! the model: what changes the belts: one fisher's block; taking off -/
theorem MN_move {s s' : Nat → Int32} {w w' : Nat} {m : aN} (h : MN s w m) (hm : m.length ≤ 8) (hc : ∀ j, j < 11 → s' (w' + j) = s (w + j)) : MN s' w' m := by
  obtain ⟨h1, h2, h3, h4⟩ := h
  refine ⟨by have := hc 0 (by omega); rw [Nat.add_zero, Nat.add_zero] at this; rw [this, h1], by rw [hc 1 (by omega), h2], by rw [hc 2 (by omega), h3], fun k hk => ?_⟩
  have := hc (3 + k) (by omega)
  rw [← Nat.add_assoc, ← Nat.add_assoc] at this
  rw [this, h4 k hk]
theorem ME_move {s s' : Nat → Int32} {i i' : Nat} {e : aE} (h : ME s i e) (hc : ∀ j, j < 4 → s' (em i' + j) = s (em i + j)) : ME s' i' e := by
  obtain ⟨h1, h2, h3, h4⟩ := h
  exact ⟨by have := hc 0 (by omega); rw [Nat.add_zero, Nat.add_zero] at this; rw [this, h1], by rw [hc 1 (by omega), h2], by rw [hc 2 (by omega), h3], by rw [hc 3 (by omega), h4]⟩
def HdM (S : aS) (s : Nat → Int32) : Prop := s 0 = nI (sSt S) ∧ s 1 = nI (sE S).length ∧ s 2 = sKt S ∧ s 3 = sCt S ∧ s 4 = nI (sD S) ∧ s 5 = nI (sBo S) ∧ s 6 = stI S 0 ∧ s 7 = stI S 1
def FiM (S : aS) (s : Nat → Int32) (f : Nat) : Prop := (s (fm f) = nI (sLn S f) ∧ s (fm f + 1) = nI (sB S f).length ∧ s (fm f + 2) = sLo S f ∧ s (fm f + 3) = sGi S f) ∧ ∀ n, n < (sB S f).length → MN s (wh f n) (nm S f n)
theorem RepM_mk {S : aS} {s : Nat → Int32} (h1 : HdM S s) (h2 : ∀ f, f < 5 → FiM S s f) (h3 : ∀ i, i < (sE S).length → ME s i (gE (sE S) i)) : RepM S s := ⟨h1, h2, h3⟩
theorem fm_def (f : Nat) : fm f = 8 + 4 * f := rfl
theorem wh_def (f n : Nat) : wh f n = 28 + 66 * f + 11 * n := by unfold wh; omega
theorem em_def (i : Nat) : em i = 358 + 4 * i := rfl
theorem RepM_blk {S S' : aS} {s s' : Nat → Int32} {f : Nat} (h : RepM S s) (hl : LnS S) (hf : f < 5) (hE : sE S' = sE S) (h1 : HdM S' s') (fr : ∀ j, 8 ≤ j → (j < fm f ∨ fm f + 4 ≤ j) → (j < wh f 0 ∨ wh f 6 ≤ j) → s' j = s j)
    (hS : ∀ g, g ≠ f → sB S' g = sB S g ∧ sLn S' g = sLn S g ∧ sLo S' g = sLo S g ∧ sGi S' g = sGi S g) (h2 : FiM S' s' f) : RepM S' s' := by
  have hff := fm_def f
  have hw0 := wh_def f 0
  have hw6 := wh_def f 6
  refine RepM_mk h1 (fun g hg => ?_) (fun i hi => ?_)
  · by_cases e : g = f
    · subst e; exact h2
    · obtain ⟨s1, s2, s3, s4⟩ := hS g e
      obtain ⟨⟨a0, a1, a2, a3⟩, a4⟩ := h.2.1 g hg
      have hfg := fm_def g
      refine ⟨⟨?_, ?_, ?_, ?_⟩, fun n hn => ?_⟩
      · rw [fr _ (by omega) (by omega) (by omega), s2]; exact a0
      · rw [fr _ (by omega) (by omega) (by omega), s1]; exact a1
      · rw [fr _ (by omega) (by omega) (by omega), s3]; exact a2
      · rw [fr _ (by omega) (by omega) (by omega), s4]; exact a3
      · rw [s1] at hn
        have e1 : nm S' g n = nm S g n := by unfold nm; rw [s1]
        rw [e1]
        have h6 := (hl.1 g hg).1
        have hng := wh_def g n
        exact MN_move (a4 n hn) ((hl.1 g hg).2 n hn).2 (fun j hj => fr _ (by omega) (by omega) (by omega))
  · rw [hE] at hi ⊢
    have := em_def i
    exact ME_move (h.2.2 i hi) (fun j hj => fr _ (by omega) (by omega) (by omega))
theorem mad {f j : Nat} {x : Int32} {s : Nat → Int32} (hf : f < 5) (hj : j < 4) : s_X11_add (nI f) (nI j) x s = some (upd s (fm f + j) (s (fm f + j) + x)) := by
  simp (disch := omega) only [s_X11_add, ↓reduceIte, nI_lit, mO_lit, mO_lt, mO_le, mO_gt, mO_ge, mO_ne, mO_ne', nI_add, nI_mul, nI_addlit0, bsome, c_le_f, c_le_t, c_lt_f, c_lt_t, c_eq_f, c_eq_t, if_true, if_false, fld_n, fst_n]
  rfl
theorem fstE {β : Type} {n i : Nat} {f : Nat → Int32} {I x : Int32} {g : (Nat → Int32) → Option β} {r : Option β} (e : I = nI i) (h : i < n) (hn : n < 2147483648) (h2 : g (upd f i x) = r) : fst n f I x g = r := by
  subst e; rw [fst_n h hn]; exact h2
theorem fldE {α β : Type} {n i : Nat} {f : Nat → α} {v : α} {I : Int32} {g : α → Option β} {r : Option β} (e : I = nI i) (h : i < n) (hn : n < 2147483648) (hv : f i = v) (h2 : g v = r) : fld n f I g = r := by
  subst e; subst hv; rw [fld_n h hn]; exact h2
theorem mofc {f j : Nat} {s : Nat → Int32} (hf : f < 5) (hj : j < 4) : s_X11_of (nI f) (nI j) s = some (s (fm f + j)) := by
  simp (disch := omega) only [s_X11_of, ↓reduceIte, nI_lit, mO_lit, mO_lt, mO_le, mO_gt, mO_ge, mO_ne, mO_ne', nI_add, nI_mul, nI_addlit0, bsome, c_le_f, c_le_t, c_lt_f, c_lt_t, c_eq_f, c_eq_t, if_true, if_false, fld_n, fst_n]
  rfl
theorem mcutS {f L i a : Nat} {c1 : Nat → Int32} (hf : f < 5) (hL : L ≤ 5) (h1 : c1 (fm f + 1) = nI L) (hi : i < wh f L) : s_X11_takeOff_L24 (nI f) (a + 1) (nI i) c1 = s_X11_takeOff_L24 (nI f) a (nI (i + 1)) (upd c1 i (c1 (i + 11))) := by
  have hw := wh_def f L
  have ho : s_X11_of (nI f) 1 c1 = some (nI L) := by rw [show (1 : Int32) = nI 1 from rfl, mofc hf (by omega), h1]
  have e1 : nI i + 11 = nI (i + 11) := nI_add i 11
  have e2 : nI i + 1 = nI (i + 1) := nI_add i 1
  refine bindE ho (bindE (whr f L) ?_)
  rw [if_neg (by rw [c_le_f hi (by omega)]; exact id)]
  refine fldE e1 (by omega) (by omega) rfl (fstE rfl (by omega) (by omega) ?_)
  rw [e2]
theorem mcutE {f L a : Nat} {c1 : Nat → Int32} (hf : f < 5) (hL : L ≤ 5) (h1 : c1 (fm f + 1) = nI L) : s_X11_takeOff_L24 (nI f) (a + 1) (nI (wh f L)) c1 = some (nI (wh f L), c1) := by
  have hw := wh_def f L
  have ho : s_X11_of (nI f) 1 c1 = some (nI L) := by rw [show (1 : Int32) = nI 1 from rfl, mofc hf (by omega), h1]
  refine bindE ho (bindE (whr f L) ?_)
  rw [if_pos (by rw [c_le_t (Nat.le_refl _) (by omega)]; exact trivial)]
theorem mcutL {f n L : Nat} {s1 : Nat → Int32} (hf : f < 5) (hL : L ≤ 5) (hn : n ≤ L) (h1 : s1 (fm f + 1) = nI L) :
    ∃ r : Int32 × (Nat → Int32), s_X11_takeOff_L24 (nI f) gF (nI (wh f n)) s1 = some r ∧ (∀ j, wh f n ≤ j → j < wh f L → r.2 j = s1 (j + 11)) ∧ ∀ j, (j < wh f n ∨ wh f L ≤ j) → r.2 j = s1 j := by
  have hw := wh_def f n
  have hwl := wh_def f L
  have hfd := fm_def f
  have h0 : fm f + 1 < wh f n := by omega
  have hle : wh f n ≤ wh f L := by omega
  have h60 : wh f L - wh f n < 6000 := by omega
  have hS : ∀ i a c1, c1 (fm f + 1) = nI L → i < wh f L → s_X11_takeOff_L24 (nI f) (a + 1) (nI i) c1 = s_X11_takeOff_L24 (nI f) a (nI (i + 1)) (upd c1 i (c1 (i + 11))) := fun i a c1 q hi => mcutS hf hL q hi
  have hE : ∀ a c1, c1 (fm f + 1) = nI L → s_X11_takeOff_L24 (nI f) (a + 1) (nI (wh f L)) c1 = some (nI (wh f L), c1) := fun a c1 q => mcutE hf hL q
  clear hw hwl hfd
  generalize wh f n = p at *
  generalize wh f L = e at *
  generalize fm f + 1 = z at *
  have key := lp (fun a (y : Int32 × (Nat → Int32)) => s_X11_takeOff_L24 (nI f) a y.1 y.2) e
    (fun i y => p ≤ i ∧ y.1 = nI i ∧ (∀ j, p ≤ j → j < i → y.2 j = s1 (j + 11)) ∧ ∀ j, (j < p ∨ i ≤ j) → y.2 j = s1 j)
    (fun r => (∀ j, p ≤ j → j < e → r.2 j = s1 (j + 11)) ∧ ∀ j, (j < p ∨ e ≤ j) → r.2 j = s1 j)
    (fun i hi a y hy => by
      obtain ⟨x, c1⟩ := y
      obtain ⟨y0, y1, y2, y3⟩ := hy
      have y1 : x = nI i := y1
      subst y1
      have y3 : ∀ j, (j < p ∨ i ≤ j) → c1 j = s1 j := y3
      refine Or.inl ⟨(nI (i + 1), upd c1 i (c1 (i + 11))), hS i a c1 ((y3 _ (by omega)).trans h1) hi, by omega, rfl, fun j h3 h4 => ?_, fun j hj => ?_⟩
      · show upd c1 i (c1 (i + 11)) j = _
        by_cases q : j = i
        · subst q; rw [upd_s]; exact y3 _ (by omega)
        · rw [upd_o q]; exact y2 j h3 (by omega)
      · show upd c1 i (c1 (i + 11)) j = _
        rw [upd_o (by omega)]; exact y3 j (by omega))
    (fun a y hy => by
      obtain ⟨x, c1⟩ := y
      obtain ⟨y0, y1, y2, y3⟩ := hy
      have y1 : x = nI e := y1
      subst y1
      have y3 : ∀ j, (j < p ∨ e ≤ j) → c1 j = s1 j := y3
      exact ⟨(nI e, c1), hE a c1 ((y3 _ (by omega)).trans h1), y2, y3⟩)
    (e - p) p gF (nI p, s1) (by omega) h60 ⟨Nat.le_refl _, rfl, fun j h3 h4 => by omega, fun j _ => rfl⟩
  exact key
theorem mcut {B f n : Nat} {S : aS} {s : Nat → Int32} (h : RepM S s) (hl : LnS S) (hf : f < 5) (hv : VM B s (wh f n) (nm S f n)) (hn : n < (sB S f).length) :
    ∃ s', s_X11_takeOff (nI f) (nI n) s = some (cdN (nm S f n), s') ∧ RepM (aCut f n S) s' := by
  have h66 := (hl.1 f hf).1
  have hw := wh_def f n
  have hw0 := wh_def f 0
  have hw6 := wh_def f 6
  have hwl := wh_def f ((sB S f).length - 1)
  have hfd := fm_def f
  obtain ⟨⟨a0, a1, a2, a3⟩, a4⟩ := h.2.1 f hf
  obtain ⟨g0, g1, g2, g3, g4, g5, g6, g7⟩ := h.1
  have e1 : s (fm f + 1) + -(nI 1) = nI ((sB S f).length - 1) := by rw [a1, mO_lit, mO_add (by omega)]
  obtain ⟨⟨r1, s2⟩, k1, k2, k3⟩ := mcutL (L := (sB S f).length - 1) (n := n) (s1 := upd s (fm f + 1) (nI ((sB S f).length - 1))) hf (by omega) (by omega) upd_s
  have k2 : ∀ j, wh f n ≤ j → j < wh f ((sB S f).length - 1) → s2 j = upd s (fm f + 1) (nI ((sB S f).length - 1)) (j + 11) := k2
  have k3 : ∀ j, (j < wh f n ∨ wh f ((sB S f).length - 1) ≤ j) → s2 j = upd s (fm f + 1) (nI ((sB S f).length - 1)) j := k3
  have q3 : s2 3 = sCt S := by rw [k3 _ (by omega), upd_o (by omega), g3]
  refine ⟨upd s2 3 (sCt S - cdN (nm S f n)), ?_, ?_⟩
  · have z1 : s_X11_add (nI f) 1 (-1) s = some (upd s (fm f + 1) (nI ((sB S f).length - 1))) := by
      rw [show (1 : Int32) = nI 1 from rfl, mad hf (by omega), e1]
    refine bindE (whr f n) (bindE (mcd hv) (bindE z1 (bindE (whr f n) (bindE k1 ?_))))
    show fld 406 s2 3 (fun v10 => fst 406 s2 3 (v10 - cdN (nm S f n)) fun s11 => some (cdN (nm S f n), s11)) = _
    rw [show (3 : Int32) = nI 3 from rfl, fld_n (by omega) (by omega), fst_n (by omega) (by omega), q3]
  · have v3 : upd s2 3 (sCt S - cdN (nm S f n)) 3 = sCt S - cdN (nm S f n) := upd_s
    have fr : ∀ j, j ≠ 3 → upd s2 3 (sCt S - cdN (nm S f n)) j = s2 j := fun j h1 => upd_o h1
    generalize upd s2 3 (sCt S - cdN (nm S f n)) = s' at *
    have fr2 : ∀ j, j ≠ 3 → j ≠ fm f + 1 → (j < wh f n ∨ wh f ((sB S f).length - 1) ≤ j) → s' j = s j := fun j h1 h2 h3 => by rw [fr _ h1, k3 _ h3, upd_o h2]
    have v1 : s' (fm f + 1) = nI ((sB S f).length - 1) := by rw [fr _ (by omega), k3 _ (by omega), upd_s]
    generalize hLL : (sB S f).length - 1 = L at *
    obtain ⟨Bs, E, st, d, b, kt, ct, sp, ln, lo, gi⟩ := S
    have hn : n < (Bs f).length := hn
    have h66 : (Bs f).length ≤ 6 := h66
    have hLL : (Bs f).length - 1 = L := hLL
    refine RepM_blk h hl hf rfl ⟨?_, ?_, ?_, v3, ?_, ?_, ?_, ?_⟩ (fun j h8 hj1 hj2 => fr2 _ (by omega) (by omega) (by omega)) (fun g hg => ⟨updF_o hg, rfl, rfl, rfl⟩) ⟨⟨?_, ?_, ?_, ?_⟩, fun i hi => ?_⟩
    · rw [fr2 _ (by omega) (by omega) (by omega)]; exact g0
    · rw [fr2 _ (by omega) (by omega) (by omega)]; exact g1
    · rw [fr2 _ (by omega) (by omega) (by omega)]; exact g2
    · rw [fr2 _ (by omega) (by omega) (by omega)]; exact g4
    · rw [fr2 _ (by omega) (by omega) (by omega)]; exact g5
    · rw [fr2 _ (by omega) (by omega) (by omega)]; exact g6
    · rw [fr2 _ (by omega) (by omega) (by omega)]; exact g7
    · rw [fr2 _ (by omega) (by omega) (by omega)]; exact a0
    · rw [v1]
      show _ = nI (updF Bs f ((Bs f).eraseIdx n) f).length
      rw [updF_s, List.length_eraseIdx_of_lt hn, hLL]
    · rw [fr2 _ (by omega) (by omega) (by omega)]; exact a2
    · rw [fr2 _ (by omega) (by omega) (by omega)]; exact a3
    · have hi : i < (updF Bs f ((Bs f).eraseIdx n) f).length := hi
      rw [updF_s, List.length_eraseIdx_of_lt hn] at hi
      show MN s' (wh f i) ((updF Bs f ((Bs f).eraseIdx n) f).getD i [])
      rw [updF_s, eraseIdx_getD]
      have hni := wh_def f i
      by_cases q : i < n
      · rw [if_pos q]
        exact MN_move (a4 i (by show i < (Bs f).length; omega)) ((hl.1 f hf).2 i (by show i < (Bs f).length; omega)).2 (fun j hj => fr2 _ (by omega) (by omega) (by omega))
      · rw [if_neg q]
        have hni1 := wh_def f (i + 1)
        exact MN_move (a4 (i + 1) (by show i + 1 < (Bs f).length; omega)) ((hl.1 f hf).2 (i + 1) (by show i + 1 < (Bs f).length; omega)).2 (fun j hj => by
          rw [fr _ (by omega), k2 _ (by omega) (by omega), upd_o (by omega)]; exact congrArg s (by omega))
/-- numbers of one fisher -/
theorem mnum {f j v : Nat} {x : Int32} {S : aS} {s : Nat → Int32} (h : RepM S s) (hl : LnS S) (hf : f < 5) (hj : j = 0 ∧ x = nI v ∨ j = 2 ∨ j = 3) : RepM (aNum j f x v S) (upd s (fm f + j) x) := by
  obtain ⟨⟨a0, a1, a2, a3⟩, a4⟩ := h.2.1 f hf
  obtain ⟨g0, g1, g2, g3, g4, g5, g6, g7⟩ := h.1
  have hfd := fm_def f
  have hw0 := wh_def f 0
  obtain ⟨Bs, E, st, d, b, kt, ct, sp, ln, lo, gi⟩ := S
  have h66 : (Bs f).length ≤ 6 := (hl.1 f hf).1
  refine RepM_blk h hl hf rfl ⟨?_, ?_, ?_, ?_, ?_, ?_, ?_, ?_⟩ (fun i h8 hi hi2 => upd_o (by omega)) (fun g hg => ⟨rfl, ?_, ?_, ?_⟩) ⟨⟨?_, ?_, ?_, ?_⟩, fun i hi => ?_⟩
  · rw [upd_o (by omega)]; exact g0
  · rw [upd_o (by omega)]; exact g1
  · rw [upd_o (by omega)]; exact g2
  · rw [upd_o (by omega)]; exact g3
  · rw [upd_o (by omega)]; exact g4
  · rw [upd_o (by omega)]; exact g5
  · rw [upd_o (by omega)]; exact g6
  · rw [upd_o (by omega)]; exact g7
  · show (if j = 0 then updF ln f v else ln) g = ln g
    by_cases q : j = 0
    · rw [if_pos q, updF_o hg]
    · rw [if_neg q]
  · show (if j = 2 then updF lo f x else lo) g = lo g
    by_cases q : j = 2
    · rw [if_pos q, updF_o hg]
    · rw [if_neg q]
  · show (if j = 3 then updF gi f x else gi) g = gi g
    by_cases q : j = 3
    · rw [if_pos q, updF_o hg]
    · rw [if_neg q]
  · show _ = nI ((if j = 0 then updF ln f v else ln) f)
    by_cases q : j = 0
    · rw [if_pos q, updF_s]
      rcases hj with ⟨_, hx⟩ | hj | hj
      · subst q; rw [Nat.add_zero, upd_s, hx]
      · omega
      · omega
    · rw [if_neg q, upd_o (by omega)]; exact a0
  · rw [upd_o (by omega)]; exact a1
  · show _ = (if j = 2 then updF lo f x else lo) f
    by_cases q : j = 2
    · subst q; rw [if_pos rfl, updF_s, upd_s]
    · rw [if_neg q, upd_o (by omega)]; exact a2
  · show _ = (if j = 3 then updF gi f x else gi) f
    by_cases q : j = 3
    · subst q; rw [if_pos rfl, updF_s, upd_s]
    · rw [if_neg q, upd_o (by omega)]; exact a3
  · have hi : i < (Bs f).length := hi
    have hni := wh_def f i
    exact MN_move (a4 i hi) ((hl.1 f hf).2 i hi).2 (fun k hk => upd_o (by omega))
