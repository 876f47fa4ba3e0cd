/-! the law: gives -/
theorem rd16 {B : Nat} {x : aK} (h : OKK B x) : rdN x = 16 ↔ 1 < x.2.1 := by
  have h1 := h.1
  unfold rdN
  rcases (by omega : x.2.1 = 0 ∨ x.2.1 = 1 ∨ 1 < x.2.1) with q | q | q
  · rw [if_pos q]
    constructor
    · intro e; omega
    · intro e; omega
  · obtain ⟨v1, v2⟩ := vow_ck (h.2.2.2 (by omega))
    rw [if_neg (by omega), if_pos q]
    constructor
    · intro e; omega
    · intro e; omega
  · rw [if_neg (by omega), if_neg (by omega)]
    exact ⟨fun _ => q, fun _ => rfl⟩
theorem ur_u2 {B : Nat} {m : aN} (h : OKN B m) : urB m = decide (0 < u2 m) := by
  unfold urB u2
  by_cases q : ∃ k, k < m.length ∧ 1 < (gK m k).2.1
  · obtain ⟨k, k1, k2⟩ := q
    rw [anyB_t k1 (decide_eq_true ((rd16 (h.2.2 k k1)).mpr k2))]
    have := sN_at (f := fun k => bN (decide (1 < (gK m k).2.1))) k1
    have e : bN (decide (1 < (gK m k).2.1)) = 1 := by rw [decide_eq_true k2]; rfl
    have this : bN (decide (1 < (gK m k).2.1)) ≤ sN m.length (fun k => bN (decide (1 < (gK m k).2.1))) := this
    rw [decide_eq_true (by omega)]
  · have hno : ∀ k, k < m.length → ¬ 1 < (gK m k).2.1 := fun k k1 k2 => q ⟨k, k1, k2⟩
    rw [anyB_f (fun k hk => decide_eq_false (fun e => hno k hk ((rd16 (h.2.2 k hk)).mp e)))]
    have e : sN m.length (fun k => bN (decide (1 < (gK m k).2.1))) = 0 := by
      rw [sN_congr (g := fun _ => 0) (fun k hk => by rw [decide_eq_false (hno k hk)]; rfl), sN_zero]
    rw [e]; rfl
theorem loN_tie (w : List Nat) : loN (tieN w) = 0 := by
  rw [loN_eq, tieN_len, sN_congr (g := fun _ => 0) (fun k hk => by rw [tieN_gK w hk]; rfl), sN_zero]
theorem rdL_len (m : aN) : (rdL m).length = m.length := by unfold rdL; simp
theorem sI_upd {α : Type} {N f : Nat} (Bs : Nat → α) (x : α) (F : α → Int32) (h : f < N) : sI N (fun i => F (updF Bs f x i)) + F (Bs f) = sI N (fun i => F (Bs i)) + F x := by
  induction N with
  | zero => omega
  | succ n ih =>
    show sI n (fun i => F (updF Bs f x i)) + F (updF Bs f x n) + F (Bs f) = sI n (fun i => F (Bs i)) + F (Bs n) + F x
    by_cases q : n = f
    · subst q
      rw [updF_s, sI_congr (g := fun i => F (Bs i)) (fun i hi => by rw [updF_o (by omega)])]
      grind
    · rw [updF_o q]
      have := ih (by omega)
      grind
theorem sN_front2 (S : aS) (f : Nat) : sN (sB S f).length (fun n => loN (nm S f n)) = bS (sB S f) loN := rfl
section
variable {B : Nat} {S : aS} {T : Option aS} {b : List Nat} {c hv hn bc wl : Nat → Int32} {ho hs ht bs ws : Int32} {f n g l p : Nat}
theorem looseT (h : IC B S c) (hf : f < 5) : s_L_loose (nI f) c = some (nI (bS (sB S f) loN)) := by
  have h6 := h.six hf
  have k1 := q_fisher h hf (w := 1) (by omega)
  have k1 : s_X10_fisher (nI f) 1 c = some (.inl (nI (sB S f).length)) := k1
  have key : s_L_loose_L4 (nI f) c gF 0 0 = some (nI (bS (sB S f) loN), nI (sB S f).length) := by
    refine lpN (fun fu (y : Int32 × Int32) => s_L_loose_L4 (nI f) c fu y.1 y.2) (sB S f).length (fun i => (nI (sN i (fun n => loN (nm S f n))), nI i)) _ (by omega) (fun i hi fu => ?_) (fun fu => ?_)
    · have n2 := q_name h hf hi (w := 2) (by omega)
      have n2 : s_X10_name (nI f) (nI i) 2 c = some (.inl (nI (loN (nm S f i)))) := n2
      show s_L_loose_L4 (nI f) c (fu + 1) (nI (sN i (fun n => loN (nm S f n)))) (nI i) = s_L_loose_L4 (nI f) c fu (nI (sN i (fun n => loN (nm S f n)) + loN (nm S f i))) (nI (i + 1))
      rw [s_L_loose_L4]
      refine cal k1 (ifF (by simp (disch := omega) only [↓reduceIte, nI_lit, mO_lit, mO_lt, mO_le, mO_gt, mO_ge, mO_ne, mO_ne', nI_add, nI_mul, nI_addlit0, bsome, c_le_f, c_le_t, c_lt_f, c_lt_t, c_eq_f, c_eq_t, if_true, if_false, fld_n, fst_n, not_false_eq_true]) (cal n2 ?_))
      rw [← nI_add i 1, ← nI_add]; rfl
    · show s_L_loose_L4 (nI f) c (fu + 1) _ (nI (sB S f).length) = _
      rw [s_L_loose_L4]
      exact cal k1 (ifT (by simp (disch := omega) only [↓reduceIte, nI_lit, mO_lit, mO_lt, mO_le, mO_gt, mO_ge, mO_ne, mO_ne', nI_add, nI_mul, nI_addlit0, bsome, c_le_f, c_le_t, c_lt_f, c_lt_t, c_eq_f, c_eq_t, if_true, if_false, fld_n, fst_n, not_false_eq_true]) rfl)
  exact bindE key rfl
theorem giv66 (h : IC B S c) (hf : f < 5) (hn' : n < (sB S f).length) : ∃ arr, s_L_gives_L66 (nI f) (nI n) c gF 0 (fun _ => 0) = some (nI 8, arr) ∧ ∀ k, k < 8 → arr k = okI (nm S f n) k 1 := by
  have key := lp (fun fu (y : Int32 × (Nat → Int32)) => s_L_gives_L66 (nI f) (nI n) c fu y.1 y.2) 8
    (fun i y => ∃ arr, y = (nI i, arr) ∧ ∀ k, k < i → arr k = okI (nm S f n) k 1) (fun r => ∃ arr, r = (nI 8, arr) ∧ ∀ k, k < 8 → arr k = okI (nm S f n) k 1)
    (fun i hi fu y hy => by
      obtain ⟨arr, rfl, h1⟩ := hy
      have k1 := q_knot h hf hn' hi (w := 1) (by omega)
      refine Or.inl ⟨(nI (i + 1), upd arr i (okI (nm S f n) i 1)), ?_, _, rfl, fun k hk => ?_⟩
      · show s_L_gives_L66 (nI f) (nI n) c (fu + 1) (nI i) arr = _
        rw [s_L_gives_L66]
        refine ifF (by simp (disch := omega) only [↓reduceIte, nI_lit, mO_lit, mO_lt, mO_le, mO_gt, mO_ge, mO_ne, mO_ne', nI_add, nI_mul, nI_addlit0, bsome, c_le_f, c_le_t, c_lt_f, c_lt_t, c_eq_f, c_eq_t, if_true, if_false, fld_n, fst_n, not_false_eq_true]) (cal k1 ?_)
        rw [fst_n (by omega) (by omega), ← nI_add i 1]; rfl
      · by_cases e : k = i
        · subst e; rw [upd_s]
        · rw [upd_o e]; exact h1 k (by omega))
    (fun fu y hy => by
      obtain ⟨arr, rfl, h1⟩ := hy
      refine ⟨_, ?_, arr, rfl, h1⟩
      show s_L_gives_L66 (nI f) (nI n) c (fu + 1) (nI 8) arr = _
      rw [s_L_gives_L66]
      exact ifT (by decide) rfl) 8 0 gF (nI 0, fun _ => 0) (by omega) (by unfold gF; omega) ⟨_, rfl, fun k hk => absurd hk (Nat.not_lt_zero _)⟩
  obtain ⟨r, k1, arr, rfl, k2⟩ := key
  exact ⟨arr, k1, k2⟩
theorem giv190 {arr : Nat → Int32} {m : aN} (h : IC B S c) (hf : f < 5) (hn' : n < (sB S f).length) (ha : ∀ k, k < 8 → arr k = okI m k 1) (hm : nm S f n = tieN (rdL m)) :
    s_L_gives_L190 (nI f) (nI n) c ho hs hv ws wl arr gF 0 = some (.inr (nI 8)) := by
  have e : ∀ k w, w ≤ 1 → okI (tieN (rdL m)) k w = okI m k 1 := by
    intro k w hw
    unfold okI
    rw [tieN_len, rdL_len]
    by_cases q : k < m.length
    · rw [if_pos q, if_pos q, tieN_gK _ (by rw [rdL_len]; exact q), rdL_getD m q]
      rcases (by omega : w = 0 ∨ w = 1) with rfl | rfl <;> rfl
    · rw [if_neg q, if_neg q]
  refine lpN (fun fu (y : Int32) => s_L_gives_L190 (nI f) (nI n) c ho hs hv ws wl arr fu y) 8 (fun i => nI i) _ (by omega) (fun i hi fu => ?_) (fun fu => ?_)
  · have k0 := q_knot h hf hn' hi (w := 0) (by omega)
    have k1 := q_knot h hf hn' hi (w := 1) (by omega)
    rw [hm, e i 0 (by omega)] at k0
    rw [hm, e i 1 (by omega)] at k1
    show s_L_gives_L190 (nI f) (nI n) c ho hs hv ws wl arr (fu + 1) (nI i) = _
    rw [s_L_gives_L190]
    refine ifF (by simp (disch := omega) only [↓reduceIte, nI_lit, mO_lit, mO_lt, mO_le, mO_gt, mO_ge, mO_ne, mO_ne', nI_add, nI_mul, nI_addlit0, bsome, c_le_f, c_le_t, c_lt_f, c_lt_t, c_eq_f, c_eq_t, if_true, if_false, fld_n, fst_n, not_false_eq_true]) (cal k0 ?_)
    rw [fld_n (by omega) (by omega), ha i hi]
    refine ifT rfl (cal k1 ?_)
    rw [fld_n (by omega) (by omega), ha i hi]
    refine ifT rfl ?_
    rw [← nI_add i 1]; rfl
  · show s_L_gives_L190 (nI f) (nI n) c ho hs hv ws wl arr (fu + 1) (nI 8) = _
    rw [s_L_gives_L190]
    exact ifT (by decide) rfl
theorem aGive_B (f n g : Nat) (S : aS) (hfg : f ≠ g) : sB (aGive f n g S) = updF (updF (sB S) f ((sB S f).eraseIdx n)) g (sB S g ++ [tieN (rdL (nm S f n))]) := by
  obtain ⟨Bs, E, st, d, b, kt, ct, sp, ln, lo, gi⟩ := S
  show updF (updF Bs f ((Bs f).eraseIdx n)) g (updF Bs f ((Bs f).eraseIdx n) g ++ _) = _
  rw [updF_o (fun e => hfg e.symm)]; rfl
theorem givesI (h : OKS B S) (hO : OKI S) (hf : f < 5) (hg : g < 5) (hn' : n < (sB S f).length) (hfg : f ≠ g) (hu : urB (nm S f n) = false) (q : wtI S g (rdL (nm S f n)) = nI 0) : OKI (aGive f n g S) := by
  have om := h.nam hf hn'
  obtain ⟨r1, r2, r3⟩ := rdL_ok om hu
  have hfit := fit0 h hO hg r2 r3 q
  have h1 := OKM_gi (f := f) (x := sGi S f + 1) (OKM_cut h hO hf hn')
  have e1 : cdB (aNum 3 f (sGi S f + 1) 0 (aCut f n S)) g = cdB S g := by
    rw [cdB_bS, cdB_bS, aNum_B, aCut_B f n g S (fun e => hfg e.symm)]
  have e2 : sLn (aNum 3 f (sGi S f + 1) 0 (aCut f n S)) g = sLn S g := by obtain ⟨Bs, E, st, d, b, kt, ct, sp, ln, lo, gi⟩ := S; rfl
  have h2 := OKM_tie (B := B) (f := g) (w := rdL (nm S f n)) h1 hg r3 (by rw [e1, e2]; exact hfit)
  have e3 : sSt (aGive f n g S) = sSt S := by obtain ⟨Bs, E, st, d, b, kt, ct, sp, ln, lo, gi⟩ := S; rfl
  show OKM (6 * sSt (aGive f n g S)) _
  rw [e3]
  exact h2
theorem tryGiveX (J : JP B S T b c ho hs ht hv hn bs bc) (hf : f < 5) (hn' : n < (sB S f).length) (hg : g < 5) (q : wgI S f n g ≠ nI 0) :
    ∃ w1 w2, s_L_tryGive (nI f) (nI n) (nI g) c ho hs hv ws wl = some (-7003, c, ho, hs, hv, w1, w2) := by
  obtain ⟨w1, w2, g1⟩ := p_giveX (ws := ws) (wl := wl) J hf hn' hg q
  refine ⟨w1, w2, bindE g1 ?_⟩
  rw [fth_r]
  exact ifF (by rw [sIS_IO]; exact id) (ifT rfl rfl)
theorem givesT (J : JP B S T b c ho hs ht hv hn bs bc) (hO : OKI S) (hf : f < 5) (hg : g < 5) (hn' : n < (sB S f).length) :
    ∃ c' ho' hs' hv' w1 w2 S', s_L_gives (nI f) (nI n) (nI g) c ho hs hv ws wl = some (1, c', ho', hs', hv', w1, w2) ∧ JP B S' T b c' ho' hs' ht hv' hn bs bc ∧ OKI S' := by
  have h := J.1
  have om := h.2.nam hf hn'
  have hl8 := om.2.1
  have hu8 := u2_le (nm S f n)
  have hur := ur_u2 om
  obtain ⟨a1, a2, g1⟩ := q_noGift h hf hn' hg ws wl
  have n3 := q_name h hf hn' (w := 3) (by omega)
  rw [gone_eq] at n3
  have n3 : s_X10_name (nI f) (nI n) 3 c = some (.inl (nI (u2 (nm S f n)))) := n3
  have n0 := q_name h hf hn' (w := 0) (by omega)
  have n0 : s_X10_name (nI f) (nI n) 0 c = some (.inl (nI (nm S f n).length)) := n0
  have c0 := q_count h (w := 0) (by omega) hs
  have c8 := q_count h (w := 8) (by omega) hs
  have lo := looseT h hg
  have f1 := q_fisher h hg (w := 1) (by omega)
  have f1 : s_X10_fisher (nI g) 1 c = some (.inl (nI (sB S g).length)) := f1
  obtain ⟨arr, r1, r2⟩ := giv66 h hf hn'
  obtain ⟨k, k1, k2, k3⟩ := wgI_6 S f n g
  have efg : ∀ {x y : Int32}, (if nI f = nI g then x else y) = if f = g then x else y := by
    intro x y
    by_cases q : f = g
    · rw [if_pos q, if_pos (by rw [q])]
    · rw [if_neg q, if_neg (fun e => q ((nI_eq (by omega) (by omega)).mp e))]
  have e5 : (if wgI S f n g = 5 then (1 : Int32) else 0) = if f = g then 1 else 0 := by
    unfold wgI
    by_cases q : f = g
    · rw [if_pos q, if_pos q]; rfl
    · rw [if_neg q, if_neg q]
      by_cases q2 : urB (nm S f n) = true
      · rw [if_pos q2]; rfl
      · rw [if_neg q2]
        obtain ⟨z, z1, z2, -⟩ := wtI_6 S g (rdL (nm S f n))
        rw [z2, if_neg (fun e => by have := (nI_eq (a := z) (b := 5) (by omega) (by omega)).mp e; omega)]
  have e4 : (if wgI S f n g = 4 then (1 : Int32) else 0) = if f = g then 0 else (if nI (u2 (nm S f n)) ≤ 0 then 0 else 1) := by
    unfold wgI
    by_cases q : f = g
    · rw [if_pos q, if_pos q]; rfl
    · rw [if_neg q, if_neg q, hur]
      by_cases q2 : 0 < u2 (nm S f n)
      · have m1 : ¬ nI (u2 (nm S f n)) ≤ 0 := nI_ge (a := 0) (b := u2 (nm S f n)) q2 (by omega)
        rw [decide_eq_true q2, if_pos rfl, if_neg m1]; rfl
      · obtain ⟨z, z1, z2, -⟩ := wtI_6 S g (rdL (nm S f n))
        have m4 : ¬ nI z = 4 := fun e => by have := (nI_eq (a := z) (b := 4) (by omega) (by omega)).mp e; omega
        rw [decide_eq_false q2, if_neg (show ¬ (false = true) by simp), z2, if_neg m4, show u2 (nm S f n) = 0 from by omega]; rfl
  by_cases q : wgI S f n g = nI 0
  · have k0 : k = 0 := by
      rw [k2] at q
      exact (nI_eq (by omega) (by omega)).mp q
    obtain ⟨y1, y2, y3⟩ := k3 k0
    obtain ⟨c', ho', hs', hv', w1, w2, g2, J'⟩ := p_give (ws := a1) (wl := a2) J hf hn' hg q
    have h' := J'.1
    have qw : wtI S g (rdL (nm S f n)) = nI 0 := by
      have := q
      unfold wgI at this
      rw [if_neg y1, y2, if_neg (by simp)] at this
      exact this
    have hO' := givesI h.2 hO hf hg hn' y1 y2 qw
    have eB := aGive_B f n g S y1
    have eBg : sB (aGive f n g S) g = sB S g ++ [tieN (rdL (nm S f n))] := by rw [eB, updF_s]
    have eN : nm (aGive f n g S) g (sB S g).length = tieN (rdL (nm S f n)) := by unfold nm; rw [eBg, getD_app2]; rfl
    have hlt : (sB S g).length < (sB (aGive f n g S) g).length := by rw [eBg]; simp
    have r3 := giv190 (m := nm S f n) (ho := ho') (hs := hs') (hv := hv') (ws := w1) (wl := w2) h' hg hlt r2 eN
    have m0 := q_name h' hg hlt (w := 0) (by omega)
    rw [eN] at m0
    have m0 : s_X10_name (nI g) (nI (sB S g).length) 0 c' = some (.inl (nI (tieN (rdL (nm S f n))).length)) := m0
    rw [tieN_len, rdL_len] at m0
    have d0 := q_count h' (w := 0) (by omega) hs'
    have d8 := q_count h' (w := 8) (by omega) hs'
    have z0 : oaI (aGive f n g S) 0 = oaI S 0 := by
      show sI 5 (fun i => fN (aGive f n g S) i 1) = sI 5 (fun i => fN S i 1)
      rw [namesL, namesL]
      congr 1
      have e1 : sN 5 (fun i => (sB (aGive f n g S) i).length) = sN 5 (fun i => (updF (updF (sB S) f ((sB S f).eraseIdx n)) g (sB S g ++ [tieN (rdL (nm S f n))]) i).length) := by rw [eB]
      have e2 := sN_upd (updF (sB S) f ((sB S f).eraseIdx n)) (sB S g ++ [tieN (rdL (nm S f n))]) (fun l => l.length) hg
      have e3 := sN_upd (sB S) ((sB S f).eraseIdx n) (fun l => l.length) hf
      rw [updF_o (fun e => y1 e.symm), List.length_append] at e2
      rw [List.length_eraseIdx_of_lt hn'] at e3
      have e5 : ([tieN (rdL (nm S f n))] : List aN).length = 1 := rfl
      omega
    have z8 : oaI (aGive f n g S) 8 = oaI S 8 + 1 := by
      show sI 5 (fun i => fN (aGive f n g S) i 3) = sI 5 (fun i => fN S i 3) + 1
      have e1 : (fun i => fN (aGive f n g S) i 3) = (fun i => updF (sGi S) f (sGi S f + 1) i) := by obtain ⟨Bs, E, st, d, b, kt, ct, sp, ln, lo, gi⟩ := S; rfl
      have e2 := sI_upd (sGi S) (sGi S f + 1) (fun x => x) hf
      have e3 : (fun i => fN S i 3) = (fun i => sGi S i) := rfl
      rw [e1, e3]
      have e2 : sI 5 (fun i => updF (sGi S) f (sGi S f + 1) i) + sGi S f = sI 5 (fun i => sGi S i) + (sGi S f + 1) := e2
      grind
    rw [z0] at d0
    rw [z8] at d8
    have lo' := looseT h' hg
    rw [eBg, bS_app, bS_cons, bS_nil, loN_tie] at lo'
    have tg : s_L_tryGive (nI f) (nI n) (nI g) c ho hs hv a1 a2 = some (nI (sB S g).length, c', ho', hs', hv', w1, w2) := bindE g2 rfl
    refine ⟨c', ho', hs', hv', w1, w2, aGive f n g S, ?_, J', hO'⟩
    unfold s_L_gives
    refine calM (v := wgI S f n g) (w := (a1, a2)) g1 (cal n3 (cal n0 (cal c0 (cal c8 (bindE lo (cal f1 (bindE r1 (bindE tg (flV e5 (flV efg (ifT rfl (flV e4 (flV efg (ifT rfl (ifT ?_ (sumR r3 (ifT rfl (cal m0 (ifT rfl (cal d0 (ifT rfl (cal d8 (ifT rfl (bindE lo' (flT rfl (fz1 rfl))))))))))))))))))))))))))
    rw [q]; decide
  · have k0 : 0 < k := by
      rcases Nat.eq_zero_or_pos k with e | e
      · subst e; exact absurd k2 q
      · exact e
    obtain ⟨w1, w2, tg⟩ := tryGiveX (ws := a1) (wl := a2) J hf hn' hg q
    refine ⟨c, ho, hs, hv, w1, w2, S, ?_, J, hO⟩
    unfold s_L_gives
    refine calM (v := wgI S f n g) (w := (a1, a2)) g1 (cal n3 (cal n0 (cal c0 (cal c8 (bindE lo (cal f1 (bindE r1 (bindE tg (flV e5 (flV efg (ifT rfl (flV e4 (flV efg (ifT rfl (ifF ?_ (ifT rfl (cal c8 (flT rfl (fz1 rfl)))))))))))))))))))
    rw [k2]
    exact nI_ge (a := 0) k0 (by omega)
end
