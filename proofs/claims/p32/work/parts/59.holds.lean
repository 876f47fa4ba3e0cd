/-! the law: what holds behind each act -/
def OKI (S : aS) : Prop :=
  (sCt S = nI (nA S cN) ∧ (∀ f, f < 5 → cdB S f ≤ sLn S f) ∧ sSp S = (0, 0)) ∧
  (∃ t : Nat → Nat, (∀ i, i < (sE S).length → (gE (sE S) i).2.2 = nI (t i) ∧ t i ≤ sSt S) ∧ ∀ i, i + 1 < (sE S).length → t i ≤ t (i + 1)) ∧
  ∃ L : Nat → Nat, (∀ f, f < 5 → sLo S f = nI (L f)) ∧ sN 5 L ≤ 6 * sSt S ∧ (sE S).length = min (sN 5 L) 12
section
variable {B f : Nat} {S : aS} {c : Nat → Int32}
theorem hol30 (h : IC B S c) (hf : f < 5) (a b : Nat) (ws : Int32) (wl : Nat → Int32) :
    ∃ w1 w2, s_L_holds_L30 (nI f) c gF (nI a) (nI b) 0 0 ws wl = some (.inr (nI (a + sN (sB S f).length (fun n => loN (nm S f n))), nI (b + sN (sB S f).length (fun n => (nm S f n).length)), nI (cdB S f), nI (sB S f).length, w1, w2)) := by
  have h6 := h.six hf
  have k1 := q_fisher h hf (w := 1) (by omega)
  have k1 : s_X10_fisher (nI f) 1 c = some (.inl (nI (sB S f).length)) := k1
  have key := lp (fun fu (y : Int32 × Int32 × Int32 × Int32 × Int32 × (Nat → Int32)) => s_L_holds_L30 (nI f) c fu y.1 y.2.1 y.2.2.1 y.2.2.2.1 y.2.2.2.2.1 y.2.2.2.2.2) (sB S f).length
    (fun i y => ∃ w1 w2, y = (nI (a + sN i (fun n => loN (nm S f n))), nI (b + sN i (fun n => (nm S f n).length)), nI (sN i (fun n => cN (nm S f n))), nI i, w1, w2))
    (fun r => ∃ w1 w2, r = .inr (nI (a + sN (sB S f).length (fun n => loN (nm S f n))), nI (b + sN (sB S f).length (fun n => (nm S f n).length)), nI (cdB S f), nI (sB S f).length, w1, w2))
    (fun i hi fu y hy => by
      obtain ⟨w1, w2, rfl⟩ := hy
      have n0 := q_name h hf hi (w := 0) (by omega)
      have n1 := q_name h hf hi (w := 1) (by omega)
      have n2 := q_name h hf hi (w := 2) (by omega)
      have om := h.2.nam hf hi
      rw [show onI (sSt S) (sD S) (sBo S) (nm S f i) 1 = nI (cN (nm S f i)) from cdN_N om] at n1
      obtain ⟨v1, v2, g1⟩ := q_noGift h hf hi hf w1 w2
      have e5 : wgI S f i f = nI 5 := by unfold wgI; rw [if_pos rfl]
      rw [e5] at g1
      refine Or.inl ⟨(nI (a + sN (i + 1) (fun n => loN (nm S f n))), nI (b + sN (i + 1) (fun n => (nm S f n).length)), nI (sN (i + 1) (fun n => cN (nm S f n))), nI (i + 1), v1, v2), ?_, v1, v2, rfl⟩
      show s_L_holds_L30 (nI f) c (fu + 1) _ _ _ _ _ _ = _
      rw [s_L_holds_L30]
      refine cal k1 (ifF (by simp (disch := omega) only [↓reduceIte, nI_lit, mO_lit, mO_lt, mO_le, mO_gt, mO_ge, mO_ne, mO_ne', nI_add, nI_mul, nI_addlit0, bsome, c_le_f, c_le_t, c_lt_f, c_lt_t, c_eq_f, c_eq_t, if_true, if_false, fld_n, fst_n, not_false_eq_true]) (cal n1 (cal n2 (cal n0 (bindE (isN h hf hi) (ifF (by decide) (calM (v := nI 5) (w := (v1, v2)) g1 (ifT rfl ?_))))))))
      show s_L_holds_L30 (nI f) c fu (nI (a + sN i (fun n => loN (nm S f n))) + nI (loN (nm S f i))) (nI (b + sN i (fun n => (nm S f n).length)) + nI (nm S f i).length) (nI (sN i (fun n => cN (nm S f n))) + nI (cN (nm S f i))) (nI i + nI 1) v1 v2 = _
      rw [nI_add, nI_add, nI_add, nI_add, Nat.add_assoc, Nat.add_assoc]
      rfl)
    (fun fu y hy => by
      obtain ⟨w1, w2, rfl⟩ := hy
      refine ⟨_, ?_, w1, w2, rfl⟩
      show s_L_holds_L30 (nI f) c (fu + 1) _ _ _ _ _ _ = _
      rw [s_L_holds_L30]
      exact cal k1 (ifT (by simp (disch := omega) only [↓reduceIte, nI_lit, mO_lit, mO_lt, mO_le, mO_gt, mO_ge, mO_ne, mO_ne', nI_add, nI_mul, nI_addlit0, bsome, c_le_f, c_le_t, c_lt_f, c_lt_t, c_eq_f, c_eq_t, if_true, if_false, fld_n, fst_n, not_false_eq_true]) rfl)) (sB S f).length 0 gF (nI (a + 0), nI (b + 0), nI 0, nI 0, ws, wl) (by omega) (by unfold gF; omega) ⟨ws, wl, rfl⟩
  obtain ⟨r, k2, w1, w2, rfl⟩ := key
  exact ⟨w1, w2, k2⟩
theorem lnN_le {B st d : Nat} {m : aN} (h : OKN B m) (hd : 1 ≤ d) : lnN st d m ≤ 8 := by
  have h1 := sN_le (N := m.length) (f := fun k => lbN st d k (gK m k) 1 - (gK m k).2.1) (b := 1) (fun k _ => by
    have := lbN_le (st := st) (k := k) (s := 1) (x := gK m k) hd
    show lbN st d k (gK m k) 1 - (gK m k).2.1 ≤ 1
    omega)
  have h2 := h.2.1
  unfold lnN; omega
/-- how many names the next storm takes -/
def lostN (S : aS) (f : Nat) : Nat := sN (sB S f).length (fun n => bN (decide (sBo S < ubN (sSt S) (sD S) (nm S f n) 1)))
theorem lost_I (S : aS) (f : Nat) : nsI S f 0 = nI (lostN S f) := by
  unfold nsI lostN
  rw [if_pos rfl, ← sI_nI]
  exact sI_congr fun n _ => bI_nI _
theorem lost_le (S : aS) (f : Nat) : lostN S f ≤ (sB S f).length := by
  have h1 := sN_le (N := (sB S f).length) (f := fun n => bN (decide (sBo S < ubN (sSt S) (sD S) (nm S f n) 1))) (b := 1) (fun i _ => bN_le _)
  unfold lostN; omega
theorem hol18 (h : IC B S c) (hO : OKI S) (ws : Int32) (wl : Nat → Int32) :
    ∃ w1 w2, s_L_holds_L18 c gF 0 0 0 0 0 0 0 ws wl = some (.inr (sI 5 (fun f => fN S f 1), nI (nA S cN), sI 5 (fun f => fN S f 2), sI 5 (fun f => fN S f 3), nI (nA S loN), nI (nA S (fun m => m.length)), nI 5, w1, w2)) := by
  have key := lp (fun fu (y : Int32 × Int32 × Int32 × Int32 × Int32 × Int32 × Int32 × Int32 × (Nat → Int32)) => s_L_holds_L18 c fu y.1 y.2.1 y.2.2.1 y.2.2.2.1 y.2.2.2.2.1 y.2.2.2.2.2.1 y.2.2.2.2.2.2.1 y.2.2.2.2.2.2.2.1 y.2.2.2.2.2.2.2.2) 5
    (fun i y => ∃ w1 w2, y = (sI i (fun f => fN S f 1), nI (sN i (fun f => cdB S f)), sI i (fun f => fN S f 2), sI i (fun f => fN S f 3), nI (sN i (fun f => sN (sB S f).length (fun n => loN (nm S f n)))), nI (sN i (fun f => sN (sB S f).length (fun n => (nm S f n).length))), nI i, w1, w2))
    (fun r => ∃ w1 w2, r = .inr (sI 5 (fun f => fN S f 1), nI (nA S cN), sI 5 (fun f => fN S f 2), sI 5 (fun f => fN S f 3), nI (nA S loN), nI (nA S (fun m => m.length)), nI 5, w1, w2))
    (fun f hf fu y hy => by
      obtain ⟨w1, w2, rfl⟩ := hy
      have h6 := h.six hf
      obtain ⟨v1, v2, g1⟩ := hol30 h hf (sN f (fun f => sN (sB S f).length (fun n => loN (nm S f n)))) (sN f (fun f => sN (sB S f).length (fun n => (nm S f n).length))) w1 w2
      have hfit := hO.1.2.1 f hf
      have hln := (h.2.2.1 f hf).2.2.1
      have k0 := q_fisher h hf (w := 0) (by omega)
      have k1 := q_fisher h hf (w := 1) (by omega)
      have k2 := q_fisher h hf (w := 2) (by omega)
      have k3 := q_fisher h hf (w := 3) (by omega)
      have k4 := q_fisher h hf (w := 4) (by omega)
      have s0 := q_ifStorm h hf (w := 0) (by omega)
      have s1 := q_ifStorm h hf (w := 1) (by omega)
      rw [lost_I] at s0
      have hlo := lost_le S f
      have e1 : nsI S f 1 = nI (sN (sB S f).length (fun n => lnN (sSt S) (sD S) (nm S f n))) := by
        unfold nsI
        rw [if_neg (by omega), sI_nI]
      rw [e1] at s1
      have b1 := sN_le (N := (sB S f).length) (f := fun n => lnN (sSt S) (sD S) (nm S f n)) (b := 8) (fun n hn => lnN_le (h.2.nam hf hn) h.2.1.2.2.1)
      have eL := left_N h.2 hf hfit
      have hk2 : ofI S f 2 = nI (sLn S f - cdB S f) := eL
      rw [hk2] at k2
      refine Or.inl ⟨(sI (f + 1) (fun f => fN S f 1), nI (sN (f + 1) (fun f => cdB S f)), sI (f + 1) (fun f => fN S f 2), sI (f + 1) (fun f => fN S f 3), nI (sN (f + 1) (fun f => sN (sB S f).length (fun n => loN (nm S f n)))), nI (sN (f + 1) (fun f => sN (sB S f).length (fun n => (nm S f n).length))), nI (f + 1), v1, v2), ?_, v1, v2, rfl⟩
      show s_L_holds_L18 c (fu + 1) _ _ _ _ _ _ _ _ _ = _
      rw [s_L_holds_L18]
      refine ifF (by simp (disch := omega) only [↓reduceIte, nI_lit, mO_lit, mO_lt, mO_le, mO_gt, mO_ge, mO_ne, mO_ne', nI_add, nI_mul, nI_addlit0, bsome, c_le_f, c_le_t, c_lt_f, c_lt_t, c_eq_f, c_eq_t, if_true, if_false, fld_n, fst_n, not_false_eq_true]) (sumR g1 (cal k1 (cal k3 (cal k4 (cal k1 (ifF (nI_nlt (a := 6) h6 (by omega)) (cal k2 (cal k0 (ifT ?_ (cal k2 (ifF (nI_pos (by omega)) (cal s0 (cal k1 (ifF (nI_nlt hlo (by omega)) (cal s1 (ifT (nI_pos' (by omega)) ?_))))))))))))))))
      · show nI (sLn S f - cdB S f) = nI (sLn S f) - nI (cdB S f)
        rw [nI_sub hfit]
      show s_L_holds_L18 c fu (sI f (fun f => fN S f 1) + fN S f 1) (nI (sN f (fun f => cdB S f)) + nI (cdB S f)) (sI f (fun f => fN S f 2) + fN S f 2) (sI f (fun f => fN S f 3) + fN S f 3) _ _ (nI f + nI 1) v1 v2 = _
      rw [nI_add, nI_add]
      rfl)
    (fun fu y hy => by
      obtain ⟨w1, w2, rfl⟩ := hy
      refine ⟨_, ?_, w1, w2, rfl⟩
      show s_L_holds_L18 c (fu + 1) _ _ _ _ _ _ (nI 5) _ _ = _
      rw [s_L_holds_L18]
      exact ifT (by decide) rfl) 5 0 gF (0, nI 0, 0, 0, nI 0, nI 0, nI 0, ws, wl) (by omega) (by unfold gF; omega) ⟨ws, wl, rfl⟩
  obtain ⟨r, k2, w1, w2, rfl⟩ := key
  exact ⟨w1, w2, k2⟩
theorem hol237 (h : IC B S c) (ws : Int32) (wl : Nat → Int32) : s_L_holds_L237 c ws wl gF 0 0 = some (.inr (nI (nA S (fun m => m.length)), nI 16)) := by
  have key := lpN (fun fu (y : Int32 × Int32) => s_L_holds_L237 c ws wl fu y.1 y.2) 16 (fun i => (nI (sN i (fun l => nA S (kN 2 (nI l)))), nI i)) (.inr (nI (sN 16 (fun l => nA S (kN 2 (nI l)))), nI 16)) (by omega) (fun l hl fu => by
      have l0 := q_letter h (l := l) (w := 0) hl (by omega)
      have l1 := q_letter h (l := l) (w := 1) hl (by omega)
      have l2 := q_letter h (l := l) (w := 2) hl (by omega)
      have l4 := q_letter h (l := l) (w := 4) hl (by omega)
      rw [show olI S l 4 = nI (nA S (kN 2 (nI l))) from sA_nA S _] at l4
      show s_L_holds_L237 c ws wl (fu + 1) _ _ = _
      rw [s_L_holds_L237]
      refine ifF (by simp (disch := omega) only [↓reduceIte, nI_lit, mO_lit, mO_lt, mO_le, mO_gt, mO_ge, mO_ne, mO_ne', nI_add, nI_mul, nI_addlit0, bsome, c_le_f, c_le_t, c_lt_f, c_lt_t, c_eq_f, c_eq_t, if_true, if_false, fld_n, fst_n, not_false_eq_true]) (cal l4 (cal l2 (cal l0 (cal l1 (ifT rfl ?_)))))
      show s_L_holds_L237 c ws wl fu (nI (sN l (fun l => nA S (kN 2 (nI l)))) + nI (nA S (kN 2 (nI l)))) (nI l + nI 1) = _
      rw [nI_add, nI_add]
      rfl) (fun fu => by
      show s_L_holds_L237 c ws wl (fu + 1) _ (nI 16) = _
      rw [s_L_holds_L237]
      exact ifT (by decide) rfl)
  rw [tied_N h.2] at key
  exact key
theorem hol302 (h : IC B S c) (hO : OKI S) (z ws : Int32) (wl : Nat → Int32) : s_L_holds_L302 (nI (sE S).length) c z ws wl gF 0 = some (.inr (nI ((sE S).length + 1))) := by
  have hE := h.2.2.2.1
  obtain ⟨t, t1, t2⟩ := hO.2.1
  have hst := h.2.1.1
  have hB := h.2.1.2.1
  have c1 := q_count h (w := 1) (by omega) z
  have c1 : s_X10_count 1 c z = some (.inl (nI (sSt S))) := c1
  refine lpN (fun fu (y : Int32) => s_L_holds_L302 (nI (sE S).length) c z ws wl fu y) ((sE S).length + 1) (fun i => nI i) _ (by omega) (fun i hi fu => ?_) (fun fu => ?_)
  · have d0 := q_drowned h (j := i) (w := 0) (by omega) (by omega)
    have d2 := q_drowned h (j := i) (w := 2) (by omega) (by omega)
    show s_L_holds_L302 (nI (sE S).length) c z ws wl (fu + 1) (nI i) = _
    rw [s_L_holds_L302]
    refine ifF (by simp (disch := omega) only [↓reduceIte, nI_lit, mO_lit, mO_lt, mO_le, mO_gt, mO_ge, mO_ne, mO_ne', nI_add, nI_mul, nI_addlit0, bsome, c_le_f, c_le_t, c_lt_f, c_lt_t, c_eq_f, c_eq_t, if_true, if_false, fld_n, fst_n, not_false_eq_true]) (cal d0 ?_)
    by_cases q : i = (sE S).length
    · subst q
      have e0 : oeI (sE S) (sE S).length 0 = mO := by unfold oeI; rw [if_neg (Nat.lt_irrefl _)]
      rw [e0]
      refine flT rfl (flT rfl (ifT rfl ?_))
      by_cases q0 : (sE S).length = 0
      · refine ifT (by rw [q0]; decide) (ifT (nI_le (Nat.le_refl _) (by omega)) ?_)
        exact congrArg _ (nI_add _ 1)
      · refine ifF (nI_ge (b := (sE S).length) (a := 0) (by omega) (by omega)) (ifT (nI_le (Nat.le_refl _) (by omega)) (ifT (nI_le (Nat.le_refl _) (by omega)) ?_))
        exact congrArg _ (nI_add _ 1)
    · have hi' : i < (sE S).length := by omega
      have o1 := (h.2.2.2.2 i hi').2.1
      have e0 : oeI (sE S) i 0 = nI (gE (sE S) i).1.length := by unfold oeI; rw [if_pos hi']; rfl
      have e2 : oeI (sE S) i 2 = nI (t i) := by unfold oeI; rw [if_pos hi']; exact (t1 i hi').1
      have hti := (t1 i hi').2
      rw [e2] at d2
      rw [e0]
      refine flF (ne_mO (by omega)) (flF (by rw [c_eq_f q (by omega) (by omega)]; exact id) (ifT rfl ?_))
      by_cases q0 : i = 0
      · subst q0
        refine ifT (by decide) (ifF (nI_ge hi' (by omega)) (cal d2 (cal c1 (ifT (nI_le hti (by omega)) ?_))))
        exact congrArg _ (nI_add _ 1)
      · have d3 := q_drowned h (j := i - 1) (w := 2) (by omega) (by omega)
        have e3 : oeI (sE S) (i - 1) 2 = nI (t (i - 1)) := by unfold oeI; rw [if_pos (by omega)]; exact (t1 (i - 1) (by omega)).1
        have h3 := t2 (i - 1) (by omega)
        rw [show i - 1 + 1 = i from by omega] at h3
        rw [e3] at d3
        rw [← nI_sub (a := i) (b := 1) (by omega)] at d3
        refine ifF (nI_ge (b := i) (a := 0) (by omega) (by omega)) (ifF (nI_ge hi' (by omega)) (cal d2 (cal d3 (ifF (nI_nlt h3 (by omega)) (ifF (nI_ge hi' (by omega)) (cal d2 (cal c1 (ifT (nI_le hti (by omega)) ?_))))))))
        exact congrArg _ (nI_add _ 1)
  · show s_L_holds_L302 (nI (sE S).length) c z ws wl (fu + 1) (nI ((sE S).length + 1)) = _
    rw [s_L_holds_L302]
    exact ifT (by simp (disch := omega) only [↓reduceIte, nI_lit, mO_lit, mO_lt, mO_le, mO_gt, mO_ge, mO_ne, mO_ne', nI_add, nI_mul, nI_addlit0, bsome, c_le_f, c_le_t, c_lt_f, c_lt_t, c_eq_f, c_eq_t, if_true, if_false, fld_n, fst_n, not_false_eq_true]) rfl
theorem lost_N {L : Nat → Nat} (hL : ∀ f, f < 5 → sLo S f = nI (L f)) : sI 5 (fun f => fN S f 2) = nI (sN 5 L) := by
  rw [← sI_nI]
  exact sI_congr fun f hf => hL f hf
theorem loose_N : oaI S 5 = nI (nA S loN) := sA_nA S _
theorem holdsT (h : IC B S c) (hO : OKI S) (z ws : Int32) (wl : Nat → Int32) : ∃ w1 w2, s_L_holds c z ws wl = some (1, w1, w2) := by
  obtain ⟨w1, w2, l1⟩ := hol18 h hO ws wl
  have l2 := hol237 h w1 w2
  have l3 := hol302 h hO z w1 w2
  have c6 := q_count h (w := 6) (by omega) z
  have c0 := q_count h (w := 0) (by omega) z
  have c2 := q_count h (w := 2) (by omega) z
  have c3 := q_count h (w := 3) (by omega) z
  have c4 := q_count h (w := 4) (by omega) z
  have c5 := q_count h (w := 5) (by omega) z
  have c7 := q_count h (w := 7) (by omega) z
  have c8 := q_count h (w := 8) (by omega) z
  have s0 := q_stopped h (w := 0) (by omega)
  have s1 := q_stopped h (w := 1) (by omega)
  have t0 := q_share h
  have hsp := hO.1.2.2
  have e0 : stI S 0 = mO := by unfold stI; rw [hsp]; rfl
  have e1 : stI S 1 = mO := by unfold stI; rw [hsp]; rfl
  rw [e0] at s0
  rw [e1] at s1
  obtain ⟨L, L1, L2, L3⟩ := hO.2.2
  have hst := h.2.1.1
  have hB := h.2.1.2.1
  have eL := lost_N L1
  have x2 : oaI S 2 = nI (nA S cN) := cord_N h.2
  have x3 : oaI S 3 = nI (nA S cN) := cBL_N h.2
  have x4 : oaI S 4 = nI (nA S cN) := hO.1.1
  have x5 : oaI S 5 = nI (nA S loN) := loose_N
  have hK := nA_240 h.2
  have hM := nA_mono S
  have ek : nA S (kN 0 mO) = nA S (fun m => m.length) := nA_congr fun i _ n _ => kN0 _
  have el : nA S (kN 1 mO) = nA S loN := rfl
  have hself := sh_self h.2
  have hlist : nI (sE S).length = if 12 ≤ sI 5 (fun f => fN S f 2) then 12 else sI 5 (fun f => fN S f 2) := by
    rw [eL, L3]
    by_cases q : 12 ≤ sN 5 L
    · have m1 : (12 : Int32) ≤ nI (sN 5 L) := nI_le (a := 12) q (by omega)
      rw [if_pos m1, Nat.min_eq_right q]; rfl
    · have m1 : ¬ (12 : Int32) ≤ nI (sN 5 L) := nI_ge (b := 12) (a := sN 5 L) (by omega) (by omega)
      rw [if_neg m1, Nat.min_eq_left (by omega)]
  refine ⟨w1, w2, ?_⟩
  unfold s_L_holds
  refine sumR l1 (sumR l2 (cal c6 (sumR l3 ?_)))
  by_cases q : nA S (fun m => m.length) = 0
  · have esh : shU S = FP.dconst1 := by unfold shU; rw [ek, q]; rfl
    refine ifT (by rw [q]; rfl) (cal c0 (ifT rfl (cal c2 (ifT x2 (cal c3 (ifT x3 (cal c4 (ifT x4 (cal c5 (ifT x5 (ifT rfl (cal c7 (ifT rfl (cal c8 (ifT rfl (flV hlist.symm (ifT rfl (bindE t0 (ifT ?_ (cal s0 (flT rfl (cal s1 (flT rfl (flT rfl (fz1 rfl)))))))))))))))))))))))))
    rw [← esh, hself]; rfl
  · rw [ek] at hK
    rw [ek, el] at hM
    have esh : shU S = fpQ (nA S (fun m => m.length) - nA S loN) (nA S (fun m => m.length)) := by unfold shU; rw [ek, el, if_neg q]
    refine ifF (nI_ne0 (by omega) (by omega)) ?_
    have ef : FP.ddiv (FP.i2d (nI (nA S (fun m => m.length)) - nI (nA S loN))) (FP.i2d (nI (nA S (fun m => m.length)))) = shU S := by rw [nI_sub hM, esh]; rfl
    show fnn (FP.ddiv (FP.i2d (nI (nA S (fun m => m.length)) - nI (nA S loN))) (FP.i2d (nI (nA S (fun m => m.length))))) _ = _
    rw [ef, fnn_ok (by rw [esh]; exact (fp_ok (by omega) (by omega) hK).1)]
    refine cal c0 (ifT rfl (cal c2 (ifT x2 (cal c3 (ifT x3 (cal c4 (ifT x4 (cal c5 (ifT x5 (ifT rfl (cal c7 (ifT rfl (cal c8 (ifT rfl (flV hlist.symm (ifT rfl (bindE t0 (ifT ?_ (cal s0 (flT rfl (cal s1 (flT rfl (flT rfl (fz1 rfl))))))))))))))))))))))))
    rw [hself]; rfl
end
