/-! the law: storms -/
theorem namesL (S : aS) : sI 5 (fun f => fN S f 1) = nI (sN 5 (fun f => (sB S f).length)) := by
  rw [← sI_nI]
  exact sI_congr fun f _ => rfl
theorem names_le {B : Nat} {S : aS} (h : OKS B S) : sN 5 (fun f => (sB S f).length) ≤ 30 := by
  have := sN_le (N := 5) (f := fun f => (sB S f).length) (b := 6) (fun f hf => (h.2.1 f hf).1)
  omega
def isI (z : Nat) : Int32 := if z = 0 then 0 else 1
theorem nm4 (S : aS) (f n : Nat) : onI (sSt S) (sD S) (sBo S) (nm S f n) 4 = stlI (sSt S) (sD S) (sBo S) (nm S f n) := rfl
/-- whether the next storm takes it -/
def nxB (S : aS) (m : aN) : Bool := decide (sBo S < ubN (sSt S) (sD S) m 1)
theorem stl_nx (S : aS) (m : aN) : (stlI (sSt S) (sD S) (sBo S) m = 1) ↔ nxB S m = true := by
  rw [show (stlI (sSt S) (sD S) (sBo S) m = 1) = (stlI (sSt S) (sD S) (sBo S) m = nI 1) from rfl, stl_1]
  unfold nxB
  rw [decide_eq_true_iff]
theorem flN {β : Type} {S : aS} {m : aN} {g : Int32 → Option β} {r : Option β} (z : g (nI (bN (nxB S m))) = r) : flet (if stlI (sSt S) (sD S) (sBo S) m = 1 then 1 else 0) g = r := by
  refine flV (v := nI (bN (nxB S m))) ?_ z
  cases q : nxB S m with
  | true => exact ifT ((stl_nx S m).mpr q) rfl
  | false => exact ifF (fun e => by rw [(stl_nx S m).mp e] at q; cases q) rfl
section
variable {B : Nat} {S : aS} {T : Option aS} {b : List Nat} {c hv hn bc wl : Nat → Int32} {ho hs ht bs ws : Int32} {f n g l : Nat}
theorem sto37 (h : IC B S c) (hf : f < 5) : s_L_storms_L37 (nI f) c gF 0 0 0 = some (nI (lostN S f), isI (lostN S f), nI (sB S f).length) := by
  have h6 := h.six hf
  have k1 := q_fisher h hf (w := 1) (by omega)
  have k1 : s_X10_fisher (nI f) 1 c = some (.inl (nI (sB S f).length)) := k1
  refine lpN (fun fu (y : Int32 × Int32 × Int32) => s_L_storms_L37 (nI f) c fu y.1 y.2.1 y.2.2) (sB S f).length (fun i => (nI (sN i (fun n => bN (nxB S (nm S f n)))), isI (sN i (fun n => bN (nxB S (nm S f n)))), nI i)) _ (by omega) (fun i hi fu => ?_) (fun fu => ?_)
  · have n4 := q_name h hf hi (w := 4) (by omega)
    rw [nm4] at n4
    show s_L_storms_L37 (nI f) c (fu + 1) (nI (sN i (fun n => bN (nxB S (nm S f n))))) (isI (sN i (fun n => bN (nxB S (nm S f n))))) (nI i) = s_L_storms_L37 (nI f) c fu (nI (sN i (fun n => bN (nxB S (nm S f n))) + bN (nxB S (nm S f i)))) (isI (sN i (fun n => bN (nxB S (nm S f n))) + bN (nxB S (nm S f i)))) (nI (i + 1))
    generalize sN i (fun n => bN (nxB S (nm S f n))) = z
    rw [s_L_storms_L37]
    refine cal k1 (ifF (by simp (disch := omega) only [↓reduceIte, nI_lit, mO_lit, mO_lt, mO_le, mO_gt, mO_ge, mO_ne, mO_ne', nI_add, nI_mul, nI_addlit0, bsome, c_le_f, c_le_t, c_lt_f, c_lt_t, c_eq_f, c_eq_t, if_true, if_false, fld_n, fst_n, not_false_eq_true]) ?_)
    rw [← nI_add i 1, ← nI_add z]
    by_cases q : z = 0
    · subst q
      refine ifT rfl (cal n4 (flN (cal n4 (flN ?_))))
      have e : nI (bN (nxB S (nm S f i))) = isI (0 + bN (nxB S (nm S f i))) := by cases nxB S (nm S f i) <;> rfl
      rw [← e]; rfl
    · have e1 : isI z = 1 := if_neg q
      have e2 : isI (z + bN (nxB S (nm S f i))) = 1 := if_neg (by omega)
      rw [e1, e2]
      refine ifF (by decide) (cal n4 (flN ?_))
      rfl
  · show s_L_storms_L37 (nI f) c (fu + 1) _ _ (nI (sB S f).length) = _
    rw [s_L_storms_L37]
    exact cal k1 (ifT (by simp (disch := omega) only [↓reduceIte, nI_lit, mO_lit, mO_lt, mO_le, mO_gt, mO_ge, mO_ne, mO_ne', nI_add, nI_mul, nI_addlit0, bsome, c_le_f, c_le_t, c_lt_f, c_lt_t, c_eq_f, c_eq_t, if_true, if_false, fld_n, fst_n, not_false_eq_true]) rfl)
theorem stormsT (J : JP B S T b c ho hs ht hv hn bs bc) (hO : OKI S) (hf : f < 5) (hB : B + 1 < 1000000) :
    ∃ c' ho' hs' hv', s_L_storms (nI f) c ho hs hv = some (1, c', ho', hs', hv') ∧ JP (B + 1) (aStorm f S).2 T b c' ho' hs' ht hv' hn bs bc := by
  have h := J.1
  obtain ⟨c', ho', hs', hv', g1, J'⟩ := p_storm J hB hf
  have h' := J'.1
  obtain ⟨i1, i2, i3, i4, i5, i6, i7, i8⟩ := storm_spec h.2 hO hf hB
  refine ⟨c', ho', hs', hv', ?_, J'⟩
  have hst := h.2.1.1
  have hlo := lost_le S f
  have h6 := h.six hf
  have hL := hO.2.2
  obtain ⟨L, l1, l2, l3⟩ := hL
  obtain ⟨L', m1, m2⟩ := i7 L l1
  have s0 := q_ifStorm h hf (w := 0) (by omega)
  rw [lost_I] at s0
  have c0 := q_count h (w := 0) (by omega) hs
  have c1 := q_count h (w := 1) (by omega) hs
  have c7 := q_count h (w := 7) (by omega) hs
  have d0 := q_count h' (w := 0) (by omega) hs'
  have d1 := q_count h' (w := 1) (by omega) hs'
  have d6 := q_count h' (w := 6) (by omega) hs'
  have d7 := q_count h' (w := 7) (by omega) hs'
  have x0 : oaI S 0 = nI (sN 5 (fun f => (sB S f).length)) := namesL S
  have x7 : oaI S 7 = nI (sN 5 L) := lost_N l1
  have y0 : oaI (aStorm f S).2 0 = nI (sN 5 (fun f => (sB S f).length) - lostN S f) := by
    show sI 5 (fun g => fN (aStorm f S).2 g 1) = _
    rw [show sI 5 (fun g => fN (aStorm f S).2 g 1) = nI (sN 5 (fun g => (sB (aStorm f S).2 g).length)) from namesL _]
    congr 1
    have e1 : sN 5 (fun g => (sB (aStorm f S).2 g).length) = sN 5 (fun g => (updF (sB S) f (kept (sBo S) (sB (lsS f S) f)) g).length) := by rw [i3]
    have e2 := sN_upd (sB S) (kept (sBo S) (sB (lsS f S) f)) (fun l => l.length) hf
    have e3 := kept_len (sBo S) (sB (lsS f S) f)
    rw [lst_ls, lsS_Bf, lsQ_len] at e3
    rw [lsS_Bf] at e1 e2
    omega
  have y1 : oaI (aStorm f S).2 1 = nI (sSt S + 1) := by show nI (sSt (aStorm f S).2) = _; rw [i4]
  have y7 : oaI (aStorm f S).2 7 = nI (sN 5 L + lostN S f) := by
    show sI 5 (fun g => fN (aStorm f S).2 g 2) = _
    rw [lost_N m1, m2]
  have y6 : oaI (aStorm f S).2 6 = nI (sE (aStorm f S).2).length := rfl
  rw [x0] at c0; rw [x7] at c7; rw [y0] at d0; rw [y1] at d1; rw [y7] at d7; rw [y6] at d6
  rw [i1] at g1
  have c1 : s_X10_count 1 c hs = some (.inl (nI (sSt S))) := c1
  have hnl : lostN S f ≤ sN 5 (fun f => (sB S f).length) := Nat.le_trans hlo (sN_at (f := fun f => (sB S f).length) hf)
  have hE' := h'.2.2.2.1
  unfold s_L_storms
  refine cal s0 (cal c0 (cal c1 (cal c7 (bindE (sto37 h hf) (calM (v := nI (lostN S f)) (w := (c', ho', hs', hv')) g1 (ifT rfl (ifT rfl (flV (v := isI (lostN S f)) ?_ (ifT rfl (cal d1 (ifT ?_ (cal d7 (ifT ?_ (cal d0 (ifT ?_ ?_)))))))))))))))
  · by_cases q : lostN S f = 0
    · rw [q]; rfl
    · exact ifF (nI_ge (a := 0) (by omega) (by omega)) (if_neg q).symm
  · exact (nI_add _ 1).symm
  · rw [nI_add]
  · rw [nI_sub hnl]
  · by_cases q : lostN S f = 0
    · exact ifT (by rw [q]; rfl) rfl
    · obtain ⟨w, w1, w2⟩ := i8 (by omega)
      have r1 := q_drowned h' (j := (sE (aStorm f S).2).length - 1) (w := 1) (by omega) (by omega)
      have r2 := q_drowned h' (j := (sE (aStorm f S).2).length - 1) (w := 2) (by omega) (by omega)
      have z1 : oeI (sE (aStorm f S).2) ((sE (aStorm f S).2).length - 1) 1 = nI f := by unfold oeI; rw [if_pos (by omega), w2]; rfl
      have z2 : oeI (sE (aStorm f S).2) ((sE (aStorm f S).2).length - 1) 2 = nI (sSt S + 1) := by unfold oeI; rw [if_pos (by omega), w2]; rfl
      rw [z1, ← nI_sub w1] at r1
      rw [z2, ← nI_sub w1] at r2
      refine ifF (nI_ne0 (by omega) (by omega)) (cal d6 (cal r1 (ifT rfl (cal d6 (cal r2 (flT ?_ (fz1 rfl)))))))
      exact (nI_add _ 1).symm
end
