/-! the law: a name is as it should be -/
theorem gone_eq {S : aS} (m : aN) : onI (sSt S) (sD S) (sBo S) m 3 = nI (u2 m) := by
  show nI (ubN (sSt S) (sD S) m 0) = _
  rw [ubN_0]
section
variable {B f n i fu a b d : Nat} {S : aS} {c : Nat → Int32}
def in4 (m : aN) (i : Nat) : Nat := if i < m.length then ckN (gK m i).1 + 1 else 0
def in5 (m : aN) (i : Nat) : Nat := if i < m.length then bN (decide (0 < (gK m i).2.1)) else 0
def in6 (m : aN) (i : Nat) : Nat := if i < m.length then bN (decide (1 < (gK m i).2.1)) else 0
theorem isn_s (h : IC B S c) (hf : f < 5) (hn : n < (sB S f).length) (hi : i < 8) :
    s_L_isName_L20 (nI f) (nI n) (nI (nm S f n).length) c (fu + 1) (nI a) (nI b) (nI d) (nI i) = s_L_isName_L20 (nI f) (nI n) (nI (nm S f n).length) c fu (nI (a + in4 (nm S f n) i)) (nI (b + in5 (nm S f n) i)) (nI (d + in6 (nm S f n) i)) (nI (i + 1)) := by
  have k0 := q_knot h hf hn hi (w := 0) (by omega)
  have k1 := q_knot h hf hn hi (w := 1) (by omega)
  have k2 := q_knot h hf hn hi (w := 2) (by omega)
  have om := h.2.nam hf hn
  have hl8 := om.2.1
  have hB := h.2.1.2.1
  generalize nm S f n = m at *
  rw [s_L_isName_L20]
  refine ifF (by simp (disch := omega) only [↓reduceIte, nI_lit, mO_lit, mO_lt, mO_le, mO_gt, mO_ge, mO_ne, mO_ne', nI_add, nI_mul, nI_addlit0, bsome, c_le_f, c_le_t, c_lt_f, c_lt_t, c_eq_f, c_eq_t, if_true, if_false, fld_n, fst_n, not_false_eq_true]) ?_
  unfold in4 in5 in6
  by_cases q : i < m.length
  · have ok := om.2.2 i q
    have hr := rdN_le ok
    have e0 : okI m i 0 = nI (gK m i).1 := by unfold okI; rw [if_pos q]; rfl
    have e1 : okI m i 1 = nI (rdN (gK m i)) := by unfold okI; rw [if_pos q]; rfl
    have e2 : okI m i 2 = nI (gK m i).2.1 := by unfold okI; rw [if_pos q]; rfl
    rw [e0] at k0; rw [e1] at k1; rw [e2] at k2
    rw [if_pos q, if_pos q, if_pos q]
    generalize gK m i = x at *
    obtain ⟨l, tm, fi⟩ := x
    obtain ⟨o1, o2, o3, o4⟩ := ok
    have o1 : l < 16 := o1
    have o2 : tm ≤ B := o2
    have o4 : 0 < tm → vow l = true := o4
    have l2 := q_letter h (l := l) (w := 2) o1 (by omega)
    have l3 := q_letter h (l := l) (w := 3) o1 (by omega)
    have f2 : olI S l 2 = nI (ckN l) := ckI_N (by omega)
    rw [f2] at l2
    have k0 : s_X10_knot (nI f) (nI n) (nI i) (nI 0) c = some (.inl (nI l)) := k0
    have k2 : s_X10_knot (nI f) (nI n) (nI i) (nI 2) c = some (.inl (nI tm)) := k2
    show _ = s_L_isName_L20 (nI f) (nI n) (nI m.length) c fu (nI (a + (ckN l + 1))) (nI (b + bN (decide (0 < tm)))) (nI (d + bN (decide (1 < tm)))) (nI (i + 1))
    rw [← nI_add i 1, ← nI_add b, ← nI_add d, ← nI_add a, ← nI_add (ckN l)]
    refine cal k0 (cal k1 (cal k2 ?_))
    refine flF (ne_mO (by omega)) (flT (by simp (disch := omega) only [↓reduceIte, nI_lit, mO_lit, mO_lt, mO_le, mO_gt, mO_ge, mO_ne, mO_ne', nI_add, nI_mul, nI_addlit0, bsome, c_le_f, c_le_t, c_lt_f, c_lt_t, c_eq_f, c_eq_t, if_true, if_false, fld_n, fst_n, not_false_eq_true]) (ifT rfl (flF (ne_mO (by omega)) (flF (ne_mO (by omega)) (ifT rfl (flF (ne_mO (by omega)) (flF (ne_mO (by omega)) (ifT rfl (ifF (nI_pos (by omega)) (cal l2 ?_))))))))))
    rcases (by omega : tm = 0 ∨ tm = 1 ∨ 1 < tm) with t | t | t
    · subst t
      exact flT (by decide) (flT (by decide) (flT rfl (ifT rfl (ifT (by decide) (ifT (by decide) rfl)))))
    · subst t
      have hv : olI S l 3 = nI 1 := by show bI (vow l) = _; rw [o4 (by omega)]; rfl
      rw [hv] at l3
      refine flF (by decide) (flT (by decide) (flV (v := nI (l + 1)) ?_ (ifT rfl (ifF (by decide) (cal l3 (ifF (by exact n10) (ifT (by decide) rfl)))))))
      exact (if_neg (by exact n10)).trans ((if_pos (show nI 1 = 1 from rfl)).trans (nI_add l 1))
    · have hv : olI S l 3 = nI 1 := by show bI (vow l) = _; rw [o4 (by omega)]; rfl
      rw [hv] at l3
      have hne : ¬ nI tm = 0 := nI_ne0 (by omega) (by omega)
      have hne1 : ¬ nI tm = 1 := fun e => by
        have := (nI_eq (a := tm) (b := 1) (by omega) (by omega)).mp e
        omega
      have h16 : rdN (l, tm, fi) = 16 := by
        unfold rdN
        rw [if_neg (by show ¬ tm = 0; omega), if_neg (by show ¬ tm = 1; omega)]
      rw [decide_eq_true (show 0 < tm by omega), decide_eq_true t]
      refine flF (nI_ge (a := 0) (by omega) (by omega)) (flF (nI_ge (a := 1) t (by omega)) (flV (v := nI 16) ?_ (ifT (by rw [h16]) (ifF (nI_ge (a := 0) (by omega) (by omega)) (cal l3 (ifF (by exact n10) (ifT (nI_le (a := 0) (by omega) (by omega)) rfl)))))))
      rw [if_neg hne, if_neg hne1]; rfl
  · have e : ∀ w, okI m i w = mO := fun w => by unfold okI; rw [if_neg q]
    rw [e] at k0 k1 k2
    rw [if_neg q, if_neg q, if_neg q]
    refine cal k0 (cal k1 (cal k2 ?_))
    refine flT rfl (flF (by simp (disch := omega) only [↓reduceIte, nI_lit, mO_lit, mO_lt, mO_le, mO_gt, mO_ge, mO_ne, mO_ne', nI_add, nI_mul, nI_addlit0, bsome, c_le_f, c_le_t, c_lt_f, c_lt_t, c_eq_f, c_eq_t, if_true, if_false, fld_n, fst_n, not_false_eq_true]) (ifT rfl (flT rfl (flT rfl (ifT rfl (flT rfl (flT rfl (ifT rfl (ifT (by decide) ?_)))))))))
    rw [show nI i + 1 = nI (i + 1) from nI_add i 1]
    rfl
theorem isN (h : IC B S c) (hf : f < 5) (hn : n < (sB S f).length) : s_L_isName (nI f) (nI n) c = some 1 := by
  have n0 := q_name h hf hn (w := 0) (by omega)
  have n1 := q_name h hf hn (w := 1) (by omega)
  have n2 := q_name h hf hn (w := 2) (by omega)
  have n3 := q_name h hf hn (w := 3) (by omega)
  have n4 := q_name h hf hn (w := 4) (by omega)
  have om := h.2.nam hf hn
  have hl8 := om.2.1
  have hl1 := om.1
  have s := fun i (hi : i < 8) fu a b d => isn_s (i := i) (fu := fu) (a := a) (b := b) (d := d) h hf hn hi
  generalize nm S f n = m at *
  have loop : s_L_isName_L20 (nI f) (nI n) (nI m.length) c gF 2 0 0 0 = some (.inr (nI (2 + sN 8 (in4 m)), nI (0 + sN 8 (in5 m)), nI (0 + sN 8 (in6 m)), nI 8)) := by
    refine lpN (fun fu (y : Int32 × Int32 × Int32 × Int32) => s_L_isName_L20 (nI f) (nI n) (nI m.length) c fu y.1 y.2.1 y.2.2.1 y.2.2.2) 8 (fun i => (nI (2 + sN i (in4 m)), nI (0 + sN i (in5 m)), nI (0 + sN i (in6 m)), nI i)) _ (by omega) (fun i hi fu => ?_) (fun fu => ?_)
    · have := s i hi fu (2 + sN i (in4 m)) (0 + sN i (in5 m)) (0 + sN i (in6 m))
      rw [Nat.add_assoc, Nat.add_assoc, Nat.add_assoc] at this
      exact this
    · show s_L_isName_L20 (nI f) (nI n) (nI m.length) c (fu + 1) _ _ _ (nI 8) = _
      rw [s_L_isName_L20]
      exact ifT (by decide) rfl
  have e4 : 2 + sN 8 (in4 m) = cN m := by
    unfold cN
    congr 1
    exact sN_cut (f := fun k => ckN (gK m k).1 + 1) hl8
  have e5 : 0 + sN 8 (in5 m) = loN m := by
    rw [Nat.zero_add, loN_eq]
    exact sN_cut (f := fun k => bN (decide (0 < (gK m k).2.1))) hl8
  have e6 : 0 + sN 8 (in6 m) = u2 m := by
    rw [Nat.zero_add]; unfold u2
    exact sN_cut (f := fun k => bN (decide (1 < (gK m k).2.1))) hl8
  rw [e4, e5, e6] at loop
  rw [show onI (sSt S) (sD S) (sBo S) m 1 = nI (cN m) from cdN_N om] at n1
  rw [gone_eq] at n3
  refine cal n0 (sumR loop (cal n4 (ifF (nI_nlt (b := 1) hl1 (by omega)) (ifF (nI_nlt (a := 8) hl8 (by omega)) (cal n1 (ifT rfl (cal n2 (ifT rfl (cal n3 (flV (v := 1) ?_ (fz1 rfl)))))))))))
  refine ifT rfl ?_
  have e4 : onI (sSt S) (sD S) (sBo S) m 4 = stlI (sSt S) (sD S) (sBo S) m := rfl
  rw [e4]
  rcases stl_cases (sSt S) (sD S) (sBo S) m with ⟨L, l1, l2, l3, -, -⟩ | ⟨l3, -⟩
  · have m1 : ¬ nI L = -1 := ne_mO (by omega)
    have m2 : ¬ nI L < 1 := nI_nlt (a := L) (b := 1) l1 (by omega)
    have m3 : ¬ 60 < nI L := nI_nlt (a := 60) (b := L) l2 (by omega)
    rw [l3, if_neg m1, if_neg m2, if_neg m3]
  · rw [l3]; exact ifT rfl rfl
end
