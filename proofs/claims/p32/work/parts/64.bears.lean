/-! the law: a name bears as many storms as it is told -/
theorem ub_ls (st d : Nat) (m : aN) (s : Nat) : ubN (st + 1) d (lsN st d m) s = ubN st d m (1 + s) := by
  unfold ubN
  rw [lsN_len]
  refine sN_congr fun k hk => ?_
  rw [lsN_gK hk]
  congr 2
  have e : lbN (st + 1) d k ((gK m k).1, lbN st d k (gK m k) 1, (gK m k).2.2) s = lbN st d k (gK m k) (1 + s) := by
    unfold lbN
    show (if vow (gK m k).1 = true then (if vow (gK m k).1 = true then (gK m k).2.1 + (k + 1 + st + 1) / d - (k + 1 + st) / d else (gK m k).2.1) + (k + 1 + (st + 1) + s) / d - (k + 1 + (st + 1)) / d else (if vow (gK m k).1 = true then (gK m k).2.1 + (k + 1 + st + 1) / d - (k + 1 + st) / d else (gK m k).2.1)) = _
    by_cases hv : vow (gK m k).1 = true
    · rw [if_pos hv, if_pos hv, if_pos hv]
      have q1 : (k + 1 + st) / d ≤ (k + 1 + st + 1) / d := Nat.div_le_div_right (by omega)
      have q2 : (k + 1 + st + 1) / d ≤ (k + 1 + st + (1 + s)) / d := Nat.div_le_div_right (by omega)
      rw [show k + 1 + (st + 1) + s = k + 1 + st + (1 + s) from by omega, show k + 1 + (st + 1) = k + 1 + st + 1 from by omega]
      omega
    · rw [if_neg hv, if_neg hv, if_neg hv]
  rw [e]
section
variable {B : Nat} {S : aS} {T : Option aS} {b : List Nat} {c hv hn bc wl : Nat → Int32} {ho hs ht bs ws : Int32} {f n g l p : Nat}
theorem brs68 (h : IC B S c) (hf : f < 5) (hp : p < (sB S f).length) : s_L_bears_L68 (nI f) (nI p) c gF 0 0 = some (nI (sN p (fun i => bN (nxB S (nm S f i)))), nI p) := by
  have h6 := h.six hf
  refine lpN (fun fu (y : Int32 × Int32) => s_L_bears_L68 (nI f) (nI p) c fu y.1 y.2) p (fun i => (nI (sN i (fun i => bN (nxB S (nm S f i)))), nI i)) _ (by omega) (fun i hi fu => ?_) (fun fu => ?_)
  · have n4 := q_name h hf (n := i) (by omega) (w := 4) (by omega)
    rw [nm4] at n4
    show s_L_bears_L68 (nI f) (nI p) c (fu + 1) (nI (sN i (fun i => bN (nxB S (nm S f i))))) (nI i) = s_L_bears_L68 (nI f) (nI p) c fu (nI (sN i (fun i => bN (nxB S (nm S f i))) + bN (nxB S (nm S f i)))) (nI (i + 1))
    rw [s_L_bears_L68]
    refine ifF (by simp (disch := omega) only [↓reduceIte, nI_lit, mO_lit, mO_lt, mO_le, mO_gt, mO_ge, mO_ne, mO_ne', nI_add, nI_mul, nI_addlit0, bsome, c_le_f, c_le_t, c_lt_f, c_lt_t, c_eq_f, c_eq_t, if_true, if_false, fld_n, fst_n, not_false_eq_true]) (cal n4 (flN ?_))
    rw [← nI_add i 1, ← nI_add]; rfl
  · show s_L_bears_L68 (nI f) (nI p) c (fu + 1) _ (nI p) = _
    rw [s_L_bears_L68]
    exact ifT (by simp (disch := omega) only [↓reduceIte, nI_lit, mO_lit, mO_lt, mO_le, mO_gt, mO_ge, mO_ne, mO_ne', nI_add, nI_mul, nI_addlit0, bsome, c_le_f, c_le_t, c_lt_f, c_lt_t, c_eq_f, c_eq_t, if_true, if_false, fld_n, fst_n, not_false_eq_true]) rfl
theorem ahead_eq (hp : p < (sB S f).length) : sN p (fun i => bN (lstB (sBo S) ((sB (lsS f S) f).getD i []))) = sN p (fun i => bN (nxB S (nm S f i))) := by
  refine sN_congr fun i hi => ?_
  show bN (lstB (sBo S) (nm (lsS f S) f i)) = _
  rw [lsS_nm (by omega)]
  unfold lstB nxB
  rw [u2_ls]
theorem brs23 {K : Nat} {p3 : Int32} (J : JP B S (some S) b c ho hs ht hv hn bs bc) (hO : OKI S) (hf : f < 5) (hB : B + 60 < 1000000) (hn' : n < (sB S f).length) (hK : K ≤ 60) (hv4 : (if 0 ≤ p3 then p3 else 60) = nI K)
    (hgo : ∀ k, 1 ≤ k → k ≤ K → (nI k = p3 ↔ sBo S < ubN (sSt S) (sD S) (nm S f n) k)) (hst : ∀ k, 1 ≤ k → k < K → ¬ sBo S < ubN (sSt S) (sD S) (nm S f n) k) :
    ∃ x5 x7 c' ho' hs' hv' S', s_L_bears_L23 (nI f) p3 gF (nI n) 1 1 c ho hs hv = some (x5, 1, x7, c', ho', hs', hv') ∧ JP (B + 60) S' (some S) b c' ho' hs' ht hv' hn bs bc := by
  have key := lp (fun fu (y : Int32 × Int32 × Int32 × (Nat → Int32) × Int32 × Int32 × (Nat → Int32)) => s_L_bears_L23 (nI f) p3 fu y.1 y.2.1 y.2.2.1 y.2.2.2.1 y.2.2.2.2.1 y.2.2.2.2.2.1 y.2.2.2.2.2.2) K
    (fun i y => ∃ (x : Int32) (c' : Nat → Int32) (ho' hs' : Int32) (hv' : Nat → Int32) (S' : aS), y = (x, 1, nI (i + 1), c', ho', hs', hv') ∧ JP (B + i) S' (some S) b c' ho' hs' ht hv' hn bs bc ∧ OKI S' ∧ sBo S' = sBo S ∧
      (i < K → ∃ p, x = nI p ∧ p < (sB S' f).length ∧ ∀ s, ubN (sSt S') (sD S') (nm S' f p) s = ubN (sSt S) (sD S) (nm S f n) (i + s)))
    (fun r => ∃ (x5 x7 : Int32) (c' : Nat → Int32) (ho' hs' : Int32) (hv' : Nat → Int32) (S' : aS), r = (x5, 1, x7, c', ho', hs', hv') ∧ JP (B + 60) S' (some S) b c' ho' hs' ht hv' hn bs bc)
    (fun i hi fu y hy => by
      obtain ⟨x, c1, ho1, hs1, hv1, S1, rfl, J1, O1, b1, hp⟩ := hy
      obtain ⟨p, rfl, hp1, hp2⟩ := hp hi
      have h1 := J1.1
      have h6 := h1.six hf
      obtain ⟨c2, ho2, hs2, hv2, g1, J2⟩ := p_storm J1 (by omega) hf
      obtain ⟨i1, i2, i3, i4, i5, i6, i7, i8⟩ := storm_spec h1.2 O1 hf (by omega)
      have O2 := storm_I h1.2 O1 hf (by omega)
      have n4 := q_name h1 hf hp1 (w := 4) (by omega)
      rw [nm4] at n4
      have l68 := brs68 h1 hf hp1
      have hgo' := hgo (i + 1) (by omega) (by omega)
      have hlo := lost_le S1 f
      have enx : nxB S1 (nm S1 f p) = decide (sBo S < ubN (sSt S) (sD S) (nm S f n) (i + 1)) := by
        unfold nxB
        rw [hp2 1, b1]
      have hah : sN p (fun i => bN (nxB S1 (nm S1 f i))) ≤ p := by
        have := sN_le (N := p) (f := fun i => bN (nxB S1 (nm S1 f i))) (b := 1) (fun i _ => bN_le _)
        omega
      refine Or.inl ⟨(nI (p - sN p (fun i => bN (nxB S1 (nm S1 f i)))), 1, nI (i + 1 + 1), c2, ho2, hs2, hv2), ?_, _, c2, ho2, hs2, hv2, (aStorm f S1).2, rfl, J2, O2, by rw [i6, b1], fun hi2 => ?_⟩
      · show s_L_bears_L23 (nI f) p3 (fu + 1) (nI p) 1 (nI (i + 1)) c1 ho1 hs1 hv1 = _
        rw [s_L_bears_L23]
        refine flV (v := nI K) hv4 (ifF (nI_nlt (by omega) (by omega)) (ifF (by decide) (cal n4 (flN (bindE l68 (calM (v := nI (aStorm f S1).1) (w := (c2, ho2, hs2, hv2)) g1 (flV (v := 1) ?_ ?_)))))))
        · rw [i1]
          refine ifF (nI_pos (by omega)) ?_
          rw [enx]
          by_cases q : sBo S < ubN (sSt S) (sD S) (nm S f n) (i + 1)
          · exact ifT (hgo'.mpr q) (by rw [decide_eq_true q]; rfl)
          · exact ifF (fun e => q (hgo'.mp e)) (by rw [decide_eq_false q]; rfl)
        · rw [← nI_sub hah, ← nI_add (i + 1) 1]; rfl
      · have hns := hst (i + 1) (by omega) hi2
        have hk : lstB (sBo S1) ((sB (lsS f S1) f).getD p []) = false := by
          show lstB (sBo S1) (nm (lsS f S1) f p) = false
          rw [lsS_nm hp1]
          unfold lstB
          rw [u2_ls, hp2 1, b1]
          exact decide_eq_false hns
        have hlen : p < (sB (lsS f S1) f).length := by rw [lsS_Bf, lsQ_len]; exact hp1
        obtain ⟨k1, k2, k3⟩ := kept_at (sBo S1) _ p hlen hk
        rw [ahead_eq hp1] at k1 k2 k3
        refine ⟨p - sN p (fun i => bN (nxB S1 (nm S1 f i))), rfl, by rw [i3, updF_s]; exact k3, fun s => ?_⟩
        have e1 : nm (aStorm f S1).2 f (p - sN p (fun i => bN (nxB S1 (nm S1 f i)))) = lsN (sSt S1) (sD S1) (nm S1 f p) := by
          show (sB (aStorm f S1).2 f).getD _ [] = _
          rw [i3, updF_s, k1]
          exact lsS_nm hp1
        rw [e1, i4, i5, ub_ls, hp2]
        congr 1
        omega)
    (fun fu y hy => by
      obtain ⟨x, c1, ho1, hs1, hv1, S1, rfl, J1, O1, b1, hp⟩ := hy
      refine ⟨_, ?_, x, nI (K + 1), c1, ho1, hs1, hv1, S1, rfl, JP_mono J1 (by omega) hB⟩
      show s_L_bears_L23 (nI f) p3 (fu + 1) x 1 (nI (K + 1)) c1 ho1 hs1 hv1 = _
      rw [s_L_bears_L23]
      exact flV (v := nI K) hv4 (ifT (nI_lt (by omega) (by omega)) rfl)) K 0 gF (nI n, 1, nI (0 + 1), c, ho, hs, hv) (by omega) (by unfold gF; omega)
      ⟨nI n, c, ho, hs, hv, S, rfl, J, hO, rfl, fun _ => ⟨n, rfl, hn', fun s => by rw [Nat.zero_add]⟩⟩
  obtain ⟨r, k1, x5, x7, c', ho', hs', hv', S', rfl, k2⟩ := key
  exact ⟨x5, x7, c', ho', hs', hv', S', k1, k2⟩
theorem bearsT (J : JP B S T b c ho hs ht hv hn bs bc) (hO : OKI S) (hf : f < 5) (hB : B + 60 < 1000000) (hn' : n < (sB S f).length) :
    ∃ c' ho' hs' ht' hv' hn2, s_L_bears (nI f) (nI n) c ho hs ht hv hn = some (1, c', ho', hs', ht', hv', hn2) ∧ JP (B + 60) S (some S) b c' ho' hs' ht' hv' hn2 bs bc := by
  have h := J.1
  have n4 := q_name h hf hn' (w := 4) (by omega)
  rw [nm4] at n4
  obtain ⟨ht', hn2, g1, J1⟩ := p_keep J
  have key : ∃ x5 x7 c' ho' hs' hv' S', s_L_bears_L23 (nI f) (stlI (sSt S) (sD S) (sBo S) (nm S f n)) gF (nI n) 1 1 c ho hs hv = some (x5, 1, x7, c', ho', hs', hv') ∧ JP (B + 60) S' (some S) b c' ho' hs' ht' hv' hn2 bs bc := by
    rcases stl_cases (sSt S) (sD S) (sBo S) (nm S f n) with ⟨L, l1, l2, l3, l4, l5⟩ | ⟨l1, l2⟩
    · rw [l3]
      refine brs23 (K := L) J1 hO hf hB hn' l2 (if_pos (nneg_le (nI_pos (by omega)))) (fun k k1 k2 => ?_) (fun k k1 k2 => l5 k k1 k2)
      constructor
      · intro e
        have := (nI_eq (by omega) (by omega)).mp e
        subst this; exact l4
      · intro e
        by_cases q : k = L
        · rw [q]
        · exact absurd e (l5 k k1 (by omega))
    · rw [l1]
      refine brs23 (K := 60) J1 hO hf hB hn' (Nat.le_refl _) (by decide) (fun k k1 k2 => ?_) (fun k k1 k2 => l2 k k1 (by omega))
      constructor
      · intro e; exact absurd e (ne_mO (by omega))
      · intro e; exact absurd e (l2 k k1 k2)
  obtain ⟨x5, x7, c1, ho1, hs1, hv1, S1, k1, k2⟩ := key
  obtain ⟨c2, ho2, hs2, hv2, r1, J2⟩ := p_restore k2
  refine ⟨c2, ho2, hs2, ht', hv2, hn2, ?_, J2⟩
  unfold s_L_bears
  refine cal n4 (bindE g1 (bindE k1 (ifF (show ¬ (1 : Int32) = 0 by decide) (calM (v := oaI S 0) (w := (c2, ho2, hs2, hv2)) r1 (flT rfl (fz1 rfl))))))
end
