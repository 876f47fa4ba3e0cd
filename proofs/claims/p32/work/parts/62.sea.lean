/-! a storm: who is lost, who stays, where -/
def lstB (b : Nat) (m : aN) : Bool := decide (b < u2 m)
def kept (b : Nat) (l : List aN) : List aN := l.filter (fun m => !lstB b m)
def lstN (b : Nat) (l : List aN) : Nat := bS l (fun m => bN (lstB b m))
theorem lstN_cons (b : Nat) (m : aN) (l : List aN) : lstN b (m :: l) = bN (lstB b m) + lstN b l := bS_cons _ _ _
theorem kept_len (b : Nat) (l : List aN) : (kept b l).length + lstN b l = l.length := by
  induction l with
  | nil => rfl
  | cons m l ih =>
    rw [lstN_cons]
    unfold kept at *
    rw [List.filter_cons]
    cases q : lstB b m with
    | true => rw [if_neg (by simp)]; show _ + (1 + _) = l.length + 1; omega
    | false => rw [if_pos (by simp)]; show (List.filter _ l).length + 1 + (0 + _) = l.length + 1; omega
/-- who stays, comes so many places nearer as were lost ahead -/
theorem kept_at (b : Nat) : ∀ (l : List aN) (n : Nat), n < l.length → lstB b (l.getD n []) = false → (kept b l).getD (n - sN n (fun i => bN (lstB b (l.getD i [])))) [] = l.getD n [] ∧ sN n (fun i => bN (lstB b (l.getD i []))) ≤ n ∧ n - sN n (fun i => bN (lstB b (l.getD i []))) < (kept b l).length := by
  intro l
  induction l with
  | nil => intro n h; exact absurd h (Nat.not_lt_zero _)
  | cons m l ih =>
    intro n h hq
    cases n with
    | zero =>
      have hq : lstB b m = false := hq
      unfold kept
      rw [List.filter_cons, if_pos (by rw [hq]; rfl)]
      exact ⟨rfl, Nat.le_refl _, by simp⟩
    | succ n =>
      have h1 : n < l.length := by simpa using h
      have hq : lstB b (l.getD n []) = false := hq
      obtain ⟨i1, i2, i3⟩ := ih n h1 hq
      have e : sN (n + 1) (fun i => bN (lstB b ((m :: l).getD i []))) = bN (lstB b m) + sN n (fun i => bN (lstB b (l.getD i []))) := sN_front n (fun i => bN (lstB b ((m :: l).getD i [])))
      rw [e]
      have hk : kept b (m :: l) = if !lstB b m then m :: kept b l else kept b l := by unfold kept; rw [List.filter_cons]
      rw [hk]
      show (if (!lstB b m) = true then m :: kept b l else kept b l).getD (n + 1 - (bN (lstB b m) + sN n (fun i => bN (lstB b (l.getD i []))))) [] = l.getD n [] ∧ bN (lstB b m) + sN n (fun i => bN (lstB b (l.getD i []))) ≤ n + 1 ∧ n + 1 - (bN (lstB b m) + sN n (fun i => bN (lstB b (l.getD i [])))) < (if (!lstB b m) = true then m :: kept b l else kept b l).length
      cases q : lstB b m with
      | true =>
        rw [if_neg (by simp)]
        show (kept b l).getD (n + 1 - (1 + _)) [] = _ ∧ 1 + _ ≤ n + 1 ∧ n + 1 - (1 + _) < _
        rw [show n + 1 - (1 + sN n (fun i => bN (lstB b (l.getD i [])))) = n - sN n (fun i => bN (lstB b (l.getD i []))) from by omega]
        exact ⟨i1, by omega, i3⟩
      | false =>
        rw [if_pos (by simp)]
        show (m :: kept b l).getD (n + 1 - (0 + _)) [] = _ ∧ 0 + _ ≤ n + 1 ∧ n + 1 - (0 + _) < (kept b l).length + 1
        rw [show n + 1 - (0 + sN n (fun i => bN (lstB b (l.getD i [])))) = (n - sN n (fun i => bN (lstB b (l.getD i [])))) + 1 from by omega]
        exact ⟨i1, by omega, by omega⟩
theorem getD_drop (l : List aN) (p : Nat) (h : p < l.length) : l.drop p = l.getD p [] :: l.drop (p + 1) := by
  rw [List.getD_eq_getElem?_getD, List.getElem?_eq_getElem h]
  exact List.drop_eq_getElem_cons h
theorem take_erase (l : List aN) (p : Nat) : (l.eraseIdx p).take p = l.take p := by
  rw [List.eraseIdx_eq_take_drop_succ]
  by_cases h : p ≤ l.length
  · rw [List.take_append_of_le_length (by rw [List.length_take]; omega), List.take_take, Nat.min_self]
  · rw [List.drop_eq_nil_of_le (by omega), List.append_nil, List.take_take, Nat.min_self]
theorem drop_erase (l : List aN) (p : Nat) (h : p ≤ l.length) : (l.eraseIdx p).drop p = l.drop (p + 1) := by
  rw [List.eraseIdx_eq_take_drop_succ, List.drop_append]
  have e : (l.take p).length = p := by rw [List.length_take]; omega
  rw [e, Nat.sub_self, List.drop_eq_nil_of_le (by rw [e]; exact Nat.le_refl p), List.nil_append]; rfl
theorem take_succ' (l : List aN) (p : Nat) (h : p < l.length) : l.take (p + 1) = l.take p ++ [l.getD p []] := by
  rw [List.take_add_one, List.getD_eq_getElem?_getD, List.getElem?_eq_getElem h]; rfl
theorem sea_none {f : Nat} : ∀ (r p z : Nat) (S : aS), lstN (sBo S) ((sB S f).drop p) = 0 → p + r = (sB S f).length → sE (seaC f r p z S).2 = sE S := by
  intro r
  induction r with
  | zero => intros; rfl
  | succ r ih =>
    intro p z S h0 hp
    have hpl : p < (sB S f).length := by omega
    have ed := getD_drop (sB S f) p hpl
    rw [ed, lstN_cons] at h0
    have es : seaC f (r + 1) p z S = if sBo S < u2 (nm S f p) then seaC f r p (z + 1) (aLose f p S) else seaC f r (p + 1) z S := rfl
    rw [es, if_neg, ih (p + 1) z S (by omega) (by omega)]
    intro q
    have e : bN (lstB (sBo S) ((sB S f).getD p [])) = 1 := by unfold lstB; rw [decide_eq_true (show sBo S < u2 ((sB S f).getD p []) from q)]; rfl
    omega
/-- what the losses of one storm make -/
theorem sea_spec {B f : Nat} (hf : f < 5) : ∀ (r p z M : Nat) (S : aS), OKS B S → OKM M S → p + r = (sB S f).length →
    (seaC f r p z S).1 = z + lstN (sBo S) ((sB S f).drop p) ∧ OKM (M + lstN (sBo S) ((sB S f).drop p)) (seaC f r p z S).2 ∧ OKS B (seaC f r p z S).2 ∧
    sB (seaC f r p z S).2 = updF (sB S) f ((sB S f).take p ++ kept (sBo S) ((sB S f).drop p)) ∧
    sSt (seaC f r p z S).2 = sSt S ∧ sD (seaC f r p z S).2 = sD S ∧ sBo (seaC f r p z S).2 = sBo S ∧
    (∀ L : Nat → Nat, (∀ g, g < 5 → sLo S g = nI (L g)) → ∃ L' : Nat → Nat, (∀ g, g < 5 → sLo (seaC f r p z S).2 g = nI (L' g)) ∧ sN 5 L' = sN 5 L + lstN (sBo S) ((sB S f).drop p)) ∧
    (0 < lstN (sBo S) ((sB S f).drop p) → ∃ w, 1 ≤ (sE (seaC f r p z S).2).length ∧ gE (sE (seaC f r p z S).2) ((sE (seaC f r p z S).2).length - 1) = (w, f, nI (sSt S))) := by
  intro r
  induction r with
  | zero =>
    intro p z M S h hO hp
    have e : (sB S f).drop p = [] := List.drop_eq_nil_of_le (by omega)
    have e2 : (sB S f).take p = sB S f := List.take_of_length_le (by omega)
    rw [e, e2]
    refine ⟨rfl, hO, h, ?_, rfl, rfl, rfl, fun L hL => ⟨L, hL, rfl⟩, fun h => absurd h (Nat.lt_irrefl _)⟩
    show sB S = updF (sB S) f (sB S f ++ [])
    rw [List.append_nil]
    funext i
    by_cases q : i = f
    · subst q; rw [updF_s]
    · rw [updF_o q]
  | succ r ih =>
    intro p z M S h hO hp
    have hpl : p < (sB S f).length := by omega
    have ed := getD_drop (sB S f) p hpl
    have en : nm S f p = (sB S f).getD p [] := rfl
    have el : lstN (sBo S) ((sB S f).drop p) = bN (lstB (sBo S) (nm S f p)) + lstN (sBo S) ((sB S f).drop (p + 1)) := by rw [ed, lstN_cons]; rfl
    have ek : kept (sBo S) ((sB S f).drop p) = if !lstB (sBo S) (nm S f p) then nm S f p :: kept (sBo S) ((sB S f).drop (p + 1)) else kept (sBo S) ((sB S f).drop (p + 1)) := by rw [ed]; unfold kept; rw [List.filter_cons]; rfl
    have es : seaC f (r + 1) p z S = if sBo S < u2 (nm S f p) then seaC f r p (z + 1) (aLose f p S) else seaC f r (p + 1) z S := rfl
    rw [es]
    by_cases q : sBo S < u2 (nm S f p)
    · have ql : lstB (sBo S) (nm S f p) = true := decide_eq_true q
      rw [if_pos q]
      have h2 := OKS_lose h hf hpl
      have hO2 := OKM_lose h hO hf hpl
      obtain ⟨s1, s2, s3, s4, s5⟩ := aLose_st f p S
      have eB := aLose_B f p S
      have eBf : sB (aLose f p S) f = (sB S f).eraseIdx p := by rw [eB, updF_s]
      obtain ⟨i1, i2, i3, i4, i5, i6, i7, i8, i9⟩ := ih p (z + 1) (M + 1) (aLose f p S) h2 hO2 (by rw [aLose_len hpl]; omega)
      rw [eBf, s3, drop_erase _ _ (by omega)] at i1 i2 i4 i8 i9
      rw [take_erase, eB] at i4
      rw [s1] at i5 i9
      rw [s2] at i6
      rw [s3] at i7
      rw [el, ek, ql]
      rw [if_neg (by simp)]
      have b1 : bN true = 1 := rfl
      rw [b1]
      refine ⟨by omega, by rw [show M + (1 + lstN (sBo S) ((sB S f).drop (p + 1))) = M + 1 + lstN (sBo S) ((sB S f).drop (p + 1)) from by omega]; exact i2, i3, ?_, i5, i6, i7, fun L hL => ?_, fun _ => ?_⟩
      · rw [i4, updF_updF]
      · obtain ⟨L', l1, l2⟩ := i8 (updF L f (L f + 1)) (fun g hg => by
          rw [aLose_lo]
          by_cases e : g = f
          · subst e; rw [updF_s, updF_s, hL g hg]; exact nI_add _ 1
          · rw [updF_o e, updF_o e]; exact hL g hg)
        have := sN_upd L (L f + 1) (fun x => x) hf
        have e1 : sN 5 (fun i => updF L f (L f + 1) i) = sN 5 (updF L f (L f + 1)) := rfl
        have e2 : sN 5 (fun i => L i) = sN 5 L := rfl
        exact ⟨L', l1, by omega⟩
      · by_cases q0 : 0 < lstN (sBo S) ((sB S f).drop (p + 1))
        · exact i9 q0
        · obtain ⟨-, x2, x3⟩ := OKM_ent (f := f) (n := p) hO
          have eE : sE (seaC f r p (z + 1) (aLose f p S)).2 = sE (aLose f p S) := sea_none r p (z + 1) (aLose f p S) (by rw [eBf, s3, drop_erase _ _ (by omega)]; omega) (by rw [aLose_len hpl]; omega)
          rw [eE, aLose_E]
          exact ⟨_, by omega, x3⟩
    · have ql : lstB (sBo S) (nm S f p) = false := decide_eq_false q
      rw [if_neg q]
      obtain ⟨i1, i2, i3, i4, i5, i6, i7, i8, i9⟩ := ih (p + 1) z M S h hO (by omega)
      rw [el, ek, ql]
      rw [if_pos (by simp)]
      have b1 : bN false = 0 := rfl
      rw [b1, Nat.zero_add]
      refine ⟨i1, i2, i3, ?_, i5, i6, i7, i8, i9⟩
      rw [i4, take_succ' _ _ hpl, List.append_assoc]; rfl
/-- behind the loosening -/
def lsS (f : Nat) (S : aS) : aS := aSt (sSt S + 1) (aBel f (lsQ (sSt S) (sD S) (sB S f).length (sB S f)) S)
theorem lsN_len (st d : Nat) (m : aN) : (lsN st d m).length = m.length := ixM_len _ _
theorem lsN_gK {st d k : Nat} {m : aN} (h : k < m.length) : gK (lsN st d m) k = ((gK m k).1, lbN st d k (gK m k) 1, (gK m k).2.2) := ixM_gK _ _ h
theorem u2_ls (st d : Nat) (m : aN) : u2 (lsN st d m) = ubN st d m 1 := by
  unfold u2 ubN
  rw [lsN_len]
  exact sN_congr fun k hk => by rw [lsN_gK hk]
theorem cN_ls (st d : Nat) (m : aN) : cN (lsN st d m) = cN m := by
  unfold cN
  rw [lsN_len]
  congr 1
  exact sN_congr fun k hk => by rw [lsN_gK hk]
theorem lsS_B (f : Nat) (S : aS) : sB (lsS f S) = updF (sB S) f (lsQ (sSt S) (sD S) (sB S f).length (sB S f)) := by obtain ⟨Bs, E, st, d, b, kt, ct, sp, ln, lo, gi⟩ := S; rfl
theorem lsS_Bf (f : Nat) (S : aS) : sB (lsS f S) f = lsQ (sSt S) (sD S) (sB S f).length (sB S f) := by rw [lsS_B, updF_s]
theorem lsS_nm {f n : Nat} {S : aS} (h : n < (sB S f).length) : nm (lsS f S) f n = lsN (sSt S) (sD S) (nm S f n) := by
  unfold nm
  rw [lsS_Bf, lsQ_getD _ _ _ _ h, if_pos h]
theorem lsS_st (f : Nat) (S : aS) : sSt (lsS f S) = sSt S + 1 ∧ sD (lsS f S) = sD S ∧ sBo (lsS f S) = sBo S ∧ sE (lsS f S) = sE S ∧ sLo (lsS f S) = sLo S ∧ sSp (lsS f S) = sSp S ∧ sCt (lsS f S) = sCt S ∧ sLn (lsS f S) = sLn S := by obtain ⟨Bs, E, st, d, b, kt, ct, sp, ln, lo, gi⟩ := S; exact ⟨rfl, rfl, rfl, rfl, rfl, rfl, rfl, rfl⟩
theorem lsS_bS (f : Nat) (S : aS) : bS (sB (lsS f S) f) cN = bS (sB S f) cN := by
  refine bS_congr (by rw [lsS_Bf, lsQ_len]) (fun n hn => ?_)
  rw [lsS_Bf, lsQ_len] at hn
  show cN (nm (lsS f S) f n) = _
  rw [lsS_nm hn, cN_ls]; rfl
theorem OKS_ls {B f : Nat} {S : aS} (h : OKS B S) (hf : f < 5) (hB : B + 1 < 1000000) : OKS (B + 1) (lsS f S) := by
  have hd := h.1.2.2.1
  have o : OKS (B + 1) (aBel f (lsQ (sSt S) (sD S) (sB S f).length (sB S f)) S) := OKS_bel (OKS_mono h (by omega) hB) (by rw [lsQ_len]; exact (h.2.1 f hf).1) (fun n hn => by
    rw [lsQ_len] at hn
    rw [lsQ_getD _ _ _ _ hn, if_pos hn]
    exact OKN_ls (h.nam hf hn) hd)
  have hst := h.1.1
  unfold lsS
  generalize lsQ (sSt S) (sD S) (sB S f).length (sB S f) = l at *
  obtain ⟨Bs, E, st, r⟩ := S
  have hst : st ≤ B := hst
  exact ⟨⟨by show st + 1 ≤ B + 1; omega, o.1.2⟩, o.2⟩
theorem OKM_ls {M f : Nat} {S : aS} (hO : OKM M S) (hf : f < 5) : OKM M (lsS f S) := by
  obtain ⟨s1, s2, s3, s4, s5, s6, s7, s8⟩ := lsS_st f S
  have e := lsS_bS f S
  have eB := lsS_B f S
  refine OKM_mk hO s4 (by omega) s5 s6 ?_ (fun g hg => ?_)
  · rw [s7, hO.1.1]
    congr 1
    have h2 := sN_upd (sB S) (lsQ (sSt S) (sD S) (sB S f).length (sB S f)) (fun l => bS l cN) hf
    rw [lsS_Bf] at e
    rw [nA_bS, nA_bS, eB]
    have h3 : sN 5 (fun i => bS (updF (sB S) f (lsQ (sSt S) (sD S) (sB S f).length (sB S f)) i) cN) + bS (sB S f) cN = sN 5 (fun i => bS (sB S i) cN) + bS (lsQ (sSt S) (sD S) (sB S f).length (sB S f)) cN := h2
    omega
  · rw [cdB_bS, s8]
    by_cases q : g = f
    · subst q; rw [e]; exact hO.1.2.1 g hg
    · rw [eB, updF_o q]; exact hO.1.2.1 g hg
/-- lost by the next storm, in two ways -/
theorem lst_ls (f : Nat) (S : aS) : lstN (sBo S) (sB (lsS f S) f) = lostN S f := by
  unfold lstN lostN
  show sN _ _ = _
  rw [lsS_Bf, lsQ_len]
  refine sN_congr fun n hn => ?_
  rw [lsQ_getD _ _ _ _ hn, if_pos hn]
  unfold lstB
  show bN (decide (sBo S < u2 (lsN (sSt S) (sD S) ((sB S f).getD n [])))) = _
  rw [u2_ls]; rfl
theorem storm_spec {B f M : Nat} {S : aS} (h : OKS B S) (hO : OKM M S) (hf : f < 5) (hB : B + 1 < 1000000) :
    (aStorm f S).1 = lostN S f ∧ OKM (M + lostN S f) (aStorm f S).2 ∧ sB (aStorm f S).2 = updF (sB S) f (kept (sBo S) (sB (lsS f S) f)) ∧
    sSt (aStorm f S).2 = sSt S + 1 ∧ sD (aStorm f S).2 = sD S ∧ sBo (aStorm f S).2 = sBo S ∧
    (∀ L : Nat → Nat, (∀ g, g < 5 → sLo S g = nI (L g)) → ∃ L' : Nat → Nat, (∀ g, g < 5 → sLo (aStorm f S).2 g = nI (L' g)) ∧ sN 5 L' = sN 5 L + lostN S f) ∧
    (0 < lostN S f → ∃ w, 1 ≤ (sE (aStorm f S).2).length ∧ gE (sE (aStorm f S).2) ((sE (aStorm f S).2).length - 1) = (w, f, nI (sSt S + 1))) := by
  have e : aStorm f S = seaC f (sB S f).length 0 0 (lsS f S) := rfl
  obtain ⟨s1, s2, s3, s4, s5, s6, s7, s8⟩ := lsS_st f S
  obtain ⟨i1, i2, i3, i4, i5, i6, i7, i8, i9⟩ := sea_spec hf (sB S f).length 0 0 M (lsS f S) (OKS_ls h hf hB) (OKM_ls hO hf) (by rw [lsS_Bf, lsQ_len, Nat.zero_add])
  rw [s3, List.drop_zero, lst_ls] at i1 i2 i8 i9
  rw [s3, List.drop_zero, List.take_zero, List.nil_append] at i4
  rw [e]
  refine ⟨by omega, i2, ?_, by omega, by rw [i6, s2], by rw [i7, s3], fun L hL => i8 L (fun g hg => by rw [s5]; exact hL g hg), ?_⟩
  · rw [i4, lsS_B, updF_updF, updF_s]
  · intro h0
    rw [s1] at i9
    exact i9 h0
theorem storm_I {B f : Nat} {S : aS} (h : OKS B S) (hO : OKI S) (hf : f < 5) (hB : B + 1 < 1000000) : OKI (aStorm f S).2 := by
  obtain ⟨i1, i2, i3, i4, -⟩ := storm_spec h hO hf hB
  have hl := lost_le S f
  have h6 := (h.2.1 f hf).1
  show OKM (6 * sSt (aStorm f S).2) _
  rw [i4]
  exact OKM_mono i2 (by omega)
