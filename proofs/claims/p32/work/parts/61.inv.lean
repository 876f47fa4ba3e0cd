/-! what stays so: sums over belts, cord, the list -/
def bS (l : List aN) (g : aN → Nat) : Nat := sN l.length (fun n => g (l.getD n []))
theorem nA_bS (S : aS) (g : aN → Nat) : nA S g = sN 5 (fun f => bS (sB S f) g) := rfl
theorem cdB_bS (S : aS) (f : Nat) : cdB S f = bS (sB S f) cN := rfl
theorem bS_cons (m : aN) (l : List aN) (g : aN → Nat) : bS (m :: l) g = g m + bS l g := sN_front l.length (fun n => g ((m :: l).getD n []))
theorem bS_nil (g : aN → Nat) : bS [] g = 0 := rfl
theorem bS_app (l1 l2 : List aN) (g : aN → Nat) : bS (l1 ++ l2) g = bS l1 g + bS l2 g := by
  induction l1 with
  | nil => rw [List.nil_append, bS_nil, Nat.zero_add]
  | cons m l1 ih => rw [List.cons_append, bS_cons, bS_cons, ih, Nat.add_assoc]
theorem bS_erase {l : List aN} {n : Nat} (g : aN → Nat) (h : n < l.length) : bS (l.eraseIdx n) g + g (l.getD n []) = bS l g := by
  induction l generalizing n with
  | nil => exact absurd h (Nat.not_lt_zero _)
  | cons m l ih =>
    cases n with
    | zero => rw [bS_cons]; show bS l g + g m = _; omega
    | succ n =>
      have h1 : n < l.length := by simpa using h
      rw [List.eraseIdx_cons_succ, bS_cons, bS_cons, ← ih h1]
      show g m + bS (l.eraseIdx n) g + g (l.getD n []) = _
      omega
theorem bS_set {l : List aN} {n : Nat} {m : aN} (g : aN → Nat) (h : n < l.length) : bS (l.set n m) g + g (l.getD n []) = bS l g + g m := by
  induction l generalizing n with
  | nil => exact absurd h (Nat.not_lt_zero _)
  | cons x l ih =>
    cases n with
    | zero => rw [List.set_cons_zero, bS_cons, bS_cons]; show g m + bS l g + g x = _; omega
    | succ n =>
      have h1 : n < l.length := by simpa using h
      rw [List.set_cons_succ, bS_cons, bS_cons]
      have := ih h1
      show g x + bS (l.set n m) g + g (l.getD n []) = _
      omega
theorem bS_congr {l l' : List aN} {g g' : aN → Nat} (hl : l.length = l'.length) (h : ∀ n, n < l.length → g (l.getD n []) = g' (l'.getD n [])) : bS l g = bS l' g' := by
  unfold bS
  rw [← hl]
  exact sN_congr h
theorem bS_at {l : List aN} {n : Nat} (g : aN → Nat) (h : n < l.length) : g (l.getD n []) ≤ bS l g := sN_at (f := fun n => g (l.getD n [])) h
theorem sN_upd {α : Type} {N f : Nat} (Bs : Nat → α) (x : α) (F : α → Nat) (h : f < N) : sN N (fun i => F (updF Bs f x i)) + F (Bs f) = sN N (fun i => F (Bs i)) + F x := by
  induction N with
  | zero => omega
  | succ n ih =>
    show sN n (fun i => F (updF Bs f x i)) + F (updF Bs f x n) + F (Bs f) = sN n (fun i => F (Bs i)) + F (Bs n) + F x
    by_cases q : n = f
    · subst q
      rw [updF_s, sN_congr (g := fun i => F (Bs i)) (fun i hi => by rw [updF_o (by omega)])]; omega
    · rw [updF_o q]
      have := ih (by omega)
      omega
/-- a bound on those lost taken out -/
def OKM (M : Nat) (S : aS) : Prop :=
  (sCt S = nI (nA S cN) ∧ (∀ f, f < 5 → cdB S f ≤ sLn S f) ∧ sSp S = (0, 0)) ∧
  (∃ t : Nat → Nat, (∀ i, i < (sE S).length → (gE (sE S) i).2.2 = nI (t i) ∧ t i ≤ sSt S) ∧ ∀ i, i + 1 < (sE S).length → t i ≤ t (i + 1)) ∧
  ∃ L : Nat → Nat, (∀ f, f < 5 → sLo S f = nI (L f)) ∧ sN 5 L ≤ M ∧ (sE S).length = min (sN 5 L) 12
theorem OKI_M {S : aS} : OKI S ↔ OKM (6 * sSt S) S := Iff.rfl
theorem OKM_mono {M M' : Nat} {S : aS} (h : OKM M S) (hM : M ≤ M') : OKM M' S := by
  obtain ⟨h1, h2, L, h3, h4, h5⟩ := h
  exact ⟨h1, h2, L, h3, by omega, h5⟩
theorem OKM_mk {M : Nat} {S S' : aS} (h : OKM M S) (h1 : sE S' = sE S) (h2 : sSt S ≤ sSt S') (h3 : sLo S' = sLo S) (h4 : sSp S' = sSp S) (h5 : sCt S' = nI (nA S' cN)) (h6 : ∀ f, f < 5 → cdB S' f ≤ sLn S' f) : OKM M S' := by
  obtain ⟨⟨-, -, a3⟩, ⟨t, t1, t2⟩, L, l1, l2, l3⟩ := h
  refine ⟨⟨h5, h6, by rw [h4]; exact a3⟩, ⟨t, fun i hi => ?_, fun i hi => ?_⟩, L, fun f hf => by rw [h3]; exact l1 f hf, l2, by rw [h1]; exact l3⟩
  · rw [h1] at hi ⊢
    have := t1 i hi
    exact ⟨this.1, by omega⟩
  · rw [h1] at hi; exact t2 i hi
theorem nA_le {B : Nat} {S : aS} (h : OKS B S) : nA S cN ≤ 2940 := by
  unfold nA
  have h1 := sN_le (N := 5) (f := fun f => sN (sB S f).length (fun n => cN (nm S f n))) (b := 588) (fun f hf => by
    have h2 := sN_le (N := (sB S f).length) (f := fun n => cN (nm S f n)) (b := 98) (fun n hn => cN_le (h.nam hf hn))
    have h3 := (h.2.1 f hf).1
    show sN (sB S f).length (fun n => cN (nm S f n)) ≤ 588
    omega)
  omega
/-- tie -/
theorem cdW_N {w : List Nat} (h : ∀ k, k < w.length → w.getD k 0 < 16) : cdW w = nI (cN (tieN w)) := by
  unfold cdW cN
  rw [← nI_add, tieN_len, ← sI_nI]
  congr 1
  refine sI_congr fun k hk => ?_
  have := h k hk
  rw [tieN_gK w hk, ckI_N (by omega), nI_add]
theorem OKM_tie {M B f : Nat} {w : List Nat} {S : aS} (hO : OKM M S) (hf : f < 5) (hw : ∀ k, k < w.length → w.getD k 0 < 16) (hfit : cN (tieN w) + cdB S f ≤ sLn S f) : OKM M (aTie f w S) := by
  obtain ⟨Bs, E, st, d, b, kt, ct, sp, ln, lo, gi⟩ := S
  refine OKM_mk hO rfl (Nat.le_refl _) rfl rfl ?_ (fun g hg => ?_)
  · have h1 : ct = nI (nA (Bs, E, st, d, b, kt, ct, sp, ln, lo, gi) cN) := hO.1.1
    show ct + cdW w = nI (sN 5 (fun i => bS (updF Bs f (Bs f ++ [tieN w]) i) cN))
    have h2 := sN_upd Bs (Bs f ++ [tieN w]) (fun l => bS l cN) hf
    have h3 := bS_app (Bs f) [tieN w] cN
    have h4 : bS [tieN w] cN = cN (tieN w) := by rw [bS_cons, bS_nil]; omega
    rw [cdW_N hw, h1, nI_add]
    congr 1
    show sN 5 (fun i => bS (Bs i) cN) + cN (tieN w) = _
    omega
  · show bS (updF Bs f (Bs f ++ [tieN w]) g) cN ≤ ln g
    by_cases q : g = f
    · subst q
      rw [updF_s, bS_app, bS_cons, bS_nil]
      have : cN (tieN w) + bS (Bs g) cN ≤ ln g := hfit
      omega
    · rw [updF_o q]; exact hO.1.2.1 g hg
/-- cut -/
theorem OKM_cut {M B f n : Nat} {S : aS} (h : OKS B S) (hO : OKM M S) (hf : f < 5) (hn : n < (sB S f).length) : OKM M (aCut f n S) := by
  have om := h.nam hf hn
  obtain ⟨Bs, E, st, d, b, kt, ct, sp, ln, lo, gi⟩ := S
  have hn : n < (Bs f).length := hn
  have e := bS_erase cN hn
  refine OKM_mk hO rfl (Nat.le_refl _) rfl rfl ?_ (fun g hg => ?_)
  · have h1 : ct = nI (nA (Bs, E, st, d, b, kt, ct, sp, ln, lo, gi) cN) := hO.1.1
    show ct - cdN ((Bs f).getD n []) = nI (sN 5 (fun i => bS (updF Bs f ((Bs f).eraseIdx n) i) cN))
    have h2 := sN_upd Bs ((Bs f).eraseIdx n) (fun l => bS l cN) hf
    have h3 : bS (Bs f) cN ≤ sN 5 (fun i => bS (Bs i) cN) := sN_at (f := fun i => bS (Bs i) cN) hf
    have om : OKN B ((Bs f).getD n []) := om
    rw [cdN_N om, h1]
    show nI (sN 5 (fun i => bS (Bs i) cN)) - nI (cN ((Bs f).getD n [])) = _
    rw [nI_sub (by omega)]
    congr 1
    omega
  · show bS (updF Bs f ((Bs f).eraseIdx n) g) cN ≤ ln g
    have h1 : bS (Bs g) cN ≤ ln g := hO.1.2.1 g hg
    by_cases q : g = f
    · subst q; rw [updF_s]; omega
    · rw [updF_o q]; exact h1
/-- numbers that are no cord -/
theorem OKM_gi {M f : Nat} {x : Int32} {S : aS} (hO : OKM M S) : OKM M (aNum 3 f x 0 S) := by
  obtain ⟨Bs, E, st, d, b, kt, ct, sp, ln, lo, gi⟩ := S
  exact OKM_mk hO rfl (Nat.le_refl _) rfl rfl hO.1.1 hO.1.2.1
theorem OKM_ln {M f l : Nat} {x : Int32} {S : aS} (hO : OKM M S) (hl : cdB S f ≤ l) : OKM M (aNum 0 f x l S) := by
  obtain ⟨Bs, E, st, d, b, kt, ct, sp, ln, lo, gi⟩ := S
  refine OKM_mk hO rfl (Nat.le_refl _) rfl rfl hO.1.1 (fun g hg => ?_)
  show bS (Bs g) cN ≤ updF ln f l g
  by_cases q : g = f
  · subst q; rw [updF_s]; exact hl
  · rw [updF_o q]; exact hO.1.2.1 g hg
theorem OKM_sd {M v : Nat} {S : aS} (hO : OKM M S) : OKM M (aSd v S) := by
  obtain ⟨Bs, E, st, d, b, kt, ct, sp, ln, lo, gi⟩ := S
  exact OKM_mk hO rfl (Nat.le_refl _) rfl rfl hO.1.1 hO.1.2.1
theorem OKM_sb {M v : Nat} {S : aS} (hO : OKM M S) : OKM M (aSb v S) := by
  obtain ⟨Bs, E, st, d, b, kt, ct, sp, ln, lo, gi⟩ := S
  exact OKM_mk hO rfl (Nat.le_refl _) rfl rfl hO.1.1 hO.1.2.1
/-- tighten -/
theorem vow_ck {l : Nat} (h : vow l = true) : l < 15 ∧ ckN (l + 1) = ckN l + 1 := by
  unfold vow at h
  simp only [Bool.or_eq_true, beq_iff_eq] at h
  rcases h with ((h | h) | h) | h <;> subst h <;> decide
theorem mo_N {B : Nat} {x : aK} (h : OKK B x) : moI x = nI (bN (decide (x.2.1 = 1))) := by
  have h1 := h.1
  unfold moI
  rcases (by omega : x.2.1 = 0 ∨ x.2.1 = 1 ∨ 1 < x.2.1) with q | q | q
  · have hr : rdN x = x.1 := by unfold rdN; rw [if_pos q]
    rw [hr, if_neg (by omega), decide_eq_false (by omega)]
    exact Int32.sub_self _
  · obtain ⟨v1, v2⟩ := vow_ck (h.2.2.2 (by omega))
    have hr : rdN x = x.1 + 1 := by unfold rdN; rw [if_neg (by omega), if_pos q]
    rw [hr, if_neg (by omega), decide_eq_true q, ckI_N (by omega), ckI_N (by omega), nI_sub (by omega), v2]
    congr 1
    show ckN x.1 + 1 - ckN x.1 = 1
    omega
  · have hr : rdN x = 16 := by unfold rdN; rw [if_neg (by omega), if_neg (by omega)]
    rw [hr, if_pos rfl, decide_eq_false (by omega)]; rfl
theorem mo_sum {B : Nat} {m : aN} (h : OKN B m) : sI m.length (fun k => moI (gK m k)) = nI (tgC m) := by
  unfold tgC
  rw [← sI_nI]
  exact sI_congr fun k hk => mo_N (h.2.2 k hk)
theorem tgI_N {B : Nat} {m : aN} (h : OKN B m) : tgI m = nI (tgC m) := by
  unfold tgI tgC
  rw [← sI_nI]
  refine sI_congr fun k hk => ?_
  by_cases q : (gK m k).2.1 = 1
  · rw [if_pos q, mo_N (h.2.2 k hk)]
  · rw [if_neg q, decide_eq_false q]; rfl
theorem tgN_len (m : aN) : (tgN m).length = m.length := ixM_len _ _
theorem tgN_gK {m : aN} {k : Nat} (h : k < m.length) : gK (tgN m) k = tgK (gK m k) := ixM_gK _ _ h
theorem cN_tg {B : Nat} {m : aN} (h : OKN B m) : cN (tgN m) = cN m + tgC m := by
  unfold cN tgC
  rw [tgN_len, Nat.add_assoc, ← sN_add]
  congr 1
  refine sN_congr fun k hk => ?_
  have hk2 := h.2.2 k hk
  rw [tgN_gK hk]
  unfold tgK
  by_cases q : (gK m k).2.1 = 1
  · obtain ⟨v1, v2⟩ := vow_ck (hk2.2.2.2 (by omega))
    rw [if_pos q, decide_eq_true q]
    show ckN (rdN (gK m k)) + 1 = ckN (gK m k).1 + 1 + 1
    unfold rdN
    rw [if_neg (by omega), if_pos q, v2]
  · rw [if_neg q, decide_eq_false q]; rfl
theorem tgC_le (m : aN) : tgC m ≤ m.length := by
  have h1 := sN_le (N := m.length) (f := fun k => bN (decide ((gK m k).2.1 = 1))) (b := 1) (fun i _ => bN_le _)
  unfold tgC; omega
theorem OKM_fast {M B f n : Nat} {S : aS} (h : OKS B S) (hO : OKM M S) (hf : f < 5) (hn : n < (sB S f).length) (hfit : tgC (nm S f n) + cdB S f ≤ sLn S f) : OKM M (aFast f n S) := by
  have om := h.nam hf hn
  have e1 := tgI_N om
  have e2 := cN_tg om
  obtain ⟨Bs, E, st, d, b, kt, ct, sp, ln, lo, gi⟩ := S
  have hn : n < (Bs f).length := hn
  have e := bS_set (m := tgN ((Bs f).getD n [])) cN hn
  have e1 : tgI ((Bs f).getD n []) = nI (tgC ((Bs f).getD n [])) := e1
  have e2 : cN (tgN ((Bs f).getD n [])) = cN ((Bs f).getD n []) + tgC ((Bs f).getD n []) := e2
  refine OKM_mk hO rfl (Nat.le_refl _) rfl rfl ?_ (fun g hg => ?_)
  · have h1 : ct = nI (nA (Bs, E, st, d, b, kt, ct, sp, ln, lo, gi) cN) := hO.1.1
    show ct + tgI ((Bs f).getD n []) = nI (sN 5 (fun i => bS (updF Bs f ((Bs f).set n (tgN ((Bs f).getD n []))) i) cN))
    have h2 := sN_upd Bs ((Bs f).set n (tgN ((Bs f).getD n []))) (fun l => bS l cN) hf
    rw [e1, h1]
    show nI (sN 5 (fun i => bS (Bs i) cN)) + _ = _
    rw [nI_add]
    congr 1
    omega
  · show bS (updF Bs f ((Bs f).set n (tgN ((Bs f).getD n []))) g) cN ≤ ln g
    have h1 : bS (Bs g) cN ≤ ln g := hO.1.2.1 g hg
    by_cases q : g = f
    · subst q
      rw [updF_s]
      have : tgC ((Bs g).getD n []) + bS (Bs g) cN ≤ ln g := hfit
      omega
    · rw [updF_o q]; exact h1
/-- one is lost -/
theorem OKM_ent {M f n : Nat} {S : aS} (hO : OKM M S) : (∃ t : Nat → Nat, (∀ i, i < (sE (aEnt f n S)).length → (gE (sE (aEnt f n S)) i).2.2 = nI (t i) ∧ t i ≤ sSt S) ∧ ∀ i, i + 1 < (sE (aEnt f n S)).length → t i ≤ t (i + 1)) ∧
    (sE (aEnt f n S)).length = min ((sE S).length + 1) 12 ∧ gE (sE (aEnt f n S)) ((sE (aEnt f n S)).length - 1) = (fiL (nm S f n), f, nI (sSt S)) := by
  obtain ⟨-, ⟨t, t1, t2⟩, L, l1, l2, l3⟩ := hO
  have e : sE (aEnt f n S) = dropE (sE S) ++ [(fiL (nm S f n), f, nI (sSt S))] := setE_E _ _
  rw [e, List.length_append]
  show (∃ t : Nat → Nat, (∀ i, i < (dropE (sE S)).length + 1 → _) ∧ ∀ i, i + 1 < (dropE (sE S)).length + 1 → _) ∧ (dropE (sE S)).length + 1 = _ ∧ gE _ ((dropE (sE S)).length + 1 - 1) = _
  rw [Nat.add_sub_cancel, gE_app2]
  unfold dropE
  by_cases q : (sE S).length < 12
  · rw [if_pos q]
    refine ⟨⟨fun i => if i < (sE S).length then t i else sSt S, fun i hi => ?_, fun i hi => ?_⟩, by omega, rfl⟩
    · dsimp only
      by_cases q1 : i < (sE S).length
      · rw [gE_app1 q1, if_pos q1]; exact t1 i q1
      · have : i = (sE S).length := by omega
        subst this
        rw [gE_app2, if_neg q1]; exact ⟨rfl, Nat.le_refl _⟩
    · show (if i < (sE S).length then t i else sSt S) ≤ (if i + 1 < (sE S).length then t (i + 1) else sSt S)
      rw [if_pos (by omega)]
      by_cases q1 : i + 1 < (sE S).length
      · rw [if_pos q1]; exact t2 i q1
      · rw [if_neg q1]; exact (t1 i (by omega)).2
  · rw [if_neg q]
    have h12 : (sE S).length = 12 := by omega
    have hd : ((sE S).drop 1).length = 11 := by rw [List.length_drop]; omega
    refine ⟨⟨fun i => if i < 11 then t (i + 1) else sSt S, fun i hi => ?_, fun i hi => ?_⟩, by omega, rfl⟩
    · rw [hd] at hi
      dsimp only
      by_cases q1 : i < 11
      · rw [gE_app1 (by omega), drop1_gE, if_pos q1]; exact t1 (i + 1) (by omega)
      · have : i = ((sE S).drop 1).length := by omega
        subst this
        rw [gE_app2, if_neg q1]; exact ⟨rfl, Nat.le_refl _⟩
    · rw [hd] at hi
      show (if i < 11 then t (i + 1) else sSt S) ≤ (if i + 1 < 11 then t (i + 1 + 1) else sSt S)
      rw [if_pos (by omega)]
      by_cases q1 : i + 1 < 11
      · rw [if_pos q1]; exact t2 (i + 1) (by omega)
      · rw [if_neg q1]; exact (t1 (i + 1) (by omega)).2
theorem aLose_E (f n : Nat) (S : aS) : sE (aLose f n S) = sE (aEnt f n S) := by obtain ⟨Bs, E, st, d, b, kt, ct, sp, ln, lo, gi⟩ := S; rfl
theorem aLose_st (f n : Nat) (S : aS) : sSt (aLose f n S) = sSt S ∧ sD (aLose f n S) = sD S ∧ sBo (aLose f n S) = sBo S ∧ sSp (aLose f n S) = sSp S ∧ sLn (aLose f n S) = sLn S := by obtain ⟨Bs, E, st, d, b, kt, ct, sp, ln, lo, gi⟩ := S; exact ⟨rfl, rfl, rfl, rfl, rfl⟩
theorem aLose_B (f n : Nat) (S : aS) : sB (aLose f n S) = updF (sB S) f ((sB S f).eraseIdx n) := by obtain ⟨Bs, E, st, d, b, kt, ct, sp, ln, lo, gi⟩ := S; rfl
theorem aLose_lo (f n : Nat) (S : aS) : sLo (aLose f n S) = updF (sLo S) f (sLo S f + 1) := by obtain ⟨Bs, E, st, d, b, kt, ct, sp, ln, lo, gi⟩ := S; rfl
theorem aLose_ct (f n : Nat) (S : aS) : sCt (aLose f n S) = sCt S - cdN (nm S f n) := by obtain ⟨Bs, E, st, d, b, kt, ct, sp, ln, lo, gi⟩ := S; rfl
theorem OKM_lose {M B f n : Nat} {S : aS} (h : OKS B S) (hO : OKM M S) (hf : f < 5) (hn : n < (sB S f).length) : OKM (M + 1) (aLose f n S) := by
  obtain ⟨c1, c2, c3⟩ := OKM_ent (f := f) (n := n) hO
  have hc := OKM_cut h hO hf hn
  obtain ⟨-, -, L, l1, l2, l3⟩ := id hO
  obtain ⟨s1, s2, s3, s4, s5⟩ := aLose_st f n S
  have eB : sB (aLose f n S) = sB (aCut f n S) := by obtain ⟨Bs, E, st, d, b, kt, ct, sp, ln, lo, gi⟩ := S; rfl
  have eC : sCt (aLose f n S) = sCt (aCut f n S) := by obtain ⟨Bs, E, st, d, b, kt, ct, sp, ln, lo, gi⟩ := S; rfl
  have eL : sLn (aLose f n S) = sLn (aCut f n S) := by obtain ⟨Bs, E, st, d, b, kt, ct, sp, ln, lo, gi⟩ := S; rfl
  have enA : nA (aLose f n S) cN = nA (aCut f n S) cN := by rw [nA_bS, nA_bS, eB]
  refine ⟨⟨by rw [eC, enA]; exact hc.1.1, fun g hg => ?_, by rw [s4]; exact hO.1.2.2⟩, ?_, updF L f (L f + 1), fun g hg => ?_, ?_, ?_⟩
  · rw [cdB_bS, eB, eL]; exact hc.1.2.1 g hg
  · rw [aLose_E, s1]; exact c1
  · rw [aLose_lo]
    by_cases q : g = f
    · subst q; rw [updF_s, updF_s, l1 g hg]; exact nI_add _ 1
    · rw [updF_o q, updF_o q]; exact l1 g hg
  · have := sN_upd L (L f + 1) (fun x => x) hf
    have e1 : sN 5 (fun i => updF L f (L f + 1) i) = sN 5 (updF L f (L f + 1)) := rfl
    have e2 : sN 5 (fun i => L i) = sN 5 L := rfl
    omega
  · have := sN_upd L (L f + 1) (fun x => x) hf
    have e1 : sN 5 (fun i => updF L f (L f + 1) i) = sN 5 (updF L f (L f + 1)) := rfl
    have e2 : sN 5 (fun i => L i) = sN 5 L := rfl
    rw [aLose_E, c2]
    omega
