/-! the class: cutting, tightening, numbers -/
def HdC (S : aS) (c : Nat → Int32) : Prop := c 0 = nI (sSt S) ∧ c 1 = nI (sD S) ∧ c 2 = nI (sBo S) ∧ c 3 = sKt S ∧ c 4 = sCt S ∧ c 5 = (sSp S).1 ∧ c 6 = (sSp S).2 ∧ c 7 = nI (sE S).length
def FiC (S : aS) (c : Nat → Int32) (f : Nat) : Prop := (c (fc f) = nI (sLn S f) ∧ c (fc f + 1) = nI (sB S f).length ∧ c (fc f + 2) = sLo S f ∧ c (fc f + 3) = sGi S f) ∧ ∀ n, n < (sB S f).length → CN c f n (nm S f n)
theorem RepC_mk {S : aS} {c : Nat → Int32} (h1 : HdC S c) (h2 : ∀ f, f < 5 → FiC S c f) (h3 : ∀ i, i < (sE S).length → CE c i (gE (sE S) i)) : RepC S c := ⟨h1, h2, h3⟩
/-- lengths that a state has -/
def LnS (S : aS) : Prop := (∀ f, f < 5 → (sB S f).length ≤ 6 ∧ ∀ n, n < (sB S f).length → 1 ≤ (nm S f n).length ∧ (nm S f n).length ≤ 8) ∧ (sE S).length ≤ 12 ∧ ∀ i, i < (sE S).length → (gE (sE S) i).1.length ≤ 8
theorem OKS.lns {B : Nat} {S : aS} (h : OKS B S) : LnS S := ⟨fun f hf => ⟨(h.2.1 f hf).1, fun n hn => ⟨((h.2.1 f hf).2.2.2 n hn).1, ((h.2.1 f hf).2.2.2 n hn).2.1⟩⟩, h.2.2.1, fun i hi => (h.2.2.2 i hi).2.1⟩
theorem fc_def (f : Nat) : fc f = 8 + f * 154 := rfl
theorem nc_def (f n : Nat) : nc f n = fc f + 4 + n * 25 := by unfold nc fc; omega
theorem kc_def (f n k : Nat) : kc f n k = nc f n + 1 + k * 3 := by unfold nc kc; omega
theorem ec_def (i : Nat) : ec i = 778 + i * 11 := rfl
/-- only the block of one fisher, and the head, are changed -/
theorem RepC_blk {S S' : aS} {c c' : Nat → Int32} {f : Nat} (h : RepC S c) (hl : LnS S) (hf : f < 5) (hE : sE S' = sE S) (h1 : HdC S' c') (fr : ∀ j, 8 ≤ j → j < fc f ∨ fc f + 154 ≤ j → c' j = c j)
    (hS : ∀ g, g ≠ f → sB S' g = sB S g ∧ sLn S' g = sLn S g ∧ sLo S' g = sLo S g ∧ sGi S' g = sGi S g) (h2 : FiC S' c' f) : RepC S' c' := by
  have hff := fc_def f
  refine RepC_mk h1 (fun g hg => ?_) (fun i hi => ?_)
  · by_cases e : g = f
    · subst e; exact h2
    · obtain ⟨s1, s2, s3, s4⟩ := hS g e
      obtain ⟨⟨a0, a1, a2, a3⟩, a4⟩ := h.2.1 g hg
      have hfg := fc_def g
      refine ⟨⟨?_, ?_, ?_, ?_⟩, fun n hn => ?_⟩
      · rw [fr _ (by omega) (by omega), s2]; exact a0
      · rw [fr _ (by omega) (by omega), s1]; exact a1
      · rw [fr _ (by omega) (by omega), s3]; exact a2
      · rw [fr _ (by omega) (by omega), s4]; exact a3
      · rw [s1] at hn
        have e1 : nm S' g n = nm S g n := by unfold nm; rw [s1]
        rw [e1]
        have h6 := (hl.1 g hg).1
        have hng := nc_def g n
        exact CN_move (a4 n hn) ((hl.1 g hg).2 n hn).2 (fun j hj => fr _ (by omega) (by omega))
  · rw [hE] at hi ⊢
    have := ec_def i
    exact CE_move (h.2.2 i hi) (hl.2.2 i hi) (fun j hj => fr _ (by omega) (by omega))
theorem eraseIdx_getD {α : Type} (l : List α) (n i : Nat) (z : α) : (l.eraseIdx n).getD i z = if i < n then l.getD i z else l.getD (i + 1) z := by
  simp only [List.getD_eq_getElem?_getD, List.getElem?_eraseIdx]
  by_cases h : i < n
  · rw [if_pos h, if_pos h]
  · rw [if_neg h, if_neg h]
theorem setD {α : Type} (l : List α) (n i : Nat) (x z : α) (h : n < l.length) : (l.set n x).getD i z = if i = n then x else l.getD i z := by
  simp only [List.getD_eq_getElem?_getD, List.getElem?_set]
  by_cases e : i = n
  · subst e; rw [if_pos rfl, if_pos rfl]; simp [h]
  · rw [if_neg (Ne.symm e), if_neg e]
/-- take off -/
def aCut (f n : Nat) : aS → aS
  | (Bs, E, st, d, b, kt, ct, r) => (updF Bs f ((Bs f).eraseIdx n), E, st, d, b, kt, ct - cdN ((Bs f).getD n []), r)
theorem cutC {B f n : Nat} {S : aS} {c : Nat → Int32} (h : RepC S c) (hl : LnS S) (hv : VC B c f n (nm S f n)) (hn : n < (sB S f).length) :
    ∃ c', s_X4_takeOff (nI f) (nI n) c = some (cdN (nm S f n), c') ∧ RepC (aCut f n S) c' := by
  have hf := hv.1
  have hn6 := hv.2.1
  have h66 := (hl.1 f hf).1
  obtain ⟨c1, k1, k2, k3⟩ := closeUp_ok (c := c) (a := nc f n) (e := nc f 6) (t := 25) (by unfold nc; omega) (by unfold nc; omega) (by unfold nc; omega)
  have hnd := nc_def f n
  have hn6d := nc_def f 6
  have hfd := fc_def f
  obtain ⟨⟨a0, a1, a2, a3⟩, a4⟩ := h.2.1 f hf
  obtain ⟨g0, g1, g2, g3, g4, g5, g6, g7⟩ := h.1
  have q1 : c1 (fc f + 1) = nI (sB S f).length := by rw [k3 _ (by omega), a1]
  have q4 : c1 4 = sCt S := by rw [k3 _ (by omega), g4]
  refine ⟨upd (upd c1 (fc f + 1) (nI ((sB S f).length - 1))) 4 (sCt S + -(cdN (nm S f n))), ?_, ?_⟩
  · simp (disch := omega) only [s_X4_takeOff, crd hv, ↓reduceIte, nI_lit, mO_lit, mO_lt, mO_le, mO_gt, mO_ge, mO_ne, mO_ne', nI_add, nI_mul, nI_addlit0, bsome, c_le_f, c_le_t, c_lt_f, c_lt_t, c_eq_f, c_eq_t, if_true, if_false, fld_n, fst_n, ncell, fcell]
    rw [k1]
    simp (disch := omega) only [↓reduceIte, nI_lit, mO_lit, mO_lt, mO_le, mO_gt, mO_ge, mO_ne, mO_ne', nI_add, nI_mul, nI_addlit0, bsome, c_le_f, c_le_t, c_lt_f, c_lt_t, c_eq_f, c_eq_t, if_true, if_false, fld_n, fst_n, add_ok, q1, mO_add]
    rw [upd_o (by omega), q4]
  · have fr : ∀ j, j ≠ 4 → j ≠ fc f + 1 → upd (upd c1 (fc f + 1) (nI ((sB S f).length - 1))) 4 (sCt S + -(cdN (nm S f n))) j = c1 j := fun j h1 h2 => by rw [upd_o h1, upd_o h2]
    have v4 : upd (upd c1 (fc f + 1) (nI ((sB S f).length - 1))) 4 (sCt S + -(cdN (nm S f n))) 4 = sCt S - cdN (nm S f n) := by rw [upd_s]; grind
    have v1 : upd (upd c1 (fc f + 1) (nI ((sB S f).length - 1))) 4 (sCt S + -(cdN (nm S f n))) (fc f + 1) = nI ((sB S f).length - 1) := by rw [upd_o (by omega), upd_s]
    generalize upd (upd c1 (fc f + 1) (nI ((sB S f).length - 1))) 4 (sCt S + -(cdN (nm S f n))) = c' at *
    obtain ⟨Bs, E, st, d, b, kt, ct, sp, ln, lo, gi⟩ := S
    have hn : n < (Bs f).length := hn
    refine RepC_blk h hl hf rfl ⟨?_, ?_, ?_, ?_, v4, ?_, ?_, ?_⟩ (fun j h8 hj => by rw [fr _ (by omega) (by omega), k3 _ (by omega)]) (fun g hg => ⟨updF_o hg, rfl, rfl, rfl⟩) ⟨⟨?_, ?_, ?_, ?_⟩, fun i hi => ?_⟩
    · rw [fr _ (by omega) (by omega), k3 _ (by omega)]; exact g0
    · rw [fr _ (by omega) (by omega), k3 _ (by omega)]; exact g1
    · rw [fr _ (by omega) (by omega), k3 _ (by omega)]; exact g2
    · rw [fr _ (by omega) (by omega), k3 _ (by omega)]; exact g3
    · rw [fr _ (by omega) (by omega), k3 _ (by omega)]; exact g5
    · rw [fr _ (by omega) (by omega), k3 _ (by omega)]; exact g6
    · rw [fr _ (by omega) (by omega), k3 _ (by omega)]; exact g7
    · rw [fr _ (by omega) (by omega), k3 _ (by omega)]; exact a0
    · rw [v1]
      show _ = nI (updF Bs f ((Bs f).eraseIdx n) f).length
      rw [updF_s, List.length_eraseIdx_of_lt hn]; rfl
    · rw [fr _ (by omega) (by omega), k3 _ (by omega)]; exact a2
    · rw [fr _ (by omega) (by omega), k3 _ (by omega)]; exact a3
    · have hi : i < (updF Bs f ((Bs f).eraseIdx n) f).length := hi
      rw [updF_s, List.length_eraseIdx_of_lt hn] at hi
      have h66 : (Bs f).length ≤ 6 := h66
      show CN c' f i ((updF Bs f ((Bs f).eraseIdx n) f).getD i [])
      rw [updF_s, eraseIdx_getD]
      have hni := nc_def f i
      by_cases q : i < n
      · rw [if_pos q]
        exact CN_move (a4 i (by show i < (Bs f).length; omega)) ((hl.1 f hf).2 i (by show i < (Bs f).length; omega)).2 (fun j hj => by rw [fr _ (by omega) (by omega), k3 _ (by omega)])
      · rw [if_neg q]
        have hni1 := nc_def f (i + 1)
        exact CN_move (a4 (i + 1) (by show i + 1 < (Bs f).length; omega)) ((hl.1 f hf).2 (i + 1) (by show i + 1 < (Bs f).length; omega)).2 (fun j hj => by
          rw [fr _ (by omega) (by omega), k2 _ (by omega) (by omega)]; congr 1; omega)
/-- numbers of one fisher -/
def aNum (j f : Nat) (x : Int32) (n : Nat) : aS → aS
  | (Bs, E, st, d, b, kt, ct, sp, ln, lo, gi) => (Bs, E, st, d, b, kt, ct, sp, if j = 0 then updF ln f n else ln, if j = 2 then updF lo f x else lo, if j = 3 then updF gi f x else gi)
theorem numC {f j v : Nat} {x : Int32} {S : aS} {c : Nat → Int32} (h : RepC S c) (hl : LnS S) (hf : f < 5) (hj : j = 0 ∧ x = nI v ∨ j = 2 ∨ j = 3) : RepC (aNum j f x v S) (upd c (fc f + j) x) := by
  obtain ⟨⟨a0, a1, a2, a3⟩, a4⟩ := h.2.1 f hf
  obtain ⟨g0, g1, g2, g3, g4, g5, g6, g7⟩ := h.1
  have hfd := fc_def f
  obtain ⟨Bs, E, st, d, b, kt, ct, sp, ln, lo, gi⟩ := S
  have hB : sB (aNum j f x v (Bs, E, st, d, b, kt, ct, sp, ln, lo, gi)) = Bs := rfl
  have h66 : (Bs f).length ≤ 6 := (hl.1 f hf).1
  refine RepC_blk h hl hf rfl ⟨?_, ?_, ?_, ?_, ?_, ?_, ?_, ?_⟩ (fun i h8 hi => upd_o (by omega)) (fun g hg => ⟨rfl, ?_, ?_, ?_⟩) ⟨⟨?_, ?_, ?_, ?_⟩, fun i hi => ?_⟩
  · rw [upd_o (by omega)]; exact g0
  · rw [upd_o (by omega)]; exact g1
  · rw [upd_o (by omega)]; exact g2
  · rw [upd_o (by omega)]; exact g3
  · rw [upd_o (by omega)]; exact g4
  · rw [upd_o (by omega)]; exact g5
  · rw [upd_o (by omega)]; exact g6
  · rw [upd_o (by omega)]; exact g7
  · show (if j = 0 then updF ln f v else ln) g = ln g
    by_cases q : j = 0
    · rw [if_pos q, updF_o hg]
    · rw [if_neg q]
  · show (if j = 2 then updF lo f x else lo) g = lo g
    by_cases q : j = 2
    · rw [if_pos q, updF_o hg]
    · rw [if_neg q]
  · show (if j = 3 then updF gi f x else gi) g = gi g
    by_cases q : j = 3
    · rw [if_pos q, updF_o hg]
    · rw [if_neg q]
  · show _ = nI ((if j = 0 then updF ln f v else ln) f)
    by_cases q : j = 0
    · rw [if_pos q, updF_s]
      rcases hj with ⟨_, hx⟩ | hj | hj
      · subst q; rw [Nat.add_zero, upd_s, hx]
      · omega
      · omega
    · rw [if_neg q, upd_o (by omega)]; exact a0
  · rw [upd_o (by omega)]; exact a1
  · show _ = (if j = 2 then updF lo f x else lo) f
    by_cases q : j = 2
    · subst q; rw [if_pos rfl, updF_s, upd_s]
    · rw [if_neg q, upd_o (by omega)]; exact a2
  · show _ = (if j = 3 then updF gi f x else gi) f
    by_cases q : j = 3
    · subst q; rw [if_pos rfl, updF_s, upd_s]
    · rw [if_neg q, upd_o (by omega)]; exact a3
  · have hi : i < (Bs f).length := hi
    have hni := nc_def f i
    exact CN_move (a4 i hi) ((hl.1 f hf).2 i hi).2 (fun k hk => upd_o (by omega))
/-- the head -/
theorem RepC_head {S S' : aS} {c c' : Nat → Int32} (h : RepC S c) (hl : LnS S) (h1 : HdC S' c') (fr : ∀ j, 8 ≤ j → c' j = c j) (hS : sB S' = sB S ∧ sLn S' = sLn S ∧ sLo S' = sLo S ∧ sGi S' = sGi S ∧ sE S' = sE S) : RepC S' c' := by
  obtain ⟨s1, s2, s3, s4, s5⟩ := hS
  have hd := fc_def 0
  refine RepC_blk (f := 0) h hl (by omega) s5 h1 (fun j h8 _ => fr j h8) (fun g _ => ⟨by rw [s1], by rw [s2], by rw [s3], by rw [s4]⟩) ?_
  obtain ⟨⟨a0, a1, a2, a3⟩, a4⟩ := h.2.1 0 (by omega)
  refine ⟨⟨by rw [fr _ (by omega), s2]; exact a0, by rw [fr _ (by omega), s1]; exact a1, by rw [fr _ (by omega), s3]; exact a2, by rw [fr _ (by omega), s4]; exact a3⟩, fun n hn => ?_⟩
  have e : nm S' 0 n = nm S 0 n := by unfold nm; rw [s1]
  rw [s1] at hn
  rw [e]
  have := nc_def 0 n
  exact CN_move (a4 n hn) ((hl.1 0 (by omega)).2 n hn).2 (fun j hj => fr _ (by omega))
