/-! the model: all knots; common names; what is counted -/
theorem sI_add (N : Nat) (f g : Nat → Int32) : sI N (fun i => f i + g i) = sI N f + sI N g := by
  induction N with
  | zero => rfl
  | succ n ih => show sI n _ + (f n + g n) = (sI n f + f n) + (sI n g + g n); rw [ih]; grind
theorem sI_z (N : Nat) : sI N (fun _ => 0) = 0 := by
  induction N with
  | zero => rfl
  | succ n ih => show sI n _ + 0 = 0; rw [ih]; rfl
theorem sI_swap (N M : Nat) (f : Nat → Nat → Int32) : sI N (fun i => sI M (fun j => f i j)) = sI M (fun j => sI N (fun i => f i j)) := by
  induction N with
  | zero => exact (sI_z M).symm
  | succ n ih =>
    show sI n _ + sI M (fun j => f n j) = sI M (fun j => sI n (fun i => f i j) + f n j)
    rw [ih, sI_add]
theorem one16 : ∀ x, x < 16 → sI 16 (fun l => bI (decide (nI x = nI l))) = nI 1 := by decide +kernel
theorem kn16 {B : Nat} {m : aN} (h : OKN B m) : sI 16 (fun l => nI (kN 2 (nI l) m)) = nI (kN 0 mO m) := by
  have e : ∀ l, nI (kN 2 (nI l) m) = sI m.length (fun k => bI (pK 2 (nI l) (gK m k))) := fun l => by
    unfold kN; rw [← sI_nI]; exact sI_congr fun k _ => (bI_nI _).symm
  have e0 : nI (kN 0 mO m) = sI m.length (fun k => nI 1) := by
    unfold kN; rw [← sI_nI]; exact sI_congr fun k _ => rfl
  rw [e0, sI_congr (g := fun l => sI m.length (fun k => bI (pK 2 (nI l) (gK m k)))) (fun l _ => e l), sI_swap]
  refine sI_congr fun k hk => ?_
  have := one16 (gK m k).1 (h.2.2 k hk).1
  exact this
theorem mak {B : Nat} {S : aS} {s : Nat → Int32} (h : IM B S s) : s_X11_allKnots s = some (sA S (fun m => nI (kN 0 mO m))) := by
  simp (disch := omega) only [s_X11_allKnots, ↓reduceIte, nI_lit, mO_lit, mO_lt, mO_le, mO_gt, mO_ge, mO_ne, mO_ne', nI_add, nI_mul, nI_addlit0, bsome, c_le_f, c_le_t, c_lt_f, c_lt_t, c_eq_f, c_eq_t, if_true, if_false, fld_n, fst_n]
  rw [lsum (fun a x i => s_X11_allKnots_L4 s a x i) 16 (fun l => sA S (fun m => nI (kN 2 (nI l) m))) (by omega)]
  · show some (nI 0 + _) = _
    rw [show nI 0 = 0 from rfl, Int32.zero_add]
    refine congrArg some ?_
    unfold sA
    rw [sI_swap]
    refine sI_congr fun f hf => ?_
    rw [sI_swap]
    exact sI_congr fun n hn => kn16 (h.nam hf hn).2.2.2
  · intro a l x hl
    simp (disch := omega) only [s_X11_allKnots_L4, ↓reduceIte, nI_lit, mO_lit, mO_lt, mO_le, mO_gt, mO_ge, mO_ne, mO_ne', nI_add, nI_mul, nI_addlit0, bsome, c_le_f, c_le_t, c_lt_f, c_lt_t, c_eq_f, c_eq_t, if_true, if_false, fld_n, fst_n, mko h]
  · intro a x
    simp (disch := omega) only [s_X11_allKnots_L4, ↓reduceIte, nI_lit, mO_lit, mO_lt, mO_le, mO_gt, mO_ge, mO_ne, mO_ne', nI_add, nI_mul, nI_addlit0, bsome, c_le_f, c_le_t, c_lt_f, c_lt_t, c_eq_f, c_eq_t, if_true, if_false, fld_n, fst_n]
/-- a loop of truths joined -/
theorem anyB_it (N : Nat) (p : Nat → Bool) (b : Bool) : it N (fun i x => if x = nI 0 then bI (p i) else nI 1) (bI b) = bI (b || anyB N p) := by
  induction N with
  | zero => show bI b = bI (b || false); rw [Bool.or_false]
  | succ n ih =>
    show (if it n _ _ = nI 0 then bI (p n) else nI 1) = bI (b || (anyB n p || p n))
    rw [ih]
    cases b <;> cases anyB n p <;> cases p n <;> decide
theorem mhc {B f g : Nat} {S : aS} {s : Nat → Int32} (h : IM B S s) (hf : f < 5) (hg : g < 5) : s_X11_hasCommon (nI f) (nI g) s = some (bI (shB S f g)) := by
  have h6 := h.six hf
  have h6' := h.six hg
  simp (disch := omega) only [s_X11_hasCommon, ↓reduceIte, nI_lit, mO_lit, mO_lt, mO_le, mO_gt, mO_ge, mO_ne, mO_ne', nI_add, nI_mul, nI_addlit0, bsome, c_le_f, c_le_t, c_lt_f, c_lt_t, c_eq_f, c_eq_t, if_true, if_false, fld_n, fst_n]
  have inner : ∀ n, n < (sB S f).length → ∀ b : Bool, s_X11_hasCommon_L19 (nI f) (nI g) (nI n) s gF (bI b) (nI 0) = some (bI (b || anyB (sB S g).length (fun n' => raB (nm S f n) (nm S g n'))), nI (sB S g).length) := fun n hn b => by
    rw [lacc (fun a x i => s_X11_hasCommon_L19 (nI f) (nI g) (nI n) s a x i) (sB S g).length (fun n' x => if x = nI 0 then bI (raB (nm S f n) (nm S g n')) else nI 1) (by omega), anyB_it]
    · intro a i x hi
      simp (disch := omega) only [s_X11_hasCommon_L19, ↓reduceIte, nI_lit, mO_lit, mO_lt, mO_le, mO_gt, mO_ge, mO_ne, mO_ne', nI_add, nI_mul, nI_addlit0, bsome, c_le_f, c_le_t, c_lt_f, c_lt_t, c_eq_f, c_eq_t, if_true, if_false, fld_n, fst_n, mof1 h hg, whr, mra (h.nam hf hn) (h.nam hg hi)]
      by_cases q : x = nI 0
      · rw [if_pos q, if_pos q]
        cases raB (nm S f n) (nm S g i) <;> simp (disch := omega) only [bI_t, bI_f, ↓reduceIte, nI_lit, mO_lit, mO_lt, mO_le, mO_gt, mO_ge, mO_ne, mO_ne', nI_add, nI_mul, nI_addlit0, bsome, c_le_f, c_le_t, c_lt_f, c_lt_t, c_eq_f, c_eq_t, if_true, if_false, fld_n, fst_n]
      · rw [if_neg q, if_neg q]
    · intro a x
      simp (disch := omega) only [s_X11_hasCommon_L19, ↓reduceIte, nI_lit, mO_lit, mO_lt, mO_le, mO_gt, mO_ge, mO_ne, mO_ne', nI_add, nI_mul, nI_addlit0, bsome, c_le_f, c_le_t, c_lt_f, c_lt_t, c_eq_f, c_eq_t, if_true, if_false, fld_n, fst_n, mof1 h hg]
  have key := lp (fun a (y : Int32 × Int32) => s_X11_hasCommon_L5 (nI f) (nI g) s a y.1 y.2) (sB S f).length
    (fun i y => y = (bI (anyB i (fun n => anyB (sB S g).length (fun n' => raB (nm S f n) (nm S g n')))), nI i)) (fun r => r = (bI (shB S f g), nI (sB S f).length))
    (fun i hi a y hy => by
      subst hy
      refine Or.inl ⟨(bI (anyB (i + 1) (fun n => anyB (sB S g).length (fun n' => raB (nm S f n) (nm S g n')))), nI (i + 1)), ?_, rfl⟩
      simp (disch := omega) only [s_X11_hasCommon_L5, ↓reduceIte, nI_lit, mO_lit, mO_lt, mO_le, mO_gt, mO_ge, mO_ne, mO_ne', nI_add, nI_mul, nI_addlit0, bsome, c_le_f, c_le_t, c_lt_f, c_lt_t, c_eq_f, c_eq_t, if_true, if_false, fld_n, fst_n, mof1 h hf]
      exact bindE (inner i hi _) rfl)
    (fun a y hy => by
      subst hy
      exact ⟨(bI (shB S f g), nI (sB S f).length), by simp (disch := omega) only [s_X11_hasCommon_L5, ↓reduceIte, nI_lit, mO_lit, mO_lt, mO_le, mO_gt, mO_ge, mO_ne, mO_ne', nI_add, nI_mul, nI_addlit0, bsome, c_le_f, c_le_t, c_lt_f, c_lt_t, c_eq_f, c_eq_t, if_true, if_false, fld_n, fst_n, mof1 h hf]; rfl, rfl⟩)
    (sB S f).length 0 gF (nI 0, nI 0) (by omega) (by unfold gF; omega) rfl
  obtain ⟨r, k1, rfl⟩ := key
  refine bindE k1 ?_
  unfold fz
  rw [if_pos]
  cases shB S f g <;> simp [bI] <;> decide
