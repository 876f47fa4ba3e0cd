/-! the class: the best belt, the stop, the digest -/
def oI : Option Nat → Int32
  | none => mO
  | some g => nI g
def bbS (S : aS) (w : List Nat) (a N : Nat) : Option Nat → Prop
  | none => ∀ f, a ≤ f → f < N → wtI S f w ≠ nI 0
  | some g => (a ≤ g ∧ g < N) ∧ wtI S g w = nI 0 ∧ (∀ f, a ≤ f → f < N → wtI S f w = nI 0 → (leftI S f).toInt ≤ (leftI S g).toInt) ∧ ∀ f, a ≤ f → f < g → wtI S f w = nI 0 → (leftI S f).toInt < (leftI S g).toInt
theorem bbS_one {S : aS} {w : List Nat} {a N : Nat} {x y : Option Nat} (h1 : bbS S w a N x) (h2 : bbS S w a N y) : x = y := by
  cases x with
  | none =>
    cases y with
    | none => rfl
    | some g => exact absurd h2.2.1 (h1 g h2.1.1 h2.1.2)
  | some f =>
    cases y with
    | none => exact absurd h1.2.1 (h2 f h1.1.1 h1.1.2)
    | some g =>
      obtain ⟨⟨a1, a2⟩, a3, a4, a5⟩ := h1
      obtain ⟨⟨b1, b2⟩, b3, b4, b5⟩ := h2
      have c1 := a4 g b1 b2 b3
      have c2 := b4 f a1 a2 a3
      rcases Nat.lt_trichotomy f g with h | h | h
      · have := b5 f a1 h a3; omega
      · rw [h]
      · have := a5 g b1 h b3; omega
theorem bbt {B : Nat} {S : aS} {c : Nat → Int32} {w : List Nat} {sz : Int32} {lt : Nat → Int32} (h : IC B S c) (hw : RepW w sz lt) :
    ∃ x, s_X10_bestBelt_L8 c sz lt gF mO (nI 0) = some (oI x, nI 5) ∧ bbS S w 0 5 x := by
  have key := lp (fun a (y : Int32 × Int32) => s_X10_bestBelt_L8 c sz lt a y.1 y.2) 5
    (fun i y => ∃ x, y = (oI x, nI i) ∧ bbS S w 0 i x) (fun r => ∃ x, r = (oI x, nI 5) ∧ bbS S w 0 5 x)
    (fun i hi a y hy => by
      obtain ⟨x, rfl, hx⟩ := hy
      have hwt := wnt h hi hw
      by_cases q : wtI S i w = nI 0
      · cases x with
        | none =>
          refine Or.inl ⟨(nI i, nI (i + 1)), ?_, some i, rfl, ⟨Nat.zero_le _, Nat.lt_succ_self _⟩, q, fun f _ hf hq => ?_, fun f _ hf hq => absurd hq (hx f (Nat.zero_le _) hf)⟩
          · simp (disch := omega) only [s_X10_bestBelt_L8, ↓reduceIte, nI_lit, mO_lit, mO_lt, mO_le, mO_gt, mO_ge, mO_ne, mO_ne', nI_add, nI_mul, nI_addlit0, bsome, c_le_f, c_le_t, c_lt_f, c_lt_t, c_eq_f, c_eq_t, if_true, if_false, fld_n, fst_n, hwt, q, oI]
          · rcases Nat.lt_succ_iff_lt_or_eq.mp hf with h1 | h1
            · exact absurd hq (hx f (Nat.zero_le _) h1)
            · subst h1; exact Int.le_refl _
        | some g =>
          obtain ⟨⟨x0, x1⟩, x2, x3, x4⟩ := hx
          have hlf := lft h hi
          have hlg := lft h (f := g) (by omega)
          by_cases q2 : leftI S i ≤ leftI S g
          · refine Or.inl ⟨(nI g, nI (i + 1)), ?_, some g, rfl, ⟨Nat.zero_le _, by omega⟩, x2, fun f h0 hf hq => ?_, x4⟩
            · simp (disch := omega) only [s_X10_bestBelt_L8, ↓reduceIte, nI_lit, mO_lit, mO_lt, mO_le, mO_gt, mO_ge, mO_ne, mO_ne', nI_add, nI_mul, nI_addlit0, bsome, c_le_f, c_le_t, c_lt_f, c_lt_t, c_eq_f, c_eq_t, if_true, if_false, fld_n, fst_n, hwt, q, oI, hlf, hlg, q2]
            · rcases Nat.lt_succ_iff_lt_or_eq.mp hf with h1 | h1
              · exact x3 f h0 h1 hq
              · subst h1; exact Int32.le_iff_toInt_le.mp q2
          · have q3 : ¬ (leftI S i).toInt ≤ (leftI S g).toInt := fun e => q2 (Int32.le_iff_toInt_le.mpr e)
            refine Or.inl ⟨(nI i, nI (i + 1)), ?_, some i, rfl, ⟨Nat.zero_le _, Nat.lt_succ_self _⟩, q, fun f h0 hf hq => ?_, fun f h0 hf hq => ?_⟩
            · simp (disch := omega) only [s_X10_bestBelt_L8, ↓reduceIte, nI_lit, mO_lit, mO_lt, mO_le, mO_gt, mO_ge, mO_ne, mO_ne', nI_add, nI_mul, nI_addlit0, bsome, c_le_f, c_le_t, c_lt_f, c_lt_t, c_eq_f, c_eq_t, if_true, if_false, fld_n, fst_n, hwt, q, oI, hlf, hlg, q2]
            · rcases Nat.lt_succ_iff_lt_or_eq.mp hf with h1 | h1
              · have := x3 f h0 h1 hq; omega
              · subst h1; exact Int.le_refl _
            · have := x3 f h0 hf hq; omega
      · refine Or.inl ⟨(oI x, nI (i + 1)), ?_, x, rfl, ?_⟩
        · simp (disch := omega) only [s_X10_bestBelt_L8, ↓reduceIte, nI_lit, mO_lit, mO_lt, mO_le, mO_gt, mO_ge, mO_ne, mO_ne', nI_add, nI_mul, nI_addlit0, bsome, c_le_f, c_le_t, c_lt_f, c_lt_t, c_eq_f, c_eq_t, if_true, if_false, fld_n, fst_n, hwt, q]
        · cases x with
          | none =>
            intro f h0 hf
            rcases Nat.lt_succ_iff_lt_or_eq.mp hf with h1 | h1
            · exact hx f h0 h1
            · subst h1; exact q
          | some g =>
            obtain ⟨⟨x0, x1⟩, x2, x3, x4⟩ := hx
            refine ⟨⟨x0, by omega⟩, x2, fun f h0 hf hq => ?_, x4⟩
            rcases Nat.lt_succ_iff_lt_or_eq.mp hf with h1 | h1
            · exact x3 f h0 h1 hq
            · subst h1; exact absurd hq q)
    (fun a y hy => by
      obtain ⟨x, rfl, hx⟩ := hy
      exact ⟨_, by simp (disch := omega) only [s_X10_bestBelt_L8, ↓reduceIte, nI_lit, mO_lit, mO_lt, mO_le, mO_gt, mO_ge, mO_ne, mO_ne', nI_add, nI_mul, nI_addlit0, bsome, c_le_f, c_le_t, c_lt_f, c_lt_t, c_eq_f, c_eq_t, if_true, if_false, fld_n, fst_n], x, rfl, hx⟩)
    5 0 gF (mO, nI 0) (by omega) (by unfold gF; omega) ⟨none, rfl, fun f _ hf => absurd hf (Nat.not_lt_zero f)⟩
  obtain ⟨r, k1, x, rfl, k3⟩ := key
  exact ⟨x, k1, k3⟩
def stI (S : aS) (w : Nat) : Int32 := if (sSp S).2 = nI 0 then mO else if w = 0 then (sSp S).1 else (sSp S).2
theorem nSt {S : aS} {c : Nat → Int32} {w : Nat} (h : RepC S c) (hw : w < 1000) : s_X10_numberOfStop (nI w) c = some (stI S w) := by
  have h5 := h.1.2.2.2.2.2.1
  have h6 := h.1.2.2.2.2.2.2.1
  unfold stI
  simp (disch := omega) only [s_X10_numberOfStop, ↓reduceIte, nI_lit, mO_lit, mO_lt, mO_le, mO_gt, mO_ge, mO_ne, mO_ne', nI_add, nI_mul, nI_addlit0, bsome, c_le_f, c_le_t, c_lt_f, c_lt_t, c_eq_f, c_eq_t, if_true, if_false, fld_n, fst_n, at_ok, h5, h6]
  by_cases q : (sSp S).2 = nI 0
  · rw [if_pos q, if_pos q]
  · rw [if_neg q, if_neg q]
    by_cases q2 : w = 0
    · subst q2; simp (disch := omega) only [↓reduceIte, nI_lit, mO_lit, mO_lt, mO_le, mO_gt, mO_ge, mO_ne, mO_ne', nI_add, nI_mul, nI_addlit0, bsome, c_le_f, c_le_t, c_lt_f, c_lt_t, c_eq_f, c_eq_t, if_true, if_false, fld_n, fst_n]
    · simp (disch := omega) only [↓reduceIte, nI_lit, mO_lit, mO_lt, mO_le, mO_gt, mO_ge, mO_ne, mO_ne', nI_add, nI_mul, nI_addlit0, bsome, c_le_f, c_le_t, c_lt_f, c_lt_t, c_eq_f, c_eq_t, if_true, if_false, fld_n, fst_n, if_neg q2]
