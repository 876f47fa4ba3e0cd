/-! the model: spelling, finding, the best belt -/
theorem fz_b {β : Type} {b : Bool} {g : Option β} : fz (bI b) g = g := by
  unfold fz
  rw [if_pos]
  cases b
  · exact Or.inl rfl
  · exact Or.inr rfl
theorem min_ {a lo hi : Nat} (ha : a < 2147483648) (hl : lo < 2147483648) (hh : hi < 2147483648) : s_X11_in (nI a) (nI lo) (nI hi) = some (bI (decide (lo ≤ a) && decide (a ≤ hi))) := by
  by_cases q1 : lo ≤ a
  · by_cases q2 : a ≤ hi
    · simp (disch := omega) only [s_X11_in, ↓reduceIte, nI_lit, mO_lit, mO_lt, mO_le, mO_gt, mO_ge, mO_ne, mO_ne', nI_add, nI_mul, nI_addlit0, bsome, c_le_f, c_le_t, c_lt_f, c_lt_t, c_eq_f, c_eq_t, if_true, if_false, fld_n, fst_n, decide_eq_true q1, decide_eq_true q2, Bool.true_and, bI_t]
    · simp (disch := omega) only [s_X11_in, ↓reduceIte, nI_lit, mO_lit, mO_lt, mO_le, mO_gt, mO_ge, mO_ne, mO_ne', nI_add, nI_mul, nI_addlit0, bsome, c_le_f, c_le_t, c_lt_f, c_lt_t, c_eq_f, c_eq_t, if_true, if_false, fld_n, fst_n, decide_eq_true q1, decide_eq_false q2, Bool.true_and, bI_f]
  · simp (disch := omega) only [s_X11_in, ↓reduceIte, nI_lit, mO_lit, mO_lt, mO_le, mO_gt, mO_ge, mO_ne, mO_ne', nI_add, nI_mul, nI_addlit0, bsome, c_le_f, c_le_t, c_lt_f, c_lt_t, c_eq_f, c_eq_t, if_true, if_false, fld_n, fst_n, decide_eq_false q1, Bool.false_and, bI_f]
theorem minL {x : Nat} (h : x < 1000) : s_X11_in (nI x) (nI 97) (nI 112) = some (bI (ltB x)) := min_ (by omega) (by omega) (by omega)
theorem msp {b : List Nat} {len sp sm : Int32} {text : Nat → Int32} (h : RepB b len text) {a e : Nat} (hae : a ≤ e) (he : e ≤ b.length) :
    ∃ r : Int32 × Int32 × Int32, s_X11_isSpelt (nI a) (nI e) sp sm text = some r ∧ r.1 = bI (spB b a e) ∧ r.2.2 = nI (e - a) ∧ (spB b a e = true → r.2.1 = nI (pk (spW b a e))) := by
  have hb := h.2.1
  have e3 : nI e - nI a = nI (e - a) := nI_sub hae
  have hin : s_X11_in (nI e - nI a) (nI 1) (nI 8) = some (bI (decide (a < e) && decide (e ≤ a + 8))) := by
    rw [e3, min_ (by omega) (by omega) (by omega)]
    congr 3
    · exact decide_eq_decide.mpr (by omega)
    · exact decide_eq_decide.mpr (by omega)
  unfold spB
  cases hq : (decide (a < e) && decide (e ≤ a + 8)) with
  | false =>
    rw [hq] at hin
    rw [Bool.false_and]
    have k1 : s_X11_isSpelt_L25 (nI a) (nI e) text gF (nI 0) (nI a) (nI 0) = some (nI 0, nI a, nI 0) := by
      show s_X11_isSpelt_L25 (nI a) (nI e) text (5999 + 1) (nI 0) (nI a) (nI 0) = _
      by_cases q : e ≤ a
      · simp (disch := omega) only [s_X11_isSpelt_L25, ↓reduceIte, nI_lit, mO_lit, mO_lt, mO_le, mO_gt, mO_ge, mO_ne, mO_ne', nI_add, nI_mul, nI_addlit0, bsome, c_le_f, c_le_t, c_lt_f, c_lt_t, c_eq_f, c_eq_t, if_true, if_false, fld_n, fst_n]
      · simp (disch := omega) only [s_X11_isSpelt_L25, ↓reduceIte, nI_lit, mO_lit, mO_lt, mO_le, mO_gt, mO_ge, mO_ne, mO_ne', nI_add, nI_mul, nI_addlit0, bsome, c_le_f, c_le_t, c_lt_f, c_lt_t, c_eq_f, c_eq_t, if_true, if_false, fld_n, fst_n]
    refine ⟨(nI 0, nI 0, nI (e - a)), ?_, rfl, rfl, fun c => by cases c⟩
    refine bindE hin (bindE k1 ?_)
    rw [e3]
    exact fz_b (b := false)
  | true =>
    rw [hq] at hin
    rw [Bool.true_and]
    rw [Bool.and_eq_true] at hq
    have q1 := of_decide_eq_true hq.1
    have q2 := of_decide_eq_true hq.2
    have hlen := spW_len b a e
    have key := lp (fun x (y : Int32 × Int32 × Int32) => s_X11_isSpelt_L25 (nI a) (nI e) text x y.1 y.2.1 y.2.2) (e - a)
      (fun i y => y.2.1 = nI (a + i) ∧ ((y.1 = nI 1 ∧ y.2.2 = nI (pk ((spW b a e).take i)) ∧ ∀ k, k < i → ltB (b.getD (a + k) 0) = true) ∨ (y.1 = nI 0 ∧ anyB (e - a) (fun k => !(ltB (b.getD (a + k) 0))) = true)))
      (fun r => (r.1 = nI 1 ∧ r.2.2 = nI (pk (spW b a e)) ∧ anyB (e - a) (fun k => !(ltB (b.getD (a + k) 0))) = false) ∨ (r.1 = nI 0 ∧ anyB (e - a) (fun k => !(ltB (b.getD (a + k) 0))) = true))
      (fun i hi x y hy => by
        obtain ⟨x1, x2, x3⟩ := y
        obtain ⟨y1, y2⟩ := hy
        have y1 : x2 = nI (a + i) := y1
        subst y1
        rcases y2 with ⟨y2, y3, y4⟩ | ⟨y2, y3⟩
        · have y2 : x1 = nI 1 := y2
          have y3 : x3 = _ := y3
          subst y2 y3
          obtain ⟨t1, t2, t3⟩ := h.2.2 (a + i) (by omega)
          have e4 : nI (a + i) - nI a = nI i := by rw [nI_sub (by omega)]; congr 1; omega
          cases q : ltB (b.getD (a + i) 0) with
          | false =>
            refine Or.inl ⟨(nI 0, nI (a + (i + 1)), nI (pk ((spW b a e).take i)) ||| nI 0), ?_, rfl, Or.inr ⟨rfl, anyB_t hi (by rw [q]; rfl)⟩⟩
            simp (disch := omega) only [s_X11_isSpelt_L25, ↓reduceIte, nI_lit, mO_lit, mO_lt, mO_le, mO_gt, mO_ge, mO_ne, mO_ne', nI_add, nI_mul, nI_addlit0, bsome, c_le_f, c_le_t, c_lt_f, c_lt_t, c_eq_f, c_eq_t, if_true, if_false, fld_n, fst_n, t1, minL, q, bI_f]
            rfl
          | true =>
            have hl := ltB_t q
            have ht : ((spW b a e).take i).length = i := by rw [List.length_take, spW_len]; omega
            have e1 : nI (b.getD (a + i) 0) - nI 97 = nI (b.getD (a + i) 0 - 97) := nI_sub hl.1
            have hlt := pkL_lt ((spW b a e).take i) (fun k hk => by
              rw [ht] at hk
              rw [getD_take hk, spW_getD _ _ _ (by omega)]
              have := ltB_t (y4 k hk)
              omega)
            rw [ht] at hlt
            have e5 : pk ((spW b a e).take (i + 1)) = pk ((spW b a e).take i) + (b.getD (a + i) 0 - 97) * 16 ^ i := by
              rw [take_succ_getD (by rw [spW_len]; exact hi), pk_app, ht, spW_getD _ _ _ hi]
            refine Or.inl ⟨(nI 1, nI (a + (i + 1)), nI (pk ((spW b a e).take (i + 1)))), ?_, rfl, Or.inl ⟨rfl, rfl, fun k hk => ?_⟩⟩
            · rw [e5, ← orL hlt (by omega) (by omega)]
              simp (disch := omega) only [s_X11_isSpelt_L25, ↓reduceIte, nI_lit, mO_lit, mO_lt, mO_le, mO_gt, mO_ge, mO_ne, mO_ne', nI_add, nI_mul, nI_addlit0, bsome, c_le_f, c_le_t, c_lt_f, c_lt_t, c_eq_f, c_eq_t, if_true, if_false, fld_n, fst_n, t1, minL, q, bI_t, e1, e4]
              rfl
            · by_cases e2 : k = i
              · subst e2; exact q
              · exact y4 k (by omega)
        · have y2 : x1 = nI 0 := y2
          subst y2
          refine Or.inr ⟨(nI 0, nI (a + i), x3), ?_, Or.inr ⟨rfl, y3⟩⟩
          simp (disch := omega) only [s_X11_isSpelt_L25, ↓reduceIte, nI_lit, mO_lit, mO_lt, mO_le, mO_gt, mO_ge, mO_ne, mO_ne', nI_add, nI_mul, nI_addlit0, bsome, c_le_f, c_le_t, c_lt_f, c_lt_t, c_eq_f, c_eq_t, if_true, if_false, fld_n, fst_n])
      (fun x y hy => by
        obtain ⟨x1, x2, x3⟩ := y
        obtain ⟨y1, y2⟩ := hy
        have y1 : x2 = nI (a + (e - a)) := y1
        rw [show a + (e - a) = e from by omega] at y1
        subst y1
        refine ⟨(x1, nI e, x3), by simp (disch := omega) only [s_X11_isSpelt_L25, ↓reduceIte, nI_lit, mO_lit, mO_lt, mO_le, mO_gt, mO_ge, mO_ne, mO_ne', nI_add, nI_mul, nI_addlit0, bsome, c_le_f, c_le_t, c_lt_f, c_lt_t, c_eq_f, c_eq_t, if_true, if_false, fld_n, fst_n], ?_⟩
        rcases y2 with ⟨y2, y3, y4⟩ | ⟨y2, y3⟩
        · rw [List.take_of_length_le (by rw [spW_len]; exact Nat.le_refl _)] at y3
          exact Or.inl ⟨y2, y3, anyB_f fun k hk => by rw [y4 k hk]; rfl⟩
        · exact Or.inr ⟨y2, y3⟩)
      (e - a) 0 gF (nI 1, nI a, nI 0) (by omega) (by unfold gF; omega) ⟨rfl, Or.inl ⟨rfl, rfl, fun k hk => by omega⟩⟩
    obtain ⟨⟨r1, r2, r3⟩, k1, k2⟩ := key
    have k1 : s_X11_isSpelt_L25 (nI a) (nI e) text gF (nI 1) (nI a) (nI 0) = some (r1, r2, r3) := k1
    rcases k2 with ⟨k2, k3, k4⟩ | ⟨k2, k3⟩
    · have k2 : r1 = nI 1 := k2
      have k3 : r3 = _ := k3
      subst k2 k3
      rw [k4]
      refine ⟨(nI 1, nI (pk (spW b a e)), nI (e - a)), ?_, rfl, rfl, fun _ => rfl⟩
      refine bindE hin (bindE k1 ?_)
      rw [e3]
      exact fz_b (b := true)
    · have k2 : r1 = nI 0 := k2
      subst k2
      rw [k3]
      refine ⟨(nI 0, r3, nI (e - a)), ?_, rfl, rfl, fun c => by cases c⟩
      refine bindE hin (bindE k1 ?_)
      rw [e3]
      exact fz_b (b := false)
theorem mspW {b : List Nat} {len sp sm : Int32} {text : Nat → Int32} (h : RepB b len text) :
    ∃ r : Int32 × Int32 × Int32, s_X11_isSpelt (nI 0) len sp sm text = some r ∧ r.1 = bI (wB b) ∧ (wB b = true → r.2.1 = nI (pk (wW b)) ∧ r.2.2 = nI (wW b).length) := by
  obtain ⟨r, h1, h2, h3, h4⟩ := msp (sp := sp) (sm := sm) h (a := 0) (Nat.zero_le _) (Nat.le_refl b.length)
  refine ⟨r, by rw [h.1]; exact h1, h2, fun q => ⟨h4 q, ?_⟩⟩
  rw [h3]
  unfold wW
  rw [spW_len]
theorem it_last (N : Nat) (p : Nat → Bool) : it N (fun i x => if p i = true then nI i else x) mO = lastI N p := by
  induction N with
  | zero => rfl
  | succ n ih => show (if p n = true then nI n else it n _ mO) = if p n = true then nI n else lastI n p; rw [ih]
theorem eqB_pk {a w : List Nat} (ha : ∀ k, k < a.length → a.getD k 0 < 16) (h8 : a.length ≤ 8) (hw : OKW w) (hl : a.length = w.length) : (nI (pk a) = nI (pk w)) ↔ eqB a w = true := by
  unfold eqB
  rw [decide_eq_true hl, Bool.true_and]
  constructor
  · intro e
    have e := nI_inj32 (pk32 h8 ha) (pk32 hw.2.1 hw.2.2) e
    have := (pkL_eq hl ha hw.2.2).mp e
    rw [anyB_f fun k hk => decide_eq_false (by rw [this k hk]; simp)]; rfl
  · intro e
    have e : anyB w.length (fun k => decide (a.getD k 0 ≠ w.getD k 0)) = false := by simpa using e
    rw [(pkL_eq hl ha hw.2.2).mpr fun k hk => Classical.byContradiction fun hne => by
      have := anyB_t (p := fun k => decide (a.getD k 0 ≠ w.getD k 0)) hk (decide_eq_true hne)
      rw [e] at this; cases this]
theorem mfd {B : Nat} {S : aS} {s : Nat → Int32} {w : List Nat} (h : IM B S s) (hw : OKW w) : s_X11_find_L30 (nI (pk w)) (nI w.length) s gF mO (nI 0) = some (lastI (sE S).length (fun i => eqB (gE (sE S) i).1 w), nI (sE S).length) := by
  have hE := h.2.2.2.1
  have g1 : s 1 = nI (sE S).length := h.1.1.2.1
  have hw8 := hw.2.1
  rw [lacc (fun a x i => s_X11_find_L30 (nI (pk w)) (nI w.length) s a x i) (sE S).length (fun i x => if eqB (gE (sE S) i).1 w = true then nI i else x) (by omega), it_last]
  · intro a i x hi
    obtain ⟨e1, e2, e3, e4⟩ := h.1.2.2 i hi
    obtain ⟨o1, o2, o3, o4⟩ := h.2.2.2.2 i hi
    unfold em at e1 e4
    by_cases q1 : (gE (sE S) i).1.length = w.length
    · have := eqB_pk o4 o2 hw q1
      by_cases q2 : nI (pk (gE (sE S) i).1) = nI (pk w)
      · rw [if_pos (this.mp q2)]
        simp (disch := omega) only [s_X11_find_L30, ↓reduceIte, nI_lit, mO_lit, mO_lt, mO_le, mO_gt, mO_ge, mO_ne, mO_ne', nI_add, nI_mul, nI_addlit0, bsome, c_le_f, c_le_t, c_lt_f, c_lt_t, c_eq_f, c_eq_t, if_true, if_false, fld_n, fst_n, g1, e1, e4, q2]
      · rw [if_neg (fun c => q2 (this.mpr c))]
        simp (disch := omega) only [s_X11_find_L30, ↓reduceIte, nI_lit, mO_lit, mO_lt, mO_le, mO_gt, mO_ge, mO_ne, mO_ne', nI_add, nI_mul, nI_addlit0, bsome, c_le_f, c_le_t, c_lt_f, c_lt_t, c_eq_f, c_eq_t, if_true, if_false, fld_n, fst_n, g1, e1, e4]
        rw [if_neg q2]
    · have : eqB (gE (sE S) i).1 w = false := by unfold eqB; rw [decide_eq_false q1]; rfl
      rw [this, if_neg (by simp)]
      simp (disch := omega) only [s_X11_find_L30, ↓reduceIte, nI_lit, mO_lit, mO_lt, mO_le, mO_gt, mO_ge, mO_ne, mO_ne', nI_add, nI_mul, nI_addlit0, bsome, c_le_f, c_le_t, c_lt_f, c_lt_t, c_eq_f, c_eq_t, if_true, if_false, fld_n, fst_n, g1, e1]
  · intro a x
    simp (disch := omega) only [s_X11_find_L30, ↓reduceIte, nI_lit, mO_lit, mO_lt, mO_le, mO_gt, mO_ge, mO_ne, mO_ne', nI_add, nI_mul, nI_addlit0, bsome, c_le_f, c_le_t, c_lt_f, c_lt_t, c_eq_f, c_eq_t, if_true, if_false, fld_n, fst_n, g1]
def xI (j : Nat) : Int32 := if j = 5 then mO else nI (4 - j)
theorem mbb {B : Nat} {S : aS} {s : Nat → Int32} {w : List Nat} (h : IM B S s) (hw : OKW w) :
    ∃ x, s_X11_bestBelt_L30 (nI (pk w)) (nI w.length) s gF mO (nI 4) = some (oI x, mO) ∧ bbS S w 0 5 x := by
  have key := lp (fun a (y : Int32 × Int32) => s_X11_bestBelt_L30 (nI (pk w)) (nI w.length) s a y.1 y.2) 5
    (fun j y => ∃ x, y = (oI x, xI j) ∧ bbS S w (5 - j) 5 x) (fun r => ∃ x, r = (oI x, mO) ∧ bbS S w 0 5 x)
    (fun j hj a y hy => by
      obtain ⟨x, rfl, hx⟩ := hy
      have e1 : xI j = nI (4 - j) := by unfold xI; rw [if_neg (by omega)]
      have e2 : nI (4 - j) + mO = xI (j + 1) := by
        unfold xI
        by_cases q : j = 4
        · subst q; rfl
        · rw [if_neg (by omega), mO_add (by omega)]; congr 1
      have hwt := mre h (f := 4 - j) (by omega) hw
      rw [e1]
      generalize hi : 4 - j = i at *
      have hi5 : 5 - j = i + 1 := by omega
      have hi5' : 5 - (j + 1) = i := by omega
      rw [hi5] at hx
      rw [hi5']
      by_cases q : wtI S i w = nI 0
      · cases x with
        | none =>
          refine Or.inl ⟨(nI i, xI (j + 1)), ?_, some i, rfl, ⟨Nat.le_refl _, by omega⟩, q, fun f h1 hf hq => ?_, fun f h1 hf => by omega⟩
          · simp (disch := omega) only [s_X11_bestBelt_L30, ↓reduceIte, nI_lit, mO_lit, mO_lt, mO_le, mO_gt, mO_ge, mO_ne, mO_ne', nI_add, nI_mul, nI_addlit0, bsome, c_le_f, c_le_t, c_lt_f, c_lt_t, c_eq_f, c_eq_t, if_true, if_false, fld_n, fst_n, hwt, q, oI, e2]
          · rcases Nat.lt_or_ge i f with h2 | h2
            · exact absurd hq (hx f h2 hf)
            · have : f = i := by omega
              subst this; exact Int.le_refl _
        | some g =>
          obtain ⟨⟨x0, x1⟩, x2, x3, x4⟩ := hx
          have hlf := mle h (f := i) (by omega)
          have hlg := mle h (f := g) (by omega)
          by_cases q2 : leftI S i < leftI S g
          · have q3 := Int32.lt_iff_toInt_lt.mp q2
            refine Or.inl ⟨(nI g, xI (j + 1)), ?_, some g, rfl, ⟨by omega, x1⟩, x2, fun f h1 hf hq => ?_, fun f h1 hf hq => ?_⟩
            · simp (disch := omega) only [s_X11_bestBelt_L30, ↓reduceIte, nI_lit, mO_lit, mO_lt, mO_le, mO_gt, mO_ge, mO_ne, mO_ne', nI_add, nI_mul, nI_addlit0, bsome, c_le_f, c_le_t, c_lt_f, c_lt_t, c_eq_f, c_eq_t, if_true, if_false, fld_n, fst_n, hwt, q, oI, hlf, hlg, q2, e2]
            · rcases Nat.lt_or_ge i f with h2 | h2
              · exact x3 f h2 hf hq
              · have : f = i := by omega
                subst this; omega
            · rcases Nat.lt_or_ge i f with h2 | h2
              · exact x4 f h2 hf hq
              · have : f = i := by omega
                subst this; exact q3
          · have q3 : ¬ (leftI S i).toInt < (leftI S g).toInt := fun e => q2 (Int32.lt_iff_toInt_lt.mpr e)
            refine Or.inl ⟨(nI i, xI (j + 1)), ?_, some i, rfl, ⟨Nat.le_refl _, by omega⟩, q, fun f h1 hf hq => ?_, fun f h1 hf => by omega⟩
            · simp (disch := omega) only [s_X11_bestBelt_L30, ↓reduceIte, nI_lit, mO_lit, mO_lt, mO_le, mO_gt, mO_ge, mO_ne, mO_ne', nI_add, nI_mul, nI_addlit0, bsome, c_le_f, c_le_t, c_lt_f, c_lt_t, c_eq_f, c_eq_t, if_true, if_false, fld_n, fst_n, hwt, q, oI, hlf, hlg, q2, e2]
            · rcases Nat.lt_or_ge i f with h2 | h2
              · have := x3 f h2 hf hq; omega
              · have : f = i := by omega
                subst this; exact Int.le_refl _
      · refine Or.inl ⟨(oI x, xI (j + 1)), ?_, x, rfl, ?_⟩
        · simp (disch := omega) only [s_X11_bestBelt_L30, ↓reduceIte, nI_lit, mO_lit, mO_lt, mO_le, mO_gt, mO_ge, mO_ne, mO_ne', nI_add, nI_mul, nI_addlit0, bsome, c_le_f, c_le_t, c_lt_f, c_lt_t, c_eq_f, c_eq_t, if_true, if_false, fld_n, fst_n, hwt, q, e2]
        · cases x with
          | none =>
            intro f h0 hf
            rcases Nat.lt_or_ge i f with h2 | h2
            · exact hx f h2 hf
            · have : f = i := by omega
              subst this; exact q
          | some g =>
            obtain ⟨⟨x0, x1⟩, x2, x3, x4⟩ := hx
            refine ⟨⟨by omega, x1⟩, x2, fun f h0 hf hq => ?_, fun f h0 hf hq => ?_⟩
            · rcases Nat.lt_or_ge i f with h2 | h2
              · exact x3 f h2 hf hq
              · have : f = i := by omega
                subst this; exact absurd hq q
            · rcases Nat.lt_or_ge i f with h2 | h2
              · exact x4 f h2 hf hq
              · have : f = i := by omega
                subst this; exact absurd hq q)
    (fun a y hy => by
      obtain ⟨x, rfl, hx⟩ := hy
      exact ⟨(oI x, mO), by simp (disch := omega) only [s_X11_bestBelt_L30, ↓reduceIte, nI_lit, mO_lit, mO_lt, mO_le, mO_gt, mO_ge, mO_ne, mO_ne', nI_add, nI_mul, nI_addlit0, bsome, c_le_f, c_le_t, c_lt_f, c_lt_t, c_eq_f, c_eq_t, if_true, if_false, fld_n, fst_n, xI], x, rfl, hx⟩)
    5 0 gF (mO, nI 4) (by omega) (by unfold gF; omega) ⟨none, rfl, fun f h1 hf => absurd h1 (by omega)⟩
  obtain ⟨r, k1, x, rfl, k3⟩ := key
  exact ⟨x, k1, k3⟩
theorem mcq {B w : Nat} {n : Nat} {S : aS} {s : Nat → Int32} (h : IM B S s) (hw : w ≤ 12) : s_X11_countNumber (nI w) (nI n) s = some (oaI S w) := by
  obtain ⟨c0, c1, c2, c3, c4, c5, c6, c7⟩ := h.1.1
  unfold oaI
  rcases (by omega : w = 0 ∨ w = 1 ∨ w = 2 ∨ w = 3 ∨ w = 4 ∨ w = 5 ∨ w = 6 ∨ w = 7 ∨ w = 8 ∨ w = 9 ∨ w = 10 ∨ w = 11 ∨ w = 12) with rfl | rfl | rfl | rfl | rfl | rfl | rfl | rfl | rfl | rfl | rfl | rfl | rfl <;> simp (disch := omega) only [s_X11_countNumber, ↓reduceIte, nI_lit, mO_lit, mO_lt, mO_le, mO_gt, mO_ge, mO_ne, mO_ne', nI_add, nI_mul, nI_addlit0, bsome, c_le_f, c_le_t, c_lt_f, c_lt_t, c_eq_f, c_eq_t, if_true, if_false, fld_n, fst_n, msu h, mcn h, mcl h, mal h, mwc h, nI_sub, c0, c1, c2, c3, c4, c5] <;> rfl
theorem mcq13 {n : Nat} {s : Nat → Int32} : s_X11_countNumber (nI 13) (nI n) s = some (nI n) := by
  simp (disch := omega) only [s_X11_countNumber, ↓reduceIte, nI_lit, mO_lit, mO_lt, mO_le, mO_gt, mO_ge, mO_ne, mO_ne', nI_add, nI_mul, nI_addlit0, bsome, c_le_f, c_le_t, c_lt_f, c_lt_t, c_eq_f, c_eq_t, if_true, if_false, fld_n, fst_n]
