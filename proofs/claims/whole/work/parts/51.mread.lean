/-! the model: a name -/
def ltL (m : aN) : List Nat := m.map (fun x => x.1)
theorem ltL_len (m : aN) : (ltL m).length = m.length := by unfold ltL; simp
theorem ltL_getD (m : aN) {k : Nat} (h : k < m.length) : (ltL m).getD k 0 = (gK m k).1 := by
  unfold ltL gK
  simp only [List.getD_eq_getElem?_getD, List.getElem?_map]
  rw [List.getElem?_eq_getElem h]; rfl
theorem ltL_ok {B : Nat} {m : aN} (h : OKN B m) : ∀ i, i < (ltL m).length → (ltL m).getD i 0 < 16 := fun i hi => by
  rw [ltL_len] at hi; rw [ltL_getD m hi]; exact (h.2.2 i hi).1
theorem fiL_ok {B : Nat} {m : aN} (h : OKN B m) : ∀ i, i < (fiL m).length → (fiL m).getD i 0 < 16 := fun i hi => by
  rw [fiL_len] at hi; rw [fiL_getD m hi]; exact (h.2.2 i hi).2.2.1
def wh (f n : Nat) : Nat := 28 + 11 * (6 * f + n)
def MN (s : Nat → Int32) (w : Nat) (m : aN) : Prop := s w = nI m.length ∧ s (w + 1) = nI (pk (fiL m)) ∧ s (w + 2) = nI (pk (ltL m)) ∧ ∀ k, k < m.length → s (w + 3 + k) = nI (gK m k).2.1
def VM (B : Nat) (s : Nat → Int32) (w : Nat) (m : aN) : Prop := w + 11 ≤ 358 ∧ B < 1000000 ∧ MN s w m ∧ OKN B m
theorem whr (f n : Nat) : s_X11_whereIs (nI f) (nI n) = some (nI (wh f n)) := by
  simp (disch := omega) only [s_X11_whereIs, ↓reduceIte, nI_lit, mO_lit, mO_lt, mO_le, mO_gt, mO_ge, mO_ne, mO_ne', nI_add, nI_mul, nI_addlit0, bsome, c_le_f, c_le_t, c_lt_f, c_lt_t, c_eq_f, c_eq_t, if_true, if_false, fld_n, fst_n, wh]
theorem mkn {B w : Nat} {s : Nat → Int32} {m : aN} (h : VM B s w m) : s_X11_knots (nI w) s = some (nI m.length) := by
  obtain ⟨hw, hB, ⟨m1, m2, m3, m4⟩, hm⟩ := h
  simp (disch := omega) only [s_X11_knots, ↓reduceIte, nI_lit, mO_lit, mO_lt, mO_le, mO_gt, mO_ge, mO_ne, mO_ne', nI_add, nI_mul, nI_addlit0, bsome, c_le_f, c_le_t, c_lt_f, c_lt_t, c_eq_f, c_eq_t, if_true, if_false, fld_n, fst_n, m1]
theorem mti {B w k : Nat} {s : Nat → Int32} {m : aN} (h : VM B s w m) (hk : k < m.length) : s_X11_tiedAs (nI w) (nI k) s = some (nI (gK m k).1) := by
  obtain ⟨hw, hB, ⟨m1, m2, m3, m4⟩, hm⟩ := h
  have h8 := hm.2.1
  simp (disch := omega) only [s_X11_tiedAs, ↓reduceIte, nI_lit, mO_lit, mO_lt, mO_le, mO_gt, mO_ge, mO_ne, mO_ne', nI_add, nI_mul, nI_addlit0, bsome, c_le_f, c_le_t, c_lt_f, c_lt_t, c_eq_f, c_eq_t, if_true, if_false, fld_n, fst_n, m3, letA, pk_getD _ _ (ltL_ok hm), ltL_getD m hk]
theorem mrd {B w k : Nat} {s : Nat → Int32} {m : aN} (h : VM B s w m) (hk : k < m.length) : s_X11_readAs (nI w) (nI k) s = some (nI (rdN (gK m k))) := by
  have ht := mti h hk
  obtain ⟨hw, hB, ⟨m1, m2, m3, m4⟩, hm⟩ := h
  have h8 := hm.2.1
  have ho := hm.2.2 k hk
  have hlo := ho.2.1
  simp (disch := omega) only [s_X11_readAs, ↓reduceIte, nI_lit, mO_lit, mO_lt, mO_le, mO_gt, mO_ge, mO_ne, mO_ne', nI_add, nI_mul, nI_addlit0, bsome, c_le_f, c_le_t, c_lt_f, c_lt_t, c_eq_f, c_eq_t, if_true, if_false, fld_n, fst_n, m4 k hk, ht]
  unfold rdN
  by_cases q0 : (gK m k).2.1 = 0
  · simp (disch := omega) only [↓reduceIte, nI_lit, mO_lit, mO_lt, mO_le, mO_gt, mO_ge, mO_ne, mO_ne', nI_add, nI_mul, nI_addlit0, bsome, c_le_f, c_le_t, c_lt_f, c_lt_t, c_eq_f, c_eq_t, if_true, if_false, fld_n, fst_n, q0]
  · by_cases q1 : (gK m k).2.1 = 1
    · simp (disch := omega) only [↓reduceIte, nI_lit, mO_lit, mO_lt, mO_le, mO_gt, mO_ge, mO_ne, mO_ne', nI_add, nI_mul, nI_addlit0, bsome, c_le_f, c_le_t, c_lt_f, c_lt_t, c_eq_f, c_eq_t, if_true, if_false, fld_n, fst_n, q1]
      rw [if_neg (by decide)]
    · simp (disch := omega) only [↓reduceIte, nI_lit, mO_lit, mO_lt, mO_le, mO_gt, mO_ge, mO_ne, mO_ne', nI_add, nI_mul, nI_addlit0, bsome, c_le_f, c_le_t, c_lt_f, c_lt_t, c_eq_f, c_eq_t, if_true, if_false, fld_n, fst_n, if_neg q0, if_neg q1]
theorem cordM (x : Int32) : s_X11_cordOfLetter x = some (ckI x) := by
  show some (2 * (1 + x / 4) + (x - x / 4 * 4)) = some (2 * (x / 4 + 1) + (x - x / 4 * 4))
  rw [Int32.add_comm 1]
theorem cdL {l : List Nat} (h8 : l.length ≤ 8) (h : ∀ i, i < l.length → l.getD i 0 < 16) : s_X11_cordOfLetters (nI (pk l)) (nI l.length) = some (cdW l) := by
  simp (disch := omega) only [s_X11_cordOfLetters, ↓reduceIte, nI_lit, mO_lit, mO_lt, mO_le, mO_gt, mO_ge, mO_ne, mO_ne', nI_add, nI_mul, nI_addlit0, bsome, c_le_f, c_le_t, c_lt_f, c_lt_t, c_eq_f, c_eq_t, if_true, if_false, fld_n, fst_n]
  rw [lsum (fun a x i => s_X11_cordOfLetters_L4 (nI (pk l)) (nI l.length) a x i) l.length (fun k => ckI (nI (l.getD k 0)) + nI 1) (by omega)]
  · rfl
  · intro a i x hi
    simp (disch := omega) only [s_X11_cordOfLetters_L4, ↓reduceIte, nI_lit, mO_lit, mO_lt, mO_le, mO_gt, mO_ge, mO_ne, mO_ne', nI_add, nI_mul, nI_addlit0, bsome, c_le_f, c_le_t, c_lt_f, c_lt_t, c_eq_f, c_eq_t, if_true, if_false, fld_n, fst_n, letA, pk_getD _ _ h, cordM]
  · intro a x
    simp (disch := omega) only [s_X11_cordOfLetters_L4, ↓reduceIte, nI_lit, mO_lit, mO_lt, mO_le, mO_gt, mO_ge, mO_ne, mO_ne', nI_add, nI_mul, nI_addlit0, bsome, c_le_f, c_le_t, c_lt_f, c_lt_t, c_eq_f, c_eq_t, if_true, if_false, fld_n, fst_n]
theorem cdW_ltL (m : aN) : cdW (ltL m) = cdN m := by
  unfold cdW cdN
  rw [ltL_len]
  congr 1
  exact sI_congr fun k hk => by rw [ltL_getD m hk]
theorem mcd {B w : Nat} {s : Nat → Int32} {m : aN} (h : VM B s w m) : s_X11_cordOf (nI w) s = some (cdN m) := by
  have hk := mkn h
  obtain ⟨hw, hB, ⟨m1, m2, m3, m4⟩, hm⟩ := h
  have hc := cdL (l := ltL m) (by rw [ltL_len]; exact hm.2.1) (ltL_ok hm)
  rw [ltL_len, cdW_ltL] at hc
  simp (disch := omega) only [s_X11_cordOf, ↓reduceIte, nI_lit, mO_lit, mO_lt, mO_le, mO_gt, mO_ge, mO_ne, mO_ne', nI_add, nI_mul, nI_addlit0, bsome, c_le_f, c_le_t, c_lt_f, c_lt_t, c_eq_f, c_eq_t, if_true, if_false, fld_n, fst_n, m3, hk, hc]
def lmN (m : aN) (t : Nat) : Nat := sN m.length (fun k => bN (decide (t ≤ (gK m k).2.1)))
theorem mls {B w t : Nat} {s : Nat → Int32} {m : aN} (h : VM B s w m) (ht : t ≤ 2) : s_X11_loosened (nI w) (nI t) s = some (nI (lmN m t)) := by
  have hk := mkn h
  obtain ⟨hw, hB, ⟨m1, m2, m3, m4⟩, hm⟩ := h
  have h8 := hm.2.1
  simp (disch := omega) only [s_X11_loosened, ↓reduceIte, nI_lit, mO_lit, mO_lt, mO_le, mO_gt, mO_ge, mO_ne, mO_ne', nI_add, nI_mul, nI_addlit0, bsome, c_le_f, c_le_t, c_lt_f, c_lt_t, c_eq_f, c_eq_t, if_true, if_false, fld_n, fst_n]
  rw [lsum (fun a x i => s_X11_loosened_L5 (nI w) (nI t) s a x i) m.length (fun k => bI (decide (t ≤ (gK m k).2.1))) (by omega)]
  · simp only [bI_nI, sI_nI, bsome, nI_add, Nat.zero_add]; rfl
  · intro a i x hi
    have ho := (hm.2.2 i hi).2.1
    simp (disch := omega) only [s_X11_loosened_L5, ↓reduceIte, nI_lit, mO_lit, mO_lt, mO_le, mO_gt, mO_ge, mO_ne, mO_ne', nI_add, nI_mul, nI_addlit0, bsome, c_le_f, c_le_t, c_lt_f, c_lt_t, c_eq_f, c_eq_t, if_true, if_false, fld_n, fst_n, hk, m4 i hi]
    by_cases q : t ≤ (gK m i).2.1
    · simp (disch := omega) only [↓reduceIte, nI_lit, mO_lit, mO_lt, mO_le, mO_gt, mO_ge, mO_ne, mO_ne', nI_add, nI_mul, nI_addlit0, bsome, c_le_f, c_le_t, c_lt_f, c_lt_t, c_eq_f, c_eq_t, if_true, if_false, fld_n, fst_n, decide_eq_true q, bI_t]
    · simp (disch := omega) only [↓reduceIte, nI_lit, mO_lit, mO_lt, mO_le, mO_gt, mO_ge, mO_ne, mO_ne', nI_add, nI_mul, nI_addlit0, bsome, c_le_f, c_le_t, c_lt_f, c_lt_t, c_eq_f, c_eq_t, if_true, if_false, fld_n, fst_n, decide_eq_false q, bI_f]
  · intro a x
    simp (disch := omega) only [s_X11_loosened_L5, ↓reduceIte, nI_lit, mO_lit, mO_lt, mO_le, mO_gt, mO_ge, mO_ne, mO_ne', nI_add, nI_mul, nI_addlit0, bsome, c_le_f, c_le_t, c_lt_f, c_lt_t, c_eq_f, c_eq_t, if_true, if_false, fld_n, fst_n, hk]
