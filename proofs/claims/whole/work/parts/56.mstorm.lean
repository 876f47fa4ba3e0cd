/-! the model: storms to come -/
def EnvM (B : Nat) (s : Nat → Int32) (st d b : Nat) : Prop := s 0 = nI st ∧ s 4 = nI d ∧ s 5 = nI b ∧ st ≤ B ∧ 1 ≤ d ∧ d ≤ 9 ∧ b ≤ 8 ∧ B < 1000000
theorem IM.env {B : Nat} {S : aS} {s : Nat → Int32} (h : IM B S s) : EnvM B s (sSt S) (sD S) (sBo S) := ⟨h.1.1.1, h.1.1.2.2.2.2.1, h.1.1.2.2.2.2.2.1, h.2.1.1, h.2.1.2.2.1, h.2.1.2.2.2.1, h.2.1.2.2.2.2, h.2.1.2.1⟩
def loB (d k : Nat) (x : aK) (t : Nat) : Bool := vow x.1 && decide ((k + 1 + t) % d = 0)
theorem lbS {st d k s : Nat} {x : aK} (hd : 1 ≤ d) : lbN st d k x (s + 1) = lbN st d k x s + bN (loB d k x (st + (s + 1))) := by
  unfold lbN loB
  cases hv : vow x.1 with
  | false => simp [bN]
  | true =>
    rw [if_pos rfl, if_pos rfl, Bool.true_and]
    have h1 : (k + 1 + st) / d ≤ (k + 1 + st + s) / d := Nat.div_le_div_right (by omega)
    have h2 := @Nat.succ_div (k + 1 + st + s) d
    have e : k + 1 + st + (s + 1) = k + 1 + st + s + 1 := by omega
    have e2 : k + 1 + (st + (s + 1)) = k + 1 + st + s + 1 := by omega
    rw [e, e2, h2]
    by_cases q : d ∣ k + 1 + st + s + 1
    · rw [if_pos q, decide_eq_true (Nat.mod_eq_zero_of_dvd q)]; show _ = _ + 1; omega
    · rw [if_neg q, decide_eq_false (fun c => q (Nat.dvd_of_mod_eq_zero c))]; show _ = _ + 0; omega
theorem mlo {B w k t st d b : Nat} {s : Nat → Int32} {m : aN} (h : VM B s w m) (e : EnvM B s st d b) (hk : k < m.length) (ht : t < 2000000) : s_X11_loosens (nI w) (nI k) (nI t) s = some (bI (loB d k (gK m k) t)) := by
  have ho := (h.2.2.2.2.2 k hk).1
  have h8 := h.2.2.2.2.1
  obtain ⟨e0, e1, e2, e3, e4, e5, e6, e7⟩ := e
  unfold loB
  simp (disch := omega) only [s_X11_loosens, ↓reduceIte, nI_lit, mO_lit, mO_lt, mO_le, mO_gt, mO_ge, mO_ne, mO_ne', nI_add, nI_mul, nI_addlit0, bsome, c_le_f, c_le_t, c_lt_f, c_lt_t, c_eq_f, c_eq_t, if_true, if_false, fld_n, fst_n, mti h hk, vowM]
  cases hv : vow (gK m k).1 with
  | false => simp (disch := omega) only [bI_f, ↓reduceIte, nI_lit, mO_lit, mO_lt, mO_le, mO_gt, mO_ge, mO_ne, mO_ne', nI_add, nI_mul, nI_addlit0, bsome, c_le_f, c_le_t, c_lt_f, c_lt_t, c_eq_f, c_eq_t, if_true, if_false, fld_n, fst_n, Bool.false_and]
  | true =>
    have hm : (k + 1 + t) % d < d := Nat.mod_lt _ (by omega)
    simp (disch := omega) only [bI_t, ↓reduceIte, nI_lit, mO_lit, mO_lt, mO_le, mO_gt, mO_ge, mO_ne, mO_ne', nI_add, nI_mul, nI_addlit0, bsome, c_le_f, c_le_t, c_lt_f, c_lt_t, c_eq_f, c_eq_t, if_true, if_false, fld_n, fst_n, Bool.true_and, e1, fnz_n, nI_mod]
    by_cases q : (k + 1 + t) % d = 0
    · simp (disch := omega) only [↓reduceIte, nI_lit, mO_lit, mO_lt, mO_le, mO_gt, mO_ge, mO_ne, mO_ne', nI_add, nI_mul, nI_addlit0, bsome, c_le_f, c_le_t, c_lt_f, c_lt_t, c_eq_f, c_eq_t, if_true, if_false, fld_n, fst_n, q]; rfl
    · simp (disch := omega) only [↓reduceIte, nI_lit, mO_lit, mO_lt, mO_le, mO_gt, mO_ge, mO_ne, mO_ne', nI_add, nI_mul, nI_addlit0, bsome, c_le_f, c_le_t, c_lt_f, c_lt_t, c_eq_f, c_eq_t, if_true, if_false, fld_n, fst_n, decide_eq_false q, bI_f]
theorem mst1 {B w k n st d b : Nat} {s : Nat → Int32} {m : aN} (h : VM B s w m) (e : EnvM B s st d b) (hk : k < m.length) (hn : n ≤ 60) :
    s_X11_storms_L39 (nI w) (nI n) (nI k) s gF (nI (gK m k).2.1) (nI 1) = some (nI (lbN st d k (gK m k) n), nI (1 + n)) := by
  have e0 := e.1
  have hst := e.2.2.2.1
  have hB := e.2.2.2.2.2.2.2
  rw [laccF (fun a x i => s_X11_storms_L39 (nI w) (nI n) (nI k) s a x i) 1 n (fun j x => x + bI (loB d k (gK m k) (st + (1 + j)))) (by omega)]
  · have key : ∀ j, it j (fun j x => x + bI (loB d k (gK m k) (st + (1 + j)))) (nI (gK m k).2.1) = nI (lbN st d k (gK m k) j) := by
      intro j
      induction j with
      | zero =>
        show nI _ = nI _
        congr 1
        unfold lbN
        by_cases hv : vow (gK m k).1 = true
        · rw [if_pos hv, Nat.add_zero]; omega
        · rw [if_neg hv]
      | succ j ih =>
        show it j _ _ + _ = _
        rw [ih, lbS e.2.2.2.2.1, bI_nI, nI_add, Nat.add_comm 1 j]
    rw [key]
  · intro a j x hj
    simp (disch := omega) only [s_X11_storms_L39, ↓reduceIte, nI_lit, mO_lit, mO_lt, mO_le, mO_gt, mO_ge, mO_ne, mO_ne', nI_add, nI_mul, nI_addlit0, bsome, c_le_f, c_le_t, c_lt_f, c_lt_t, c_eq_f, c_eq_t, if_true, if_false, fld_n, fst_n, e0, mlo h e hk]
    cases loB d k (gK m k) (st + (1 + j)) <;> simp (disch := omega) only [bI_t, bI_f, ↓reduceIte, nI_lit, mO_lit, mO_lt, mO_le, mO_gt, mO_ge, mO_ne, mO_ne', nI_add, nI_mul, nI_addlit0, bsome, c_le_f, c_le_t, c_lt_f, c_lt_t, c_eq_f, c_eq_t, if_true, if_false, fld_n, fst_n]
  · intro a x
    simp (disch := omega) only [s_X11_storms_L39, ↓reduceIte, nI_lit, mO_lit, mO_lt, mO_le, mO_gt, mO_ge, mO_ne, mO_ne', nI_add, nI_mul, nI_addlit0, bsome, c_le_f, c_le_t, c_lt_f, c_lt_t, c_eq_f, c_eq_t, if_true, if_false, fld_n, fst_n]
theorem mst2 {B w n st d b : Nat} {s : Nat → Int32} {m : aN} (h : VM B s w m) (e : EnvM B s st d b) (hn : n ≤ 60) :
    s_X11_storms_L13 (nI w) (nI n) s gF (nI 0) (nI 0) = some (nI (ubN st d m n), nI m.length) := by
  have h8 := h.2.2.2.2.1
  have hw := h.1
  have m4 := h.2.2.1.2.2.2
  rw [lsum (fun a x i => s_X11_storms_L13 (nI w) (nI n) s a x i) m.length (fun k => bI (decide (1 < lbN st d k (gK m k) n))) (by omega)]
  · simp only [bI_nI, sI_nI, nI_add, Nat.zero_add]; rfl
  · intro a i x hi
    have hl := lbN_le (st := st) (k := i) (s := n) (x := gK m i) e.2.2.2.2.1
    have ho := (h.2.2.2.2.2 i hi).2.1
    have hB := h.2.1
    simp (disch := omega) only [s_X11_storms_L13, ↓reduceIte, nI_lit, mO_lit, mO_lt, mO_le, mO_gt, mO_ge, mO_ne, mO_ne', nI_add, nI_mul, nI_addlit0, bsome, c_le_f, c_le_t, c_lt_f, c_lt_t, c_eq_f, c_eq_t, if_true, if_false, fld_n, fst_n, mkn h, m4 i hi]
    refine (bindE (mst1 h e hi hn) ?_)
    by_cases q : 1 < lbN st d i (gK m i) n
    · simp (disch := omega) only [↓reduceIte, nI_lit, mO_lit, mO_lt, mO_le, mO_gt, mO_ge, mO_ne, mO_ne', nI_add, nI_mul, nI_addlit0, bsome, c_le_f, c_le_t, c_lt_f, c_lt_t, c_eq_f, c_eq_t, if_true, if_false, fld_n, fst_n, decide_eq_true q, bI_t]
    · simp (disch := omega) only [↓reduceIte, nI_lit, mO_lit, mO_lt, mO_le, mO_gt, mO_ge, mO_ne, mO_ne', nI_add, nI_mul, nI_addlit0, bsome, c_le_f, c_le_t, c_lt_f, c_lt_t, c_eq_f, c_eq_t, if_true, if_false, fld_n, fst_n, decide_eq_false q, bI_f]
  · intro a x
    simp (disch := omega) only [s_X11_storms_L13, ↓reduceIte, nI_lit, mO_lit, mO_lt, mO_le, mO_gt, mO_ge, mO_ne, mO_ne', nI_add, nI_mul, nI_addlit0, bsome, c_le_f, c_le_t, c_lt_f, c_lt_t, c_eq_f, c_eq_t, if_true, if_false, fld_n, fst_n, mkn h]
