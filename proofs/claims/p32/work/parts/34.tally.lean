/-! the class: what is told of names, fishers and all -/
theorem it_sub (N : Nat) (f : Nat → Int32) (x : Int32) : it N (fun i y => y - f i) x = x - sI N f := by
  induction N with
  | zero => show x = x - 0; grind
  | succ n ih => show it n _ x - f n = x - (sI n f + f n); rw [ih]; grind
def gE (E : List aE) (i : Nat) : aE := E.getD i ([], 0, 0)
def CE (c : Nat → Int32) (i : Nat) (e : aE) : Prop := c (ec i) = nI e.1.length ∧ c (ec i + 1) = nI e.2.1 ∧ c (ec i + 2) = e.2.2 ∧ ∀ k, k < e.1.length → c (ec i + (3 + k)) = nI (e.1.getD k 0)
def RepC (S : aS) (c : Nat → Int32) : Prop :=
  (c 0 = nI (sSt S) ∧ c 1 = nI (sD S) ∧ c 2 = nI (sBo S) ∧ c 3 = sKt S ∧ c 4 = sCt S ∧ c 5 = (sSp S).1 ∧ c 6 = (sSp S).2 ∧ c 7 = nI (sE S).length) ∧
  (∀ f, f < 5 → (c (fc f) = nI (sLn S f) ∧ c (fc f + 1) = nI (sB S f).length ∧ c (fc f + 2) = sLo S f ∧ c (fc f + 3) = sGi S f) ∧ ∀ n, n < (sB S f).length → CN c f n (nm S f n)) ∧
  ∀ i, i < (sE S).length → CE c i (gE (sE S) i)
def OKE (e : aE) : Prop := 1 ≤ e.1.length ∧ e.1.length ≤ 8 ∧ e.2.1 < 5 ∧ ∀ k, k < e.1.length → e.1.getD k 0 < 16
def OKS (B : Nat) (S : aS) : Prop := (sSt S ≤ B ∧ B < 1000000 ∧ 1 ≤ sD S ∧ sD S ≤ 9 ∧ sBo S ≤ 8) ∧
  (∀ f, f < 5 → (sB S f).length ≤ 6 ∧ 20 ≤ sLn S f ∧ sLn S f ≤ 120 ∧ ∀ n, n < (sB S f).length → OKN B (nm S f n)) ∧
  (sE S).length ≤ 12 ∧ ∀ i, i < (sE S).length → OKE (gE (sE S) i)
def IC (B : Nat) (S : aS) (c : Nat → Int32) : Prop := RepC S c ∧ OKS B S
theorem IC.env {B : Nat} {S : aS} {c : Nat → Int32} (h : IC B S c) : EnvC B c (sSt S) (sD S) (sBo S) := ⟨h.1.1.1, h.1.1.2.1, h.1.1.2.2.1, h.2.1.1, h.2.1.2.2.1, h.2.1.2.2.2.1, h.2.1.2.2.2.2, h.2.1.2.1⟩
theorem IC.nam {B : Nat} {S : aS} {c : Nat → Int32} (h : IC B S c) {f n : Nat} (hf : f < 5) (hn : n < (sB S f).length) : VC B c f n (nm S f n) :=
  ⟨hf, Nat.lt_of_lt_of_le hn (h.2.2.1 f hf).1, h.2.1.2.1, (h.1.2.1 f hf).2 n hn, (h.2.2.1 f hf).2.2.2 n hn⟩
theorem IC.six {B : Nat} {S : aS} {c : Nat → Int32} (h : IC B S c) {f : Nat} (hf : f < 5) : (sB S f).length ≤ 6 := (h.2.2.1 f hf).1
theorem nms {B : Nat} {S : aS} {c : Nat → Int32} (h : IC B S c) {f : Nat} (hf : f < 5) : s_X7_names (nI f) c = some (nI (sB S f).length) := by
  have := fc_lt hf
  simp (disch := omega) only [s_X7_names, fcell, at_ok, ↓reduceIte, nI_lit, mO_lit, mO_lt, mO_le, mO_gt, mO_ge, mO_ne, mO_ne', nI_add, nI_mul, nI_addlit0, bsome, c_le_f, c_le_t, c_lt_f, c_lt_t, c_eq_f, c_eq_t, if_true, if_false, fld_n, fst_n, ((h.1.2.1 f hf).1).2.1]
def leftI (S : aS) (f : Nat) : Int32 := nI (sLn S f) - sI (sB S f).length (fun n => cdN (nm S f n))
theorem lft {B : Nat} {S : aS} {c : Nat → Int32} (h : IC B S c) {f : Nat} (hf : f < 5) : s_X7_left (nI f) c = some (leftI S f) := by
  have := fc_lt hf
  have h6 := h.six hf
  simp (disch := omega) only [s_X7_left, fcell, at_ok, ↓reduceIte, nI_lit, mO_lit, mO_lt, mO_le, mO_gt, mO_ge, mO_ne, mO_ne', nI_add, nI_mul, nI_addlit0, bsome, c_le_f, c_le_t, c_lt_f, c_lt_t, c_eq_f, c_eq_t, if_true, if_false, fld_n, fst_n, nms h hf, Nat.add_zero, ((h.1.2.1 f hf).1).1]
  rw [lacc (fun a x i => s_X7_left_L19 (nI f) (nI (sB S f).length) c a x i) (sB S f).length (fun n x => x - cdN (nm S f n)) (by omega)]
  · rw [it_sub]; rfl
  · intro a i x hi
    simp (disch := omega) only [s_X7_left_L19, ↓reduceIte, nI_lit, mO_lit, mO_lt, mO_le, mO_gt, mO_ge, mO_ne, mO_ne', nI_add, nI_mul, nI_addlit0, bsome, c_le_f, c_le_t, c_lt_f, c_lt_t, c_eq_f, c_eq_t, if_true, if_false, fld_n, fst_n, crd (h.nam hf hi)]
  · intro a x
    simp (disch := omega) only [s_X7_left_L19, ↓reduceIte, nI_lit, mO_lit, mO_lt, mO_le, mO_gt, mO_ge, mO_ne, mO_ne', nI_add, nI_mul, nI_addlit0, bsome, c_le_f, c_le_t, c_lt_f, c_lt_t, c_eq_f, c_eq_t, if_true, if_false, fld_n, fst_n]
theorem hasN {B : Nat} {S : aS} {c : Nat → Int32} (h : IC B S c) {f n : Nat} (hf : f < 5) (hn : n < 2147483648) : s_X7_hasName (nI f) (nI n) c = some (bI (decide (n < (sB S f).length))) := by
  have h6 := h.six hf
  simp (disch := omega) only [s_X7_hasName, ↓reduceIte, nI_lit, mO_lit, mO_lt, mO_le, mO_gt, mO_ge, mO_ne, mO_ne', nI_add, nI_mul, nI_addlit0, bsome, c_le_f, c_le_t, c_lt_f, c_lt_t, c_eq_f, c_eq_t, if_true, if_false, fld_n, fst_n, nms h hf]
  by_cases hq : n < (sB S f).length
  · simp (disch := omega) only [↓reduceIte, nI_lit, mO_lit, mO_lt, mO_le, mO_gt, mO_ge, mO_ne, mO_ne', nI_add, nI_mul, nI_addlit0, bsome, c_le_f, c_le_t, c_lt_f, c_lt_t, c_eq_f, c_eq_t, if_true, if_false, fld_n, fst_n, bI, decide_eq_true hq]
  · simp (disch := omega) only [↓reduceIte, nI_lit, mO_lit, mO_lt, mO_le, mO_gt, mO_ge, mO_ne, mO_ne', nI_add, nI_mul, nI_addlit0, bsome, c_le_f, c_le_t, c_lt_f, c_lt_t, c_eq_f, c_eq_t, if_true, if_false, fld_n, fst_n, bI, decide_eq_false hq]; rfl
/-- knots of a kind -/
def pK (kind : Nat) (l : Int32) (x : aK) : Bool := if kind = 1 then decide (0 < x.2.1) else if kind = 2 then decide (nI x.1 = l) else if kind = 3 then decide (nI (rdN x) = l) else true
theorem kindk {B f n k kind : Nat} {l : Int32} {c : Nat → Int32} {m : aN} (h : VC B c f n m) (hk : k < m.length) (hd : kind < 4) : s_X8_isOfKind (nI (kc f n k)) (nI kind) l c = some (bI (pK kind l (gK m k))) := by
  obtain ⟨hf, hn, hB, ⟨h1, h2⟩, hm⟩ := h
  have := kc_lt (k := k) hf hn (by have := hm.2.1; omega)
  obtain ⟨o1, o2, -⟩ := hm.2.2 k hk
  simp (disch := omega) only [s_X8_isOfKind, at_ok, ↓reduceIte, nI_lit, mO_lit, mO_lt, mO_le, mO_gt, mO_ge, mO_ne, mO_ne', nI_add, nI_mul, nI_addlit0, bsome, c_le_f, c_le_t, c_lt_f, c_lt_t, c_eq_f, c_eq_t, if_true, if_false, fld_n, fst_n, (h2 k hk).1, (h2 k hk).2.1]
  rw [read_ok (f := (gK m k).2.2) (by omega) (by omega)]
  unfold pK
  rcases (by omega : kind = 0 ∨ kind = 1 ∨ kind = 2 ∨ kind = 3) with rfl | rfl | rfl | rfl
  · simp (disch := omega) only [↓reduceIte, nI_lit, mO_lit, mO_lt, mO_le, mO_gt, mO_ge, mO_ne, mO_ne', nI_add, nI_mul, nI_addlit0, bsome, c_le_f, c_le_t, c_lt_f, c_lt_t, c_eq_f, c_eq_t, if_true, if_false, fld_n, fst_n]; rfl
  · simp (disch := omega) only [↓reduceIte, nI_lit, mO_lit, mO_lt, mO_le, mO_gt, mO_ge, mO_ne, mO_ne', nI_add, nI_mul, nI_addlit0, bsome, c_le_f, c_le_t, c_lt_f, c_lt_t, c_eq_f, c_eq_t, if_true, if_false, fld_n, fst_n]
    by_cases hq : 0 < (gK m k).2.1
    · simp (disch := omega) only [↓reduceIte, nI_lit, mO_lit, mO_lt, mO_le, mO_gt, mO_ge, mO_ne, mO_ne', nI_add, nI_mul, nI_addlit0, bsome, c_le_f, c_le_t, c_lt_f, c_lt_t, c_eq_f, c_eq_t, if_true, if_false, fld_n, fst_n, bI, decide_eq_true hq]
    · simp (disch := omega) only [↓reduceIte, nI_lit, mO_lit, mO_lt, mO_le, mO_gt, mO_ge, mO_ne, mO_ne', nI_add, nI_mul, nI_addlit0, bsome, c_le_f, c_le_t, c_lt_f, c_lt_t, c_eq_f, c_eq_t, if_true, if_false, fld_n, fst_n, bI, decide_eq_false hq]; rfl
  · simp (disch := omega) only [↓reduceIte, nI_lit, mO_lit, mO_lt, mO_le, mO_gt, mO_ge, mO_ne, mO_ne', nI_add, nI_mul, nI_addlit0, bsome, c_le_f, c_le_t, c_lt_f, c_lt_t, c_eq_f, c_eq_t, if_true, if_false, fld_n, fst_n]
    by_cases hq : nI (gK m k).1 = l
    · rw [if_pos hq]; simp [bI, hq]
    · rw [if_neg hq]; simp [bI, hq]
  · simp (disch := omega) only [↓reduceIte, nI_lit, mO_lit, mO_lt, mO_le, mO_gt, mO_ge, mO_ne, mO_ne', nI_add, nI_mul, nI_addlit0, bsome, c_le_f, c_le_t, c_lt_f, c_lt_t, c_eq_f, c_eq_t, if_true, if_false, fld_n, fst_n]
    by_cases hq : nI (rdN (gK m k)) = l
    · simp [bI, hq]
    · simp [bI, hq]
def kN (kind : Nat) (l : Int32) (m : aN) : Nat := sN m.length (fun k => bN (pK kind l (gK m k)))
theorem kON {B f n kind : Nat} {l : Int32} {c : Nat → Int32} {m : aN} (h : VC B c f n m) (hd : kind < 4) : s_X8_knotsOfName (nI f) (nI n) (nI kind) l c = some (nI (kN kind l m)) := by
  have hm1 := h.2.2.2.2.2.1
  simp (disch := omega) only [s_X8_knotsOfName, kts h, ↓reduceIte, nI_lit, mO_lit, mO_lt, mO_le, mO_gt, mO_ge, mO_ne, mO_ne', nI_add, nI_mul, nI_addlit0, bsome, c_le_f, c_le_t, c_lt_f, c_lt_t, c_eq_f, c_eq_t, if_true, if_false, fld_n, fst_n]
  rw [lsum (fun a x i => s_X8_knotsOfName_L14 (nI f) (nI n) (nI kind) l (nI m.length) c a x i) m.length (fun k => bI (pK kind l (gK m k))) (by omega)]
  · simp only [bI_nI, sI_nI, bsome, nI_add, Nat.zero_add]; rfl
  · intro a i x hi
    simp (disch := omega) only [s_X8_knotsOfName_L14, ↓reduceIte, nI_lit, mO_lit, mO_lt, mO_le, mO_gt, mO_ge, mO_ne, mO_ne', nI_add, nI_mul, nI_addlit0, bsome, c_le_f, c_le_t, c_lt_f, c_lt_t, c_eq_f, c_eq_t, if_true, if_false, fld_n, fst_n, kcell, kindk h hi hd]
    cases pK kind l (gK m i) <;> simp (disch := omega) [bI, nI_addlit0, nI_lit, c_eq_f, c_eq_t]
  · intro a x
    simp (disch := omega) only [s_X8_knotsOfName_L14, ↓reduceIte, nI_lit, mO_lit, mO_lt, mO_le, mO_gt, mO_ge, mO_ne, mO_ne', nI_add, nI_mul, nI_addlit0, bsome, c_le_f, c_le_t, c_lt_f, c_lt_t, c_eq_f, c_eq_t, if_true, if_false, fld_n, fst_n]
/-- sums over all names -/
def sA (S : aS) (g : aN → Int32) : Int32 := sI 5 (fun f => sI (sB S f).length (fun n => g (nm S f n)))
theorem kTA {B kind : Nat} {l : Int32} {S : aS} {c : Nat → Int32} (h : IC B S c) (hd : kind < 4) : s_X8_knotsThatAre (nI kind) l c = some (sA S (fun m => nI (kN kind l m))) := by
  simp (disch := omega) only [s_X8_knotsThatAre, ↓reduceIte, nI_lit, mO_lit, mO_lt, mO_le, mO_gt, mO_ge, mO_ne, mO_ne', nI_add, nI_mul, nI_addlit0, bsome, c_le_f, c_le_t, c_lt_f, c_lt_t, c_eq_f, c_eq_t, if_true, if_false, fld_n, fst_n]
  rw [lsum (fun a x i => s_X8_knotsThatAre_L5 (nI kind) l c a x i) 5 (fun f => sI (sB S f).length (fun n => nI (kN kind l (nm S f n)))) (by omega)]
  · show some (nI 0 + _) = _; rw [show nI 0 = 0 from rfl, Int32.zero_add]; rfl
  · intro a f x hf
    have h6 := h.six hf
    simp (disch := omega) only [s_X8_knotsThatAre_L5, ↓reduceIte, nI_lit, mO_lit, mO_lt, mO_le, mO_gt, mO_ge, mO_ne, mO_ne', nI_add, nI_mul, nI_addlit0, bsome, c_le_f, c_le_t, c_lt_f, c_lt_t, c_eq_f, c_eq_t, if_true, if_false, fld_n, fst_n, nms h hf]
    rw [lsum (fun a x i => s_X8_knotsThatAre_L22 (nI kind) l (nI f) (nI (sB S f).length) c a x i) (sB S f).length (fun n => nI (kN kind l (nm S f n))) (by omega)]
    · rfl
    · intro a i x hi
      simp (disch := omega) only [s_X8_knotsThatAre_L22, ↓reduceIte, nI_lit, mO_lit, mO_lt, mO_le, mO_gt, mO_ge, mO_ne, mO_ne', nI_add, nI_mul, nI_addlit0, bsome, c_le_f, c_le_t, c_lt_f, c_lt_t, c_eq_f, c_eq_t, if_true, if_false, fld_n, fst_n, kON (h.nam hf hi) hd]
    · intro a x
      simp (disch := omega) only [s_X8_knotsThatAre_L22, ↓reduceIte, nI_lit, mO_lit, mO_lt, mO_le, mO_gt, mO_ge, mO_ne, mO_ne', nI_add, nI_mul, nI_addlit0, bsome, c_le_f, c_le_t, c_lt_f, c_lt_t, c_eq_f, c_eq_t, if_true, if_false, fld_n, fst_n]
  · intro a x
    simp (disch := omega) only [s_X8_knotsThatAre_L5, ↓reduceIte, nI_lit, mO_lit, mO_lt, mO_le, mO_gt, mO_ge, mO_ne, mO_ne', nI_add, nI_mul, nI_addlit0, bsome, c_le_f, c_le_t, c_lt_f, c_lt_t, c_eq_f, c_eq_t, if_true, if_false, fld_n, fst_n]
theorem cBN {B : Nat} {S : aS} {c : Nat → Int32} (h : IC B S c) : s_X8_cordByNames c = some (sA S cdN) := by
  simp (disch := omega) only [s_X8_cordByNames, ↓reduceIte, nI_lit, mO_lit, mO_lt, mO_le, mO_gt, mO_ge, mO_ne, mO_ne', nI_add, nI_mul, nI_addlit0, bsome, c_le_f, c_le_t, c_lt_f, c_lt_t, c_eq_f, c_eq_t, if_true, if_false, fld_n, fst_n]
  rw [lsum (fun a x i => s_X8_cordByNames_L4 c a x i) 5 (fun f => sI (sB S f).length (fun n => cdN (nm S f n))) (by omega)]
  · show some (nI 0 + _) = _; rw [show nI 0 = 0 from rfl, Int32.zero_add]; rfl
  · intro a f x hf
    have h6 := h.six hf
    simp (disch := omega) only [s_X8_cordByNames_L4, ↓reduceIte, nI_lit, mO_lit, mO_lt, mO_le, mO_gt, mO_ge, mO_ne, mO_ne', nI_add, nI_mul, nI_addlit0, bsome, c_le_f, c_le_t, c_lt_f, c_lt_t, c_eq_f, c_eq_t, if_true, if_false, fld_n, fst_n, nms h hf]
    rw [lsum (fun a x i => s_X8_cordByNames_L18 (nI f) (nI (sB S f).length) c a x i) (sB S f).length (fun n => cdN (nm S f n)) (by omega)]
    · rfl
    · intro a i x hi
      simp (disch := omega) only [s_X8_cordByNames_L18, ↓reduceIte, nI_lit, mO_lit, mO_lt, mO_le, mO_gt, mO_ge, mO_ne, mO_ne', nI_add, nI_mul, nI_addlit0, bsome, c_le_f, c_le_t, c_lt_f, c_lt_t, c_eq_f, c_eq_t, if_true, if_false, fld_n, fst_n, crd (h.nam hf hi)]
    · intro a x
      simp (disch := omega) only [s_X8_cordByNames_L18, ↓reduceIte, nI_lit, mO_lit, mO_lt, mO_le, mO_gt, mO_ge, mO_ne, mO_ne', nI_add, nI_mul, nI_addlit0, bsome, c_le_f, c_le_t, c_lt_f, c_lt_t, c_eq_f, c_eq_t, if_true, if_false, fld_n, fst_n]
  · intro a x
    simp (disch := omega) only [s_X8_cordByNames_L4, ↓reduceIte, nI_lit, mO_lit, mO_lt, mO_le, mO_gt, mO_ge, mO_ne, mO_ne', nI_add, nI_mul, nI_addlit0, bsome, c_le_f, c_le_t, c_lt_f, c_lt_t, c_eq_f, c_eq_t, if_true, if_false, fld_n, fst_n]
/-- numbers of the fishers -/
def fN (S : aS) (f j : Nat) : Int32 := if j = 0 then nI (sLn S f) else if j = 1 then nI (sB S f).length else if j = 2 then sLo S f else sGi S f
theorem fcl {B : Nat} {S : aS} {c : Nat → Int32} (h : IC B S c) {f j : Nat} (hf : f < 5) (hj : j < 4) : s_X7_at (nI (fc f + j)) c = some (fN S f j) := by
  have := fc_lt hf
  rw [at_ok (by omega)]
  obtain ⟨h1, h2, h3, h4⟩ := (h.1.2.1 f hf).1
  unfold fN
  rcases (by omega : j = 0 ∨ j = 1 ∨ j = 2 ∨ j = 3) with rfl | rfl | rfl | rfl
  · simp [h1]
  · simp [h2]
  · simp [h3]
  · simp [h4]
theorem oFs {B : Nat} {S : aS} {c : Nat → Int32} (h : IC B S c) {j : Nat} (hj : j < 4) : s_X8_ofFishers (nI j) c = some (sI 5 (fun f => fN S f j)) := by
  simp (disch := omega) only [s_X8_ofFishers, ↓reduceIte, nI_lit, mO_lit, mO_lt, mO_le, mO_gt, mO_ge, mO_ne, mO_ne', nI_add, nI_mul, nI_addlit0, bsome, c_le_f, c_le_t, c_lt_f, c_lt_t, c_eq_f, c_eq_t, if_true, if_false, fld_n, fst_n]
  rw [lsum (fun a x i => s_X8_ofFishers_L4 (nI j) c a x i) 5 (fun f => fN S f j) (by omega)]
  · show some (nI 0 + _) = _; rw [show nI 0 = 0 from rfl, Int32.zero_add]
  · intro a f x hf
    simp (disch := omega) only [s_X8_ofFishers_L4, ↓reduceIte, nI_lit, mO_lit, mO_lt, mO_le, mO_gt, mO_ge, mO_ne, mO_ne', nI_add, nI_mul, nI_addlit0, bsome, c_le_f, c_le_t, c_lt_f, c_lt_t, c_eq_f, c_eq_t, if_true, if_false, fld_n, fst_n, fcell, fcl h hf hj]
  · intro a x
    simp (disch := omega) only [s_X8_ofFishers_L4, ↓reduceIte, nI_lit, mO_lit, mO_lt, mO_le, mO_gt, mO_ge, mO_ne, mO_ne', nI_add, nI_mul, nI_addlit0, bsome, c_le_f, c_le_t, c_lt_f, c_lt_t, c_eq_f, c_eq_t, if_true, if_false, fld_n, fst_n]
theorem nmA {B : Nat} {S : aS} {c : Nat → Int32} (h : IC B S c) : s_X8_names c = some (sI 5 (fun f => fN S f 1)) := by
  simp (disch := omega) only [s_X8_names, ↓reduceIte, nI_lit, mO_lit, mO_lt, mO_le, mO_gt, mO_ge, mO_ne, mO_ne', nI_add, nI_mul, nI_addlit0, bsome, c_le_f, c_le_t, c_lt_f, c_lt_t, c_eq_f, c_eq_t, if_true, if_false, fld_n, fst_n, oFs h]
def cBLI (S : aS) : Int32 := nI 2 * sI 5 (fun f => fN S f 1) + sI 16 (fun l => sA S (fun m => nI (kN 2 (nI l) m)) * (ckI (nI l) + nI 1))
theorem cBL {B : Nat} {S : aS} {c : Nat → Int32} (h : IC B S c) : s_X8_cordByLetters c = some (cBLI S) := by
  simp (disch := omega) only [s_X8_cordByLetters, ↓reduceIte, nI_lit, mO_lit, mO_lt, mO_le, mO_gt, mO_ge, mO_ne, mO_ne', nI_add, nI_mul, nI_addlit0, bsome, c_le_f, c_le_t, c_lt_f, c_lt_t, c_eq_f, c_eq_t, if_true, if_false, fld_n, fst_n, nmA h]
  rw [lsum (fun a x i => s_X8_cordByLetters_L9 c a x i) 16 (fun l => sA S (fun m => nI (kN 2 (nI l) m)) * (ckI (nI l) + nI 1)) (by omega)]
  · rfl
  · intro a l x hl
    simp (disch := omega) only [s_X8_cordByLetters_L9, ↓reduceIte, nI_lit, mO_lit, mO_lt, mO_le, mO_gt, mO_ge, mO_ne, mO_ne', nI_add, nI_mul, nI_addlit0, bsome, c_le_f, c_le_t, c_lt_f, c_lt_t, c_eq_f, c_eq_t, if_true, if_false, fld_n, fst_n, cordK, kTA h]
  · intro a x
    simp (disch := omega) only [s_X8_cordByLetters_L9, ↓reduceIte, nI_lit, mO_lit, mO_lt, mO_le, mO_gt, mO_ge, mO_ne, mO_ne', nI_add, nI_mul, nI_addlit0, bsome, c_le_f, c_le_t, c_lt_f, c_lt_t, c_eq_f, c_eq_t, if_true, if_false, fld_n, fst_n]
