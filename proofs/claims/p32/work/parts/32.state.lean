/-! what the state is, and how the class's cells hold it -/
abbrev aK := Nat × Nat × Nat
abbrev aN := List aK
abbrev aE := List Nat × Nat × Int32
abbrev aS := (Nat → List aN) × List aE × Nat × Nat × Nat × Int32 × Int32 × (Int32 × Int32) × (Nat → Nat) × (Nat → Int32) × (Nat → Int32)
def sB (S : aS) := S.1
def sE (S : aS) := S.2.1
def sSt (S : aS) := S.2.2.1
def sD (S : aS) := S.2.2.2.1
def sBo (S : aS) := S.2.2.2.2.1
def sKt (S : aS) := S.2.2.2.2.2.1
def sCt (S : aS) := S.2.2.2.2.2.2.1
def sSp (S : aS) := S.2.2.2.2.2.2.2.1
def sLn (S : aS) := S.2.2.2.2.2.2.2.2.1
def sLo (S : aS) := S.2.2.2.2.2.2.2.2.2.1
def sGi (S : aS) := S.2.2.2.2.2.2.2.2.2.2
def gK (m : aN) (k : Nat) : aK := m.getD k (0, 0, 0)
def nm (S : aS) (f n : Nat) : aN := (sB S f).getD n []
def vow (l : Nat) : Bool := l == 0 || l == 4 || l == 8 || l == 14
def OKK (B : Nat) (k : aK) : Prop := k.1 < 16 ∧ k.2.1 ≤ B ∧ k.2.2 < 16 ∧ (0 < k.2.1 → vow k.1 = true)
def OKN (B : Nat) (m : aN) : Prop := 1 ≤ m.length ∧ m.length ≤ 8 ∧ ∀ k, k < m.length → OKK B (gK m k)
/-- places -/
def fc (f : Nat) : Nat := 8 + f * 154
def nc (f n : Nat) : Nat := 8 + f * 154 + 4 + n * 25
def kc (f n k : Nat) : Nat := 8 + f * 154 + 4 + n * 25 + 1 + k * 3
def ec (i : Nat) : Nat := 778 + i * 11
theorem fc_lt {f : Nat} (h : f < 5) : fc f + 3 < 910 := by unfold fc; omega
theorem nc_lt {f n : Nat} (h : f < 5) (h2 : n < 6) : nc f n < 910 := by unfold nc; omega
theorem kc_lt {f n k : Nat} (h : f < 5) (h2 : n < 6) (h3 : k < 8) : kc f n k + 2 < 910 := by unfold kc; omega
def CN (c : Nat → Int32) (f n : Nat) (m : aN) : Prop := c (nc f n) = nI m.length ∧ ∀ k, k < m.length → c (kc f n k) = nI (gK m k).1 ∧ c (kc f n k + 1) = nI (gK m k).2.1 ∧ c (kc f n k + 2) = nI (gK m k).2.2
/-- a name of the class's belts -/
def VC (B : Nat) (c : Nat → Int32) (f n : Nat) (m : aN) : Prop := f < 5 ∧ n < 6 ∧ B < 1000000 ∧ CN c f n m ∧ OKN B m
theorem at_ok {c : Nat → Int32} {i : Nat} (h : i < 910) : s_X7_at (nI i) c = some (c i) := by
  simp (disch := omega) only [s_X7_at, ↓reduceIte, nI_lit, mO_lit, mO_lt, mO_le, mO_gt, mO_ge, mO_ne, mO_ne', nI_add, nI_mul, nI_addlit0, bsome, c_le_f, c_le_t, c_lt_f, c_lt_t, c_eq_f, c_eq_t, if_true, if_false, fld_n, fst_n]
theorem put_ok {c : Nat → Int32} {i : Nat} {x : Int32} (h : i < 910) : s_X7_put (nI i) x c = some (upd c i x) := by
  simp (disch := omega) only [s_X7_put, ↓reduceIte, nI_lit, mO_lit, mO_lt, mO_le, mO_gt, mO_ge, mO_ne, mO_ne', nI_add, nI_mul, nI_addlit0, bsome, c_le_f, c_le_t, c_lt_f, c_lt_t, c_eq_f, c_eq_t, if_true, if_false, fld_n, fst_n]
theorem add_ok {c : Nat → Int32} {i : Nat} {x : Int32} (h : i < 910) : s_X7_add (nI i) x c = some (upd c i (c i + x)) := by
  simp (disch := omega) only [s_X7_add, at_ok, put_ok, ↓reduceIte, nI_lit, mO_lit, mO_lt, mO_le, mO_gt, mO_ge, mO_ne, mO_ne', nI_add, nI_mul, nI_addlit0, bsome, c_le_f, c_le_t, c_lt_f, c_lt_t, c_eq_f, c_eq_t, if_true, if_false, fld_n, fst_n]
theorem fcell (f j : Nat) : s_X7_fisherCell (nI f) (nI j) = some (nI (fc f + j)) := by
  simp (disch := omega) only [s_X7_fisherCell, ↓reduceIte, nI_lit, mO_lit, mO_lt, mO_le, mO_gt, mO_ge, mO_ne, mO_ne', nI_add, nI_mul, nI_addlit0, bsome, c_le_f, c_le_t, c_lt_f, c_lt_t, c_eq_f, c_eq_t, if_true, if_false, fld_n, fst_n, fc]
theorem ncell (f n : Nat) : s_X7_nameCell (nI f) (nI n) = some (nI (nc f n)) := by
  simp (disch := omega) only [s_X7_nameCell, ↓reduceIte, nI_lit, mO_lit, mO_lt, mO_le, mO_gt, mO_ge, mO_ne, mO_ne', nI_add, nI_mul, nI_addlit0, bsome, c_le_f, c_le_t, c_lt_f, c_lt_t, c_eq_f, c_eq_t, if_true, if_false, fld_n, fst_n, nc]
theorem kcell (f n k : Nat) : s_X7_knotCell (nI f) (nI n) (nI k) = some (nI (kc f n k)) := by
  simp (disch := omega) only [s_X7_knotCell, ↓reduceIte, nI_lit, mO_lit, mO_lt, mO_le, mO_gt, mO_ge, mO_ne, mO_ne', nI_add, nI_mul, nI_addlit0, bsome, c_le_f, c_le_t, c_lt_f, c_lt_t, c_eq_f, c_eq_t, if_true, if_false, fld_n, fst_n, kc]
theorem ecell (i j : Nat) : s_X7_entryCell (nI i) (nI j) = some (nI (ec i + j)) := by
  simp (disch := omega) only [s_X7_entryCell, ↓reduceIte, nI_lit, mO_lit, mO_lt, mO_le, mO_gt, mO_ge, mO_ne, mO_ne', nI_add, nI_mul, nI_addlit0, bsome, c_le_f, c_le_t, c_lt_f, c_lt_t, c_eq_f, c_eq_t, if_true, if_false, fld_n, fst_n, ec]
/-- letters -/
def ckI (x : Int32) : Int32 := 2 * (x / 4 + 1) + (x - x / 4 * 4)
def rdN (k : aK) : Nat := if k.2.1 = 0 then k.1 else if k.2.1 = 1 then k.1 + 1 else 16
theorem cordK (x : Int32) : s_X0_cordOfKnot x = some (ckI x) := rfl
theorem read_ok {l o : Nat} (hl : l < 16) (ho : o < 1000000) (f : Nat) : s_X0_reading (nI l) (nI o) = some (nI (rdN (l, o, f))) := by
  unfold rdN
  by_cases h0 : o = 0
  · subst h0; simp (disch := omega) only [s_X0_reading, ↓reduceIte, nI_lit, mO_lit, mO_lt, mO_le, mO_gt, mO_ge, mO_ne, mO_ne', nI_add, nI_mul, nI_addlit0, bsome, c_le_f, c_le_t, c_lt_f, c_lt_t, c_eq_f, c_eq_t, if_true, if_false, fld_n, fst_n]
  · by_cases h1 : o = 1
    · subst h1; simp (disch := omega) only [s_X0_reading, ↓reduceIte, nI_lit, mO_lit, mO_lt, mO_le, mO_gt, mO_ge, mO_ne, mO_ne', nI_add, nI_mul, nI_addlit0, bsome, c_le_f, c_le_t, c_lt_f, c_lt_t, c_eq_f, c_eq_t, if_true, if_false, fld_n, fst_n]; simp
    · simp (disch := omega) only [s_X0_reading, ↓reduceIte, nI_lit, mO_lit, mO_lt, mO_le, mO_gt, mO_ge, mO_ne, mO_ne', nI_add, nI_mul, nI_addlit0, bsome, c_le_f, c_le_t, c_lt_f, c_lt_t, c_eq_f, c_eq_t, if_true, if_false, fld_n, fst_n, h0, h1]
theorem vowI {l : Nat} (h : l < 1000) : s_X0_isVowel (nI l) = some (bI (vow l)) := by
  unfold vow
  by_cases h0 : l = 0
  · subst h0; rfl
  · by_cases h1 : l = 4
    · subst h1; rfl
    · by_cases h2 : l = 8
      · subst h2; rfl
      · by_cases h3 : l = 14
        · subst h3; rfl
        · simp (disch := omega) only [s_X0_isVowel, ↓reduceIte, nI_lit, mO_lit, mO_lt, mO_le, mO_gt, mO_ge, mO_ne, mO_ne', nI_add, nI_mul, nI_addlit0, bsome, c_le_f, c_le_t, c_lt_f, c_lt_t, c_eq_f, c_eq_t, if_true, if_false, fld_n, fst_n]
          have : (l == 0 || l == 4 || l == 8 || l == 14) = false := by simp [h0, h1, h2, h3]
          rw [this]; rfl
theorem kts {B f n : Nat} {c : Nat → Int32} {m : aN} (h : VC B c f n m) : s_X7_knots (nI f) (nI n) c = some (nI m.length) := by
  obtain ⟨hf, hn, hB, ⟨h1, h2⟩, hm⟩ := h
  have := nc_lt hf hn
  simp (disch := omega) only [s_X7_knots, ncell, at_ok, ↓reduceIte, nI_lit, mO_lit, mO_lt, mO_le, mO_gt, mO_ge, mO_ne, mO_ne', nI_add, nI_mul, nI_addlit0, bsome, c_le_f, c_le_t, c_lt_f, c_lt_t, c_eq_f, c_eq_t, if_true, if_false, fld_n, fst_n, h1]
theorem lsd {B f n k : Nat} {c : Nat → Int32} {m : aN} (h : VC B c f n m) (hk : k < m.length) : s_X7_loosened (nI f) (nI n) (nI k) c = some (nI (gK m k).2.1) := by
  obtain ⟨hf, hn, hB, ⟨h1, h2⟩, hm⟩ := h
  have := kc_lt (k := k) hf hn (by have := hm.2.1; omega)
  simp (disch := omega) only [s_X7_loosened, kcell, at_ok, ↓reduceIte, nI_lit, mO_lit, mO_lt, mO_le, mO_gt, mO_ge, mO_ne, mO_ne', nI_add, nI_mul, nI_addlit0, bsome, c_le_f, c_le_t, c_lt_f, c_lt_t, c_eq_f, c_eq_t, if_true, if_false, fld_n, fst_n, (h2 k hk).2.1]
theorem rds {B f n k : Nat} {c : Nat → Int32} {m : aN} (h : VC B c f n m) (hk : k < m.length) : s_X7_readsAs (nI f) (nI n) (nI k) c = some (nI (rdN (gK m k))) := by
  obtain ⟨hf, hn, hB, ⟨h1, h2⟩, hm⟩ := h
  have := kc_lt (k := k) hf hn (by have := hm.2.1; omega)
  obtain ⟨o1, o2, -⟩ := hm.2.2 k hk
  simp (disch := omega) only [s_X7_readsAs, kcell, at_ok, ↓reduceIte, nI_lit, mO_lit, mO_lt, mO_le, mO_gt, mO_ge, mO_ne, mO_ne', nI_add, nI_mul, nI_addlit0, bsome, c_le_f, c_le_t, c_lt_f, c_lt_t, c_eq_f, c_eq_t, if_true, if_false, fld_n, fst_n, (h2 k hk).1, (h2 k hk).2.1]
  rw [read_ok (f := (gK m k).2.2) (by omega) (by omega)]
  rfl
/-- cord -/
def cdN (m : aN) : Int32 := nI 2 + sI m.length (fun k => ckI (nI (gK m k).1) + nI 1)
theorem crd {B f n : Nat} {c : Nat → Int32} {m : aN} (h : VC B c f n m) : s_X7_cordOf (nI f) (nI n) c = some (cdN m) := by
  obtain ⟨hf, hn, hB, ⟨h1, h2⟩, hm⟩ := h
  have hm1 := hm.2.1
  have := nc_lt hf hn
  simp (disch := omega) only [s_X7_cordOf, ncell, at_ok, ↓reduceIte, nI_lit, mO_lit, mO_lt, mO_le, mO_gt, mO_ge, mO_ne, mO_ne', nI_add, nI_mul, nI_addlit0, bsome, c_le_f, c_le_t, c_lt_f, c_lt_t, c_eq_f, c_eq_t, if_true, if_false, fld_n, fst_n, h1]
  rw [lsum (fun a x i => s_X7_cordOf_L18 (nI f) (nI n) (nI m.length) c a x i) m.length (fun k => ckI (nI (gK m k).1) + nI 1) (by omega)]
  · rfl
  · intro a i x hi
    have := kc_lt (k := i) hf hn (by omega)
    simp (disch := omega) only [s_X7_cordOf_L18, kcell, at_ok, ↓reduceIte, nI_lit, mO_lit, mO_lt, mO_le, mO_gt, mO_ge, mO_ne, mO_ne', nI_add, nI_mul, nI_addlit0, bsome, c_le_f, c_le_t, c_lt_f, c_lt_t, c_eq_f, c_eq_t, if_true, if_false, fld_n, fst_n, (h2 i hi).1, cordK]
  · intro a x
    simp (disch := omega) only [s_X7_cordOf_L18, ↓reduceIte, nI_lit, mO_lit, mO_lt, mO_le, mO_gt, mO_ge, mO_ne, mO_ne', nI_add, nI_mul, nI_addlit0, bsome, c_le_f, c_le_t, c_lt_f, c_lt_t, c_eq_f, c_eq_t, if_true, if_false, fld_n, fst_n]
