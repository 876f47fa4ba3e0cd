/-! the class: what is told, the rest -/
def okI (m : aN) (k w : Nat) : Int32 := if k < m.length then (if w = 0 then nI (gK m k).1 else if w = 1 then nI (rdN (gK m k)) else nI (gK m k).2.1) else mO
theorem oKt {B f n k w : Nat} {c : Nat → Int32} {m : aN} (h : VC B c f n m) (hk : k < 2147483648) (hw : w ≤ 2) : s_X8_ofKnot (nI f) (nI n) (nI k) (nI w) c = some (okI m k w) := by
  have hm := h.2.2.2.2.2.1
  have hn0 : (nI k < nI 0) = False := c_lt_f (by omega) (by omega)
  simp (disch := omega) only [s_X8_ofKnot, kts h, ↓reduceIte, nI_lit, mO_lit, mO_lt, mO_le, mO_gt, mO_ge, mO_ne, mO_ne', nI_add, nI_mul, nI_addlit0, bsome, c_le_f, c_le_t, c_lt_f, c_lt_t, c_eq_f, c_eq_t, if_true, if_false, fld_n, fst_n]
  unfold okI
  by_cases hq : k < m.length
  · have hkc := kc_lt (k := k) h.1 h.2.1 (by omega)
    simp (disch := omega) only [↓reduceIte, nI_lit, mO_lit, mO_lt, mO_le, mO_gt, mO_ge, mO_ne, mO_ne', nI_add, nI_mul, nI_addlit0, bsome, c_le_f, c_le_t, c_lt_f, c_lt_t, c_eq_f, c_eq_t, if_true, if_false, fld_n, fst_n, if_pos hq, kcell, lsd h hq, rds h hq, at_ok, (h.2.2.2.1.2 k hq).1]
    rcases (by omega : w = 0 ∨ w = 1 ∨ w = 2) with rfl | rfl | rfl
    · simp (disch := omega) only [↓reduceIte, nI_lit, mO_lit, mO_lt, mO_le, mO_gt, mO_ge, mO_ne, mO_ne', nI_add, nI_mul, nI_addlit0, bsome, c_le_f, c_le_t, c_lt_f, c_lt_t, c_eq_f, c_eq_t, if_true, if_false, fld_n, fst_n]
    · simp (disch := omega) only [↓reduceIte, nI_lit, mO_lit, mO_lt, mO_le, mO_gt, mO_ge, mO_ne, mO_ne', nI_add, nI_mul, nI_addlit0, bsome, c_le_f, c_le_t, c_lt_f, c_lt_t, c_eq_f, c_eq_t, if_true, if_false, fld_n, fst_n]; rfl
    · simp (disch := omega) only [↓reduceIte, nI_lit, mO_lit, mO_lt, mO_le, mO_gt, mO_ge, mO_ne, mO_ne', nI_add, nI_mul, nI_addlit0, bsome, c_le_f, c_le_t, c_lt_f, c_lt_t, c_eq_f, c_eq_t, if_true, if_false, fld_n, fst_n]; rfl
  · simp (disch := omega) only [↓reduceIte, nI_lit, mO_lit, mO_lt, mO_le, mO_gt, mO_ge, mO_ne, mO_ne', nI_add, nI_mul, nI_addlit0, bsome, c_le_f, c_le_t, c_lt_f, c_lt_t, c_eq_f, c_eq_t, if_true, if_false, fld_n, fst_n, if_neg hq]
def onI (st d b : Nat) (m : aN) (w : Nat) : Int32 := if w = 0 then nI m.length else if w = 1 then cdN m else if w = 2 then nI (kN 1 mO m) else if w = 3 then nI (ubN st d m 0) else stlI st d b m
theorem oNm {B f n w st d b : Nat} {c : Nat → Int32} {m : aN} (h : VC B c f n m) (e : EnvC B c st d b) (hw : w ≤ 4) : s_X8_ofName (nI f) (nI n) (nI w) c = some (onI st d b m w) := by
  simp (disch := omega) only [s_X8_ofName, kts h, crd h, kON h, ubh h e, stl h e, ↓reduceIte, nI_lit, mO_lit, mO_lt, mO_le, mO_gt, mO_ge, mO_ne, mO_ne', nI_add, nI_mul, nI_addlit0, bsome, c_le_f, c_le_t, c_lt_f, c_lt_t, c_eq_f, c_eq_t, if_true, if_false, fld_n, fst_n]
  unfold onI
  rcases (by omega : w = 0 ∨ w = 1 ∨ w = 2 ∨ w = 3 ∨ w = 4) with rfl | rfl | rfl | rfl | rfl <;> simp (disch := omega) only [↓reduceIte, nI_lit, mO_lit, mO_lt, mO_le, mO_gt, mO_ge, mO_ne, mO_ne', nI_add, nI_mul, nI_addlit0, bsome, c_le_f, c_le_t, c_lt_f, c_lt_t, c_eq_f, c_eq_t, if_true, if_false, fld_n, fst_n] <;> rfl
def ofI (S : aS) (f w : Nat) : Int32 := if w = 0 then fN S f 0 else if w = 1 then fN S f 1 else if w = 2 then leftI S f else if w = 3 then fN S f 2 else fN S f 3
theorem oFi {B f w : Nat} {S : aS} {c : Nat → Int32} (h : IC B S c) (hf : f < 5) (hw : w ≤ 4) : s_X8_ofFisher (nI f) (nI w) c = some (ofI S f w) := by
  simp (disch := omega) only [s_X8_ofFisher, fcell, fcl h hf, lft h hf, nms h hf, ↓reduceIte, nI_lit, mO_lit, mO_lt, mO_le, mO_gt, mO_ge, mO_ne, mO_ne', nI_add, nI_mul, nI_addlit0, bsome, c_le_f, c_le_t, c_lt_f, c_lt_t, c_eq_f, c_eq_t, if_true, if_false, fld_n, fst_n]
  unfold ofI
  rcases (by omega : w = 0 ∨ w = 1 ∨ w = 2 ∨ w = 3 ∨ w = 4) with rfl | rfl | rfl | rfl | rfl <;> simp (disch := omega) only [↓reduceIte, nI_lit, mO_lit, mO_lt, mO_le, mO_gt, mO_ge, mO_ne, mO_ne', nI_add, nI_mul, nI_addlit0, bsome, c_le_f, c_le_t, c_lt_f, c_lt_t, c_eq_f, c_eq_t, if_true, if_false, fld_n, fst_n] <;> rfl
def cdI (x : Nat) : Int32 := if x = 16 then nI 63 else nI (97 + x)
theorem codeO {x : Nat} (h : x < 1000) : s_X0_codeOf (nI x) = some (cdI x) := by
  unfold cdI
  by_cases hq : x = 16
  · subst hq; rfl
  · simp (disch := omega) only [s_X0_codeOf, ↓reduceIte, nI_lit, mO_lit, mO_lt, mO_le, mO_gt, mO_ge, mO_ne, mO_ne', nI_add, nI_mul, nI_addlit0, bsome, c_le_f, c_le_t, c_lt_f, c_lt_t, c_eq_f, c_eq_t, if_true, if_false, fld_n, fst_n, if_neg hq]
theorem rdN_le {B : Nat} {k : aK} (h : OKK B k) : rdN k ≤ 16 := by
  have := h.1
  unfold rdN
  by_cases h0 : k.2.1 = 0
  · rw [if_pos h0]; omega
  · by_cases h1 : k.2.1 = 1
    · rw [if_neg h0, if_pos h1]; omega
    · rw [if_neg h0, if_neg h1]; omega
def tdI (g : Nat → aN) : Nat → Nat → Nat → Int32
  | 0, _, _ => mO
  | r + 1, n, j => if j < (g n).length then cdI (rdN (gK (g n) j)) else if j = (g n).length then (if r = 0 then mO else nI 45) else tdI g r (n + 1) (j - ((g n).length + 1))
theorem tdC {B f j : Nat} {S : aS} {c : Nat → Int32} (h : IC B S c) (hf : f < 5) (hj : j < 2147483648) : s_X8_codeOfBelt (nI f) (nI j) c = some (tdI (nm S f) (sB S f).length 0 j) := by
  have h6 := h.six hf
  simp (disch := omega) only [s_X8_codeOfBelt, nms h hf, ↓reduceIte, nI_lit, mO_lit, mO_lt, mO_le, mO_gt, mO_ge, mO_ne, mO_ne', nI_add, nI_mul, nI_addlit0, bsome, c_le_f, c_le_t, c_lt_f, c_lt_t, c_eq_f, c_eq_t, if_true, if_false, fld_n, fst_n]
  have key : ∀ (r n before j' fuel : Nat), r + n = (sB S f).length → r < fuel → before + j' = j → (s_X8_codeOfBelt_L12 (nI f) (nI j) (nI (sB S f).length) c fuel (nI before) (nI n)).bind (fun r5 => fsum r5 (fun r9 => some r9) (fun e6 => some mO)) = some (tdI (nm S f) r n j') := by
    intro r
    induction r with
    | zero =>
      intro n before j' fuel h1 h2 h3
      obtain ⟨a, rfl⟩ : ∃ a, fuel = a + 1 := ⟨fuel - 1, by omega⟩
      simp (disch := omega) only [s_X8_codeOfBelt_L12, ↓reduceIte, nI_lit, mO_lit, mO_lt, mO_le, mO_gt, mO_ge, mO_ne, mO_ne', nI_add, nI_mul, nI_addlit0, bsome, c_le_f, c_le_t, c_lt_f, c_lt_t, c_eq_f, c_eq_t, if_true, if_false, fld_n, fst_n]
      rfl
    | succ r ih =>
      intro n before j' fuel h1 h2 h3
      obtain ⟨a, rfl⟩ : ∃ a, fuel = a + 1 := ⟨fuel - 1, by omega⟩
      have hv := h.nam hf (n := n) (by omega)
      have hl := hv.2.2.2.2.2.1
      have e : nI j - nI before = nI j' := by rw [nI_sub (by omega)]; congr 1; omega
      simp (disch := omega) only [s_X8_codeOfBelt_L12, ↓reduceIte, nI_lit, mO_lit, mO_lt, mO_le, mO_gt, mO_ge, mO_ne, mO_ne', nI_add, nI_mul, nI_addlit0, bsome, c_le_f, c_le_t, c_lt_f, c_lt_t, c_eq_f, c_eq_t, if_true, if_false, fld_n, fst_n, kts hv, e]
      show _ = some (if j' < (nm S f n).length then cdI (rdN (gK (nm S f n) j')) else if j' = (nm S f n).length then (if r = 0 then mO else nI 45) else tdI (nm S f) r (n + 1) (j' - ((nm S f n).length + 1)))
      by_cases q1 : j' < (nm S f n).length
      · have hrd := rdN_le (hv.2.2.2.2.2.2 j' q1)
        simp (disch := omega) only [↓reduceIte, nI_lit, mO_lit, mO_lt, mO_le, mO_gt, mO_ge, mO_ne, mO_ne', nI_add, nI_mul, nI_addlit0, bsome, c_le_f, c_le_t, c_lt_f, c_lt_t, c_eq_f, c_eq_t, if_true, if_false, fld_n, fst_n, rds hv q1, codeO, if_pos q1]
        rfl
      · by_cases q2 : j' = (nm S f n).length
        · simp (disch := omega) only [↓reduceIte, nI_lit, mO_lit, mO_lt, mO_le, mO_gt, mO_ge, mO_ne, mO_ne', nI_add, nI_mul, nI_addlit0, bsome, c_le_f, c_le_t, c_lt_f, c_lt_t, c_eq_f, c_eq_t, if_true, if_false, fld_n, fst_n, if_neg q1, if_pos q2]
          by_cases q3 : r = 0
          · simp (disch := omega) only [↓reduceIte, nI_lit, mO_lit, mO_lt, mO_le, mO_gt, mO_ge, mO_ne, mO_ne', nI_add, nI_mul, nI_addlit0, bsome, c_le_f, c_le_t, c_lt_f, c_lt_t, c_eq_f, c_eq_t, if_true, if_false, fld_n, fst_n, if_pos q3]; rfl
          · simp (disch := omega) only [↓reduceIte, nI_lit, mO_lit, mO_lt, mO_le, mO_gt, mO_ge, mO_ne, mO_ne', nI_add, nI_mul, nI_addlit0, bsome, c_le_f, c_le_t, c_lt_f, c_lt_t, c_eq_f, c_eq_t, if_true, if_false, fld_n, fst_n, if_neg q3]; rfl
        · simp (disch := omega) only [↓reduceIte, nI_lit, mO_lit, mO_lt, mO_le, mO_gt, mO_ge, mO_ne, mO_ne', nI_add, nI_mul, nI_addlit0, bsome, c_le_f, c_le_t, c_lt_f, c_lt_t, c_eq_f, c_eq_t, if_true, if_false, fld_n, fst_n, if_neg q1, if_neg q2]
          exact ih (n + 1) (before + ((nm S f n).length + 1)) (j' - ((nm S f n).length + 1)) a (by omega) (by omega) (by omega)
  have := key (sB S f).length 0 0 j gF (by omega) (by unfold gF; omega) (by omega)
  exact this
/-- names that read alike -/
def raB (m m' : aN) : Bool := decide (m.length = m'.length) && !(anyB m.length (fun k => decide (rdN (gK m k) ≠ rdN (gK m' k))))
theorem rAl {B f n g n' : Nat} {c : Nat → Int32} {m m' : aN} (h : VC B c f n m) (h' : VC B c g n' m') : s_X8_readAlike (nI f) (nI n) (nI g) (nI n') c = some (bI (raB m m')) := by
  have hl := h.2.2.2.2.2.1
  have hl' := h'.2.2.2.2.2.1
  unfold raB
  simp (disch := omega) only [s_X8_readAlike, kts h, kts h', ↓reduceIte, nI_lit, mO_lit, mO_lt, mO_le, mO_gt, mO_ge, mO_ne, mO_ne', nI_add, nI_mul, nI_addlit0, bsome, c_le_f, c_le_t, c_lt_f, c_lt_t, c_eq_f, c_eq_t, if_true, if_false, fld_n, fst_n]
  by_cases hq : m.length = m'.length
  · simp (disch := omega) only [↓reduceIte, nI_lit, mO_lit, mO_lt, mO_le, mO_gt, mO_ge, mO_ne, mO_ne', nI_add, nI_mul, nI_addlit0, bsome, c_le_f, c_le_t, c_lt_f, c_lt_t, c_eq_f, c_eq_t, if_true, if_false, fld_n, fst_n]
    rcases lfind (fun a i => s_X8_readAlike_L25 (nI f) (nI n) (nI g) (nI n') (nI m.length) c a i) 0 m.length (fun k => decide (rdN (gK m k) ≠ rdN (gK m' k))) (fun _ => nI 0) (by omega) (fun a i hi hp => by
        have hp := of_decide_eq_false hp
        have hp : rdN (gK m i) = rdN (gK m' i) := Decidable.not_not.mp hp
        rw [Nat.zero_add]
        simp (disch := omega) only [s_X8_readAlike_L25, ↓reduceIte, nI_lit, mO_lit, mO_lt, mO_le, mO_gt, mO_ge, mO_ne, mO_ne', nI_add, nI_mul, nI_addlit0, bsome, c_le_f, c_le_t, c_lt_f, c_lt_t, c_eq_f, c_eq_t, if_true, if_false, fld_n, fst_n, rds h hi, rds h' (k := i) (by omega), hp]) (fun a i hi hp => by
        have hp := of_decide_eq_true hp
        have r1 := rdN_le (h.2.2.2.2.2.2 i hi)
        have r2 := rdN_le (h'.2.2.2.2.2.2 i (by omega))
        rw [Nat.zero_add]
        simp (disch := omega) only [s_X8_readAlike_L25, ↓reduceIte, nI_lit, mO_lit, mO_lt, mO_le, mO_gt, mO_ge, mO_ne, mO_ne', nI_add, nI_mul, nI_addlit0, bsome, c_le_f, c_le_t, c_lt_f, c_lt_t, c_eq_f, c_eq_t, if_true, if_false, fld_n, fst_n, rds h hi, rds h' (k := i) (by omega)]) (fun a => by
        simp (disch := omega) only [s_X8_readAlike_L25, ↓reduceIte, nI_lit, mO_lit, mO_lt, mO_le, mO_gt, mO_ge, mO_ne, mO_ne', nI_add, nI_mul, nI_addlit0, bsome, c_le_f, c_le_t, c_lt_f, c_lt_t, c_eq_f, c_eq_t, if_true, if_false, fld_n, fst_n]) with ⟨i, h1, h2, h3, h4⟩ | ⟨h1, h2⟩
    · rw [h4, anyB_t h1 h2]; simp [hq]; rfl
    · rw [h2, anyB_f h1]; simp [hq]; rfl
  · simp (disch := omega) only [↓reduceIte, nI_lit, mO_lit, mO_lt, mO_le, mO_gt, mO_ge, mO_ne, mO_ne', nI_add, nI_mul, nI_addlit0, bsome, c_le_f, c_le_t, c_lt_f, c_lt_t, c_eq_f, c_eq_t, if_true, if_false, fld_n, fst_n, decide_eq_false hq]
    rfl
def shB (S : aS) (f g : Nat) : Bool := anyB (sB S f).length (fun n => anyB (sB S g).length (fun n' => raB (nm S f n) (nm S g n')))
theorem sha {B f g : Nat} {S : aS} {c : Nat → Int32} (h : IC B S c) (hf : f < 5) (hg : g < 5) : s_X8_share (nI f) (nI g) c = some (bI (shB S f g)) := by
  have h6 := h.six hf
  have h6' := h.six hg
  simp (disch := omega) only [s_X8_share, nms h hf, nms h hg, ↓reduceIte, nI_lit, mO_lit, mO_lt, mO_le, mO_gt, mO_ge, mO_ne, mO_ne', nI_add, nI_mul, nI_addlit0, bsome, c_le_f, c_le_t, c_lt_f, c_lt_t, c_eq_f, c_eq_t, if_true, if_false, fld_n, fst_n]
  have inner : ∀ n, n < (sB S f).length → (anyB (sB S g).length (fun n' => raB (nm S f n) (nm S g n')) = true ∧ s_X8_share_L25 (nI f) (nI g) (nI (sB S g).length) (nI n) c gF (nI 0) = some (.inl (nI 1))) ∨ (anyB (sB S g).length (fun n' => raB (nm S f n) (nm S g n')) = false ∧ s_X8_share_L25 (nI f) (nI g) (nI (sB S g).length) (nI n) c gF (nI 0) = some (.inr (nI (sB S g).length))) := by
    intro n hn
    rcases lfind (fun a i => s_X8_share_L25 (nI f) (nI g) (nI (sB S g).length) (nI n) c a i) 0 (sB S g).length (fun n' => raB (nm S f n) (nm S g n')) (fun _ => nI 1) (by omega) (fun a i hi hp => by
        have hp : raB (nm S f n) (nm S g i) = false := hp
        rw [Nat.zero_add]
        simp (disch := omega) only [s_X8_share_L25, ↓reduceIte, nI_lit, mO_lit, mO_lt, mO_le, mO_gt, mO_ge, mO_ne, mO_ne', nI_add, nI_mul, nI_addlit0, bsome, c_le_f, c_le_t, c_lt_f, c_lt_t, c_eq_f, c_eq_t, if_true, if_false, fld_n, fst_n, rAl (h.nam hf hn) (h.nam hg hi), hp]
        rfl) (fun a i hi hp => by
        have hp : raB (nm S f n) (nm S g i) = true := hp
        rw [Nat.zero_add]
        simp (disch := omega) only [s_X8_share_L25, ↓reduceIte, nI_lit, mO_lit, mO_lt, mO_le, mO_gt, mO_ge, mO_ne, mO_ne', nI_add, nI_mul, nI_addlit0, bsome, c_le_f, c_le_t, c_lt_f, c_lt_t, c_eq_f, c_eq_t, if_true, if_false, fld_n, fst_n, rAl (h.nam hf hn) (h.nam hg hi), hp]
        rfl) (fun a => by
        simp (disch := omega) only [s_X8_share_L25, ↓reduceIte, nI_lit, mO_lit, mO_lt, mO_le, mO_gt, mO_ge, mO_ne, mO_ne', nI_add, nI_mul, nI_addlit0, bsome, c_le_f, c_le_t, c_lt_f, c_lt_t, c_eq_f, c_eq_t, if_true, if_false, fld_n, fst_n]) with ⟨i, h1, h2, h3, h4⟩ | ⟨h1, h2⟩
    · exact Or.inl ⟨anyB_t h1 h2, h4⟩
    · rw [Nat.zero_add] at h2; exact Or.inr ⟨anyB_f h1, h2⟩
  rcases lfind (fun a i => s_X8_share_L16 (nI f) (nI g) (nI (sB S f).length) (nI (sB S g).length) c a i) 0 (sB S f).length (fun n => anyB (sB S g).length (fun n' => raB (nm S f n) (nm S g n'))) (fun _ => nI 1) (by omega) (fun a i hi hp => by
      rw [Nat.zero_add]
      rcases inner i hi with ⟨h1, h2⟩ | ⟨h1, h2⟩
      · rw [h1] at hp; cases hp
      · simp (disch := omega) only [s_X8_share_L16, ↓reduceIte, nI_lit, mO_lit, mO_lt, mO_le, mO_gt, mO_ge, mO_ne, mO_ne', nI_add, nI_mul, nI_addlit0, bsome, c_le_f, c_le_t, c_lt_f, c_lt_t, c_eq_f, c_eq_t, if_true, if_false, fld_n, fst_n, h2]
        rfl) (fun a i hi hp => by
      rw [Nat.zero_add]
      rcases inner i hi with ⟨h1, h2⟩ | ⟨h1, h2⟩
      · simp (disch := omega) only [s_X8_share_L16, ↓reduceIte, nI_lit, mO_lit, mO_lt, mO_le, mO_gt, mO_ge, mO_ne, mO_ne', nI_add, nI_mul, nI_addlit0, bsome, c_le_f, c_le_t, c_lt_f, c_lt_t, c_eq_f, c_eq_t, if_true, if_false, fld_n, fst_n, h2]
        rfl
      · rw [h1] at hp; cases hp) (fun a => by
      simp (disch := omega) only [s_X8_share_L16, ↓reduceIte, nI_lit, mO_lit, mO_lt, mO_le, mO_gt, mO_ge, mO_ne, mO_ne', nI_add, nI_mul, nI_addlit0, bsome, c_le_f, c_le_t, c_lt_f, c_lt_t, c_eq_f, c_eq_t, if_true, if_false, fld_n, fst_n]) with ⟨i, h1, h2, h3, h4⟩ | ⟨h1, h2⟩
  · rw [h4]; unfold shB; rw [anyB_t h1 h2]; rfl
  · rw [h2]; unfold shB; rw [anyB_f h1]; rfl
def fwI (S : aS) : Int32 := it 5 (fun f x => it (4 - f) (fun i x => if shB S f (f + 1 + i) = true then x ||| ((nI 1 <<< (nI f &&& nI 31)) ||| (nI 1 <<< (nI (f + 1 + i) &&& nI 31))) else x) x) (nI 0)
theorem fwS {B : Nat} {S : aS} {c : Nat → Int32} (h : IC B S c) : s_X8_fishersWithSharedNames c = some (fwI S) := by
  simp (disch := omega) only [s_X8_fishersWithSharedNames, ↓reduceIte, nI_lit, mO_lit, mO_lt, mO_le, mO_gt, mO_ge, mO_ne, mO_ne', nI_add, nI_mul, nI_addlit0, bsome, c_le_f, c_le_t, c_lt_f, c_lt_t, c_eq_f, c_eq_t, if_true, if_false, fld_n, fst_n]
  rw [lacc (fun a x i => s_X8_fishersWithSharedNames_L4 c a x i) 5 (fun f x => it (4 - f) (fun i x => if shB S f (f + 1 + i) = true then x ||| ((nI 1 <<< (nI f &&& nI 31)) ||| (nI 1 <<< (nI (f + 1 + i) &&& nI 31))) else x) x) (by omega)]
  · rfl
  · intro a f x hf
    simp (disch := omega) only [s_X8_fishersWithSharedNames_L4, ↓reduceIte, nI_lit, mO_lit, mO_lt, mO_le, mO_gt, mO_ge, mO_ne, mO_ne', nI_add, nI_mul, nI_addlit0, bsome, c_le_f, c_le_t, c_lt_f, c_lt_t, c_eq_f, c_eq_t, if_true, if_false, fld_n, fst_n]
    rw [laccF (fun a x i => s_X8_fishersWithSharedNames_L13 (nI f) c a x i) (f + 1) (4 - f) (fun i x => if shB S f (f + 1 + i) = true then x ||| ((nI 1 <<< (nI f &&& nI 31)) ||| (nI 1 <<< (nI (f + 1 + i) &&& nI 31))) else x) (by omega)]
    · rfl
    · intro a i x hi
      simp (disch := omega) only [s_X8_fishersWithSharedNames_L13, ↓reduceIte, nI_lit, mO_lit, mO_lt, mO_le, mO_gt, mO_ge, mO_ne, mO_ne', nI_add, nI_mul, nI_addlit0, bsome, c_le_f, c_le_t, c_lt_f, c_lt_t, c_eq_f, c_eq_t, if_true, if_false, fld_n, fst_n, sha h hf (g := f + 1 + i) (by omega)]
      cases shB S f (f + 1 + i) with
      | false => simp (disch := omega) only [bI, ↓reduceIte, nI_lit, mO_lit, mO_lt, mO_le, mO_gt, mO_ge, mO_ne, mO_ne', nI_add, nI_mul, nI_addlit0, bsome, c_le_f, c_le_t, c_lt_f, c_lt_t, c_eq_f, c_eq_t, if_true, if_false, fld_n, fst_n]; simp only [Bool.false_eq_true, if_false]; rfl
      | true => simp (disch := omega) only [bI, ↓reduceIte, nI_lit, mO_lit, mO_lt, mO_le, mO_gt, mO_ge, mO_ne, mO_ne', nI_add, nI_mul, nI_addlit0, bsome, c_le_f, c_le_t, c_lt_f, c_lt_t, c_eq_f, c_eq_t, if_true, if_false, fld_n, fst_n]
    · intro a x
      simp (disch := omega) only [s_X8_fishersWithSharedNames_L13, ↓reduceIte, nI_lit, mO_lit, mO_lt, mO_le, mO_gt, mO_ge, mO_ne, mO_ne', nI_add, nI_mul, nI_addlit0, bsome, c_le_f, c_le_t, c_lt_f, c_lt_t, c_eq_f, c_eq_t, if_true, if_false, fld_n, fst_n]
  · intro a x
    simp (disch := omega) only [s_X8_fishersWithSharedNames_L4, ↓reduceIte, nI_lit, mO_lit, mO_lt, mO_le, mO_gt, mO_ge, mO_ne, mO_ne', nI_add, nI_mul, nI_addlit0, bsome, c_le_f, c_le_t, c_lt_f, c_lt_t, c_eq_f, c_eq_t, if_true, if_false, fld_n, fst_n]
def oeI (E : List aE) (i w : Nat) : Int32 := if i < E.length then (if w = 0 then nI (gE E i).1.length else if w = 1 then nI (gE E i).2.1 else if w = 2 then (gE E i).2.2 else nI ((gE E i).1.getD 0 0)) else mO
theorem oEn {B i w : Nat} {S : aS} {c : Nat → Int32} (h : IC B S c) (hi : i < 2147483648) (hw : w ≤ 3) : s_X6_ofEntry (nI i) (nI w) c = some (oeI (sE S) i w) := by
  have hE := h.2.2.2.1
  have h7 := h.1.1.2.2.2.2.2.2.2
  have hn0 : (nI i < nI 0) = False := c_lt_f (by omega) (by omega)
  simp (disch := omega) only [s_X6_ofEntry, at_ok, h7, ↓reduceIte, nI_lit, mO_lit, mO_lt, mO_le, mO_gt, mO_ge, mO_ne, mO_ne', nI_add, nI_mul, nI_addlit0, bsome, c_le_f, c_le_t, c_lt_f, c_lt_t, c_eq_f, c_eq_t, if_true, if_false, fld_n, fst_n]
  unfold oeI
  by_cases hq : i < (sE S).length
  · obtain ⟨e1, e2, e3, e4⟩ := h.1.2.2 i hq
    obtain ⟨o1, -⟩ := h.2.2.2.2 i hq
    have e4 := e4 0 (by omega)
    have hec : ec i + 10 < 910 := by unfold ec; omega
    simp (disch := omega) only [↓reduceIte, nI_lit, mO_lit, mO_lt, mO_le, mO_gt, mO_ge, mO_ne, mO_ne', nI_add, nI_mul, nI_addlit0, bsome, c_le_f, c_le_t, c_lt_f, c_lt_t, c_eq_f, c_eq_t, if_true, if_false, fld_n, fst_n, ecell, at_ok, if_pos hq, Nat.add_zero, e1, e2, e3]
    rw [show ec i + 3 = ec i + (3 + 0) from rfl, e4]
    rcases (by omega : w = 0 ∨ w = 1 ∨ w = 2 ∨ w = 3) with rfl | rfl | rfl | rfl <;> simp (disch := omega) only [↓reduceIte, nI_lit, mO_lit, mO_lt, mO_le, mO_gt, mO_ge, mO_ne, mO_ne', nI_add, nI_mul, nI_addlit0, bsome, c_le_f, c_le_t, c_lt_f, c_lt_t, c_eq_f, c_eq_t, if_true, if_false, fld_n, fst_n] <;> rfl
  · simp (disch := omega) only [↓reduceIte, nI_lit, mO_lit, mO_lt, mO_le, mO_gt, mO_ge, mO_ne, mO_ne', nI_add, nI_mul, nI_addlit0, bsome, c_le_f, c_le_t, c_lt_f, c_lt_t, c_eq_f, c_eq_t, if_true, if_false, fld_n, fst_n, if_neg hq]
/-- what the next storm would do -/
def nsI (S : aS) (f w : Nat) : Int32 := if w = 0 then sI (sB S f).length (fun n => bI (decide (sBo S < ubN (sSt S) (sD S) (nm S f n) 1))) else sI (sB S f).length (fun n => nI (lnN (sSt S) (sD S) (nm S f n)))
theorem it_pair (N : Nat) (f g : Nat → Int32) (x : Int32 × Int32) : it N (fun i y => (y.1 + f i, y.2 + g i)) x = (x.1 + sI N f, x.2 + sI N g) := by
  induction N with
  | zero => show x = (x.1 + 0, x.2 + 0); rw [Int32.add_zero, Int32.add_zero]
  | succ n ih => show ((it n _ x).1 + f n, (it n _ x).2 + g n) = (x.1 + (sI n f + f n), x.2 + (sI n g + g n)); rw [ih, Int32.add_assoc, Int32.add_assoc]
theorem nxS {B f w : Nat} {S : aS} {c : Nat → Int32} (h : IC B S c) (hf : f < 5) (hw : w ≤ 1) : s_X6_ofNextStorm (nI f) (nI w) c = some (nsI S f w) := by
  have h6 := h.six hf
  have e := h.env
  simp (disch := omega) only [s_X6_ofNextStorm, nms h hf, at_ok, e.2.2.1, ↓reduceIte, nI_lit, mO_lit, mO_lt, mO_le, mO_gt, mO_ge, mO_ne, mO_ne', nI_add, nI_mul, nI_addlit0, bsome, c_le_f, c_le_t, c_lt_f, c_lt_t, c_eq_f, c_eq_t, if_true, if_false, fld_n, fst_n]
  have key := lp (fun a (y : Int32 × Int32 × Int32) => s_X6_ofNextStorm_L22 (nI f) (nI (sBo S)) (nI (sB S f).length) c a y.1 y.2.1 y.2.2) (sB S f).length
    (fun i y => y = (sI i (fun n => bI (decide (sBo S < ubN (sSt S) (sD S) (nm S f n) 1))), sI i (fun n => nI (lnN (sSt S) (sD S) (nm S f n))), nI i))
    (fun r => r = (sI (sB S f).length (fun n => bI (decide (sBo S < ubN (sSt S) (sD S) (nm S f n) 1))), sI (sB S f).length (fun n => nI (lnN (sSt S) (sD S) (nm S f n))), nI (sB S f).length))
    (fun i hi a y hy => by
      subst hy
      refine Or.inl ⟨(sI i (fun n => bI (decide (sBo S < ubN (sSt S) (sD S) (nm S f n) 1))) + bI (decide (sBo S < ubN (sSt S) (sD S) (nm S f i) 1)), sI i (fun n => nI (lnN (sSt S) (sD S) (nm S f n))) + nI (lnN (sSt S) (sD S) (nm S f i)), nI (i + 1)), ?_, rfl⟩
      have hu := ubN_le (st := sSt S) (d := sD S) (s := 1) (h.nam hf hi).2.2.2.2
      have hb := h.2.1.2.2.2.2
      simp (disch := omega) only [s_X6_ofNextStorm_L22, ↓reduceIte, nI_lit, mO_lit, mO_lt, mO_le, mO_gt, mO_ge, mO_ne, mO_ne', nI_add, nI_mul, nI_addlit0, bsome, c_le_f, c_le_t, c_lt_f, c_lt_t, c_eq_f, c_eq_t, if_true, if_false, fld_n, fst_n, ubh (h.nam hf hi) e (s := 1) (by omega), lbx (h.nam hf hi) e]
      by_cases hq : sBo S < ubN (sSt S) (sD S) (nm S f i) 1
      · simp (disch := omega) only [↓reduceIte, nI_lit, mO_lit, mO_lt, mO_le, mO_gt, mO_ge, mO_ne, mO_ne', nI_add, nI_mul, nI_addlit0, bsome, c_le_f, c_le_t, c_lt_f, c_lt_t, c_eq_f, c_eq_t, if_true, if_false, fld_n, fst_n, bI, decide_eq_true hq]
      · simp (disch := omega) only [↓reduceIte, nI_lit, mO_lit, mO_lt, mO_le, mO_gt, mO_ge, mO_ne, mO_ne', nI_add, nI_mul, nI_addlit0, bsome, c_le_f, c_le_t, c_lt_f, c_lt_t, c_eq_f, c_eq_t, if_true, if_false, fld_n, fst_n, bI, decide_eq_false hq]; simp only [Bool.false_eq_true, if_false, nI_addlit0])
    (fun a y hy => by subst hy; refine ⟨_, ?_, rfl⟩; simp (disch := omega) only [s_X6_ofNextStorm_L22, ↓reduceIte, nI_lit, mO_lit, mO_lt, mO_le, mO_gt, mO_ge, mO_ne, mO_ne', nI_add, nI_mul, nI_addlit0, bsome, c_le_f, c_le_t, c_lt_f, c_lt_t, c_eq_f, c_eq_t, if_true, if_false, fld_n, fst_n]) (sB S f).length 0 gF (nI 0, nI 0, nI 0) (by omega) (by unfold gF; omega) rfl
  obtain ⟨r, k1, k2⟩ := key
  subst k2
  rw [k1]
  unfold nsI
  rcases (by omega : w = 0 ∨ w = 1) with rfl | rfl <;> simp (disch := omega) only [↓reduceIte, nI_lit, mO_lit, mO_lt, mO_le, mO_gt, mO_ge, mO_ne, mO_ne', nI_add, nI_mul, nI_addlit0, bsome, c_le_f, c_le_t, c_lt_f, c_lt_t, c_eq_f, c_eq_t, if_true, if_false, fld_n, fst_n] <;> rfl
