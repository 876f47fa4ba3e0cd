/-! the class: the digest's parts -/
def tt (g : Nat → aN) : Nat → Nat → Nat
  | 0, _ => 0
  | r + 1, n => (g n).length + 1 + tt g r (n + 1)
theorem td_eq (g : Nat → aN) : ∀ (r n j : Nat), tt g r n ≤ j + 1 → tdI g r n j = mO := by
  intro r
  induction r with
  | zero => intros; rfl
  | succ r ih =>
    intro n j h
    have h : (g n).length + 1 + tt g r (n + 1) ≤ j + 1 := h
    show (if j < (g n).length then cdI (rdN (gK (g n) j)) else if j = (g n).length then (if r = 0 then mO else nI 45) else tdI g r (n + 1) (j - ((g n).length + 1))) = mO
    rw [if_neg (by omega)]
    by_cases q : j = (g n).length
    · rw [if_pos q]
      have : r = 0 := by
        cases r with
        | zero => rfl
        | succ r =>
          have e : tt g (r + 1) (n + 1) = (g (n + 1)).length + 1 + tt g r (n + 1 + 1) := rfl
          omega
      rw [if_pos this]
    · rw [if_neg q]; exact ih (n + 1) _ (by omega)
theorem td_ne (g : Nat → aN) : ∀ (r n j : Nat), (∀ i, n ≤ i → i < n + r → ∀ k, k < (g i).length → rdN (gK (g i) k) ≤ 16) → j + 1 < tt g r n → tdI g r n j ≠ mO := by
  intro r
  induction r with
  | zero => intro n j _ h; exact absurd h (Nat.not_lt_zero _)
  | succ r ih =>
    intro n j hb h
    have h : j + 1 < (g n).length + 1 + tt g r (n + 1) := h
    show (if j < (g n).length then cdI (rdN (gK (g n) j)) else if j = (g n).length then (if r = 0 then mO else nI 45) else tdI g r (n + 1) (j - ((g n).length + 1))) ≠ mO
    by_cases q1 : j < (g n).length
    · rw [if_pos q1]
      have := hb n (by omega) (by omega) j q1
      unfold cdI
      by_cases q : rdN (gK (g n) j) = 16
      · rw [if_pos q]; decide
      · rw [if_neg q]; intro e; rw [mO_ne (by omega)] at e; exact e
    · rw [if_neg q1]
      by_cases q : j = (g n).length
      · rw [if_pos q]
        by_cases q3 : r = 0
        · subst q3; have e : tt g 0 (n + 1) = 0 := rfl; omega
        · rw [if_neg q3]; decide
      · rw [if_neg q]; exact ih (n + 1) _ (fun i h1 h2 => hb i (by omega) (by omega)) (by omega)
theorem tt_le (g : Nat → aN) : ∀ (r n : Nat), (∀ i, n ≤ i → i < n + r → (g i).length ≤ 8) → tt g r n ≤ r * 9 := by
  intro r
  induction r with
  | zero => intros; exact Nat.le_refl _
  | succ r ih =>
    intro n h
    have h1 := h n (by omega) (by omega)
    have h2 := ih (n + 1) (fun i a b => h i (by omega) (by omega))
    show (g n).length + 1 + tt g r (n + 1) ≤ _
    omega
def tdT (S : aS) (f : Nat) : Nat := tt (nm S f) (sB S f).length 0 - 1
def tdJ (S : aS) (f j : Nat) : Int32 := tdI (nm S f) (sB S f).length 0 j
theorem tdCJ {B f j : Nat} {S : aS} {c : Nat → Int32} (h : IC B S c) (hf : f < 5) (hj : j < 2147483648) : s_X8_codeOfBelt (nI f) (nI j) c = some (tdJ S f j) := tdC h hf hj
theorem tdT_le {B f : Nat} {S : aS} (h : OKS B S) (hf : f < 5) : tdT S f ≤ 53 := by
  have h1 := tt_le (nm S f) (sB S f).length 0 (fun i _ hi => ((h.2.1 f hf).2.2.2 i (by omega)).2.1)
  have h2 := (h.2.1 f hf).1
  unfold tdT; omega
theorem tdT_ne {B f j : Nat} {S : aS} (h : OKS B S) (hf : f < 5) (hj : j < tdT S f) : tdJ S f j ≠ mO :=
  td_ne (nm S f) _ 0 j (fun i _ hi k hk => rdN_le (((h.2.1 f hf).2.2.2 i (by omega)).2.2 k hk)) (by unfold tdT at hj; omega)
theorem tdT_eq (f : Nat) (S : aS) : tdJ S f (tdT S f) = mO := td_eq (nm S f) _ 0 _ (by unfold tdT; omega)
def hFi (S : aS) (f : Nat) (z : Int64) : Int64 := it (tdT S f) (fun j => mx (tdJ S f j)) (it 2 (fun w => mx (nsI S f w)) (it 5 (fun w => mx (ofI S f w)) z))
theorem dFi {B f : Nat} {S : aS} {c : Nat → Int32} (h : IC B S c) (hf : f < 5) (z : Int64) : s_X2_withFisher (nI f) z c = some (hFi S f z) := by
  simp (disch := omega) only [s_X2_withFisher, ↓reduceIte, nI_lit, mO_lit, mO_lt, mO_le, mO_gt, mO_ge, mO_ne, mO_ne', nI_add, nI_mul, nI_addlit0, bsome, c_le_f, c_le_t, c_lt_f, c_lt_t, c_eq_f, c_eq_t, if_true, if_false, fld_n, fst_n]
  rw [lhash (fun a x i => s_X2_withFisher_L6 (nI f) c a x i) 5 (fun w => ofI S f w) (by omega) (fun a i x hi => by
    simp (disch := omega) only [s_X2_withFisher_L6, ↓reduceIte, nI_lit, mO_lit, mO_lt, mO_le, mO_gt, mO_ge, mO_ne, mO_ne', nI_add, nI_mul, nI_addlit0, bsome, c_le_f, c_le_t, c_lt_f, c_lt_t, c_eq_f, c_eq_t, if_true, if_false, fld_n, fst_n, oFi h hf]
    rfl) (fun a x => by simp (disch := omega) only [s_X2_withFisher_L6, ↓reduceIte, nI_lit, mO_lit, mO_lt, mO_le, mO_gt, mO_ge, mO_ne, mO_ne', nI_add, nI_mul, nI_addlit0, bsome, c_le_f, c_le_t, c_lt_f, c_lt_t, c_eq_f, c_eq_t, if_true, if_false, fld_n, fst_n])]
  simp only [bsome]
  rw [lhash (fun a x i => s_X2_withFisher_L38 (nI f) c a x i) 2 (fun w => nsI S f w) (by omega) (fun a i x hi => by
    simp (disch := omega) only [s_X2_withFisher_L38, ↓reduceIte, nI_lit, mO_lit, mO_lt, mO_le, mO_gt, mO_ge, mO_ne, mO_ne', nI_add, nI_mul, nI_addlit0, bsome, c_le_f, c_le_t, c_lt_f, c_lt_t, c_eq_f, c_eq_t, if_true, if_false, fld_n, fst_n, nxS h hf]
    rfl) (fun a x => by simp (disch := omega) only [s_X2_withFisher_L38, ↓reduceIte, nI_lit, mO_lit, mO_lt, mO_le, mO_gt, mO_ge, mO_ne, mO_ne', nI_add, nI_mul, nI_addlit0, bsome, c_le_f, c_le_t, c_lt_f, c_lt_t, c_eq_f, c_eq_t, if_true, if_false, fld_n, fst_n])]
  simp only [bsome]
  have hT := tdT_le h.2 hf
  rw [lhash (fun a x i => s_X2_withFisher_L70 (nI f) c a x i) (tdT S f) (fun w => tdJ S f w) (by omega) (fun a i x hi => by
    simp (disch := omega) only [s_X2_withFisher_L70, ↓reduceIte, nI_lit, mO_lit, mO_lt, mO_le, mO_gt, mO_ge, mO_ne, mO_ne', nI_add, nI_mul, nI_addlit0, bsome, c_le_f, c_le_t, c_lt_f, c_lt_t, c_eq_f, c_eq_t, if_true, if_false, fld_n, fst_n, tdCJ h hf]
    rw [if_neg (tdT_ne h.2 hf hi)]
    rfl) (fun a x => by
    simp (disch := omega) only [s_X2_withFisher_L70, ↓reduceIte, nI_lit, mO_lit, mO_lt, mO_le, mO_gt, mO_ge, mO_ne, mO_ne', nI_add, nI_mul, nI_addlit0, bsome, c_le_f, c_le_t, c_lt_f, c_lt_t, c_eq_f, c_eq_t, if_true, if_false, fld_n, fst_n, tdCJ h hf]
    rw [if_pos (tdT_eq f S)])]
  rfl
def hKs (m : aN) (z : Int64) : Int64 := it m.length (fun k x => it 3 (fun w => mx (okI m k w)) x) z
theorem dKs {B f n : Nat} {c : Nat → Int32} {m : aN} (h : VC B c f n m) (z : Int64) : s_X2_withKnots (nI f) (nI n) z c = some (hKs m z) := by
  have hl := h.2.2.2.2.2.1
  simp (disch := omega) only [s_X2_withKnots, ↓reduceIte, nI_lit, mO_lit, mO_lt, mO_le, mO_gt, mO_ge, mO_ne, mO_ne', nI_add, nI_mul, nI_addlit0, bsome, c_le_f, c_le_t, c_lt_f, c_lt_t, c_eq_f, c_eq_t, if_true, if_false, fld_n, fst_n, kts h]
  rw [lacc (fun a x i => s_X2_withKnots_L14 (nI f) (nI n) (nI m.length) c a x i) m.length (fun k x => it 3 (fun w => mx (okI m k w)) x) (by omega)]
  · rfl
  · intro a k x hk
    simp (disch := omega) only [s_X2_withKnots_L14, ↓reduceIte, nI_lit, mO_lit, mO_lt, mO_le, mO_gt, mO_ge, mO_ne, mO_ne', nI_add, nI_mul, nI_addlit0, bsome, c_le_f, c_le_t, c_lt_f, c_lt_t, c_eq_f, c_eq_t, if_true, if_false, fld_n, fst_n]
    rw [lhash (fun a x i => s_X2_withKnots_L24 (nI f) (nI n) (nI k) c a x i) 3 (fun w => okI m k w) (by omega)]
    · rfl
    · intro a i x hi
      simp (disch := omega) only [s_X2_withKnots_L24, ↓reduceIte, nI_lit, mO_lit, mO_lt, mO_le, mO_gt, mO_ge, mO_ne, mO_ne', nI_add, nI_mul, nI_addlit0, bsome, c_le_f, c_le_t, c_lt_f, c_lt_t, c_eq_f, c_eq_t, if_true, if_false, fld_n, fst_n, oKt h]
      rfl
    · intro a x
      simp (disch := omega) only [s_X2_withKnots_L24, ↓reduceIte, nI_lit, mO_lit, mO_lt, mO_le, mO_gt, mO_ge, mO_ne, mO_ne', nI_add, nI_mul, nI_addlit0, bsome, c_le_f, c_le_t, c_lt_f, c_lt_t, c_eq_f, c_eq_t, if_true, if_false, fld_n, fst_n]
  · intro a x
    simp (disch := omega) only [s_X2_withKnots_L14, ↓reduceIte, nI_lit, mO_lit, mO_lt, mO_le, mO_gt, mO_ge, mO_ne, mO_ne', nI_add, nI_mul, nI_addlit0, bsome, c_le_f, c_le_t, c_lt_f, c_lt_t, c_eq_f, c_eq_t, if_true, if_false, fld_n, fst_n]
def hNs (S : aS) (f : Nat) (z : Int64) : Int64 := it (sB S f).length (fun n x => hKs (nm S f n) (it 5 (fun w => mx (onI (sSt S) (sD S) (sBo S) (nm S f n) w)) x)) z
theorem dNs {B f : Nat} {S : aS} {c : Nat → Int32} (h : IC B S c) (hf : f < 5) (z : Int64) : s_X2_withNames (nI f) z c = some (hNs S f z) := by
  have h6 := h.six hf
  simp (disch := omega) only [s_X2_withNames, ↓reduceIte, nI_lit, mO_lit, mO_lt, mO_le, mO_gt, mO_ge, mO_ne, mO_ne', nI_add, nI_mul, nI_addlit0, bsome, c_le_f, c_le_t, c_lt_f, c_lt_t, c_eq_f, c_eq_t, if_true, if_false, fld_n, fst_n, nms h hf]
  rw [lacc (fun a x i => s_X2_withNames_L13 (nI f) (nI (sB S f).length) c a x i) (sB S f).length (fun n x => hKs (nm S f n) (it 5 (fun w => mx (onI (sSt S) (sD S) (sBo S) (nm S f n) w)) x)) (by omega)]
  · rfl
  · intro a n x hn
    simp (disch := omega) only [s_X2_withNames_L13, ↓reduceIte, nI_lit, mO_lit, mO_lt, mO_le, mO_gt, mO_ge, mO_ne, mO_ne', nI_add, nI_mul, nI_addlit0, bsome, c_le_f, c_le_t, c_lt_f, c_lt_t, c_eq_f, c_eq_t, if_true, if_false, fld_n, fst_n]
    rw [lhash (fun a x i => s_X2_withNames_L23 (nI f) (nI n) c a x i) 5 (fun w => onI (sSt S) (sD S) (sBo S) (nm S f n) w) (by omega)]
    · simp only [bsome, dKs (h.nam hf hn)]
    · intro a i x hi
      simp (disch := omega) only [s_X2_withNames_L23, ↓reduceIte, nI_lit, mO_lit, mO_lt, mO_le, mO_gt, mO_ge, mO_ne, mO_ne', nI_add, nI_mul, nI_addlit0, bsome, c_le_f, c_le_t, c_lt_f, c_lt_t, c_eq_f, c_eq_t, if_true, if_false, fld_n, fst_n, oNm (h.nam hf hn) h.env]
      rfl
    · intro a x
      simp (disch := omega) only [s_X2_withNames_L23, ↓reduceIte, nI_lit, mO_lit, mO_lt, mO_le, mO_gt, mO_ge, mO_ne, mO_ne', nI_add, nI_mul, nI_addlit0, bsome, c_le_f, c_le_t, c_lt_f, c_lt_t, c_eq_f, c_eq_t, if_true, if_false, fld_n, fst_n]
  · intro a x
    simp (disch := omega) only [s_X2_withNames_L13, ↓reduceIte, nI_lit, mO_lit, mO_lt, mO_le, mO_gt, mO_ge, mO_ne, mO_ne', nI_add, nI_mul, nI_addlit0, bsome, c_le_f, c_le_t, c_lt_f, c_lt_t, c_eq_f, c_eq_t, if_true, if_false, fld_n, fst_n]
def hEs (E : List aE) (z : Int64) : Int64 := it E.length (fun i x => it 4 (fun w => mx (oeI E i w)) x) z
theorem dEs {B : Nat} {S : aS} {c : Nat → Int32} (h : IC B S c) (z : Int64) : s_X2_withEntries z c = some (hEs (sE S) z) := by
  have hE := h.2.2.2.1
  have h7 := h.1.1.2.2.2.2.2.2.2
  simp (disch := omega) only [s_X2_withEntries, ↓reduceIte, nI_lit, mO_lit, mO_lt, mO_le, mO_gt, mO_ge, mO_ne, mO_ne', nI_add, nI_mul, nI_addlit0, bsome, c_le_f, c_le_t, c_lt_f, c_lt_t, c_eq_f, c_eq_t, if_true, if_false, fld_n, fst_n, at_ok, h7]
  rw [lacc (fun a x i => s_X2_withEntries_L13 (nI (sE S).length) c a x i) (sE S).length (fun i x => it 4 (fun w => mx (oeI (sE S) i w)) x) (by omega)]
  · rfl
  · intro a k x hk
    simp (disch := omega) only [s_X2_withEntries_L13, ↓reduceIte, nI_lit, mO_lit, mO_lt, mO_le, mO_gt, mO_ge, mO_ne, mO_ne', nI_add, nI_mul, nI_addlit0, bsome, c_le_f, c_le_t, c_lt_f, c_lt_t, c_eq_f, c_eq_t, if_true, if_false, fld_n, fst_n]
    rw [lhash (fun a x i => s_X2_withEntries_L23 (nI k) c a x i) 4 (fun w => oeI (sE S) k w) (by omega)]
    · rfl
    · intro a i x hi
      simp (disch := omega) only [s_X2_withEntries_L23, ↓reduceIte, nI_lit, mO_lit, mO_lt, mO_le, mO_gt, mO_ge, mO_ne, mO_ne', nI_add, nI_mul, nI_addlit0, bsome, c_le_f, c_le_t, c_lt_f, c_lt_t, c_eq_f, c_eq_t, if_true, if_false, fld_n, fst_n, oEn h]
      rfl
    · intro a x
      simp (disch := omega) only [s_X2_withEntries_L23, ↓reduceIte, nI_lit, mO_lit, mO_lt, mO_le, mO_gt, mO_ge, mO_ne, mO_ne', nI_add, nI_mul, nI_addlit0, bsome, c_le_f, c_le_t, c_lt_f, c_lt_t, c_eq_f, c_eq_t, if_true, if_false, fld_n, fst_n]
  · intro a x
    simp (disch := omega) only [s_X2_withEntries_L13, ↓reduceIte, nI_lit, mO_lit, mO_lt, mO_le, mO_gt, mO_ge, mO_ne, mO_ne', nI_add, nI_mul, nI_addlit0, bsome, c_le_f, c_le_t, c_lt_f, c_lt_t, c_eq_f, c_eq_t, if_true, if_false, fld_n, fst_n]
/-- the buffer -/
def RepB (b : List Nat) (sz : Int32) (cs : Nat → Int32) : Prop := sz = nI b.length ∧ b.length ≤ 60 ∧ ∀ i, i < b.length → cs i = nI (b.getD i 0) ∧ 33 ≤ b.getD i 0 ∧ b.getD i 0 ≤ 126
theorem bat {b : List Nat} {sz : Int32} {cs : Nat → Int32} (h : RepB b sz cs) {i : Nat} (hi : i < b.length) : s_X1_at (nI i) sz cs = some (nI (b.getD i 0)) := by
  obtain ⟨h1, h2, h3⟩ := h
  subst h1
  simp (disch := omega) only [s_X1_at, ↓reduceIte, nI_lit, mO_lit, mO_lt, mO_le, mO_gt, mO_ge, mO_ne, mO_ne', nI_add, nI_mul, nI_addlit0, bsome, c_le_f, c_le_t, c_lt_f, c_lt_t, c_eq_f, c_eq_t, if_true, if_false, fld_n, fst_n, (h3 i hi).1]
theorem bat_o {b : List Nat} {sz : Int32} {cs : Nat → Int32} (h : RepB b sz cs) {i : Nat} (hi : b.length ≤ i) (h2 : i < 2147483648) : s_X1_at (nI i) sz cs = some mO := by
  obtain ⟨h1, h2, h3⟩ := h
  subst h1
  simp (disch := omega) only [s_X1_at, ↓reduceIte, nI_lit, mO_lit, mO_lt, mO_le, mO_gt, mO_ge, mO_ne, mO_ne', nI_add, nI_mul, nI_addlit0, bsome, c_le_f, c_le_t, c_lt_f, c_lt_t, c_eq_f, c_eq_t, if_true, if_false, fld_n, fst_n]
def hBu (b : List Nat) (z : Int64) : Int64 := it b.length (fun i => mx (nI (b.getD i 0))) (mx (nI b.length) z)
theorem dBu {b : List Nat} {sz : Int32} {cs : Nat → Int32} (h : RepB b sz cs) (z : Int64) : s_X2_withBuffer z sz cs = some (hBu b z) := by
  obtain ⟨h1, h2, h3⟩ := id h
  subst h1
  simp (disch := omega) only [s_X2_withBuffer, ↓reduceIte, nI_lit, mO_lit, mO_lt, mO_le, mO_gt, mO_ge, mO_ne, mO_ne', nI_add, nI_mul, nI_addlit0, bsome, c_le_f, c_le_t, c_lt_f, c_lt_t, c_eq_f, c_eq_t, if_true, if_false, fld_n, fst_n, s_X1_size]
  rw [lhash (fun a x i => s_X2_withBuffer_L15 (nI b.length) cs a x i) b.length (fun i => nI (b.getD i 0)) (by omega)]
  · rfl
  · intro a i x hi
    simp (disch := omega) only [s_X2_withBuffer_L15, ↓reduceIte, nI_lit, mO_lit, mO_lt, mO_le, mO_gt, mO_ge, mO_ne, mO_ne', nI_add, nI_mul, nI_addlit0, bsome, c_le_f, c_le_t, c_lt_f, c_lt_t, c_eq_f, c_eq_t, if_true, if_false, fld_n, fst_n, s_X1_size, bat h hi]
    rfl
  · intro a x
    simp (disch := omega) only [s_X2_withBuffer_L15, ↓reduceIte, nI_lit, mO_lit, mO_lt, mO_le, mO_gt, mO_ge, mO_ne, mO_ne', nI_add, nI_mul, nI_addlit0, bsome, c_le_f, c_le_t, c_lt_f, c_lt_t, c_eq_f, c_eq_t, if_true, if_false, fld_n, fst_n, s_X1_size]
