/-! the class: a belt as a text, its end; the buffer -/
def tt (g : Nat → aN) : Nat → Nat → Nat
  | 0, _ => 0
  | r + 1, n => (g n).length + 1 + tt g r (n + 1)
theorem td_eq (g : Nat → aN) : ∀ (r n j : Nat), tt g r n ≤ j + 1 → tdI g r n j = mO := by
  intro r
  induction r with
  | zero => intros; rfl
  | succ r ih =>
    intro n j h
    have h : (g n).length + 1 + tt g r (n + 1) ≤ j + 1 := h
    show (if j < (g n).length then cdI (rdN (gK (g n) j)) else if j = (g n).length then (if r = 0 then mO else nI 45) else tdI g r (n + 1) (j - ((g n).length + 1))) = mO
    rw [if_neg (by omega)]
    by_cases q : j = (g n).length
    · rw [if_pos q]
      have : r = 0 := by
        cases r with
        | zero => rfl
        | succ r =>
          have e : tt g (r + 1) (n + 1) = (g (n + 1)).length + 1 + tt g r (n + 1 + 1) := rfl
          omega
      rw [if_pos this]
    · rw [if_neg q]; exact ih (n + 1) _ (by omega)
theorem td_ne (g : Nat → aN) : ∀ (r n j : Nat), (∀ i, n ≤ i → i < n + r → ∀ k, k < (g i).length → rdN (gK (g i) k) ≤ 16) → j + 1 < tt g r n → tdI g r n j ≠ mO := by
  intro r
  induction r with
  | zero => intro n j _ h; exact absurd h (Nat.not_lt_zero _)
  | succ r ih =>
    intro n j hb h
    have h : j + 1 < (g n).length + 1 + tt g r (n + 1) := h
    show (if j < (g n).length then cdI (rdN (gK (g n) j)) else if j = (g n).length then (if r = 0 then mO else nI 45) else tdI g r (n + 1) (j - ((g n).length + 1))) ≠ mO
    by_cases q1 : j < (g n).length
    · rw [if_pos q1]
      have := hb n (by omega) (by omega) j q1
      unfold cdI
      by_cases q : rdN (gK (g n) j) = 16
      · rw [if_pos q]; decide
      · rw [if_neg q]; intro e; rw [mO_ne (by omega)] at e; exact e
    · rw [if_neg q1]
      by_cases q : j = (g n).length
      · rw [if_pos q]
        by_cases q3 : r = 0
        · subst q3; have e : tt g 0 (n + 1) = 0 := rfl; omega
        · rw [if_neg q3]; decide
      · rw [if_neg q]; exact ih (n + 1) _ (fun i h1 h2 => hb i (by omega) (by omega)) (by omega)
theorem tt_le (g : Nat → aN) : ∀ (r n : Nat), (∀ i, n ≤ i → i < n + r → (g i).length ≤ 8) → tt g r n ≤ r * 9 := by
  intro r
  induction r with
  | zero => intros; exact Nat.le_refl _
  | succ r ih =>
    intro n h
    have h1 := h n (by omega) (by omega)
    have h2 := ih (n + 1) (fun i a b => h i (by omega) (by omega))
    show (g n).length + 1 + tt g r (n + 1) ≤ _
    omega
def tdT (S : aS) (f : Nat) : Nat := tt (nm S f) (sB S f).length 0 - 1
def tdJ (S : aS) (f j : Nat) : Int32 := tdI (nm S f) (sB S f).length 0 j
theorem tdCJ {B f j : Nat} {S : aS} {c : Nat → Int32} (h : IC B S c) (hf : f < 5) (hj : j < 2147483648) : s_X8_codeOfBelt (nI f) (nI j) c = some (tdJ S f j) := tdC h hf hj
theorem tdT_le {B f : Nat} {S : aS} (h : OKS B S) (hf : f < 5) : tdT S f ≤ 53 := by
  have h1 := tt_le (nm S f) (sB S f).length 0 (fun i _ hi => ((h.2.1 f hf).2.2.2 i (by omega)).2.1)
  have h2 := (h.2.1 f hf).1
  unfold tdT; omega
theorem tdT_ne {B f j : Nat} {S : aS} (h : OKS B S) (hf : f < 5) (hj : j < tdT S f) : tdJ S f j ≠ mO :=
  td_ne (nm S f) _ 0 j (fun i _ hi k hk => rdN_le (((h.2.1 f hf).2.2.2 i (by omega)).2.2 k hk)) (by unfold tdT at hj; omega)
theorem tdT_eq (f : Nat) (S : aS) : tdJ S f (tdT S f) = mO := td_eq (nm S f) _ 0 _ (by unfold tdT; omega)
/-- the buffer -/
def RepB (b : List Nat) (sz : Int32) (cs : Nat → Int32) : Prop := sz = nI b.length ∧ b.length ≤ 60 ∧ ∀ i, i < b.length → cs i = nI (b.getD i 0) ∧ 33 ≤ b.getD i 0 ∧ b.getD i 0 ≤ 126
theorem bat {b : List Nat} {sz : Int32} {cs : Nat → Int32} (h : RepB b sz cs) {i : Nat} (hi : i < b.length) : s_X1_at (nI i) sz cs = some (nI (b.getD i 0)) := by
  obtain ⟨h1, h2, h3⟩ := h
  subst h1
  simp (disch := omega) only [s_X1_at, ↓reduceIte, nI_lit, mO_lit, mO_lt, mO_le, mO_gt, mO_ge, mO_ne, mO_ne', nI_add, nI_mul, nI_addlit0, bsome, c_le_f, c_le_t, c_lt_f, c_lt_t, c_eq_f, c_eq_t, if_true, if_false, fld_n, fst_n, (h3 i hi).1]
