/-! THE PARSER, abstract: patterns, how far a part matches, where the text stops -/
def ptn (p : Nat) : List Nat := if p = 1 then [116, 105, 101, 70, 58, 76, 76, 76, 76, 76, 76, 76, 76] else if p = 2 then [115, 116, 111, 114, 109, 70] else if p = 3 then [103, 105, 118, 101, 70, 47, 78, 62, 70] else if p = 4 then [102, 97, 115, 116, 70, 47, 78] else if p = 5 then [99, 117, 116, 70, 47, 78] else []
def pOf (x : Nat) : Nat := if x = 99 then 5 else if x = 102 then 4 else if x = 103 then 3 else if x = 115 then 2 else if x = 116 then 1 else 0
def fitB (s x : Nat) : Bool := if s = 70 then decide (48 ≤ x) && decide (x ≤ 52) else if s = 76 then ltB x else if s = 78 then decide (48 ≤ x) && decide (x ≤ 53) else decide (x = s)
def gB (b : List Nat) (i : Nat) : Nat := b.getD i 0
def tkB (b : List Nat) (s i : Nat) : Bool := decide (i < b.length) && fitB s (gB b i)
def mtN (b : List Nat) : List Nat → Nat → Nat
  | [], _ => 0
  | s :: r, i => if tkB b s i = true then mtN b r (i + 1) + 1 else 0
def mE (p k : Nat) : Bool := decide (1 ≤ k) && (decide (k ≤ (ptn p).length) && (decide (k = (ptn p).length) || decide ((ptn p).getD (k - 1) 0 = 76)))
def qP (b : List Nat) (i : Nat) : Nat := if i < b.length then pOf (gB b i) else 0
def qM (b : List Nat) (i : Nat) : Nat := mtN b (ptn (qP b i)) i
def qE (b : List Nat) (i : Nat) : Nat := i + qM b i
def qO (b : List Nat) (i : Nat) : Bool := mE (qP b i) (qM b i)
def scn (b : List Nat) : Nat → Nat → Bool × Nat
  | 0, i => (false, i)
  | n + 1, i => if qO b i = true then (if qE b i = b.length then (true, b.length) else if gB b (qE b i) = 59 then scn b n (qE b i + 1) else (false, qE b i)) else (false, qE b i)
theorem mtN_le (b : List Nat) : ∀ (l : List Nat) (i : Nat), mtN b l i ≤ l.length := by
  intro l
  induction l with
  | nil => intro i; exact Nat.le_refl 0
  | cons s r ih =>
    intro i
    show (if tkB b s i = true then mtN b r (i + 1) + 1 else 0) ≤ r.length + 1
    by_cases h : tkB b s i = true
    · rw [if_pos h]; have := ih (i + 1); omega
    · rw [if_neg h]; omega
theorem tkB_lt {b : List Nat} {s i : Nat} (h : tkB b s i = true) : i < b.length ∧ fitB s (gB b i) = true := by
  unfold tkB at h
  rw [Bool.and_eq_true] at h
  exact ⟨of_decide_eq_true h.1, h.2⟩
theorem mtN_fit (b : List Nat) : ∀ (l : List Nat) (i k : Nat), k < mtN b l i → tkB b (l.getD k 0) (i + k) = true := by
  intro l
  induction l with
  | nil => intro i k h; exact absurd h (Nat.not_lt_zero k)
  | cons s r ih =>
    intro i k h
    have h : k < (if tkB b s i = true then mtN b r (i + 1) + 1 else 0) := h
    by_cases q : tkB b s i = true
    · rw [if_pos q] at h
      cases k with
      | zero => exact q
      | succ k =>
        have := ih (i + 1) k (by omega)
        rw [show i + 1 + k = i + (k + 1) from by omega] at this
        exact this
    · rw [if_neg q] at h; exact absurd h (Nat.not_lt_zero k)
theorem mtN_stop (b : List Nat) : ∀ (l : List Nat) (i : Nat), mtN b l i < l.length → tkB b (l.getD (mtN b l i) 0) (i + mtN b l i) = false := by
  intro l
  induction l with
  | nil => intro i h; exact absurd h (Nat.not_lt_zero _)
  | cons s r ih =>
    intro i h
    have e : mtN b (s :: r) i = if tkB b s i = true then mtN b r (i + 1) + 1 else 0 := rfl
    by_cases q : tkB b s i = true
    · rw [if_pos q] at e
      rw [e] at h ⊢
      have := ih (i + 1) (by simp at h; omega)
      rw [show i + 1 + mtN b r (i + 1) = i + (mtN b r (i + 1) + 1) from by omega] at this
      exact this
    · rw [if_neg q] at e
      rw [e]
      cases hq : tkB b s i with
      | true => exact absurd hq q
      | false => exact hq
theorem mtN_len (b : List Nat) (l : List Nat) (i : Nat) (h : i ≤ b.length) : i + mtN b l i ≤ b.length := by
  rcases Nat.eq_zero_or_pos (mtN b l i) with q | q
  · omega
  · have := (tkB_lt (mtN_fit b l i (mtN b l i - 1) (by omega))).1
    omega
theorem pOf_le (x : Nat) : pOf x < 6 := by
  unfold pOf
  by_cases h1 : x = 99
  · rw [if_pos h1]; omega
  · by_cases h2 : x = 102
    · rw [if_neg h1, if_pos h2]; omega
    · by_cases h3 : x = 103
      · rw [if_neg h1, if_neg h2, if_pos h3]; omega
      · by_cases h4 : x = 115
        · rw [if_neg h1, if_neg h2, if_neg h3, if_pos h4]; omega
        · by_cases h5 : x = 116
          · rw [if_neg h1, if_neg h2, if_neg h3, if_neg h4, if_pos h5]; omega
          · rw [if_neg h1, if_neg h2, if_neg h3, if_neg h4, if_neg h5]; omega
theorem qP_lt (b : List Nat) (i : Nat) : qP b i < 6 := by
  unfold qP
  by_cases h : i < b.length
  · rw [if_pos h]; exact pOf_le _
  · rw [if_neg h]; omega
theorem ptn_len : ∀ p, p < 6 → (ptn p).length ≤ 13 := by decide
theorem ptn_59 : ∀ p, p < 6 → ∀ k, k < (ptn p).length → fitB ((ptn p).getD k 0) 59 = false := by decide
theorem pOf_hd : ∀ x, x < 127 → pOf x ≠ 0 → 0 < (ptn (pOf x)).length ∧ fitB ((ptn (pOf x)).getD 0 0) x = true := by decide
theorem mE_0 (p : Nat) : mE p 0 = false := rfl
theorem qM_pos {b : List Nat} {i : Nat} (hi : i < b.length) (h127 : gB b i < 127) (h : pOf (gB b i) ≠ 0) : 1 ≤ qM b i := by
  obtain ⟨h1, h2⟩ := pOf_hd _ h127 h
  unfold qM qP
  rw [if_pos hi]
  rcases Nat.eq_zero_or_pos (mtN b (ptn (pOf (gB b i))) i) with q | q
  · have := mtN_stop b (ptn (pOf (gB b i))) i (by rw [q]; exact h1)
    rw [q, Nat.add_zero] at this
    unfold tkB at this
    rw [decide_eq_true hi, h2] at this
    cases this
  · exact q
theorem qE_le {b : List Nat} {i : Nat} (h : i ≤ b.length) : qE b i ≤ b.length := mtN_len b _ i h
theorem qO_pos {b : List Nat} {i : Nat} (h : qO b i = true) : 1 ≤ qM b i := by
  unfold qO mE at h
  rw [Bool.and_eq_true] at h
  exact of_decide_eq_true h.1
/-- no part has a ";" in it -/
theorem q59 {b : List Nat} {i j : Nat} (h1 : i ≤ j) (h2 : j < qE b i) : gB b j ≠ 59 := by
  intro e
  have hk : j - i < qM b i := by unfold qE at h2; omega
  have h3 := tkB_lt (mtN_fit b (ptn (qP b i)) i (j - i) hk)
  rw [show i + (j - i) = j from by omega, e] at h3
  have h4 := ptn_59 (qP b i) (qP_lt b i) (j - i) (Nat.lt_of_lt_of_le hk (mtN_le b _ i))
  rw [h3.2] at h4
  cases h4
