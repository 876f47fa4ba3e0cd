/-! the shares, each pair, by the kernel's machine -/
set_option maxRecDepth 100000 in
theorem fp_z : ∀ n, n < 240 → fpQ 0 (n + 1) = 0 := by decide +kernel
set_option maxRecDepth 100000 in
theorem fp_r1 : ∀ n, n < 120 → ∀ a, a < n + 1 → fpR (a + 1) (n + 1) = true := by decide +kernel
set_option maxRecDepth 100000 in
theorem fp_r2 : ∀ n, n < 60 → ∀ a, a < n + 121 → fpR (a + 1) (n + 121) = true := by decide +kernel
set_option maxRecDepth 100000 in
theorem fp_r3 : ∀ n, n < 60 → ∀ a, a < n + 181 → fpR (a + 1) (n + 181) = true := by decide +kernel
theorem fp_r {a n : Nat} (h1 : a < n) (h2 : n ≤ 240) : fpR (a + 1) n = true := by
  rcases Nat.lt_or_ge n 121 with h | h
  · have := fp_r1 (n - 1) (by omega) a (by omega)
    rw [show n - 1 + 1 = n from by omega] at this; exact this
  · rcases Nat.lt_or_ge n 181 with h | h
    · have := fp_r2 (n - 121) (by omega) a (by omega)
      rw [show n - 121 + 121 = n from by omega] at this; exact this
    · have := fp_r3 (n - 181) (by omega) a (by omega)
      rw [show n - 181 + 181 = n from by omega] at this; exact this
theorem fp_all {a n : Nat} (h0 : 0 < n) (h1 : a ≤ n) (h2 : n ≤ 240) : fpQ a n &&& 0x7fffffffffffffff ≤ 0x7ff0000000000000 ∧ ∃ b, s_X2_bitsOfShare (fpQ a n) = some b ∧ s_X11_bitsOf (fpQ a n) = some b := by
  cases a with
  | zero =>
    have e := fp_z (n - 1) (by omega)
    rw [show n - 1 + 1 = n from by omega] at e
    rw [e]
    exact ⟨by decide, 0, fp_zero⟩
  | succ a =>
    have h := fp_r h1 h2
    unfold fpR at h
    rw [Bool.and_eq_true] at h
    have q1 := UInt64.le_iff_toNat_le.mp (of_decide_eq_true h.1)
    have q2 := UInt64.le_iff_toNat_le.mp (of_decide_eq_true h.2)
    have l1 : (0x3F70000000000000 : UInt64).toNat = 4571153621781053440 := by decide
    have l2 : (0x3FF0000000000000 : UInt64).toNat = 4607182418800017408 := by decide
    rw [l1] at q1
    rw [l2] at q2
    have hd : DB (fpQ (a + 1) n) ((fpQ (a + 1) n).toNat / 4503599627370496) ((fpQ (a + 1) n).toNat % 4503599627370496) := ⟨by omega, by omega, by omega, by omega⟩
    exact ⟨db_nn hd, fp_main hd (by omega) (by omega)⟩
