/-! the shares as doubles: no NaN, each is itself -/
def DB (x : UInt64) (e t : Nat) : Prop := x.toNat = e * 4503599627370496 + t ∧ t < 4503599627370496 ∧ 1 ≤ e ∧ e ≤ 2045
theorem fq_min : FP.Core.b64.qmin = -1074 := by decide
theorem fq_max : FP.Core.b64.qmax = 971 := by decide
theorem fq_tl : FP.Core.b64.tails = 4503599627370496 := by decide
theorem fq_ex : FP.Core.b64.exps = 2048 := by decide
theorem fq_p : (2 : Nat) ^ FP.Core.b64.p = 9007199254740992 := by decide
theorem db_dec {x : UInt64} {e t : Nat} (h : DB x e t) : FP.Core.decode FP.Core.b64 x.toNat = .fin false (4503599627370496 + t) ((e : Int) - 1075) := by
  obtain ⟨h1, h2, h3, h4⟩ := h
  have hT : FP.Core.fieldT FP.Core.b64 x.toNat = t := by
    unfold FP.Core.fieldT; rw [fq_tl, h1]; omega
  have hE : FP.Core.fieldE FP.Core.b64 x.toNat = e := by
    unfold FP.Core.fieldE; rw [fq_tl, fq_ex, h1]; omega
  have hS : FP.Core.fieldS FP.Core.b64 x.toNat = false := by
    unfold FP.Core.fieldS; rw [fq_tl, fq_ex, h1]
    have : (e * 4503599627370496 + t) / 4503599627370496 / 2048 % 2 = 0 := by omega
    rw [this]; rfl
  unfold FP.Core.decode
  rw [hT, hE, hS, fq_ex, fq_tl, fq_min, if_neg (by omega), if_neg (by omega)]
  congr 1
  omega
theorem fnn_ok {β : Type} {x : UInt64} {g : UInt64 → Option β} (h : x &&& 0x7fffffffffffffff ≤ 0x7ff0000000000000) : fnn x g = g x := if_pos h
theorem cmpZ (a b : Int) : compare a b = if a < b then Ordering.lt else if a = b then .eq else .gt := rfl
/-- the shares, each pair, by the kernel's machine -/
def fpQ (a n : Nat) : UInt64 := FP.ddiv (FP.i2d (nI a)) (FP.i2d (nI n))
def fpR (a n : Nat) : Bool := decide (0x3F70000000000000 ≤ fpQ a n) && decide (fpQ a n ≤ 0x3FF0000000000000)


set_option maxRecDepth 100000 in
theorem fp_z : ∀ n, n < 240 → fpQ 0 (n + 1) = 0 := by decide +kernel
set_option maxRecDepth 100000 in
theorem fp_r1 : ∀ n, n < 120 → ∀ a, a < n + 1 → fpR (a + 1) (n + 1) = true := by decide +kernel
set_option maxRecDepth 100000 in
theorem fp_r2 : ∀ n, n < 60 → ∀ a, a < n + 121 → fpR (a + 1) (n + 121) = true := by decide +kernel
set_option maxRecDepth 100000 in
theorem fp_r3 : ∀ n, n < 60 → ∀ a, a < n + 181 → fpR (a + 1) (n + 181) = true := by decide +kernel
theorem fp_r {a n : Nat} (h1 : a < n) (h2 : n ≤ 240) : fpR (a + 1) n = true := by
  rcases Nat.lt_or_ge n 121 with h | h
  · have := fp_r1 (n - 1) (by omega) a (by omega)
    rw [show n - 1 + 1 = n from by omega] at this; exact this
  · rcases Nat.lt_or_ge n 181 with h | h
    · have := fp_r2 (n - 121) (by omega) a (by omega)
      rw [show n - 121 + 121 = n from by omega] at this; exact this
    · have := fp_r3 (n - 181) (by omega) a (by omega)
      rw [show n - 181 + 181 = n from by omega] at this; exact this

theorem db_self {x : UInt64} {e t : Nat} (h : DB x e t) : FP.dcmp x x = some .eq := by
  have d1 := db_dec h
  have e1 : FP.dcmp x x = FP.Core.order (FP.Core.decode FP.Core.b64 x.toNat) (FP.Core.decode FP.Core.b64 x.toNat) := rfl
  have e2 : ∀ A : Int, compare A A = Ordering.eq := fun A => by rw [cmpZ, if_neg (by omega), if_pos rfl]
  rw [e1, d1]
  exact congrArg some (e2 _)
theorem fp_ok {a n : Nat} (h0 : 0 < n) (h1 : a ≤ n) (h2 : n ≤ 240) : fpQ a n &&& 0x7fffffffffffffff ≤ 0x7ff0000000000000 ∧ FP.dcmp (fpQ a n) (fpQ a n) = some .eq := by
  cases a with
  | zero =>
    have e := fp_z (n - 1) (by omega)
    rw [show n - 1 + 1 = n from by omega] at e
    rw [e]
    exact ⟨by decide, by decide +kernel⟩
  | succ a =>
    have h := fp_r h1 h2
    unfold fpR at h
    rw [Bool.and_eq_true] at h
    have q1 := UInt64.le_iff_toNat_le.mp (of_decide_eq_true h.1)
    have q2 := UInt64.le_iff_toNat_le.mp (of_decide_eq_true h.2)
    have l1 : (0x3F70000000000000 : UInt64).toNat = 4571153621781053440 := by decide
    have l2 : (0x3FF0000000000000 : UInt64).toNat = 4607182418800017408 := by decide
    rw [l1] at q1
    rw [l2] at q2
    have hd : DB (fpQ (a + 1) n) ((fpQ (a + 1) n).toNat / 4503599627370496) ((fpQ (a + 1) n).toNat % 4503599627370496) := ⟨by omega, by omega, by omega, by omega⟩
    refine ⟨?_, db_self hd⟩
    rw [UInt64.le_iff_toNat_le, UInt64.toNat_and]
    have h5 := Nat.and_le_left (n := (fpQ (a + 1) n).toNat) (m := (0x7fffffffffffffff : UInt64).toNat)
    have h6 : (0x7ff0000000000000 : UInt64).toNat = 9218868437227405312 := by decide
    omega
