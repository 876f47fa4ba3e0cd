/-! the bits of a share: doubles from 2^-8 to 1 -/
def DB (x : UInt64) (e t : Nat) : Prop := x.toNat = e * 4503599627370496 + t ∧ t < 4503599627370496 ∧ 1 ≤ e ∧ e ≤ 2045
theorem fq_min : FP.Core.b64.qmin = -1074 := by decide
theorem fq_max : FP.Core.b64.qmax = 971 := by decide
theorem fq_tl : FP.Core.b64.tails = 4503599627370496 := by decide
theorem fq_ex : FP.Core.b64.exps = 2048 := by decide
theorem fq_p : (2 : Nat) ^ FP.Core.b64.p = 9007199254740992 := by decide
theorem db_dec {x : UInt64} {e t : Nat} (h : DB x e t) : FP.Core.decode FP.Core.b64 x.toNat = .fin false (4503599627370496 + t) ((e : Int) - 1075) := by
  obtain ⟨h1, h2, h3, h4⟩ := h
  have hT : FP.Core.fieldT FP.Core.b64 x.toNat = t := by
    unfold FP.Core.fieldT; rw [fq_tl, h1]; omega
  have hE : FP.Core.fieldE FP.Core.b64 x.toNat = e := by
    unfold FP.Core.fieldE; rw [fq_tl, fq_ex, h1]; omega
  have hS : FP.Core.fieldS FP.Core.b64 x.toNat = false := by
    unfold FP.Core.fieldS; rw [fq_tl, fq_ex, h1]
    have : (e * 4503599627370496 + t) / 4503599627370496 / 2048 % 2 = 0 := by omega
    rw [this]; rfl
  unfold FP.Core.decode
  rw [hT, hE, hS, fq_ex, fq_tl, fq_min, if_neg (by omega), if_neg (by omega)]
  congr 1
  omega
theorem db_enc {c e : Nat} (h1 : 4503599627370496 ≤ c) (h2 : c < 9007199254740992) (h3 : 1 ≤ e) (h4 : e ≤ 2045) {q : Int} (hq : q = (e : Int) - 1075) : DB (UInt64.ofNat (FP.Core.encode FP.Core.b64 (.fin false c q))) e (c - 4503599627370496) := by
  have he : FP.Core.encode FP.Core.b64 (.fin false c q) = e * 4503599627370496 + (c - 4503599627370496) := by
    show (if c < FP.Core.b64.tails then FP.Core.assemble FP.Core.b64 false 0 c else FP.Core.assemble FP.Core.b64 false ((q - FP.Core.b64.qmin).toNat + 1) (c - FP.Core.b64.tails)) = _
    rw [fq_tl, if_neg (by omega), fq_min]
    unfold FP.Core.assemble
    rw [fq_tl, fq_ex]
    have e1 : (q - -1074).toNat + 1 = e := by omega
    rw [e1]
    show (0 * 2048 + e) * 4503599627370496 + (c - 4503599627370496) = _
    omega
  refine ⟨?_, by omega, h3, h4⟩
  rw [he, UInt64.toNat_ofNat']
  omega
theorem lg2 {A k : Nat} (h1 : 2 ^ k ≤ A) (h2 : A < 2 ^ (k + 1)) : A.log2 = k := by
  have h0 : A ≠ 0 := by have := Nat.two_pow_pos k; omega
  have a1 := Nat.log2_self_le h0
  have a2 : A < 2 ^ (A.log2 + 1) := Nat.lt_log2_self
  rcases Nat.lt_trichotomy A.log2 k with h | h | h
  · have := Nat.pow_le_pow_right (n := 2) (by omega) (show A.log2 + 1 ≤ k from h); omega
  · exact h
  · have := Nat.pow_le_pow_right (n := 2) (by omega) (show k + 1 ≤ A.log2 from h); omega
theorem ldg {A k : Nat} (h1 : 2 ^ k ≤ A) (h2 : A < 2 ^ (k + 1)) : FP.Core.leading A 1 = k := by
  have e1 := lg2 h1 h2
  have e2 : Nat.log2 1 = 0 := by decide
  unfold FP.Core.leading
  rw [e1, e2]
  have e3 : ((k : Int) - ((0 : Nat) : Int)).toNat = k := by omega
  have e4 : (-((k : Int) - ((0 : Nat) : Int))).toNat = 0 := by omega
  show (if 1 * 2 ^ ((k : Int) - ((0 : Nat) : Int)).toNat ≤ A * 2 ^ (-((k : Int) - ((0 : Nat) : Int))).toNat then (k : Int) - ((0 : Nat) : Int) else (k : Int) - ((0 : Nat) : Int) - 1) = k
  rw [e3, e4, if_pos (by omega)]
  omega
theorem nst (M B : Nat) (hB : 0 < B) : FP.Core.nearest (M * B) B = M := by
  unfold FP.Core.nearest
  rw [Nat.mul_mod_left, if_pos (by omega), Nat.mul_div_cancel _ hB]
theorem rr1 {c : Nat} (h1 : 4503599627370496 ≤ c) (h2 : c < 9007199254740992) {Q : Int} (h3 : -1126 ≤ Q) (h4 : Q ≤ 919) : FP.Core.roundRatio FP.Core.b64 false (c * 4503599627370496) 1 Q = .fin false c (Q + 52) := by
  unfold FP.Core.roundRatio
  rw [if_neg (by omega)]
  have hq : FP.Core.quantum FP.Core.b64 (c * 4503599627370496) 1 Q = Q + 52 := by
    unfold FP.Core.quantum
    rw [ldg (k := 104) (by omega) (by omega), fq_min]
    show max (-1074 : Int) (((104 : Nat) : Int) + Q - (((53 : Nat) : Int) - 1)) = Q + 52
    omega
  rw [hq]
  unfold FP.Core.roundAt FP.Core.unitsNum FP.Core.unitsDen
  have e1 : (Q - (Q + 52)).toNat = 0 := by omega
  have e2 : (Q + 52 - Q).toNat = 52 := by omega
  rw [e1, e2, Nat.pow_zero, Nat.mul_one, Nat.one_mul, show (2 : Nat) ^ 52 = 4503599627370496 from rfl, nst _ _ (by omega)]
  unfold FP.Core.settle FP.Core.bound
  rw [fq_p, if_pos h2, fq_max, if_pos (by omega)]
theorem rr2 {A k : Nat} (h1 : 2 ^ k ≤ A) (h2 : A < 2 ^ (k + 1)) (hk : k ≤ 52) : FP.Core.roundRatio FP.Core.b64 false A 1 (-52) = .fin false (A * 2 ^ (52 - k)) ((k : Int) - 104) := by
  have hp := Nat.two_pow_pos k
  unfold FP.Core.roundRatio
  rw [if_neg (by omega)]
  have hq : FP.Core.quantum FP.Core.b64 A 1 (-52) = (k : Int) - 104 := by
    unfold FP.Core.quantum
    rw [ldg h1 h2, fq_min]
    show max (-1074 : Int) ((k : Int) + -52 - (((53 : Nat) : Int) - 1)) = (k : Int) - 104
    omega
  rw [hq]
  unfold FP.Core.roundAt FP.Core.unitsNum FP.Core.unitsDen
  have e1 : (-52 - ((k : Int) - 104)).toNat = 52 - k := by omega
  have e2 : ((k : Int) - 104 - -52).toNat = 0 := by omega
  have h3 : A * 2 ^ (52 - k) < 9007199254740992 := by
    have := Nat.mul_lt_mul_of_pos_right h2 (Nat.two_pow_pos (52 - k))
    rw [← Nat.pow_add, show k + 1 + (52 - k) = 53 from by omega] at this
    exact this
  have h4 := nst (A * 2 ^ (52 - k)) 1 (by omega)
  rw [Nat.mul_one] at h4
  rw [e1, e2, Nat.pow_zero, Nat.mul_one, h4]
  unfold FP.Core.settle FP.Core.bound
  rw [fq_p, if_pos h3, fq_max, if_pos (by omega)]
theorem db_mul {x y : UInt64} {e t r : Nat} (h : DB x e t) (hy : DB y r 0) (h1 : 1024 ≤ e + r) (h2 : e + r ≤ 3068) : DB (FP.dmul x y) (e + r - 1023) t := by
  have d1 := db_dec h
  have d2 := db_dec hy
  have ht := h.2.1
  have e1 : FP.dmul x y = UInt64.ofNat (FP.Core.encode FP.Core.b64 (FP.Core.round FP.Core.b64 (FP.Core.exactProduct (FP.Core.decode FP.Core.b64 x.toNat) (FP.Core.decode FP.Core.b64 y.toNat)))) := rfl
  have e2 : FP.Core.round FP.Core.b64 (FP.Core.exactProduct (.fin false (4503599627370496 + t) ((e : Int) - 1075)) (.fin false (4503599627370496 + 0) ((r : Int) - 1075))) = .fin false (4503599627370496 + t) ((e : Int) - 1075 + ((r : Int) - 1075) + 52) :=
    rr1 (c := 4503599627370496 + t) (by omega) (by omega) (by omega) (by omega)
  rw [e1, d1, d2, e2]
  have := db_enc (c := 4503599627370496 + t) (e := e + r - 1023) (q := (e : Int) - 1075 + ((r : Int) - 1075) + 52) (by omega) (by omega) (by omega) (by omega) (by omega)
  rw [show 4503599627370496 + t - 4503599627370496 = t from by omega] at this
  exact this
theorem db_nn {x : UInt64} {e t : Nat} (h : DB x e t) : x &&& 0x7fffffffffffffff ≤ 0x7ff0000000000000 := by
  obtain ⟨h1, h2, h3, h4⟩ := h
  rw [UInt64.le_iff_toNat_le, UInt64.toNat_and]
  have h5 := Nat.and_le_left (n := x.toNat) (m := (0x7fffffffffffffff : UInt64).toNat)
  have h6 : (0x7ff0000000000000 : UInt64).toNat = 9218868437227405312 := by decide
  omega
theorem fnn_ok {β : Type} {x : UInt64} {g : UInt64 → Option β} (h : x &&& 0x7fffffffffffffff ≤ 0x7ff0000000000000) : fnn x g = g x := if_pos h
theorem cmpZ (a b : Int) : compare a b = if a < b then Ordering.lt else if a = b then .eq else .gt := rfl
theorem db_1 : DB FP.dconst1 1023 0 := by unfold DB; decide
theorem db_2 : DB 4611686018427387904 1024 0 := by unfold DB; decide
theorem db_52 : DB 4841369599423283200 1075 0 := by unfold DB; decide
theorem db_lt {x : UInt64} {e t : Nat} (h : DB x e t) (h1 : e < 1023) : FP.dcmp x FP.dconst1 = some .lt := by
  have d1 := db_dec h
  have d2 := db_dec db_1
  have ht := h.2.1
  have e1 : FP.dcmp x FP.dconst1 = FP.Core.order (FP.Core.decode FP.Core.b64 x.toNat) (FP.Core.decode FP.Core.b64 FP.dconst1.toNat) := rfl
  rw [e1, d1, d2]
  have hm : min ((e : Int) - 1075) (((1023 : Nat) : Int) - 1075) = (e : Int) - 1075 := by omega
  show some (compare (((4503599627370496 + t) * 2 ^ ((e : Int) - 1075 - min ((e : Int) - 1075) (((1023 : Nat) : Int) - 1075)).toNat : Nat) : Int) (((4503599627370496 + 0) * 2 ^ (((1023 : Nat) : Int) - 1075 - min ((e : Int) - 1075) (((1023 : Nat) : Int) - 1075)).toNat : Nat) : Int)) = some .lt
  rw [hm, show ((e : Int) - 1075 - ((e : Int) - 1075)).toNat = 0 from by omega, show (((1023 : Nat) : Int) - 1075 - ((e : Int) - 1075)).toNat = 1023 - e from by omega, cmpZ, if_pos]
  have hp := Nat.pow_le_pow_right (n := 2) (by omega) (show 1 ≤ 1023 - e by omega)
  generalize 2 ^ (1023 - e) = P at *
  omega
theorem db_ge {x : UInt64} {t : Nat} (h : DB x 1023 t) : FP.dcmp x FP.dconst1 = some .eq ∨ FP.dcmp x FP.dconst1 = some .gt := by
  have d1 := db_dec h
  have d2 := db_dec db_1
  have e1 : FP.dcmp x FP.dconst1 = FP.Core.order (FP.Core.decode FP.Core.b64 x.toNat) (FP.Core.decode FP.Core.b64 FP.dconst1.toNat) := rfl
  rw [e1, d1, d2]
  have e2 : FP.Core.order (.fin false (4503599627370496 + t) (((1023 : Nat) : Int) - 1075)) (.fin false (4503599627370496 + 0) (((1023 : Nat) : Int) - 1075)) = some (compare ((4503599627370496 + t : Nat) : Int) ((4503599627370496 : Nat) : Int)) := by
    show some (compare (((4503599627370496 + t) * 2 ^ 0 : Nat) : Int) (((4503599627370496 + 0) * 2 ^ 0 : Nat) : Int)) = _
    rw [Nat.pow_zero, Nat.mul_one, Nat.mul_one, Nat.add_zero]
  rw [e2, cmpZ, if_neg (by omega)]
  by_cases q : ((4503599627370496 + t : Nat) : Int) = ((4503599627370496 : Nat) : Int)
  · rw [if_pos q]; exact Or.inl rfl
  · rw [if_neg q]; exact Or.inr rfl
theorem db_gt0 {x : UInt64} {e t : Nat} (h : DB x e t) : FP.dcmp x FP.dconst0 = some .gt := by
  have d1 := db_dec h
  have d2 : FP.Core.decode FP.Core.b64 FP.dconst0.toNat = .fin false 0 (-1074) := by decide
  have ht := h.2.2.1
  have e1 : FP.dcmp x FP.dconst0 = FP.Core.order (FP.Core.decode FP.Core.b64 x.toNat) (FP.Core.decode FP.Core.b64 FP.dconst0.toNat) := rfl
  rw [e1, d1, d2]
  show some (compare (((4503599627370496 + t) * 2 ^ ((e : Int) - 1075 - min ((e : Int) - 1075) (-1074)).toNat : Nat) : Int) ((0 * 2 ^ ((-1074 : Int) - min ((e : Int) - 1075) (-1074)).toNat : Nat) : Int)) = some .gt
  have hp := Nat.two_pow_pos ((e : Int) - 1075 - min ((e : Int) - 1075) (-1074)).toNat
  generalize 2 ^ ((e : Int) - 1075 - min ((e : Int) - 1075) (-1074)).toNat = P at *
  have hP : 0 < (4503599627370496 + t) * P := Nat.mul_pos (by omega) hp
  rw [Nat.zero_mul, cmpZ, if_neg (by omega), if_neg (by omega)]
/-- what is behind the leading 1 -/
theorem db_sub {x : UInt64} {t : Nat} (h : DB x 1023 t) : FP.dsub x FP.dconst1 &&& 0x7fffffffffffffff ≤ 0x7ff0000000000000 ∧ FP.dmul (FP.dsub x FP.dconst1) 4841369599423283200 &&& 0x7fffffffffffffff ≤ 0x7ff0000000000000 := by
  have d1 := db_dec h
  have d2 := db_dec db_1
  have ht := h.2.1
  have e1 : FP.dsub x FP.dconst1 = UInt64.ofNat (FP.Core.encode FP.Core.b64 (FP.Core.round FP.Core.b64 (FP.Core.exactSum (FP.Core.decode FP.Core.b64 x.toNat) (FP.Core.negate (FP.Core.decode FP.Core.b64 FP.dconst1.toNat))))) := rfl
  have e2 : FP.Core.exactSum (.fin false (4503599627370496 + t) (((1023 : Nat) : Int) - 1075)) (FP.Core.negate (.fin false (4503599627370496 + 0) (((1023 : Nat) : Int) - 1075))) = .fin false t (-52) := by
    have s1 : FP.Core.sumUnits false (4503599627370496 + t) (-52) true (4503599627370496 + 0) (-52) (-52) = (t : Int) := by
      show (((4503599627370496 + t) * 2 ^ 0 : Nat) : Int) + -(((4503599627370496 + 0) * 2 ^ 0 : Nat) : Int) = (t : Int)
      rw [Nat.pow_zero]; omega
    show FP.Core.Datum.fin (FP.Core.sumSign false true (FP.Core.sumUnits false (4503599627370496 + t) (-52) true (4503599627370496 + 0) (-52) (-52))) (FP.Core.sumUnits false (4503599627370496 + t) (-52) true (4503599627370496 + 0) (-52) (-52)).natAbs (-52) = _
    rw [s1]
    have s2 : FP.Core.sumSign false true (t : Int) = false := by
      unfold FP.Core.sumSign
      by_cases q : (t : Int) = 0
      · rw [if_pos q]; rfl
      · rw [if_neg q, decide_eq_false (by omega)]
    rw [s2]; rfl
  rw [d1, d2, e2] at e1
  by_cases q : t = 0
  · subst q
    have e3 : FP.dsub x FP.dconst1 = 0 := by rw [e1]; decide
    rw [e3]
    decide +kernel
  · obtain ⟨k, hk1, hk2⟩ : ∃ k, 2 ^ k ≤ t ∧ t < 2 ^ (k + 1) := ⟨t.log2, Nat.log2_self_le q, Nat.lt_log2_self⟩
    have hk : k ≤ 51 := by
      rcases Nat.lt_or_ge k 52 with h | h
      · omega
      · have := Nat.pow_le_pow_right (n := 2) (by omega) h
        have e5 : (2 : Nat) ^ 52 = 4503599627370496 := rfl
        omega
    have e3 : FP.Core.round FP.Core.b64 (.fin false t (-52)) = .fin false (t * 2 ^ (52 - k)) ((k : Int) - 104) := rr2 hk1 hk2 (by omega)
    rw [e3] at e1
    have h3 : t * 2 ^ (52 - k) < 9007199254740992 := by
      have := Nat.mul_lt_mul_of_pos_right hk2 (Nat.two_pow_pos (52 - k))
      rw [← Nat.pow_add, show k + 1 + (52 - k) = 53 from by omega] at this
      exact this
    have h4 : 4503599627370496 ≤ t * 2 ^ (52 - k) := by
      have := Nat.mul_le_mul_right (2 ^ (52 - k)) hk1
      rw [← Nat.pow_add, show k + (52 - k) = 52 from by omega] at this
      exact this
    have hd := db_enc (e := k + 971) (q := (k : Int) - 104) h4 h3 (by omega) (by omega) (by omega)
    rw [← e1] at hd
    exact ⟨db_nn hd, db_nn (db_mul hd db_52 (by omega) (by omega))⟩
/-- both loops -/
def pI (k : Nat) : Int64 := Int64.ofNat (1023 - k)
theorem pI_s : ∀ k, k < 32 → pI k - 1 = pI (k + 1) := by decide +kernel
theorem pI_c : ∀ k, k < 32 → ¬ (lg_cmp (pI k) 1 ≤ 0) := by decide +kernel
theorem pI_m : ∀ k, k < 32 → pI k <<< (Int32.toInt64 52 &&& 63) = pI k * 4503599627370496 := by decide +kernel
theorem fpLo : ∀ (j : Nat) (x : UInt64) (t k n : Nat), DB x (1023 - j) t → j ≤ 20 → k + j ≤ 25 → j < n → ∃ y, DB y 1023 t ∧ s_X2_bitsOfShare_L15 n x (pI k) = some (y, pI (k + j)) ∧ s_X11_bitsOf_L15 n (pI k) x = some (pI (k + j), y) := by
  intro j
  induction j with
  | zero =>
    intro x t k n h h1 h2 h3
    obtain ⟨n, rfl⟩ : ∃ m, n = m + 1 := ⟨n - 1, by omega⟩
    have hc : (0 : Int32) ≤ cmpValue (FP.dcmp x FP.dconst1) .g := by
      rcases db_ge h with e | e <;> rw [e] <;> decide
    refine ⟨x, h, ?_, ?_⟩
    · show (if _ then _ else _) = _
      rw [if_pos hc]; rfl
    · show (if _ then _ else _) = _
      rw [if_pos hc]; rfl
  | succ j ih =>
    intro x t k n h h1 h2 h3
    obtain ⟨n, rfl⟩ : ∃ m, n = m + 1 := ⟨n - 1, by omega⟩
    have hc : ¬ (0 : Int32) ≤ cmpValue (FP.dcmp x FP.dconst1) .g := by
      rw [db_lt h (by omega)]; decide
    have hm := db_mul h db_2 (by omega) (by omega)
    rw [show 1023 - (j + 1) + 1024 - 1023 = 1023 - j from by omega] at hm
    obtain ⟨y, y1, y2, y3⟩ := ih (FP.dmul x 4611686018427387904) t (k + 1) n hm (by omega) (by omega) (by omega)
    rw [show k + 1 + j = k + (j + 1) from by omega] at y2 y3
    refine ⟨y, y1, ?_, ?_⟩
    · show (if _ then _ else (if _ then _ else fnn _ (fun v1 => s_X2_bitsOfShare_L15 n v1 (pI k - 1)))) = _
      rw [if_neg hc, if_neg (pI_c k (by omega)), fnn_ok (db_nn hm), pI_s k (by omega)]
      exact y2
    · show (if _ then _ else fnn _ (fun v1 => s_X11_bitsOf_L15 n (pI k - 1) v1)) = _
      rw [if_neg hc, fnn_ok (db_nn hm), pI_s k (by omega)]
      exact y3
theorem fp_main {x : UInt64} {e t : Nat} (h : DB x e t) (h1 : 1003 ≤ e) (h2 : e ≤ 1023) : ∃ b, s_X2_bitsOfShare x = some b ∧ s_X11_bitsOf x = some b := by
  obtain ⟨y, y1, y2, y3⟩ := fpLo (1023 - e) x t 0 gF (by rw [show 1023 - (1023 - e) = e from by omega]; exact h) (by omega) (by omega) (by unfold gF; omega)
  obtain ⟨n1, n2⟩ := db_sub y1
  have hg := db_gt0 h
  refine ⟨pI (0 + (1023 - e)) * 4503599627370496 + FP.d2l (FP.dmul (FP.dsub y FP.dconst1) 4841369599423283200), ?_, ?_⟩
  · unfold s_X2_bitsOfShare
    rw [hg, if_pos (by decide)]
    refine bindE (a := (y, pI (0 + (1023 - e)))) y2 ?_
    show fnn (FP.dsub y FP.dconst1) _ = _
    rw [fnn_ok n1, fnn_ok n2]
    show some (pI (0 + (1023 - e)) <<< (Int32.toInt64 52 &&& 63) + _) = _
    rw [pI_m _ (by omega)]
  · unfold s_X11_bitsOf
    rw [hg, if_neg (by decide)]
    refine bindE (a := (pI (0 + (1023 - e)), y)) y3 ?_
    show fnn (FP.dsub y FP.dconst1) _ = _
    rw [fnn_ok n1, fnn_ok n2]
theorem fp_zero : s_X2_bitsOfShare 0 = some 0 ∧ s_X11_bitsOf 0 = some 0 := by decide +kernel
/-- the shares, each pair, by the kernel's machine -/
def fpQ (a n : Nat) : UInt64 := FP.ddiv (FP.i2d (nI a)) (FP.i2d (nI n))
def fpR (a n : Nat) : Bool := decide (0x3F70000000000000 ≤ fpQ a n) && decide (fpQ a n ≤ 0x3FF0000000000000)
