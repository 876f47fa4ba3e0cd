/-! THE MODEL: packed letters, and how its cells hold a state -/
def pk : List Nat → Nat
  | [] => 0
  | x :: r => x + 16 * pk r
theorem pk_getD : ∀ (l : List Nat) (k : Nat), (∀ i, i < l.length → l.getD i 0 < 16) → pk l / 16 ^ k % 16 = l.getD k 0 := by
  intro l
  induction l with
  | nil => intro k _; simp [pk]
  | cons x r ih =>
    intro k h
    have hx : x < 16 := h 0 (by simp)
    cases k with
    | zero => show (x + 16 * pk r) / 1 % 16 = x; omega
    | succ k =>
      have hr := ih k (fun i hi => h (i + 1) (by simp; omega))
      show (x + 16 * pk r) / 16 ^ (k + 1) % 16 = r.getD k 0
      rw [Nat.pow_succ, Nat.mul_comm (16 ^ k) 16, ← Nat.div_div_eq_div_mul, show (x + 16 * pk r) / 16 = pk r from by omega]
      exact hr
theorem pkL_lt : ∀ (l : List Nat), (∀ i, i < l.length → l.getD i 0 < 16) → pk l < 16 ^ l.length := by
  intro l
  induction l with
  | nil => intro _; show 0 < 1; omega
  | cons x r ih =>
    intro h
    have hx : x < 16 := h 0 (by simp)
    have hr := ih (fun i hi => h (i + 1) (by simp; omega))
    show x + 16 * pk r < 16 ^ (r.length + 1)
    rw [Nat.pow_succ]; omega
theorem pk_app : ∀ (l : List Nat) (x : Nat), pk (l ++ [x]) = pk l + x * 16 ^ l.length := by
  intro l
  induction l with
  | nil => intro x; show x + 16 * 0 = 0 + x * 1; omega
  | cons y r ih =>
    intro x
    show y + 16 * pk (r ++ [x]) = y + 16 * pk r + x * 16 ^ (r.length + 1)
    rw [ih, Nat.pow_succ, Nat.mul_add, ← Nat.mul_assoc, Nat.add_assoc]
    congr 2
    rw [← Nat.mul_assoc, Nat.mul_comm 16 x, Nat.mul_assoc x 16, Nat.mul_comm 16, Nat.mul_assoc]
/-! from the rows on bits -/
def bt (x : Int32) (i : Nat) : Bool := x.toBitVec.getLsbD i
theorem b_ext {x y : Int32} (h : ∀ i, i < 32 → bt x i = bt y i) : x = y := Int32.toBitVec_inj.mp (BitVec.eq_of_getLsbD_eq (fun i hi => h i hi))
theorem b_or (x y : Int32) (i : Nat) : bt (x ||| y) i = (bt x i || bt y i) := by unfold bt; rw [Int32.toBitVec_or, BitVec.getLsbD_or]
theorem b_and (x y : Int32) (i : Nat) : bt (x &&& y) i = (bt x i && bt y i) := by unfold bt; rw [Int32.toBitVec_and, BitVec.getLsbD_and]
theorem b_big {x : Int32} {i : Nat} (h : 32 ≤ i) : bt x i = false := BitVec.getLsbD_of_ge _ _ h
theorem b_0 (i : Nat) : bt 0 i = false := BitVec.getLsbD_zero
theorem s_l : ∀ n, n < 32 → ((nI n &&& 31).toBitVec.smod 32).toNat = n := by decide +kernel
theorem b_shl (n : Nat) (hn : n < 32) (x : Int32) {i : Nat} (hi : i < 32) : bt (x <<< (nI n &&& 31)) i = (decide (n ≤ i) && bt x (i - n)) := by
  unfold bt
  rw [Int32.toBitVec_shiftLeft]
  show (x.toBitVec <<< ((nI n &&& 31).toBitVec.smod 32).toNat).getLsbD i = _
  rw [s_l n hn, BitVec.getLsbD_shiftLeft]
  rcases Nat.lt_or_ge i n with h | h
  · simp [h, Nat.not_le.mpr h]
  · simp [hi, h, Nat.not_lt.mpr h]
theorem b_sshr (n : Nat) (hn : n < 32) (x : Int32) {i : Nat} (hi : i < 32) : bt (x >>> (nI n &&& 31)) i = if n + i < 32 then bt x (n + i) else bt x 31 := by
  unfold bt
  rw [Int32.toBitVec_shiftRight]
  show (x.toBitVec.sshiftRight ((nI n &&& 31).toBitVec.smod 32).toNat).getLsbD i = _
  rw [s_l n hn, BitVec.getLsbD_sshiftRight, BitVec.msb_eq_getLsbD_last]
  simp [hi]
theorem btN (y : Nat) {i : Nat} (hi : i < 32) : bt (nI y) i = y.testBit i := by
  show (BitVec.ofNat 32 y).getLsbD i = y.testBit i
  rw [BitVec.getLsbD_ofNat]; simp [hi]
theorem b_15 (i : Nat) : bt 15 i = decide (i < 4) := by
  rcases Nat.lt_or_ge i 32 with h | h
  · exact (by decide +kernel : ∀ i, i < 32 → bt 15 i = decide (i < 4)) i h
  · rw [b_big h, decide_eq_false (by omega)]
theorem p16 (k : Nat) : 16 ^ k = 2 ^ (4 * k) := by rw [Nat.pow_mul]
/-- the letter at a place of a packed number -/
theorem letA {x k : Nat} (hk : k < 8) : s_X11_letterAt (nI x) (nI k) = some (nI (x / 16 ^ k % 16)) := by
  unfold s_X11_letterAt
  rw [show (4 : Int32) = nI 4 from rfl, nI_mul]
  refine congrArg some (b_ext fun i hi => ?_)
  rw [b_and, b_15, b_sshr (4 * k) (by omega) _ hi, btN _ hi, p16, show (16 : Nat) = 2 ^ 4 from rfl, Nat.testBit_mod_two_pow, Nat.testBit_div_two_pow]
  by_cases q : i < 4
  · rw [if_pos (by omega), btN _ (by omega)]
    simp [q, Nat.add_comm]
  · simp [q]
