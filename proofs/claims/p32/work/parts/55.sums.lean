/-! cord in whole numbers; sums of sums -/
theorem sN_add (N : Nat) (f g : Nat → Nat) : sN N (fun i => f i + g i) = sN N f + sN N g := by
  induction N with
  | zero => rfl
  | succ n ih => show sN n _ + (f n + g n) = (sN n f + f n) + (sN n g + g n); rw [ih]; omega
theorem sN_mul (N c : Nat) (f : Nat → Nat) : sN N (fun i => f i * c) = sN N f * c := by
  induction N with
  | zero => show 0 = 0 * c; rw [Nat.zero_mul]
  | succ n ih => show sN n _ + f n * c = (sN n f + f n) * c; rw [ih, Nat.add_mul]
theorem sN_zero (N : Nat) : sN N (fun _ => 0) = 0 := by
  induction N with
  | zero => rfl
  | succ n ih => show sN n _ + 0 = 0; rw [ih]
theorem sN_one (N : Nat) : sN N (fun _ => 1) = N := by
  induction N with
  | zero => rfl
  | succ n ih => show sN n _ + 1 = n + 1; rw [ih]
theorem sN_swap (N M : Nat) (f : Nat → Nat → Nat) : sN N (fun i => sN M (fun j => f i j)) = sN M (fun j => sN N (fun i => f i j)) := by
  induction N with
  | zero => exact (sN_zero M).symm
  | succ n ih =>
    show sN n (fun i => sN M (fun j => f i j)) + sN M (fun j => f n j) = sN M (fun j => sN n (fun i => f i j) + f n j)
    rw [ih, sN_add]
theorem sN_pick {N t : Nat} (g : Nat → Nat) (h : t < N) : sN N (fun l => if t = l then g l else 0) = g t := by
  induction N with
  | zero => omega
  | succ n ih =>
    show sN n _ + (if t = n then g n else 0) = g t
    by_cases q : t = n
    · subst q
      rw [if_pos rfl, sN_congr (g := fun _ => 0) (fun i hi => if_neg (by omega)), sN_zero]; omega
    · rw [if_neg q, ih (by omega)]; omega
theorem sN_le1 {N : Nat} {f g : Nat → Nat} (h : ∀ i, i < N → f i ≤ g i) : sN N f ≤ sN N g := sN_mono h
theorem sN_at {N i : Nat} {f : Nat → Nat} (h : i < N) : f i ≤ sN N f := by
  induction N with
  | zero => omega
  | succ n ih =>
    show f i ≤ sN n f + f n
    by_cases q : i = n
    · subst q; omega
    · have := ih (by omega); omega
/-- sums over all names -/
theorem nA_add (S : aS) (f g : aN → Nat) : nA S (fun m => f m + g m) = nA S f + nA S g := by
  unfold nA
  rw [← sN_add]
  exact sN_congr fun i _ => sN_add _ _ _
theorem nA_mul (S : aS) (c : Nat) (f : aN → Nat) : nA S (fun m => f m * c) = nA S f * c := by
  unfold nA
  rw [← sN_mul]
  exact sN_congr fun i _ => sN_mul _ _ _
theorem nA_swap (S : aS) (M : Nat) (f : Nat → aN → Nat) : nA S (fun m => sN M (fun l => f l m)) = sN M (fun l => nA S (f l)) := by
  unfold nA
  rw [← sN_swap]
  exact sN_congr fun i _ => sN_swap _ _ _
theorem nA_congr {S : aS} {f g : aN → Nat} (h : ∀ i, i < 5 → ∀ n, n < (sB S i).length → f (nm S i n) = g (nm S i n)) : nA S f = nA S g :=
  sN_congr fun i hi => sN_congr fun n hn => h i hi n hn
theorem sA_N {S : aS} {g : aN → Int32} {gN : aN → Nat} (h : ∀ i, i < 5 → ∀ n, n < (sB S i).length → g (nm S i n) = nI (gN (nm S i n))) : sA S g = nI (nA S gN) := by
  unfold sA nA
  rw [← sI_nI]
  refine sI_congr fun i hi => ?_
  rw [← sI_nI]
  exact sI_congr fun n hn => h i hi n hn
/-- the cord of a knot, of a name, of a belt -/
def ckN (l : Nat) : Nat := 2 * (l / 4 + 1) + l % 4
theorem ckI_N {l : Nat} (h : l < 1000) : ckI (nI l) = nI (ckN l) := by
  unfold ckI ckN
  rw [show (4 : Int32) = nI 4 from rfl, show (2 : Int32) = nI 2 from rfl, show (1 : Int32) = nI 1 from rfl, nI_mod (by omega) (by omega), nI_div (by omega) (by omega), nI_add, nI_mul, nI_add]
theorem ckN_le {l : Nat} (h : l < 17) : ckN l ≤ 11 := by unfold ckN; omega
def cN (m : aN) : Nat := 2 + sN m.length (fun k => ckN (gK m k).1 + 1)
theorem cdN_N {B : Nat} {m : aN} (h : OKN B m) : cdN m = nI (cN m) := by
  unfold cdN cN
  rw [← nI_add, ← sI_nI]
  congr 1
  refine sI_congr fun k hk => ?_
  have := (h.2.2 k hk).1
  rw [ckI_N (by omega), nI_add]
theorem cN_le {B : Nat} {m : aN} (h : OKN B m) : cN m ≤ 98 := by
  unfold cN
  have h8 := h.2.1
  have h1 := sN_le (N := m.length) (f := fun k => ckN (gK m k).1 + 1) (b := 12) (fun k hk => by
    have := (h.2.2 k hk).1
    have := ckN_le (l := (gK m k).1) (by omega)
    show ckN (gK m k).1 + 1 ≤ 12
    omega)
  omega
def cdB (S : aS) (f : Nat) : Nat := sN (sB S f).length (fun n => cN (nm S f n))
theorem OKS.nam {B : Nat} {S : aS} (h : OKS B S) {f n : Nat} (hf : f < 5) (hn : n < (sB S f).length) : OKN B (nm S f n) := (h.2.1 f hf).2.2.2 n hn
theorem cdB_I {B f : Nat} {S : aS} (h : OKS B S) (hf : f < 5) : sI (sB S f).length (fun n => cdN (nm S f n)) = nI (cdB S f) := by
  unfold cdB
  rw [← sI_nI]
  exact sI_congr fun n hn => cdN_N (h.nam hf hn)
theorem left_N {B f : Nat} {S : aS} (h : OKS B S) (hf : f < 5) (hc : cdB S f ≤ sLn S f) : leftI S f = nI (sLn S f - cdB S f) := by
  unfold leftI
  rw [cdB_I h hf, nI_sub hc]
theorem cord_N {B : Nat} {S : aS} (h : OKS B S) : sA S cdN = nI (nA S cN) := sA_N fun i hi n hn => cdN_N (h.nam hi hn)
theorem names_N (S : aS) : sI 5 (fun f => fN S f 1) = nI (nA S (fun _ => 1)) := by
  unfold nA
  rw [← sI_nI]
  refine sI_congr fun f _ => ?_
  rw [sN_one]; rfl
/-- knots of each letter: together all of them -/
theorem kN2 {B : Nat} {m : aN} (h : OKN B m) (l : Nat) (hl : l < 16) : kN 2 (nI l) m = sN m.length (fun k => if (gK m k).1 = l then 1 else 0) := by
  unfold kN
  refine sN_congr fun k hk => ?_
  have := (h.2.2 k hk).1
  show bN (decide (nI (gK m k).1 = nI l)) = _
  by_cases q : (gK m k).1 = l
  · rw [if_pos q, decide_eq_true (by rw [q])]; rfl
  · rw [if_neg q, decide_eq_false (fun e => q ((nI_eq (by omega) (by omega)).mp e))]; rfl
theorem letters1 {B : Nat} {m : aN} (h : OKN B m) (g : Nat → Nat) : sN 16 (fun l => kN 2 (nI l) m * g l) = sN m.length (fun k => g (gK m k).1) := by
  have e1 : sN 16 (fun l => kN 2 (nI l) m * g l) = sN 16 (fun l => sN m.length (fun k => if (gK m k).1 = l then g l else 0)) := by
    refine sN_congr fun l hl => ?_
    rw [kN2 h l hl, ← sN_mul]
    refine sN_congr fun k _ => ?_
    by_cases q : (gK m k).1 = l
    · rw [if_pos q, if_pos q, Nat.one_mul]
    · rw [if_neg q, if_neg q, Nat.zero_mul]
  rw [e1, sN_swap]
  exact sN_congr fun k hk => sN_pick g (h.2.2 k hk).1
theorem letters_N {B : Nat} {S : aS} (h : OKS B S) (g : Nat → Nat) : sN 16 (fun l => nA S (kN 2 (nI l)) * g l) = nA S (fun m => sN m.length (fun k => g (gK m k).1)) := by
  have e1 : sN 16 (fun l => nA S (kN 2 (nI l)) * g l) = sN 16 (fun l => nA S (fun m => kN 2 (nI l) m * g l)) := sN_congr fun l _ => (nA_mul S (g l) _).symm
  rw [e1, ← nA_swap]
  exact nA_congr fun i hi n hn => letters1 (h.nam hi hn) g
theorem tied_N {B : Nat} {S : aS} (h : OKS B S) : sN 16 (fun l => nA S (kN 2 (nI l))) = nA S (fun m => m.length) := by
  have e := letters_N h (fun _ => 1)
  have e1 : sN 16 (fun l => nA S (kN 2 (nI l)) * 1) = sN 16 (fun l => nA S (kN 2 (nI l))) := sN_congr fun l _ => Nat.mul_one _
  rw [e1] at e
  rw [e]
  exact nA_congr fun i hi n hn => sN_one _
theorem cBL_N {B : Nat} {S : aS} (h : OKS B S) : cBLI S = nI (nA S cN) := by
  unfold cBLI
  have e1 : sI 16 (fun l => sA S (fun m => nI (kN 2 (nI l) m)) * (ckI (nI l) + nI 1)) = nI (sN 16 (fun l => nA S (kN 2 (nI l)) * (ckN l + 1))) := by
    rw [← sI_nI]
    refine sI_congr fun l hl => ?_
    rw [sA_nA, ckI_N (by omega), nI_add, nI_mul]
  rw [e1, names_N, nI_mul, nI_add, letters_N h (fun l => ckN l + 1), Nat.mul_comm, ← nA_mul, ← nA_add]
  congr 1
theorem kN0 (m : aN) : kN 0 mO m = m.length := by
  unfold kN
  exact (sN_congr fun k _ => rfl).trans (sN_one _)
/-- loosened: once or more, twice or more -/
def loN (m : aN) : Nat := kN 1 mO m
theorem loN_eq (m : aN) : loN m = sN m.length (fun k => bN (decide (0 < (gK m k).2.1))) := rfl
theorem loN_le (m : aN) : loN m ≤ m.length := by
  have h1 := sN_le (N := m.length) (f := fun k => bN (decide (0 < (gK m k).2.1))) (b := 1) (fun i _ => bN_le _)
  rw [loN_eq]; omega
theorem u2_le (m : aN) : u2 m ≤ m.length := by
  have h1 := sN_le (N := m.length) (f := fun k => bN (decide (1 < (gK m k).2.1))) (b := 1) (fun i _ => bN_le _)
  unfold u2; omega
theorem tgC_eq (m : aN) : tgC m + u2 m = loN m := by
  unfold tgC u2
  rw [loN_eq, ← sN_add]
  refine sN_congr fun k _ => ?_
  rcases (by omega : (gK m k).2.1 = 0 ∨ (gK m k).2.1 = 1 ∨ 1 < (gK m k).2.1) with q | q | q
  · rw [decide_eq_false (by omega), decide_eq_false (by omega), decide_eq_false (by omega)]; rfl
  · rw [decide_eq_true q, decide_eq_false (by omega), decide_eq_true (by omega)]; rfl
  · rw [decide_eq_false (by omega), decide_eq_true q, decide_eq_true (by omega)]; rfl
