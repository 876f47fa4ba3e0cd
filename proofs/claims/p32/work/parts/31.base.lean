/-! LAYER 2: what the shallow programs compute. Numbers, loops, packed letters -/
theorem nI_lit (n : Nat) : (OfNat.ofNat n : Int32) = nI (OfNat.ofNat n) := rfl
theorem nI_mul (a b : Nat) : nI a * nI b = nI (a * b) := (Int32.ofNat_mul a b).symm
theorem nI_addlit0 (x : Int32) : x + nI 0 = x := Int32.add_zero x
theorem nI_sub {a b : Nat} (h : b ≤ a) : nI a - nI b = nI (a - b) := by
  have e : nI a = nI (a - b) + nI b := by rw [nI_add]; congr 1; omega
  rw [e, Int32.add_sub_cancel]
theorem bsome {α β : Type} (a : α) (f : α → Option β) : (some a).bind f = f a := rfl
theorem c_le_f {a b : Nat} (h : b < a) (ha : a < 2147483648) : (nI a ≤ nI b) = False := eq_false (nI_ge h (by omega))
theorem c_le_t {a b : Nat} (h : a ≤ b) (hb : b < 2147483648) : (nI a ≤ nI b) = True := eq_true (nI_le h (by omega))
theorem c_lt_f {a b : Nat} (h : b ≤ a) (ha : a < 2147483648) : (nI a < nI b) = False := eq_false (nI_nlt h (by omega))
theorem c_lt_t {a b : Nat} (h : a < b) (hb : b < 2147483648) : (nI a < nI b) = True := eq_true (nI_lt h (by omega))
theorem c_eq_f {a b : Nat} (h : a ≠ b) (ha : a < 2147483648) (hb : b < 2147483648) : (nI a = nI b) = False := eq_false fun e => h ((nI_eq (by omega) (by omega)).mp e)
theorem c_eq_t {a b : Nat} (h : a = b) : (nI a = nI b) = True := eq_true (h ▸ rfl)
theorem nI_div {a b : Nat} (ha : a < 2147483648) (hb : b < 2147483648) : nI a / nI b = nI (a / b) := by
  apply Int32.toInt_inj.mp
  have h1 := nI_toInt (n := a) (by omega)
  have h2 := nI_toInt (n := b) (by omega)
  have h3 : a / b ≤ a := Nat.div_le_self a b
  have h4 := nI_toInt (n := a / b) (by omega)
  rw [Int32.toInt_div, h1, h2, h4]
  rw [show ((a : Int).tdiv (b : Int)) = ((a / b : Nat) : Int) from by simp [Int.tdiv]]
  generalize a / b = q at *
  exact Int.bmod_eq_of_le (by omega) (by omega)
theorem fin_nI {i n : Nat} (h : i < n) (hn : n < 2147483648) : fin? (nI i) n = true := by
  unfold fin?
  rw [nI_clamp (by omega)]
  have h1 := nI_pos (n := i) (by omega)
  simp [h1]; omega
theorem fld_n {α β : Type} {n i : Nat} {f : Nat → α} {g : α → Option β} (h : i < n) (hn : n < 2147483648) : fld n f (nI i) g = g (f i) := by
  unfold fld
  rw [if_pos (fin_nI h hn), nI_clamp (by omega)]
theorem fst_n {β : Type} {n i : Nat} {f : Nat → Int32} {x : Int32} {g : (Nat → Int32) → Option β} (h : i < n) (hn : n < 2147483648) : fst n f (nI i) x g = g (upd f i x) := by
  unfold fst
  rw [if_pos (fin_nI h hn), nI_clamp (by omega)]
theorem upd_s {f : Nat → Int32} {i : Nat} {x : Int32} : upd f i x i = x := by unfold upd; exact if_pos rfl
theorem upd_o {f : Nat → Int32} {i j : Nat} {x : Int32} (h : j ≠ i) : upd f i x j = f j := by unfold upd; exact if_neg h
def mO : Int32 := -1
theorem mO_lit : -(nI 1) = mO := rfl
theorem mO_lt {a : Nat} (h : a < 2147483648) : (mO < nI a) = True := by
  apply eq_true
  rw [Int32.lt_iff_toInt_lt, nI_toInt (by omega), show mO.toInt = -1 from rfl]; omega
theorem mO_le {a : Nat} (h : a < 2147483648) : (mO ≤ nI a) = True := by
  apply eq_true
  rw [Int32.le_iff_toInt_le, nI_toInt (by omega), show mO.toInt = -1 from rfl]; omega
theorem mO_gt {a : Nat} (h : a < 2147483648) : (nI a < mO) = False := by
  apply eq_false
  rw [Int32.lt_iff_toInt_lt, nI_toInt (by omega), show mO.toInt = -1 from rfl]; omega
theorem mO_ge {a : Nat} (h : a < 2147483648) : (nI a ≤ mO) = False := by
  apply eq_false
  rw [Int32.le_iff_toInt_le, nI_toInt (by omega), show mO.toInt = -1 from rfl]; omega
theorem mO_ne {a : Nat} (h : a < 2147483648) : (nI a = mO) = False := by
  apply eq_false
  intro e
  have := congrArg Int32.toInt e
  rw [nI_toInt (by omega), show mO.toInt = -1 from rfl] at this; omega
theorem mO_ne' {a : Nat} (h : a < 2147483648) : (mO = nI a) = False := by
  rw [show (mO = nI a) = (nI a = mO) from propext ⟨Eq.symm, Eq.symm⟩, mO_ne h]
theorem mO_add {a : Nat} (h : 1 ≤ a) : nI a + mO = nI (a - 1) := by
  have e : nI a = nI (a - 1) + nI 1 := by rw [nI_add]; congr 1; omega
  rw [e, Int32.add_assoc, show nI 1 + mO = 0 from rfl, Int32.add_zero]
/-- a loop, with what holds at each turn -/
theorem lp {σ ρ : Type} (F : Nat → σ → Option ρ) (N : Nat) (P : Nat → σ → Prop) (Q : ρ → Prop)
    (hs : ∀ i, i < N → ∀ n x, P i x → (∃ y, F (n + 1) x = F n y ∧ P (i + 1) y) ∨ (∃ r, F (n + 1) x = some r ∧ Q r))
    (he : ∀ n x, P N x → ∃ r, F (n + 1) x = some r ∧ Q r) : ∀ (j i fuel : Nat) (x : σ), j + i = N → j < fuel → P i x → ∃ r, F fuel x = some r ∧ Q r := by
  intro j
  induction j with
  | zero =>
    intro i fuel x hi hf hP
    obtain ⟨n, rfl⟩ : ∃ n, fuel = n + 1 := ⟨fuel - 1, by omega⟩
    have : i = N := by omega
    subst this
    exact he n x hP
  | succ j ih =>
    intro i fuel x hi hf hP
    obtain ⟨n, rfl⟩ : ∃ n, fuel = n + 1 := ⟨fuel - 1, by omega⟩
    rcases hs i (by omega) n x hP with ⟨y, h1, h2⟩ | h
    · rw [h1]; exact ih (i + 1) n y (by omega) (by omega) h2
    · exact h
/-- sums of ints -/
def sI : Nat → (Nat → Int32) → Int32
  | 0, _ => 0
  | n + 1, f => sI n f + f n
def sN : Nat → (Nat → Nat) → Nat
  | 0, _ => 0
  | n + 1, f => sN n f + f n
theorem sI_nI (N : Nat) (f : Nat → Nat) : sI N (fun i => nI (f i)) = nI (sN N f) := by
  induction N with
  | zero => rfl
  | succ n ih => show sI n _ + _ = _; rw [ih, nI_add]; rfl
theorem sI_congr {N : Nat} {f g : Nat → Int32} (h : ∀ i, i < N → f i = g i) : sI N f = sI N g := by
  induction N with
  | zero => rfl
  | succ n ih => show sI n f + f n = sI n g + g n; rw [ih (fun i hi => h i (by omega)), h n (by omega)]
theorem sN_congr {N : Nat} {f g : Nat → Nat} (h : ∀ i, i < N → f i = g i) : sN N f = sN N g := by
  induction N with
  | zero => rfl
  | succ n ih => show sN n f + f n = sN n g + g n; rw [ih (fun i hi => h i (by omega)), h n (by omega)]
theorem sN_le {N : Nat} {f : Nat → Nat} {b : Nat} (h : ∀ i, i < N → f i ≤ b) : sN N f ≤ N * b := by
  induction N with
  | zero => simp [sN]
  | succ n ih =>
    have h1 := ih (fun i hi => h i (by omega))
    have h2 := h n (by omega)
    show sN n f + f n ≤ _
    rw [Nat.succ_mul]; omega
/-- a loop that goes on in a value -/
def it {σ : Type} : Nat → (Nat → σ → σ) → σ → σ
  | 0, _, x => x
  | n + 1, g, x => g n (it n g x)
theorem it_sI (N : Nat) (f : Nat → Int32) (x : Int32) : it N (fun i y => y + f i) x = x + sI N f := by
  induction N with
  | zero => exact (Int32.add_zero x).symm
  | succ n ih => show it n _ x + f n = x + (sI n f + f n); rw [ih, Int32.add_assoc]
theorem it_congr {σ : Type} {N : Nat} {f g : Nat → σ → σ} (h : ∀ i, i < N → ∀ x, f i x = g i x) (x : σ) : it N f x = it N g x := by
  induction N with
  | zero => rfl
  | succ n ih => show f n _ = g n _; rw [ih (fun i hi => h i (by omega)), h n (by omega)]
theorem laccF {σ : Type} (F : Nat → σ → Int32 → Option (σ × Int32)) (a N : Nat) (g : Nat → σ → σ) (hN : N < 6000)
    (hs : ∀ n i x, i < N → F (n + 1) x (nI (a + i)) = F n (g i x) (nI (a + i + 1))) (he : ∀ n x, F (n + 1) x (nI (a + N)) = some (x, nI (a + N))) (x : σ) : F gF x (nI a) = some (it N g x, nI (a + N)) := by
  have key := lp (fun n (y : σ × Int32) => F n y.1 y.2) N (fun i y => y = (it i g x, nI (a + i))) (fun r => r = (it N g x, nI (a + N)))
    (fun i hi n y hy => by subst hy; exact Or.inl ⟨(g i (it i g x), nI (a + i + 1)), hs n i _ hi, rfl⟩)
    (fun n y hy => by subst hy; exact ⟨_, he n _, rfl⟩) N 0 gF (x, nI a) (by omega) (by unfold gF; omega) rfl
  obtain ⟨r, h1, h2⟩ := key
  rw [h2] at h1
  exact h1
theorem lacc {σ : Type} (F : Nat → σ → Int32 → Option (σ × Int32)) (N : Nat) (g : Nat → σ → σ) (hN : N < 6000)
    (hs : ∀ n i x, i < N → F (n + 1) x (nI i) = F n (g i x) (nI (i + 1))) (he : ∀ n x, F (n + 1) x (nI N) = some (x, nI N)) (x : σ) : F gF x (nI 0) = some (it N g x, nI N) := by
  have := laccF F 0 N g hN (fun n i x hi => by rw [Nat.zero_add]; exact hs n i x hi) (fun n x => by rw [Nat.zero_add]; exact he n x) x
  rw [Nat.zero_add] at this
  exact this
/-- a loop that sums up -/
theorem lsum (F : Nat → Int32 → Int32 → Option (Int32 × Int32)) (N : Nat) (f : Nat → Int32) (hN : N < 6000)
    (hs : ∀ n i x, i < N → F (n + 1) x (nI i) = F n (x + f i) (nI (i + 1))) (he : ∀ n x, F (n + 1) x (nI N) = some (x, nI N)) (x : Int32) : F gF x (nI 0) = some (x + sI N f, nI N) := by
  rw [lacc F N (fun i y => y + f i) hN hs he x, it_sI]
/-- a loop that looks for the first one -/
theorem lfind {ρ : Type} (F : Nat → Int32 → Option (ρ ⊕ Int32)) (a N : Nat) (p : Nat → Bool) (r : Nat → ρ) (hN : N < 6000)
    (hs : ∀ n i, i < N → p i = false → F (n + 1) (nI (a + i)) = F n (nI (a + i + 1))) (ht : ∀ n i, i < N → p i = true → F (n + 1) (nI (a + i)) = some (.inl (r i)))
    (he : ∀ n, F (n + 1) (nI (a + N)) = some (.inr (nI (a + N)))) :
    (∃ i, i < N ∧ p i = true ∧ (∀ j, j < i → p j = false) ∧ F gF (nI a) = some (.inl (r i))) ∨ ((∀ j, j < N → p j = false) ∧ F gF (nI a) = some (.inr (nI (a + N)))) := by
  have key := lp (fun n (y : Int32) => F n y) N (fun i y => y = nI (a + i) ∧ ∀ j, j < i → p j = false)
    (fun x => (∃ i, i < N ∧ p i = true ∧ (∀ j, j < i → p j = false) ∧ x = .inl (r i)) ∨ ((∀ j, j < N → p j = false) ∧ x = .inr (nI (a + N))))
    (fun i hi n y hy => by
      obtain ⟨rfl, h1⟩ := hy
      cases hp : p i with
      | false => exact Or.inl ⟨_, hs n i hi hp, rfl, fun j hj => by rcases Nat.lt_succ_iff_lt_or_eq.mp hj with h | h; exact h1 j h; subst h; exact hp⟩
      | true => exact Or.inr ⟨_, ht n i hi hp, Or.inl ⟨i, hi, hp, h1, rfl⟩⟩)
    (fun n y hy => by obtain ⟨rfl, h1⟩ := hy; exact ⟨_, he n, Or.inr ⟨h1, rfl⟩⟩) N 0 gF (nI a) (by omega) (by unfold gF; omega) ⟨rfl, fun j hj => by omega⟩
  obtain ⟨x, h1, h2⟩ := key
  rcases h2 with ⟨i, h2, h3, h4, rfl⟩ | ⟨h2, rfl⟩
  · exact Or.inl ⟨i, h2, h3, h4, h1⟩
  · exact Or.inr ⟨h2, h1⟩
/-- whether there is one -/
def anyB : Nat → (Nat → Bool) → Bool
  | 0, _ => false
  | n + 1, p => anyB n p || p n
theorem anyB_t {N : Nat} {p : Nat → Bool} {i : Nat} (h : i < N) (hp : p i = true) : anyB N p = true := by
  induction N with
  | zero => omega
  | succ n ih =>
    show (anyB n p || p n) = true
    by_cases e : i = n
    · subst e; simp [hp]
    · simp [ih (by omega)]
theorem anyB_f {N : Nat} {p : Nat → Bool} (h : ∀ i, i < N → p i = false) : anyB N p = false := by
  induction N with
  | zero => rfl
  | succ n ih => show (anyB n p || p n) = false; simp [ih (fun i hi => h i (by omega)), h n (by omega)]
theorem anyB_congr {N : Nat} {p q : Nat → Bool} (h : ∀ i, i < N → p i = q i) : anyB N p = anyB N q := by
  induction N with
  | zero => rfl
  | succ n ih => show (anyB n p || p n) = (anyB n q || q n); rw [ih (fun i hi => h i (by omega)), h n (by omega)]
def bI (b : Bool) : Int32 := if b then nI 1 else nI 0
theorem bI_t : bI true = nI 1 := rfl
theorem bI_f : bI false = nI 0 := rfl
def bN (b : Bool) : Nat := if b then 1 else 0
theorem bI_nI (b : Bool) : bI b = nI (bN b) := by cases b <;> rfl
theorem bN_le (b : Bool) : bN b ≤ 1 := by cases b <;> decide
