/-! rows of the law's programs -/
theorem ifT {α : Type} {c : Prop} [Decidable c] {a b r : α} (h : c) (z : a = r) : (if c then a else b) = r := (if_pos h).trans z
theorem ifF {α : Type} {c : Prop} [Decidable c] {a b r : α} (h : ¬ c) (z : b = r) : (if c then a else b) = r := (if_neg h).trans z
theorem flT {α β : Type} {c : Prop} [Decidable c] {a b : α} {g : α → Option β} {r : Option β} (h : c) (z : g a = r) : flet (if c then a else b) g = r := by
  rw [if_pos h]; exact z
theorem flF {α β : Type} {c : Prop} [Decidable c] {a b : α} {g : α → Option β} {r : Option β} (h : ¬ c) (z : g b = r) : flet (if c then a else b) g = r := by
  rw [if_neg h]; exact z
theorem flV {α β : Type} {x v : α} {g : α → Option β} {r : Option β} (h : x = v) (z : g v = r) : flet x g = r := by subst h; exact z
theorem cal {α γ : Type} {x : Option (α ⊕ String)} {v : α} {f : α → Option γ} {g : String → Option γ} {r : Option γ} (h : x = some (.inl v)) (z : f v = r) : (x.bind fun v1 => fth v1 f g) = r := by subst h; exact z
theorem calM {α β γ : Type} {x : Option ((α ⊕ String) × β)} {v : α} {w : β} {f : (α ⊕ String) × β → α → Option γ} {g : (α ⊕ String) × β → String → Option γ} {r : Option γ} (h : x = some (.inl v, w)) (z : f (.inl v, w) v = r) : (x.bind fun v1 => fth v1.1 (f v1) (g v1)) = r := by subst h; exact z
theorem sumR {α β γ : Type} {x : Option (α ⊕ β)} {e : β} {g : α → Option γ} {f : β → Option γ} {r : Option γ} (h : x = some (.inr e)) (z : f e = r) : (x.bind fun y => fsum y g f) = r := by subst h; exact z
theorem fz1 {β : Type} {g r : Option β} (z : g = r) : fz 1 g = r := (if_pos (Or.inr rfl)).trans z
theorem ne_mO {a : Nat} (h : a < 2147483648) : ¬ nI a = -1 := by
  intro e
  have := mO_ne h
  rw [show (nI a = mO) = (nI a = -1) from rfl] at this
  rw [this] at e; exact e
theorem sN_cut {N M : Nat} {f : Nat → Nat} (h : M ≤ N) : sN N (fun k => if k < M then f k else 0) = sN M f := by
  induction N with
  | zero =>
    have : M = 0 := by omega
    subst this; rfl
  | succ n ih =>
    show sN n _ + (if n < M then f n else 0) = sN M f
    by_cases q : M = n + 1
    · subst q
      rw [if_pos (by omega)]
      show _ = sN n f + f n
      congr 1
      exact sN_congr fun i hi => if_pos (by omega)
    · rw [if_neg (by omega), ih (by omega), Nat.add_zero]
/-- fuel at hand -/
theorem gF_s : ∃ n, gF = n + 1 := ⟨gF - 1, by unfold gF; rfl⟩
/-- a loop of N turns that goes on in a state -/
theorem lpN {σ ρ : Type} (F : Nat → σ → Option ρ) (N : Nat) (st : Nat → σ) (r : ρ) (hN : N < 6000)
    (hs : ∀ i, i < N → ∀ n, F (n + 1) (st i) = F n (st (i + 1))) (he : ∀ n, F (n + 1) (st N) = some r) : F gF (st 0) = some r := by
  have key := lp F N (fun i x => x = st i) (fun x => x = r) (fun i hi n x hx => by subst hx; exact Or.inl ⟨_, hs i hi n, rfl⟩) (fun n x hx => by subst hx; exact ⟨_, he n, rfl⟩) N 0 gF (st 0) (by omega) (by unfold gF; omega) rfl
  obtain ⟨x, h1, h2⟩ := key
  rw [h1, h2]
theorem ff_spec : ∀ {N i k : Nat} {p : Nat → Bool}, ff N i p = some k → i ≤ k ∧ k < i + N ∧ p k = true ∧ ∀ j, i ≤ j → j < k → p j = false := by
  intro N
  induction N with
  | zero => intro i k p h; cases h
  | succ n ih =>
    intro i k p h
    have h : (if p i = true then some i else ff n (i + 1) p) = some k := h
    by_cases q : p i = true
    · rw [if_pos q] at h
      cases h
      exact ⟨Nat.le_refl _, by omega, q, fun j h1 h2 => by omega⟩
    · rw [if_neg q] at h
      obtain ⟨h1, h2, h3, h4⟩ := ih h
      refine ⟨by omega, by omega, h3, fun j h5 h6 => ?_⟩
      by_cases e : j = i
      · subst e; exact Bool.eq_false_iff.mpr q
      · exact h4 j (by omega) h6
theorem ff_nspec : ∀ {N i : Nat} {p : Nat → Bool}, ff N i p = none → ∀ j, i ≤ j → j < i + N → p j = false := by
  intro N
  induction N with
  | zero => intro i p h j h1 h2; omega
  | succ n ih =>
    intro i p h j h1 h2
    have h : (if p i = true then some i else ff n (i + 1) p) = none := h
    by_cases q : p i = true
    · rw [if_pos q] at h; cases h
    · rw [if_neg q] at h
      by_cases e : j = i
      · subst e; exact Bool.eq_false_iff.mpr q
      · exact ih h j (by omega) (by omega)
theorem ff_lt {N k : Nat} {p : Nat → Bool} (h : ff N 0 p = some k) : k < N := by
  have := (ff_spec h).2.1; omega
/-- how many storms to the loss: the first that loses it, or none in 60 -/
theorem stl_cases (st d b : Nat) (m : aN) : (∃ L, 1 ≤ L ∧ L ≤ 60 ∧ stlI st d b m = nI L ∧ b < ubN st d m L ∧ ∀ j, 1 ≤ j → j < L → ¬ b < ubN st d m j) ∨ (stlI st d b m = mO ∧ ∀ j, 1 ≤ j → j ≤ 60 → ¬ b < ubN st d m j) := by
  unfold stlI ffI
  cases q : ff 60 0 (fun i => decide (b < ubN st d m (1 + i))) with
  | none =>
    refine Or.inr ⟨rfl, fun j h1 h2 => ?_⟩
    have := ff_nspec q (j - 1) (by omega) (by omega)
    have := of_decide_eq_false this
    rw [show 1 + (j - 1) = j from by omega] at this
    exact this
  | some i =>
    obtain ⟨h1, h2, h3, h4⟩ := ff_spec q
    refine Or.inl ⟨1 + i, by omega, by omega, rfl, of_decide_eq_true h3, fun j h5 h6 => ?_⟩
    have := of_decide_eq_false (h4 (j - 1) (by omega) (by omega))
    rw [show 1 + (j - 1) = j from by omega] at this
    exact this
theorem stl_1 {st d b : Nat} {m : aN} : stlI st d b m = nI 1 ↔ b < ubN st d m 1 := by
  rcases stl_cases st d b m with ⟨L, h1, h2, h3, h4, h5⟩ | ⟨h1, h2⟩
  · rw [h3]
    constructor
    · intro e
      have := (nI_eq (by omega) (by omega)).mp e
      subst this; exact h4
    · intro e
      by_cases q : L = 1
      · rw [q]
      · exact absurd e (h5 1 (by omega) (by omega))
  · rw [h1]
    constructor
    · intro e; exact absurd e.symm (ne_mO (by omega))
    · intro e; exact absurd e (h2 1 (by omega) (by omega))
