/-! the class: storms -/
def EnvC (B : Nat) (c : Nat → Int32) (st d b : Nat) : Prop := c 0 = nI st ∧ c 1 = nI d ∧ c 2 = nI b ∧ st ≤ B ∧ 1 ≤ d ∧ d ≤ 9 ∧ b ≤ 8 ∧ B < 1000000
/-- how often loosened behind s storms more -/
def lbN (st d k : Nat) (x : aK) (s : Nat) : Nat := if vow x.1 then x.2.1 + (k + 1 + st + s) / d - (k + 1 + st) / d else x.2.1
theorem lbN_le {st d k s : Nat} {x : aK} (hd : 1 ≤ d) : lbN st d k x s ≤ x.2.1 + s := by
  unfold lbN
  by_cases hv : vow x.1 = true
  · rw [if_pos hv]
    have h1 : (k + 1 + st + s) / d ≤ (k + 1 + st) / d + s := by
      calc (k + 1 + st + s) / d ≤ (k + 1 + st + d * s) / d := Nat.div_le_div_right (by have := Nat.le_mul_of_pos_left s hd; omega)
        _ = (k + 1 + st) / d + s := Nat.add_mul_div_left _ _ hd
    omega
  · rw [if_neg hv]; omega
theorem lbN_ge {st d k s : Nat} {x : aK} : x.2.1 ≤ lbN st d k x s := by
  unfold lbN
  by_cases hv : vow x.1 = true
  · rw [if_pos hv]
    have h1 : (k + 1 + st) / d ≤ (k + 1 + st + s) / d := Nat.div_le_div_right (by omega)
    omega
  · rw [if_neg hv]; omega
theorem fnz_n {β : Type} {y : Nat} {g : Option β} (h0 : y ≠ 0) (h : y < 2147483648) : fnz (nI y) g = g := by
  unfold fnz
  rw [if_neg]
  exact nI_ne0 (by omega) (by omega)
theorem lbh {B f n k st d b s : Nat} {c : Nat → Int32} {m : aN} (h : VC B c f n m) (e : EnvC B c st d b) (hk : k < m.length) (hs : s ≤ 60) : s_X6_loosenedBehind (nI f) (nI n) (nI k) (nI s) c = some (nI (lbN st d k (gK m k) s)) := by
  obtain ⟨hf, hn, hB, ⟨h1, h2⟩, hm⟩ := h
  obtain ⟨e0, e1, e2, e3, e4, e5, e6, -⟩ := e
  have hk8 := hm.2.1
  have := kc_lt (k := k) hf hn (by omega)
  obtain ⟨o1, o2, -⟩ := hm.2.2 k hk
  simp (disch := omega) only [s_X6_loosenedBehind, kcell, at_ok, ↓reduceIte, nI_lit, mO_lit, mO_lt, mO_le, mO_gt, mO_ge, mO_ne, mO_ne', nI_add, nI_mul, nI_addlit0, bsome, c_le_f, c_le_t, c_lt_f, c_lt_t, c_eq_f, c_eq_t, if_true, if_false, fld_n, fst_n, (h2 k hk).1, (h2 k hk).2.1, e0, e1, vowI, fnz_n]
  unfold lbN
  have h3 : (k + 1 + st) / d ≤ (k + 1 + st + s) / d := Nat.div_le_div_right (by omega)
  have h4 : (k + 1 + st + s) / d ≤ k + 1 + st + s := Nat.div_le_self _ _
  cases hv : vow (gK m k).1 with
  | false => simp (disch := omega) only [bI_nI, bN, ↓reduceIte, nI_lit, mO_lit, mO_lt, mO_le, mO_gt, mO_ge, mO_ne, mO_ne', nI_add, nI_mul, nI_addlit0, bsome, c_le_f, c_le_t, c_lt_f, c_lt_t, c_eq_f, c_eq_t, if_true, if_false, fld_n, fst_n]; simp
  | true =>
    simp (disch := omega) only [bI_nI, bN, ↓reduceIte, nI_lit, mO_lit, mO_lt, mO_le, mO_gt, mO_ge, mO_ne, mO_ne', nI_add, nI_mul, nI_addlit0, bsome, c_le_f, c_le_t, c_lt_f, c_lt_t, c_eq_f, c_eq_t, if_true, if_false, fld_n, fst_n, nI_div, nI_sub]
/-- how many knots of a name are unreadable behind s storms more -/
def ubN (st d : Nat) (m : aN) (s : Nat) : Nat := sN m.length (fun k => bN (decide (1 < lbN st d k (gK m k) s)))
theorem ubN_le {B st d s : Nat} {m : aN} (h : OKN B m) : ubN st d m s ≤ 8 := by
  have h1 := sN_le (N := m.length) (f := fun k => bN (decide (1 < lbN st d k (gK m k) s))) (b := 1) (fun i _ => bN_le _)
  have h2 := h.2.1
  unfold ubN; omega
theorem ubh {B f n st d b s : Nat} {c : Nat → Int32} {m : aN} (h : VC B c f n m) (e : EnvC B c st d b) (hs : s ≤ 60) : s_X6_unreadableBehind (nI f) (nI n) (nI s) c = some (nI (ubN st d m s)) := by
  have h' := h
  obtain ⟨hf, hn, hB, ⟨h1, h2⟩, hm⟩ := h'
  have hm1 := hm.2.1
  simp (disch := omega) only [s_X6_unreadableBehind, kts h, ↓reduceIte, nI_lit, mO_lit, mO_lt, mO_le, mO_gt, mO_ge, mO_ne, mO_ne', nI_add, nI_mul, nI_addlit0, bsome, c_le_f, c_le_t, c_lt_f, c_lt_t, c_eq_f, c_eq_t, if_true, if_false, fld_n, fst_n]
  rw [lsum (fun a x i => s_X6_unreadableBehind_L14 (nI f) (nI n) (nI s) (nI m.length) c a x i) m.length (fun k => bI (decide (1 < lbN st d k (gK m k) s))) (by omega)]
  · simp only [bI_nI, sI_nI, bsome, nI_add, Nat.zero_add]; rfl
  · intro a i x hi
    have hl := lbN_le (st := st) (d := d) (k := i) (s := s) (x := gK m i) e.2.2.2.2.1
    have ho := (hm.2.2 i hi).2.1
    simp (disch := omega) only [s_X6_unreadableBehind_L14, ↓reduceIte, nI_lit, mO_lit, mO_lt, mO_le, mO_gt, mO_ge, mO_ne, mO_ne', nI_add, nI_mul, nI_addlit0, bsome, c_le_f, c_le_t, c_lt_f, c_lt_t, c_eq_f, c_eq_t, if_true, if_false, fld_n, fst_n]
    rw [lbh h e hi hs]
    by_cases hq : 1 < lbN st d i (gK m i) s
    · simp (disch := omega) only [↓reduceIte, nI_lit, mO_lit, mO_lt, mO_le, mO_gt, mO_ge, mO_ne, mO_ne', nI_add, nI_mul, nI_addlit0, bsome, c_le_f, c_le_t, c_lt_f, c_lt_t, c_eq_f, c_eq_t, if_true, if_false, fld_n, fst_n, bI, decide_eq_true hq]
    · simp (disch := omega) only [↓reduceIte, nI_lit, mO_lit, mO_lt, mO_le, mO_gt, mO_ge, mO_ne, mO_ne', nI_add, nI_mul, nI_addlit0, bsome, c_le_f, c_le_t, c_lt_f, c_lt_t, c_eq_f, c_eq_t, if_true, if_false, fld_n, fst_n, bI, decide_eq_false hq]; simp only [Bool.false_eq_true, if_false, nI_addlit0]
  · intro a x
    simp (disch := omega) only [s_X6_unreadableBehind_L14, ↓reduceIte, nI_lit, mO_lit, mO_lt, mO_le, mO_gt, mO_ge, mO_ne, mO_ne', nI_add, nI_mul, nI_addlit0, bsome, c_le_f, c_le_t, c_lt_f, c_lt_t, c_eq_f, c_eq_t, if_true, if_false, fld_n, fst_n]
/-- first place of a row of truths -/
def ff : Nat → Nat → (Nat → Bool) → Option Nat
  | 0, _, _ => none
  | n + 1, i, p => if p i = true then some i else ff n (i + 1) p
theorem ff_none : ∀ {N i : Nat} {p : Nat → Bool}, (∀ j, j < N → p (i + j) = false) → ff N i p = none := by
  intro N
  induction N with
  | zero => intros; rfl
  | succ n ih =>
    intro i p h
    have h0 := h 0 (by omega)
    show (if p i = true then some i else ff n (i + 1) p) = none
    rw [Nat.add_zero] at h0
    rw [h0, if_neg (by simp)]
    exact ih (fun j hj => by have := h (j + 1) (by omega); rw [show i + 1 + j = i + (j + 1) from by omega]; exact this)
theorem ff_some : ∀ {N i k : Nat} {p : Nat → Bool}, k < N → p (i + k) = true → (∀ j, j < k → p (i + j) = false) → ff N i p = some (i + k) := by
  intro N
  induction N with
  | zero => intros; omega
  | succ n ih =>
    intro i k p hk hp h
    show (if p i = true then some i else ff n (i + 1) p) = some (i + k)
    cases k with
    | zero => rw [Nat.add_zero] at hp; rw [if_pos hp]; rfl
    | succ k =>
      have h0 := h 0 (by omega)
      rw [Nat.add_zero] at h0
      rw [h0, if_neg (by simp), show i + (k + 1) = i + 1 + k from by omega]
      exact ih (by omega) (by rw [show i + 1 + k = i + (k + 1) from by omega]; exact hp) (fun j hj => by have := h (j + 1) (by omega); rw [show i + 1 + j = i + (j + 1) from by omega]; exact this)
def ffI (N : Nat) (p : Nat → Bool) (r : Nat → Int32) : Int32 := match ff N 0 p with
  | some i => r i
  | none => mO
theorem ffI_some {N k : Nat} {p : Nat → Bool} {r : Nat → Int32} (hk : k < N) (hp : p k = true) (h : ∀ j, j < k → p j = false) : ffI N p r = r k := by
  unfold ffI
  rw [ff_some (k := k) hk (by rw [Nat.zero_add]; exact hp) (fun j hj => by rw [Nat.zero_add]; exact h j hj), Nat.zero_add]
theorem ffI_none {N : Nat} {p : Nat → Bool} {r : Nat → Int32} (h : ∀ j, j < N → p j = false) : ffI N p r = mO := by
  unfold ffI
  rw [ff_none (fun j hj => by rw [Nat.zero_add]; exact h j hj)]
/-- storms to the loss -/
def stlI (st d b : Nat) (m : aN) : Int32 := ffI 60 (fun i => decide (b < ubN st d m (1 + i))) (fun i => nI (1 + i))
theorem stl {B f n st d b : Nat} {c : Nat → Int32} {m : aN} (h : VC B c f n m) (e : EnvC B c st d b) : s_X6_stormsToLoss (nI f) (nI n) c = some (stlI st d b m) := by
  have hm := h.2.2.2.2
  obtain ⟨e0, e1, e2, e3, e4, e5, e6, e7⟩ := id e
  simp (disch := omega) only [s_X6_stormsToLoss, at_ok, e2, ↓reduceIte, nI_lit, mO_lit, mO_lt, mO_le, mO_gt, mO_ge, mO_ne, mO_ne', nI_add, nI_mul, nI_addlit0, bsome, c_le_f, c_le_t, c_lt_f, c_lt_t, c_eq_f, c_eq_t, if_true, if_false, fld_n, fst_n]
  have hu : ∀ s, ubN st d m s ≤ 8 := fun s => ubN_le hm
  rcases lfind (fun a i => s_X6_stormsToLoss_L9 (nI f) (nI n) (nI b) c a i) 1 60 (fun i => decide (b < ubN st d m (1 + i))) (fun i => nI (1 + i)) (by omega) (fun a i hi hp => by
      have := hu (1 + i)
      have hq := of_decide_eq_false hp
      simp (disch := omega) only [s_X6_stormsToLoss_L9, ↓reduceIte, nI_lit, mO_lit, mO_lt, mO_le, mO_gt, mO_ge, mO_ne, mO_ne', nI_add, nI_mul, nI_addlit0, bsome, c_le_f, c_le_t, c_lt_f, c_lt_t, c_eq_f, c_eq_t, if_true, if_false, fld_n, fst_n, ubh h e (s := 1 + i) (by omega)]) (fun a i hi hp => by
      have := hu (1 + i)
      have hq := of_decide_eq_true hp
      simp (disch := omega) only [s_X6_stormsToLoss_L9, ↓reduceIte, nI_lit, mO_lit, mO_lt, mO_le, mO_gt, mO_ge, mO_ne, mO_ne', nI_add, nI_mul, nI_addlit0, bsome, c_le_f, c_le_t, c_lt_f, c_lt_t, c_eq_f, c_eq_t, if_true, if_false, fld_n, fst_n, ubh h e (s := 1 + i) (by omega)]) (fun a => by
      simp (disch := omega) only [s_X6_stormsToLoss_L9, ↓reduceIte, nI_lit, mO_lit, mO_lt, mO_le, mO_gt, mO_ge, mO_ne, mO_ne', nI_add, nI_mul, nI_addlit0, bsome, c_le_f, c_le_t, c_lt_f, c_lt_t, c_eq_f, c_eq_t, if_true, if_false, fld_n, fst_n]) with ⟨i, h1, h2, h3, h4⟩ | ⟨h1, h2⟩
  · rw [h4]; show some _ = _; unfold stlI; rw [ffI_some h1 h2 h3]
  · rw [h2]; show some _ = _; unfold stlI; rw [ffI_none h1]
/-- loosened by the next storm -/
def lnN (st d : Nat) (m : aN) : Nat := sN m.length (fun k => lbN st d k (gK m k) 1 - (gK m k).2.1)
theorem lbx {B f n st d b : Nat} {c : Nat → Int32} {m : aN} (h : VC B c f n m) (e : EnvC B c st d b) : s_X6_loosenedByNext (nI f) (nI n) c = some (nI (lnN st d m)) := by
  have hm := h.2.2.2.2
  have hm1 := hm.2.1
  simp (disch := omega) only [s_X6_loosenedByNext, kts h, ↓reduceIte, nI_lit, mO_lit, mO_lt, mO_le, mO_gt, mO_ge, mO_ne, mO_ne', nI_add, nI_mul, nI_addlit0, bsome, c_le_f, c_le_t, c_lt_f, c_lt_t, c_eq_f, c_eq_t, if_true, if_false, fld_n, fst_n]
  rw [lsum (fun a x i => s_X6_loosenedByNext_L13 (nI f) (nI n) (nI m.length) c a x i) m.length (fun k => nI (lbN st d k (gK m k) 1 - (gK m k).2.1)) (by omega)]
  · simp only [sI_nI, bsome, nI_add, Nat.zero_add]; rfl
  · intro a i x hi
    have hl := lbN_ge (st := st) (d := d) (k := i) (s := 1) (x := gK m i)
    simp (disch := omega) only [s_X6_loosenedByNext_L13, ↓reduceIte, nI_lit, mO_lit, mO_lt, mO_le, mO_gt, mO_ge, mO_ne, mO_ne', nI_add, nI_mul, nI_addlit0, bsome, c_le_f, c_le_t, c_lt_f, c_lt_t, c_eq_f, c_eq_t, if_true, if_false, fld_n, fst_n, lsd h hi]
    rw [lbh h e hi (by omega)]
    simp (disch := omega) only [↓reduceIte, nI_lit, mO_lit, mO_lt, mO_le, mO_gt, mO_ge, mO_ne, mO_ne', nI_add, nI_mul, nI_addlit0, bsome, c_le_f, c_le_t, c_lt_f, c_lt_t, c_eq_f, c_eq_t, if_true, if_false, fld_n, fst_n, nI_sub]
  · intro a x
    simp (disch := omega) only [s_X6_loosenedByNext_L13, ↓reduceIte, nI_lit, mO_lit, mO_lt, mO_le, mO_gt, mO_ge, mO_ne, mO_ne', nI_add, nI_mul, nI_addlit0, bsome, c_le_f, c_le_t, c_lt_f, c_lt_t, c_eq_f, c_eq_t, if_true, if_false, fld_n, fst_n]
