/-! the model: the state -/
def fm (f : Nat) : Nat := 8 + 4 * f
def em (i : Nat) : Nat := 358 + 4 * i
def ME (s : Nat → Int32) (i : Nat) (e : aE) : Prop := s (em i) = nI e.1.length ∧ s (em i + 1) = nI e.2.1 ∧ s (em i + 2) = e.2.2 ∧ s (em i + 3) = nI (pk e.1)
def RepM (S : aS) (s : Nat → Int32) : Prop :=
  (s 0 = nI (sSt S) ∧ s 1 = nI (sE S).length ∧ s 2 = sKt S ∧ s 3 = sCt S ∧ s 4 = nI (sD S) ∧ s 5 = nI (sBo S) ∧ s 6 = stI S 0 ∧ s 7 = stI S 1) ∧
  (∀ f, f < 5 → (s (fm f) = nI (sLn S f) ∧ s (fm f + 1) = nI (sB S f).length ∧ s (fm f + 2) = sLo S f ∧ s (fm f + 3) = sGi S f) ∧ ∀ n, n < (sB S f).length → MN s (wh f n) (nm S f n)) ∧
  ∀ i, i < (sE S).length → ME s i (gE (sE S) i)
def IM (B : Nat) (S : aS) (s : Nat → Int32) : Prop := RepM S s ∧ OKS B S
theorem IM.six {B : Nat} {S : aS} {s : Nat → Int32} (h : IM B S s) {f : Nat} (hf : f < 5) : (sB S f).length ≤ 6 := (h.2.2.1 f hf).1
theorem wh_lt {f n : Nat} (hf : f < 5) (hn : n < 6) : wh f n + 11 ≤ 358 := by unfold wh; omega
theorem IM.nam {B : Nat} {S : aS} {s : Nat → Int32} (h : IM B S s) {f n : Nat} (hf : f < 5) (hn : n < (sB S f).length) : VM B s (wh f n) (nm S f n) :=
  ⟨wh_lt hf (Nat.lt_of_lt_of_le hn (h.2.2.1 f hf).1), h.2.1.2.1, (h.1.2.1 f hf).2 n hn, (h.2.2.1 f hf).2.2.2 n hn⟩
theorem mof {B : Nat} {S : aS} {s : Nat → Int32} (h : IM B S s) {f j : Nat} (hf : f < 5) (hj : j < 4) : s_X11_of (nI f) (nI j) s = some (fN S f j) := by
  obtain ⟨h1, h2, h3, h4⟩ := (h.1.2.1 f hf).1
  unfold fm at h1 h2 h3 h4
  simp (disch := omega) only [s_X11_of, ↓reduceIte, nI_lit, mO_lit, mO_lt, mO_le, mO_gt, mO_ge, mO_ne, mO_ne', nI_add, nI_mul, nI_addlit0, bsome, c_le_f, c_le_t, c_lt_f, c_lt_t, c_eq_f, c_eq_t, if_true, if_false, fld_n, fst_n]
  unfold fN
  rcases (by omega : j = 0 ∨ j = 1 ∨ j = 2 ∨ j = 3) with rfl | rfl | rfl | rfl
  · simp [h1]
  · simp [h2]
  · simp [h3]
  · simp [h4]
theorem mof1 {B : Nat} {S : aS} {s : Nat → Int32} (h : IM B S s) {f : Nat} (hf : f < 5) : s_X11_of (nI f) (nI 1) s = some (nI (sB S f).length) := mof h hf (by omega)
theorem mof0 {B : Nat} {S : aS} {s : Nat → Int32} (h : IM B S s) {f : Nat} (hf : f < 5) : s_X11_of (nI f) (nI 0) s = some (nI (sLn S f)) := mof h hf (by omega)
def coI (S : aS) (f : Nat) : Int32 := sI (sB S f).length (fun n => cdN (nm S f n))
theorem mco {B : Nat} {S : aS} {s : Nat → Int32} (h : IM B S s) {f : Nat} (hf : f < 5) : s_X11_cordOn (nI f) s = some (coI S f) := by
  have h6 := h.six hf
  simp (disch := omega) only [s_X11_cordOn, ↓reduceIte, nI_lit, mO_lit, mO_lt, mO_le, mO_gt, mO_ge, mO_ne, mO_ne', nI_add, nI_mul, nI_addlit0, bsome, c_le_f, c_le_t, c_lt_f, c_lt_t, c_eq_f, c_eq_t, if_true, if_false, fld_n, fst_n]
  rw [lsum (fun a x i => s_X11_cordOn_L4 (nI f) s a x i) (sB S f).length (fun n => cdN (nm S f n)) (by omega)]
  · rw [show nI 0 = 0 from rfl, Int32.zero_add]; rfl
  · intro a i x hi
    simp (disch := omega) only [s_X11_cordOn_L4, ↓reduceIte, nI_lit, mO_lit, mO_lt, mO_le, mO_gt, mO_ge, mO_ne, mO_ne', nI_add, nI_mul, nI_addlit0, bsome, c_le_f, c_le_t, c_lt_f, c_lt_t, c_eq_f, c_eq_t, if_true, if_false, fld_n, fst_n, mof1 h hf, whr, mcd (h.nam hf hi)]
  · intro a x
    simp (disch := omega) only [s_X11_cordOn_L4, ↓reduceIte, nI_lit, mO_lit, mO_lt, mO_le, mO_gt, mO_ge, mO_ne, mO_ne', nI_add, nI_mul, nI_addlit0, bsome, c_le_f, c_le_t, c_lt_f, c_lt_t, c_eq_f, c_eq_t, if_true, if_false, fld_n, fst_n, mof1 h hf]
theorem mle {B : Nat} {S : aS} {s : Nat → Int32} (h : IM B S s) {f : Nat} (hf : f < 5) : s_X11_left (nI f) s = some (leftI S f) := by
  simp (disch := omega) only [s_X11_left, ↓reduceIte, nI_lit, mO_lit, mO_lt, mO_le, mO_gt, mO_ge, mO_ne, mO_ne', nI_add, nI_mul, nI_addlit0, bsome, c_le_f, c_le_t, c_lt_f, c_lt_t, c_eq_f, c_eq_t, if_true, if_false, fld_n, fst_n, mof0 h hf, mco h hf]
  rfl
/-- or of packed letters that don't meet -/
theorem btBig {a k i : Nat} (h : a < 16 ^ k) (hi : 4 * k ≤ i) : a.testBit i = false := by
  rw [p16] at h
  exact Nat.testBit_lt_two_pow (Nat.lt_of_lt_of_le h (Nat.pow_le_pow_right (by omega) hi))
theorem orL {a v k : Nat} (ha : a < 16 ^ k) (hv : v < 16) (hk : k < 8) : nI a ||| (nI v <<< (nI (4 * k) &&& nI 31)) = nI (a + v * 16 ^ k) := by
  refine b_ext fun i hi => ?_
  rw [b_or, show nI 31 = 31 from rfl, b_shl (4 * k) (by omega) _ hi, btN _ hi, btN _ hi]
  have e : (a + v * 16 ^ k).testBit i = if i < 4 * k then a.testBit i else v.testBit (i - 4 * k) := by
    rw [p16, Nat.mul_comm, Nat.add_comm]
    rw [p16] at ha
    exact Nat.testBit_two_pow_mul_add v ha i
  rw [e]
  by_cases q : i < 4 * k
  · rw [if_pos q]; simp [show ¬ 4 * k ≤ i from by omega]
  · rw [if_neg q, btBig ha (by omega), btN _ (by omega)]; simp [show 4 * k ≤ i from by omega]
theorem mrl {B w : Nat} {s : Nat → Int32} {m : aN} (h : VM B s w m) (hu : urB m = false) : s_X11_readLetters (nI w) s = some (nI (pk (rdL m))) := by
  have hk := mkn h
  have hm := h.2.2.2
  have h8 := hm.2.1
  obtain ⟨r1, r2, r3⟩ := rdL_ok hm hu
  have hlen : (rdL m).length = m.length := by unfold rdL; simp
  simp (disch := omega) only [s_X11_readLetters, ↓reduceIte, nI_lit, mO_lit, mO_lt, mO_le, mO_gt, mO_ge, mO_ne, mO_ne', nI_add, nI_mul, nI_addlit0, bsome, c_le_f, c_le_t, c_lt_f, c_lt_t, c_eq_f, c_eq_t, if_true, if_false, fld_n, fst_n]
  rw [lacc (fun a x i => s_X11_readLetters_L4 (nI w) s a x i) m.length (fun k x => x ||| (nI (rdN (gK m k)) <<< (nI (4 * k) &&& nI 31))) (by omega)]
  · have key : ∀ n, n ≤ m.length → it n (fun k x => x ||| (nI (rdN (gK m k)) <<< (nI (4 * k) &&& nI 31))) (nI 0) = nI (pk ((rdL m).take n)) := by
      intro n
      induction n with
      | zero => intro _; rfl
      | succ n ih =>
        intro hn
        show it n _ (nI 0) ||| _ = _
        have ht : ((rdL m).take n).length = n := by rw [List.length_take]; omega
        have hlt := pkL_lt ((rdL m).take n) (fun i hi => by rw [ht] at hi; rw [getD_take hi]; exact r3 i (by omega))
        rw [ht] at hlt
        have hv := r3 n (by omega)
        rw [rdL_getD m (by omega)] at hv
        rw [ih (by omega), orL hlt hv (by omega), take_succ_getD (by omega), pk_app, ht, rdL_getD m (by omega)]
    simp only [bsome]
    rw [key m.length (Nat.le_refl _), List.take_of_length_le (by omega)]
  · intro a i x hi
    simp (disch := omega) only [s_X11_readLetters_L4, ↓reduceIte, nI_lit, mO_lit, mO_lt, mO_le, mO_gt, mO_ge, mO_ne, mO_ne', nI_add, nI_mul, nI_addlit0, bsome, c_le_f, c_le_t, c_lt_f, c_lt_t, c_eq_f, c_eq_t, if_true, if_false, fld_n, fst_n, hk, mrd h hi]
  · intro a x
    simp (disch := omega) only [s_X11_readLetters_L4, ↓reduceIte, nI_lit, mO_lit, mO_lt, mO_le, mO_gt, mO_ge, mO_ne, mO_ne', nI_add, nI_mul, nI_addlit0, bsome, c_le_f, c_le_t, c_lt_f, c_lt_t, c_eq_f, c_eq_t, if_true, if_false, fld_n, fst_n, hk]
