/-! the class: letters, all, the list, the digest -/
def olI (S : aS) (l w : Nat) : Int32 := if w = 0 then nI l / nI 4 + nI 1 else if w = 1 then nI l - nI l / nI 4 * nI 4 else if w = 2 then ckI (nI l) else if w = 3 then bI (vow l) else if w = 4 then sA S (fun m => nI (kN 2 (nI l) m)) else sA S (fun m => nI (kN 3 (nI l) m))
theorem oLe {B l w : Nat} {S : aS} {c : Nat → Int32} (h : IC B S c) (hl : l < 16) (hw : w ≤ 5) : s_X8_ofLetter (nI l) (nI w) c = some (olI S l w) := by
  simp (disch := omega) only [s_X8_ofLetter, s_X0_turns, s_X0_loops, cordK, vowI, kTA h, ↓reduceIte, nI_lit, mO_lit, mO_lt, mO_le, mO_gt, mO_ge, mO_ne, mO_ne', nI_add, nI_mul, nI_addlit0, bsome, c_le_f, c_le_t, c_lt_f, c_lt_t, c_eq_f, c_eq_t, if_true, if_false, fld_n, fst_n]
  unfold olI
  rcases (by omega : w = 0 ∨ w = 1 ∨ w = 2 ∨ w = 3 ∨ w = 4 ∨ w = 5) with rfl | rfl | rfl | rfl | rfl | rfl
  · simp (disch := omega) only [↓reduceIte, nI_lit, mO_lit, mO_lt, mO_le, mO_gt, mO_ge, mO_ne, mO_ne', nI_add, nI_mul, nI_addlit0, bsome, c_le_f, c_le_t, c_lt_f, c_lt_t, c_eq_f, c_eq_t, if_true, if_false, fld_n, fst_n]
  · simp (disch := omega) only [↓reduceIte, nI_lit, mO_lit, mO_lt, mO_le, mO_gt, mO_ge, mO_ne, mO_ne', nI_add, nI_mul, nI_addlit0, bsome, c_le_f, c_le_t, c_lt_f, c_lt_t, c_eq_f, c_eq_t, if_true, if_false, fld_n, fst_n]; rfl
  · simp (disch := omega) only [↓reduceIte, nI_lit, mO_lit, mO_lt, mO_le, mO_gt, mO_ge, mO_ne, mO_ne', nI_add, nI_mul, nI_addlit0, bsome, c_le_f, c_le_t, c_lt_f, c_lt_t, c_eq_f, c_eq_t, if_true, if_false, fld_n, fst_n]; rfl
  · cases vow l <;> simp (disch := omega) only [bI, ↓reduceIte, nI_lit, mO_lit, mO_lt, mO_le, mO_gt, mO_ge, mO_ne, mO_ne', nI_add, nI_mul, nI_addlit0, bsome, c_le_f, c_le_t, c_lt_f, c_lt_t, c_eq_f, c_eq_t, if_true, if_false, fld_n, fst_n] <;> rfl
  · simp (disch := omega) only [↓reduceIte, nI_lit, mO_lit, mO_lt, mO_le, mO_gt, mO_ge, mO_ne, mO_ne', nI_add, nI_mul, nI_addlit0, bsome, c_le_f, c_le_t, c_lt_f, c_lt_t, c_eq_f, c_eq_t, if_true, if_false, fld_n, fst_n]; rfl
  · simp (disch := omega) only [↓reduceIte, nI_lit, mO_lit, mO_lt, mO_le, mO_gt, mO_ge, mO_ne, mO_ne', nI_add, nI_mul, nI_addlit0, bsome, c_le_f, c_le_t, c_lt_f, c_lt_t, c_eq_f, c_eq_t, if_true, if_false, fld_n, fst_n]; rfl
def oaI (S : aS) (w : Nat) : Int32 := if w = 0 then sI 5 (fun f => fN S f 1) else if w = 1 then nI (sSt S) else if w = 2 then sA S cdN else if w = 3 then cBLI S else if w = 4 then sCt S else if w = 5 then sA S (fun m => nI (kN 1 mO m)) else if w = 6 then nI (sE S).length else if w = 7 then sI 5 (fun f => fN S f 2) else if w = 8 then sI 5 (fun f => fN S f 3) else if w = 9 then sKt S else if w = 10 then fwI S else if w = 11 then nI (sD S) else nI (sBo S)
theorem oAl {B w : Nat} {S : aS} {c : Nat → Int32} (h : IC B S c) (hw : w ≤ 12) : s_X8_ofAll (nI w) c = some (oaI S w) := by
  obtain ⟨c0, c1, c2, c3, c4, c5, c6, c7⟩ := h.1.1
  unfold oaI
  rcases (by omega : w = 0 ∨ w = 1 ∨ w = 2 ∨ w = 3 ∨ w = 4 ∨ w = 5 ∨ w = 6 ∨ w = 7 ∨ w = 8 ∨ w = 9 ∨ w = 10 ∨ w = 11 ∨ w = 12) with rfl | rfl | rfl | rfl | rfl | rfl | rfl | rfl | rfl | rfl | rfl | rfl | rfl <;> simp (disch := omega) only [s_X8_ofAll, ↓reduceIte, nI_lit, mO_lit, mO_lt, mO_le, mO_gt, mO_ge, mO_ne, mO_ne', nI_add, nI_mul, nI_addlit0, bsome, c_le_f, c_le_t, c_lt_f, c_lt_t, c_eq_f, c_eq_t, if_true, if_false, fld_n, fst_n, nmA h, at_ok, cBN h, cBL h, kTA h, oFs h, fwS h, c0, c1, c2, c3, c4, c7] <;> rfl
/-- the list -/
def eqB (a w : List Nat) : Bool := decide (a.length = w.length) && !(anyB w.length (fun k => decide (a.getD k 0 ≠ w.getD k 0)))
theorem iSp {B i : Nat} {S : aS} {c : Nat → Int32} {w : List Nat} {sz : Int32} {lt : Nat → Int32} (h : IC B S c) (hi : i < (sE S).length) (hw : RepW w sz lt) : s_X6_isSpelled (nI i) c sz lt = some (bI (eqB (gE (sE S) i).1 w)) := by
  have hE := h.2.2.2.1
  obtain ⟨w1, w2, w3⟩ := id hw
  obtain ⟨e1, e2, e3, e4⟩ := h.1.2.2 i hi
  obtain ⟨o1, o2, o3, o4⟩ := h.2.2.2.2 i hi
  have hec : ec i + 10 < 910 := by unfold ec; omega
  subst w1
  unfold eqB
  simp (disch := omega) only [s_X6_isSpelled, ecell, at_ok, Nat.add_zero, e1, s_X9_size, ↓reduceIte, nI_lit, mO_lit, mO_lt, mO_le, mO_gt, mO_ge, mO_ne, mO_ne', nI_add, nI_mul, nI_addlit0, bsome, c_le_f, c_le_t, c_lt_f, c_lt_t, c_eq_f, c_eq_t, if_true, if_false, fld_n, fst_n]
  by_cases hq : (gE (sE S) i).1.length = w.length
  · simp (disch := omega) only [↓reduceIte, nI_lit, mO_lit, mO_lt, mO_le, mO_gt, mO_ge, mO_ne, mO_ne', nI_add, nI_mul, nI_addlit0, bsome, c_le_f, c_le_t, c_lt_f, c_lt_t, c_eq_f, c_eq_t, if_true, if_false, fld_n, fst_n]
    rcases lfind (fun a j => s_X6_isSpelled_L20 (nI i) c (nI w.length) lt a j) 0 w.length (fun k => decide ((gE (sE S) i).1.getD k 0 ≠ w.getD k 0)) (fun _ => nI 0) (by omega) (fun a j hj hp => by
        have hp := of_decide_eq_false hp
        have hp : (gE (sE S) i).1.getD j 0 = w.getD j 0 := Decidable.not_not.mp hp
        rw [Nat.zero_add]
        simp (disch := omega) only [s_X6_isSpelled_L20, s_X9_size, ↓reduceIte, nI_lit, mO_lit, mO_lt, mO_le, mO_gt, mO_ge, mO_ne, mO_ne', nI_add, nI_mul, nI_addlit0, bsome, c_le_f, c_le_t, c_lt_f, c_lt_t, c_eq_f, c_eq_t, if_true, if_false, fld_n, fst_n, ecell, at_ok, e4 j (by omega), wat hw hj, hp]) (fun a j hj hp => by
        have hp := of_decide_eq_true hp
        have r1 := o4 j (by omega)
        have r2 := (w3 j hj).2
        rw [Nat.zero_add]
        simp (disch := omega) only [s_X6_isSpelled_L20, s_X9_size, ↓reduceIte, nI_lit, mO_lit, mO_lt, mO_le, mO_gt, mO_ge, mO_ne, mO_ne', nI_add, nI_mul, nI_addlit0, bsome, c_le_f, c_le_t, c_lt_f, c_lt_t, c_eq_f, c_eq_t, if_true, if_false, fld_n, fst_n, ecell, at_ok, e4 j (by omega), wat hw hj]) (fun a => by
        simp (disch := omega) only [s_X6_isSpelled_L20, s_X9_size, ↓reduceIte, nI_lit, mO_lit, mO_lt, mO_le, mO_gt, mO_ge, mO_ne, mO_ne', nI_add, nI_mul, nI_addlit0, bsome, c_le_f, c_le_t, c_lt_f, c_lt_t, c_eq_f, c_eq_t, if_true, if_false, fld_n, fst_n]) with ⟨j, h1, h2, h3, h4⟩ | ⟨h1, h2⟩
    · rw [h4, anyB_t h1 h2]; simp [hq]; rfl
    · rw [h2, anyB_f h1]; simp [hq]; rfl
  · simp (disch := omega) only [↓reduceIte, nI_lit, mO_lit, mO_lt, mO_le, mO_gt, mO_ge, mO_ne, mO_ne', nI_add, nI_mul, nI_addlit0, bsome, c_le_f, c_le_t, c_lt_f, c_lt_t, c_eq_f, c_eq_t, if_true, if_false, fld_n, fst_n, decide_eq_false hq]
    rfl
def lastI : Nat → (Nat → Bool) → Int32
  | 0, _ => mO
  | n + 1, p => if p n = true then nI n else lastI n p
theorem lWi {B : Nat} {S : aS} {c : Nat → Int32} {w : List Nat} {sz : Int32} {lt : Nat → Int32} (h : IC B S c) (hw : RepW w sz lt) : s_X6_latestWith c sz lt = some (lastI (sE S).length (fun i => eqB (gE (sE S) i).1 w)) := by
  have hE := h.2.2.2.1
  have h7 := h.1.1.2.2.2.2.2.2.2
  simp (disch := omega) only [s_X6_latestWith, at_ok, h7, ↓reduceIte, nI_lit, mO_lit, mO_lt, mO_le, mO_gt, mO_ge, mO_ne, mO_ne', nI_add, nI_mul, nI_addlit0, bsome, c_le_f, c_le_t, c_lt_f, c_lt_t, c_eq_f, c_eq_t, if_true, if_false, fld_n, fst_n]
  have key : ∀ (n fuel : Nat), n ≤ (sE S).length → n < fuel → (s_X6_latestWith_L9 c sz lt fuel (nI n - nI 1)).bind (fun r3 => fsum r3 (fun r9 => some r9) (fun e4 => some mO)) = some (lastI n (fun i => eqB (gE (sE S) i).1 w)) := by
    intro n
    induction n with
    | zero =>
      intro fuel h1 h2
      obtain ⟨a, rfl⟩ : ∃ a, fuel = a + 1 := ⟨fuel - 1, by omega⟩
      rw [show nI 0 - nI 1 = mO from rfl]
      simp (disch := omega) only [s_X6_latestWith_L9, ↓reduceIte, nI_lit, mO_lit, mO_lt, mO_le, mO_gt, mO_ge, mO_ne, mO_ne', nI_add, nI_mul, nI_addlit0, bsome, c_le_f, c_le_t, c_lt_f, c_lt_t, c_eq_f, c_eq_t, if_true, if_false, fld_n, fst_n]
      rfl
    | succ n ih =>
      intro fuel h1 h2
      obtain ⟨a, rfl⟩ : ∃ a, fuel = a + 1 := ⟨fuel - 1, by omega⟩
      rw [nI_sub (by omega), show n + 1 - 1 = n from rfl]
      simp (disch := omega) only [s_X6_latestWith_L9, ↓reduceIte, nI_lit, mO_lit, mO_lt, mO_le, mO_gt, mO_ge, mO_ne, mO_ne', nI_add, nI_mul, nI_addlit0, bsome, c_le_f, c_le_t, c_lt_f, c_lt_t, c_eq_f, c_eq_t, if_true, if_false, fld_n, fst_n, iSp h (i := n) (by omega) hw]
      show _ = some (if eqB (gE (sE S) n).1 w = true then nI n else lastI n _)
      cases hq : eqB (gE (sE S) n).1 w with
      | true => simp (disch := omega) only [bI, ↓reduceIte, nI_lit, mO_lit, mO_lt, mO_le, mO_gt, mO_ge, mO_ne, mO_ne', nI_add, nI_mul, nI_addlit0, bsome, c_le_f, c_le_t, c_lt_f, c_lt_t, c_eq_f, c_eq_t, if_true, if_false, fld_n, fst_n]; rfl
      | false =>
        simp (disch := omega) only [bI_f, ↓reduceIte, nI_lit, mO_lit, mO_lt, mO_le, mO_gt, mO_ge, mO_ne, mO_ne', nI_add, nI_mul, nI_addlit0, bsome, c_le_f, c_le_t, c_lt_f, c_lt_t, c_eq_f, c_eq_t, if_true, if_false, fld_n, fst_n]
        rw [if_neg (by simp), show nI n + mO = nI n - nI 1 from by unfold mO; rw [show nI 1 = 1 from rfl]; grind]
        exact ih a (by omega) (by omega)
  exact key (sE S).length gF (by omega) (by unfold gF; omega)
/-- the hash -/
def mx (v : Int32) (h : Int64) : Int64 := 31 * h + Int32.toInt64 v
theorem lhash (F : Nat → Int64 → Int32 → Option (Int64 × Int32)) (N : Nat) (f : Nat → Int32) (hN : N < 6000)
    (hs : ∀ n i x, i < N → F (n + 1) x (nI i) = F n (mx (f i) x) (nI (i + 1))) (he : ∀ n x, F (n + 1) x (nI N) = some (x, nI N)) (x : Int64) : F gF x (nI 0) = some (it N (fun i x => mx (f i) x) x, nI N) :=
  lacc F N (fun i x => mx (f i) x) hN hs he x
theorem dLe {B : Nat} {S : aS} {c : Nat → Int32} (h : IC B S c) (z : Int64) : s_X2_withLetters z c = some (it 16 (fun l => it 6 (fun w => mx (olI S l w))) z) := by
  simp (disch := omega) only [s_X2_withLetters, ↓reduceIte, nI_lit, mO_lit, mO_lt, mO_le, mO_gt, mO_ge, mO_ne, mO_ne', nI_add, nI_mul, nI_addlit0, bsome, c_le_f, c_le_t, c_lt_f, c_lt_t, c_eq_f, c_eq_t, if_true, if_false, fld_n, fst_n]
  rw [lacc (fun a x i => s_X2_withLetters_L5 c a x i) 16 (fun l x => it 6 (fun w x => mx (olI S l w) x) x) (by omega)]
  · rfl
  · intro a l x hl
    simp (disch := omega) only [s_X2_withLetters_L5, ↓reduceIte, nI_lit, mO_lit, mO_lt, mO_le, mO_gt, mO_ge, mO_ne, mO_ne', nI_add, nI_mul, nI_addlit0, bsome, c_le_f, c_le_t, c_lt_f, c_lt_t, c_eq_f, c_eq_t, if_true, if_false, fld_n, fst_n]
    rw [lhash (fun a x i => s_X2_withLetters_L15 (nI l) c a x i) 6 (fun w => olI S l w) (by omega)]
    · rfl
    · intro a i x hi
      simp (disch := omega) only [s_X2_withLetters_L15, ↓reduceIte, nI_lit, mO_lit, mO_lt, mO_le, mO_gt, mO_ge, mO_ne, mO_ne', nI_add, nI_mul, nI_addlit0, bsome, c_le_f, c_le_t, c_lt_f, c_lt_t, c_eq_f, c_eq_t, if_true, if_false, fld_n, fst_n, oLe h hl]
      rfl
    · intro a x
      simp (disch := omega) only [s_X2_withLetters_L15, ↓reduceIte, nI_lit, mO_lit, mO_lt, mO_le, mO_gt, mO_ge, mO_ne, mO_ne', nI_add, nI_mul, nI_addlit0, bsome, c_le_f, c_le_t, c_lt_f, c_lt_t, c_eq_f, c_eq_t, if_true, if_false, fld_n, fst_n]
  · intro a x
    simp (disch := omega) only [s_X2_withLetters_L5, ↓reduceIte, nI_lit, mO_lit, mO_lt, mO_le, mO_gt, mO_ge, mO_ne, mO_ne', nI_add, nI_mul, nI_addlit0, bsome, c_le_f, c_le_t, c_lt_f, c_lt_t, c_eq_f, c_eq_t, if_true, if_false, fld_n, fst_n]
