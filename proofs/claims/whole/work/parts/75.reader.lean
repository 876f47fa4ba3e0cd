/-! the class: its reader -/
theorem ca_ : ∀ p, p < 6 → ∀ k, k < (ptn p).length → s_J0_charAt_5068e p (nI k) = some (nI ((ptn p).getD k 0)) := by decide +kernel
theorem sln_ : ∀ p, p < 6 → s_J0_length_8abf5 p = some (nI (ptn p).length) := by decide +kernel
theorem mayE : ∀ p, p < 6 → ∀ k, k < 14 → s_X5_mayEnd p (nI k) = some (bI (mE p k)) := by decide +kernel
theorem tk0 : ∀ p, p < 6 → ∀ x, x < 127 → s_X5_takes (nI x) p (nI 0) = some (if pOf x = 0 then (nI 0, 0, nI 0) else (nI 1, pOf x, nI 1)) := by decide +kernel
def tkR (p k x : Nat) : Int32 × Nat × Int32 := if (decide (x = 59) && mE p (k + 1)) = true then (nI 1, p, nI 0) else if (decide (k + 1 < (ptn p).length) && fitB ((ptn p).getD (k + 1) 0) x) = true then (nI 1, p, nI (k + 2)) else (nI 0, p, nI (k + 1))
def tkQ (p k x : Nat) : Bool := decide (s_X5_takes (nI x) p (nI (k + 1)) = some (tkR p k x))
theorem tkMQ : ∀ p, p < 6 → ∀ k, k < (ptn p).length → ∀ x, x < 127 → tkQ p k x = true := by decide +kernel
theorem tkM (p : Nat) (hp : p < 6) (k : Nat) (hk : k < (ptn p).length) (x : Nat) (hx : x < 127) : s_X5_takes (nI x) p (nI (k + 1)) = some (if (decide (x = 59) && mE p (k + 1)) = true then (nI 1, p, nI 0) else if (decide (k + 1 < (ptn p).length) && fitB ((ptn p).getD (k + 1) 0) x) = true then (nI 1, p, nI (k + 2)) else (nI 0, p, nI (k + 1))) := of_decide_eq_true (tkMQ p hp k hk x hx)
theorem rdE {b : List Nat} {cs : Nat → Int32} (h : RepB b (nI b.length) cs) {n j p : Nat} {k : Int32} (hj : j = b.length) : s_X5_readAll_L13 (nI b.length) cs (n + 1) (nI j) p k = some (.inr (nI j, p, k)) := by
  have h60 := h.2.1
  subst hj
  simp (disch := omega) only [s_X5_readAll_L13, s_X1_size, ↓reduceIte, nI_lit, mO_lit, mO_lt, mO_le, mO_gt, mO_ge, mO_ne, mO_ne', nI_add, nI_mul, nI_addlit0, bsome, c_le_f, c_le_t, c_lt_f, c_lt_t, c_eq_f, c_eq_t, if_true, if_false, fld_n, fst_n]
theorem rd0 {b : List Nat} {cs : Nat → Int32} (h : RepB b (nI b.length) cs) {n j p p' : Nat} {k k' : Int32} (hj : j < b.length) (ht : s_X5_takes (nI (gB b j)) p k = some (nI 0, p', k')) : s_X5_readAll_L13 (nI b.length) cs (n + 1) (nI j) p k = some (.inl (nI j, p', k')) := by
  have h60 := h.2.1
  have hb := bat h hj
  unfold gB at ht
  simp (disch := omega) only [s_X5_readAll_L13, s_X1_size, ↓reduceIte, nI_lit, mO_lit, mO_lt, mO_le, mO_gt, mO_ge, mO_ne, mO_ne', nI_add, nI_mul, nI_addlit0, bsome, c_le_f, c_le_t, c_lt_f, c_lt_t, c_eq_f, c_eq_t, if_true, if_false, fld_n, fst_n, hb, ht]
theorem rdS {b : List Nat} {cs : Nat → Int32} (h : RepB b (nI b.length) cs) {n j p p' : Nat} {k k' : Int32} (hj : j < b.length) (ht : s_X5_takes (nI (gB b j)) p k = some (nI 1, p', k')) : s_X5_readAll_L13 (nI b.length) cs (n + 1) (nI j) p k = s_X5_readAll_L13 (nI b.length) cs n (nI (j + 1)) p' k' := by
  have h60 := h.2.1
  have hb := bat h hj
  unfold gB at ht
  simp (disch := omega) only [s_X5_readAll_L13, s_X1_size, ↓reduceIte, nI_lit, mO_lit, mO_lt, mO_le, mO_gt, mO_ge, mO_ne, mO_ne', nI_add, nI_mul, nI_addlit0, bsome, c_le_f, c_le_t, c_lt_f, c_lt_t, c_eq_f, c_eq_t, if_true, if_false, fld_n, fst_n, hb, ht]
theorem gB_127 {b : List Nat} {sz : Int32} {cs : Nat → Int32} (h : RepB b sz cs) {j : Nat} (hj : j < b.length) : gB b j < 127 := by
  have := (h.2.2 j hj).2.2
  unfold gB; omega
theorem rdI {b : List Nat} {cs : Nat → Int32} (h : RepB b (nI b.length) cs) {p i n : Nat} (hp : p < 6) : ∀ (m k : Nat), k + m = mtN b (ptn p) i → 1 ≤ k → s_X5_readAll_L13 (nI b.length) cs (n + m) (nI (i + k)) p (nI k) = s_X5_readAll_L13 (nI b.length) cs n (nI (i + mtN b (ptn p) i)) p (nI (mtN b (ptn p) i)) := by
  intro m
  induction m with
  | zero =>
    intro k hk _
    rw [Nat.add_zero] at hk
    rw [← hk, Nat.add_zero]
  | succ m ih =>
    intro k hk h1
    have hlt : k < mtN b (ptn p) i := by omega
    obtain ⟨f1, f2⟩ := tkB_lt (mtN_fit b (ptn p) i k hlt)
    have hle := mtN_le b (ptn p) i
    have h127 := gB_127 h f1
    have ht := tkM p hp (k - 1) (by omega) (gB b (i + k)) h127
    rw [show k - 1 + 1 = k from by omega, show k - 1 + 2 = k + 1 from by omega] at ht
    have h59 : gB b (i + k) ≠ 59 := fun e => by
      have := ptn_59 p hp k (by omega)
      rw [e] at f2
      rw [f2] at this; cases this
    rw [decide_eq_false h59, Bool.false_and, if_neg (by simp), decide_eq_true (show k < (ptn p).length by omega), f2, if_pos (by rfl)] at ht
    rw [show n + (m + 1) = n + m + 1 from rfl, rdS h f1 ht]
    exact ih (k + 1) (by omega) (by omega)
def rdK (b : List Nat) (r : (Int32 × Nat × Int32) ⊕ (Int32 × Nat × Int32)) : Option (Int32 × Nat × Int32) := fsum r (fun r9 => some r9) (fun e5 => some (nI b.length, e5.2.1, e5.2.2))
theorem rdO {b : List Nat} {cs : Nat → Int32} (h : RepB b (nI b.length) cs) : ∀ (n i p0 fuel : Nat), p0 < 6 → i ≤ b.length → b.length - i < n → b.length - i < fuel →
    ∃ e p' k', (s_X5_readAll_L13 (nI b.length) cs fuel (nI i) p0 (nI 0)).bind (rdK b) = some (nI e, p', nI k') ∧ e = (scn b n i).2 ∧ e ≤ b.length ∧ p' < 6 ∧ k' < 14 ∧ (e = b.length → mE p' k' = (scn b n i).1) := by
  intro n
  induction n with
  | zero => intro i p0 fuel _ _ h3; exact absurd h3 (Nat.not_lt_zero _)
  | succ n ih =>
    intro i p0 fuel hp0 hi hn hf
    obtain ⟨a, rfl⟩ : ∃ a, fuel = a + 1 := ⟨fuel - 1, by omega⟩
    have hsc : scn b (n + 1) i = if qO b i = true then (if qE b i = b.length then (true, b.length) else if gB b (qE b i) = 59 then scn b n (qE b i + 1) else (false, qE b i)) else (false, qE b i) := rfl
    rcases Nat.lt_or_ge i b.length with hl | hl
    · have h127 := gB_127 h hl
      have ht := tk0 p0 hp0 (gB b i) h127
      have hqP : qP b i = pOf (gB b i) := by unfold qP; rw [if_pos hl]
      by_cases q : pOf (gB b i) = 0
      · rw [if_pos q] at ht
        have hqM : qM b i = 0 := by unfold qM; rw [hqP, q]; rfl
        have hqE : qE b i = i := by unfold qE; rw [hqM]; rfl
        have hqO : qO b i = false := by unfold qO; rw [hqM]; rfl
        rw [hqO, if_neg (by simp), hqE] at hsc
        refine ⟨i, 0, 0, ?_, by rw [hsc], by omega, by omega, by omega, fun e => by omega⟩
        rw [rd0 h hl ht]; rfl
      · rw [if_neg q] at ht
        have hM := qM_pos hl h127 q
        have hp := pOf_le (gB b i)
        have hE := qE_le (b := b) hi
        have hMe : qM b i = mtN b (ptn (pOf (gB b i))) i := by unfold qM; rw [hqP]
        have hMl := mtN_le b (ptn (pOf (gB b i))) i
        have h13 := ptn_len _ hp
        have hEe : qE b i = i + qM b i := rfl
        have hqO : qO b i = mE (pOf (gB b i)) (qM b i) := by unfold qO; rw [hqP]
        have hI := rdI h (p := pOf (gB b i)) (i := i) (n := a + 1 - qM b i) hp (qM b i - 1) 1 (by omega) (by omega)
        rw [show a + 1 - qM b i + (qM b i - 1) = a from by omega, ← hMe, ← hEe] at hI
        rw [rdS h hl ht, hI]
        obtain ⟨a', ha'⟩ : ∃ a', a + 1 - qM b i = a' + 1 := ⟨a - qM b i, by omega⟩
        rw [ha']
        by_cases qe : qE b i = b.length
        · refine ⟨b.length, pOf (gB b i), qM b i, ?_, ?_, by omega, hp, by omega, fun _ => ?_⟩
          · rw [rdE h qe]; rfl
          · rw [hsc, if_pos qe]
            cases qO b i
            · show _ = qE b i; exact qe.symm
            · rfl
          · rw [hsc, if_pos qe, ← hqO]
            cases qO b i <;> rfl
        · have hEl : qE b i < b.length := by omega
          have h127' := gB_127 h hEl
          have ht2 := tkM (pOf (gB b i)) hp (qM b i - 1) (by omega) (gB b (qE b i)) h127'
          rw [show qM b i - 1 + 1 = qM b i from by omega, show qM b i - 1 + 2 = qM b i + 1 from by omega] at ht2
          rw [if_neg qe] at hsc
          by_cases q59' : (decide (gB b (qE b i) = 59) && mE (pOf (gB b i)) (qM b i)) = true
          · rw [if_pos q59'] at ht2
            rw [Bool.and_eq_true] at q59'
            rw [hqO, q59'.2, if_pos rfl, if_pos (of_decide_eq_true q59'.1)] at hsc
            obtain ⟨e, p', k', k1, k2, k3, k4, k5, k6⟩ := ih (qE b i + 1) (pOf (gB b i)) a' hp (by omega) (by omega) (by omega)
            refine ⟨e, p', k', ?_, by rw [hsc]; exact k2, k3, k4, k5, fun e0 => by rw [hsc]; exact k6 e0⟩
            rw [rdS h hEl ht2]; exact k1
          · rw [if_neg q59'] at ht2
            have hno : (decide (qM b i < (ptn (pOf (gB b i))).length) && fitB ((ptn (pOf (gB b i))).getD (qM b i) 0) (gB b (qE b i))) = false := by
              by_cases ql : qM b i < (ptn (pOf (gB b i))).length
              · have := mtN_stop b (ptn (pOf (gB b i))) i (by omega)
                rw [← hMe, ← hEe] at this
                unfold tkB at this
                rw [decide_eq_true hEl, Bool.true_and] at this
                rw [this, Bool.and_false]
              · rw [decide_eq_false ql, Bool.false_and]
            rw [hno, if_neg (by simp)] at ht2
            refine ⟨qE b i, pOf (gB b i), qM b i, ?_, ?_, by omega, hp, by omega, fun e => by omega⟩
            · rw [rd0 h hEl ht2]; rfl
            · rw [hsc]
              by_cases qo : qO b i = true
              · rw [if_pos qo, if_neg (fun e => q59' (by rw [Bool.and_eq_true]; exact ⟨decide_eq_true e, by rw [← hqO]; exact qo⟩))]
              · rw [if_neg qo]
    · have hL : i = b.length := by omega
      have hqP : qP b i = 0 := by unfold qP; rw [if_neg (by omega)]
      have hqM : qM b i = 0 := by unfold qM; rw [hqP]; rfl
      have hqE : qE b i = i := by unfold qE; rw [hqM]; rfl
      have hqO : qO b i = false := by unfold qO; rw [hqM]; rfl
      rw [hqO, if_neg (by simp), hqE] at hsc
      refine ⟨b.length, p0, 0, ?_, by rw [hsc]; exact hL.symm, by omega, hp0, by omega, fun _ => by rw [hsc]; rfl⟩
      rw [rdE h hL]; rfl
theorem rdA {b : List Nat} {sz : Int32} {cs : Nat → Int32} {pt : Nat} {pl : Int32} (h : RepB b sz cs) :
    ∃ e p' k', s_X5_readAll pt pl sz cs = some (nI e, p', nI k') ∧ e = (scn b 61 0).2 ∧ e ≤ b.length ∧ p' < 6 ∧ k' < 14 ∧ (e = b.length → mE p' k' = (scn b 61 0).1) := by
  have hs := h.1
  subst hs
  have h60 := h.2.1
  obtain ⟨e, p', k', k1, k2⟩ := rdO h 61 0 0 gF (by omega) (by omega) (by omega) (by unfold gF; omega)
  exact ⟨e, p', k', k1, k2⟩
