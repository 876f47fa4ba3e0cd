/-! the class: the buffer is spelled -/
def spW (b : List Nat) (a e : Nat) : List Nat := (List.range (e - a)).map (fun k => b.getD (a + k) 0 - 97)
theorem spW_len (b : List Nat) (a e : Nat) : (spW b a e).length = e - a := by unfold spW; simp
theorem spW_getD (b : List Nat) (a e : Nat) {k : Nat} (h : k < e - a) : (spW b a e).getD k 0 = b.getD (a + k) 0 - 97 := by
  unfold spW
  simp only [List.getD_eq_getElem?_getD, List.getElem?_map, List.getElem?_range h]
  rfl
def ltB (x : Nat) : Bool := decide (97 ≤ x) && decide (x ≤ 112)
def spB (b : List Nat) (a e : Nat) : Bool := decide (a < e) && decide (e ≤ a + 8) && !(anyB (e - a) (fun k => !(ltB (b.getD (a + k) 0))))
theorem isC {x : Nat} (h : x < 1000) : s_X0_isCode (nI x) = some (bI (ltB x)) := by
  unfold ltB
  by_cases h1 : 97 ≤ x
  · by_cases h2 : x ≤ 112
    · simp (disch := omega) only [s_X0_isCode, ↓reduceIte, nI_lit, mO_lit, mO_lt, mO_le, mO_gt, mO_ge, mO_ne, mO_ne', nI_add, nI_mul, nI_addlit0, bsome, c_le_f, c_le_t, c_lt_f, c_lt_t, c_eq_f, c_eq_t, if_true, if_false, fld_n, fst_n, decide_eq_true h1, decide_eq_true h2]; rfl
    · simp (disch := omega) only [s_X0_isCode, ↓reduceIte, nI_lit, mO_lit, mO_lt, mO_le, mO_gt, mO_ge, mO_ne, mO_ne', nI_add, nI_mul, nI_addlit0, bsome, c_le_f, c_le_t, c_lt_f, c_lt_t, c_eq_f, c_eq_t, if_true, if_false, fld_n, fst_n, decide_eq_false h2, Bool.and_false, bI_f]
  · simp (disch := omega) only [s_X0_isCode, ↓reduceIte, nI_lit, mO_lit, mO_lt, mO_le, mO_gt, mO_ge, mO_ne, mO_ne', nI_add, nI_mul, nI_addlit0, bsome, c_le_f, c_le_t, c_lt_f, c_lt_t, c_eq_f, c_eq_t, if_true, if_false, fld_n, fst_n, decide_eq_false h1, Bool.false_and, bI_f]
theorem ltB_t {x : Nat} (h : ltB x = true) : 97 ≤ x ∧ x ≤ 112 := by
  unfold ltB at h
  rw [Bool.and_eq_true] at h
  exact ⟨of_decide_eq_true h.1, of_decide_eq_true h.2⟩
theorem spl {b : List Nat} {sz ws : Int32} {cs lt : Nat → Int32} (h : RepB b sz cs) {a e : Nat} (he : e ≤ b.length) (ha : a ≤ 60) :
    ∃ r, s_X1_spell (nI a) (nI e) sz cs ws lt = some r ∧ r.1 = bI (spB b a e) ∧ (spB b a e = true → RepW (spW b a e) r.2.1 r.2.2) := by
  have hb := h.2.1
  unfold spB
  by_cases q1 : a < e
  · rw [decide_eq_true q1]
    by_cases q2 : e ≤ a + 8
    · rw [decide_eq_true q2]
      have key := lp (fun x (y : Int32 × Int32 × (Nat → Int32)) => s_X1_spell_L22 (nI e) sz cs x y.1 y.2.1 y.2.2) (e - a)
        (fun i y => y.1 = nI (a + i) ∧ RepW ((spW b a e).take i) y.2.1 y.2.2 ∧ ∀ k, k < i → (!(ltB (b.getD (a + k) 0))) = false)
        (fun r => (∃ y : Int32 × Int32 × (Nat → Int32), r = .inl y ∧ y.1 = nI 0 ∧ anyB (e - a) (fun k => !(ltB (b.getD (a + k) 0))) = true) ∨ (∃ y : Int32 × Int32 × (Nat → Int32), r = .inr y ∧ RepW (spW b a e) y.2.1 y.2.2 ∧ anyB (e - a) (fun k => !(ltB (b.getD (a + k) 0))) = false))
        (fun i hi x y hy => by
          obtain ⟨x1, sz', lt'⟩ := y
          obtain ⟨y1, y2, y3⟩ := hy
          have y1 : x1 = nI (a + i) := y1
          subst y1
          have hat := bat h (i := a + i) (by omega)
          have hr := (h.2.2 (a + i) (by omega)).2
          cases q : ltB (b.getD (a + i) 0) with
          | false =>
            refine Or.inr ⟨.inl (nI 0, sz', lt'), ?_, Or.inl ⟨_, rfl, rfl, anyB_t hi (by rw [q]; rfl)⟩⟩
            simp (disch := omega) only [s_X1_spell_L22, ↓reduceIte, nI_lit, mO_lit, mO_lt, mO_le, mO_gt, mO_ge, mO_ne, mO_ne', nI_add, nI_mul, nI_addlit0, bsome, c_le_f, c_le_t, c_lt_f, c_lt_t, c_eq_f, c_eq_t, if_true, if_false, fld_n, fst_n, hat, isC, q, bI_f]
          | true =>
            have hl := ltB_t q
            have ht : ((spW b a e).take i).length = i := by rw [List.length_take, spW_len]; omega
            obtain ⟨r, r1, r2⟩ := wadd y2 (x := b.getD (a + i) 0 - 97) (by omega) (by omega)
            refine Or.inl ⟨(nI (a + (i + 1)), r.1, r.2), ?_, rfl, ?_, fun k hk => ?_⟩
            · have e1 : nI (b.getD (a + i) 0) - nI 97 = nI (b.getD (a + i) 0 - 97) := nI_sub hl.1
              simp (disch := omega) only [s_X1_spell_L22, ↓reduceIte, nI_lit, mO_lit, mO_lt, mO_le, mO_gt, mO_ge, mO_ne, mO_ne', nI_add, nI_mul, nI_addlit0, bsome, c_le_f, c_le_t, c_lt_f, c_lt_t, c_eq_f, c_eq_t, if_true, if_false, fld_n, fst_n, hat, isC, q, bI_t, e1]
              rw [r1]; rfl
            · rw [take_succ_getD (by rw [spW_len]; exact hi), spW_getD _ _ _ hi]; exact r2
            · by_cases e2 : k = i
              · subst e2; rw [q]; rfl
              · exact y3 k (by omega))
        (fun x y hy => by
          obtain ⟨x1, sz', lt'⟩ := y
          obtain ⟨y1, y2, y3⟩ := hy
          have y1 : x1 = nI (a + (e - a)) := y1
          rw [show a + (e - a) = e from by omega] at y1
          subst y1
          refine ⟨.inr (nI e, sz', lt'), by simp (disch := omega) only [s_X1_spell_L22, ↓reduceIte, nI_lit, mO_lit, mO_lt, mO_le, mO_gt, mO_ge, mO_ne, mO_ne', nI_add, nI_mul, nI_addlit0, bsome, c_le_f, c_le_t, c_lt_f, c_lt_t, c_eq_f, c_eq_t, if_true, if_false, fld_n, fst_n], Or.inr ⟨_, rfl, ?_, anyB_f y3⟩⟩
          rw [List.take_of_length_le (by rw [spW_len]; exact Nat.le_refl _)] at y2
          exact y2)
        (e - a) 0 gF (nI a, nI 0, lt) (by omega) (by unfold gF; omega) ⟨rfl, ⟨rfl, by simp, fun k hk => by simp at hk⟩, fun k hk => by omega⟩
      obtain ⟨r, k1, k2⟩ := key
      have k1 : s_X1_spell_L22 (nI e) sz cs gF (nI a) (nI 0) lt = some r := k1
      have e3 : nI e - nI a = nI (e - a) := nI_sub (by omega)
      rcases k2 with ⟨y, rfl, k2, k3⟩ | ⟨y, rfl, k2, k3⟩
      · refine ⟨y, ?_, ?_, fun c => ?_⟩
        · simp (disch := omega) only [s_X1_spell, s_X9_empty, ↓reduceIte, nI_lit, mO_lit, mO_lt, mO_le, mO_gt, mO_ge, mO_ne, mO_ne', nI_add, nI_mul, nI_addlit0, bsome, c_le_f, c_le_t, c_lt_f, c_lt_t, c_eq_f, c_eq_t, if_true, if_false, fld_n, fst_n, e3, k1]; rfl
        · rw [k2, k3]; rfl
        · rw [k3] at c; cases c
      · refine ⟨(nI 1, y.2.1, y.2.2), ?_, ?_, fun _ => k2⟩
        · simp (disch := omega) only [s_X1_spell, s_X9_empty, ↓reduceIte, nI_lit, mO_lit, mO_lt, mO_le, mO_gt, mO_ge, mO_ne, mO_ne', nI_add, nI_mul, nI_addlit0, bsome, c_le_f, c_le_t, c_lt_f, c_lt_t, c_eq_f, c_eq_t, if_true, if_false, fld_n, fst_n, e3, k1]; rfl
        · rw [k3]; rfl
    · rw [decide_eq_false q2]
      have e3 : nI e - nI a = nI (e - a) := nI_sub (by omega)
      exact ⟨(nI 0, nI 0, lt), by simp (disch := omega) only [s_X1_spell, s_X9_empty, ↓reduceIte, nI_lit, mO_lit, mO_lt, mO_le, mO_gt, mO_ge, mO_ne, mO_ne', nI_add, nI_mul, nI_addlit0, bsome, c_le_f, c_le_t, c_lt_f, c_lt_t, c_eq_f, c_eq_t, if_true, if_false, fld_n, fst_n, e3], by simp [bI], by simp⟩
  · rw [decide_eq_false q1]
    exact ⟨(nI 0, nI 0, lt), by simp (disch := omega) only [s_X1_spell, s_X9_empty, ↓reduceIte, nI_lit, mO_lit, mO_lt, mO_le, mO_gt, mO_ge, mO_ne, mO_ne', nI_add, nI_mul, nI_addlit0, bsome, c_le_f, c_le_t, c_lt_f, c_lt_t, c_eq_f, c_eq_t, if_true, if_false, fld_n, fst_n], by simp [bI], by simp⟩
def wB (b : List Nat) : Bool := spB b 0 b.length
def wW (b : List Nat) : List Nat := spW b 0 b.length
theorem wW_ok {b : List Nat} (h : wB b = true) : 1 ≤ (wW b).length ∧ (wW b).length ≤ 8 ∧ ∀ k, k < (wW b).length → (wW b).getD k 0 < 16 := by
  unfold wB spB at h
  simp only [Bool.and_eq_true, Bool.not_eq_true'] at h
  obtain ⟨⟨h1, h2⟩, h3⟩ := h
  have h1 := of_decide_eq_true h1
  have h2 := of_decide_eq_true h2
  have e : (wW b).length = b.length := by unfold wW; rw [spW_len]; omega
  refine ⟨by omega, by omega, fun k hk => ?_⟩
  rw [e] at hk
  unfold wW
  rw [spW_getD _ _ _ (by omega)]
  cases q : ltB (b.getD (0 + k) 0) with
  | true => have := ltB_t q; omega
  | false =>
    have := anyB_t (N := b.length - 0) (p := fun k => !(ltB (b.getD (0 + k) 0))) (i := k) (by omega) (by show (!(ltB (b.getD (0 + k) 0))) = true; rw [q]; rfl)
    rw [h3] at this; cases this
theorem nWd {b : List Nat} {sz ws : Int32} {cs lt : Nat → Int32} (h : RepB b sz cs) :
    ∃ r, s_X10_needWord sz cs ws lt = some r ∧ r.1 = (if wB b = true then .inl () else .inr "java/lang/IllegalArgumentException") ∧ (wB b = true → RepW (wW b) r.2.1 r.2.2) := by
  obtain ⟨r, h1, h2, h3⟩ := spl (ws := ws) (lt := lt) h (a := 0) (Nat.le_refl b.length) (by omega)
  have z0 : sz = nI b.length := h.1
  have z1 : s_X1_spells sz cs ws lt = some r := by
    unfold s_X1_spells
    refine bindE (a := r) ?_ ?_
    · rw [show s_X1_spell 0 sz sz cs ws lt = s_X1_spell (nI 0) (nI b.length) sz cs ws lt from by rw [← z0]; rfl]; exact h1
    · unfold fz
      rw [h2, if_pos (by cases spB b 0 b.length <;> simp [bI] <;> decide)]
      rw [← h2]
  unfold s_X10_needWord wB
  cases q : spB b 0 b.length with
  | true =>
    rw [q] at h2
    refine ⟨(.inl (), r.2.1, r.2.2), bindE z1 ?_, by simp, fun _ => h3 q⟩
    rw [h2, if_neg (by decide)]
  | false =>
    rw [q] at h2
    refine ⟨(.inr "java/lang/IllegalArgumentException", r.2.1, r.2.2), bindE z1 ?_, by simp, fun c => by cases c⟩
    rw [h2, if_pos (by decide)]
