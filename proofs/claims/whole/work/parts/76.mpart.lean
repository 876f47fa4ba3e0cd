/-! the model: it reads a part -/
theorem mnx {b : List Nat} {text : Nat → Int32} (h : RepB b (nI b.length) text) {lo hi q : Nat} (hl : lo < 1000) (hh : hi < 1000) (hq : q ≤ 100) : s_X11_isNext (nI lo) (nI hi) (nI b.length) (nI q) text = some (bI (decide (q < b.length) && (decide (lo ≤ gB b q) && decide (gB b q ≤ hi)))) := by
  have h60 := h.2.1
  by_cases hq1 : q < b.length
  · have h127 := gB_127 h hq1
    have ht := (h.2.2 q hq1).1
    have hm := min_ (a := gB b q) (lo := lo) (hi := hi) (by omega) (by omega) (by omega)
    rw [decide_eq_true hq1, Bool.true_and]
    unfold gB at hm ⊢
    simp (disch := omega) only [s_X11_isNext, ↓reduceIte, nI_lit, mO_lit, mO_lt, mO_le, mO_gt, mO_ge, mO_ne, mO_ne', nI_add, nI_mul, nI_addlit0, bsome, c_le_f, c_le_t, c_lt_f, c_lt_t, c_eq_f, c_eq_t, if_true, if_false, fld_n, fst_n, ht, hm]
    cases (decide (lo ≤ b.getD q 0) && decide (b.getD q 0 ≤ hi)) <;> simp (disch := omega) only [bI_t, bI_f, ↓reduceIte, nI_lit, mO_lit, mO_lt, mO_le, mO_gt, mO_ge, mO_ne, mO_ne', nI_add, nI_mul, nI_addlit0, bsome, c_le_f, c_le_t, c_lt_f, c_lt_t, c_eq_f, c_eq_t, if_true, if_false, fld_n, fst_n]
  · rw [decide_eq_false hq1, Bool.false_and]
    simp (disch := omega) only [s_X11_isNext, ↓reduceIte, nI_lit, mO_lit, mO_lt, mO_le, mO_gt, mO_ge, mO_ne, mO_ne', nI_add, nI_mul, nI_addlit0, bsome, c_le_f, c_le_t, c_lt_f, c_lt_t, c_eq_f, c_eq_t, if_true, if_false, fld_n, fst_n, bI_f]
theorem eqlB (c x : Nat) : (decide (c ≤ x) && decide (x ≤ c)) = decide (x = c) := by
  by_cases q : x = c
  · subst q; rw [decide_eq_true (Nat.le_refl x), decide_eq_true rfl]; rfl
  · rw [decide_eq_false q]
    by_cases q2 : c ≤ x
    · rw [decide_eq_false (show ¬ x ≤ c by omega), Bool.and_false]
    · rw [decide_eq_false q2, Bool.false_and]
def pln (c : Nat) : Prop := c ≠ 70 ∧ c ≠ 76 ∧ c ≠ 78 ∧ c < 1000
theorem fit_pln {c : Nat} (hc : pln c) (x : Nat) : fitB c x = decide (x = c) := by
  unfold fitB
  rw [if_neg hc.1, if_neg hc.2.1, if_neg hc.2.2.1]
theorem mtkE {b : List Nat} {text : Nat → Int32} (h : RepB b (nI b.length) text) {c q : Nat} (hc : pln c) (hq : q ≤ 100) : s_X11_takes (nI c) (nI b.length) (nI q) text = some (bI (tkB b c q), nI (q + bN (tkB b c q))) := by
  have hn := mnx h (lo := c) (hi := c) (q := q) hc.2.2.2 hc.2.2.2 hq
  rw [eqlB, ← fit_pln hc] at hn
  have e : tkB b c q = (decide (q < b.length) && fitB c (gB b q)) := rfl
  rw [← e] at hn
  refine bindE hn ?_
  have hz : ∀ {g : Option (Int32 × Int32)} {t : Bool}, fz (bI t) g = g := fz_b
  cases tkB b c q
  · rw [if_pos (show bI false = 0 from rfl), hz, Int32.add_zero]; rfl
  · rw [if_neg (by decide), hz, show (1 : Int32) = nI 1 from rfl, nI_add]; rfl
theorem mtkT {b : List Nat} {text : Nat → Int32} (h : RepB b (nI b.length) text) {c q : Nat} (hc : pln c) (hq : q ≤ 100) (ht : tkB b c q = true) : s_X11_takes (nI c) (nI b.length) (nI q) text = some (nI 1, nI (q + 1)) := by
  rw [mtkE h hc hq, ht]; rfl
theorem mtkF {b : List Nat} {text : Nat → Int32} (h : RepB b (nI b.length) text) {c q : Nat} (hc : pln c) (hq : q ≤ 100) (ht : tkB b c q = false) : s_X11_takes (nI c) (nI b.length) (nI q) text = some (nI 0, nI q) := by
  rw [mtkE h hc hq, ht]; rfl
def dgS (d : Nat) : Nat := if d = 4 then 70 else 78
theorem fit_dg {d x : Nat} (hd : d = 4 ∨ d = 5) : fitB (dgS d) x = (decide (48 ≤ x) && decide (x ≤ 48 + d)) := by
  rcases hd with rfl | rfl <;> rfl
theorem mdgT {b : List Nat} {text : Nat → Int32} (h : RepB b (nI b.length) text) {d q : Nat} (hd : d = 4 ∨ d = 5) (hq : q ≤ 100) (ht : tkB b (dgS d) q = true) : s_X11_digit (nI d) (nI b.length) (nI q) text = some (nI (gB b q - 48), nI (q + 1)) ∧ 48 ≤ gB b q ∧ gB b q ≤ 48 + d ∧ q < b.length := by
  have h60 := h.2.1
  obtain ⟨t1, t2⟩ := tkB_lt ht
  rw [fit_dg hd, Bool.and_eq_true] at t2
  have t3 := of_decide_eq_true t2.1
  have t4 := of_decide_eq_true t2.2
  have hx := (h.2.2 q t1).1
  have hn := mnx h (lo := 48) (hi := 48 + d) (q := q) (by omega) (by omega) hq
  rw [decide_eq_true t1, decide_eq_true t3, decide_eq_true t4] at hn
  refine ⟨?_, t3, t4, t1⟩
  have e : nI (b.getD q 0) - nI 48 = nI (gB b q - 48) := nI_sub t3
  have hn : s_X11_isNext (nI 48) (nI (48 + d)) (nI b.length) (nI q) text = some (nI 1) := hn
  simp (disch := omega) only [s_X11_digit, ↓reduceIte, nI_lit, mO_lit, mO_lt, mO_le, mO_gt, mO_ge, mO_ne, mO_ne', nI_add, nI_mul, nI_addlit0, bsome, c_le_f, c_le_t, c_lt_f, c_lt_t, c_eq_f, c_eq_t, if_true, if_false, fld_n, fst_n, hn, hx, e]
theorem mdgF {b : List Nat} {text : Nat → Int32} (h : RepB b (nI b.length) text) {d q : Nat} (hd : d = 4 ∨ d = 5) (hq : q ≤ 100) (ht : tkB b (dgS d) q = false) : s_X11_digit (nI d) (nI b.length) (nI q) text = some (mO, nI q) := by
  have hn := mnx h (lo := 48) (hi := 48 + d) (q := q) (by omega) (by omega) hq
  rw [← fit_dg hd] at hn
  have e : tkB b (dgS d) q = (decide (q < b.length) && fitB (dgS d) (gB b q)) := rfl
  rw [← e, ht] at hn
  have hn : s_X11_isNext (nI 48) (nI (48 + d)) (nI b.length) (nI q) text = some (nI 0) := hn
  simp (disch := omega) only [s_X11_digit, ↓reduceIte, nI_lit, mO_lit, mO_lt, mO_le, mO_gt, mO_ge, mO_ne, mO_ne', nI_add, nI_mul, nI_addlit0, bsome, c_le_f, c_le_t, c_lt_f, c_lt_t, c_eq_f, c_eq_t, if_true, if_false, fld_n, fst_n, hn]
theorem mlet {b : List Nat} {text : Nat → Int32} (h : RepB b (nI b.length) text) {q : Nat} (hq : q ≤ 80) : ∀ (r k fuel : Nat), k + r = 8 → r < fuel → s_X11_readLettersOfName_L8 (nI b.length) (nI q) text fuel (nI (q + k)) = some (nI (q + k + mtN b (List.replicate r 76) (q + k))) := by
  intro r
  induction r with
  | zero =>
    intro k fuel h1 h2
    obtain ⟨a, rfl⟩ : ∃ a, fuel = a + 1 := ⟨fuel - 1, by omega⟩
    have hn := mnx h (lo := 97) (hi := 112) (q := q + k) (by omega) (by omega) (by omega)
    show (s_X11_isNext 97 112 (nI b.length) (nI (q + k)) text).bind _ = some (nI (q + k + 0))
    refine bindE hn ?_
    have e1 : ¬ (nI (q + k) < nI q + 8) := by
      rw [show (8 : Int32) = nI 8 from rfl, nI_add]; exact nI_nlt (by omega) (by omega)
    cases (decide (q + k < b.length) && (decide (97 ≤ gB b (q + k)) && decide (gB b (q + k) ≤ 112)))
    · rw [if_pos (show bI false = 0 from rfl)]; rfl
    · rw [if_neg (by decide), if_pos (by rw [show (8 : Int32) = nI 8 from rfl, nI_add]; exact nI_le (by omega) (by omega))]; rfl
  | succ r ih =>
    intro k fuel h1 h2
    obtain ⟨a, rfl⟩ : ∃ a, fuel = a + 1 := ⟨fuel - 1, by omega⟩
    have hn := mnx h (lo := 97) (hi := 112) (q := q + k) (by omega) (by omega) (by omega)
    have e : tkB b 76 (q + k) = (decide (q + k < b.length) && (decide (97 ≤ gB b (q + k)) && decide (gB b (q + k) ≤ 112))) := rfl
    rw [← e] at hn
    show (s_X11_isNext 97 112 (nI b.length) (nI (q + k)) text).bind _ = some (nI (q + k + if tkB b 76 (q + k) = true then mtN b (List.replicate r 76) (q + k + 1) + 1 else 0))
    refine bindE hn ?_
    cases tkB b 76 (q + k)
    · rw [if_pos (show bI false = 0 from rfl)]; rfl
    · rw [if_neg (by decide), if_neg (by rw [show (8 : Int32) = nI 8 from rfl, nI_add]; exact nI_ge (by omega) (by omega)), if_pos rfl, show (1 : Int32) = nI 1 from rfl, nI_add, show q + k + 1 = q + (k + 1) from rfl, ih (k + 1) a (by omega) (by omega)]
      congr 2
      omega
theorem mlets {b : List Nat} {text : Nat → Int32} {bg : Int32} (h : RepB b (nI b.length) text) {q : Nat} (hq : q ≤ 80) : s_X11_readLettersOfName (nI b.length) (nI q) bg text = some (bI (decide (1 ≤ mtN b (List.replicate 8 76) q)), nI (q + mtN b (List.replicate 8 76) q), nI q) := by
  have h8 := mtN_le b (List.replicate 8 76) q
  rw [List.length_replicate] at h8
  have k1 := mlet h hq 8 0 gF (by omega) (by unfold gF; omega)
  rw [Nat.add_zero] at k1
  refine bindE k1 ?_
  by_cases q1 : 1 ≤ mtN b (List.replicate 8 76) q
  · rw [decide_eq_true q1, if_neg (nI_ge (by omega) (by omega))]; rfl
  · rw [decide_eq_false q1, if_pos (nI_le (by omega) (by omega))]; rfl
def plF (p : Nat) : Nat := if p = 2 then 5 else if p = 3 then 4 else if p = 4 then 4 else 3
def RP (b : List Nat) (q : Nat) (o : Option (Int32 × Int32 × Int32 × Int32 × Int32 × Int32 × Int32)) : Prop :=
  ∃ r, o = some r ∧ r.1 = bI (qO b q) ∧ r.2.1 = nI (qE b q) ∧ (qO b q = true → r.2.2.1 = nI (gB b q) ∧ r.2.2.2.1 = nI (gB b (q + plF (qP b q)) - 48) ∧
    (qP b q = 1 → r.2.2.2.2.2.2 = nI (q + 5)) ∧ (3 ≤ qP b q → r.2.2.2.2.1 = nI (gB b (q + plF (qP b q) + 2) - 48)) ∧ (qP b q = 3 → r.2.2.2.2.2.1 = nI (gB b (q + plF (qP b q) + 4) - 48)))
theorem RP_no {b : List Nat} {q m p : Nat} {o : Option (Int32 × Int32 × Int32 × Int32 × Int32 × Int32 × Int32)} (hP : qP b q = p) (hM : mtN b (ptn p) q = m) (hE : mE p m = false) (h : o.map (fun r => (r.1, r.2.1)) = some (nI 0, nI (q + m))) : RP b q o := by
  have hM' : qM b q = m := by unfold qM; rw [hP]; exact hM
  have hO : qO b q = false := by unfold qO; rw [hP, hM']; exact hE
  cases o with
  | none => cases h
  | some r =>
    obtain ⟨r1, r2, r3⟩ := r
    have h : some (r1, r2) = some (nI 0, nI (q + m)) := h
    injection h with h
    injection h with h1 h2
    refine ⟨_, rfl, ?_, ?_, fun c => ?_⟩
    · rw [hO]; exact h1
    · unfold qE; rw [hM']; exact h2
    · rw [hO] at c; cases c
theorem RP_yes {b : List Nat} {q m p : Nat} {o : Option (Int32 × Int32 × Int32 × Int32 × Int32 × Int32 × Int32)} {x1 x2 x3 x4 kd : Int32} (hP : qP b q = p) (hM : mtN b (ptn p) q = m) (hE : mE p m = true) (h : o = some (nI 1, nI (q + m), kd, x1, x2, x3, x4)) (hk : kd = nI (gB b q)) (h1 : x1 = nI (gB b (q + plF p) - 48))
    (h2 : p = 1 → x4 = nI (q + 5)) (h3 : 3 ≤ p → x2 = nI (gB b (q + plF p + 2) - 48)) (h4 : p = 3 → x3 = nI (gB b (q + plF p + 4) - 48)) : RP b q o := by
  have hM' : qM b q = m := by unfold qM; rw [hP]; exact hM
  have hO : qO b q = true := by unfold qO; rw [hP, hM']; exact hE
  refine ⟨_, h, ?_, ?_, fun _ => ?_⟩
  · rw [hO]; rfl
  · unfold qE; rw [hM']
  · rw [hP]; exact ⟨hk, h1, h2, h3, h4⟩
theorem rq1 {b : List Nat} {text : Nat → Int32} {kd on tw th bg : Int32} {q : Nat} (h : RepB b (nI b.length) text) (hq : q < b.length) (h9 : gB b q = 116) : RP b q (s_X11_readPart (nI b.length) (nI q) kd on tw th bg text) := by
  have h60 := h.2.1
  have hP : qP b q = 1 := by unfold qP; rw [if_pos hq, h9]; rfl
  have t0 : tkB b 116 q = true := by unfold tkB; rw [decide_eq_true hq, h9]; rfl
  have hk : text q = nI 116 := by have := (h.2.2 q hq).1; unfold gB at h9; rw [h9] at this; exact this
  have k0 := mtkT h (c := 116) (by unfold pln; omega) (by omega) t0
  cases t1 : tkB b 105 (q + 1) with
  | false =>
    have k1 := mtkF h (c := 105) (q := q + 1) (by unfold pln; omega) (by omega) t1
    refine RP_no (m := 1) hP ?_ rfl ?_
    · show mtN b [116, 105, 101, 70, 58, 76, 76, 76, 76, 76, 76, 76, 76] q = 1
      simp only [mtN, t0, t1, ↓reduceIte, Bool.false_eq_true, Nat.zero_add, Nat.reduceAdd]
    · simp (disch := omega) only [s_X11_readPart, s_X11_takesWord, ↓reduceIte, nI_lit, mO_lit, mO_lt, mO_le, mO_gt, mO_ge, mO_ne, mO_ne', nI_add, nI_mul, nI_addlit0, bsome, c_le_f, c_le_t, c_lt_f, c_lt_t, c_eq_f, c_eq_t, if_true, if_false, fld_n, fst_n, eq_self, hk, k0, k1]
      rfl
  | true =>
    have k1 := mtkT h (c := 105) (q := q + 1) (by unfold pln; omega) (by omega) t1
    cases t2 : tkB b 101 (q + 1 + 1) with
    | false =>
      have k2 := mtkF h (c := 101) (q := q + 1 + 1) (by unfold pln; omega) (by omega) t2
      refine RP_no (m := 2) hP ?_ rfl ?_
      · show mtN b [116, 105, 101, 70, 58, 76, 76, 76, 76, 76, 76, 76, 76] q = 2
        simp only [mtN, t0, t1, t2, ↓reduceIte, Bool.false_eq_true, Nat.zero_add, Nat.reduceAdd]
      · simp (disch := omega) only [s_X11_readPart, s_X11_takesWord, ↓reduceIte, nI_lit, mO_lit, mO_lt, mO_le, mO_gt, mO_ge, mO_ne, mO_ne', nI_add, nI_mul, nI_addlit0, bsome, c_le_f, c_le_t, c_lt_f, c_lt_t, c_eq_f, c_eq_t, if_true, if_false, fld_n, fst_n, eq_self, hk, k0, k1, k2]
        rfl
    | true =>
      have k2 := mtkT h (c := 101) (q := q + 1 + 1) (by unfold pln; omega) (by omega) t2
      cases t3 : tkB b 70 (q + 1 + 1 + 1) with
      | false =>
        have k3 := mdgF h (d := 4) (q := q + 1 + 1 + 1) (by omega) (by omega) t3
        refine RP_no (m := 3) hP ?_ rfl ?_
        · show mtN b [116, 105, 101, 70, 58, 76, 76, 76, 76, 76, 76, 76, 76] q = 3
          simp only [mtN, t0, t1, t2, t3, ↓reduceIte, Bool.false_eq_true, Nat.zero_add, Nat.reduceAdd]
        · simp (disch := omega) only [s_X11_readPart, s_X11_takesWord, ↓reduceIte, nI_lit, mO_lit, mO_lt, mO_le, mO_gt, mO_ge, mO_ne, mO_ne', nI_add, nI_mul, nI_addlit0, bsome, c_le_f, c_le_t, c_lt_f, c_lt_t, c_eq_f, c_eq_t, if_true, if_false, fld_n, fst_n, eq_self, hk, k0, k1, k2, k3]
          rfl
      | true =>
        obtain ⟨k3, u3, v3, w3⟩ := mdgT h (d := 4) (q := q + 1 + 1 + 1) (by omega) (by omega) t3
        cases t4 : tkB b 58 (q + 1 + 1 + 1 + 1) with
        | false =>
          have k4 := mtkF h (c := 58) (q := q + 1 + 1 + 1 + 1) (by unfold pln; omega) (by omega) t4
          refine RP_no (m := 4) hP ?_ rfl ?_
          · show mtN b [116, 105, 101, 70, 58, 76, 76, 76, 76, 76, 76, 76, 76] q = 4
            simp only [mtN, t0, t1, t2, t3, t4, ↓reduceIte, Bool.false_eq_true, Nat.zero_add, Nat.reduceAdd]
          · simp (disch := omega) only [s_X11_readPart, s_X11_takesWord, ↓reduceIte, nI_lit, mO_lit, mO_lt, mO_le, mO_gt, mO_ge, mO_ne, mO_ne', nI_add, nI_mul, nI_addlit0, bsome, c_le_f, c_le_t, c_lt_f, c_lt_t, c_eq_f, c_eq_t, if_true, if_false, fld_n, fst_n, eq_self, hk, k0, k1, k2, k3, k4]
            rfl
        | true =>
          have k4 := mtkT h (c := 58) (q := q + 1 + 1 + 1 + 1) (by unfold pln; omega) (by omega) t4
          have hl := mlets (bg := bg) h (q := q + 1 + 1 + 1 + 1 + 1) (by omega)
          have h8 := mtN_le b (List.replicate 8 76) (q + 1 + 1 + 1 + 1 + 1)
          rw [List.length_replicate] at h8
          have hM : mtN b (ptn 1) q = 5 + mtN b (List.replicate 8 76) (q + 1 + 1 + 1 + 1 + 1) := by
            show mtN b (116 :: 105 :: 101 :: 70 :: 58 :: List.replicate 8 76) q = _
            simp only [mtN, t0, t1, t2, t3, t4, ↓reduceIte]
            omega
          have hE : ∀ m, m < 9 → mE 1 (5 + m) = decide (1 ≤ m) := by decide
          generalize mtN b (List.replicate 8 76) (q + 1 + 1 + 1 + 1 + 1) = m at *
          have hE := hE m (by omega)
          have e5 : q + 1 + 1 + 1 + 1 + 1 + m = q + (5 + m) := by omega
          cases hm : decide (1 ≤ m) with
          | false =>
            rw [hm] at hl hE
            refine RP_no (m := 5 + m) hP hM hE ?_
            simp (disch := omega) only [s_X11_readPart, s_X11_takesWord, ↓reduceIte, nI_lit, mO_lit, mO_lt, mO_le, mO_gt, mO_ge, mO_ne, mO_ne', nI_add, nI_mul, nI_addlit0, bsome, c_le_f, c_le_t, c_lt_f, c_lt_t, c_eq_f, c_eq_t, if_true, if_false, fld_n, fst_n, eq_self, hk, k0, k1, k2, k3, k4, hl, bI_f, e5]
            rfl
          | true =>
            rw [hm] at hl hE
            refine RP_yes (m := 5 + m) (x1 := nI (gB b (q + 1 + 1 + 1) - 48)) (x2 := tw) (x3 := th) (x4 := nI (q + 1 + 1 + 1 + 1 + 1)) (kd := nI 116) hP hM hE ?_ (by rw [h9]) rfl (fun _ => rfl) (fun c => by omega) (fun c => by omega)
            simp (disch := omega) only [s_X11_readPart, s_X11_takesWord, ↓reduceIte, nI_lit, mO_lit, mO_lt, mO_le, mO_gt, mO_ge, mO_ne, mO_ne', nI_add, nI_mul, nI_addlit0, bsome, c_le_f, c_le_t, c_lt_f, c_lt_t, c_eq_f, c_eq_t, if_true, if_false, fld_n, fst_n, eq_self, hk, k0, k1, k2, k3, k4, hl, bI_t, e5]
theorem rq2 {b : List Nat} {text : Nat → Int32} {kd on tw th bg : Int32} {q : Nat} (h : RepB b (nI b.length) text) (hq : q < b.length) (h9 : gB b q = 115) : RP b q (s_X11_readPart (nI b.length) (nI q) kd on tw th bg text) := by
  have h60 := h.2.1
  have hP : qP b q = 2 := by unfold qP; rw [if_pos hq, h9]; rfl
  have t0 : tkB b 115 q = true := by unfold tkB; rw [decide_eq_true hq, h9]; rfl
  have hk : text q = nI 115 := by have := (h.2.2 q hq).1; unfold gB at h9; rw [h9] at this; exact this
  have k0 := mtkT h (c := 115) (by unfold pln; omega) (by omega) t0
  cases t1 : tkB b 116 (q + 1) with
  | false =>
    have k1 := mtkF h (c := 116) (q := q + 1) (by unfold pln; omega) (by omega) t1
    refine RP_no (m := 1) hP ?_ rfl ?_
    · show mtN b [115, 116, 111, 114, 109, 70] q = 1
      simp only [mtN, t0, t1, ↓reduceIte, Bool.false_eq_true, Nat.zero_add, Nat.reduceAdd]
    · simp (disch := omega) only [s_X11_readPart, s_X11_takesWord, ↓reduceIte, nI_lit, mO_lit, mO_lt, mO_le, mO_gt, mO_ge, mO_ne, mO_ne', nI_add, nI_mul, nI_addlit0, bsome, c_le_f, c_le_t, c_lt_f, c_lt_t, c_eq_f, c_eq_t, if_true, if_false, fld_n, fst_n, eq_self, hk, k0, k1]
      rfl
  | true =>
    have k1 := mtkT h (c := 116) (q := q + 1) (by unfold pln; omega) (by omega) t1
    cases t2 : tkB b 111 (q + 1 + 1) with
    | false =>
      have k2 := mtkF h (c := 111) (q := q + 1 + 1) (by unfold pln; omega) (by omega) t2
      refine RP_no (m := 2) hP ?_ rfl ?_
      · show mtN b [115, 116, 111, 114, 109, 70] q = 2
        simp only [mtN, t0, t1, t2, ↓reduceIte, Bool.false_eq_true, Nat.zero_add, Nat.reduceAdd]
      · simp (disch := omega) only [s_X11_readPart, s_X11_takesWord, ↓reduceIte, nI_lit, mO_lit, mO_lt, mO_le, mO_gt, mO_ge, mO_ne, mO_ne', nI_add, nI_mul, nI_addlit0, bsome, c_le_f, c_le_t, c_lt_f, c_lt_t, c_eq_f, c_eq_t, if_true, if_false, fld_n, fst_n, eq_self, hk, k0, k1, k2]
        rfl
    | true =>
      have k2 := mtkT h (c := 111) (q := q + 1 + 1) (by unfold pln; omega) (by omega) t2
      cases t3 : tkB b 114 (q + 1 + 1 + 1) with
      | false =>
        have k3 := mtkF h (c := 114) (q := q + 1 + 1 + 1) (by unfold pln; omega) (by omega) t3
        refine RP_no (m := 3) hP ?_ rfl ?_
        · show mtN b [115, 116, 111, 114, 109, 70] q = 3
          simp only [mtN, t0, t1, t2, t3, ↓reduceIte, Bool.false_eq_true, Nat.zero_add, Nat.reduceAdd]
        · simp (disch := omega) only [s_X11_readPart, s_X11_takesWord, ↓reduceIte, nI_lit, mO_lit, mO_lt, mO_le, mO_gt, mO_ge, mO_ne, mO_ne', nI_add, nI_mul, nI_addlit0, bsome, c_le_f, c_le_t, c_lt_f, c_lt_t, c_eq_f, c_eq_t, if_true, if_false, fld_n, fst_n, eq_self, hk, k0, k1, k2, k3]
          rfl
      | true =>
        have k3 := mtkT h (c := 114) (q := q + 1 + 1 + 1) (by unfold pln; omega) (by omega) t3
        cases t4 : tkB b 109 (q + 1 + 1 + 1 + 1) with
        | false =>
          have k4 := mtkF h (c := 109) (q := q + 1 + 1 + 1 + 1) (by unfold pln; omega) (by omega) t4
          refine RP_no (m := 4) hP ?_ rfl ?_
          · show mtN b [115, 116, 111, 114, 109, 70] q = 4
            simp only [mtN, t0, t1, t2, t3, t4, ↓reduceIte, Bool.false_eq_true, Nat.zero_add, Nat.reduceAdd]
          · simp (disch := omega) only [s_X11_readPart, s_X11_takesWord, ↓reduceIte, nI_lit, mO_lit, mO_lt, mO_le, mO_gt, mO_ge, mO_ne, mO_ne', nI_add, nI_mul, nI_addlit0, bsome, c_le_f, c_le_t, c_lt_f, c_lt_t, c_eq_f, c_eq_t, if_true, if_false, fld_n, fst_n, eq_self, hk, k0, k1, k2, k3, k4]
            rfl
        | true =>
          have k4 := mtkT h (c := 109) (q := q + 1 + 1 + 1 + 1) (by unfold pln; omega) (by omega) t4
          cases t5 : tkB b 70 (q + 1 + 1 + 1 + 1 + 1) with
          | false =>
            have k5 := mdgF h (d := 4) (q := q + 1 + 1 + 1 + 1 + 1) (by omega) (by omega) t5
            refine RP_no (m := 5) hP ?_ rfl ?_
            · show mtN b [115, 116, 111, 114, 109, 70] q = 5
              simp only [mtN, t0, t1, t2, t3, t4, t5, ↓reduceIte, Bool.false_eq_true, Nat.zero_add, Nat.reduceAdd]
            · simp (disch := omega) only [s_X11_readPart, s_X11_takesWord, ↓reduceIte, nI_lit, mO_lit, mO_lt, mO_le, mO_gt, mO_ge, mO_ne, mO_ne', nI_add, nI_mul, nI_addlit0, bsome, c_le_f, c_le_t, c_lt_f, c_lt_t, c_eq_f, c_eq_t, if_true, if_false, fld_n, fst_n, eq_self, hk, k0, k1, k2, k3, k4, k5]
              rfl
          | true =>
            obtain ⟨k5, u5, v5, w5⟩ := mdgT h (d := 4) (q := q + 1 + 1 + 1 + 1 + 1) (by omega) (by omega) t5
            refine RP_yes (m := 6) (x1 := nI (gB b (q + 1 + 1 + 1 + 1 + 1) - 48)) (x2 := tw) (x3 := th) (x4 := bg) (kd := nI 115) hP ?_ rfl ?_ (by rw [h9]) rfl (fun c => by omega) (fun c => by omega) (fun c => by omega)
            · show mtN b [115, 116, 111, 114, 109, 70] q = 6
              simp only [mtN, t0, t1, t2, t3, t4, t5, ↓reduceIte, Nat.zero_add, Nat.reduceAdd]
            · simp (disch := omega) only [s_X11_readPart, s_X11_takesWord, ↓reduceIte, nI_lit, mO_lit, mO_lt, mO_le, mO_gt, mO_ge, mO_ne, mO_ne', nI_add, nI_mul, nI_addlit0, bsome, c_le_f, c_le_t, c_lt_f, c_lt_t, c_eq_f, c_eq_t, if_true, if_false, fld_n, fst_n, eq_self, hk, k0, k1, k2, k3, k4, k5]
theorem rq3 {b : List Nat} {text : Nat → Int32} {kd on tw th bg : Int32} {q : Nat} (h : RepB b (nI b.length) text) (hq : q < b.length) (h9 : gB b q = 103) : RP b q (s_X11_readPart (nI b.length) (nI q) kd on tw th bg text) := by
  have h60 := h.2.1
  have hP : qP b q = 3 := by unfold qP; rw [if_pos hq, h9]; rfl
  have t0 : tkB b 103 q = true := by unfold tkB; rw [decide_eq_true hq, h9]; rfl
  have hk : text q = nI 103 := by have := (h.2.2 q hq).1; unfold gB at h9; rw [h9] at this; exact this
  have k0 := mtkT h (c := 103) (by unfold pln; omega) (by omega) t0
  cases t1 : tkB b 105 (q + 1) with
  | false =>
    have k1 := mtkF h (c := 105) (q := q + 1) (by unfold pln; omega) (by omega) t1
    refine RP_no (m := 1) hP ?_ rfl ?_
    · show mtN b [103, 105, 118, 101, 70, 47, 78, 62, 70] q = 1
      simp only [mtN, t0, t1, ↓reduceIte, Bool.false_eq_true, Nat.zero_add, Nat.reduceAdd]
    · simp (disch := omega) only [s_X11_readPart, s_X11_takesWord, ↓reduceIte, nI_lit, mO_lit, mO_lt, mO_le, mO_gt, mO_ge, mO_ne, mO_ne', nI_add, nI_mul, nI_addlit0, bsome, c_le_f, c_le_t, c_lt_f, c_lt_t, c_eq_f, c_eq_t, if_true, if_false, fld_n, fst_n, eq_self, hk, k0, k1]
      rfl
  | true =>
    have k1 := mtkT h (c := 105) (q := q + 1) (by unfold pln; omega) (by omega) t1
    cases t2 : tkB b 118 (q + 1 + 1) with
    | false =>
      have k2 := mtkF h (c := 118) (q := q + 1 + 1) (by unfold pln; omega) (by omega) t2
      refine RP_no (m := 2) hP ?_ rfl ?_
      · show mtN b [103, 105, 118, 101, 70, 47, 78, 62, 70] q = 2
        simp only [mtN, t0, t1, t2, ↓reduceIte, Bool.false_eq_true, Nat.zero_add, Nat.reduceAdd]
      · simp (disch := omega) only [s_X11_readPart, s_X11_takesWord, ↓reduceIte, nI_lit, mO_lit, mO_lt, mO_le, mO_gt, mO_ge, mO_ne, mO_ne', nI_add, nI_mul, nI_addlit0, bsome, c_le_f, c_le_t, c_lt_f, c_lt_t, c_eq_f, c_eq_t, if_true, if_false, fld_n, fst_n, eq_self, hk, k0, k1, k2]
        rfl
    | true =>
      have k2 := mtkT h (c := 118) (q := q + 1 + 1) (by unfold pln; omega) (by omega) t2
      cases t3 : tkB b 101 (q + 1 + 1 + 1) with
      | false =>
        have k3 := mtkF h (c := 101) (q := q + 1 + 1 + 1) (by unfold pln; omega) (by omega) t3
        refine RP_no (m := 3) hP ?_ rfl ?_
        · show mtN b [103, 105, 118, 101, 70, 47, 78, 62, 70] q = 3
          simp only [mtN, t0, t1, t2, t3, ↓reduceIte, Bool.false_eq_true, Nat.zero_add, Nat.reduceAdd]
        · simp (disch := omega) only [s_X11_readPart, s_X11_takesWord, ↓reduceIte, nI_lit, mO_lit, mO_lt, mO_le, mO_gt, mO_ge, mO_ne, mO_ne', nI_add, nI_mul, nI_addlit0, bsome, c_le_f, c_le_t, c_lt_f, c_lt_t, c_eq_f, c_eq_t, if_true, if_false, fld_n, fst_n, eq_self, hk, k0, k1, k2, k3]
          rfl
      | true =>
        have k3 := mtkT h (c := 101) (q := q + 1 + 1 + 1) (by unfold pln; omega) (by omega) t3
        cases t4 : tkB b 70 (q + 1 + 1 + 1 + 1) with
        | false =>
          have k4 := mdgF h (d := 4) (q := q + 1 + 1 + 1 + 1) (by omega) (by omega) t4
          refine RP_no (m := 4) hP ?_ rfl ?_
          · show mtN b [103, 105, 118, 101, 70, 47, 78, 62, 70] q = 4
            simp only [mtN, t0, t1, t2, t3, t4, ↓reduceIte, Bool.false_eq_true, Nat.zero_add, Nat.reduceAdd]
          · simp (disch := omega) only [s_X11_readPart, s_X11_takesWord, ↓reduceIte, nI_lit, mO_lit, mO_lt, mO_le, mO_gt, mO_ge, mO_ne, mO_ne', nI_add, nI_mul, nI_addlit0, bsome, c_le_f, c_le_t, c_lt_f, c_lt_t, c_eq_f, c_eq_t, if_true, if_false, fld_n, fst_n, eq_self, hk, k0, k1, k2, k3, k4]
            rfl
        | true =>
          obtain ⟨k4, u4, v4, w4⟩ := mdgT h (d := 4) (q := q + 1 + 1 + 1 + 1) (by omega) (by omega) t4
          cases t5 : tkB b 47 (q + 1 + 1 + 1 + 1 + 1) with
          | false =>
            have k5 := mtkF h (c := 47) (q := q + 1 + 1 + 1 + 1 + 1) (by unfold pln; omega) (by omega) t5
            refine RP_no (m := 5) hP ?_ rfl ?_
            · show mtN b [103, 105, 118, 101, 70, 47, 78, 62, 70] q = 5
              simp only [mtN, t0, t1, t2, t3, t4, t5, ↓reduceIte, Bool.false_eq_true, Nat.zero_add, Nat.reduceAdd]
            · simp (disch := omega) only [s_X11_readPart, s_X11_takesWord, ↓reduceIte, nI_lit, mO_lit, mO_lt, mO_le, mO_gt, mO_ge, mO_ne, mO_ne', nI_add, nI_mul, nI_addlit0, bsome, c_le_f, c_le_t, c_lt_f, c_lt_t, c_eq_f, c_eq_t, if_true, if_false, fld_n, fst_n, eq_self, hk, k0, k1, k2, k3, k4, k5]
              rfl
          | true =>
            have k5 := mtkT h (c := 47) (q := q + 1 + 1 + 1 + 1 + 1) (by unfold pln; omega) (by omega) t5
            cases t6 : tkB b 78 (q + 1 + 1 + 1 + 1 + 1 + 1) with
            | false =>
              have k6 := mdgF h (d := 5) (q := q + 1 + 1 + 1 + 1 + 1 + 1) (by omega) (by omega) t6
              refine RP_no (m := 6) hP ?_ rfl ?_
              · show mtN b [103, 105, 118, 101, 70, 47, 78, 62, 70] q = 6
                simp only [mtN, t0, t1, t2, t3, t4, t5, t6, ↓reduceIte, Bool.false_eq_true, Nat.zero_add, Nat.reduceAdd]
              · simp (disch := omega) only [s_X11_readPart, s_X11_takesWord, ↓reduceIte, nI_lit, mO_lit, mO_lt, mO_le, mO_gt, mO_ge, mO_ne, mO_ne', nI_add, nI_mul, nI_addlit0, bsome, c_le_f, c_le_t, c_lt_f, c_lt_t, c_eq_f, c_eq_t, if_true, if_false, fld_n, fst_n, eq_self, hk, k0, k1, k2, k3, k4, k5, k6]
                rfl
            | true =>
              obtain ⟨k6, u6, v6, w6⟩ := mdgT h (d := 5) (q := q + 1 + 1 + 1 + 1 + 1 + 1) (by omega) (by omega) t6
              cases t7 : tkB b 62 (q + 1 + 1 + 1 + 1 + 1 + 1 + 1) with
              | false =>
                have k7 := mtkF h (c := 62) (q := q + 1 + 1 + 1 + 1 + 1 + 1 + 1) (by unfold pln; omega) (by omega) t7
                refine RP_no (m := 7) hP ?_ rfl ?_
                · show mtN b [103, 105, 118, 101, 70, 47, 78, 62, 70] q = 7
                  simp only [mtN, t0, t1, t2, t3, t4, t5, t6, t7, ↓reduceIte, Bool.false_eq_true, Nat.zero_add, Nat.reduceAdd]
                · simp (disch := omega) only [s_X11_readPart, s_X11_takesWord, ↓reduceIte, nI_lit, mO_lit, mO_lt, mO_le, mO_gt, mO_ge, mO_ne, mO_ne', nI_add, nI_mul, nI_addlit0, bsome, c_le_f, c_le_t, c_lt_f, c_lt_t, c_eq_f, c_eq_t, if_true, if_false, fld_n, fst_n, eq_self, hk, k0, k1, k2, k3, k4, k5, k6, k7]
                  rfl
              | true =>
                have k7 := mtkT h (c := 62) (q := q + 1 + 1 + 1 + 1 + 1 + 1 + 1) (by unfold pln; omega) (by omega) t7
                cases t8 : tkB b 70 (q + 1 + 1 + 1 + 1 + 1 + 1 + 1 + 1) with
                | false =>
                  have k8 := mdgF h (d := 4) (q := q + 1 + 1 + 1 + 1 + 1 + 1 + 1 + 1) (by omega) (by omega) t8
                  refine RP_no (m := 8) hP ?_ rfl ?_
                  · show mtN b [103, 105, 118, 101, 70, 47, 78, 62, 70] q = 8
                    simp only [mtN, t0, t1, t2, t3, t4, t5, t6, t7, t8, ↓reduceIte, Bool.false_eq_true, Nat.zero_add, Nat.reduceAdd]
                  · simp (disch := omega) only [s_X11_readPart, s_X11_takesWord, ↓reduceIte, nI_lit, mO_lit, mO_lt, mO_le, mO_gt, mO_ge, mO_ne, mO_ne', nI_add, nI_mul, nI_addlit0, bsome, c_le_f, c_le_t, c_lt_f, c_lt_t, c_eq_f, c_eq_t, if_true, if_false, fld_n, fst_n, eq_self, hk, k0, k1, k2, k3, k4, k5, k6, k7, k8]
                    rfl
                | true =>
                  obtain ⟨k8, u8, v8, w8⟩ := mdgT h (d := 4) (q := q + 1 + 1 + 1 + 1 + 1 + 1 + 1 + 1) (by omega) (by omega) t8
                  refine RP_yes (m := 9) (x1 := nI (gB b (q + 1 + 1 + 1 + 1) - 48)) (x2 := nI (gB b (q + 1 + 1 + 1 + 1 + 1 + 1) - 48)) (x3 := nI (gB b (q + 1 + 1 + 1 + 1 + 1 + 1 + 1 + 1) - 48)) (x4 := bg) (kd := nI 103) hP ?_ rfl ?_ (by rw [h9]) rfl (fun c => by omega) (fun c => rfl) (fun c => rfl)
                  · show mtN b [103, 105, 118, 101, 70, 47, 78, 62, 70] q = 9
                    simp only [mtN, t0, t1, t2, t3, t4, t5, t6, t7, t8, ↓reduceIte, Nat.zero_add, Nat.reduceAdd]
                  · simp (disch := omega) only [s_X11_readPart, s_X11_takesWord, ↓reduceIte, nI_lit, mO_lit, mO_lt, mO_le, mO_gt, mO_ge, mO_ne, mO_ne', nI_add, nI_mul, nI_addlit0, bsome, c_le_f, c_le_t, c_lt_f, c_lt_t, c_eq_f, c_eq_t, if_true, if_false, fld_n, fst_n, eq_self, hk, k0, k1, k2, k3, k4, k5, k6, k7, k8]
theorem rq4 {b : List Nat} {text : Nat → Int32} {kd on tw th bg : Int32} {q : Nat} (h : RepB b (nI b.length) text) (hq : q < b.length) (h9 : gB b q = 102) : RP b q (s_X11_readPart (nI b.length) (nI q) kd on tw th bg text) := by
  have h60 := h.2.1
  have hP : qP b q = 4 := by unfold qP; rw [if_pos hq, h9]; rfl
  have t0 : tkB b 102 q = true := by unfold tkB; rw [decide_eq_true hq, h9]; rfl
  have hk : text q = nI 102 := by have := (h.2.2 q hq).1; unfold gB at h9; rw [h9] at this; exact this
  have k0 := mtkT h (c := 102) (by unfold pln; omega) (by omega) t0
  cases t1 : tkB b 97 (q + 1) with
  | false =>
    have k1 := mtkF h (c := 97) (q := q + 1) (by unfold pln; omega) (by omega) t1
    refine RP_no (m := 1) hP ?_ rfl ?_
    · show mtN b [102, 97, 115, 116, 70, 47, 78] q = 1
      simp only [mtN, t0, t1, ↓reduceIte, Bool.false_eq_true, Nat.zero_add, Nat.reduceAdd]
    · simp (disch := omega) only [s_X11_readPart, s_X11_takesWord, ↓reduceIte, nI_lit, mO_lit, mO_lt, mO_le, mO_gt, mO_ge, mO_ne, mO_ne', nI_add, nI_mul, nI_addlit0, bsome, c_le_f, c_le_t, c_lt_f, c_lt_t, c_eq_f, c_eq_t, if_true, if_false, fld_n, fst_n, eq_self, hk, k0, k1]
      rfl
  | true =>
    have k1 := mtkT h (c := 97) (q := q + 1) (by unfold pln; omega) (by omega) t1
    cases t2 : tkB b 115 (q + 1 + 1) with
    | false =>
      have k2 := mtkF h (c := 115) (q := q + 1 + 1) (by unfold pln; omega) (by omega) t2
      refine RP_no (m := 2) hP ?_ rfl ?_
      · show mtN b [102, 97, 115, 116, 70, 47, 78] q = 2
        simp only [mtN, t0, t1, t2, ↓reduceIte, Bool.false_eq_true, Nat.zero_add, Nat.reduceAdd]
      · simp (disch := omega) only [s_X11_readPart, s_X11_takesWord, ↓reduceIte, nI_lit, mO_lit, mO_lt, mO_le, mO_gt, mO_ge, mO_ne, mO_ne', nI_add, nI_mul, nI_addlit0, bsome, c_le_f, c_le_t, c_lt_f, c_lt_t, c_eq_f, c_eq_t, if_true, if_false, fld_n, fst_n, eq_self, hk, k0, k1, k2]
        rfl
    | true =>
      have k2 := mtkT h (c := 115) (q := q + 1 + 1) (by unfold pln; omega) (by omega) t2
      cases t3 : tkB b 116 (q + 1 + 1 + 1) with
      | false =>
        have k3 := mtkF h (c := 116) (q := q + 1 + 1 + 1) (by unfold pln; omega) (by omega) t3
        refine RP_no (m := 3) hP ?_ rfl ?_
        · show mtN b [102, 97, 115, 116, 70, 47, 78] q = 3
          simp only [mtN, t0, t1, t2, t3, ↓reduceIte, Bool.false_eq_true, Nat.zero_add, Nat.reduceAdd]
        · simp (disch := omega) only [s_X11_readPart, s_X11_takesWord, ↓reduceIte, nI_lit, mO_lit, mO_lt, mO_le, mO_gt, mO_ge, mO_ne, mO_ne', nI_add, nI_mul, nI_addlit0, bsome, c_le_f, c_le_t, c_lt_f, c_lt_t, c_eq_f, c_eq_t, if_true, if_false, fld_n, fst_n, eq_self, hk, k0, k1, k2, k3]
          rfl
      | true =>
        have k3 := mtkT h (c := 116) (q := q + 1 + 1 + 1) (by unfold pln; omega) (by omega) t3
        cases t4 : tkB b 70 (q + 1 + 1 + 1 + 1) with
        | false =>
          have k4 := mdgF h (d := 4) (q := q + 1 + 1 + 1 + 1) (by omega) (by omega) t4
          refine RP_no (m := 4) hP ?_ rfl ?_
          · show mtN b [102, 97, 115, 116, 70, 47, 78] q = 4
            simp only [mtN, t0, t1, t2, t3, t4, ↓reduceIte, Bool.false_eq_true, Nat.zero_add, Nat.reduceAdd]
          · simp (disch := omega) only [s_X11_readPart, s_X11_takesWord, ↓reduceIte, nI_lit, mO_lit, mO_lt, mO_le, mO_gt, mO_ge, mO_ne, mO_ne', nI_add, nI_mul, nI_addlit0, bsome, c_le_f, c_le_t, c_lt_f, c_lt_t, c_eq_f, c_eq_t, if_true, if_false, fld_n, fst_n, eq_self, hk, k0, k1, k2, k3, k4]
            rfl
        | true =>
          obtain ⟨k4, u4, v4, w4⟩ := mdgT h (d := 4) (q := q + 1 + 1 + 1 + 1) (by omega) (by omega) t4
          cases t5 : tkB b 47 (q + 1 + 1 + 1 + 1 + 1) with
          | false =>
            have k5 := mtkF h (c := 47) (q := q + 1 + 1 + 1 + 1 + 1) (by unfold pln; omega) (by omega) t5
            refine RP_no (m := 5) hP ?_ rfl ?_
            · show mtN b [102, 97, 115, 116, 70, 47, 78] q = 5
              simp only [mtN, t0, t1, t2, t3, t4, t5, ↓reduceIte, Bool.false_eq_true, Nat.zero_add, Nat.reduceAdd]
            · simp (disch := omega) only [s_X11_readPart, s_X11_takesWord, ↓reduceIte, nI_lit, mO_lit, mO_lt, mO_le, mO_gt, mO_ge, mO_ne, mO_ne', nI_add, nI_mul, nI_addlit0, bsome, c_le_f, c_le_t, c_lt_f, c_lt_t, c_eq_f, c_eq_t, if_true, if_false, fld_n, fst_n, eq_self, hk, k0, k1, k2, k3, k4, k5]
              rfl
          | true =>
            have k5 := mtkT h (c := 47) (q := q + 1 + 1 + 1 + 1 + 1) (by unfold pln; omega) (by omega) t5
            cases t6 : tkB b 78 (q + 1 + 1 + 1 + 1 + 1 + 1) with
            | false =>
              have k6 := mdgF h (d := 5) (q := q + 1 + 1 + 1 + 1 + 1 + 1) (by omega) (by omega) t6
              refine RP_no (m := 6) hP ?_ rfl ?_
              · show mtN b [102, 97, 115, 116, 70, 47, 78] q = 6
                simp only [mtN, t0, t1, t2, t3, t4, t5, t6, ↓reduceIte, Bool.false_eq_true, Nat.zero_add, Nat.reduceAdd]
              · simp (disch := omega) only [s_X11_readPart, s_X11_takesWord, ↓reduceIte, nI_lit, mO_lit, mO_lt, mO_le, mO_gt, mO_ge, mO_ne, mO_ne', nI_add, nI_mul, nI_addlit0, bsome, c_le_f, c_le_t, c_lt_f, c_lt_t, c_eq_f, c_eq_t, if_true, if_false, fld_n, fst_n, eq_self, hk, k0, k1, k2, k3, k4, k5, k6]
                rfl
            | true =>
              obtain ⟨k6, u6, v6, w6⟩ := mdgT h (d := 5) (q := q + 1 + 1 + 1 + 1 + 1 + 1) (by omega) (by omega) t6
              refine RP_yes (m := 7) (x1 := nI (gB b (q + 1 + 1 + 1 + 1) - 48)) (x2 := nI (gB b (q + 1 + 1 + 1 + 1 + 1 + 1) - 48)) (x3 := th) (x4 := bg) (kd := nI 102) hP ?_ rfl ?_ (by rw [h9]) rfl (fun c => by omega) (fun c => rfl) (fun c => by omega)
              · show mtN b [102, 97, 115, 116, 70, 47, 78] q = 7
                simp only [mtN, t0, t1, t2, t3, t4, t5, t6, ↓reduceIte, Nat.zero_add, Nat.reduceAdd]
              · simp (disch := omega) only [s_X11_readPart, s_X11_takesWord, ↓reduceIte, nI_lit, mO_lit, mO_lt, mO_le, mO_gt, mO_ge, mO_ne, mO_ne', nI_add, nI_mul, nI_addlit0, bsome, c_le_f, c_le_t, c_lt_f, c_lt_t, c_eq_f, c_eq_t, if_true, if_false, fld_n, fst_n, eq_self, hk, k0, k1, k2, k3, k4, k5, k6]
theorem rq5 {b : List Nat} {text : Nat → Int32} {kd on tw th bg : Int32} {q : Nat} (h : RepB b (nI b.length) text) (hq : q < b.length) (h9 : gB b q = 99) : RP b q (s_X11_readPart (nI b.length) (nI q) kd on tw th bg text) := by
  have h60 := h.2.1
  have hP : qP b q = 5 := by unfold qP; rw [if_pos hq, h9]; rfl
  have t0 : tkB b 99 q = true := by unfold tkB; rw [decide_eq_true hq, h9]; rfl
  have hk : text q = nI 99 := by have := (h.2.2 q hq).1; unfold gB at h9; rw [h9] at this; exact this
  have k0 := mtkT h (c := 99) (by unfold pln; omega) (by omega) t0
  cases t1 : tkB b 117 (q + 1) with
  | false =>
    have k1 := mtkF h (c := 117) (q := q + 1) (by unfold pln; omega) (by omega) t1
    refine RP_no (m := 1) hP ?_ rfl ?_
    · show mtN b [99, 117, 116, 70, 47, 78] q = 1
      simp only [mtN, t0, t1, ↓reduceIte, Bool.false_eq_true, Nat.zero_add, Nat.reduceAdd]
    · simp (disch := omega) only [s_X11_readPart, s_X11_takesWord, ↓reduceIte, nI_lit, mO_lit, mO_lt, mO_le, mO_gt, mO_ge, mO_ne, mO_ne', nI_add, nI_mul, nI_addlit0, bsome, c_le_f, c_le_t, c_lt_f, c_lt_t, c_eq_f, c_eq_t, if_true, if_false, fld_n, fst_n, eq_self, hk, k0, k1]
      rfl
  | true =>
    have k1 := mtkT h (c := 117) (q := q + 1) (by unfold pln; omega) (by omega) t1
    cases t2 : tkB b 116 (q + 1 + 1) with
    | false =>
      have k2 := mtkF h (c := 116) (q := q + 1 + 1) (by unfold pln; omega) (by omega) t2
      refine RP_no (m := 2) hP ?_ rfl ?_
      · show mtN b [99, 117, 116, 70, 47, 78] q = 2
        simp only [mtN, t0, t1, t2, ↓reduceIte, Bool.false_eq_true, Nat.zero_add, Nat.reduceAdd]
      · simp (disch := omega) only [s_X11_readPart, s_X11_takesWord, ↓reduceIte, nI_lit, mO_lit, mO_lt, mO_le, mO_gt, mO_ge, mO_ne, mO_ne', nI_add, nI_mul, nI_addlit0, bsome, c_le_f, c_le_t, c_lt_f, c_lt_t, c_eq_f, c_eq_t, if_true, if_false, fld_n, fst_n, eq_self, hk, k0, k1, k2]
        rfl
    | true =>
      have k2 := mtkT h (c := 116) (q := q + 1 + 1) (by unfold pln; omega) (by omega) t2
      cases t3 : tkB b 70 (q + 1 + 1 + 1) with
      | false =>
        have k3 := mdgF h (d := 4) (q := q + 1 + 1 + 1) (by omega) (by omega) t3
        refine RP_no (m := 3) hP ?_ rfl ?_
        · show mtN b [99, 117, 116, 70, 47, 78] q = 3
          simp only [mtN, t0, t1, t2, t3, ↓reduceIte, Bool.false_eq_true, Nat.zero_add, Nat.reduceAdd]
        · simp (disch := omega) only [s_X11_readPart, s_X11_takesWord, ↓reduceIte, nI_lit, mO_lit, mO_lt, mO_le, mO_gt, mO_ge, mO_ne, mO_ne', nI_add, nI_mul, nI_addlit0, bsome, c_le_f, c_le_t, c_lt_f, c_lt_t, c_eq_f, c_eq_t, if_true, if_false, fld_n, fst_n, eq_self, hk, k0, k1, k2, k3]
          rfl
      | true =>
        obtain ⟨k3, u3, v3, w3⟩ := mdgT h (d := 4) (q := q + 1 + 1 + 1) (by omega) (by omega) t3
        cases t4 : tkB b 47 (q + 1 + 1 + 1 + 1) with
        | false =>
          have k4 := mtkF h (c := 47) (q := q + 1 + 1 + 1 + 1) (by unfold pln; omega) (by omega) t4
          refine RP_no (m := 4) hP ?_ rfl ?_
          · show mtN b [99, 117, 116, 70, 47, 78] q = 4
            simp only [mtN, t0, t1, t2, t3, t4, ↓reduceIte, Bool.false_eq_true, Nat.zero_add, Nat.reduceAdd]
          · simp (disch := omega) only [s_X11_readPart, s_X11_takesWord, ↓reduceIte, nI_lit, mO_lit, mO_lt, mO_le, mO_gt, mO_ge, mO_ne, mO_ne', nI_add, nI_mul, nI_addlit0, bsome, c_le_f, c_le_t, c_lt_f, c_lt_t, c_eq_f, c_eq_t, if_true, if_false, fld_n, fst_n, eq_self, hk, k0, k1, k2, k3, k4]
            rfl
        | true =>
          have k4 := mtkT h (c := 47) (q := q + 1 + 1 + 1 + 1) (by unfold pln; omega) (by omega) t4
          cases t5 : tkB b 78 (q + 1 + 1 + 1 + 1 + 1) with
          | false =>
            have k5 := mdgF h (d := 5) (q := q + 1 + 1 + 1 + 1 + 1) (by omega) (by omega) t5
            refine RP_no (m := 5) hP ?_ rfl ?_
            · show mtN b [99, 117, 116, 70, 47, 78] q = 5
              simp only [mtN, t0, t1, t2, t3, t4, t5, ↓reduceIte, Bool.false_eq_true, Nat.zero_add, Nat.reduceAdd]
            · simp (disch := omega) only [s_X11_readPart, s_X11_takesWord, ↓reduceIte, nI_lit, mO_lit, mO_lt, mO_le, mO_gt, mO_ge, mO_ne, mO_ne', nI_add, nI_mul, nI_addlit0, bsome, c_le_f, c_le_t, c_lt_f, c_lt_t, c_eq_f, c_eq_t, if_true, if_false, fld_n, fst_n, eq_self, hk, k0, k1, k2, k3, k4, k5]
              rfl
          | true =>
            obtain ⟨k5, u5, v5, w5⟩ := mdgT h (d := 5) (q := q + 1 + 1 + 1 + 1 + 1) (by omega) (by omega) t5
            refine RP_yes (m := 6) (x1 := nI (gB b (q + 1 + 1 + 1) - 48)) (x2 := nI (gB b (q + 1 + 1 + 1 + 1 + 1) - 48)) (x3 := th) (x4 := bg) (kd := nI 99) hP ?_ rfl ?_ (by rw [h9]) rfl (fun c => by omega) (fun c => rfl) (fun c => by omega)
            · show mtN b [99, 117, 116, 70, 47, 78] q = 6
              simp only [mtN, t0, t1, t2, t3, t4, t5, ↓reduceIte, Nat.zero_add, Nat.reduceAdd]
            · simp (disch := omega) only [s_X11_readPart, s_X11_takesWord, ↓reduceIte, nI_lit, mO_lit, mO_lt, mO_le, mO_gt, mO_ge, mO_ne, mO_ne', nI_add, nI_mul, nI_addlit0, bsome, c_le_f, c_le_t, c_lt_f, c_lt_t, c_eq_f, c_eq_t, if_true, if_false, fld_n, fst_n, eq_self, hk, k0, k1, k2, k3, k4, k5]
theorem rp0 {b : List Nat} {text : Nat → Int32} {kd on tw th bg : Int32} {q : Nat} (h : RepB b (nI b.length) text) (hq : q ≤ b.length) (hP : qP b q = 0) : RP b q (s_X11_readPart (nI b.length) (nI q) kd on tw th bg text) := by
  have h60 := h.2.1
  refine RP_no (m := 0) hP rfl rfl ?_
  rcases Nat.lt_or_ge q b.length with q1 | q1
  · have h127 := gB_127 h q1
    have hk : text q = nI (gB b q) := (h.2.2 q q1).1
    unfold qP pOf at hP
    rw [if_pos q1] at hP
    have n1 : gB b q ≠ 99 := fun e => by rw [e] at hP; exact absurd hP (by decide)
    have n2 : gB b q ≠ 102 := fun e => by rw [e] at hP; exact absurd hP (by decide)
    have n3 : gB b q ≠ 103 := fun e => by rw [e] at hP; exact absurd hP (by decide)
    have n4 : gB b q ≠ 115 := fun e => by rw [e] at hP; exact absurd hP (by decide)
    have n5 : gB b q ≠ 116 := fun e => by rw [e] at hP; exact absurd hP (by decide)
    simp (disch := omega) only [s_X11_readPart, s_X11_takesWord, ↓reduceIte, nI_lit, mO_lit, mO_lt, mO_le, mO_gt, mO_ge, mO_ne, mO_ne', nI_add, nI_mul, nI_addlit0, bsome, c_le_f, c_le_t, c_lt_f, c_lt_t, c_eq_f, c_eq_t, if_true, if_false, fld_n, fst_n, hk]
    rfl
  · simp (disch := omega) only [s_X11_readPart, s_X11_takesWord, ↓reduceIte, nI_lit, mO_lit, mO_lt, mO_le, mO_gt, mO_ge, mO_ne, mO_ne', nI_add, nI_mul, nI_addlit0, bsome, c_le_f, c_le_t, c_lt_f, c_lt_t, c_eq_f, c_eq_t, if_true, if_false, fld_n, fst_n]
    rfl
theorem rpA {b : List Nat} {text : Nat → Int32} {kd on tw th bg : Int32} {q : Nat} (h : RepB b (nI b.length) text) (hq : q ≤ b.length) : RP b q (s_X11_readPart (nI b.length) (nI q) kd on tw th bg text) := by
  by_cases hP : qP b q = 0
  · exact rp0 h hq hP
  · have hl : q < b.length := Classical.byContradiction fun c => hP (by unfold qP; rw [if_neg c])
    have hx : pOf (gB b q) ≠ 0 := by unfold qP at hP; rw [if_pos hl] at hP; exact hP
    unfold pOf at hx
    by_cases n1 : gB b q = 99
    · exact rq5 h hl n1
    · by_cases n2 : gB b q = 102
      · exact rq4 h hl n2
      · by_cases n3 : gB b q = 103
        · exact rq3 h hl n3
        · by_cases n4 : gB b q = 115
          · exact rq2 h hl n4
          · by_cases n5 : gB b q = 116
            · exact rq1 h hl n5
            · rw [if_neg n1, if_neg n2, if_neg n3, if_neg n4, if_neg n5] at hx; exact absurd rfl hx
