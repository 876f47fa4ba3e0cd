/-! the model: it reads the text, without doing it -/
theorem scn_L (b : List Nat) : ∀ (n i : Nat), (scn b n i).1 = true → (scn b n i).2 = b.length := by
  intro n
  induction n with
  | zero => intro i h; cases h
  | succ n ih =>
    intro i h
    have e : scn b (n + 1) i = if qO b i = true then (if qE b i = b.length then (true, b.length) else if gB b (qE b i) = 59 then scn b n (qE b i + 1) else (false, qE b i)) else (false, qE b i) := rfl
    rw [e] at h ⊢
    by_cases q1 : qO b i = true
    · rw [if_pos q1] at h ⊢
      by_cases q2 : qE b i = b.length
      · rw [if_pos q2]
      · rw [if_neg q2] at h ⊢
        by_cases q3 : gB b (qE b i) = 59
        · rw [if_pos q3] at h ⊢; exact ih _ h
        · rw [if_neg q3] at h; cases h
    · rw [if_neg q1] at h; cases h
abbrev TT := Int32 × Int32 × Int32 × Int32 × Int32 × Int32 × Int32 × Int32 × Int32 × Int32 × Int32 × (Nat → Int32)
def mtK (r8 : TT ⊕ TT) : Option TT := fsum r8 (fun r9 => some r9) (fun e9 => some (0, e9.2.1, e9.2.2.1, e9.2.2.2.1, e9.2.2.2.2.1, e9.2.2.2.2.2.1, e9.2.2.2.2.2.2.1, e9.2.2.2.2.2.2.2.1, e9.2.2.2.2.2.2.2.2.1, e9.2.2.2.2.2.2.2.2.2.1, e9.2.2.2.2.2.2.2.2.2.2.1, e9.2.2.2.2.2.2.2.2.2.2.2))
theorem n10 : ¬ nI 1 = 0 := by decide
theorem pln59 : pln 59 := by unfold pln; omega
theorem tk59 {b : List Nat} {q : Nat} (hq : q < b.length) : tkB b 59 q = decide (gB b q = 59) := by
  unfold tkB; rw [decide_eq_true hq, fit_pln pln59]; rfl
theorem L20_0 {p1 len : Int32} {text : Nat → Int32} {a : Nat} {sp sm pl kd on tw th bg dn sb : Int32} {s : Nat → Int32} : s_X11_readText_L20 p1 len text (a + 1) (nI 0) sp sm pl kd on tw th bg dn sb s = some (.inr (nI 0, sp, sm, pl, kd, on, tw, th, bg, dn, sb, s)) := rfl
theorem mtx {b : List Nat} {text : Nat → Int32} (h : RepB b (nI b.length) text) : ∀ (n i fuel : Nat) (r : Int32 × Int32 × Int32 × Int32 × Int32 × Int32 × Int32) (sp sm dn sb : Int32) (s : Nat → Int32), RP b i (some r) → i ≤ b.length → b.length - i < n → n < fuel →
    ∃ res, (s_X11_readText_L20 0 (nI b.length) text fuel r.1 sp sm r.2.1 r.2.2.1 r.2.2.2.1 r.2.2.2.2.1 r.2.2.2.2.2.1 r.2.2.2.2.2.2 dn sb s).bind mtK = some res ∧ res.1 = bI (scn b n i).1 ∧ res.2.2.2.1 = nI (scn b n i).2 ∧ res.2.2.2.2.2.2.2.2.2.2.2 = s := by
  intro n
  induction n with
  | zero => intro i fuel r sp sm dn sb s _ _ h3; exact absurd h3 (Nat.not_lt_zero _)
  | succ n ih =>
    intro i fuel r sp sm dn sb s hr hi hn hf
    obtain ⟨a, rfl⟩ : ∃ a, fuel = a + 1 := ⟨fuel - 1, by omega⟩
    have h60 := h.2.1
    have hE := qE_le hi
    have hsc : scn b (n + 1) i = if qO b i = true then (if qE b i = b.length then (true, b.length) else if gB b (qE b i) = 59 then scn b n (qE b i + 1) else (false, qE b i)) else (false, qE b i) := rfl
    obtain ⟨r0, e0, r1, r2, -⟩ := hr
    injection e0 with e0
    subst e0
    obtain ⟨x1, x2, x3, x4, x5, x6, x7⟩ := r
    have r1 : x1 = _ := r1
    have r2 : x2 = _ := r2
    subst r1 r2
    rw [hsc]
    cases hq : qO b i with
    | false =>
      rw [if_neg (by simp)]
      exact ⟨_, rfl, rfl, rfl, rfl⟩
    | true =>
      rw [if_pos rfl]
      have hp := qO_pos hq
      have hEi : qE b i = i + qM b i := rfl
      by_cases q2 : qE b i = b.length
      · rw [if_pos q2]
        refine ⟨(1, sp, sm, nI (qE b i), x3, x4, x5, x6, x7, dn + 1, sb, s), ?_, rfl, by rw [q2], rfl⟩
        refine bindE (a := .inl (1, sp, sm, nI (qE b i), x3, x4, x5, x6, x7, dn + 1, sb, s)) ?_ rfl
        show (if _ then _ else (if _ then (if nI (qE b i) = nI b.length then _ else _) else _)) = _
        rw [if_neg (by exact n10), if_pos rfl, if_pos (by rw [q2])]
      · rw [if_neg q2]
        have hne : ¬ (nI (qE b i) = nI b.length) := by rw [c_eq_f q2 (by omega) (by omega)]; exact id
        by_cases q3 : gB b (qE b i) = 59
        · rw [if_pos q3]
          have ht := mtkT h (c := 59) (q := qE b i) pln59 (by omega) (by rw [tk59 (by omega), decide_eq_true q3])
          obtain ⟨r', k1, k2⟩ := id (rpA (kd := x3) (on := x4) (tw := x5) (th := x6) (bg := x7) h (q := qE b i + 1) (by omega))
          have hr' : RP b (qE b i + 1) (some r') := ⟨r', rfl, k2⟩
          obtain ⟨res, z1, z2⟩ := ih (qE b i + 1) a r' sp sm (dn + 1) sb s hr' (by omega) (by omega) (by omega)
          refine ⟨res, ?_, z2⟩
          rw [← z1]
          congr 1
          show (if _ then _ else (if _ then (if nI (qE b i) = nI b.length then _ else (s_X11_takes 59 (nI b.length) (nI (qE b i)) text).bind _) else _)) = _
          rw [if_neg (by exact n10), if_pos rfl, if_neg hne]
          refine bindE ht ?_
          rw [if_neg (by exact n10)]
          refine bindE k1 ?_
          by_cases q4 : r'.1 = 0
          · rw [if_pos q4, q4]
          · rw [if_neg q4]
            have : r'.1 = 1 := by
              have := k2.1
              cases hb : qO b (qE b i + 1) with
              | false => rw [hb] at this; exact absurd this q4
              | true => rw [hb] at this; exact this
            rw [this]
        · rw [if_neg q3]
          have ht := mtkF h (c := 59) (q := qE b i) pln59 (by omega) (by rw [tk59 (by omega), decide_eq_false q3])
          obtain ⟨a', rfl⟩ : ∃ a', a = a' + 1 := ⟨a - 1, by omega⟩
          refine ⟨(0, sp, sm, nI (qE b i), x3, x4, x5, x6, x7, dn + 1, sb, s), ?_, rfl, rfl, rfl⟩
          refine bindE (a := .inr (nI 0, sp, sm, nI (qE b i), x3, x4, x5, x6, x7, dn + 1, sb, s)) ?_ rfl
          show (if _ then _ else (if _ then (if nI (qE b i) = nI b.length then _ else (s_X11_takes 59 (nI b.length) (nI (qE b i)) text).bind _) else _)) = _
          rw [if_neg (by exact n10), if_pos rfl, if_neg hne]
          refine bindE ht ?_
          rw [if_pos (by rfl)]
          exact L20_0
theorem mtA {b : List Nat} {len : Int32} {text : Nat → Int32} {sp sm pl kd on tw th bg dn sb : Int32} {s : Nat → Int32} (h : RepB b len text) :
    ∃ res, s_X11_readText 0 len sp sm pl kd on tw th bg dn sb s text = some res ∧ res.1 = bI (scn b 61 0).1 ∧ res.2.2.2.1 = nI (scn b 61 0).2 ∧ res.2.2.2.2.2.2.2.2.2.2.2 = s := by
  have hs := h.1
  subst hs
  have h60 := h.2.1
  obtain ⟨r', k1, k2⟩ := id (rpA (kd := kd) (on := on) (tw := tw) (th := th) (bg := bg) h (q := 0) (by omega))
  obtain ⟨res, z1, z2⟩ := mtx h 61 0 gF r' sp sm 0 0 s ⟨r', rfl, k2⟩ (by omega) (by omega) (by unfold gF; omega)
  exact ⟨res, bindE k1 z1, z2⟩
