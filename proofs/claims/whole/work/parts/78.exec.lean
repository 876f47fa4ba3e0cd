/-! the parts of a text, and what they do -/
def qF (b : List Nat) (i : Nat) : Nat := gB b (i + plF (qP b i)) - 48
def qN (b : List Nat) (i : Nat) : Nat := gB b (i + plF (qP b i) + 2) - 48
def qG (b : List Nat) (i : Nat) : Nat := gB b (i + plF (qP b i) + 4) - 48
def qW (b : List Nat) (i : Nat) : List Nat := spW b (i + 5) (qE b i)
def rsn (b : List Nat) (i : Nat) (S : aS) : Int32 := if qP b i = 2 then nI 0 else if qP b i = 1 then wtI S (qF b i) (qW b i) else if qN b i < (sB S (qF b i)).length then (if qP b i = 3 then wgI S (qF b i) (qN b i) (qG b i) else if qP b i = 4 then wfI S (qF b i) (qN b i) else nI 0) else nI 6
def act (b : List Nat) (i : Nat) (S : aS) : aS := if qP b i = 2 then (aStorm (qF b i) S).2 else if qP b i = 1 then aTie (qF b i) (qW b i) S else if qP b i = 3 then aGive (qF b i) (qN b i) (qG b i) S else if qP b i = 4 then aFast (qF b i) (qN b i) S else aCut (qF b i) (qN b i) S
def exS (b : List Nat) : Nat → Nat → Nat → aS → Nat × Int32 × aS
  | 0, _, dn, S => (dn, nI 0, S)
  | n + 1, i, dn, S => if rsn b i S = nI 0 then (if qE b i = b.length then (dn + 1, nI 0, act b i S) else exS b n (qE b i + 1) (dn + 1) (act b i S)) else (dn, rsn b i S, S)
theorem plF_70 : ∀ p, p < 6 → 1 ≤ p → (ptn p).getD (plF p) 0 = 70 ∧ (3 ≤ p → (ptn p).getD (plF p + 2) 0 = 78) ∧ (p = 3 → (ptn p).getD (plF p + 4) 0 = 70) := by decide
theorem mE_Ma : ∀ p, p < 6 → ∀ M, M < 14 → mE p M = true → 1 ≤ p ∧ plF p < M := by decide
theorem mE_Mb : ∀ p, p < 6 → ∀ M, M < 14 → mE p M = true → 3 ≤ p → plF p + 2 < M := by decide
theorem mE_Mc : ∀ p, p < 6 → ∀ M, M < 14 → mE p M = true → p = 3 → plF p + 4 < M := by decide
theorem mE_Md : ∀ p, p < 6 → ∀ M, M < 14 → mE p M = true → p = 1 → 6 ≤ M := by decide
theorem mE_M (p : Nat) (hp : p < 6) (M : Nat) (hM : M < 14) (h : mE p M = true) : 1 ≤ p ∧ plF p < M ∧ (3 ≤ p → plF p + 2 < M) ∧ (p = 3 → plF p + 4 < M) ∧ (p = 1 → 6 ≤ M) :=
  ⟨(mE_Ma p hp M hM h).1, (mE_Ma p hp M hM h).2, mE_Mb p hp M hM h, mE_Mc p hp M hM h, mE_Md p hp M hM h⟩
theorem ptn1_76 : ∀ k, k < 13 → 5 ≤ k → (ptn 1).getD k 0 = 76 := by decide
theorem prt {b : List Nat} {i : Nat} (hO : qO b i = true) : i < b.length ∧ 1 ≤ qP b i ∧ (48 ≤ gB b (i + plF (qP b i)) ∧ gB b (i + plF (qP b i)) ≤ 52 ∧ i + plF (qP b i) < b.length) ∧
    (3 ≤ qP b i → 48 ≤ gB b (i + plF (qP b i) + 2) ∧ gB b (i + plF (qP b i) + 2) ≤ 53 ∧ i + plF (qP b i) + 2 < b.length) ∧
    (qP b i = 3 → 48 ≤ gB b (i + plF (qP b i) + 4) ∧ gB b (i + plF (qP b i) + 4) ≤ 52 ∧ i + plF (qP b i) + 4 < b.length) ∧ (qP b i = 1 → spB b (i + 5) (qE b i) = true) := by
  have hp := qP_lt b i
  have h13 := ptn_len _ hp
  have hM : qM b i ≤ (ptn (qP b i)).length := mtN_le b _ i
  obtain ⟨m1, m2, m3, m4, m5⟩ := mE_M _ hp (qM b i) (by omega) hO
  obtain ⟨f1, f2, f3⟩ := plF_70 _ hp m1
  have hit : ∀ k, k < qM b i → tkB b ((ptn (qP b i)).getD k 0) (i + k) = true := fun k hk => mtN_fit b _ i k hk
  have d70 : ∀ j, tkB b 70 j = true → 48 ≤ gB b j ∧ gB b j ≤ 52 ∧ j < b.length := fun j h => by
    obtain ⟨t1, t2⟩ := tkB_lt h
    have t2 : (decide (48 ≤ gB b j) && decide (gB b j ≤ 52)) = true := t2
    rw [Bool.and_eq_true] at t2
    exact ⟨of_decide_eq_true t2.1, of_decide_eq_true t2.2, t1⟩
  have d78 : ∀ j, tkB b 78 j = true → 48 ≤ gB b j ∧ gB b j ≤ 53 ∧ j < b.length := fun j h => by
    obtain ⟨t1, t2⟩ := tkB_lt h
    have t2 : (decide (48 ≤ gB b j) && decide (gB b j ≤ 53)) = true := t2
    rw [Bool.and_eq_true] at t2
    exact ⟨of_decide_eq_true t2.1, of_decide_eq_true t2.2, t1⟩
  have h0 := (tkB_lt (hit 0 (by omega))).1
  refine ⟨by omega, m1, ?_, fun h3 => ?_, fun h3 => ?_, fun h1 => ?_⟩
  · have := hit _ m2
    rw [f1] at this
    exact d70 _ this
  · have := hit _ (m3 h3)
    rw [f2 h3, ← Nat.add_assoc] at this
    exact d78 _ this
  · have := hit _ (m4 h3)
    rw [f3 h3, ← Nat.add_assoc] at this
    exact d70 _ this
  · have hE : qE b i = i + qM b i := rfl
    have h6 := m5 h1
    rw [h1] at hM hit
    have h13' : (ptn 1).length = 13 := by decide
    unfold spB
    rw [decide_eq_true (show i + 5 < qE b i by omega), decide_eq_true (show qE b i ≤ i + 5 + 8 by omega), anyB_f fun k hk => ?_]
    · rfl
    · have := hit (5 + k) (by omega)
      rw [ptn1_76 (5 + k) (by omega) (by omega)] at this
      have h2 := (tkB_lt this).2
      have h2 : ltB (gB b (i + (5 + k))) = true := h2
      unfold gB at h2
      rw [show i + 5 + k = i + (5 + k) from by omega, h2]; rfl
theorem OKW_sp {b : List Nat} {a e : Nat} (h : spB b a e = true) : OKW (spW b a e) := by
  unfold spB at h
  simp only [Bool.and_eq_true, Bool.not_eq_true'] at h
  obtain ⟨⟨h1, h2⟩, h3⟩ := h
  have h1 := of_decide_eq_true h1
  have h2 := of_decide_eq_true h2
  have hl := spW_len b a e
  refine ⟨by omega, by omega, fun k hk => ?_⟩
  rw [hl] at hk
  rw [spW_getD _ _ _ hk]
  cases q : ltB (b.getD (a + k) 0) with
  | true => have := ltB_t q; omega
  | false =>
    have := anyB_t (N := e - a) (p := fun k => !(ltB (b.getD (a + k) 0))) hk (by show (!(ltB (b.getD (a + k) 0))) = true; rw [q]; rfl)
    rw [h3] at this; cases this
theorem pOf_inv : ∀ x, x < 127 → (pOf x = 1 → x = 116) ∧ (pOf x = 2 → x = 115) ∧ (pOf x = 3 → x = 103) ∧ (pOf x = 4 → x = 102) ∧ (pOf x = 5 → x = 99) := by decide
def chP (p : Nat) : Nat := if p = 1 then 116 else if p = 2 then 115 else if p = 3 then 103 else if p = 4 then 102 else 99
theorem qP_inv {b : List Nat} {sz : Int32} {cs : Nat → Int32} (h : RepB b sz cs) {i : Nat} (hi : i < b.length) (h1 : 1 ≤ qP b i) : gB b i = chP (qP b i) := by
  obtain ⟨i1, i2, i3, i4, i5⟩ := pOf_inv _ (gB_127 h hi)
  have hp := qP_lt b i
  have e : qP b i = pOf (gB b i) := by unfold qP; rw [if_pos hi]
  unfold chP
  rcases (by omega : qP b i = 1 ∨ qP b i = 2 ∨ qP b i = 3 ∨ qP b i = 4 ∨ qP b i = 5) with q | q | q | q | q
  · rw [q] at e ⊢; exact i1 e.symm
  · rw [q] at e ⊢; exact i2 e.symm
  · rw [q] at e ⊢; exact i3 e.symm
  · rw [q] at e ⊢; exact i4 e.symm
  · rw [q] at e ⊢; exact i5 e.symm
theorem wtI_6 (S : aS) (f : Nat) (w : List Nat) : ∃ r, r ≤ 3 ∧ wtI S f w = nI r ∧ (r = 0 → (sB S f).length < 6) := by
  unfold wtI
  by_cases q1 : (sB S f).length < 6
  · rw [if_pos q1]
    by_cases q2 : cdW w ≤ leftI S f
    · rw [if_pos q2]
      by_cases q3 : anyB (sB S f).length (fun n => rwB (nm S f n) w) = true
      · rw [if_pos q3]; exact ⟨3, by omega, rfl, fun c => by omega⟩
      · rw [if_neg q3]; exact ⟨0, by omega, rfl, fun _ => q1⟩
    · rw [if_neg q2]; exact ⟨2, by omega, rfl, fun c => by omega⟩
  · rw [if_neg q1]; exact ⟨1, by omega, rfl, fun c => by omega⟩
theorem wgI_6 (S : aS) (f n g : Nat) : ∃ r, r ≤ 5 ∧ wgI S f n g = nI r ∧ (r = 0 → f ≠ g ∧ urB (nm S f n) = false ∧ (sB S g).length < 6) := by
  unfold wgI
  by_cases q1 : f = g
  · rw [if_pos q1]; exact ⟨5, by omega, rfl, fun c => by omega⟩
  · rw [if_neg q1]
    cases q2 : urB (nm S f n) with
    | true => rw [if_pos rfl]; exact ⟨4, by omega, rfl, fun c => by omega⟩
    | false =>
      rw [if_neg (by simp)]
      obtain ⟨r, r1, r2, r3⟩ := wtI_6 S g (rdL (nm S f n))
      exact ⟨r, by omega, r2, fun c => ⟨q1, rfl, r3 c⟩⟩
theorem wfI_6 (S : aS) (f n : Nat) : ∃ r, r ≤ 2 ∧ wfI S f n = nI r := by
  unfold wfI
  by_cases q : sI (nm S f n).length (fun k => moI (gK (nm S f n) k)) ≤ leftI S f
  · rw [if_pos q]; exact ⟨0, by omega, rfl⟩
  · rw [if_neg q]; exact ⟨2, by omega, rfl⟩
theorem nI0_inj {r : Nat} (h : r < 1000) (e : nI r = nI 0) : r = 0 := by
  have := nI_inj32 (a := r) (b := 0) (by omega) (by omega) e
  exact this
theorem rsn_6 (b : List Nat) (i : Nat) (S : aS) : ∃ r, r ≤ 6 ∧ rsn b i S = nI r := by
  unfold rsn
  by_cases q2 : qP b i = 2
  · rw [if_pos q2]; exact ⟨0, by omega, rfl⟩
  · rw [if_neg q2]
    by_cases q1 : qP b i = 1
    · rw [if_pos q1]; obtain ⟨r, r1, r2, -⟩ := wtI_6 S (qF b i) (qW b i); exact ⟨r, by omega, r2⟩
    · rw [if_neg q1]
      by_cases qn : qN b i < (sB S (qF b i)).length
      · rw [if_pos qn]
        by_cases q3 : qP b i = 3
        · rw [if_pos q3]; obtain ⟨r, r1, r2, -⟩ := wgI_6 S (qF b i) (qN b i) (qG b i); exact ⟨r, by omega, r2⟩
        · rw [if_neg q3]
          by_cases q4 : qP b i = 4
          · rw [if_pos q4]; obtain ⟨r, r1, r2⟩ := wfI_6 S (qF b i) (qN b i); exact ⟨r, by omega, r2⟩
          · rw [if_neg q4]; exact ⟨0, by omega, rfl⟩
      · rw [if_neg qn]; exact ⟨6, by omega, rfl⟩
theorem IC_mono {B B' : Nat} {S : aS} {c : Nat → Int32} (h : IC B S c) (hB : B ≤ B') (h6 : B' < 1000000) : IC B' S c := ⟨h.1, OKS_mono h.2 hB h6⟩
theorem IM_mono {B B' : Nat} {S : aS} {s : Nat → Int32} (h : IM B S s) (hB : B ≤ B') (h6 : B' < 1000000) : IM B' S s := ⟨h.1, OKS_mono h.2 hB h6⟩
theorem OKS_fast {B f n : Nat} {S : aS} (h : OKS B S) (hf : f < 5) (hn : n < (sB S f).length) : OKS B (aFast f n S) :=
  OKS_nam h hf hn (by rw [← tgP_all]; exact OKN_tgP ((h.2.1 f hf).2.2.2 n hn) _)
