/-! the law is true -/
theorem cellT (L : Nat) (xs : Nat → Int32) (hL : L ≤ 260) {k : Nat} (hk : k < 1000) : ∃ v, s_L_cell L xs (nI k) = some v := by
  unfold s_L_cell
  by_cases q : L ≤ k
  · exact ⟨_, if_pos (nI_le q (by omega))⟩
  · rw [if_neg (nI_ge (by omega) (by omega)), fld_n (by omega) (by omega)]
    exact ⟨_, rfl⟩
theorem S0_I : OKI S0 := by
  refine ⟨⟨rfl, fun f hf => Nat.zero_le _, rfl⟩, ⟨fun _ => 0, fun i hi => absurd hi (Nat.not_lt_zero i), fun i hi => absurd hi (Nat.not_lt_zero (i + 1))⟩, fun _ => 0, fun f hf => rfl, ?_, rfl⟩
  rw [sN_zero]; exact Nat.zero_le _
theorem loopT {L : Nat} {xs : Nat → Int32} (hL : L ≤ 260) : ∀ (n e : Nat) {B : Nat} {S : aS} {T : Option aS} {b : List Nat} {c hv hn bc wl : Nat → Int32} {ho hs ht bs ws : Int32}, e + n = 52 → B ≤ 60 * e → JP B S T b c ho hs ht hv hn bs bc → OKI S →
    ∃ r, s_L_law_L28 L xs (n + 1) (nI e) c ho hs ht hv hn bs bc ws wl = some r := by
  intro n
  induction n with
  | zero =>
    intro e B S T b c hv hn bc wl ho hs ht bs ws he hB J hO
    have : e = 52 := by omega
    subst this
    exact ⟨_, ifT (by decide) rfl⟩
  | succ n ih =>
    intro e B S T b c hv hn bc wl ho hs ht bs ws he hB J hO
    obtain ⟨v1, e1⟩ := cellT L xs hL (k := 2 * e) (by omega)
    obtain ⟨v2, e2⟩ := cellT L xs hL (k := 2 * e + 1) (by omega)
    obtain ⟨c', ho', hs', ht', hv', hn', bs', bc', w1, w2, S', T', b', g1, J', O'⟩ := actT (ws := ws) (wl := wl) J hO (by omega) v1 v2
    obtain ⟨w3, w4, g2⟩ := holdsT J'.1 O' hs' w1 w2
    obtain ⟨r, g3⟩ := ih (e + 1) (ws := w3) (wl := w4) (by omega) (by omega) J' O'
    refine ⟨r, ?_⟩
    rw [s_L_law_L28]
    rw [← nI_mul 2 e] at e1
    rw [← nI_add, ← nI_mul 2 e] at e2
    refine ifF (nI_ge (a := e) (b := 52) (by omega) (by omega)) (bindE e1 (bindE e2 (bindE g1 (ifF (show ¬ (1 : Int32) = 0 by decide) (bindE g2 (ifF (show ¬ (1 : Int32) = 0 by decide) ?_))))))
    rw [← nI_add e 1] at g3
    exact g3
theorem law_true {L : Nat} (hL : L ≤ 260) (xs : Nat → Int32) : s_L_law L xs = some () := by
  have J0 : JP 0 S0 none [] cI0 0 0 0 (fun _ => 0) (fun _ => 0) 0 (fun _ => 0) := ⟨S0_c, ⟨[], 0, by omega, rfl, rfl, by simp, fun j hj => absurd hj (Nat.not_lt_zero j)⟩, rfl, RepB_nil⟩
  obtain ⟨w1, w2, g1⟩ := holdsT S0_c S0_I 0 0 (fun _ => 0)
  have t0 := q_share S0_c
  obtain ⟨r, g2⟩ := loopT (xs := xs) hL 52 0 (ws := w1) (wl := w2) (by omega) (Nat.zero_le _) J0 S0_I
  unfold s_L_law
  refine bindE i10c (bindE g1 (ifF (show ¬ (1 : Int32) = 0 by decide) (bindE t0 (ifT (by decide +kernel) (bindE g2 rfl)))))
