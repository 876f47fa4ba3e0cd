/-! the law: an act -/
section
variable {B : Nat} {S : aS} {T : Option aS} {b : List Nat} {c hv hn bc wl : Nat → Int32} {ho hs ht bs ws : Int32} {f n g l p : Nat}
/-- behind an act -/
def AR (B : Nat) (r : Option (Int32 × (Nat → Int32) × Int32 × Int32 × Int32 × (Nat → Int32) × (Nat → Int32) × Int32 × (Nat → Int32) × Int32 × (Nat → Int32))) : Prop :=
  ∃ c' ho' hs' ht' hv' hn' bs' bc' w1 w2 S' T' b', r = some (1, c', ho', hs', ht', hv', hn', bs', bc', w1, w2) ∧ JP B S' T' b' c' ho' hs' ht' hv' hn' bs' bc' ∧ OKI S'
theorem AR_of {r r' : Option (Int32 × (Nat → Int32) × Int32 × Int32 × Int32 × (Nat → Int32) × (Nat → Int32) × Int32 × (Nat → Int32) × Int32 × (Nat → Int32))} (h : AR B r) (e : r' = r) : AR B r' := by subst e; exact h
theorem AR_if {cc : Prop} [Decidable cc] {x y : Option (Int32 × (Nat → Int32) × Int32 × Int32 × Int32 × (Nat → Int32) × (Nat → Int32) × Int32 × (Nat → Int32) × Int32 × (Nat → Int32))} (h1 : cc → AR B x) (h2 : ¬ cc → AR B y) : AR B (if cc then x else y) := by
  by_cases q : cc
  · rw [if_pos q]; exact h1 q
  · rw [if_neg q]; exact h2 q
theorem AR_low {k : Nat} {v : Int32} {F : Int32 → Option (Int32 × (Nat → Int32) × Int32 × Int32 × Int32 × (Nat → Int32) × (Nat → Int32) × Int32 × (Nat → Int32) × Int32 × (Nat → Int32))} (h0 : 0 < k) (hk : k < 2147483648) (h : ∀ x, x < k → AR B (F (nI x))) : AR B ((s_L_low v (nI k)).bind F) := by
  obtain ⟨x, hx, e⟩ := low_ok h0 hk v
  exact AR_of (h x hx) (bindE e rfl)
theorem AR_b {α : Type} {x : Option α} {a : α} {F : α → Option (Int32 × (Nat → Int32) × Int32 × Int32 × Int32 × (Nat → Int32) × (Nat → Int32) × Int32 × (Nat → Int32) × Int32 × (Nat → Int32))} (e : x = some a) (h : AR B (F a)) : AR B (x.bind F) := by subst e; exact h
theorem AR_c {x : Option (Int32 ⊕ String)} {a : Int32} {F : Int32 → Option (Int32 × (Nat → Int32) × Int32 × Int32 × Int32 × (Nat → Int32) × (Nat → Int32) × Int32 × (Nat → Int32) × Int32 × (Nat → Int32))} {G} (e : x = some (.inl a)) (h : AR B (F a)) : AR B (x.bind fun v1 => fth v1 F G) := by subst e; exact h
theorem act_ties (J : JP B S T b c ho hs ht hv hn bs bc) (hO : OKI S) (hf : f < 5) (v : Int32) : AR B ((s_L_ties (nI f) v c ho hs hv bs bc ws wl).bind fun v8 => fz v8.1 (some (v8.1, v8.2.1, v8.2.2.1, v8.2.2.2.1, ht, v8.2.2.2.2.1, hn, v8.2.2.2.2.2.1, v8.2.2.2.2.2.2.1, v8.2.2.2.2.2.2.2.1, v8.2.2.2.2.2.2.2.2))) := by
  obtain ⟨c', ho', hs', hv', bs', bc', w1, w2, b', S', g1, g2, g3, -⟩ := tiesT (ws := ws) (wl := wl) J hO hf v
  exact ⟨c', ho', hs', ht, hv', hn, bs', bc', w1, w2, S', T, b', bindE g1 (fz1 rfl), g2, g3⟩
theorem act_bears (J : JP B S T b c ho hs ht hv hn bs bc) (hO : OKI S) (hf : f < 5) (hB : B + 60 < 1000000) (hn' : n < (sB S f).length) : AR (B + 60) ((s_L_bears (nI f) (nI n) c ho hs ht hv hn).bind fun v59 => fz v59.1 (some (v59.1, v59.2.1, v59.2.2.1, v59.2.2.2.1, v59.2.2.2.2.1, v59.2.2.2.2.2.1, v59.2.2.2.2.2.2, bs, bc, ws, wl))) := by
  obtain ⟨c', ho', hs', ht', hv', hn2, g1, g2⟩ := bearsT J hO hf hB hn'
  exact ⟨c', ho', hs', ht', hv', hn2, bs, bc, ws, wl, S, some S, b, bindE g1 (fz1 rfl), g2, hO⟩
theorem act_storms (J : JP B S T b c ho hs ht hv hn bs bc) (hO : OKI S) (hf : f < 5) (hB : B + 1 < 1000000) : AR (B + 1) ((s_L_storms (nI f) c ho hs hv).bind fun v57 => fz v57.1 (some (v57.1, v57.2.1, v57.2.2.1, v57.2.2.2.1, ht, v57.2.2.2.2, hn, bs, bc, ws, wl))) := by
  obtain ⟨c', ho', hs', hv', g1, g2⟩ := stormsT J hO hf hB
  exact ⟨c', ho', hs', ht, hv', hn, bs, bc, ws, wl, (aStorm f S).2, T, b, bindE g1 (fz1 rfl), g2, storm_I J.1.2 hO hf hB⟩
theorem act_fastens (J : JP B S T b c ho hs ht hv hn bs bc) (hO : OKI S) (hf : f < 5) (hn' : n < (sB S f).length) : AR B ((s_L_fastens (nI f) (nI n) c ho hs hv).bind fun v57 => fz v57.1 (some (v57.1, v57.2.1, v57.2.2.1, v57.2.2.2.1, ht, v57.2.2.2.2, hn, bs, bc, ws, wl))) := by
  obtain ⟨c', ho', hs', hv', S', g1, g2, g3⟩ := fastensT J hO hf hn'
  exact ⟨c', ho', hs', ht, hv', hn, bs, bc, ws, wl, S', T, b, bindE g1 (fz1 rfl), g2, g3⟩
theorem act_gives (J : JP B S T b c ho hs ht hv hn bs bc) (hO : OKI S) (hf : f < 5) (hg : g < 5) (hn' : n < (sB S f).length) : AR B ((s_L_gives (nI f) (nI n) (nI g) c ho hs hv ws wl).bind fun v45 => fz v45.1 (some (v45.1, v45.2.1, v45.2.2.1, v45.2.2.2.1, ht, v45.2.2.2.2.1, hn, bs, bc, v45.2.2.2.2.2.1, v45.2.2.2.2.2.2))) := by
  obtain ⟨c', ho', hs', hv', w1, w2, S', g1, g2, g3⟩ := givesT (ws := ws) (wl := wl) J hO hf hg hn'
  exact ⟨c', ho', hs', ht, hv', hn, bs, bc, w1, w2, S', T, b, bindE g1 (fz1 rfl), g2, g3⟩
theorem AR_mono {B' : Nat} {r : Option (Int32 × (Nat → Int32) × Int32 × Int32 × Int32 × (Nat → Int32) × (Nat → Int32) × Int32 × (Nat → Int32) × Int32 × (Nat → Int32))} (h : AR B r) (hB : B ≤ B') (h6 : B' < 1000000) : AR B' r := by
  obtain ⟨c', ho', hs', ht', hv', hn', bs', bc', w1, w2, S', T', b', g1, g2, g3⟩ := h
  exact ⟨c', ho', hs', ht', hv', hn', bs', bc', w1, w2, S', T', b', g1, JP_mono g2 hB h6, g3⟩
theorem actT (J : JP B S T b c ho hs ht hv hn bs bc) (hO : OKI S) (hB : B + 60 < 1000000) (a1 a2 : Int32) : AR (B + 60) (s_L_act a1 a2 c ho hs ht hv hn bs bc ws wl) := by
  have h := J.1
  unfold s_L_act
  refine AR_low (k := 20) (by omega) (by omega) fun r1 q1 => AR_low (k := 2) (by omega) (by omega) fun r2 q2 => ?_
  obtain ⟨k3, k31, k32, e3⟩ : ∃ k3, 0 < k3 ∧ k3 ≤ 5 ∧ (if nI r2 = 0 then (5 : Int32) else 2) = nI k3 := by
    by_cases q : nI r2 = 0
    · exact ⟨5, by omega, by omega, if_pos q⟩
    · exact ⟨2, by omega, by omega, if_neg q⟩
  refine AR_of ?_ (flV e3 rfl)
  refine AR_low k31 (by omega) fun f hf' => ?_
  have hf : f < 5 := by omega
  have h6 := h.six hf
  have f1 := q_fisher h hf (w := 1) (by omega)
  have f1 : s_X10_fisher (nI f) 1 c = some (.inl (nI (sB S f).length)) := f1
  refine AR_c f1 (AR_if (fun _ => AR_mono (act_ties J hO hf _) (by omega) hB) fun _ => AR_if (fun _ => AR_mono (act_ties J hO hf _) (by omega) hB) fun qm => ?_)
  have hm0 : 0 < (sB S f).length := by
    rcases Nat.eq_zero_or_pos (sB S f).length with e | e
    · rw [e] at qm; exact absurd rfl qm
    · exact e
  refine AR_low hm0 (by omega) fun n hn' => AR_if (fun _ => AR_if (fun _ => act_bears J hO hf hB hn') fun _ => AR_if (fun _ => ?_) fun _ => AR_if (fun _ => AR_if (fun _ => AR_if (fun _ => ?_) fun _ => ?_) fun _ => ?_) fun _ => ?_) fun _ => AR_mono (act_storms J hO hf (by omega)) (by omega) hB
  · -- cut
    have n1 := q_name h hf hn' (w := 1) (by omega)
    have n1 : s_X10_name (nI f) (nI n) 1 c = some (.inl (cdN (nm S f n))) := n1
    have c4 := q_count h (w := 4) (by omega) hs
    have c4 : s_X10_count 4 c hs = some (.inl (sCt S)) := c4
    obtain ⟨c', ho', hs', hv', g1, J'⟩ := p_cut J hf hn'
    have h' := J'.1
    have d4 := q_count h' (w := 4) (by omega) hs'
    have e4 : oaI (aCut f n S) 4 = sCt S - cdN (nm S f n) := by obtain ⟨Bs, E, st, d, b, kt, ct, sp, ln, lo, gi⟩ := S; rfl
    rw [e4] at d4
    have d1 := q_fisher h' hf (w := 1) (by omega)
    have e1 : ofI (aCut f n S) f 1 = nI ((sB S f).length - 1) := by
      show nI (sB (aCut f n S) f).length = _
      have : sB (aCut f n S) f = (sB S f).eraseIdx n := by obtain ⟨Bs, E, st, d, b, kt, ct, sp, ln, lo, gi⟩ := S; exact updF_s
      rw [this, List.length_eraseIdx_of_lt hn']
    rw [e1] at d1
    have hO' : OKI (aCut f n S) := by
      have := OKM_cut h.2 hO hf hn'
      obtain ⟨Bs, E, st, d, b, kt, ct, sp, ln, lo, gi⟩ := S
      exact this
    refine ⟨c', ho', hs', ht, hv', hn, bs, bc, ws, wl, aCut f n S, T, b, ?_, JP_mono J' (by omega) hB, hO'⟩
    refine cal n1 (cal c4 (calM (v := cdN (nm S f n)) (w := (c', ho', hs', hv')) g1 (ifT rfl (cal d4 (ifT rfl (cal d1 (flT ?_ (fz1 rfl))))))))
    exact (nI_sub (b := 1) hm0).symm
  · -- belt
    have hfit := hO.1.2.1 f hf
    have hln := (h.2.2.1 f hf).2.2.1
    have f0 := q_fisher h hf (w := 0) (by omega)
    have f0 : s_X10_fisher (nI f) 0 c = some (.inl (nI (sLn S f))) := f0
    have f2 := q_fisher h hf (w := 2) (by omega)
    have eL : ofI S f 2 = nI (sLn S f - cdB S f) := left_N h.2 hf hfit
    rw [eL] at f2
    refine AR_c f0 (AR_c f2 (AR_low (k := 30) (by omega) (by omega) fun r hr => ?_))
    have ev : nI (sLn S f) - nI (sLn S f - cdB S f) + nI r = nI (cdB S f + r) := by
      rw [nI_sub (by omega), nI_add]; congr 1; omega
    rw [ev]
    refine AR_if (fun _ => ⟨c, ho, hs, ht, hv, hn, bs, bc, ws, wl, S, T, b, rfl, JP_mono J (by omega) hB, hO⟩) fun q20 => AR_if (fun _ => ⟨c, ho, hs, ht, hv, hn, bs, bc, ws, wl, S, T, b, rfl, JP_mono J (by omega) hB, hO⟩) fun q120 => ?_
    have h20 : 20 ≤ cdB S f + r := by
      rcases Nat.lt_or_ge (cdB S f + r) 20 with e | e
      · exact absurd (nI_lt (b := 20) e (by omega)) q20
      · exact e
    have h120 : cdB S f + r ≤ 120 := by
      rcases Nat.lt_or_ge 120 (cdB S f + r) with e | e
      · exact absurd (nI_lt (a := 120) e (by omega)) q120
      · exact e
    obtain ⟨c', ho', hs', hv', g1, J'⟩ := p_belt J hf h20 h120 (by rw [left_N h.2 hf hfit, nI_sub (by omega)]; exact nI_le (by omega) (by omega))
    have h' := J'.1
    have d0 := q_fisher h' hf (w := 0) (by omega)
    have e0 : ofI (aNum 0 f (nI (cdB S f + r)) (cdB S f + r) S) f 0 = nI (cdB S f + r) := by
      show nI (sLn (aNum 0 f (nI (cdB S f + r)) (cdB S f + r) S) f) = _
      generalize cdB S f + r = l
      obtain ⟨Bs, E, st, d, b, kt, ct, sp, ln, lo, gi⟩ := S
      show nI (updF ln f l f) = _
      rw [updF_s]
    rw [e0] at d0
    have hO' : OKI (aNum 0 f (nI (cdB S f + r)) (cdB S f + r) S) := by
      have := OKM_ln (x := nI (cdB S f + r)) hO (l := cdB S f + r) (f := f) (by omega)
      generalize cdB S f + r = l at *
      obtain ⟨Bs, E, st, d, b, kt, ct, sp, ln, lo, gi⟩ := S
      exact this
    refine ⟨c', ho', hs', ht, hv', hn, bs, bc, ws, wl, _, T, b, ?_, JP_mono J' (by omega) hB, hO'⟩
    exact calM (v := nI (sLn S f)) (w := (c', ho', hs', hv')) g1 (ifT rfl (cal d0 (flT rfl (fz1 rfl))))
  · -- set
    refine AR_low (k := 2) (by omega) (by omega) fun r hr => ?_
    rcases (by omega : r = 0 ∨ r = 1) with rfl | rfl
    · have c11 := q_count h (w := 11) (by omega) hs
      have c11 : s_X10_count (11 + nI 0) c hs = some (.inl (nI (sD S))) := c11
      refine AR_c c11 (AR_of ?_ (if_pos rfl))
      refine AR_low (k := 2) (by omega) (by omega) fun r2 q2 => ?_
      obtain ⟨k3, k31, k32, e3⟩ : ∃ k3, 0 < k3 ∧ k3 ≤ 9 ∧ (if nI r2 = 0 then (9 : Int32) else 2) = nI k3 := by
        by_cases q : nI r2 = 0
        · exact ⟨9, by omega, by omega, if_pos q⟩
        · exact ⟨2, by omega, by omega, if_neg q⟩
      refine AR_of ?_ (flV e3 rfl)
      refine AR_low k31 (by omega) fun r5 q5 => ?_
      obtain ⟨c', ho', hs', hv', g1, J'⟩ := p_set0 (l := 1 + r5) J (by omega) (by omega)
      have g1 : s_X10_set (nI 0) (1 + nI r5) c ho hs hv = some (.inl (nI (sD S)), c', ho', hs', hv') := by rw [show (1 : Int32) + nI r5 = nI (1 + r5) from nI_add 1 r5]; exact g1
      have h' := J'.1
      have d11 := q_count h' (w := 11) (by omega) hs'
      have e11 : oaI (aSd (1 + r5) S) 11 = nI (1 + r5) := by
        generalize 1 + r5 = l
        obtain ⟨Bs, E, st, d, b, kt, ct, sp, ln, lo, gi⟩ := S; rfl
      rw [e11] at d11
      have d11 : s_X10_count (11 + nI 0) c' hs' = some (.inl (nI (1 + r5))) := d11
      have hO' : OKI (aSd (1 + r5) S) := by
        have := OKM_sd (v := 1 + r5) hO
        generalize 1 + r5 = l at *
        obtain ⟨Bs, E, st, d, b, kt, ct, sp, ln, lo, gi⟩ := S
        exact this
      refine ⟨c', ho', hs', ht, hv', hn, bs, bc, ws, wl, _, T, b, ?_, JP_mono J' (by omega) hB, hO'⟩
      exact calM (v := nI (sD S)) (w := (c', ho', hs', hv')) g1 (ifT rfl (cal d11 (flT (nI_add 1 r5).symm (fz1 rfl))))
    · have c12 := q_count h (w := 12) (by omega) hs
      have c12 : s_X10_count (11 + nI 1) c hs = some (.inl (nI (sBo S))) := c12
      refine AR_c c12 (AR_of ?_ (if_neg (by exact n10)))
      refine AR_low (k := 2) (by omega) (by omega) fun r2 q2 => ?_
      obtain ⟨k3, k31, k32, e3⟩ : ∃ k3, 0 < k3 ∧ k3 ≤ 9 ∧ (if nI r2 = 0 then (9 : Int32) else 3) = nI k3 := by
        by_cases q : nI r2 = 0
        · exact ⟨9, by omega, by omega, if_pos q⟩
        · exact ⟨3, by omega, by omega, if_neg q⟩
      refine AR_of ?_ (flV e3 rfl)
      refine AR_low k31 (by omega) fun r5 q5 => ?_
      obtain ⟨c', ho', hs', hv', g1, J'⟩ := p_set1 (l := r5) J (by omega)
      have g1 : s_X10_set (nI 1) (nI r5) c ho hs hv = some (.inl (nI (sBo S)), c', ho', hs', hv') := g1
      have h' := J'.1
      have d12 := q_count h' (w := 12) (by omega) hs'
      have e12 : oaI (aSb r5 S) 12 = nI r5 := by obtain ⟨Bs, E, st, d, b, kt, ct, sp, ln, lo, gi⟩ := S; rfl
      rw [e12] at d12
      have d12 : s_X10_count (11 + nI 1) c' hs' = some (.inl (nI r5)) := d12
      have hO' : OKI (aSb r5 S) := by
        have := OKM_sb (v := r5) hO
        obtain ⟨Bs, E, st, d, b, kt, ct, sp, ln, lo, gi⟩ := S
        exact this
      refine ⟨c', ho', hs', ht, hv', hn, bs, bc, ws, wl, _, T, b, ?_, JP_mono J' (by omega) hB, hO'⟩
      exact calM (v := nI (sBo S)) (w := (c', ho', hs', hv')) g1 (ifT rfl (cal d12 (flT rfl (fz1 rfl))))
  · -- give
    refine AR_low (k := 5) (by omega) (by omega) fun g hg => ?_
    exact AR_mono (act_gives J hO hf hg hn') (by omega) hB
  · -- fast
    exact AR_mono (act_fastens J hO hf hn') (by omega) hB
end
