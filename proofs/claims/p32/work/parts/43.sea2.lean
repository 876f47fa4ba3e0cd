/-! what the changes leave sound; the class: a name is lost, a storm comes -/
theorem OKK_mono {B B' : Nat} {x : aK} (h : OKK B x) (hB : B ≤ B') : OKK B' x := ⟨h.1, Nat.le_trans h.2.1 hB, h.2.2.1, h.2.2.2⟩
theorem OKN_mono {B B' : Nat} {m : aN} (h : OKN B m) (hB : B ≤ B') : OKN B' m := ⟨h.1, h.2.1, fun k hk => OKK_mono (h.2.2 k hk) hB⟩
theorem OKS_mono {B B' : Nat} {S : aS} (h : OKS B S) (hB : B ≤ B') (h6 : B' < 1000000) : OKS B' S :=
  ⟨⟨Nat.le_trans h.1.1 hB, h6, h.1.2.2⟩, fun f hf => ⟨(h.2.1 f hf).1, (h.2.1 f hf).2.1, (h.2.1 f hf).2.2.1, fun n hn => OKN_mono ((h.2.1 f hf).2.2.2 n hn) hB⟩, h.2.2⟩
def aBel (f : Nat) (l : List aN) : aS → aS
  | (Bs, r) => (updF Bs f l, r)
theorem updF_updF {α : Type} (g : Nat → α) (f : Nat) (x y : α) : updF (updF g f x) f y = updF g f y := by
  funext i
  by_cases e : i = f
  · subst e; rw [updF_s, updF_s]
  · rw [updF_o e, updF_o e, updF_o e]
theorem updF_self {α : Type} (g : Nat → α) (f : Nat) : updF g f (g f) = g := by
  funext i
  by_cases e : i = f
  · subst e; rw [updF_s]
  · rw [updF_o e]
theorem OKS_bel {B f : Nat} {l : List aN} {S : aS} (h : OKS B S) (h6 : l.length ≤ 6) (hl : ∀ n, n < l.length → OKN B (l.getD n [])) : OKS B (aBel f l S) := by
  obtain ⟨Bs, r⟩ := S
  refine ⟨h.1, fun g hg => ?_, h.2.2⟩
  obtain ⟨a1, a2, a3, a4⟩ := h.2.1 g hg
  show (updF Bs f l g).length ≤ 6 ∧ _ ∧ _ ∧ ∀ n, n < (updF Bs f l g).length → OKN B ((updF Bs f l g).getD n [])
  by_cases e : g = f
  · subst e; rw [updF_s]; exact ⟨h6, a2, a3, hl⟩
  · rw [updF_o e]; exact ⟨a1, a2, a3, a4⟩
theorem OKS_cut {B f n : Nat} {S : aS} (h : OKS B S) (hf : f < 5) (hn : n < (sB S f).length) : OKS B (aCut f n S) := by
  obtain ⟨Bs, E, st, d, b, kt, ct, r⟩ := S
  have hn : n < (Bs f).length := hn
  have h6 : (Bs f).length ≤ 6 := (h.2.1 f hf).1
  have := OKS_bel (f := f) (l := (Bs f).eraseIdx n) h (by rw [List.length_eraseIdx_of_lt hn]; omega) (fun i hi => by
    rw [List.length_eraseIdx_of_lt hn] at hi
    rw [eraseIdx_getD]
    by_cases q : i < n
    · rw [if_pos q]; exact (h.2.1 f hf).2.2.2 i (by show i < (Bs f).length; omega)
    · rw [if_neg q]; exact (h.2.1 f hf).2.2.2 (i + 1) (by show i + 1 < (Bs f).length; omega))
  exact this
theorem OKS_nam {B f n : Nat} {m : aN} {x : Int32} {S : aS} (h : OKS B S) (hf : f < 5) (hn : n < (sB S f).length) (hm : OKN B m) : OKS B (aNam f n m x S) := by
  obtain ⟨Bs, E, st, d, b, kt, ct, r⟩ := S
  have hn : n < (Bs f).length := hn
  have h6 : (Bs f).length ≤ 6 := (h.2.1 f hf).1
  have := OKS_bel (f := f) (l := (Bs f).set n m) h (by rw [List.length_set]; omega) (fun i hi => by
    rw [List.length_set] at hi
    rw [setD _ _ _ _ _ hn]
    by_cases q : i = n
    · rw [if_pos q]; exact hm
    · rw [if_neg q]; exact (h.2.1 f hf).2.2.2 i hi)
  exact this
theorem OKS_tie {B f : Nat} {w : List Nat} {S : aS} (h : OKS B S) (hf : f < 5) (h6 : (sB S f).length < 6) (hw : 1 ≤ w.length ∧ w.length ≤ 8 ∧ ∀ k, k < w.length → w.getD k 0 < 16) : OKS B (aTie f w S) := by
  obtain ⟨Bs, E, st, d, b, kt, ct, r⟩ := S
  have h6 : (Bs f).length < 6 := h6
  have := OKS_bel (f := f) (l := Bs f ++ [tieN w]) h (by simp; omega) (fun i hi => by
    simp only [List.length_append, List.length_cons, List.length_nil] at hi
    by_cases q : i = (Bs f).length
    · subst q
      rw [getD_app2]
      refine ⟨by rw [tieN_len]; exact hw.1, by rw [tieN_len]; exact hw.2.1, fun k hk => ?_⟩
      rw [tieN_len] at hk
      rw [tieN_gK w hk]
      exact ⟨hw.2.2 k hk, Nat.zero_le _, hw.2.2 k hk, fun h0 => absurd h0 (Nat.lt_irrefl 0)⟩
    · rw [getD_app1 (by omega)]
      exact (h.2.1 f hf).2.2.2 i (by show i < (Bs f).length; omega))
  exact this
theorem OKS_num {B f j : Nat} {x : Int32} {v : Nat} {S : aS} (h : OKS B S) (hj : j = 0 ∧ 20 ≤ v ∧ v ≤ 120 ∨ j = 2 ∨ j = 3) : OKS B (aNum j f x v S) := by
  obtain ⟨Bs, E, st, d, b, kt, ct, sp, ln, lo, gi⟩ := S
  refine ⟨h.1, fun g hg => ?_, h.2.2⟩
  obtain ⟨a1, a2, a3, a4⟩ := h.2.1 g hg
  have a2 : 20 ≤ ln g := a2
  have a3 : ln g ≤ 120 := a3
  show _ ∧ 20 ≤ (if j = 0 then updF ln f v else ln) g ∧ (if j = 0 then updF ln f v else ln) g ≤ 120 ∧ _
  refine ⟨a1, ?_, ?_, a4⟩
  · by_cases q : j = 0
    · rw [if_pos q]
      by_cases e : g = f
      · subst e; rw [updF_s]; omega
      · rw [updF_o e]; exact a2
    · rw [if_neg q]; exact a2
  · by_cases q : j = 0
    · rw [if_pos q]
      by_cases e : g = f
      · subst e; rw [updF_s]; omega
      · rw [updF_o e]; exact a3
    · rw [if_neg q]; exact a3
theorem OKS_ent {B f n : Nat} {S : aS} (h : OKS B S) (hf : f < 5) (hn : n < (sB S f).length) : OKS B (aEnt f n S) := by
  have hm := (h.2.1 f hf).2.2.2 n hn
  have hE := h.2.2
  obtain ⟨s1, s2, s3, s4, s5, s6, s7, s8, s9, s10⟩ := setE_s (dropE (sE S) ++ [(fiL (nm S f n), f, nI (sSt S))]) S
  have hd : (dropE (sE S)).length < 12 ∧ ∀ i, i < (dropE (sE S)).length → OKE (gE (dropE (sE S)) i) := by
    unfold dropE
    by_cases q : (sE S).length < 12
    · rw [if_pos q]; exact ⟨q, hE.2⟩
    · rw [if_neg q]
      refine ⟨by simp; omega, fun i hi => ?_⟩
      simp only [List.length_drop] at hi
      rw [drop1_gE]; exact hE.2 (i + 1) (by omega)
  unfold aEnt
  refine ⟨by rw [s2, s3, s4]; exact h.1, fun g hg => ?_, ?_, fun i hi => ?_⟩
  · have e : ∀ i, nm (setE (dropE (sE S) ++ [(fiL (nm S f n), f, nI (sSt S))]) S) g i = nm S g i := fun i => congrArg (fun q => (q g).getD i []) s1
    refine ⟨by rw [s1]; exact (h.2.1 g hg).1, by rw [s8]; exact (h.2.1 g hg).2.1, by rw [s8]; exact (h.2.1 g hg).2.2.1, fun i hi => ?_⟩
    rw [s1] at hi
    rw [e]; exact (h.2.1 g hg).2.2.2 i hi
  · rw [setE_E, List.length_append]; have := hd.1; simp; omega
  · rw [setE_E] at hi ⊢
    rw [List.length_append] at hi
    simp only [List.length_cons, List.length_nil] at hi
    by_cases q : i = (dropE (sE S)).length
    · subst q
      rw [gE_app2]
      refine ⟨?_, ?_, hf, fun k hk => ?_⟩
      · show 1 ≤ (fiL (nm S f n)).length; rw [fiL_len]; exact hm.1
      · show (fiL (nm S f n)).length ≤ 8; rw [fiL_len]; exact hm.2.1
      · have hk : k < (fiL (nm S f n)).length := hk
        rw [fiL_len] at hk
        show (fiL (nm S f n)).getD k 0 < 16
        rw [fiL_getD _ hk]; exact (hm.2.2 k hk).2.2.1
    · rw [gE_app1 (by omega)]; exact hd.2 i (by omega)
def aLose (f n : Nat) (S : aS) : aS := aNum 2 f (sLo S f + 1) 0 (aCut f n (aEnt f n S))
theorem aEnt_s (f n : Nat) (S : aS) : sB (aEnt f n S) = sB S := (setE_s _ S).1
theorem aEnt_nm (f n g i : Nat) (S : aS) : nm (aEnt f n S) g i = nm S g i := by unfold nm; rw [aEnt_s]
theorem OKS_lose {B f n : Nat} {S : aS} (h : OKS B S) (hf : f < 5) (hn : n < (sB S f).length) : OKS B (aLose f n S) :=
  OKS_num (OKS_cut (OKS_ent h hf hn) hf (by rw [aEnt_s]; exact hn)) (Or.inr (Or.inl rfl))
theorem aCut_lo (f n : Nat) (S : aS) : sLo (aCut f n S) = sLo S := by obtain ⟨Bs, E, st, d, b, kt, ct, r⟩ := S; rfl
theorem aEnt_lo (f n : Nat) (S : aS) : sLo (aEnt f n S) = sLo S := (setE_s _ S).2.2.2.2.2.2.2.2.1
theorem losC {B f n : Nat} {S : aS} {c : Nat → Int32} (h : IC B S c) (hf : f < 5) (hn : n < (sB S f).length) :
    ∃ c', s_X6_lose (nI f) (nI n) c = some c' ∧ IC B (aLose f n S) c' := by
  obtain ⟨c1, h1, h2⟩ := entC h.1 h.2.lns (h.nam hf hn) hn
  have o1 := OKS_ent h.2 hf hn
  have hn1 : n < (sB (aEnt f n S) f).length := by rw [aEnt_s]; exact hn
  have i1 : IC B (aEnt f n S) c1 := ⟨h2, o1⟩
  obtain ⟨c2, h3, h4⟩ := cutC h2 o1.lns (i1.nam hf hn1) hn1
  have o2 := OKS_cut o1 hf hn1
  have hff := fc_lt hf
  have g2 : c2 (fc f + 2) = sLo S f := by
    have := (h4.2.1 f hf).1.2.2.1
    rw [aCut_lo, aEnt_lo] at this; exact this
  refine ⟨upd c2 (fc f + 2) (sLo S f + 1), ?_, numC h4 o2.lns hf (Or.inr (Or.inl rfl)), OKS_lose h.2 hf hn⟩
  have z3 : s_X7_fisherCell (nI f) 2 = some (nI (fc f + 2)) := by rw [show (2 : Int32) = nI 2 from rfl, fcell]
  have z4 : s_X7_add (nI (fc f + 2)) 1 c2 = some (upd c2 (fc f + 2) (sLo S f + 1)) := by rw [add_ok (by omega), g2]
  exact bindE h1 (bindE h3 (bindE z3 (bindE z4 rfl)))
/-- knots that are loosened twice or more -/
def u2 (m : aN) : Nat := sN m.length (fun k => bN (decide (1 < (gK m k).2.1)))
theorem ubN_0 {st d : Nat} {m : aN} : ubN st d m 0 = u2 m := by
  unfold ubN u2
  refine sN_congr fun k _ => ?_
  have : lbN st d k (gK m k) 0 = (gK m k).2.1 := by
    unfold lbN
    by_cases hv : vow (gK m k).1 = true
    · rw [if_pos hv, Nat.add_zero]; omega
    · rw [if_neg hv]
  rw [this]
/-- the names that are lost -/
def seaC (f : Nat) : Nat → Nat → Nat → aS → Nat × aS
  | 0, _, z, S => (z, S)
  | r + 1, p, z, S => if sBo S < u2 (nm S f p) then seaC f r p (z + 1) (aLose f p S) else seaC f r (p + 1) z S
theorem aLose_len {f n : Nat} {S : aS} (hn : n < (sB S f).length) : (sB (aLose f n S) f).length = (sB S f).length - 1 := by
  obtain ⟨Bs, E, st, d, b, kt, ct, sp, ln, lo, gi⟩ := S
  have hn : n < (Bs f).length := hn
  show (updF Bs f ((Bs f).eraseIdx n) f).length = _
  rw [updF_s, List.length_eraseIdx_of_lt hn]; rfl
theorem aLose_bo (f n : Nat) (S : aS) : sBo (aLose f n S) = sBo S := by obtain ⟨Bs, E, st, d, b, kt, ct, sp, ln, lo, gi⟩ := S; rfl
theorem seaL {B f N : Nat} (hf : f < 5) (hN : N ≤ 6) : ∀ (r p z fuel : Nat) (S : aS) (c : Nat → Int32), IC B S c → p + r = (sB S f).length → p + z + r = N → r < fuel →
    ∃ c', s_X6_comeOver_L43 (nI f) (nI N) (nI (sBo S)) fuel (nI z) (nI (p + z)) c = some (nI (seaC f r p z S).1, nI N, c') ∧ IC B (seaC f r p z S).2 c' := by
  intro r
  induction r with
  | zero =>
    intro p z fuel S c h h1 h2 h3
    obtain ⟨a, rfl⟩ : ∃ a, fuel = a + 1 := ⟨fuel - 1, by omega⟩
    have : p + z = N := by omega
    refine ⟨c, ?_, h⟩
    subst this
    simp (disch := omega) only [s_X6_comeOver_L43, ↓reduceIte, nI_lit, mO_lit, mO_lt, mO_le, mO_gt, mO_ge, mO_ne, mO_ne', nI_add, nI_mul, nI_addlit0, bsome, c_le_f, c_le_t, c_lt_f, c_lt_t, c_eq_f, c_eq_t, if_true, if_false, fld_n, fst_n]
    rfl
  | succ r ih =>
    intro p z fuel S c h h1 h2 h3
    obtain ⟨a, rfl⟩ : ∃ a, fuel = a + 1 := ⟨fuel - 1, by omega⟩
    have hp : p < (sB S f).length := by omega
    have hv := h.nam hf hp
    have hu := ubh hv h.env (s := 0) (by omega)
    rw [ubN_0] at hu
    have hu8 : u2 (nm S f p) ≤ 8 := by rw [← ubN_0 (st := 0) (d := 1)]; exact ubN_le hv.2.2.2.2
    have hb := h.2.1.2.2.2.2
    have e1 : nI (p + z) - nI z = nI p := by rw [nI_sub (by omega)]; congr 1; omega
    unfold seaC
    by_cases q : sBo S < u2 (nm S f p)
    · obtain ⟨c1, h4, h5⟩ := losC h hf hp
      obtain ⟨c', h6, h7⟩ := ih p (z + 1) a (aLose f p S) c1 h5 (by rw [aLose_len hp]; omega) (by omega) (by omega)
      rw [if_pos q]
      refine ⟨c', ?_, h7⟩
      rw [aLose_bo] at h6
      simp (disch := omega) only [s_X6_comeOver_L43, ↓reduceIte, nI_lit, mO_lit, mO_lt, mO_le, mO_gt, mO_ge, mO_ne, mO_ne', nI_add, nI_mul, nI_addlit0, bsome, c_le_f, c_le_t, c_lt_f, c_lt_t, c_eq_f, c_eq_t, if_true, if_false, fld_n, fst_n, e1, hu, h4]
      exact h6
    · obtain ⟨c', h6, h7⟩ := ih (p + 1) z a S c h (by omega) (by omega) (by omega)
      rw [if_neg q]
      refine ⟨c', ?_, h7⟩
      simp (disch := omega) only [s_X6_comeOver_L43, ↓reduceIte, nI_lit, mO_lit, mO_lt, mO_le, mO_gt, mO_ge, mO_ne, mO_ne', nI_add, nI_mul, nI_addlit0, bsome, c_le_f, c_le_t, c_lt_f, c_lt_t, c_eq_f, c_eq_t, if_true, if_false, fld_n, fst_n, e1, hu]
      rw [show p + z + 1 = p + 1 + z from by omega]
      exact h6
