/-! the class: handing over, the saved states, the buffer -/
theorem RepC_ext {S : aS} {c c' : Nat → Int32} (h : RepC S c) (hl : LnS S) (fr : ∀ j, j < 910 → c' j = c j) : RepC S c' := by
  obtain ⟨g0, g1, g2, g3, g4, g5, g6, g7⟩ := h.1
  refine RepC_mk ⟨by rw [fr _ (by omega)]; exact g0, by rw [fr _ (by omega)]; exact g1, by rw [fr _ (by omega)]; exact g2, by rw [fr _ (by omega)]; exact g3, by rw [fr _ (by omega)]; exact g4, by rw [fr _ (by omega)]; exact g5, by rw [fr _ (by omega)]; exact g6, by rw [fr _ (by omega)]; exact g7⟩ (fun f hf => ?_) (fun i hi => ?_)
  · obtain ⟨⟨a0, a1, a2, a3⟩, a4⟩ := h.2.1 f hf
    have hfd := fc_def f
    have h66 := (hl.1 f hf).1
    refine ⟨⟨by rw [fr _ (by omega)]; exact a0, by rw [fr _ (by omega)]; exact a1, by rw [fr _ (by omega)]; exact a2, by rw [fr _ (by omega)]; exact a3⟩, fun n hn => ?_⟩
    have := nc_def f n
    exact CN_move (a4 n hn) ((hl.1 f hf).2 n hn).2 (fun j hj => fr _ (by omega))
  · have := ec_def i
    have := hl.2.1
    exact CE_move (h.2.2 i hi) (hl.2.2 i hi) (fun j hj => fr _ (by omega))
/-- handing over -/
def aGive (f n g : Nat) (S : aS) : aS := aTie g (rdL (nm S f n)) (aNum 3 f (sGi S f + 1) 0 (aCut f n S))
theorem aCut_gi (f n : Nat) (S : aS) : sGi (aCut f n S) = sGi S := by obtain ⟨Bs, E, st, d, b, kt, ct, r⟩ := S; rfl
theorem aNum_B (j f n : Nat) (x : Int32) (S : aS) : sB (aNum j f x n S) = sB S := by obtain ⟨Bs, E, st, d, b, kt, ct, sp, ln, lo, gi⟩ := S; rfl
theorem aCut_B (f n g : Nat) (S : aS) (h : g ≠ f) : sB (aCut f n S) g = sB S g := by
  obtain ⟨Bs, E, st, d, b, kt, ct, sp, ln, lo, gi⟩ := S
  exact updF_o h
theorem rdL_ok {B : Nat} {m : aN} (h : OKN B m) (hu : urB m = false) : 1 ≤ (rdL m).length ∧ (rdL m).length ≤ 8 ∧ ∀ k, k < (rdL m).length → (rdL m).getD k 0 < 16 := by
  have e : (rdL m).length = m.length := by unfold rdL; simp
  refine ⟨by rw [e]; exact h.1, by rw [e]; exact h.2.1, fun k hk => ?_⟩
  rw [e] at hk
  rw [rdL_getD m hk]
  have h1 := rdN_le (h.2.2 k hk)
  have h2 : rdN (gK m k) ≠ 16 := fun q => by
    have := anyB_t (p := fun k => decide (rdN (gK m k) = 16)) hk (decide_eq_true q)
    unfold urB at hu
    rw [hu] at this; cases this
  omega
theorem givC {B f n g : Nat} {S : aS} {c : Nat → Int32} {sz : Int32} {lt : Nat → Int32} (h : IC B S c) (hf : f < 5) (hn : n < (sB S f).length) (hg : g < 5) (hgf : f ≠ g) (h6 : (sB S g).length < 6) (hu : urB (nm S f n) = false) (hw : RepW (rdL (nm S f n)) sz lt) :
    ∃ c', s_X4_handOver (nI f) (nI n) (nI g) c sz lt = some (nI (sB S g).length, c') ∧ IC B (aGive f n g S) c' := by
  obtain ⟨c1, h1, h2⟩ := cutC h.1 h.2.lns (h.nam hf hn) hn
  have o1 := OKS_cut h.2 hf hn
  have hff := fc_lt hf
  have g3 : c1 (fc f + 3) = sGi S f := by
    have := (h2.2.1 f hf).1.2.2.2
    rw [aCut_gi] at this; exact this
  have z2 : s_X7_fisherCell (nI f) 3 = some (nI (fc f + 3)) := by rw [show (3 : Int32) = nI 3 from rfl, fcell]
  have z3 : s_X7_add (nI (fc f + 3)) 1 c1 = some (upd c1 (fc f + 3) (sGi S f + 1)) := by rw [add_ok (by omega), g3]
  have r2 := numC (x := sGi S f + 1) (v := 0) (j := 3) h2 o1.lns hf (Or.inr (Or.inr rfl))
  have o2 := OKS_num (f := f) (j := 3) (x := sGi S f + 1) (v := 0) o1 (Or.inr (Or.inr rfl))
  have eB : sB (aNum 3 f (sGi S f + 1) 0 (aCut f n S)) g = sB S g := by rw [aNum_B, aCut_B f n g S (fun e => hgf e.symm)]
  obtain ⟨c', h3, h4⟩ := tieC (B := B) (f := g) r2 (by rw [eB]; exact h6) hg o2.2.2 (fun f hf => ⟨(o2.2.1 f hf).1, (o2.2.1 f hf).2.2.2⟩) hw
  rw [eB] at h3
  exact ⟨c', bindE h1 (bindE z2 (bindE z3 (bindE h3 rfl))), h4, OKS_tie o2 hg (by rw [eB]; exact h6) (rdL_ok ((h.2.2.1 f hf).2.2.2 n hn) hu)⟩
/-- the saved states -/
def gS (H : List aS) (j : Nat) : aS := H.getD j (fun _ => [], [], 0, 0, 0, 0, 0, (0, 0), fun _ => 0, fun _ => 0, fun _ => 0)
def RepH (B : Nat) (H : List aS) (oldest size : Int32) (saved : Nat → Int32) : Prop :=
  ∃ o, o < 6 ∧ oldest = nI o ∧ size = nI H.length ∧ H.length ≤ 6 ∧ ∀ j, j < H.length → RepC (gS H j) (fun i => saved ((o + j) % 6 * 910 + i)) ∧ OKS B (gS H j)
def pushH (H : List aS) (S : aS) : List aS := (if H.length = 6 then H.drop 1 else H) ++ [S]
theorem cpyTo {N p : Nat} {c row : Nat → Int32} (h : p + 910 ≤ N) (hN : N < 2147483648) : s_X7_copyTo N (nI p) c row = some (va_cpy c row 0 p 910) := by
  unfold s_X7_copyTo
  have e0 : ¬ nI p < 0 := nI_pos (by omega)
  have e1 : ¬ Int32.ofNat N - 910 < nI p := by
    rw [show Int32.ofNat N - 910 = nI (N - 910) from by rw [show (910 : Int32) = nI 910 from rfl, ← nI_sub (by omega)]; rfl]
    exact nI_nlt (by omega) (by omega)
  rw [if_neg e0, if_neg e1]
  unfold fcp
  rw [show (0 : Int32) = nI 0 from rfl, show (910 : Int32) = nI 910 from rfl, nI_clamp (by omega), nI_clamp (by omega), nI_clamp (by omega), if_pos ⟨nI_nlt (by omega) (by omega), nI_nlt (by omega) (by omega), nI_nlt (by omega) (by omega), by omega, by omega⟩]
theorem cpyFrom {N p : Nat} {c row : Nat → Int32} (h : p + 910 ≤ N) (hN : N < 2147483648) : s_X7_copyFrom N (nI p) c row = some (va_cpy row c p 0 910) := by
  unfold s_X7_copyFrom
  have e0 : ¬ nI p < 0 := nI_pos (by omega)
  have e1 : ¬ Int32.ofNat N - 910 < nI p := by
    rw [show Int32.ofNat N - 910 = nI (N - 910) from by rw [show (910 : Int32) = nI 910 from rfl, ← nI_sub (by omega)]; rfl]
    exact nI_nlt (by omega) (by omega)
  rw [if_neg e0, if_neg e1]
  unfold fcp
  rw [show (0 : Int32) = nI 0 from rfl, show (910 : Int32) = nI 910 from rfl, nI_clamp (by omega), nI_clamp (by omega), nI_clamp (by omega), if_pos ⟨nI_nlt (by omega) (by omega), nI_nlt (by omega) (by omega), nI_nlt (by omega) (by omega), by omega, by omega⟩]
theorem cpy_in {f g : Nat → Int32} {p n j : Nat} (h : j < n) : va_cpy f g 0 p n (p + j) = f j := by
  unfold va_cpy
  rw [if_pos ⟨by omega, by omega⟩]; congr 1; omega
theorem cpy_out {f g : Nat → Int32} {p n j q : Nat} (h : j < p ∨ p + n ≤ j) : va_cpy f g q p n j = g j := by
  unfold va_cpy
  rw [if_neg (by omega)]
theorem nI_mod {a b : Nat} (ha : a < 2147483648) (hb : b < 2147483648) : nI a - nI a / nI b * nI b = nI (a % b) := by
  have h1 : a / b * b ≤ a := Nat.div_mul_le_self a b
  rw [nI_div ha hb, nI_mul, nI_sub h1]
  congr 1
  have := Nat.div_add_mod a b
  rw [Nat.mul_comm] at this
  omega
theorem gS_app1 {H : List aS} {S : aS} {j : Nat} (h : j < H.length) : gS (H ++ [S]) j = gS H j := getD_app1 h
theorem gS_app2 {H : List aS} {S : aS} : gS (H ++ [S]) H.length = S := getD_app2
theorem gS_drop (H : List aS) (i : Nat) : gS (H.drop 1) i = gS H (i + 1) := by
  unfold gS
  simp only [List.getD_eq_getElem?_getD, List.getElem?_drop]
  rw [Nat.add_comm]
theorem pshA {B o n : Nat} {S : aS} {c saved : Nat → Int32} {H : List aS} (h : IC B S c) (ho : o < 6) (hn : H.length = n) (h6 : n < 6) (hH : ∀ j, j < n → RepC (gS H j) (fun i => saved ((o + j) % 6 * 910 + i)) ∧ OKS B (gS H j)) :
    RepH B (H ++ [S]) (nI o) (nI (n + 1)) (va_cpy c saved 0 ((o + n) % 6 * 910) 910) := by
  refine ⟨o, ho, rfl, by rw [List.length_append, hn]; rfl, by rw [List.length_append, hn]; simp; omega, fun j hj => ?_⟩
  rw [List.length_append, hn] at hj
  have hj : j < n + 1 := hj
  by_cases q : j = n
  · rw [q, ← hn, gS_app2, hn]
    exact ⟨RepC_ext h.1 h.2.lns (fun i hi => cpy_in hi), h.2⟩
  · rw [gS_app1 (by omega)]
    obtain ⟨h1, h2⟩ := hH j (by omega)
    refine ⟨RepC_ext h1 h2.lns (fun i hi => cpy_out ?_), h2⟩
    have : (o + j) % 6 ≠ (o + n) % 6 := by omega
    generalize (o + j) % 6 = x at *
    generalize (o + n) % 6 = y at *
    omega
theorem psh {B : Nat} {S : aS} {c : Nat → Int32} {H : List aS} {oldest size : Int32} {saved : Nat → Int32} (h : IC B S c) (hh : RepH B H oldest size saved) :
    ∃ r, s_X3_push oldest size saved c = some r ∧ RepH B (pushH H S) r.1 r.2.1 r.2.2 := by
  obtain ⟨o, ho, rfl, rfl, h6, hH⟩ := hh
  unfold pushH
  by_cases q : H.length = 6
  · rw [if_pos q]
    have e : ((o + 1) % 6 + 5) % 6 = o := by omega
    refine ⟨(nI ((o + 1) % 6), nI (5 + 1), va_cpy c saved 0 (((o + 1) % 6 + 5) % 6 * 910) 910), ?_, ?_⟩
    · have z1 : s_X3_cellOf (nI 5) (nI ((o + 1) % 6)) = some (nI (((o + 1) % 6 + 5) % 6 * 910)) := by
        simp (disch := omega) only [s_X3_cellOf, ↓reduceIte, nI_lit, mO_lit, mO_lt, mO_le, mO_gt, mO_ge, mO_ne, mO_ne', nI_add, nI_mul, nI_addlit0, bsome, c_le_f, c_le_t, c_lt_f, c_lt_t, c_eq_f, c_eq_t, if_true, if_false, fld_n, fst_n, nI_mod]
      have z2 := cpyTo (N := 5460) (p := ((o + 1) % 6 + 5) % 6 * 910) (c := c) (row := saved) (by omega) (by omega)
      simp (disch := omega) only [s_X3_push, q, ↓reduceIte, nI_lit, mO_lit, mO_lt, mO_le, mO_gt, mO_ge, mO_ne, mO_ne', nI_add, nI_mul, nI_addlit0, bsome, c_le_f, c_le_t, c_lt_f, c_lt_t, c_eq_f, c_eq_t, if_true, if_false, fld_n, fst_n, nI_mod, nI_sub]
      exact bindE z1 (bindE z2 rfl)
    · exact pshA (n := 5) h (by omega) (by simp [q]) (by omega) (fun j hj => by
        rw [gS_drop]
        have := hH (j + 1) (by omega)
        rw [show ((o + 1) % 6 + j) % 6 = (o + (j + 1)) % 6 from by omega]
        exact this)
  · rw [if_neg q]
    refine ⟨(nI o, nI (H.length + 1), va_cpy c saved 0 ((o + H.length) % 6 * 910) 910), ?_, ?_⟩
    · have z1 : s_X3_cellOf (nI H.length) (nI o) = some (nI ((o + H.length) % 6 * 910)) := by
        simp (disch := omega) only [s_X3_cellOf, ↓reduceIte, nI_lit, mO_lit, mO_lt, mO_le, mO_gt, mO_ge, mO_ne, mO_ne', nI_add, nI_mul, nI_addlit0, bsome, c_le_f, c_le_t, c_lt_f, c_lt_t, c_eq_f, c_eq_t, if_true, if_false, fld_n, fst_n, nI_mod]
      have z2 := cpyTo (N := 5460) (p := (o + H.length) % 6 * 910) (c := c) (row := saved) (by omega) (by omega)
      simp (disch := omega) only [s_X3_push, ↓reduceIte, nI_lit, mO_lit, mO_lt, mO_le, mO_gt, mO_ge, mO_ne, mO_ne', nI_add, nI_mul, nI_addlit0, bsome, c_le_f, c_le_t, c_lt_f, c_lt_t, c_eq_f, c_eq_t, if_true, if_false, fld_n, fst_n]
      exact bindE z1 (bindE z2 rfl)
    · exact pshA (n := H.length) h ho rfl (by omega) hH
/-! the snapshot -/
/-- the snapshot, both sides -/
def TC (B : Nat) : Option aS → Int32 → (Nat → Int32) → Prop
  | none, t, _ => t = nI 0
  | some S, t, c => t = nI 1 ∧ IC B S c
theorem ctake {B : Nat} {S : aS} {c sn : Nat → Int32} (h : IC B S c) : ∃ r, s_X7_copyTo 910 0 c sn = some r ∧ IC B S r :=
  ⟨_, cpyTo (p := 0) (by omega) (by omega), RepC_ext h.1 h.2.lns (fun j hj => by have := cpy_in (f := c) (g := sn) (p := 0) hj; rw [Nat.zero_add] at this; exact this), h.2⟩
theorem cload {B : Nat} {S : aS} {c sn : Nat → Int32} (h : IC B S sn) : ∃ r, s_X7_copyFrom 910 0 c sn = some r ∧ IC B S r :=
  ⟨_, cpyFrom (p := 0) (by omega) (by omega), RepC_ext h.1 h.2.lns (fun j hj => by have := cpy_in (f := sn) (g := c) (p := 0) hj; rw [Nat.zero_add] at this; exact this), h.2⟩

