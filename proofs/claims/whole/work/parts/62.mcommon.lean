/-! the model: who has common names -/
theorem anyB_iff {N : Nat} {p : Nat → Bool} : anyB N p = true ↔ ∃ i, i < N ∧ p i = true := by
  constructor
  · intro h
    exact Classical.byContradiction fun hc => by
      have : anyB N p = false := anyB_f fun i hi => by
        cases e : p i with
        | false => rfl
        | true => exact absurd ⟨i, hi, e⟩ hc
      rw [this] at h; cases h
  · rintro ⟨i, hi, e⟩; exact anyB_t hi e
theorem raB_symm (m m' : aN) : raB m m' = raB m' m := by
  unfold raB
  by_cases q : m.length = m'.length
  · rw [decide_eq_true q, decide_eq_true q.symm, q]
    congr 2
    exact anyB_congr fun k _ => by
      by_cases e : rdN (gK m k) = rdN (gK m' k)
      · simp [e]
      · rw [decide_eq_true e, decide_eq_true (Ne.symm e)]
  · rw [decide_eq_false q, decide_eq_false (fun e => q e.symm)]; rfl
theorem shB_symm (S : aS) (f g : Nat) : shB S f g = shB S g f := by
  unfold shB
  rw [Bool.eq_iff_iff, anyB_iff, anyB_iff]
  constructor
  · rintro ⟨i, hi, h⟩
    obtain ⟨j, hj, h⟩ := anyB_iff.mp h
    exact ⟨j, hj, anyB_iff.mpr ⟨i, hi, by rw [raB_symm]; exact h⟩⟩
  · rintro ⟨i, hi, h⟩
    obtain ⟨j, hj, h⟩ := anyB_iff.mp h
    exact ⟨j, hj, anyB_iff.mpr ⟨i, hi, by rw [raB_symm]; exact h⟩⟩
def cW (p : Nat → Nat → Bool) : Int32 := it 5 (fun f x => it (4 - f) (fun i x => if p f (f + 1 + i) = true then x ||| ((nI 1 <<< (nI f &&& nI 31)) ||| (nI 1 <<< (nI (f + 1 + i) &&& nI 31))) else x) x) (nI 0)
def mW (p : Nat → Nat → Bool) : Int32 := it 5 (fun f x => it 5 (fun g x => if f = g then x ||| nI 0 else if p f g = true then x ||| (nI 1 <<< (nI f &&& nI 31)) else x ||| nI 0) x) (nI 0)
theorem cW_congr {p q : Nat → Nat → Bool} (h : ∀ f g, f < 5 → g < 5 → f ≠ g → p f g = q f g) : cW p = cW q := by
  unfold cW
  refine it_congr (fun f hf x => it_congr (fun i hi y => ?_) x) _
  rw [h f (f + 1 + i) hf (by omega) (by omega)]
theorem mW_congr {p q : Nat → Nat → Bool} (h : ∀ f g, f < 5 → g < 5 → f ≠ g → p f g = q f g) : mW p = mW q := by
  unfold mW
  refine it_congr (fun f hf x => it_congr (fun g hg y => ?_) x) _
  by_cases e : f = g
  · rw [if_pos e, if_pos e]
  · rw [if_neg e, if_neg e, h f g hf hg e]
def pT (b01 b02 b03 b04 b12 b13 b14 b23 b24 b34 : Bool) : Nat → Nat → Bool
  | 0, 1 => b01 | 1, 0 => b01 | 0, 2 => b02 | 2, 0 => b02 | 0, 3 => b03 | 3, 0 => b03 | 0, 4 => b04 | 4, 0 => b04
  | 1, 2 => b12 | 2, 1 => b12 | 1, 3 => b13 | 3, 1 => b13 | 1, 4 => b14 | 4, 1 => b14 | 2, 3 => b23 | 3, 2 => b23
  | 2, 4 => b24 | 4, 2 => b24 | 3, 4 => b34 | 4, 3 => b34 | _, _ => false
theorem wTen : ∀ b01 b02 b03 b04 b12 b13 b14 b23 b24 b34 : Bool, cW (pT b01 b02 b03 b04 b12 b13 b14 b23 b24 b34) = mW (pT b01 b02 b03 b04 b12 b13 b14 b23 b24 b34) := by decide +kernel
theorem cWmW (p : Nat → Nat → Bool) (h : ∀ f g, p f g = p g f) : cW p = mW p := by
  have e : ∀ f g, f < 5 → g < 5 → f ≠ g → p f g = pT (p 0 1) (p 0 2) (p 0 3) (p 0 4) (p 1 2) (p 1 3) (p 1 4) (p 2 3) (p 2 4) (p 3 4) f g := by
    intro f g hf hg hne
    rcases (by omega : f = 0 ∨ f = 1 ∨ f = 2 ∨ f = 3 ∨ f = 4) with rfl | rfl | rfl | rfl | rfl <;>
      rcases (by omega : g = 0 ∨ g = 1 ∨ g = 2 ∨ g = 3 ∨ g = 4) with rfl | rfl | rfl | rfl | rfl <;> first | exact absurd rfl hne | rfl | exact h _ _
  rw [cW_congr e, mW_congr e]
  exact wTen _ _ _ _ _ _ _ _ _ _
theorem mwc {B : Nat} {S : aS} {s : Nat → Int32} (h : IM B S s) : s_X11_withCommon s = some (fwI S) := by
  rw [show fwI S = mW (shB S) from cWmW (shB S) (shB_symm S)]
  simp (disch := omega) only [s_X11_withCommon, ↓reduceIte, nI_lit, mO_lit, mO_lt, mO_le, mO_gt, mO_ge, mO_ne, mO_ne', nI_add, nI_mul, nI_addlit0, bsome, c_le_f, c_le_t, c_lt_f, c_lt_t, c_eq_f, c_eq_t, if_true, if_false, fld_n, fst_n]
  rw [lacc (fun a x i => s_X11_withCommon_L4 s a x i) 5 (fun f x => it 5 (fun g x => if f = g then x ||| nI 0 else if shB S f g = true then x ||| (nI 1 <<< (nI f &&& nI 31)) else x ||| nI 0) x) (by omega)]
  · rfl
  · intro a f x hf
    simp (disch := omega) only [s_X11_withCommon_L4, ↓reduceIte, nI_lit, mO_lit, mO_lt, mO_le, mO_gt, mO_ge, mO_ne, mO_ne', nI_add, nI_mul, nI_addlit0, bsome, c_le_f, c_le_t, c_lt_f, c_lt_t, c_eq_f, c_eq_t, if_true, if_false, fld_n, fst_n]
    rw [lacc (fun a x i => s_X11_withCommon_L11 (nI f) s a x i) 5 (fun g x => if f = g then x ||| nI 0 else if shB S f g = true then x ||| (nI 1 <<< (nI f &&& nI 31)) else x ||| nI 0) (by omega)]
    · rfl
    · intro a g x hg
      simp (disch := omega) only [s_X11_withCommon_L11, ↓reduceIte, nI_lit, mO_lit, mO_lt, mO_le, mO_gt, mO_ge, mO_ne, mO_ne', nI_add, nI_mul, nI_addlit0, bsome, c_le_f, c_le_t, c_lt_f, c_lt_t, c_eq_f, c_eq_t, if_true, if_false, fld_n, fst_n, mhc h hf hg]
      by_cases q : f = g
      · subst q; simp (disch := omega) only [↓reduceIte, nI_lit, mO_lit, mO_lt, mO_le, mO_gt, mO_ge, mO_ne, mO_ne', nI_add, nI_mul, nI_addlit0, bsome, c_le_f, c_le_t, c_lt_f, c_lt_t, c_eq_f, c_eq_t, if_true, if_false, fld_n, fst_n]
      · rw [if_neg q]
        cases shB S f g <;> simp (disch := omega) only [bI_t, bI_f, ↓reduceIte, nI_lit, mO_lit, mO_lt, mO_le, mO_gt, mO_ge, mO_ne, mO_ne', nI_add, nI_mul, nI_addlit0, bsome, c_le_f, c_le_t, c_lt_f, c_lt_t, c_eq_f, c_eq_t, if_true, if_false, fld_n, fst_n, if_neg q] <;> rfl
    · intro a x
      simp (disch := omega) only [s_X11_withCommon_L11, ↓reduceIte, nI_lit, mO_lit, mO_lt, mO_le, mO_gt, mO_ge, mO_ne, mO_ne', nI_add, nI_mul, nI_addlit0, bsome, c_le_f, c_le_t, c_lt_f, c_lt_t, c_eq_f, c_eq_t, if_true, if_false, fld_n, fst_n]
  · intro a x
    simp (disch := omega) only [s_X11_withCommon_L4, ↓reduceIte, nI_lit, mO_lit, mO_lt, mO_le, mO_gt, mO_ge, mO_ne, mO_ne', nI_add, nI_mul, nI_addlit0, bsome, c_le_f, c_le_t, c_lt_f, c_lt_t, c_eq_f, c_eq_t, if_true, if_false, fld_n, fst_n]
