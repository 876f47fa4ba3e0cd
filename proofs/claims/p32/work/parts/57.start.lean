/-! the start -/
def S0 : aS := (fun _ => [], [], 0, 3, 1, 0, 0, (0, 0), fun _ => 60, fun _ => 0, fun _ => 0)
def cI0 : Nat → Int32 := it 5 (fun i x => upd x (fc i) (nI 60)) (upd (upd (fun _ => 0) 1 (nI 3)) 2 (nI 1))
theorem i7c : s_X7_init = some cI0 := by
  have z1 : s_X7_put 1 3 (fun _ => 0) = some (upd (fun _ => 0) 1 (nI 3)) := put_ok (i := 1) (by omega)
  have z2 : s_X7_put 2 1 (upd (fun _ => 0) 1 (nI 3)) = some (upd (upd (fun _ => 0) 1 (nI 3)) 2 (nI 1)) := put_ok (i := 2) (by omega)
  have z3 : s_X7_init_L27 gF 0 (upd (upd (fun _ => 0) 1 (nI 3)) 2 (nI 1)) = some (nI 5, cI0) := laccS (fun a i x => s_X7_init_L27 a i x) 5 (fun i x => upd x (fc i) (nI 60)) (by omega) (fun a i x hi => by
    have hf := fc_lt hi
    simp (disch := omega) only [s_X7_init_L27, ↓reduceIte, nI_lit, mO_lit, mO_lt, mO_le, mO_gt, mO_ge, mO_ne, mO_ne', nI_add, nI_mul, nI_addlit0, bsome, c_le_f, c_le_t, c_lt_f, c_lt_t, c_eq_f, c_eq_t, if_true, if_false, fld_n, fst_n, fcell, put_ok, Nat.add_zero]) (fun a x => by simp (disch := omega) only [s_X7_init_L27, ↓reduceIte, nI_lit, mO_lit, mO_lt, mO_le, mO_gt, mO_ge, mO_ne, mO_ne', nI_add, nI_mul, nI_addlit0, bsome, c_le_f, c_le_t, c_lt_f, c_lt_t, c_eq_f, c_eq_t, if_true, if_false, fld_n, fst_n]) _
  exact bindE z1 (bindE z2 (bindE z3 rfl))
theorem i10c : s_X10_init = some (cI0, 0, 0, 0, (fun _ => 0), (fun _ => 0), 0, (fun _ => 0), 0, 0, 0, (fun _ => 0)) := bindE i7c rfl
theorem cI0_h : cI0 0 = nI 0 ∧ cI0 1 = nI 3 ∧ cI0 2 = nI 1 ∧ cI0 3 = 0 ∧ cI0 4 = 0 ∧ cI0 5 = 0 ∧ cI0 6 = 0 ∧ cI0 7 = nI 0 := by decide +kernel
theorem cI0_f : ∀ f, f < 5 → cI0 (fc f) = nI 60 ∧ cI0 (fc f + 1) = nI 0 ∧ cI0 (fc f + 2) = 0 ∧ cI0 (fc f + 3) = 0 := by decide +kernel
theorem S0_ok : OKS 0 S0 := by
  refine ⟨⟨Nat.le_refl 0, by omega, by decide, by decide, by decide⟩, fun f hf => ⟨by show (0 : Nat) ≤ 6; omega, by show 20 ≤ 60; omega, by show 60 ≤ 120; omega, fun n hn => absurd hn (Nat.not_lt_zero n)⟩, by decide, fun i hi => absurd hi (Nat.not_lt_zero i)⟩
theorem S0_c : IC 0 S0 cI0 := ⟨⟨cI0_h, fun f hf => ⟨cI0_f f hf, fun n hn => absurd hn (Nat.not_lt_zero n)⟩, fun i hi => absurd hi (Nat.not_lt_zero i)⟩, S0_ok⟩
