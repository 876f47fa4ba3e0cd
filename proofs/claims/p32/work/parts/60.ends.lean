/-! the law: low; the end of a belt's text -/
theorem and31 (v : Int32) : ∃ w, w < 2147483648 ∧ v &&& 2147483647 = nI w := by
  refine ⟨(v &&& 2147483647).toBitVec.toNat, ?_, ?_⟩
  · rw [Int32.toBitVec_and, BitVec.toNat_and]
    have := Nat.and_le_right (n := v.toBitVec.toNat) (m := (2147483647 : Int32).toBitVec.toNat)
    have e : (2147483647 : Int32).toBitVec.toNat = 2147483647 := by decide
    omega
  · apply Int32.toBitVec_inj.mp
    apply BitVec.eq_of_toNat_eq
    show _ = (BitVec.ofNat 32 (v &&& 2147483647).toBitVec.toNat).toNat
    rw [BitVec.toNat_ofNat, Nat.mod_eq_of_lt (v &&& 2147483647).toBitVec.isLt]
theorem low_ok {n : Nat} (h0 : 0 < n) (hn : n < 2147483648) (v : Int32) : ∃ r, r < n ∧ s_L_low v (nI n) = some (nI r) := by
  obtain ⟨w, hw, e⟩ := and31 v
  refine ⟨w % n, Nat.mod_lt _ h0, ?_⟩
  unfold s_L_low
  rw [e, fnz_n (by omega) hn, nI_mod hw hn]
theorem sN_front (N : Nat) (f : Nat → Nat) : sN (N + 1) f = f 0 + sN N (fun i => f (i + 1)) := by
  induction N with
  | zero => show 0 + f 0 = f 0 + 0; omega
  | succ n ih =>
    show sN (n + 1) f + f (n + 1) = f 0 + (sN n (fun i => f (i + 1)) + f (n + 1))
    rw [ih]; omega
/-- a belt's text up to a name -/
def upN (g : Nat → aN) (n r : Nat) : Nat := sN r (fun i => (g (n + i)).length + 1)
theorem upN_s (g : Nat → aN) (n r : Nat) : upN g n (r + 1) = (g n).length + 1 + upN g (n + 1) r := by
  unfold upN
  rw [sN_front, Nat.add_zero]
  congr 1
  exact sN_congr fun i _ => by rw [show n + (i + 1) = n + 1 + i from by omega]
theorem tt_up (g : Nat → aN) : ∀ (r n : Nat), tt g r n = upN g n r := by
  intro r
  induction r with
  | zero => intro n; rfl
  | succ r ih => intro n; rw [upN_s, ← ih]; rfl
theorem td_last (g : Nat → aN) : ∀ (r n k : Nat), k < (g (n + r)).length → tdI g (r + 1) n (upN g n r + k) = cdI (rdN (gK (g (n + r)) k)) := by
  intro r
  induction r with
  | zero =>
    intro n k h
    show (if 0 + k < (g n).length then cdI (rdN (gK (g n) (0 + k))) else _) = _
    have h : k < (g n).length := h
    rw [Nat.zero_add, if_pos h]; rfl
  | succ r ih =>
    intro n k h
    rw [upN_s]
    show (if _ < (g n).length then _ else if _ = (g n).length then _ else tdI g (r + 1) (n + 1) _) = _
    rw [if_neg (by omega), if_neg (by omega), show (g n).length + 1 + upN g (n + 1) r + k - ((g n).length + 1) = upN g (n + 1) r + k from by omega, ih (n + 1) k (by rw [show n + 1 + r = n + (r + 1) from by omega]; exact h), show n + 1 + r = n + (r + 1) from by omega]
section
variable {B f n : Nat} {S : aS} {c : Nat → Int32}
def enN (S : aS) (f i : Nat) : Nat := sN i (fun k => (nm S f k).length + if k = 0 then 0 else 1)
theorem enN_up (S : aS) (f i : Nat) : enN S f (i + 1) + 1 = upN (nm S f) 0 (i + 1) := by
  induction i with
  | zero => show 0 + ((nm S f 0).length + 0) + 1 = 0 + ((nm S f 0).length + 1); omega
  | succ i ih =>
    have e1 : enN S f (i + 1 + 1) = enN S f (i + 1) + ((nm S f (i + 1)).length + if i + 1 = 0 then 0 else 1) := rfl
    have e2 : upN (nm S f) 0 (i + 1 + 1) = upN (nm S f) 0 (i + 1) + ((nm S f (0 + (i + 1))).length + 1) := rfl
    rw [e1, e2, ← ih, if_neg (by omega), Nat.zero_add]; omega
theorem endsT (h : IC B S c) (hf : f < 5) (hn : n + 1 = (sB S f).length) : s_L_ends (nI f) (nI n) c = some 1 := by
  have h6 := h.six hf
  have k1 := q_fisher h hf (w := 1) (by omega)
  have k1 : s_X10_fisher (nI f) 1 c = some (.inl (nI (sB S f).length)) := k1
  have l1 : s_L_ends_L5 (nI f) c gF 0 0 = some (nI (enN S f (sB S f).length), nI (sB S f).length) := by
    refine lpN (fun fu (y : Int32 × Int32) => s_L_ends_L5 (nI f) c fu y.1 y.2) (sB S f).length (fun i => (nI (enN S f i), nI i)) _ (by omega) (fun i hi fu => ?_) (fun fu => ?_)
    · have n0 := q_name h hf hi (w := 0) (by omega)
      have n0 : s_X10_name (nI f) (nI i) 0 c = some (.inl (nI (nm S f i).length)) := n0
      show s_L_ends_L5 (nI f) c (fu + 1) (nI (enN S f i)) (nI i) = s_L_ends_L5 (nI f) c fu (nI (enN S f i + ((nm S f i).length + if i = 0 then 0 else 1))) (nI (i + 1))
      rw [s_L_ends_L5]
      refine cal k1 (ifF (by simp (disch := omega) only [↓reduceIte, nI_lit, mO_lit, mO_lt, mO_le, mO_gt, mO_ge, mO_ne, mO_ne', nI_add, nI_mul, nI_addlit0, bsome, c_le_f, c_le_t, c_lt_f, c_lt_t, c_eq_f, c_eq_t, if_true, if_false, fld_n, fst_n, not_false_eq_true]) (cal n0 ?_))
      rw [← nI_add i 1]
      by_cases q : i = 0
      · subst q
        refine flT (by decide) ?_
        rw [if_pos rfl, ← nI_add, ← nI_add]; rfl
      · refine flF (nI_ge (b := i) (a := 0) (by omega) (by omega)) ?_
        rw [if_neg q, ← nI_add, ← nI_add]; rfl
    · show s_L_ends_L5 (nI f) c (fu + 1) _ (nI (sB S f).length) = _
      rw [s_L_ends_L5]
      exact cal k1 (ifT (by simp (disch := omega) only [↓reduceIte, nI_lit, mO_lit, mO_lt, mO_le, mO_gt, mO_ge, mO_ne, mO_ne', nI_add, nI_mul, nI_addlit0, bsome, c_le_f, c_le_t, c_lt_f, c_lt_t, c_eq_f, c_eq_t, if_true, if_false, fld_n, fst_n, not_false_eq_true]) rfl)
  have hT := enN_up S f n
  rw [hn] at hT
  have hup : upN (nm S f) 0 (sB S f).length = upN (nm S f) 0 n + ((nm S f n).length + 1) := by
    rw [← hn]
    show upN (nm S f) 0 n + ((nm S f (0 + n)).length + 1) = _
    rw [Nat.zero_add]
  have hup8 : upN (nm S f) 0 (sB S f).length ≤ 54 := by
    have := sN_le (N := (sB S f).length) (f := fun i => (nm S f (0 + i)).length + 1) (b := 9) (fun i hi => by
      have := (h.2.nam hf (n := i) hi).2.1
      show (nm S f (0 + i)).length + 1 ≤ 9
      rw [Nat.zero_add]; omega)
    unfold upN; omega
  have hn' : n < (sB S f).length := by omega
  have om := h.2.nam hf hn'
  have n0 := q_name h hf hn' (w := 0) (by omega)
  have n0 : s_X10_name (nI f) (nI n) 0 c = some (.inl (nI (nm S f n).length)) := n0
  have t0 := q_told h hf (j := enN S f (sB S f).length) (by omega)
  rw [td_eq (nm S f) (sB S f).length 0 _ (by rw [tt_up]; omega)] at t0
  have l2 : s_L_ends_L64 (nI f) (nI n) (nI (enN S f (sB S f).length)) c gF 1 0 = some (1, nI (nm S f n).length) := by
    have hl8 := om.2.1
    refine lpN (fun fu (y : Int32) => s_L_ends_L64 (nI f) (nI n) (nI (enN S f (sB S f).length)) c fu 1 y) (nm S f n).length (fun i => nI i) _ (by omega) (fun i hi fu => ?_) (fun fu => ?_)
    · have kk := q_knot h hf hn' (k := i) (w := 1) (by omega) (by omega)
      have e1 : okI (nm S f n) i 1 = nI (rdN (gK (nm S f n) i)) := by unfold okI; rw [if_pos hi]; rfl
      rw [e1] at kk
      have hr := rdN_le (om.2.2 i hi)
      have ti := q_told h hf (j := upN (nm S f) 0 n + i) (by omega)
      have el := td_last (nm S f) n 0 i (by rw [Nat.zero_add]; exact hi)
      rw [hn, Nat.zero_add] at el
      rw [el] at ti
      have ea : nI (enN S f (sB S f).length) - nI (nm S f n).length + nI i = nI (upN (nm S f) 0 n + i) := by
        rw [nI_sub (by omega), nI_add]; congr 1; omega
      rw [← ea] at ti
      show s_L_ends_L64 (nI f) (nI n) (nI (enN S f (sB S f).length)) c (fu + 1) 1 (nI i) = s_L_ends_L64 (nI f) (nI n) (nI (enN S f (sB S f).length)) c fu 1 (nI (i + 1))
      rw [s_L_ends_L64]
      refine cal n0 (ifF (by simp (disch := omega) only [↓reduceIte, nI_lit, mO_lit, mO_lt, mO_le, mO_gt, mO_ge, mO_ne, mO_ne', nI_add, nI_mul, nI_addlit0, bsome, c_le_f, c_le_t, c_lt_f, c_lt_t, c_eq_f, c_eq_t, if_true, if_false, fld_n, fst_n, not_false_eq_true]) (ifF (by decide) (cal kk (cal n0 (cal ti (flV (v := cdI (rdN (gK (nm S f n) i))) ?_ (flT rfl ?_)))))))
      · unfold cdI
        by_cases q : rdN (gK (nm S f n) i) = 16
        · rw [if_pos q, q]; rfl
        · have m1 : ¬ nI (rdN (gK (nm S f n) i)) = 16 := fun e => q ((nI_eq (a := rdN (gK (nm S f n) i)) (b := 16) (by omega) (by omega)).mp e)
          rw [if_neg q, if_neg m1]
          exact nI_add 97 _
      · rw [← nI_add i 1]; rfl
    · show s_L_ends_L64 (nI f) (nI n) _ c (fu + 1) 1 (nI (nm S f n).length) = _
      rw [s_L_ends_L64]
      exact cal n0 (ifT (by simp (disch := omega) only [↓reduceIte, nI_lit, mO_lit, mO_lt, mO_le, mO_gt, mO_ge, mO_ne, mO_ne', nI_add, nI_mul, nI_addlit0, bsome, c_le_f, c_le_t, c_lt_f, c_lt_t, c_eq_f, c_eq_t, if_true, if_false, fld_n, fst_n, not_false_eq_true]) rfl)
  unfold s_L_ends
  exact bindE l1 (cal t0 (flT rfl (bindE l2 (fz1 rfl))))
end
