/-! the model: why a word cannot be tied, given -/
theorem nI_inj32 {a b : Nat} (ha : a < 4294967296) (hb : b < 4294967296) (h : nI a = nI b) : a = b := by
  have e : (BitVec.ofNat 32 a).toNat = (BitVec.ofNat 32 b).toNat := congrArg (fun x : Int32 => x.toBitVec.toNat) h
  rw [BitVec.toNat_ofNat, BitVec.toNat_ofNat, Nat.mod_eq_of_lt (by omega), Nat.mod_eq_of_lt (by omega)] at e
  exact e
theorem mask : ∀ n, n < 8 → ((1 : Int32) <<< ((4 * nI n) &&& 31)) - 1 = nI (2 ^ (4 * n) - 1) := by decide +kernel
def OKW (w : List Nat) : Prop := 1 ≤ w.length ∧ w.length ≤ 8 ∧ ∀ k, k < w.length → w.getD k 0 < 16
theorem pk32 {w : List Nat} (h8 : w.length ≤ 8) (h : ∀ k, k < w.length → w.getD k 0 < 16) : pk w < 4294967296 := by
  have h1 := pkL_lt w h
  have h2 : 16 ^ w.length ≤ 16 ^ 8 := Nat.pow_le_pow_right (by omega) h8
  have h3 : (16 : Nat) ^ 8 = 4294967296 := by decide
  omega
theorem whL {w : List Nat} (h : OKW w) : s_X11_whole (nI (pk w)) (nI w.length) = some (nI (pk w)) := by
  obtain ⟨h1, h8, h3⟩ := h
  unfold s_X11_whole
  by_cases q : w.length = 8
  · rw [q, if_pos (show nI 8 = 8 from rfl)]
  · rw [if_neg (by rw [show (8 : Int32) = nI 8 from rfl, c_eq_f q (by omega) (by omega)]; exact id), mask _ (by omega)]
    refine congrArg some (b_ext fun i hi => ?_)
    rw [b_and, btN _ hi, btN _ hi, Nat.testBit_two_pow_sub_one]
    by_cases q2 : i < 4 * w.length
    · simp [q2]
    · rw [btBig (pkL_lt w h3) (by omega)]; simp
theorem rd16 {B : Nat} {x : aK} (h : OKK B x) : rdN x = 16 ↔ 2 ≤ x.2.1 := by
  obtain ⟨h1, h2, h3, h4⟩ := h
  unfold rdN
  by_cases q0 : x.2.1 = 0
  · rw [if_pos q0]; omega
  · by_cases q1 : x.2.1 = 1
    · rw [if_neg q0, if_pos q1]
      have hv := h4 (by omega)
      unfold vow at hv
      simp only [Bool.or_eq_true, beq_iff_eq] at hv
      omega
    · rw [if_neg q0, if_neg q1]; omega
theorem sN_0 {N : Nat} {f : Nat → Nat} (h : sN N f = 0) : ∀ i, i < N → f i = 0 := by
  induction N with
  | zero => intro i hi; omega
  | succ n ih =>
    have h : sN n f + f n = 0 := h
    intro i hi
    by_cases e : i = n
    · subst e; omega
    · exact ih (by omega) i (by omega)
theorem sN_z {N : Nat} {f : Nat → Nat} (h : ∀ i, i < N → f i = 0) : sN N f = 0 := by
  induction N with
  | zero => rfl
  | succ n ih => show sN n f + f n = 0; rw [ih (fun i hi => h i (by omega)), h n (by omega)]
theorem lm2 {B : Nat} {m : aN} (h : OKN B m) : lmN m 2 = 0 ↔ urB m = false := by
  constructor
  · intro h0
    unfold urB
    refine anyB_f fun k hk => decide_eq_false fun e => ?_
    have := sN_0 h0 k hk
    have q := (rd16 (h.2.2 k hk)).mp e
    rw [decide_eq_true q] at this
    cases this
  · intro h0
    refine sN_z fun k hk => ?_
    have : ¬ 2 ≤ (gK m k).2.1 := fun q => by
      have := anyB_t (p := fun k => decide (rdN (gK m k) = 16)) hk (decide_eq_true ((rd16 (h.2.2 k hk)).mpr q))
      unfold urB at h0
      rw [h0] at this; cases this
    rw [decide_eq_false this]; rfl
theorem lm_le {B : Nat} {m : aN} {t : Nat} (h : OKN B m) : lmN m t ≤ 8 := by
  have h1 := sN_le (N := m.length) (f := fun k => bN (decide (t ≤ (gK m k).2.1))) (b := 1) (fun i _ => bN_le _)
  have h2 := h.2.1
  unfold lmN; omega
theorem pkL_eq {a b : List Nat} (hl : a.length = b.length) (ha : ∀ k, k < a.length → a.getD k 0 < 16) (hb : ∀ k, k < b.length → b.getD k 0 < 16) : pk a = pk b ↔ ∀ k, k < b.length → a.getD k 0 = b.getD k 0 := by
  constructor
  · intro h k _
    rw [← pk_getD a k ha, ← pk_getD b k hb, h]
  · intro h
    have : a = b := by
      apply List.ext_getElem hl
      intro i h1 h2
      have := h i h2
      simpa [List.getD_eq_getElem?_getD, List.getElem?_eq_getElem h1, List.getElem?_eq_getElem h2] using this
    rw [this]
theorem mrs {B w : Nat} {s : Nat → Int32} {m : aN} {l : List Nat} (h : VM B s w m) (hl : OKW l) : s_X11_readsSo (nI w) (nI (pk l)) (nI l.length) s = some (bI (rwB m l)) := by
  have hm := h.2.2.2
  have h8 := hm.2.1
  have hl8 := hl.2.1
  have hlm := lm_le (t := 2) hm
  have hlen : (rdL m).length = m.length := by unfold rdL; simp
  unfold rwB
  simp (disch := omega) only [s_X11_readsSo, ↓reduceIte, nI_lit, mO_lit, mO_lt, mO_le, mO_gt, mO_ge, mO_ne, mO_ne', nI_add, nI_mul, nI_addlit0, bsome, c_le_f, c_le_t, c_lt_f, c_lt_t, c_eq_f, c_eq_t, if_true, if_false, fld_n, fst_n, mkn h, mls h, whL hl]
  by_cases q1 : m.length = l.length
  · rw [decide_eq_true q1]
    simp (disch := omega) only [↓reduceIte, nI_lit, mO_lit, mO_lt, mO_le, mO_gt, mO_ge, mO_ne, mO_ne', nI_add, nI_mul, nI_addlit0, bsome, c_le_f, c_le_t, c_lt_f, c_lt_t, c_eq_f, c_eq_t, if_true, if_false, fld_n, fst_n]
    by_cases q2 : lmN m 2 = 0
    · have hu := (lm2 hm).mp q2
      obtain ⟨r1, r2, r3⟩ := rdL_ok hm hu
      simp (disch := omega) only [↓reduceIte, nI_lit, mO_lit, mO_lt, mO_le, mO_gt, mO_ge, mO_ne, mO_ne', nI_add, nI_mul, nI_addlit0, bsome, c_le_f, c_le_t, c_lt_f, c_lt_t, c_eq_f, c_eq_t, if_true, if_false, fld_n, fst_n, mrl h hu]
      have e : (nI (pk (rdL m)) = nI (pk l)) ↔ ∀ k, k < l.length → rdN (gK m k) = l.getD k 0 := by
        constructor
        · intro e k hk
          have e := nI_inj32 (pk32 r2 r3) (pk32 hl8 hl.2.2) e
          have := (pkL_eq (by omega) r3 hl.2.2).mp e k hk
          rw [rdL_getD m (by omega)] at this; exact this
        · intro e
          rw [(pkL_eq (by omega) r3 hl.2.2).mpr (fun k hk => by rw [rdL_getD m (by omega)]; exact e k hk)]
      by_cases q3 : nI (pk (rdL m)) = nI (pk l)
      · rw [if_pos q3, anyB_f fun k hk => decide_eq_false (by rw [e.mp q3 k hk]; simp)]; rfl
      · rw [if_neg q3]
        have : ∃ k, k < l.length ∧ rdN (gK m k) ≠ l.getD k 0 := Classical.byContradiction fun hc => q3 (e.mpr fun k hk => Classical.byContradiction fun hne => hc ⟨k, hk, hne⟩)
        obtain ⟨k, hk, hne⟩ := this
        rw [anyB_t hk (decide_eq_true hne)]; rfl
    · simp (disch := omega) only [↓reduceIte, nI_lit, mO_lit, mO_lt, mO_le, mO_gt, mO_ge, mO_ne, mO_ne', nI_add, nI_mul, nI_addlit0, bsome, c_le_f, c_le_t, c_lt_f, c_lt_t, c_eq_f, c_eq_t, if_true, if_false, fld_n, fst_n]
      have hu : urB m = true := by
        cases q : urB m with
        | true => rfl
        | false => exact absurd ((lm2 hm).mpr q) q2
      have : ∃ k, k < m.length ∧ rdN (gK m k) = 16 := Classical.byContradiction fun hc => by
        have : urB m = false := anyB_f fun k hk => decide_eq_false fun e => hc ⟨k, hk, e⟩
        rw [this] at hu; cases hu
      obtain ⟨k, hk, he⟩ := this
      have h16 := hl.2.2 k (by omega)
      rw [anyB_t (i := k) (by omega) (decide_eq_true (by omega))]; rfl
  · simp (disch := omega) only [↓reduceIte, nI_lit, mO_lit, mO_lt, mO_le, mO_gt, mO_ge, mO_ne, mO_ne', nI_add, nI_mul, nI_addlit0, bsome, c_le_f, c_le_t, c_lt_f, c_lt_t, c_eq_f, c_eq_t, if_true, if_false, fld_n, fst_n, decide_eq_false q1, Bool.false_and, bI_f]
theorem mre {B f : Nat} {S : aS} {s : Nat → Int32} {w : List Nat} (h : IM B S s) (hf : f < 5) (hw : OKW w) : s_X11_reason (nI f) (nI (pk w)) (nI w.length) s = some (wtI S f w) := by
  have h6 := h.six hf
  simp (disch := omega) only [s_X11_reason, ↓reduceIte, nI_lit, mO_lit, mO_lt, mO_le, mO_gt, mO_ge, mO_ne, mO_ne', nI_add, nI_mul, nI_addlit0, bsome, c_le_f, c_le_t, c_lt_f, c_lt_t, c_eq_f, c_eq_t, if_true, if_false, fld_n, fst_n, mof1 h hf, cdL hw.2.1 hw.2.2, mle h hf]
  unfold wtI
  by_cases q1 : (sB S f).length < 6
  · simp (disch := omega) only [↓reduceIte, nI_lit, mO_lit, mO_lt, mO_le, mO_gt, mO_ge, mO_ne, mO_ne', nI_add, nI_mul, nI_addlit0, bsome, c_le_f, c_le_t, c_lt_f, c_lt_t, c_eq_f, c_eq_t, if_true, if_false, fld_n, fst_n, if_pos q1]
    by_cases q2 : cdW w ≤ leftI S f
    · rw [if_pos q2, if_pos q2]
      rcases lfind (fun a i => s_X11_reason_L31 (nI f) (nI (pk w)) (nI w.length) s a i) 0 (sB S f).length (fun n => rwB (nm S f n) w) (fun _ => nI 3) (by omega) (fun a i hi hp => by
          have hp : rwB (nm S f i) w = false := hp
          rw [Nat.zero_add]
          simp (disch := omega) only [s_X11_reason_L31, ↓reduceIte, nI_lit, mO_lit, mO_lt, mO_le, mO_gt, mO_ge, mO_ne, mO_ne', nI_add, nI_mul, nI_addlit0, bsome, c_le_f, c_le_t, c_lt_f, c_lt_t, c_eq_f, c_eq_t, if_true, if_false, fld_n, fst_n, mof1 h hf, whr, mrs (h.nam hf hi) hw, hp, bI_f]) (fun a i hi hp => by
          have hp : rwB (nm S f i) w = true := hp
          rw [Nat.zero_add]
          simp (disch := omega) only [s_X11_reason_L31, ↓reduceIte, nI_lit, mO_lit, mO_lt, mO_le, mO_gt, mO_ge, mO_ne, mO_ne', nI_add, nI_mul, nI_addlit0, bsome, c_le_f, c_le_t, c_lt_f, c_lt_t, c_eq_f, c_eq_t, if_true, if_false, fld_n, fst_n, mof1 h hf, whr, mrs (h.nam hf hi) hw, hp, bI_t]) (fun a => by
          simp (disch := omega) only [s_X11_reason_L31, ↓reduceIte, nI_lit, mO_lit, mO_lt, mO_le, mO_gt, mO_ge, mO_ne, mO_ne', nI_add, nI_mul, nI_addlit0, bsome, c_le_f, c_le_t, c_lt_f, c_lt_t, c_eq_f, c_eq_t, if_true, if_false, fld_n, fst_n, mof1 h hf]) with ⟨i, h1, h2, h3, h4⟩ | ⟨h1, h2⟩
      · rw [h4, anyB_t h1 h2]; rfl
      · rw [h2, anyB_f h1]; rfl
    · rw [if_neg q2, if_neg q2]
  · simp (disch := omega) only [↓reduceIte, nI_lit, mO_lit, mO_lt, mO_le, mO_gt, mO_ge, mO_ne, mO_ne', nI_add, nI_mul, nI_addlit0, bsome, c_le_f, c_le_t, c_lt_f, c_lt_t, c_eq_f, c_eq_t, if_true, if_false, fld_n, fst_n, if_neg q1]
theorem mgi {B f n g : Nat} {S : aS} {s : Nat → Int32} (h : IM B S s) (hf : f < 5) (hn : n < (sB S f).length) (hg : g < 5) : s_X11_gift (nI f) (nI n) (nI g) s = some (wgI S f n g) := by
  have hv := h.nam hf hn
  have hm := hv.2.2.2
  have hlm := lm_le (t := 2) hm
  have hlen : (rdL (nm S f n)).length = (nm S f n).length := by unfold rdL; simp
  unfold wgI
  simp (disch := omega) only [s_X11_gift, ↓reduceIte, nI_lit, mO_lit, mO_lt, mO_le, mO_gt, mO_ge, mO_ne, mO_ne', nI_add, nI_mul, nI_addlit0, bsome, c_le_f, c_le_t, c_lt_f, c_lt_t, c_eq_f, c_eq_t, if_true, if_false, fld_n, fst_n, whr]
  by_cases q : f = g
  · simp (disch := omega) only [↓reduceIte, nI_lit, mO_lit, mO_lt, mO_le, mO_gt, mO_ge, mO_ne, mO_ne', nI_add, nI_mul, nI_addlit0, bsome, c_le_f, c_le_t, c_lt_f, c_lt_t, c_eq_f, c_eq_t, if_true, if_false, fld_n, fst_n, if_pos q]
  · simp (disch := omega) only [↓reduceIte, nI_lit, mO_lit, mO_lt, mO_le, mO_gt, mO_ge, mO_ne, mO_ne', nI_add, nI_mul, nI_addlit0, bsome, c_le_f, c_le_t, c_lt_f, c_lt_t, c_eq_f, c_eq_t, if_true, if_false, fld_n, fst_n, if_neg q, mls hv]
    cases hu : urB (nm S f n) with
    | false =>
      have h0 := (lm2 hm).mpr hu
      have hr := mre h hg (w := rdL (nm S f n)) (rdL_ok hm hu)
      rw [hlen] at hr
      simp (disch := omega) only [↓reduceIte, nI_lit, mO_lit, mO_lt, mO_le, mO_gt, mO_ge, mO_ne, mO_ne', nI_add, nI_mul, nI_addlit0, bsome, c_le_f, c_le_t, c_lt_f, c_lt_t, c_eq_f, c_eq_t, if_true, if_false, fld_n, fst_n, h0, mrl hv hu, mkn hv, hr]
      rfl
    | true =>
      have h0 : lmN (nm S f n) 2 ≠ 0 := fun e => by rw [(lm2 hm).mp e] at hu; cases hu
      simp (disch := omega) only [↓reduceIte, nI_lit, mO_lit, mO_lt, mO_le, mO_gt, mO_ge, mO_ne, mO_ne', nI_add, nI_mul, nI_addlit0, bsome, c_le_f, c_le_t, c_lt_f, c_lt_t, c_eq_f, c_eq_t, if_true, if_false, fld_n, fst_n]
