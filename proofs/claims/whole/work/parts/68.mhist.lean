/-! the model: the saved states -/
theorem RepM_ext {S : aS} {s s' : Nat → Int32} (h : RepM S s) (hl : LnS S) (fr : ∀ j, j < 406 → s' j = s j) : RepM S s' := by
  obtain ⟨g0, g1, g2, g3, g4, g5, g6, g7⟩ := h.1
  refine RepM_mk ⟨by rw [fr _ (by omega)]; exact g0, by rw [fr _ (by omega)]; exact g1, by rw [fr _ (by omega)]; exact g2, by rw [fr _ (by omega)]; exact g3, by rw [fr _ (by omega)]; exact g4, by rw [fr _ (by omega)]; exact g5, by rw [fr _ (by omega)]; exact g6, by rw [fr _ (by omega)]; exact g7⟩ (fun f hf => ?_) (fun i hi => ?_)
  · obtain ⟨⟨a0, a1, a2, a3⟩, a4⟩ := h.2.1 f hf
    have hfd := fm_def f
    have h66 := (hl.1 f hf).1
    refine ⟨⟨by rw [fr _ (by omega)]; exact a0, by rw [fr _ (by omega)]; exact a1, by rw [fr _ (by omega)]; exact a2, by rw [fr _ (by omega)]; exact a3⟩, fun n hn => ?_⟩
    have := wh_def f n
    exact MN_move (a4 n hn) ((hl.1 f hf).2 n hn).2 (fun j hj => fr _ (by omega))
  · have := em_def i
    have := hl.2.1
    exact ME_move (h.2.2 i hi) (fun j hj => fr _ (by omega))
theorem mcopy {n0 n2 p q : Nat} {row0 row2 : Nat → Int32} (h0 : p + 406 ≤ n0) (h2 : q + 406 ≤ n2) (hb0 : n0 < 2147483648) (hb2 : n2 < 2147483648) :
    ∃ r, s_X11_copy n0 (nI p) n2 (nI q) row0 row2 = some r ∧ (∀ j, j < 406 → r (q + j) = row0 (p + j)) ∧ ∀ j, (j < q ∨ q + 406 ≤ j) → r j = row2 j := by
  have key := lp (fun a (y : Int32 × (Nat → Int32)) => s_X11_copy_L3 n0 n2 (nI p) (nI q) row0 a y.1 y.2) 406
    (fun i y => y.1 = nI i ∧ (∀ j, j < i → y.2 (q + j) = row0 (p + j)) ∧ ∀ j, (j < q ∨ q + 406 ≤ j) → y.2 j = row2 j)
    (fun r => (∀ j, j < 406 → r.2 (q + j) = row0 (p + j)) ∧ ∀ j, (j < q ∨ q + 406 ≤ j) → r.2 j = row2 j)
    (fun i hi a y hy => by
      obtain ⟨x, c1⟩ := y
      obtain ⟨y1, y2, y3⟩ := hy
      have y1 : x = nI i := y1
      subst y1
      refine Or.inl ⟨(nI (i + 1), upd c1 (q + i) (row0 (p + i))), ?_, rfl, fun j hj => ?_, fun j hj => ?_⟩
      · simp (disch := omega) only [s_X11_copy_L3, ↓reduceIte, nI_lit, mO_lit, mO_lt, mO_le, mO_gt, mO_ge, mO_ne, mO_ne', nI_add, nI_mul, nI_addlit0, bsome, c_le_f, c_le_t, c_lt_f, c_lt_t, c_eq_f, c_eq_t, if_true, if_false, fld_n, fst_n]
      · show upd c1 (q + i) _ (q + j) = _
        by_cases e : j = i
        · subst e; rw [upd_s]
        · rw [upd_o (by omega)]; exact y2 j (by omega)
      · show upd c1 (q + i) _ j = _
        rw [upd_o (by omega)]; exact y3 j hj)
    (fun a y hy => by
      obtain ⟨x, c1⟩ := y
      obtain ⟨y1, y2, y3⟩ := hy
      have y1 : x = nI 406 := y1
      subst y1
      exact ⟨(nI 406, c1), by simp (disch := omega) only [s_X11_copy_L3, ↓reduceIte, nI_lit, mO_lit, mO_lt, mO_le, mO_gt, mO_ge, mO_ne, mO_ne', nI_add, nI_mul, nI_addlit0, bsome, c_le_f, c_le_t, c_lt_f, c_lt_t, c_eq_f, c_eq_t, if_true, if_false, fld_n, fst_n], y2, y3⟩)
    406 0 gF (nI 0, row2) (by omega) (by unfold gF; omega) ⟨rfl, fun j hj => by omega, fun j _ => rfl⟩
  obtain ⟨⟨r1, r⟩, k1, k2, k3⟩ := key
  exact ⟨r, bindE (a := (r1, r)) k1 rfl, k2, k3⟩
theorem msvL {saved : Nat → Int32} : ∃ r : Int32 × (Nat → Int32), s_X11_save_L11 gF (nI 0) saved = some r ∧ (∀ j, j < 2030 → r.2 j = saved (406 + j)) ∧ ∀ j, 2030 ≤ j → r.2 j = saved j := by
  have key := lp (fun a (y : Int32 × (Nat → Int32)) => s_X11_save_L11 a y.1 y.2) 2030
    (fun i y => y.1 = nI i ∧ (∀ j, j < i → y.2 j = saved (406 + j)) ∧ ∀ j, i ≤ j → y.2 j = saved j)
    (fun r => (∀ j, j < 2030 → r.2 j = saved (406 + j)) ∧ ∀ j, 2030 ≤ j → r.2 j = saved j)
    (fun i hi a y hy => by
      obtain ⟨x, c1⟩ := y
      obtain ⟨y1, y2, y3⟩ := hy
      have y1 : x = nI i := y1
      subst y1
      refine Or.inl ⟨(nI (i + 1), upd c1 i (c1 (406 + i))), ?_, rfl, fun j hj => ?_, fun j hj => ?_⟩
      · simp (disch := omega) only [s_X11_save_L11, ↓reduceIte, nI_lit, mO_lit, mO_lt, mO_le, mO_gt, mO_ge, mO_ne, mO_ne', nI_add, nI_mul, nI_addlit0, bsome, c_le_f, c_le_t, c_lt_f, c_lt_t, c_eq_f, c_eq_t, if_true, if_false, fld_n, fst_n]
      · show upd c1 i _ j = _
        by_cases e : j = i
        · subst e; rw [upd_s]; exact y3 _ (by omega)
        · rw [upd_o e]; exact y2 j (by omega)
      · show upd c1 i _ j = _
        rw [upd_o (by omega)]; exact y3 j (by omega))
    (fun a y hy => by
      obtain ⟨x, c1⟩ := y
      obtain ⟨y1, y2, y3⟩ := hy
      have y1 : x = nI 2030 := y1
      subst y1
      exact ⟨(nI 2030, c1), by simp (disch := omega) only [s_X11_save_L11, ↓reduceIte, nI_lit, mO_lit, mO_lt, mO_le, mO_gt, mO_ge, mO_ne, mO_ne', nI_add, nI_mul, nI_addlit0, bsome, c_le_f, c_le_t, c_lt_f, c_lt_t, c_eq_f, c_eq_t, if_true, if_false, fld_n, fst_n], y2, y3⟩)
    2030 0 gF (nI 0, saved) (by omega) (by unfold gF; omega) ⟨rfl, fun j hj => by omega, fun j _ => rfl⟩
  exact key
def RepHM (B : Nat) (H : List aS) (many : Int32) (saved : Nat → Int32) : Prop :=
  many = nI H.length ∧ H.length ≤ 6 ∧ ∀ j, j < H.length → RepM (gS H j) (fun i => saved (406 * j + i)) ∧ OKS B (gS H j)
theorem msvA {B n : Nat} {S : aS} {s saved r : Nat → Int32} {H : List aS} (h : IM B S s) (hn : H.length = n) (h6 : n < 6) (hH : ∀ j, j < n → RepM (gS H j) (fun i => saved (406 * j + i)) ∧ OKS B (gS H j))
    (k2 : ∀ j, j < 406 → r (406 * n + j) = s (0 + j)) (k3 : ∀ j, (j < 406 * n ∨ 406 * n + 406 ≤ j) → r j = saved j) : RepHM B (H ++ [S]) (nI (n + 1)) r := by
  refine ⟨by rw [List.length_append, hn]; rfl, by rw [List.length_append, hn]; simp; omega, fun j hj => ?_⟩
  rw [List.length_append, hn] at hj
  have hj : j < n + 1 := hj
  by_cases q : j = n
  · rw [q, ← hn, gS_app2, hn]
    exact ⟨RepM_ext h.1 h.2.lns (fun i hi => by rw [k2 i hi, Nat.zero_add]), h.2⟩
  · rw [gS_app1 (by omega)]
    obtain ⟨h1, h2⟩ := hH j (by omega)
    exact ⟨RepM_ext h1 h2.lns (fun i hi => k3 _ (by omega)), h2⟩
theorem msave {B : Nat} {S : aS} {s : Nat → Int32} {H : List aS} {many : Int32} {saved : Nat → Int32} (h : IM B S s) (hh : RepHM B H many saved) :
    ∃ r, s_X11_save many s saved = some r ∧ RepHM B (pushH H S) r.1 r.2 := by
  obtain ⟨rfl, h6, hH⟩ := hh
  unfold pushH s_X11_save
  by_cases q : H.length = 6
  · rw [if_pos q, q, if_pos (show nI 6 = 6 from rfl)]
    obtain ⟨⟨r1, sv⟩, k1, k2, k3⟩ := msvL (saved := saved)
    have k2 : ∀ j, j < 2030 → sv j = saved (406 + j) := k2
    obtain ⟨r, c1, c2, c3⟩ := mcopy (n0 := 406) (n2 := 2436) (p := 0) (q := 406 * 5) (row0 := s) (row2 := sv) (by omega) (by omega) (by omega) (by omega)
    refine ⟨(nI (5 + 1), r), bindE k1 (bindE c1 rfl), msvA (n := 5) h (by simp [q]) (by omega) (fun j hj => ?_) c2 c3⟩
    rw [gS_drop]
    obtain ⟨h1, h2⟩ := hH (j + 1) (by omega)
    exact ⟨RepM_ext h1 h2.lns (fun i hi => by rw [k2 _ (by omega)]; exact congrArg saved (by omega)), h2⟩
  · rw [if_neg q, if_neg (by rw [show (6 : Int32) = nI 6 from rfl, c_eq_f q (by omega) (by omega)]; exact id)]
    obtain ⟨r, c1, c2, c3⟩ := mcopy (n0 := 406) (n2 := 2436) (p := 0) (q := 406 * H.length) (row0 := s) (row2 := saved) (by omega) (by omega) (by omega) (by omega)
    have e : 406 * nI H.length = nI (406 * H.length) := by rw [show (406 : Int32) = nI 406 from rfl, nI_mul]
    have e2 : nI H.length + 1 = nI (H.length + 1) := by simp only [nI_lit, nI_add]
    rw [e, e2]
    exact ⟨(nI (H.length + 1), r), bindE c1 rfl, msvA (n := H.length) h rfl (by omega) hH c2 c3⟩
theorem RepHM_take {B n : Nat} {H : List aS} {saved : Nat → Int32} (hn : H.length = n + 1) (h6 : n < 6) (hH : ∀ j, j < H.length → RepM (gS H j) (fun i => saved (406 * j + i)) ∧ OKS B (gS H j)) : RepHM B (H.take n) (nI n) saved := by
  have e : (H.take n).length = n := by rw [List.length_take]; omega
  refine ⟨by rw [e], by omega, fun j hj => ?_⟩
  rw [e] at hj
  have e2 : gS (H.take n) j = gS H j := by
    unfold gS
    simp only [List.getD_eq_getElem?_getD, List.getElem?_take, if_pos hj]
  rw [e2]; exact hH j (by omega)
theorem mpop {B n : Nat} {s : Nat → Int32} {H : List aS} {many : Int32} {saved : Nat → Int32} (hh : RepHM B H many saved) (hn : H.length = n + 1) :
    ∃ s', s_X11_copy 2436 (406 * (nI (n + 1) - 1)) 406 0 saved s = some s' ∧ IM B (gS H n) s' ∧ RepHM B (H.take n) (nI n) saved := by
  obtain ⟨rfl, h6, hH⟩ := hh
  obtain ⟨h1, h2⟩ := hH n (by omega)
  obtain ⟨r, c1, c2, c3⟩ := mcopy (n0 := 2436) (n2 := 406) (p := 406 * n) (q := 0) (row0 := saved) (row2 := s) (by omega) (by omega) (by omega) (by omega)
  have e : 406 * (nI (n + 1) - 1) = nI (406 * n) := by rw [show (1 : Int32) = nI 1 from rfl, nI_sub (by omega), show (406 : Int32) = nI 406 from rfl, nI_mul]; rfl
  rw [e]
  exact ⟨r, c1, ⟨RepM_ext h1 h2.lns (fun j hj => by have := c2 j hj; rw [Nat.zero_add] at this; exact this), h2⟩, RepHM_take hn (by omega) hH⟩
/-- the snapshot, both sides -/
def TC (B : Nat) : Option aS → Int32 → (Nat → Int32) → Prop
  | none, t, _ => t = nI 0
  | some S, t, c => t = nI 1 ∧ IC B S c
def TM (B : Nat) : Option aS → Int32 → (Nat → Int32) → Prop
  | none, t, _ => t = nI 0
  | some S, t, s => t = nI 1 ∧ IM B S s
theorem mtake {B : Nat} {S : aS} {s sn : Nat → Int32} (h : IM B S s) : ∃ r, s_X11_copy 406 0 406 0 s sn = some r ∧ IM B S r := by
  obtain ⟨r, c1, c2, c3⟩ := mcopy (n0 := 406) (n2 := 406) (p := 0) (q := 0) (row0 := s) (row2 := sn) (by omega) (by omega) (by omega) (by omega)
  exact ⟨r, c1, RepM_ext h.1 h.2.lns (fun j hj => by have := c2 j hj; rw [Nat.zero_add] at this; exact this), h.2⟩
theorem ctake {B : Nat} {S : aS} {c sn : Nat → Int32} (h : IC B S c) : ∃ r, s_X7_copyTo 910 0 c sn = some r ∧ IC B S r :=
  ⟨_, cpyTo (p := 0) (by omega) (by omega), RepC_ext h.1 h.2.lns (fun j hj => by have := cpy_in (f := c) (g := sn) (p := 0) hj; rw [Nat.zero_add] at this; exact this), h.2⟩
theorem cload {B : Nat} {S : aS} {c sn : Nat → Int32} (h : IC B S sn) : ∃ r, s_X7_copyFrom 910 0 c sn = some r ∧ IC B S r :=
  ⟨_, cpyFrom (p := 0) (by omega) (by omega), RepC_ext h.1 h.2.lns (fun j hj => by have := cpy_in (f := sn) (g := c) (p := 0) hj; rw [Nat.zero_add] at this; exact this), h.2⟩
