/-! the class: words, and why a name cannot be tied, tightened, given -/
def RepW (w : List Nat) (sz : Int32) (lt : Nat → Int32) : Prop := sz = nI w.length ∧ w.length ≤ 8 ∧ ∀ k, k < w.length → lt k = nI (w.getD k 0) ∧ w.getD k 0 < 16
def cdW (w : List Nat) : Int32 := nI 2 + sI w.length (fun k => ckI (nI (w.getD k 0)) + nI 1)
theorem wat {w : List Nat} {sz : Int32} {lt : Nat → Int32} (h : RepW w sz lt) {k : Nat} (hk : k < w.length) : s_X9_at (nI k) lt = some (nI (w.getD k 0)) := by
  obtain ⟨h1, h2, h3⟩ := h
  simp (disch := omega) only [s_X9_at, ↓reduceIte, nI_lit, mO_lit, mO_lt, mO_le, mO_gt, mO_ge, mO_ne, mO_ne', nI_add, nI_mul, nI_addlit0, bsome, c_le_f, c_le_t, c_lt_f, c_lt_t, c_eq_f, c_eq_t, if_true, if_false, fld_n, fst_n, (h3 k hk).1]
theorem wcd {w : List Nat} {sz : Int32} {lt : Nat → Int32} (h : RepW w sz lt) : s_X9_cord sz lt = some (cdW w) := by
  obtain ⟨h1, h2, h3⟩ := id h
  subst h1
  simp (disch := omega) only [s_X9_cord, ↓reduceIte, nI_lit, mO_lit, mO_lt, mO_le, mO_gt, mO_ge, mO_ne, mO_ne', nI_add, nI_mul, nI_addlit0, bsome, c_le_f, c_le_t, c_lt_f, c_lt_t, c_eq_f, c_eq_t, if_true, if_false, fld_n, fst_n]
  rw [lsum (fun a x i => s_X9_cord_L4 (nI w.length) lt a x i) w.length (fun k => ckI (nI (w.getD k 0)) + nI 1) (by omega)]
  · rfl
  · intro a i x hi
    simp (disch := omega) only [s_X9_cord_L4, wat h hi, cordK, ↓reduceIte, nI_lit, mO_lit, mO_lt, mO_le, mO_gt, mO_ge, mO_ne, mO_ne', nI_add, nI_mul, nI_addlit0, bsome, c_le_f, c_le_t, c_lt_f, c_lt_t, c_eq_f, c_eq_t, if_true, if_false, fld_n, fst_n]
  · intro a x
    simp (disch := omega) only [s_X9_cord_L4, ↓reduceIte, nI_lit, mO_lit, mO_lt, mO_le, mO_gt, mO_ge, mO_ne, mO_ne', nI_add, nI_mul, nI_addlit0, bsome, c_le_f, c_le_t, c_lt_f, c_lt_t, c_eq_f, c_eq_t, if_true, if_false, fld_n, fst_n]
theorem wadd {w : List Nat} {sz : Int32} {lt : Nat → Int32} (h : RepW w sz lt) {x : Nat} (hx : x < 16) (h8 : w.length < 8) : ∃ r, s_X9_add (nI x) sz lt = some r ∧ RepW (w ++ [x]) r.1 r.2 := by
  obtain ⟨h1, h2, h3⟩ := h
  subst h1
  refine ⟨(nI (w.length + 1), upd lt w.length (nI x)), by simp (disch := omega) only [s_X9_add, ↓reduceIte, nI_lit, mO_lit, mO_lt, mO_le, mO_gt, mO_ge, mO_ne, mO_ne', nI_add, nI_mul, nI_addlit0, bsome, c_le_f, c_le_t, c_lt_f, c_lt_t, c_eq_f, c_eq_t, if_true, if_false, fld_n, fst_n], ?_, by simp; omega, ?_⟩
  · simp
  · intro k hk
    simp only [List.length_append, List.length_cons, List.length_nil] at hk
    by_cases e : k = w.length
    · subst e; simp only [upd_s, List.getD_eq_getElem?_getD]; simp [hx]
    · have hk' : k < w.length := by omega
      obtain ⟨a1, a2⟩ := h3 k hk'
      have e2 : (w ++ [x]).getD k 0 = w.getD k 0 := by simp only [List.getD_eq_getElem?_getD, List.getElem?_append_left hk']
      rw [e2]
      exact ⟨by rw [← a1]; exact upd_o e, a2⟩
def rwB (m : aN) (w : List Nat) : Bool := decide (m.length = w.length) && !(anyB w.length (fun k => decide (rdN (gK m k) ≠ w.getD k 0)))
theorem rdW {B f n : Nat} {c : Nat → Int32} {m : aN} {w : List Nat} {sz : Int32} {lt : Nat → Int32} (h : VC B c f n m) (hw : RepW w sz lt) : s_X4_reads (nI f) (nI n) c sz lt = some (bI (rwB m w)) := by
  have hl := h.2.2.2.2.2.1
  obtain ⟨w1, w2, w3⟩ := id hw
  subst w1
  unfold rwB
  simp (disch := omega) only [s_X4_reads, kts h, s_X9_size, ↓reduceIte, nI_lit, mO_lit, mO_lt, mO_le, mO_gt, mO_ge, mO_ne, mO_ne', nI_add, nI_mul, nI_addlit0, bsome, c_le_f, c_le_t, c_lt_f, c_lt_t, c_eq_f, c_eq_t, if_true, if_false, fld_n, fst_n]
  by_cases hq : m.length = w.length
  · simp (disch := omega) only [↓reduceIte, nI_lit, mO_lit, mO_lt, mO_le, mO_gt, mO_ge, mO_ne, mO_ne', nI_add, nI_mul, nI_addlit0, bsome, c_le_f, c_le_t, c_lt_f, c_lt_t, c_eq_f, c_eq_t, if_true, if_false, fld_n, fst_n]
    rcases lfind (fun a i => s_X4_reads_L18 (nI f) (nI n) c (nI w.length) lt a i) 0 w.length (fun k => decide (rdN (gK m k) ≠ w.getD k 0)) (fun _ => nI 0) (by omega) (fun a i hi hp => by
        have hp := of_decide_eq_false hp
        have hp : rdN (gK m i) = w.getD i 0 := Decidable.not_not.mp hp
        rw [Nat.zero_add]
        simp (disch := omega) only [s_X4_reads_L18, s_X9_size, ↓reduceIte, nI_lit, mO_lit, mO_lt, mO_le, mO_gt, mO_ge, mO_ne, mO_ne', nI_add, nI_mul, nI_addlit0, bsome, c_le_f, c_le_t, c_lt_f, c_lt_t, c_eq_f, c_eq_t, if_true, if_false, fld_n, fst_n, rds h (k := i) (by omega), wat hw hi, hp]) (fun a i hi hp => by
        have hp := of_decide_eq_true hp
        have r1 := rdN_le (h.2.2.2.2.2.2 i (by omega))
        have r2 := (w3 i hi).2
        rw [Nat.zero_add]
        simp (disch := omega) only [s_X4_reads_L18, s_X9_size, ↓reduceIte, nI_lit, mO_lit, mO_lt, mO_le, mO_gt, mO_ge, mO_ne, mO_ne', nI_add, nI_mul, nI_addlit0, bsome, c_le_f, c_le_t, c_lt_f, c_lt_t, c_eq_f, c_eq_t, if_true, if_false, fld_n, fst_n, rds h (k := i) (by omega), wat hw hi]) (fun a => by
        simp (disch := omega) only [s_X4_reads_L18, s_X9_size, ↓reduceIte, nI_lit, mO_lit, mO_lt, mO_le, mO_gt, mO_ge, mO_ne, mO_ne', nI_add, nI_mul, nI_addlit0, bsome, c_le_f, c_le_t, c_lt_f, c_lt_t, c_eq_f, c_eq_t, if_true, if_false, fld_n, fst_n]) with ⟨i, h1, h2, h3, h4⟩ | ⟨h1, h2⟩
    · rw [h4, anyB_t h1 h2]; simp [hq]; rfl
    · rw [h2, anyB_f h1]; simp [hq]; rfl
  · simp (disch := omega) only [↓reduceIte, nI_lit, mO_lit, mO_lt, mO_le, mO_gt, mO_ge, mO_ne, mO_ne', nI_add, nI_mul, nI_addlit0, bsome, c_le_f, c_le_t, c_lt_f, c_lt_t, c_eq_f, c_eq_t, if_true, if_false, fld_n, fst_n, decide_eq_false hq]
    rfl
/-- why a word cannot be tied -/
def wtI (S : aS) (f : Nat) (w : List Nat) : Int32 := if (sB S f).length < 6 then (if cdW w ≤ leftI S f then (if anyB (sB S f).length (fun n => rwB (nm S f n) w) = true then nI 3 else nI 0) else nI 2) else nI 1
theorem wnt {B f : Nat} {S : aS} {c : Nat → Int32} {w : List Nat} {sz : Int32} {lt : Nat → Int32} (h : IC B S c) (hf : f < 5) (hw : RepW w sz lt) : s_X4_whyNotTied (nI f) c sz lt = some (wtI S f w) := by
  have h6 := h.six hf
  simp (disch := omega) only [s_X4_whyNotTied, nms h hf, wcd hw, lft h hf, ↓reduceIte, nI_lit, mO_lit, mO_lt, mO_le, mO_gt, mO_ge, mO_ne, mO_ne', nI_add, nI_mul, nI_addlit0, bsome, c_le_f, c_le_t, c_lt_f, c_lt_t, c_eq_f, c_eq_t, if_true, if_false, fld_n, fst_n]
  unfold wtI
  by_cases q1 : (sB S f).length < 6
  · simp (disch := omega) only [↓reduceIte, nI_lit, mO_lit, mO_lt, mO_le, mO_gt, mO_ge, mO_ne, mO_ne', nI_add, nI_mul, nI_addlit0, bsome, c_le_f, c_le_t, c_lt_f, c_lt_t, c_eq_f, c_eq_t, if_true, if_false, fld_n, fst_n, if_pos q1]
    by_cases q2 : cdW w ≤ leftI S f
    · rw [if_pos q2, if_pos q2]
      rcases lfind (fun a i => s_X4_whyNotTied_L31 (nI f) (nI (sB S f).length) c sz lt a i) 0 (sB S f).length (fun n => rwB (nm S f n) w) (fun _ => nI 3) (by omega) (fun a i hi hp => by
          have hp : rwB (nm S f i) w = false := hp
          rw [Nat.zero_add]
          simp (disch := omega) only [s_X4_whyNotTied_L31, ↓reduceIte, nI_lit, mO_lit, mO_lt, mO_le, mO_gt, mO_ge, mO_ne, mO_ne', nI_add, nI_mul, nI_addlit0, bsome, c_le_f, c_le_t, c_lt_f, c_lt_t, c_eq_f, c_eq_t, if_true, if_false, fld_n, fst_n, rdW (h.nam hf hi) hw, hp]
          rfl) (fun a i hi hp => by
          have hp : rwB (nm S f i) w = true := hp
          rw [Nat.zero_add]
          simp (disch := omega) only [s_X4_whyNotTied_L31, ↓reduceIte, nI_lit, mO_lit, mO_lt, mO_le, mO_gt, mO_ge, mO_ne, mO_ne', nI_add, nI_mul, nI_addlit0, bsome, c_le_f, c_le_t, c_lt_f, c_lt_t, c_eq_f, c_eq_t, if_true, if_false, fld_n, fst_n, rdW (h.nam hf hi) hw, hp]
          rfl) (fun a => by
          simp (disch := omega) only [s_X4_whyNotTied_L31, ↓reduceIte, nI_lit, mO_lit, mO_lt, mO_le, mO_gt, mO_ge, mO_ne, mO_ne', nI_add, nI_mul, nI_addlit0, bsome, c_le_f, c_le_t, c_lt_f, c_lt_t, c_eq_f, c_eq_t, if_true, if_false, fld_n, fst_n]) with ⟨i, h1, h2, h3, h4⟩ | ⟨h1, h2⟩
      · rw [h4, anyB_t h1 h2]; rfl
      · rw [h2, anyB_f h1]; rfl
    · rw [if_neg q2, if_neg q2]
  · simp (disch := omega) only [↓reduceIte, nI_lit, mO_lit, mO_lt, mO_le, mO_gt, mO_ge, mO_ne, mO_ne', nI_add, nI_mul, nI_addlit0, bsome, c_le_f, c_le_t, c_lt_f, c_lt_t, c_eq_f, c_eq_t, if_true, if_false, fld_n, fst_n, if_neg q1]
/-- what a knot takes more -/
def moI (x : aK) : Int32 := if rdN x = 16 then nI 0 else ckI (nI (rdN x)) - ckI (nI x.1)
theorem ctt {B f n k : Nat} {c : Nat → Int32} {m : aN} (h : VC B c f n m) (hk : k < m.length) : s_X4_cordToTighten (nI (kc f n k)) c = some (moI (gK m k)) := by
  have hr := rdN_le (h.2.2.2.2.2.2 k hk)
  obtain ⟨hf, hn, hB, ⟨h1, h2⟩, hm⟩ := h
  have := kc_lt (k := k) hf hn (by have := hm.2.1; omega)
  obtain ⟨o1, o2, -⟩ := hm.2.2 k hk
  simp (disch := omega) only [s_X4_cordToTighten, at_ok, ↓reduceIte, nI_lit, mO_lit, mO_lt, mO_le, mO_gt, mO_ge, mO_ne, mO_ne', nI_add, nI_mul, nI_addlit0, bsome, c_le_f, c_le_t, c_lt_f, c_lt_t, c_eq_f, c_eq_t, if_true, if_false, fld_n, fst_n, (h2 k hk).1, (h2 k hk).2.1]
  rw [read_ok (f := (gK m k).2.2) (by omega) (by omega)]
  have e : rdN ((gK m k).1, (gK m k).2.1, (gK m k).2.2) = rdN (gK m k) := rfl
  rw [e]
  unfold moI
  by_cases q : rdN (gK m k) = 16
  · simp (disch := omega) only [↓reduceIte, nI_lit, mO_lit, mO_lt, mO_le, mO_gt, mO_ge, mO_ne, mO_ne', nI_add, nI_mul, nI_addlit0, bsome, c_le_f, c_le_t, c_lt_f, c_lt_t, c_eq_f, c_eq_t, if_true, if_false, fld_n, fst_n, if_pos q, q]
  · simp (disch := omega) only [↓reduceIte, nI_lit, mO_lit, mO_lt, mO_le, mO_gt, mO_ge, mO_ne, mO_ne', nI_add, nI_mul, nI_addlit0, bsome, c_le_f, c_le_t, c_lt_f, c_lt_t, c_eq_f, c_eq_t, if_true, if_false, fld_n, fst_n, if_neg q, cordK]
def wfI (S : aS) (f n : Nat) : Int32 := if sI (nm S f n).length (fun k => moI (gK (nm S f n) k)) ≤ leftI S f then nI 0 else nI 2
theorem wnf {B f n : Nat} {S : aS} {c : Nat → Int32} (h : IC B S c) (hf : f < 5) (hn : n < (sB S f).length) : s_X4_whyNotTightened (nI f) (nI n) c = some (wfI S f n) := by
  have hv := h.nam hf hn
  have hl := hv.2.2.2.2.2.1
  simp (disch := omega) only [s_X4_whyNotTightened, kts hv, lft h hf, ↓reduceIte, nI_lit, mO_lit, mO_lt, mO_le, mO_gt, mO_ge, mO_ne, mO_ne', nI_add, nI_mul, nI_addlit0, bsome, c_le_f, c_le_t, c_lt_f, c_lt_t, c_eq_f, c_eq_t, if_true, if_false, fld_n, fst_n]
  rw [lsum (fun a x i => s_X4_whyNotTightened_L13 (nI f) (nI n) (nI (nm S f n).length) c a x i) (nm S f n).length (fun k => moI (gK (nm S f n) k)) (by omega)]
  · rw [show nI 0 = 0 from rfl]
    simp only [bsome, Int32.zero_add]
    unfold wfI
    by_cases q : sI (nm S f n).length (fun k => moI (gK (nm S f n) k)) ≤ leftI S f
    · rw [if_pos q, if_pos q]; rfl
    · rw [if_neg q, if_neg q]
  · intro a i x hi
    simp (disch := omega) only [s_X4_whyNotTightened_L13, kcell, ctt hv hi, ↓reduceIte, nI_lit, mO_lit, mO_lt, mO_le, mO_gt, mO_ge, mO_ne, mO_ne', nI_add, nI_mul, nI_addlit0, bsome, c_le_f, c_le_t, c_lt_f, c_lt_t, c_eq_f, c_eq_t, if_true, if_false, fld_n, fst_n]
  · intro a x
    simp (disch := omega) only [s_X4_whyNotTightened_L13, ↓reduceIte, nI_lit, mO_lit, mO_lt, mO_le, mO_gt, mO_ge, mO_ne, mO_ne', nI_add, nI_mul, nI_addlit0, bsome, c_le_f, c_le_t, c_lt_f, c_lt_t, c_eq_f, c_eq_t, if_true, if_false, fld_n, fst_n]
/-- a name as it reads now -/
def rdL (m : aN) : List Nat := m.map rdN
theorem rdL_getD (m : aN) {k : Nat} (h : k < m.length) : (rdL m).getD k 0 = rdN (gK m k) := by
  unfold rdL gK
  simp only [List.getD_eq_getElem?_getD, List.getElem?_map]
  rw [List.getElem?_eq_getElem h]; rfl
def urB (m : aN) : Bool := anyB m.length (fun k => decide (rdN (gK m k) = 16))
def wgI (S : aS) (f n g : Nat) : Int32 := if f = g then nI 5 else if urB (nm S f n) = true then nI 4 else wtI S g (rdL (nm S f n))
theorem take_succ_getD {l : List Nat} {k : Nat} (h : k < l.length) : l.take (k + 1) = l.take k ++ [l.getD k 0] := by
  rw [List.take_add_one, List.getD_eq_getElem?_getD, List.getElem?_eq_getElem h]; rfl
theorem getD_take {l : List Nat} {i k : Nat} (h : k < i) : (l.take i).getD k 0 = l.getD k 0 := by
  simp only [List.getD_eq_getElem?_getD, List.getElem?_take, if_pos h]
theorem wng {B f n g : Nat} {S : aS} {c : Nat → Int32} {sz : Int32} {lt : Nat → Int32} (h : IC B S c) (hf : f < 5) (hn : n < (sB S f).length) (hg : g < 5) :
    ∃ r, s_X4_whyNotGiven (nI f) (nI n) (nI g) c sz lt = some r ∧ r.1 = wgI S f n g ∧ (f ≠ g → urB (nm S f n) = false → RepW (rdL (nm S f n)) r.2.1 r.2.2) := by
  have hv := h.nam hf hn
  have hl := hv.2.2.2.2.2.1
  unfold wgI
  by_cases q : f = g
  · subst q
    exact ⟨(nI 5, sz, lt), by simp (disch := omega) only [s_X4_whyNotGiven, ↓reduceIte, nI_lit, mO_lit, mO_lt, mO_le, mO_gt, mO_ge, mO_ne, mO_ne', nI_add, nI_mul, nI_addlit0, bsome, c_le_f, c_le_t, c_lt_f, c_lt_t, c_eq_f, c_eq_t, if_true, if_false, fld_n, fst_n], by simp, fun e => absurd rfl e⟩
  · have hlen : (rdL (nm S f n)).length = (nm S f n).length := by unfold rdL; simp
    have key := lp (fun a (y : Int32 × Int32 × (Nat → Int32)) => s_X4_whyNotGiven_L23 (nI f) (nI n) (nI (nm S f n).length) c a y.1 y.2.1 y.2.2) (nm S f n).length
      (fun i y => y.1 = nI i ∧ RepW ((rdL (nm S f n)).take i) y.2.1 y.2.2 ∧ ∀ k, k < i → rdN (gK (nm S f n) k) ≠ 16)
      (fun r => (∃ y : Int32 × Int32 × (Nat → Int32), r = .inl y ∧ y.1 = nI 4 ∧ urB (nm S f n) = true) ∨ (∃ y : Int32 × Int32 × (Nat → Int32), r = .inr y ∧ RepW (rdL (nm S f n)) y.2.1 y.2.2 ∧ urB (nm S f n) = false))
      (fun i hi a y hy => by
        obtain ⟨x, sz', lt'⟩ := y
        obtain ⟨y1, y2, y3⟩ := hy
        have y1 : x = nI i := y1
        subst y1
        have hr := rdN_le (hv.2.2.2.2.2.2 i hi)
        by_cases q2 : rdN (gK (nm S f n) i) = 16
        · refine Or.inr ⟨.inl (nI 4, sz', lt'), ?_, Or.inl ⟨_, rfl, rfl, anyB_t hi (decide_eq_true q2)⟩⟩
          simp (disch := omega) only [s_X4_whyNotGiven_L23, ↓reduceIte, nI_lit, mO_lit, mO_lt, mO_le, mO_gt, mO_ge, mO_ne, mO_ne', nI_add, nI_mul, nI_addlit0, bsome, c_le_f, c_le_t, c_lt_f, c_lt_t, c_eq_f, c_eq_t, if_true, if_false, fld_n, fst_n, rds hv hi, q2]
        · have ht : ((rdL (nm S f n)).take i).length = i := by rw [List.length_take, hlen]; omega
          obtain ⟨r, r1, r2⟩ := wadd y2 (x := rdN (gK (nm S f n) i)) (by omega) (by omega)
          refine Or.inl ⟨(nI (i + 1), r.1, r.2), ?_, rfl, ?_, ?_⟩
          · simp (disch := omega) only [s_X4_whyNotGiven_L23, ↓reduceIte, nI_lit, mO_lit, mO_lt, mO_le, mO_gt, mO_ge, mO_ne, mO_ne', nI_add, nI_mul, nI_addlit0, bsome, c_le_f, c_le_t, c_lt_f, c_lt_t, c_eq_f, c_eq_t, if_true, if_false, fld_n, fst_n, rds hv hi]
            rw [r1]; rfl
          · rw [take_succ_getD (by omega), rdL_getD _ hi]; exact r2
          · intro k hk
            by_cases e : k = i
            · subst e; exact q2
            · exact y3 k (by omega))
      (fun a y hy => by
        obtain ⟨x, sz', lt'⟩ := y
        obtain ⟨y1, y2, y3⟩ := hy
        have y1 : x = nI _ := y1
        subst y1
        refine ⟨.inr (nI (nm S f n).length, sz', lt'), by simp (disch := omega) only [s_X4_whyNotGiven_L23, ↓reduceIte, nI_lit, mO_lit, mO_lt, mO_le, mO_gt, mO_ge, mO_ne, mO_ne', nI_add, nI_mul, nI_addlit0, bsome, c_le_f, c_le_t, c_lt_f, c_lt_t, c_eq_f, c_eq_t, if_true, if_false, fld_n, fst_n], Or.inr ⟨_, rfl, ?_, anyB_f fun k hk => decide_eq_false (y3 k hk)⟩⟩
        rw [List.take_of_length_le (by omega)] at y2
        exact y2)
      (nm S f n).length 0 gF (nI 0, nI 0, lt) (by omega) (by unfold gF; omega) ⟨rfl, ⟨rfl, by simp, fun k hk => by simp at hk⟩, fun k hk => by omega⟩
    obtain ⟨r, k1, k2⟩ := key
    have k1 : s_X4_whyNotGiven_L23 (nI f) (nI n) (nI (nm S f n).length) c gF (nI 0) (nI 0) lt = some r := k1
    rcases k2 with ⟨y, rfl, k2, k3⟩ | ⟨y, rfl, k2, k3⟩
    · refine ⟨y, ?_, ?_, fun _ e => by rw [k3] at e; cases e⟩
      · simp (disch := omega) only [s_X4_whyNotGiven, s_X9_empty, ↓reduceIte, nI_lit, mO_lit, mO_lt, mO_le, mO_gt, mO_ge, mO_ne, mO_ne', nI_add, nI_mul, nI_addlit0, bsome, c_le_f, c_le_t, c_lt_f, c_lt_t, c_eq_f, c_eq_t, if_true, if_false, fld_n, fst_n, kts hv, k1]; rfl
      · rw [k2, if_neg q, k3, if_pos rfl]
    · refine ⟨(wtI S g (rdL (nm S f n)), y.2.1, y.2.2), ?_, ?_, fun _ _ => k2⟩
      · simp (disch := omega) only [s_X4_whyNotGiven, s_X9_empty, ↓reduceIte, nI_lit, mO_lit, mO_lt, mO_le, mO_gt, mO_ge, mO_ne, mO_ne', nI_add, nI_mul, nI_addlit0, bsome, c_le_f, c_le_t, c_lt_f, c_lt_t, c_eq_f, c_eq_t, if_true, if_false, fld_n, fst_n, kts hv, k1]
        show (s_X4_whyNotTied (nI g) c y.2.1 y.2.2).bind _ = _
        rw [wnt h hg k2]; rfl
      · rw [if_neg q, k3, if_neg (by simp)]
