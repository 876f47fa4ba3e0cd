/-! the class: one name is changed: tightened, loosened -/
def ixM (m : aN) (g : Nat → aK → aK) : aN := (List.range m.length).map (fun k => g k (gK m k))
theorem ixM_len (m : aN) (g : Nat → aK → aK) : (ixM m g).length = m.length := by unfold ixM; simp
theorem ixM_gK (m : aN) (g : Nat → aK → aK) {k : Nat} (h : k < m.length) : gK (ixM m g) k = g k (gK m k) := by
  unfold ixM
  show ((List.range m.length).map _).getD k (0, 0, 0) = _
  simp only [List.getD_eq_getElem?_getD, List.getElem?_map, List.getElem?_range h]
  rfl
def aNam (f n : Nat) (m : aN) (x : Int32) : aS → aS
  | (Bs, E, st, d, b, kt, ct, r) => (updF Bs f ((Bs f).set n m), E, st, d, b, kt, x, r)
theorem namC {f n : Nat} {m : aN} {x : Int32} {S : aS} {c c' : Nat → Int32} (h : RepC S c) (hl : LnS S) (hf : f < 5) (hn : n < (sB S f).length) (h4 : c' 4 = x) (hm : CN c' f n m)
    (fr : ∀ j, j ≠ 4 → (j < nc f n ∨ nc f n + 25 ≤ j) → c' j = c j) : RepC (aNam f n m x S) c' := by
  have h66 := (hl.1 f hf).1
  have hnd := nc_def f n
  have hfd := fc_def f
  obtain ⟨⟨a0, a1, a2, a3⟩, a4⟩ := h.2.1 f hf
  obtain ⟨g0, g1, g2, g3, g4, g5, g6, g7⟩ := h.1
  obtain ⟨Bs, E, st, d, b, kt, ct, sp, ln, lo, gi⟩ := S
  have hn : n < (Bs f).length := hn
  have h66 : (Bs f).length ≤ 6 := h66
  refine RepC_blk h hl hf rfl ⟨?_, ?_, ?_, ?_, h4, ?_, ?_, ?_⟩ (fun j h8 hj => by rw [fr _ (by omega) (by omega)]) (fun g hg => ⟨updF_o hg, rfl, rfl, rfl⟩) ⟨⟨?_, ?_, ?_, ?_⟩, fun i hi => ?_⟩
  · rw [fr _ (by omega) (by omega)]; exact g0
  · rw [fr _ (by omega) (by omega)]; exact g1
  · rw [fr _ (by omega) (by omega)]; exact g2
  · rw [fr _ (by omega) (by omega)]; exact g3
  · rw [fr _ (by omega) (by omega)]; exact g5
  · rw [fr _ (by omega) (by omega)]; exact g6
  · rw [fr _ (by omega) (by omega)]; exact g7
  · rw [fr _ (by omega) (by omega)]; exact a0
  · rw [fr _ (by omega) (by omega), a1]
    show nI (Bs f).length = nI (updF Bs f ((Bs f).set n m) f).length
    rw [updF_s, List.length_set]
  · rw [fr _ (by omega) (by omega)]; exact a2
  · rw [fr _ (by omega) (by omega)]; exact a3
  · have hi : i < (updF Bs f ((Bs f).set n m) f).length := hi
    rw [updF_s, List.length_set] at hi
    show CN c' f i ((updF Bs f ((Bs f).set n m) f).getD i [])
    rw [updF_s, setD _ _ _ _ _ hn]
    have hni := nc_def f i
    by_cases q : i = n
    · rw [if_pos q, q]; exact hm
    · rw [if_neg q]
      exact CN_move (a4 i hi) ((hl.1 f hf).2 i hi).2 (fun j hj => fr _ (by omega) (by omega))
/-- tighten -/
def tgK (x : aK) : aK := if x.2.1 = 1 then (rdN x, 0, x.2.2) else x
def tgN (m : aN) : aN := ixM m (fun _ x => tgK x)
def tgI (m : aN) : Int32 := sI m.length (fun k => if (gK m k).2.1 = 1 then moI (gK m k) else 0)
def tgC (m : aN) : Nat := sN m.length (fun k => bN (decide ((gK m k).2.1 = 1)))
def aFast (f n : Nat) (S : aS) : aS := aNam f n (tgN (nm S f n)) (sCt S + tgI (nm S f n)) S
theorem VC_mono {B f n : Nat} {c c' : Nat → Int32} {m : aN} (h : VC B c f n m) (hc : CN c' f n m) : VC B c' f n m := ⟨h.1, h.2.1, h.2.2.1, hc, h.2.2.2.2⟩
theorem fastC {B f n : Nat} {S : aS} {c : Nat → Int32} (h : RepC S c) (hl : LnS S) (hv : VC B c f n (nm S f n)) (hn : n < (sB S f).length) :
    ∃ c', s_X4_tighten (nI f) (nI n) c = some (nI (tgC (nm S f n)), c') ∧ RepC (aFast f n S) c' := by
  have hf := hv.1
  have hn6 := hv.2.1
  have hl8 := hv.2.2.2.2.2.1
  have hnd := nc_def f n
  have hfd := fc_def f
  have g4 : c 4 = sCt S := h.1.2.2.2.2.1
  generalize hm : nm S f n = m at *
  have hCN := hv.2.2.2.1
  have key := lp (fun a (y : Int32 × Int32 × (Nat → Int32)) => s_X4_tighten_L13 (nI f) (nI n) (nI m.length) a y.1 y.2.1 y.2.2) m.length
    (fun i y => y.1 = nI (sN i (fun k => bN (decide ((gK m k).2.1 = 1)))) ∧ y.2.1 = nI i ∧ y.2.2 4 = sCt S + sI i (fun k => if (gK m k).2.1 = 1 then moI (gK m k) else 0) ∧
      (∀ k, k < i → y.2.2 (kc f n k) = nI (tgK (gK m k)).1 ∧ y.2.2 (kc f n k + 1) = nI (tgK (gK m k)).2.1 ∧ y.2.2 (kc f n k + 2) = nI (tgK (gK m k)).2.2) ∧ ∀ j, j ≠ 4 → (j < kc f n 0 ∨ kc f n i ≤ j) → y.2.2 j = c j)
    (fun r => r.1 = nI (tgC m) ∧ r.2.2 4 = sCt S + tgI m ∧ (∀ k, k < m.length → r.2.2 (kc f n k) = nI (tgK (gK m k)).1 ∧ r.2.2 (kc f n k + 1) = nI (tgK (gK m k)).2.1 ∧ r.2.2 (kc f n k + 2) = nI (tgK (gK m k)).2.2) ∧ ∀ j, j ≠ 4 → (j < kc f n 0 ∨ kc f n m.length ≤ j) → r.2.2 j = c j)
    (fun i hi a y hy => by
      obtain ⟨x1, x2, c1⟩ := y
      obtain ⟨y1, y2, y3, y4, y5⟩ := hy
      have y1 : x1 = _ := y1
      have y2 : x2 = nI i := y2
      subst y1 y2
      have y3 : c1 4 = _ := y3
      have hk := kc_lt (k := i) hf hn6 (by omega)
      have hkd := kc_def f n i
      have hk0 := kc_def f n 0
      have hk1 := kc_def f n (i + 1)
      obtain ⟨p1, p2, p3⟩ := hCN.2 i hi
      obtain ⟨o1, o2, o3, o4⟩ := hv.2.2.2.2.2.2 i hi
      have p1 : c1 (kc f n i) = _ := (y5 _ (by omega) (by omega)).trans p1
      have p2 : c1 (kc f n i + 1) = _ := (y5 _ (by omega) (by omega)).trans p2
      have p3 : c1 (kc f n i + 2) = _ := (y5 _ (by omega) (by omega)).trans p3
      have hB := hv.2.2.1
      have hmo : s_X4_cordToTighten (nI (kc f n i)) c1 = some (moI (gK m i)) := by
        have hr := rdN_le (hv.2.2.2.2.2.2 i hi)
        simp (disch := omega) only [s_X4_cordToTighten, at_ok, ↓reduceIte, nI_lit, mO_lit, mO_lt, mO_le, mO_gt, mO_ge, mO_ne, mO_ne', nI_add, nI_mul, nI_addlit0, bsome, c_le_f, c_le_t, c_lt_f, c_lt_t, c_eq_f, c_eq_t, if_true, if_false, fld_n, fst_n, p1, p2]
        rw [read_ok (f := (gK m i).2.2) (by omega) (by omega)]
        have e : rdN ((gK m i).1, (gK m i).2.1, (gK m i).2.2) = rdN (gK m i) := rfl
        rw [e]
        unfold moI
        by_cases q : rdN (gK m i) = 16
        · simp (disch := omega) only [↓reduceIte, nI_lit, mO_lit, mO_lt, mO_le, mO_gt, mO_ge, mO_ne, mO_ne', nI_add, nI_mul, nI_addlit0, bsome, c_le_f, c_le_t, c_lt_f, c_lt_t, c_eq_f, c_eq_t, if_true, if_false, fld_n, fst_n, if_pos q, q]
        · simp (disch := omega) only [↓reduceIte, nI_lit, mO_lit, mO_lt, mO_le, mO_gt, mO_ge, mO_ne, mO_ne', nI_add, nI_mul, nI_addlit0, bsome, c_le_f, c_le_t, c_lt_f, c_lt_t, c_eq_f, c_eq_t, if_true, if_false, fld_n, fst_n, if_neg q, cordK]
      by_cases q : (gK m i).2.1 = 1
      · have et : tgK (gK m i) = (rdN (gK m i), 0, (gK m i).2.2) := by unfold tgK; rw [if_pos q]
        refine Or.inl ⟨(nI (sN i (fun k => bN (decide ((gK m k).2.1 = 1))) + 1), nI (i + 1), upd (upd (upd c1 4 (c1 4 + moI (gK m i))) (kc f n i) (nI (rdN (gK m i)))) (kc f n i + 1) (nI 0)), ?_, ?_, rfl, ?_, fun k hk => ?_, fun j h4 hj => ?_⟩
        · have hrd : s_X7_readsAs (nI f) (nI n) (nI i) (upd c1 4 (c1 4 + moI (gK m i))) = some (nI (rdN (gK m i))) := by
            simp (disch := omega) only [s_X7_readsAs, kcell, at_ok, ↓reduceIte, nI_lit, mO_lit, mO_lt, mO_le, mO_gt, mO_ge, mO_ne, mO_ne', nI_add, nI_mul, nI_addlit0, bsome, c_le_f, c_le_t, c_lt_f, c_lt_t, c_eq_f, c_eq_t, if_true, if_false, fld_n, fst_n]
            rw [upd_o (by omega), upd_o (by omega), p1, p2, read_ok (f := (gK m i).2.2) (by omega) (by omega)]
            rfl
          have hq : (nI (gK m i).2.1 = nI 1) = True := c_eq_t q
          simp (disch := omega) only [s_X4_tighten_L13, ↓reduceIte, nI_lit, mO_lit, mO_lt, mO_le, mO_gt, mO_ge, mO_ne, mO_ne', nI_add, nI_mul, nI_addlit0, bsome, c_le_f, c_le_t, c_lt_f, c_lt_t, c_eq_f, c_eq_t, if_true, if_false, fld_n, fst_n, kcell, at_ok, p2, hq, hmo, add_ok, hrd, put_ok]
        · show _ = nI (sN i _ + bN (decide ((gK m i).2.1 = 1)))
          rw [decide_eq_true q]; rfl
        · show upd (upd (upd c1 4 (c1 4 + moI (gK m i))) (kc f n i) (nI (rdN (gK m i)))) (kc f n i + 1) (nI 0) 4 = sCt S + (sI i _ + if (gK m i).2.1 = 1 then moI (gK m i) else 0)
          rw [upd_o (by omega), upd_o (by omega), upd_s, if_pos q, y3, Int32.add_assoc]
        · by_cases e : k = i
          · subst e
            rw [et]
            show upd (upd (upd c1 4 (c1 4 + moI (gK m k))) (kc f n k) (nI (rdN (gK m k)))) (kc f n k + 1) (nI 0) (kc f n k) = _ ∧ upd (upd (upd c1 4 (c1 4 + moI (gK m k))) (kc f n k) (nI (rdN (gK m k)))) (kc f n k + 1) (nI 0) (kc f n k + 1) = _ ∧ upd (upd (upd c1 4 (c1 4 + moI (gK m k))) (kc f n k) (nI (rdN (gK m k)))) (kc f n k + 1) (nI 0) (kc f n k + 2) = _
            exact ⟨by rw [upd_o (by omega), upd_s], by rw [upd_s], by rw [upd_o (by omega), upd_o (by omega), upd_o (by omega), p3]⟩
          · obtain ⟨b1, b2, b3⟩ := y4 k (by omega)
            have hkk := kc_def f n k
            show upd (upd (upd c1 4 (c1 4 + moI (gK m i))) (kc f n i) (nI (rdN (gK m i)))) (kc f n i + 1) (nI 0) (kc f n k) = _ ∧ upd (upd (upd c1 4 (c1 4 + moI (gK m i))) (kc f n i) (nI (rdN (gK m i)))) (kc f n i + 1) (nI 0) (kc f n k + 1) = _ ∧ upd (upd (upd c1 4 (c1 4 + moI (gK m i))) (kc f n i) (nI (rdN (gK m i)))) (kc f n i + 1) (nI 0) (kc f n k + 2) = _
            exact ⟨by rw [upd_o (by omega), upd_o (by omega), upd_o (by omega)]; exact b1, by rw [upd_o (by omega), upd_o (by omega), upd_o (by omega)]; exact b2, by rw [upd_o (by omega), upd_o (by omega), upd_o (by omega)]; exact b3⟩
        · show upd (upd (upd c1 4 (c1 4 + moI (gK m i))) (kc f n i) (nI (rdN (gK m i)))) (kc f n i + 1) (nI 0) j = _
          rw [upd_o (by omega), upd_o (by omega), upd_o h4]
          exact y5 j h4 (by omega)
      · have et : tgK (gK m i) = gK m i := by unfold tgK; rw [if_neg q]
        refine Or.inl ⟨(nI (sN i (fun k => bN (decide ((gK m k).2.1 = 1)))), nI (i + 1), c1), ?_, ?_, rfl, ?_, fun k hk => ?_, fun j h4 hj => ?_⟩
        · have hq : (nI (gK m i).2.1 = nI 1) = False := c_eq_f q (by omega) (by omega)
          simp (disch := omega) only [s_X4_tighten_L13, ↓reduceIte, nI_lit, mO_lit, mO_lt, mO_le, mO_gt, mO_ge, mO_ne, mO_ne', nI_add, nI_mul, nI_addlit0, bsome, c_le_f, c_le_t, c_lt_f, c_lt_t, c_eq_f, c_eq_t, if_true, if_false, fld_n, fst_n, kcell, at_ok, p2, hq]
        · show _ = nI (sN i _ + bN (decide ((gK m i).2.1 = 1)))
          rw [decide_eq_false q]; rfl
        · show c1 4 = sCt S + (sI i _ + if (gK m i).2.1 = 1 then moI (gK m i) else 0)
          rw [if_neg q, Int32.add_zero]; exact y3
        · by_cases e : k = i
          · subst e; rw [et]; exact ⟨p1, p2, p3⟩
          · exact y4 k (by omega)
        · exact y5 j h4 (by omega))
    (fun a y hy => by
      obtain ⟨x1, x2, c1⟩ := y
      obtain ⟨y1, y2, y3, y4, y5⟩ := hy
      have y1 : x1 = _ := y1
      have y2 : x2 = nI _ := y2
      subst y1 y2
      exact ⟨(nI (tgC m), nI m.length, c1), by simp (disch := omega) only [s_X4_tighten_L13, ↓reduceIte, nI_lit, mO_lit, mO_lt, mO_le, mO_gt, mO_ge, mO_ne, mO_ne', nI_add, nI_mul, nI_addlit0, bsome, c_le_f, c_le_t, c_lt_f, c_lt_t, c_eq_f, c_eq_t, if_true, if_false, fld_n, fst_n]; rfl, rfl, y3, y4, y5⟩)
    m.length 0 gF (nI 0, nI 0, c) (by omega) (by unfold gF; omega) ⟨rfl, rfl, by show c 4 = sCt S + 0; rw [Int32.add_zero]; exact g4, fun k hk => by omega, fun j _ _ => rfl⟩
  obtain ⟨⟨r1, r2, c1⟩, k1, k2, k3, k4, k5⟩ := key
  have k1 : s_X4_tighten_L13 (nI f) (nI n) (nI m.length) gF (nI 0) (nI 0) c = some (r1, r2, c1) := k1
  have k2 : r1 = nI (tgC m) := k2
  subst k2
  have k5 : ∀ j, j ≠ 4 → (j < kc f n 0 ∨ kc f n m.length ≤ j) → c1 j = c j := k5
  refine ⟨c1, ?_, ?_⟩
  · simp (disch := omega) only [s_X4_tighten, kts hv, ↓reduceIte, nI_lit, mO_lit, mO_lt, mO_le, mO_gt, mO_ge, mO_ne, mO_ne', nI_add, nI_mul, nI_addlit0, bsome, c_le_f, c_le_t, c_lt_f, c_lt_t, c_eq_f, c_eq_t, if_true, if_false, fld_n, fst_n, k1]
  · have hk0 := kc_def f n 0
    have hk1 := kc_def f n m.length
    unfold aFast
    rw [hm]
    refine namC h hl hf hn k3 ⟨?_, fun k hk => ?_⟩ (fun j h4 hj => k5 j h4 (by omega))
    · unfold tgN; rw [ixM_len, k5 _ (by omega) (by omega)]; exact hCN.1
    · unfold tgN at hk ⊢
      rw [ixM_len] at hk
      rw [ixM_gK _ _ hk]
      exact k4 k hk
