/-! the model: a storm comes -/
def lsP (st d : Nat) (m : aN) (i : Nat) : aN := ixM m (fun k x => if k < i then (x.1, lbN st d k x 1, x.2.2) else x)
theorem lsP_len (st d : Nat) (m : aN) (i : Nat) : (lsP st d m i).length = m.length := ixM_len m _
theorem lsP_gK (st d : Nat) (m : aN) (i : Nat) {k : Nat} (h : k < m.length) : gK (lsP st d m i) k = if k < i then ((gK m k).1, lbN st d k (gK m k) 1, (gK m k).2.2) else gK m k := ixM_gK m _ h
theorem lsP_lt (st d : Nat) (m : aN) (i : Nat) : ltL (lsP st d m i) = ltL m := ext0 (by rw [ltL_len, ltL_len, lsP_len]) (fun k hk => by
  rw [ltL_len] at hk
  rw [ltL_getD _ (by rw [lsP_len]; exact hk), ltL_getD _ hk, lsP_gK _ _ _ _ hk]
  by_cases q : k < i
  · rw [if_pos q]
  · rw [if_neg q])
theorem lsP_fi (st d : Nat) (m : aN) (i : Nat) : fiL (lsP st d m i) = fiL m := ext0 (by rw [fiL_len, fiL_len, lsP_len]) (fun k hk => by
  rw [fiL_len] at hk
  rw [fiL_getD _ (by rw [lsP_len]; exact hk), fiL_getD _ hk, lsP_gK _ _ _ _ hk]
  by_cases q : k < i
  · rw [if_pos q]
  · rw [if_neg q])
theorem lsP_all (st d : Nat) (m : aN) : lsP st d m m.length = lsN st d m := by
  unfold lsP lsN ixM
  apply List.map_congr_left
  intro k hk
  exact if_pos (List.mem_range.mp hk)
theorem OKN_lsP {B st d : Nat} {m : aN} (h : OKN B m) (hd : 1 ≤ d) (i : Nat) : OKN (B + 1) (lsP st d m i) := by
  have h2 := OKN_ls (st := st) h hd
  refine ⟨by rw [lsP_len]; exact h.1, by rw [lsP_len]; exact h.2.1, fun k hk => ?_⟩
  rw [lsP_len] at hk
  rw [lsP_gK _ _ _ _ hk]
  by_cases q : k < i
  · rw [if_pos q]
    have := h2.2.2 k (by unfold lsN; rw [ixM_len]; exact hk)
    unfold lsN at this
    rw [ixM_gK _ _ hk] at this; exact this
  · rw [if_neg q]; exact OKK_mono (h.2.2 k hk) (by omega)
theorem mlsL {B W st d b : Nat} {s : Nat → Int32} {m : aN} (hw28 : 28 ≤ W) (h : VM B s W m) (e : EnvM (B + 1) s (st + 1) d b) : ∃ r : Int32 × (Nat → Int32), s_X11_doStorm_L34 (nI W) gF (nI 0) s = some r ∧ MN r.2 W (lsN st d m) ∧ ∀ j, (j < W ∨ W + 11 ≤ j) → r.2 j = s j := by
  obtain ⟨hw, hB, ⟨m1, m2, m3, m4⟩, hm⟩ := h
  obtain ⟨e0, e4, e5, e6, e7, e8, e9, e10⟩ := e
  have hl8 := hm.2.1
  have key := lp (fun a (y : Int32 × (Nat → Int32)) => s_X11_doStorm_L34 (nI W) a y.1 y.2) m.length
    (fun i y => y.1 = nI i ∧ MN y.2 W (lsP st d m i) ∧ ∀ j, (j < W ∨ W + 11 ≤ j) → y.2 j = s j)
    (fun r => MN r.2 W (lsN st d m) ∧ ∀ j, (j < W ∨ W + 11 ≤ j) → r.2 j = s j)
    (fun i hi a y hy => by
      obtain ⟨x, c1⟩ := y
      obtain ⟨y1, y2, y3⟩ := hy
      have y1 : x = nI i := y1
      subst y1
      have y2 : MN c1 W (lsP st d m i) := y2
      have y3 : ∀ j, (j < W ∨ W + 11 ≤ j) → c1 j = s j := y3
      have hv1 : VM (B + 1) c1 W (lsP st d m i) := ⟨hw, e10, y2, OKN_lsP hm e7 i⟩
      have hk := mkn hv1
      rw [lsP_len] at hk
      have hlo := mlo (t := st + 1) hv1 ⟨(y3 0 (by omega)).trans e0, (y3 4 (by omega)).trans e4, (y3 5 (by omega)).trans e5, e6, e7, e8, e9, e10⟩ (k := i) (by rw [lsP_len]; exact hi) (by omega)
      have hgi : gK (lsP st d m i) i = gK m i := by rw [lsP_gK _ _ _ _ hi, if_neg (Nat.lt_irrefl i)]
      rw [hgi] at hlo
      have b5 : c1 (W + 3 + i) = nI (gK m i).2.1 := by
        have := y2.2.2.2 i (by rw [lsP_len]; exact hi)
        rw [hgi] at this; exact this
      have b0 : c1 0 = nI (st + 1) := (y3 0 (by omega)).trans e0
      have ho := (hm.2.2 i hi).2.1
      refine Or.inl ⟨(nI (i + 1), upd c1 (W + 3 + i) (nI (lbN st d i (gK m i) 1))), ?_, rfl, ⟨?_, ?_, ?_, fun k hk => ?_⟩, fun j hj => ?_⟩
      · rw [lb1 e7]
        cases hq : loB d i (gK m i) (st + 1) with
        | true =>
          rw [hq] at hlo
          simp (disch := omega) only [s_X11_doStorm_L34, hk, ↓reduceIte, nI_lit, mO_lit, mO_lt, mO_le, mO_gt, mO_ge, mO_ne, mO_ne', nI_add, nI_mul, nI_addlit0, bsome, c_le_f, c_le_t, c_lt_f, c_lt_t, c_eq_f, c_eq_t, if_true, if_false, fld_n, fst_n, b5, b0, hlo, bI_t, bN]
        | false =>
          rw [hq] at hlo
          simp (disch := omega) only [s_X11_doStorm_L34, hk, ↓reduceIte, nI_lit, mO_lit, mO_lt, mO_le, mO_gt, mO_ge, mO_ne, mO_ne', nI_add, nI_mul, nI_addlit0, bsome, c_le_f, c_le_t, c_lt_f, c_lt_t, c_eq_f, c_eq_t, if_true, if_false, fld_n, fst_n, b5, b0, hlo, bI_f, bN]
          simp
      · show upd c1 _ _ W = _
        rw [upd_o (by omega), lsP_len]
        have := y2.1; rw [lsP_len] at this; exact this
      · show upd c1 _ _ (W + 1) = _
        rw [upd_o (by omega), lsP_fi]
        have := y2.2.1; rw [lsP_fi] at this; exact this
      · show upd c1 _ _ (W + 2) = _
        rw [upd_o (by omega), lsP_lt]
        have := y2.2.2.1; rw [lsP_lt] at this; exact this
      · rw [lsP_len] at hk
        show upd c1 _ _ (W + 3 + k) = _
        rw [lsP_gK _ _ _ _ hk]
        by_cases q : k = i
        · subst q
          rw [upd_s, if_pos (by omega)]
        · have := y2.2.2.2 k (by rw [lsP_len]; exact hk)
          rw [lsP_gK _ _ _ _ hk] at this
          rw [upd_o (by omega)]
          refine Eq.trans this ?_
          by_cases q2 : k < i
          · rw [if_pos q2, if_pos (by omega)]
          · rw [if_neg q2, if_neg (by omega)]
      · show upd c1 _ _ j = _
        rw [upd_o (by omega)]; exact y3 j hj)
    (fun a y hy => by
      obtain ⟨x, c1⟩ := y
      obtain ⟨y1, y2, y3⟩ := hy
      have y1 : x = nI _ := y1
      subst y1
      have y2 : MN c1 W (lsP st d m m.length) := y2
      have hv1 : VM (B + 1) c1 W (lsP st d m m.length) := ⟨hw, e10, y2, OKN_lsP hm e7 _⟩
      have hk := mkn hv1
      rw [lsP_len] at hk
      rw [lsP_all] at y2
      exact ⟨(nI m.length, c1), by simp (disch := omega) only [s_X11_doStorm_L34, hk, ↓reduceIte, nI_lit, mO_lit, mO_lt, mO_le, mO_gt, mO_ge, mO_ne, mO_ne', nI_add, nI_mul, nI_addlit0, bsome, c_le_f, c_le_t, c_lt_f, c_lt_t, c_eq_f, c_eq_t, if_true, if_false, fld_n, fst_n], y2, y3⟩)
    m.length 0 gF (nI 0, s) (by omega) (by unfold gF; omega) ⟨rfl, by
      refine ⟨?_, ?_, ?_, fun k hk => ?_⟩
      · rw [lsP_len]; exact m1
      · rw [lsP_fi]; exact m2
      · rw [lsP_lt]; exact m3
      · rw [lsP_len] at hk
        rw [lsP_gK _ _ _ _ hk, if_neg (Nat.not_lt_zero k)]; exact m4 k hk, fun j _ => rfl⟩
  exact key
def lsR (st d p : Nat) (l : List aN) : List aN := l.mapIdx (fun n m => if n < p then m else lsN st d m)
theorem lsR_get (st d p : Nat) (l : List aN) (n : Nat) : (lsR st d p l)[n]? = (l[n]?).map (fun m => if n < p then m else lsN st d m) := by
  unfold lsR
  rw [List.getElem?_mapIdx]
theorem lsR_all (st d p : Nat) (l : List aN) (h : l.length ≤ p) : lsR st d p l = l := by
  apply List.ext_getElem?
  intro n
  rw [lsR_get]
  rcases Nat.lt_or_ge n l.length with q | q
  · rw [List.getElem?_eq_getElem q]; simp only [Option.map_some, if_pos (show n < p by omega)]
  · rw [List.getElem?_eq_none q]; rfl
theorem lsR_0 (st d : Nat) (l : List aN) : lsR st d 0 l = lsQ st d l.length l := by
  apply List.ext_getElem?
  intro n
  rw [lsR_get]
  unfold lsQ
  rw [List.getElem?_mapIdx]
  rcases Nat.lt_or_ge n l.length with q | q
  · rw [List.getElem?_eq_getElem q]; simp [q]
  · rw [List.getElem?_eq_none q]; rfl
theorem lsR_at (st d p : Nat) (l : List aN) (h : p < l.length) : (lsR st d p l).getD p [] = lsN st d (l.getD p []) := by
  simp only [List.getD_eq_getElem?_getD, lsR_get, List.getElem?_eq_getElem h, Option.map_some, if_neg (Nat.lt_irrefl p), Option.getD_some]
theorem lsR_set (st d p : Nat) (l : List aN) (h : p < l.length) : lsR st d (p + 1) (l.set p (lsN st d (l.getD p []))) = lsR st d p l := by
  apply List.ext_getElem?
  intro n
  rw [lsR_get, lsR_get, List.getElem?_set]
  by_cases e : p = n
  · subst e
    rw [if_pos rfl, if_pos h, List.getElem?_eq_getElem h]
    simp [List.getD_eq_getElem?_getD, List.getElem?_eq_getElem h]
  · rw [if_neg e]
    cases l[n]? with
    | none => rfl
    | some m =>
      simp only [Option.map_some, Option.some.injEq]
      by_cases q : n < p
      · rw [if_pos q, if_pos (by omega)]
      · rw [if_neg q, if_neg (by omega)]
theorem lsR_era (st d p : Nat) (l : List aN) (x : aN) : lsR st d p ((l.set p x).eraseIdx p) = (lsR st d p l).eraseIdx p := by
  apply List.ext_getElem?
  intro n
  rw [lsR_get, List.getElem?_eraseIdx, List.getElem?_eraseIdx, lsR_get, lsR_get]
  by_cases q : n < p
  · rw [if_pos q, if_pos q, List.getElem?_set, if_neg (by omega)]
  · rw [if_neg q, if_neg q, List.getElem?_set, if_neg (by omega)]
    cases l[n + 1]? with
    | none => rfl
    | some m =>
      simp only [Option.map_some, Option.some.injEq]
      rw [if_neg q, if_neg (by omega)]
def seaM (f st : Nat) : Nat → Nat → Nat → aS → Nat × aS
  | 0, _, z, S => (z, S)
  | r + 1, p, z, S => if sBo S < u2 (lsN st (sD S) (nm S f p)) then seaM f st r p (z + 1) (aLose f p (aNam f p (lsN st (sD S) (nm S f p)) (sCt S) S)) else seaM f st r (p + 1) z (aNam f p (lsN st (sD S) (nm S f p)) (sCt S) S)
theorem sea_eq {f st : Nat} : ∀ (r p z : Nat) (S : aS), p + r = (sB S f).length → seaM f st r p z S = seaC f r p z (aBel f (lsR st (sD S) p (sB S f)) S) := by
  intro r
  induction r with
  | zero =>
    intro p z S h
    show (z, S) = (z, aBel f (lsR st (sD S) p (sB S f)) S)
    rw [lsR_all _ _ _ _ (by omega), aBel_self]
  | succ r ih =>
    intro p z S h
    have hp : p < (sB S f).length := by omega
    have e1 : nm (aBel f (lsR st (sD S) p (sB S f)) S) f p = lsN st (sD S) (nm S f p) := by
      rw [aBel_nm, if_pos rfl, lsR_at _ _ _ _ hp]; rfl
    have e2 : sBo (aBel f (lsR st (sD S) p (sB S f)) S) = sBo S := aBel_e.2.2.1
    show (if sBo S < u2 (lsN st (sD S) (nm S f p)) then seaM f st r p (z + 1) (aLose f p (aNam f p (lsN st (sD S) (nm S f p)) (sCt S) S)) else seaM f st r (p + 1) z (aNam f p (lsN st (sD S) (nm S f p)) (sCt S) S)) =
      if sBo (aBel f (lsR st (sD S) p (sB S f)) S) < u2 (nm (aBel f (lsR st (sD S) p (sB S f)) S) f p) then seaC f r p (z + 1) (aLose f p (aBel f (lsR st (sD S) p (sB S f)) S)) else seaC f r (p + 1) z (aBel f (lsR st (sD S) p (sB S f)) S)
    rw [e1, e2]
    obtain ⟨Bs, E, st', d, b, kt, ct, sp, ln, lo, gi⟩ := S
    have hp : p < (Bs f).length := hp
    have h : p + (r + 1) = (Bs f).length := h
    show (if b < u2 (lsN st d ((Bs f).getD p [])) then seaM f st r p (z + 1) (aLose f p (updF Bs f ((Bs f).set p (lsN st d ((Bs f).getD p []))), E, st', d, b, kt, ct, sp, ln, lo, gi)) else seaM f st r (p + 1) z (updF Bs f ((Bs f).set p (lsN st d ((Bs f).getD p []))), E, st', d, b, kt, ct, sp, ln, lo, gi)) =
      if b < u2 (lsN st d ((Bs f).getD p [])) then seaC f r p (z + 1) (aLose f p (updF Bs f (lsR st d p (Bs f)), E, st', d, b, kt, ct, sp, ln, lo, gi)) else seaC f r (p + 1) z (updF Bs f (lsR st d p (Bs f)), E, st', d, b, kt, ct, sp, ln, lo, gi)
    have hA : ((Bs f).set p (lsN st d ((Bs f).getD p []))).getD p [] = lsN st d ((Bs f).getD p []) := by rw [setD _ _ _ _ _ hp, if_pos rfl]
    by_cases q : b < u2 (lsN st d ((Bs f).getD p []))
    · rw [if_pos q, if_pos q, aLose_t, aLose_t, ih]
      · show seaC f r p (z + 1) (updF (updF (updF Bs f _) f _) f (lsR st d p (updF (updF Bs f _) f _ f)), _) = _
        simp only [updF_updF, updF_s, hA, lsR_era, lsR_at _ _ _ _ hp]
      · show p + r = (updF (updF Bs f _) f _ f).length
        rw [updF_s, updF_s, List.length_eraseIdx_of_lt (by rw [List.length_set]; exact hp), List.length_set]; omega
    · rw [if_neg q, if_neg q, ih]
      · show seaC f r (p + 1) z (updF (updF Bs f _) f (lsR st d (p + 1) (updF Bs f _ f)), _) = _
        simp only [updF_updF, updF_s, lsR_set _ _ _ _ hp]
      · show p + 1 + r = (updF Bs f _ f).length
        rw [updF_s, List.length_set]; omega
theorem aNam_p {f n : Nat} {m : aN} {S : aS} (hn : n < (sB S f).length) : (sB (aNam f n m (sCt S) S) f).length = (sB S f).length ∧ sSt (aNam f n m (sCt S) S) = sSt S ∧ sD (aNam f n m (sCt S) S) = sD S ∧ sBo (aNam f n m (sCt S) S) = sBo S ∧ ∀ i, nm (aNam f n m (sCt S) S) f i = if i = n then m else nm S f i := by
  obtain ⟨Bs, E, st', d, b, kt, ct, sp, ln, lo, gi⟩ := S
  have hn : n < (Bs f).length := hn
  refine ⟨?_, rfl, rfl, rfl, fun i => ?_⟩
  · show (updF Bs f ((Bs f).set n m) f).length = _
    rw [updF_s, List.length_set]; rfl
  · show (updF Bs f ((Bs f).set n m) f).getD i [] = _
    rw [updF_s, setD _ _ _ _ _ hn]; rfl
theorem aLose_p {f n : Nat} {S : aS} : sSt (aLose f n S) = sSt S ∧ sD (aLose f n S) = sD S ∧ ∀ i, nm (aLose f n S) f i = if i < n then nm S f i else nm S f (i + 1) := by
  obtain ⟨Bs, E, st', d, b, kt, ct, sp, ln, lo, gi⟩ := S
  refine ⟨rfl, rfl, fun i => ?_⟩
  show (updF Bs f ((Bs f).eraseIdx n) f).getD i [] = _
  rw [updF_s, eraseIdx_getD]; rfl
theorem mseaL {B f st : Nat} (hf : f < 5) : ∀ (r p z fuel : Nat) (S : aS) (s : Nat → Int32), IM (B + 1) S s → sSt S = st + 1 → (∀ n, p ≤ n → n < (sB S f).length → OKN B (nm S f n)) → p + r = (sB S f).length → r < fuel → z + r < 1000 →
    ∃ r' : Int32 × Int32 × (Nat → Int32), s_X11_doStorm_L14 (nI f) fuel (nI z) (nI p) s = some r' ∧ r'.1 = nI (seaM f st r p z S).1 ∧ IM (B + 1) (seaM f st r p z S).2 r'.2.2 := by
  intro r
  induction r with
  | zero =>
    intro p z fuel S s h hst ho h1 h2 hz
    obtain ⟨a, rfl⟩ : ∃ a, fuel = a + 1 := ⟨fuel - 1, by omega⟩
    have h6 := h.six hf
    exact ⟨(nI z, nI p, s), by simp (disch := omega) only [s_X11_doStorm_L14, mof1 h hf, ↓reduceIte, nI_lit, mO_lit, mO_lt, mO_le, mO_gt, mO_ge, mO_ne, mO_ne', nI_add, nI_mul, nI_addlit0, bsome, c_le_f, c_le_t, c_lt_f, c_lt_t, c_eq_f, c_eq_t, if_true, if_false, fld_n, fst_n], rfl, h⟩
  | succ r ih =>
    intro p z fuel S s h hst ho h1 h2 hz
    obtain ⟨a, rfl⟩ : ∃ a, fuel = a + 1 := ⟨fuel - 1, by omega⟩
    have h6 := h.six hf
    have hp : p < (sB S f).length := by omega
    have hv := h.nam hf hp
    have hm : OKN B (nm S f p) := ho p (Nat.le_refl _) hp
    have hd := h.2.1.2.2.1
    have hwd := wh_def f p
    have hB : B + 1 < 1000000 := h.2.1.2.1
    have e := h.env
    rw [hst] at e
    obtain ⟨⟨r1, s1⟩, k1, k2, k3⟩ := mlsL (B := B) (W := wh f p) (by omega) ⟨hv.1, by omega, hv.2.2.1, hm⟩ e
    have k2 : MN s1 (wh f p) (lsN st (sD S) (nm S f p)) := k2
    have k3 : ∀ j, (j < wh f p ∨ wh f p + 11 ≤ j) → s1 j = s j := k3
    have hok := OKN_ls (st := st) hm hd
    have hR : RepM (aNam f p (lsN st (sD S) (nm S f p)) (sCt S) S) s1 := mnam h.1 h.2.lns hf hp (by rw [k3 _ (by omega)]; exact h.1.1.2.2.2.1) k2 (fun j _ hj => k3 j hj)
    have hI : IM (B + 1) (aNam f p (lsN st (sD S) (nm S f p)) (sCt S) S) s1 := ⟨hR, OKS_nam h.2 hf hp hok⟩
    obtain ⟨n1, n2, n3, n4, n5⟩ := aNam_p (f := f) (n := p) (m := lsN st (sD S) (nm S f p)) hp
    have hl2 : s_X11_loosened (nI (wh f p)) (nI 2) s1 = some (nI (u2 (lsN st (sD S) (nm S f p)))) := by
      rw [mls (B := B + 1) ⟨hv.1, hB, k2, hok⟩ (by omega), lm2u]
    have hu8 : u2 (lsN st (sD S) (nm S f p)) ≤ 8 := by rw [← lm2u]; exact lm_le hok
    have hb := h.2.1.2.2.2.2
    have h5 : s1 5 = nI (sBo S) := by rw [k3 _ (by omega)]; exact h.1.1.2.2.2.2.2.1
    unfold seaM
    by_cases q : sBo S < u2 (lsN st (sD S) (nm S f p))
    · rw [if_pos q]
      obtain ⟨s2, h3, h4⟩ := mdrown hI hf (n := p) (by rw [n1]; exact hp)
      obtain ⟨l1, l2, l3⟩ := aLose_p (f := f) (n := p) (S := aNam f p (lsN st (sD S) (nm S f p)) (sCt S) S)
      have hlen := aLose_len (f := f) (n := p) (S := aNam f p (lsN st (sD S) (nm S f p)) (sCt S) S) (by rw [n1]; exact hp)
      obtain ⟨r', h7, h8⟩ := ih p (z + 1) a _ s2 h4 (by rw [l1, n2, hst]) (fun n hn1 hn2 => by
        rw [hlen, n1] at hn2
        rw [l3, if_neg (by omega), n5, if_neg (by omega)]
        exact ho (n + 1) (by omega) (by omega)) (by rw [hlen, n1]; omega) (by omega) (by omega)
      refine ⟨r', ?_, h8⟩
      simp (disch := omega) only [s_X11_doStorm_L14, mof1 h hf, ↓reduceIte, nI_lit, mO_lit, mO_lt, mO_le, mO_gt, mO_ge, mO_ne, mO_ne', nI_add, nI_mul, nI_addlit0, bsome, c_le_f, c_le_t, c_lt_f, c_lt_t, c_eq_f, c_eq_t, if_true, if_false, fld_n, fst_n, whr]
      refine bindE k1 ?_
      simp (disch := omega) only [↓reduceIte, nI_lit, mO_lit, mO_lt, mO_le, mO_gt, mO_ge, mO_ne, mO_ne', nI_add, nI_mul, nI_addlit0, bsome, c_le_f, c_le_t, c_lt_f, c_lt_t, c_eq_f, c_eq_t, if_true, if_false, fld_n, fst_n, hl2, h5, h3]
      exact h7
    · rw [if_neg q]
      obtain ⟨r', h7, h8⟩ := ih (p + 1) z a _ s1 hI (by rw [n2, hst]) (fun n hn1 hn2 => by
        rw [n1] at hn2
        rw [n5, if_neg (by omega)]
        exact ho n (by omega) hn2) (by rw [n1]; omega) (by omega) (by omega)
      refine ⟨r', ?_, h8⟩
      simp (disch := omega) only [s_X11_doStorm_L14, mof1 h hf, ↓reduceIte, nI_lit, mO_lit, mO_lt, mO_le, mO_gt, mO_ge, mO_ne, mO_ne', nI_add, nI_mul, nI_addlit0, bsome, c_le_f, c_le_t, c_lt_f, c_lt_t, c_eq_f, c_eq_t, if_true, if_false, fld_n, fst_n, whr]
      refine bindE k1 ?_
      simp (disch := omega) only [↓reduceIte, nI_lit, mO_lit, mO_lt, mO_le, mO_gt, mO_ge, mO_ne, mO_ne', nI_add, nI_mul, nI_addlit0, bsome, c_le_f, c_le_t, c_lt_f, c_lt_t, c_eq_f, c_eq_t, if_true, if_false, fld_n, fst_n, hl2, h5]
      exact h7
theorem mstorm {B f : Nat} {S : aS} {s : Nat → Int32} (h : IM B S s) (hf : f < 5) (hB : B + 1 < 1000000) :
    ∃ s', s_X11_doStorm (nI f) s = some (nI (aStorm f S).1, s') ∧ IM (B + 1) (aStorm f S).2 s' := by
  have h6 := h.six hf
  have g0 : s 0 = nI (sSt S) := h.1.1.1
  have hR : RepM (aSt (sSt S + 1) S) (upd s 0 (nI (sSt S + 1))) := by
    have hd := fm_def 0
    have hw := wh_def 0 0
    obtain ⟨g0, g1, g2, g3, g4, g5, g6, g7⟩ := h.1.1
    obtain ⟨⟨a0, a1, a2, a3⟩, a4⟩ := h.1.2.1 0 (by omega)
    obtain ⟨Bs, E, st, r⟩ := S
    refine RepM_blk (f := 0) h.1 h.2.lns (by omega) rfl ⟨upd_s, ?_, ?_, ?_, ?_, ?_, ?_, ?_⟩ (fun j h8 _ _ => upd_o (by omega)) (fun g _ => ⟨rfl, rfl, rfl, rfl⟩) ⟨⟨?_, ?_, ?_, ?_⟩, fun n hn => ?_⟩
    · rw [upd_o (by omega)]; exact g1
    · rw [upd_o (by omega)]; exact g2
    · rw [upd_o (by omega)]; exact g3
    · rw [upd_o (by omega)]; exact g4
    · rw [upd_o (by omega)]; exact g5
    · rw [upd_o (by omega)]; exact g6
    · rw [upd_o (by omega)]; exact g7
    · rw [upd_o (by omega)]; exact a0
    · rw [upd_o (by omega)]; exact a1
    · rw [upd_o (by omega)]; exact a2
    · rw [upd_o (by omega)]; exact a3
    · have := wh_def 0 n
      exact MN_move (a4 n hn) ((h.2.lns.1 0 (by omega)).2 n hn).2 (fun j hj => upd_o (by omega))
  have hO : OKS (B + 1) (aSt (sSt S + 1) S) := by
    have o := OKS_mono h.2 (B' := B + 1) (by omega) hB
    have hst : sSt S ≤ B := h.2.1.1
    obtain ⟨Bs, E, st, r⟩ := S
    have hst : st ≤ B := hst
    exact ⟨⟨by show st + 1 ≤ B + 1; omega, o.1.2⟩, o.2⟩
  have eB : sB (aSt (sSt S + 1) S) = sB S := by obtain ⟨Bs, E, st, r⟩ := S; rfl
  have eD : sD (aSt (sSt S + 1) S) = sD S := by obtain ⟨Bs, E, st, r⟩ := S; rfl
  have eS : sSt (aSt (sSt S + 1) S) = sSt S + 1 := by obtain ⟨Bs, E, st, r⟩ := S; rfl
  have eN : ∀ n, nm (aSt (sSt S + 1) S) f n = nm S f n := fun n => by unfold nm; rw [eB]
  obtain ⟨⟨r1, r2, s'⟩, k1, k2, k3⟩ := mseaL (B := B) (f := f) (st := sSt S) hf (sB S f).length 0 0 gF _ _ ⟨hR, hO⟩ eS (fun n _ hn => by rw [eB] at hn; rw [eN]; exact (h.2.2.1 f hf).2.2.2 n hn) (by rw [eB]; omega) (by unfold gF; omega) (by omega)
  have e : seaM f (sSt S) (sB S f).length 0 0 (aSt (sSt S + 1) S) = aStorm f S := by
    rw [sea_eq _ _ _ _ (by rw [eB]; omega), eB, eD, lsR_0]
    unfold aStorm
    obtain ⟨Bs, E, st, r⟩ := S
    rfl
  rw [e] at k2 k3
  have k2 : r1 = _ := k2
  subst k2
  refine ⟨s', fldE (i := 0) rfl (by omega) (by omega) g0 (fstE (i := 0) rfl (by omega) (by omega) (bindE (a := (nI (aStorm f S).1, r2, s')) ?_ rfl)), k3⟩
  have ze : nI (sSt S) + 1 = nI (sSt S + 1) := by simp only [nI_lit, nI_add]
  rw [ze]
  exact k1
