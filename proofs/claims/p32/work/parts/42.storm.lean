/-! the class: a name is loosened, a name is lost -/
theorem lbh_fr {f n k s : Nat} {c c1 : Nat → Int32} (hk : kc f n k + 2 < 910) (h0 : c1 0 = c 0) (h1 : c1 1 = c 1) (h2 : c1 (kc f n k) = c (kc f n k)) (h3 : c1 (kc f n k + 1) = c (kc f n k + 1)) :
    s_X6_loosenedBehind (nI f) (nI n) (nI k) (nI s) c1 = s_X6_loosenedBehind (nI f) (nI n) (nI k) (nI s) c := by
  simp (disch := omega) only [s_X6_loosenedBehind, kcell, nI_lit, nI_add, nI_addlit0, at_ok, bsome, h0, h1, h2, h3]
def lsN (st d : Nat) (m : aN) : aN := ixM m (fun k x => (x.1, lbN st d k x 1, x.2.2))
theorem lsnC {B f n : Nat} {S : aS} {c : Nat → Int32} (h : RepC S c) (hl : LnS S) (hv : VC B c f n (nm S f n)) (e : EnvC B c (sSt S) (sD S) (sBo S)) (hn : n < (sB S f).length) :
    ∃ c', s_X6_loosen (nI f) (nI n) c = some c' ∧ RepC (aNam f n (lsN (sSt S) (sD S) (nm S f n)) (sCt S) S) c' := by
  have hf := hv.1
  have hn6 := hv.2.1
  have hl8 := hv.2.2.2.2.2.1
  have hnd := nc_def f n
  have hfd := fc_def f
  have g4 : c 4 = sCt S := h.1.2.2.2.2.1
  generalize hm : nm S f n = m at *
  have hCN := hv.2.2.2.1
  have key := lp (fun a (y : Int32 × (Nat → Int32)) => s_X6_loosen_L10 (nI f) (nI n) (nI m.length) a y.1 y.2) m.length
    (fun i y => y.1 = nI i ∧ (∀ k, k < i → y.2 (kc f n k + 1) = nI (lbN (sSt S) (sD S) k (gK m k) 1)) ∧ ∀ j, (∀ k, k < i → j ≠ kc f n k + 1) → y.2 j = c j)
    (fun r => (∀ k, k < m.length → r.2 (kc f n k + 1) = nI (lbN (sSt S) (sD S) k (gK m k) 1)) ∧ ∀ j, (∀ k, k < m.length → j ≠ kc f n k + 1) → r.2 j = c j)
    (fun i hi a y hy => by
      obtain ⟨x, c1⟩ := y
      obtain ⟨y1, y2, y3⟩ := hy
      have y1 : x = nI i := y1
      subst y1
      have y3 : ∀ j, (∀ k, k < i → j ≠ kc f n k + 1) → c1 j = c j := y3
      have hk := kc_lt (k := i) hf hn6 (by omega)
      have hkd := kc_def f n i
      have hlb : s_X6_loosenedBehind (nI f) (nI n) (nI i) (nI 1) c1 = some (nI (lbN (sSt S) (sD S) i (gK m i) 1)) := by
        rw [lbh_fr hk (y3 _ (fun k _ => by have := kc_def f n k; omega)) (y3 _ (fun k _ => by have := kc_def f n k; omega)) (y3 _ (fun k _ => by have := kc_def f n k; omega)) (y3 _ (fun k _ => by have := kc_def f n k; omega))]
        exact lbh hv e hi (by omega)
      refine Or.inl ⟨(nI (i + 1), upd c1 (kc f n i + 1) (nI (lbN (sSt S) (sD S) i (gK m i) 1))), ?_, rfl, fun k hk => ?_, fun j hj => ?_⟩
      · simp (disch := omega) only [s_X6_loosen_L10, ↓reduceIte, nI_lit, mO_lit, mO_lt, mO_le, mO_gt, mO_ge, mO_ne, mO_ne', nI_add, nI_mul, nI_addlit0, bsome, c_le_f, c_le_t, c_lt_f, c_lt_t, c_eq_f, c_eq_t, if_true, if_false, fld_n, fst_n, hlb, kcell, put_ok]
      · show upd c1 (kc f n i + 1) _ (kc f n k + 1) = _
        by_cases q : k = i
        · subst q; rw [upd_s]
        · have := kc_def f n k
          rw [upd_o (by omega)]; exact y2 k (by omega)
      · show upd c1 (kc f n i + 1) _ j = _
        rw [upd_o (hj i (by omega))]
        exact y3 j (fun k hk => hj k (by omega)))
    (fun a y hy => by
      obtain ⟨x, c1⟩ := y
      obtain ⟨y1, y2, y3⟩ := hy
      have y1 : x = nI _ := y1
      subst y1
      exact ⟨(nI m.length, c1), by simp (disch := omega) only [s_X6_loosen_L10, ↓reduceIte, nI_lit, mO_lit, mO_lt, mO_le, mO_gt, mO_ge, mO_ne, mO_ne', nI_add, nI_mul, nI_addlit0, bsome, c_le_f, c_le_t, c_lt_f, c_lt_t, c_eq_f, c_eq_t, if_true, if_false, fld_n, fst_n], y2, y3⟩)
    m.length 0 gF (nI 0, c) (by omega) (by unfold gF; omega) ⟨rfl, fun k hk => by omega, fun j _ => rfl⟩
  obtain ⟨⟨r1, c1⟩, k1, k2, k3⟩ := key
  have k1 : s_X6_loosen_L10 (nI f) (nI n) (nI m.length) gF (nI 0) c = some (r1, c1) := k1
  have k3 : ∀ j, (∀ k, k < m.length → j ≠ kc f n k + 1) → c1 j = c j := k3
  refine ⟨c1, ?_, ?_⟩
  · simp (disch := omega) only [s_X6_loosen, kts hv, ↓reduceIte, nI_lit, mO_lit, mO_lt, mO_le, mO_gt, mO_ge, mO_ne, mO_ne', nI_add, nI_mul, nI_addlit0, bsome, c_le_f, c_le_t, c_lt_f, c_lt_t, c_eq_f, c_eq_t, if_true, if_false, fld_n, fst_n, k1]
  · refine namC h hl hf hn ?_ ⟨?_, fun k hk => ?_⟩ (fun j h4 hj => k3 j (fun k hk => by have := kc_def f n k; omega))
    · rw [k3 _ (fun k _ => by have := kc_def f n k; omega)]; exact g4
    · unfold lsN; rw [ixM_len, k3 _ (fun k _ => by have := kc_def f n k; omega)]; exact hCN.1
    · unfold lsN at hk ⊢
      rw [ixM_len] at hk
      rw [ixM_gK _ _ hk]
      have hkd := kc_def f n k
      exact ⟨by rw [k3 _ (fun i _ => by have := kc_def f n i; omega)]; exact (hCN.2 k hk).1, k2 k hk, by rw [k3 _ (fun i _ => by have := kc_def f n i; omega)]; exact (hCN.2 k hk).2.2⟩
/-- the list grows -/
theorem RepC_low {S S' : aS} {c c' : Nat → Int32} (h : RepC S c) (hl : LnS S) (fr : ∀ j, j ≠ 7 → j < 778 → c' j = c j) (h7 : c' 7 = nI (sE S').length)
    (hS : sB S' = sB S ∧ sSt S' = sSt S ∧ sD S' = sD S ∧ sBo S' = sBo S ∧ sKt S' = sKt S ∧ sCt S' = sCt S ∧ sSp S' = sSp S ∧ sLn S' = sLn S ∧ sLo S' = sLo S ∧ sGi S' = sGi S) (h3 : ∀ i, i < (sE S').length → CE c' i (gE (sE S') i)) : RepC S' c' := by
  obtain ⟨g0, g1, g2, g3, g4, g5, g6, g7⟩ := h.1
  obtain ⟨s1, s2, s3, s4, s5, s6, s7, s8, s9, s10⟩ := hS
  refine RepC_mk ⟨by rw [fr _ (by omega) (by omega), s2]; exact g0, by rw [fr _ (by omega) (by omega), s3]; exact g1, by rw [fr _ (by omega) (by omega), s4]; exact g2, by rw [fr _ (by omega) (by omega), s5]; exact g3, by rw [fr _ (by omega) (by omega), s6]; exact g4, by rw [fr _ (by omega) (by omega), s7]; exact g5, by rw [fr _ (by omega) (by omega), s7]; exact g6, h7⟩ (fun f hf => ?_) h3
  obtain ⟨⟨a0, a1, a2, a3⟩, a4⟩ := h.2.1 f hf
  have hfd := fc_def f
  have h66 := (hl.1 f hf).1
  refine ⟨⟨by rw [fr _ (by omega) (by omega), s8]; exact a0, by rw [fr _ (by omega) (by omega), s1]; exact a1, by rw [fr _ (by omega) (by omega), s9]; exact a2, by rw [fr _ (by omega) (by omega), s10]; exact a3⟩, fun n hn => ?_⟩
  have e : nm S' f n = nm S f n := by unfold nm; rw [s1]
  rw [s1] at hn
  rw [e]
  have := nc_def f n
  exact CN_move (a4 n hn) ((hl.1 f hf).2 n hn).2 (fun j hj => fr _ (by omega) (by omega))
def fiL (m : aN) : List Nat := m.map (fun x => x.2.2)
theorem fiL_len (m : aN) : (fiL m).length = m.length := by unfold fiL; simp
theorem fiL_getD (m : aN) {k : Nat} (h : k < m.length) : (fiL m).getD k 0 = (gK m k).2.2 := by
  unfold fiL gK
  simp only [List.getD_eq_getElem?_getD, List.getElem?_map]
  rw [List.getElem?_eq_getElem h]; rfl
def setE (E' : List aE) : aS → aS
  | (Bs, _, r) => (Bs, E', r)
def dropE (E : List aE) : List aE := if E.length < 12 then E else E.drop 1
def aEnt (f n : Nat) (S : aS) : aS := setE (dropE (sE S) ++ [(fiL (nm S f n), f, nI (sSt S))]) S
theorem setE_s (E' : List aE) (S : aS) : sB (setE E' S) = sB S ∧ sSt (setE E' S) = sSt S ∧ sD (setE E' S) = sD S ∧ sBo (setE E' S) = sBo S ∧ sKt (setE E' S) = sKt S ∧ sCt (setE E' S) = sCt S ∧ sSp (setE E' S) = sSp S ∧ sLn (setE E' S) = sLn S ∧ sLo (setE E' S) = sLo S ∧ sGi (setE E' S) = sGi S := by
  obtain ⟨Bs, E, r⟩ := S; exact ⟨rfl, rfl, rfl, rfl, rfl, rfl, rfl, rfl, rfl, rfl⟩
theorem setE_E (E' : List aE) (S : aS) : sE (setE E' S) = E' := by obtain ⟨Bs, E, r⟩ := S; rfl
theorem gE_app1 {E : List aE} {e : aE} {i : Nat} (h : i < E.length) : gE (E ++ [e]) i = gE E i := getD_app1 h
theorem gE_app2 {E : List aE} {e : aE} : gE (E ++ [e]) E.length = e := getD_app2
theorem bindE {α β : Type} {x : Option α} {f : α → Option β} {a : α} {r : Option β} (h : x = some a) (h2 : f a = r) : x.bind f = r := by subst h; exact h2
theorem entL {B f n N : Nat} {c c8 : Nat → Int32} {m : aN} (hv : VC B c f n m) (hN : N < 12) (h8 : ∀ j, j < 778 → c8 j = c j) :
    ∃ r : Int32 × (Nat → Int32), s_X6_enter_L88 (nI f) (nI n) (nI (ec N)) (nI m.length) gF (nI 0) c8 = some r ∧ (∀ k, k < m.length → r.2 (ec N + (3 + k)) = nI (gK m k).2.2) ∧ ∀ j, (j < ec N + 3 ∨ ec N + 11 ≤ j) → r.2 j = c8 j := by
  have hf := hv.1
  have hn6 := hv.2.1
  have hl8 := hv.2.2.2.2.2.1
  have hCN := hv.2.2.2.1
  have hec : ec N + 11 ≤ 910 := by have := ec_def N; omega
  have hec0 : 778 ≤ ec N := by have := ec_def N; omega
  have hkall : ∀ k, k < m.length → kc f n k + 2 < 778 := fun k hk => by have := kc_def f n k; have := nc_def f n; have := fc_def f; omega
  generalize ec N = p at *
  have key := lp (fun a (y : Int32 × (Nat → Int32)) => s_X6_enter_L88 (nI f) (nI n) (nI p) (nI m.length) a y.1 y.2) m.length
    (fun i y => y.1 = nI i ∧ (∀ k, k < i → y.2 (p + (3 + k)) = nI (gK m k).2.2) ∧ ∀ j, (j < p + 3 ∨ p + 11 ≤ j) → y.2 j = c8 j)
    (fun r => (∀ k, k < m.length → r.2 (p + (3 + k)) = nI (gK m k).2.2) ∧ ∀ j, (j < p + 3 ∨ p + 11 ≤ j) → r.2 j = c8 j)
    (fun i hi a y hy => by
      obtain ⟨x, c1⟩ := y
      obtain ⟨y1, y2, y3⟩ := hy
      have y1 : x = nI i := y1
      subst y1
      have y3 : ∀ j, (j < p + 3 ∨ p + 11 ≤ j) → c1 j = c8 j := y3
      have hk := hkall i hi
      have hr : c1 (kc f n i + 2) = nI (gK m i).2.2 := by
        rw [y3 _ (by omega), h8 _ hk]
        exact (hCN.2 i hi).2.2
      refine Or.inl ⟨(nI (i + 1), upd c1 (p + 3 + i) (nI (gK m i).2.2)), ?_, rfl, fun k hk => ?_, fun j hj => ?_⟩
      · simp (disch := omega) only [s_X6_enter_L88, ↓reduceIte, nI_lit, mO_lit, mO_lt, mO_le, mO_gt, mO_ge, mO_ne, mO_ne', nI_add, nI_mul, nI_addlit0, bsome, c_le_f, c_le_t, c_lt_f, c_lt_t, c_eq_f, c_eq_t, if_true, if_false, fld_n, fst_n, kcell, at_ok, hr, put_ok]
      · show upd c1 (p + 3 + i) _ (p + (3 + k)) = _
        by_cases q : k = i
        · subst q; rw [show p + (3 + k) = p + 3 + k from by omega, upd_s]
        · rw [upd_o (by omega)]; exact y2 k (by omega)
      · show upd c1 (p + 3 + i) _ j = _
        rw [upd_o (by omega)]; exact y3 j hj)
    (fun a y hy => by
      obtain ⟨x, c1⟩ := y
      obtain ⟨y1, y2, y3⟩ := hy
      have y1 : x = nI _ := y1
      subst y1
      exact ⟨(nI m.length, c1), by simp (disch := omega) only [s_X6_enter_L88, ↓reduceIte, nI_lit, mO_lit, mO_lt, mO_le, mO_gt, mO_ge, mO_ne, mO_ne', nI_add, nI_mul, nI_addlit0, bsome, c_le_f, c_le_t, c_lt_f, c_lt_t, c_eq_f, c_eq_t, if_true, if_false, fld_n, fst_n], y2, y3⟩)
    m.length 0 gF (nI 0, c8) (by omega) (by unfold gF; omega) ⟨rfl, fun k hk => by omega, fun j _ => rfl⟩
  exact key
theorem entT {B f n : Nat} {S : aS} {c : Nat → Int32} (h : RepC S c) (hl : LnS S) (hv : VC B c f n (nm S f n)) (hn : n < (sB S f).length) (hE : (sE S).length < 12) :
    ∃ c', ((s_X7_at 7 c).bind fun v2 => (s_X7_entryCell v2 0).bind fun v3 => (s_X7_knots (nI f) (nI n) c).bind fun v4 => (s_X7_put (v3 + 0) v4 c).bind fun v5 => (s_X7_put (v3 + 1) (nI f) v5).bind fun v6 => (s_X7_at 0 v6).bind fun v7 => (s_X7_put (v3 + 2) v7 v6).bind fun v8 => (s_X6_enter_L88 (nI f) (nI n) v3 v4 gF 0 v8).bind fun r12 => (s_X7_add 7 1 r12.2).bind fun v13 => some v13) = some c' ∧
      RepC (setE (sE S ++ [(fiL (nm S f n), f, nI (sSt S))]) S) c' := by
  have g0 : c 0 = nI (sSt S) := h.1.1
  have g7 : c 7 = nI (sE S).length := h.1.2.2.2.2.2.2.2
  have hkn := kts hv
  have hec : ec (sE S).length + 11 ≤ 910 := by have := ec_def (sE S).length; omega
  have hec0 : 778 ≤ ec (sE S).length := by have := ec_def (sE S).length; omega
  obtain ⟨⟨r1, c1⟩, k1, k2, k3⟩ := entL (c8 := upd (upd (upd c (ec (sE S).length) (nI (nm S f n).length)) (ec (sE S).length + 1) (nI f)) (ec (sE S).length + 2) (nI (sSt S))) hv hE (fun j hj => by rw [upd_o (by omega), upd_o (by omega), upd_o (by omega)])
  have hlow : ∀ i, i < (sE S).length → ec i + 11 ≤ ec (sE S).length := fun i hi => by have := ec_def i; have := ec_def (sE S).length; omega
  have hEC := h.2.2
  have hEL := hl.2.2
  have e2 : gE (sE S ++ [(fiL (nm S f n), f, nI (sSt S))]) (sE S).length = (fiL (nm S f n), f, nI (sSt S)) := gE_app2
  generalize hm : nm S f n = m at *
  generalize hp : ec (sE S).length = p at *
  have k3 : ∀ j, (j < p + 3 ∨ p + 11 ≤ j) → c1 j = _ := k3
  have e7 : c1 7 = nI (sE S).length := by rw [k3 _ (by omega), upd_o (by omega), upd_o (by omega), upd_o (by omega), g7]
  have e0 : upd (upd c p (nI m.length)) (p + 1) (nI f) 0 = nI (sSt S) := by rw [upd_o (by omega), upd_o (by omega), g0]
  refine ⟨upd c1 7 (nI ((sE S).length + 1)), ?_, ?_⟩
  · have z1 : s_X7_at 7 c = some (nI (sE S).length) := by rw [show (7 : Int32) = nI 7 from rfl, at_ok (by omega), g7]
    have z2 : s_X7_entryCell (nI (sE S).length) 0 = some (nI p) := by rw [show (0 : Int32) = nI 0 from rfl, ecell, Nat.add_zero, hp]
    have z3 : s_X7_put (nI p + 0) (nI m.length) c = some (upd c p (nI m.length)) := by rw [Int32.add_zero, put_ok (by omega)]
    have z4 : s_X7_put (nI p + 1) (nI f) (upd c p (nI m.length)) = some (upd (upd c p (nI m.length)) (p + 1) (nI f)) := by rw [show (1 : Int32) = nI 1 from rfl, nI_add, put_ok (by omega)]
    have z5 : s_X7_at 0 (upd (upd c p (nI m.length)) (p + 1) (nI f)) = some (nI (sSt S)) := by rw [show (0 : Int32) = nI 0 from rfl, at_ok (by omega), e0]
    have z6 : s_X7_put (nI p + 2) (nI (sSt S)) (upd (upd c p (nI m.length)) (p + 1) (nI f)) = some (upd (upd (upd c p (nI m.length)) (p + 1) (nI f)) (p + 2) (nI (sSt S))) := by rw [show (2 : Int32) = nI 2 from rfl, nI_add, put_ok (by omega)]
    have z7 : s_X7_add 7 1 c1 = some (upd c1 7 (nI ((sE S).length + 1))) := by rw [show (7 : Int32) = nI 7 from rfl, show (1 : Int32) = nI 1 from rfl, add_ok (by omega), e7, nI_add]
    have z8 : s_X6_enter_L88 (nI f) (nI n) (nI p) (nI m.length) gF 0 (upd (upd (upd c p (nI m.length)) (p + 1) (nI f)) (p + 2) (nI (sSt S))) = some (r1, c1) := by rw [show (0 : Int32) = nI 0 from rfl]; exact k1
    exact bindE z1 (bindE z2 (bindE hkn (bindE z3 (bindE z4 (bindE z5 (bindE z6 (bindE z8 (bindE z7 rfl))))))))
  · have fr : ∀ j, j ≠ 7 → (j < p ∨ p + 11 ≤ j) → upd c1 7 (nI ((sE S).length + 1)) j = c j := fun j h1 h2 => by
      rw [upd_o h1, k3 _ (by omega), upd_o (by omega), upd_o (by omega), upd_o (by omega)]
    have v0 : upd c1 7 (nI ((sE S).length + 1)) p = nI m.length := by rw [upd_o (by omega), k3 _ (by omega), upd_o (by omega), upd_o (by omega), upd_s]
    have v1 : upd c1 7 (nI ((sE S).length + 1)) (p + 1) = nI f := by rw [upd_o (by omega), k3 _ (by omega), upd_o (by omega), upd_s]
    have v2 : upd c1 7 (nI ((sE S).length + 1)) (p + 2) = nI (sSt S) := by rw [upd_o (by omega), k3 _ (by omega), upd_s]
    have v3 : ∀ k, k < m.length → upd c1 7 (nI ((sE S).length + 1)) (p + (3 + k)) = nI (gK m k).2.2 := fun k hk => by rw [upd_o (by omega)]; exact k2 k hk
    have v7 : upd c1 7 (nI ((sE S).length + 1)) 7 = nI ((sE S).length + 1) := upd_s
    generalize upd c1 7 (nI ((sE S).length + 1)) = c' at *
    refine RepC_low h hl (fun j h1 h2 => fr j h1 (by omega)) (by rw [setE_E, v7, List.length_append]; rfl) (setE_s _ _) (fun i hi => ?_)
    rw [setE_E] at hi ⊢
    rw [List.length_append] at hi
    have hi : i < (sE S).length + 1 := hi
    by_cases q : i = (sE S).length
    · rw [q, e2]
      refine ⟨?_, ?_, ?_, fun k hk => ?_⟩
      · rw [hp, v0]; show _ = nI (fiL m).length; rw [fiL_len]
      · rw [hp, v1]
      · rw [hp, v2]
      · have hk : k < (fiL m).length := hk
        rw [fiL_len] at hk
        rw [hp, v3 k hk, fiL_getD m hk]
    · have hi' : i < (sE S).length := by omega
      rw [gE_app1 hi']
      have h1 := hlow i hi'
      have h0 := ec_def i
      exact CE_move (hEC i hi') (hEL i hi') (fun j hj => fr _ (by omega) (by omega))
theorem drop1_gE (E : List aE) (i : Nat) : gE (E.drop 1) i = gE E (i + 1) := by
  unfold gE
  simp only [List.getD_eq_getElem?_getD, List.getElem?_drop]
  rw [Nat.add_comm]
theorem entC {B f n : Nat} {S : aS} {c : Nat → Int32} (h : RepC S c) (hl : LnS S) (hv : VC B c f n (nm S f n)) (hn : n < (sB S f).length) :
    ∃ c', s_X6_enter (nI f) (nI n) c = some c' ∧ RepC (aEnt f n S) c' := by
  have g7 : c 7 = nI (sE S).length := h.1.2.2.2.2.2.2.2
  have hE := hl.2.1
  have a7 : s_X7_at 7 c = some (nI (sE S).length) := by rw [show (7 : Int32) = nI 7 from rfl, at_ok (by omega), g7]
  unfold s_X6_enter aEnt dropE
  rw [a7, bsome]
  by_cases q : (sE S).length < 12
  · have : nI (sE S).length < 12 := nI_lt (b := 12) q (by omega)
    rw [if_pos this, if_pos q, ← a7]
    exact entT h hl hv hn q
  · have : ¬ nI (sE S).length < 12 := nI_nlt (b := 12) (by omega) (by omega)
    rw [if_neg this, if_neg q]
    have hN : (sE S).length = 12 := by omega
    obtain ⟨c1, k1, k2, k3⟩ := closeUp_ok (c := c) (a := 778) (e := 910) (t := 11) (by omega) (by omega) (by omega)
    have e1 : s_X7_entryCell 12 0 = some (nI 910) := rfl
    have e2 : s_X7_entryCell 0 0 = some (nI 778) := rfl
    have e3 : s_X7_add 7 (-1) c1 = some (upd c1 7 (nI 11)) := by
      rw [show (7 : Int32) = nI 7 from rfl, add_ok (by omega), k3 _ (by omega), g7, hN]
      rfl
    rw [e1, bsome, e2, bsome, show (11 : Int32) = nI 11 from rfl, k1, bsome, e3, bsome]
    have hR : RepC (setE ((sE S).drop 1) S) (upd c1 7 (nI 11)) := by
      refine RepC_low h hl (fun j h1 h2 => by rw [upd_o h1, k3 _ (by omega)]) (by rw [setE_E, upd_s]; simp [hN]) (setE_s _ _) (fun i hi => ?_)
      rw [setE_E] at hi ⊢
      simp only [List.length_drop] at hi
      rw [drop1_gE]
      have h1 := ec_def i
      have h2 := ec_def (i + 1)
      exact CE_move (h.2.2 (i + 1) (by omega)) (hl.2.2 (i + 1) (by omega)) (fun j hj => by
        rw [upd_o (by omega), k2 _ (by omega) (by omega)]; exact congrArg c (by omega))
    obtain ⟨s1, s2, s3, s4, s5, s6, s7, s8, s9, s10⟩ := setE_s ((sE S).drop 1) S
    have hnm : ∀ g i, nm (setE ((sE S).drop 1) S) g i = nm S g i := fun g i => by unfold nm; rw [s1]
    have hl' : LnS (setE ((sE S).drop 1) S) := by
      refine ⟨fun g hg => ⟨by rw [s1]; exact (hl.1 g hg).1, fun i hi => ?_⟩, ?_, fun i hi => ?_⟩
      · rw [s1] at hi; rw [hnm]; exact (hl.1 g hg).2 i hi
      · rw [setE_E]; simp; omega
      · rw [setE_E] at hi ⊢
        simp only [List.length_drop] at hi
        rw [drop1_gE]; exact hl.2.2 (i + 1) (by omega)
    have hCN' : CN (upd c1 7 (nI 11)) f n (nm S f n) := by have := (hR.2.1 f hv.1).2 n (by rw [s1]; exact hn); rw [hnm] at this; exact this
    have := entT (B := B) hR hl' (f := f) (n := n) (by rw [hnm]; exact VC_mono hv hCN') (by rw [s1]; exact hn) (by rw [setE_E]; simp; omega)
    rw [hnm, setE_E, s2] at this
    obtain ⟨c', h1, h2⟩ := this
    refine ⟨c', h1, ?_⟩
    have e : setE ((sE S).drop 1 ++ [(fiL (nm S f n), f, nI (sSt S))]) (setE ((sE S).drop 1) S) = setE ((sE S).drop 1 ++ [(fiL (nm S f n), f, nI (sSt S))]) S := by
      obtain ⟨Bs, E, r⟩ := S; rfl
    rw [← e]; exact h2
