/-! the class: a storm comes over -/
def lsQ (st d i : Nat) (l : List aN) : List aN := l.mapIdx (fun n m => if n < i then lsN st d m else m)
theorem lsQ_len (st d i : Nat) (l : List aN) : (lsQ st d i l).length = l.length := by unfold lsQ; simp
theorem lsQ_getD (st d i : Nat) (l : List aN) {n : Nat} (h : n < l.length) : (lsQ st d i l).getD n [] = if n < i then lsN st d (l.getD n []) else l.getD n [] := by
  unfold lsQ
  simp only [List.getD_eq_getElem?_getD, List.getElem?_mapIdx]
  rw [List.getElem?_eq_getElem h]; rfl
theorem lsQ_0 (st d : Nat) (l : List aN) : lsQ st d 0 l = l := by
  apply List.ext_getElem?
  intro n
  unfold lsQ
  rw [List.getElem?_mapIdx]
  cases l[n]? <;> simp
theorem lsQ_set (st d i : Nat) (l : List aN) (h : i < l.length) : (lsQ st d i l).set i (lsN st d (l.getD i [])) = lsQ st d (i + 1) l := by
  apply List.ext_getElem?
  intro n
  rw [List.getElem?_set]
  unfold lsQ
  rw [List.getElem?_mapIdx, List.getElem?_mapIdx, List.length_mapIdx]
  by_cases e : i = n
  · subst e
    rw [if_pos rfl, if_pos h, List.getElem?_eq_getElem h]
    simp [List.getD_eq_getElem?_getD, List.getElem?_eq_getElem h]
  · rw [if_neg e]
    cases hn : l[n]? with
    | none => rfl
    | some m =>
      simp only [Option.map_some, Option.some.injEq]
      by_cases q : n < i
      · rw [if_pos q, if_pos (by omega)]
      · rw [if_neg q, if_neg (by omega)]
theorem OKN_ls {B st d : Nat} {m : aN} (h : OKN B m) (hd : 1 ≤ d) : OKN (B + 1) (lsN st d m) := by
  unfold lsN
  refine ⟨by rw [ixM_len]; exact h.1, by rw [ixM_len]; exact h.2.1, fun k hk => ?_⟩
  rw [ixM_len] at hk
  rw [ixM_gK _ _ hk]
  obtain ⟨o1, o2, o3, o4⟩ := h.2.2 k hk
  refine ⟨o1, ?_, o3, fun hp => ?_⟩
  · have := lbN_le (st := st) (k := k) (s := 1) (x := gK m k) hd
    show lbN st d k (gK m k) 1 ≤ B + 1
    omega
  · show vow (gK m k).1 = true
    cases hv : vow (gK m k).1 with
    | true => rfl
    | false =>
      have hp : 0 < lbN st d k (gK m k) 1 := hp
      unfold lbN at hp
      rw [hv, if_neg (by simp)] at hp
      exact absurd (o4 hp) (by simp [hv])
theorem aBel_nm {f g n : Nat} {l : List aN} {S : aS} : nm (aBel f l S) g n = if g = f then l.getD n [] else nm S g n := by
  obtain ⟨Bs, r⟩ := S
  show (updF Bs f l g).getD n [] = _
  by_cases e : g = f
  · subst e; rw [updF_s, if_pos rfl]
  · rw [updF_o e, if_neg e]; rfl
theorem aBel_B {f : Nat} {l : List aN} {S : aS} : sB (aBel f l S) f = l := by
  obtain ⟨Bs, r⟩ := S
  show updF Bs f l f = l
  rw [updF_s]
theorem aBel_nam {f n : Nat} {l : List aN} {m : aN} {S : aS} : aNam f n m (sCt S) (aBel f l S) = aBel f (l.set n m) S := by
  obtain ⟨Bs, E, st, d, b, kt, ct, r⟩ := S
  show (updF (updF Bs f l) f ((updF Bs f l f).set n m), E, st, d, b, kt, ct, r) = (updF Bs f (l.set n m), E, st, d, b, kt, ct, r)
  rw [updF_updF, updF_s]
theorem aBel_e {f : Nat} {l : List aN} {S : aS} : sSt (aBel f l S) = sSt S ∧ sD (aBel f l S) = sD S ∧ sBo (aBel f l S) = sBo S ∧ sCt (aBel f l S) = sCt S := by obtain ⟨Bs, r⟩ := S; exact ⟨rfl, rfl, rfl, rfl⟩
theorem aBel_self {f : Nat} {S : aS} : aBel f (sB S f) S = S := by
  obtain ⟨Bs, r⟩ := S
  show (updF Bs f (Bs f), r) = (Bs, r)
  rw [updF_self]
def aSt (n : Nat) : aS → aS
  | (Bs, E, _, r) => (Bs, E, n, r)
def aStorm (f : Nat) (S : aS) : Nat × aS := seaC f (sB S f).length 0 0 (aSt (sSt S + 1) (aBel f (lsQ (sSt S) (sD S) (sB S f).length (sB S f)) S))
theorem stoC {B f : Nat} {S : aS} {c : Nat → Int32} (h : IC B S c) (hf : f < 5) (hB : B + 1 < 1000000) :
    ∃ c', s_X6_comeOver (nI f) c = some (nI (aStorm f S).1, c') ∧ IC (B + 1) (aStorm f S).2 c' := by
  have h6 := h.six hf
  generalize hl : sB S f = l at *
  have hd := h.2.1.2.2.1
  have oki : ∀ i, i ≤ l.length → OKS (B + 1) (aBel f (lsQ (sSt S) (sD S) i l) S) := fun i hi => by
    refine OKS_bel (OKS_mono h.2 (by omega) hB) (by rw [lsQ_len]; exact h6) (fun n hn => ?_)
    rw [lsQ_len] at hn
    rw [lsQ_getD _ _ _ _ hn]
    have hm : OKN B (l.getD n []) := by have := (h.2.2.1 f hf).2.2.2 n (by rw [hl]; exact hn); unfold nm at this; rw [hl] at this; exact this
    by_cases q : n < i
    · rw [if_pos q]; exact OKN_ls hm hd
    · rw [if_neg q]; exact OKN_mono hm (by omega)
  have key := lp (fun a (y : Int32 × (Nat → Int32)) => s_X6_comeOver_L8 (nI f) (nI l.length) a y.1 y.2) l.length
    (fun i y => y.1 = nI i ∧ RepC (aBel f (lsQ (sSt S) (sD S) i l) S) y.2)
    (fun r => RepC (aBel f (lsQ (sSt S) (sD S) l.length l) S) r.2)
    (fun i hi a y hy => by
      obtain ⟨x, c1⟩ := y
      obtain ⟨y1, y2⟩ := hy
      have y1 : x = nI i := y1
      subst y1
      have o := oki i (by omega)
      have i1 : IC (B + 1) (aBel f (lsQ (sSt S) (sD S) i l) S) c1 := ⟨y2, o⟩
      have hn : i < (sB (aBel f (lsQ (sSt S) (sD S) i l) S) f).length := by rw [aBel_B, lsQ_len]; exact hi
      obtain ⟨c2, h1, h2⟩ := lsnC y2 o.lns (i1.nam hf hn) i1.env hn
      refine Or.inl ⟨(nI (i + 1), c2), ?_, rfl, ?_⟩
      · simp (disch := omega) only [s_X6_comeOver_L8, ↓reduceIte, nI_lit, mO_lit, mO_lt, mO_le, mO_gt, mO_ge, mO_ne, mO_ne', nI_add, nI_mul, nI_addlit0, bsome, c_le_f, c_le_t, c_lt_f, c_lt_t, c_eq_f, c_eq_t, if_true, if_false, fld_n, fst_n, h1]
      · obtain ⟨e1, e2, e3, e4⟩ := aBel_e (f := f) (l := lsQ (sSt S) (sD S) i l) (S := S)
        rw [e1, e2, e4, aBel_nam, aBel_nm, if_pos rfl, lsQ_getD _ _ _ _ hi, if_neg (Nat.lt_irrefl i), lsQ_set _ _ _ _ hi] at h2
        exact h2)
    (fun a y hy => by
      obtain ⟨x, c1⟩ := y
      obtain ⟨y1, y2⟩ := hy
      have y1 : x = nI _ := y1
      subst y1
      exact ⟨(nI l.length, c1), by simp (disch := omega) only [s_X6_comeOver_L8, ↓reduceIte, nI_lit, mO_lit, mO_lt, mO_le, mO_gt, mO_ge, mO_ne, mO_ne', nI_add, nI_mul, nI_addlit0, bsome, c_le_f, c_le_t, c_lt_f, c_lt_t, c_eq_f, c_eq_t, if_true, if_false, fld_n, fst_n], y2⟩)
    l.length 0 gF (nI 0, c) (by omega) (by unfold gF; omega) ⟨rfl, by rw [lsQ_0, ← hl, aBel_self]; exact h.1⟩
  obtain ⟨⟨r1, c1⟩, k1, k2⟩ := key
  have k1 : s_X6_comeOver_L8 (nI f) (nI l.length) gF (nI 0) c = some (r1, c1) := k1
  have k2 : RepC (aBel f (lsQ (sSt S) (sD S) l.length l) S) c1 := k2
  have o := oki l.length (Nat.le_refl _)
  have g0 : c1 0 = nI (sSt S) := by have := k2.1.1; rw [aBel_e.1] at this; exact this
  have hR : RepC (aSt (sSt S + 1) (aBel f (lsQ (sSt S) (sD S) l.length l) S)) (upd c1 0 (nI (sSt S + 1))) := by
    obtain ⟨g0, g1, g2, g3, g4, g5, g6, g7⟩ := k2.1
    refine RepC_head k2 o.lns ⟨upd_s, ?_, ?_, ?_, ?_, ?_, ?_, ?_⟩ (fun j hj => upd_o (by omega)) (by obtain ⟨Bs, E, st, r⟩ := S; exact ⟨rfl, rfl, rfl, rfl, rfl⟩)
    · rw [upd_o (by omega), g1]; obtain ⟨Bs, E, st, r⟩ := S; rfl
    · rw [upd_o (by omega), g2]; obtain ⟨Bs, E, st, r⟩ := S; rfl
    · rw [upd_o (by omega), g3]; obtain ⟨Bs, E, st, r⟩ := S; rfl
    · rw [upd_o (by omega), g4]; obtain ⟨Bs, E, st, r⟩ := S; rfl
    · rw [upd_o (by omega), g5]; obtain ⟨Bs, E, st, r⟩ := S; rfl
    · rw [upd_o (by omega), g6]; obtain ⟨Bs, E, st, r⟩ := S; rfl
    · rw [upd_o (by omega), g7]; obtain ⟨Bs, E, st, r⟩ := S; rfl
  have hst : sSt S ≤ B := h.2.1.1
  have oS : OKS (B + 1) (aSt (sSt S + 1) (aBel f (lsQ (sSt S) (sD S) l.length l) S)) := by
    obtain ⟨Bs, E, st, r⟩ := S
    have hst : st ≤ B := hst
    exact ⟨⟨by show st + 1 ≤ B + 1; omega, o.1.2⟩, o.2⟩
  have hB2 : sB (aSt (sSt S + 1) (aBel f (lsQ (sSt S) (sD S) l.length l) S)) f = lsQ (sSt S) (sD S) l.length l := by
    obtain ⟨Bs, E, st, r⟩ := S
    show updF Bs f _ f = _
    rw [updF_s]
  have hb : sBo (aSt (sSt S + 1) (aBel f (lsQ (sSt S) (sD S) l.length l) S)) = sBo S := by obtain ⟨Bs, E, st, d, b, r⟩ := S; rfl
  obtain ⟨c', h1, h2⟩ := seaL (B := B + 1) (N := l.length) hf h6 l.length 0 0 gF _ _ ⟨hR, oS⟩ (by rw [hB2, lsQ_len]; omega) (by omega) (by unfold gF; omega)
  have hnm : s_X7_names (nI f) c = some (nI l.length) := by rw [← hl]; exact nms h hf
  have z4 : s_X7_add 0 1 c1 = some (upd c1 0 (nI (sSt S + 1))) := by rw [show (0 : Int32) = nI 0 from rfl, add_ok (by omega), g0, show (1 : Int32) = nI 1 from rfl, nI_add]
  have z5 : s_X7_at 2 (upd c1 0 (nI (sSt S + 1))) = some (nI (sBo S)) := by
    rw [show (2 : Int32) = nI 2 from rfl, at_ok (by omega), hR.1.2.2.1, hb]
  have z1 : s_X6_comeOver_L8 (nI f) (nI l.length) gF 0 c = some (r1, c1) := by rw [show (0 : Int32) = nI 0 from rfl]; exact k1
  rw [hb] at h1
  have z6 : ∀ r, s_X6_comeOver_L43 (nI f) (nI l.length) (nI (sBo S)) gF (nI 0) (nI (0 + 0)) (upd c1 0 (nI (sSt S + 1))) = some r → s_X6_comeOver_L43 (nI f) (nI l.length) (nI (sBo S)) gF 0 0 (upd c1 0 (nI (sSt S + 1))) = some r := fun r h => by rw [show (0 : Int32) = nI 0 from rfl]; exact h
  unfold aStorm
  rw [hl]
  exact ⟨c', bindE hnm (bindE z1 (bindE z4 (bindE z5 (bindE (z6 _ h1) rfl)))), h2⟩
