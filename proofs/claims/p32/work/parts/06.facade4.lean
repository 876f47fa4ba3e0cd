/-! THE FACADE, 4: calls by contract, with the frame: the callee's places are places 'pl' of the caller -/
def fpl (pl : List Nat) (j : Nat) : Nat := match pl[j]? with
  | some q => q
  | none => j
def fre (g : Nat → Nat) : fE → fE
  | .inl (ci, fs) => .inl (ci, fs.map (ftr g))
  | .inr x => .inr x
theorem ftr_ftr (ad g : Nat → Nat) (v : Value) : ftr ad (ftr g v) = ftr (fun j => ad (g j)) v := by cases v <;> rfl
theorem ftr_map (ad g : Nat → Nat) (l : List Value) : (l.map (ftr g)).map (ftr ad) = l.map (ftr (fun j => ad (g j))) := by
  rw [List.map_map]
  exact List.map_congr_left fun v _ => ftr_ftr ad g v
theorem fcv_fre (D : fD) (ad g : Nat → Nat) (e : fE) : fcv D ad (fre g e) = fcv D (fun j => ad (g j)) e := by
  rcases e with ⟨ci, fs⟩ | ⟨n, f | f⟩
  · show Sum.inr (ci, (fs.map (ftr g)).map (ftr ad)) = Sum.inr (ci, fs.map _)
    rw [ftr_map]
  · rfl
  · rfl
/-- what lies behind a call: the callee's cells at their places -/
def fput (g : Nat → Nat) : List Nat → List fE → List fE → List fE
  | q :: pl, e :: es, σ => fput g pl es (σ.set q (fre g e))
  | _, _, σ => σ
theorem fput_len (g : Nat → Nat) : ∀ (pl : List Nat) (es σ : List fE), (fput g pl es σ).length = σ.length := by
  intro pl
  induction pl with
  | nil => intro es σ; rfl
  | cons q pl ih =>
    intro es σ
    cases es with
    | nil => rfl
    | cons e es => rw [fput, ih, List.length_set]
theorem fput_out (g : Nat → Nat) {i : Nat} : ∀ (pl : List Nat) (es σ : List fE), i ∉ pl → (fput g pl es σ)[i]? = σ[i]? := by
  intro pl
  induction pl with
  | nil => intro es σ _; rfl
  | cons q pl ih =>
    intro es σ h
    cases es with
    | nil => rfl
    | cons e es =>
      rw [fput, ih _ _ (fun z => h (List.mem_cons_of_mem _ z)), List.getElem?_set, if_neg (fun z => h (by rw [z]; exact List.mem_cons_self))]
theorem fput_in (g : Nat → Nat) {i j : Nat} {e : fE} : ∀ (pl : List Nat) (es σ : List fE), pl.Nodup → pl[j]? = some i → es[j]? = some e → i < σ.length → (fput g pl es σ)[i]? = some (fre g e) := by
  intro pl
  induction pl generalizing j with
  | nil => intro es σ _ h; cases h
  | cons q pl ih =>
    intro es σ hn h he hi
    cases es with
    | nil => cases he
    | cons e0 es =>
      rw [List.nodup_cons] at hn
      cases j with
      | zero =>
        have h1 : q = i := by simpa using h
        have h2 : e0 = e := by simpa using he
        subst h1; subst h2
        rw [fput, fput_out _ _ _ _ hn.1, List.getElem?_set, if_pos rfl, if_pos hi]
      | succ j =>
        rw [fput]
        exact ih es _ hn.2 (by simpa using h) (by simpa using he) (by rw [List.length_set]; exact hi)
/-- the refs in cells -/
def frefs : List fE → List Nat
  | [] => []
  | .inl (_, fs) :: σ => fs.filterMap (fun v => match v with | .ref j => some j | _ => none) ++ frefs σ
  | .inr _ :: σ => frefs σ
theorem frefs_mem {σ : List fE} {ci : Nat} {fs : List Value} {j : Nat} (h1 : .inl (ci, fs) ∈ σ) (h2 : Value.ref j ∈ fs) : j ∈ frefs σ := by
  induction σ with
  | nil => cases h1
  | cons e σ ih =>
    rcases List.mem_cons.mp h1 with rfl | h3
    · exact List.mem_append_left _ (List.mem_filterMap.mpr ⟨_, h2, rfl⟩)
    · rcases e with ⟨ci', fs'⟩ | x
      · exact List.mem_append_right _ (ih h3)
      · exact ih h3
theorem fcv_same {D : fD} {a1 a2 : Nat → Nat} {σ : List fE} {e : fE} (he : e ∈ σ) (h : ∀ j ∈ frefs σ, a1 j = a2 j) : fcv D a1 e = fcv D a2 e := by
  rcases e with ⟨ci, fs⟩ | ⟨n, f | f⟩
  · show Sum.inr (ci, fs.map _) = Sum.inr (ci, fs.map _)
    congr 2
    refine List.map_congr_left fun v hv => ?_
    cases v <;> first | rfl | (show Value.ref _ = Value.ref _; rw [h _ (frefs_mem he hv)])
  · rfl
  · rfl
/-- the callee's cells are those places of the caller -/
def fcut (σ : List fE) (pl : List Nat) (σc : List fE) : Prop := pl.map (fun q => σ[q]?) = σc.map (fun e => some (fre (fpl pl) e))
theorem fcut_at {σ : List fE} {pl : List Nat} {σc : List fE} (h : fcut σ pl σc) {j : Nat} {e : fE} (he : σc[j]? = some e) : ∃ q, pl[j]? = some q ∧ σ[q]? = some (fre (fpl pl) e) := by
  have h1 : (pl.map (fun q => σ[q]?))[j]? = (σc.map (fun e => some (fre (fpl pl) e)))[j]? := by rw [h]
  rw [List.getElem?_map, List.getElem?_map, he] at h1
  cases hq : pl[j]? with
  | none => rw [hq] at h1; cases h1
  | some q =>
    rw [hq] at h1
    exact ⟨q, rfl, Option.some.inj h1⟩
theorem fcut_len {σ : List fE} {pl : List Nat} {σc : List fE} (h : fcut σ pl σc) : pl.length = σc.length := by
  have := congrArg List.length h
  simpa using this
theorem nodup_at {pl : List Nat} (hn : pl.Nodup) {i j q : Nat} (h1 : pl[i]? = some q) (h2 : pl[j]? = some q) : i = j := by
  have hi := (List.getElem?_eq_some_iff.mp h1).1
  have hj := (List.getElem?_eq_some_iff.mp h2).1
  rcases Nat.lt_trichotomy i j with h | h | h
  · exact absurd ((List.getElem?_eq_some_iff.mp h1).2.trans (List.getElem?_eq_some_iff.mp h2).2.symm) (List.pairwise_iff_getElem.mp hn i j hi hj h)
  · exact h
  · exact absurd ((List.getElem?_eq_some_iff.mp h2).2.trans (List.getElem?_eq_some_iff.mp h1).2.symm) (List.pairwise_iff_getElem.mp hn j i hj hi h)
section CALLS
variable {l : Launch} {R : Room} {k : fK} {D : fD} {ad0 ad : Nat → Nat} {A : Nat → Prop} {p : Program} {s : State} {m : MethodId} {args : Array Value} {meth : Method} {c : Code} {H : Heap} {locs : List Loc} {n0 : Nat} {σ σc σc' σ' : List fE} {pl : List Nat}
/-- the callee's start -/
theorem f_pre {As : List Value} (hC : fCx k R D ad0 A p l s m args meth c) (ha : ∀ i, i < n0 ∨ 1000 ≤ i → ad i = ad0 i) (hP : va_P D.2 vwCl (fw D ad σ) H) (hD : va_D A (fw D ad σ)) (hS : va_S A s.heap H locs)
    (hcut : fcut σ pl σc) (hnd : pl.Nodup) (hpl : pl.length ≤ 1000) :
    (∀ q, va_A (fw D (fun j => ad (fpl pl j)) σc) H.size q → A q) ∧
    ∀ U : State, U.heap = H → s.WarmedH U.vm → fPc As σc D (fun j => ad (fpl pl j)) (va_A (fw D (fun j => ad (fpl pl j)) σc) H.size) ((As.map (ftr (fpl pl))).map (ftr ad)).toArray U := by
  have hat : ∀ (j : Nat) (q : Nat × va_E), (fw D (fun j => ad (fpl pl j)) σc)[j]? = some q → ∃ i, pl[j]? = some i ∧ (fw D ad σ)[i]? = some q := by
    intro j q hq
    obtain ⟨e, he, rfl⟩ := fw_of hq
    obtain ⟨i, hi, hs⟩ := fcut_at hcut he
    refine ⟨i, hi, ?_⟩
    rw [fw_some hs, fcv_fre]
    congr 2
    show ad i = ad (fpl pl j)
    unfold fpl
    rw [hi]
  have hsub : ∀ q, va_A (fw D (fun j => ad (fpl pl j)) σc) H.size q → A q := by
    rintro q (⟨j, e, hj⟩ | hq)
    · obtain ⟨i, -, hi⟩ := hat j _ hj
      exact hD.2 i _ hi
    · exact hC.2.2.2.1 q (Nat.le_trans hS.1 hq)
  refine ⟨hsub, fun U hU hW => ⟨by rw [ftr_map], ?_⟩⟩
  rw [hU]
  refine ⟨fun j q hq => ?_, hC.2.2.1.moved hW.alike, ⟨fun i j x y hx hy hxy => ?_, fun j q hq => Or.inl ⟨j, q.2, hq⟩⟩, fun q h => Or.inr h, ?_⟩
  · obtain ⟨i, -, hi⟩ := hat j q hq
    exact hP i q hi
  · obtain ⟨i', h1, h2⟩ := hat i x hx
    obtain ⟨j', h3, h4⟩ := hat j y hy
    have := hD.1 i' j' x y h2 h4 hxy
    subst this
    exact nodup_at hnd h1 h3
  · refine fSt.moved hW (fSt.narrow (fSt.ren (ad := ad0) (hC.2.2.2.2.kept hS.2.1) fun i hi => ?_) hsub)
    show ad (fpl pl i) = ad0 i
    have : pl[i]? = none := List.getElem?_eq_none (by omega)
    unfold fpl
    rw [this]
    exact ha i (Or.inr hi)
/-- the caller's world behind a call that made nothing -/
theorem f_post {ad' : Nat → Nat} {st₀ t : State} (hP : va_P D.2 vwCl (fw D ad σ) H) (hD : va_D A (fw D ad σ)) (hcut : fcut σ pl σc) (hnd : pl.Nodup) (hlen : σc'.length = σc.length)
    (hrf : ∀ j ∈ frefs σc', j < pl.length ∨ 1000 ≤ j) (hE : fEnd σc.length (fun j => ad (fpl pl j)) ad' D (va_A (fw D (fun j => ad (fpl pl j)) σc) H.size) σc' st₀ t) (hst : st₀.heap = H) (hσ' : fput (fpl pl) pl σc' σ = σ') :
    va_P D.2 vwCl (fw D ad σ') t.heap ∧ va_D A (fw D ad σ') := by
  subst hσ'
  have hl := fcut_len hcut
  obtain ⟨hag, -, hP', -, hF⟩ := hE
  rw [← hl] at hag hlen
  have hfit : ∀ i, i < σ.length ↔ i < (fput (fpl pl) pl σc' σ).length := fun i => by rw [fput_len]
  constructor
  · intro i q hq
    obtain ⟨e, he, rfl⟩ := fw_of hq
    by_cases hi : i ∈ pl
    · obtain ⟨j, hj⟩ := List.getElem?_of_mem hi
      have hjl : j < pl.length := (List.getElem?_eq_some_iff.mp hj).1
      have hil : i < σ.length := (hfit i).mpr (List.getElem?_eq_some_iff.mp he).1
      have hs : σc'[j]? = some (σc'[j]'(by omega)) := List.getElem?_eq_getElem _
      rw [fput_in _ _ _ _ hnd hj hs hil] at he
      have he := Option.some.inj he
      subst he
      have h1 := hP' j _ (fw_some hs)
      rw [hag j (Or.inl hjl)] at h1
      have h2 : fcv D ad (fre (fpl pl) (σc'[j]'(by omega))) = fcv D ad' (σc'[j]'(by omega)) := by
        rw [fcv_fre]
        exact fcv_same (List.mem_of_getElem? hs) (fun z hz => (hag z (hrf z hz)).symm)
      rw [h2]
      have h3 : ad (fpl pl j) = ad i := by
        unfold fpl
        rw [hj]
      have h1 : va_at D.2 vwCl (ad (fpl pl j), fcv D ad' (σc'[j]'(by omega))) t.heap := h1
      rw [h3] at h1
      exact h1
    · rw [fput_out _ _ _ _ hi] at he
      have h1 := hP i _ (fw_some he)
      refine h1.kept ?_
      have hlt := h1.lt
      have := hF.2 (ad i) (by rw [hst]; exact hlt) ?_
      · rw [hst] at this; exact this
      · rintro (⟨j, x, hj⟩ | h)
        · obtain ⟨e2, he2, hx⟩ := fw_of hj
          obtain ⟨q2, hq2, hs2⟩ := fcut_at hcut he2
          have ha : ad i = ad q2 := by
            have := congrArg Prod.fst hx
            dsimp only at this
            rw [this]
            unfold fpl
            rw [hq2]
          have hiq := hD.1 i q2 _ _ (fw_some he) (fw_some hs2) ha
          exact hi (by rw [hiq]; exact List.mem_of_getElem? hq2)
        · exact absurd hlt (Nat.not_lt.mpr h)
  · refine ⟨fun i j x y hx hy hxy => ?_, fun i q hq => ?_⟩
    · obtain ⟨e1, h1, rfl⟩ := fw_of hx
      obtain ⟨e2, h2, rfl⟩ := fw_of hy
      have l1 := (hfit i).mpr (List.getElem?_eq_some_iff.mp h1).1
      have l2 := (hfit j).mpr (List.getElem?_eq_some_iff.mp h2).1
      exact hD.1 i j _ _ (fw_some (List.getElem?_eq_getElem l1)) (fw_some (List.getElem?_eq_getElem l2)) hxy
    · obtain ⟨e1, h1, rfl⟩ := fw_of hq
      have l1 := (hfit i).mpr (List.getElem?_eq_some_iff.mp h1).1
      exact hD.2 i (ad i, fcv D ad σ[i]) (fw_some (List.getElem?_eq_getElem l1))
end CALLS
