/-! THE FACADE, 5: rows of calls; a contract out of a walk -/
/-- what a program decides of a method that is called -/
def fCal (kc : fK) (n : Nat) : Prop := (kw kc ∈ fAll ∧ Cond.initialized (ky kc).cls ∈ fAll) ∧ ((ky kc).cls ≠ "java/lang/invoke/MethodHandle" ∧ (ky kc).cls ≠ "java/lang/invoke/VarHandle") ∧ (parseMethodDescriptor (ky kc).desc).map (fun d => d.parameters.length) = some n ∧ plainName (ky kc).cls = true
/-- the room that a call needs -/
def fRoom (R : Room) (kc : fK) (cl sl : Nat) : Prop := ((kf kc).1 + 1 ≤ R.frames ∧ 8 + (kn kc + 11) + (kf kc).2 ≤ R.locals) ∧ cl + (krm kc).cells ≤ R.cells ∧ sl + (krm kc).slots ≤ R.slots
/-- a receiver: an object of the world, or one of the literals -/
def fRec (σ : List fE) (q : Nat) (cls : String) : Prop := (∃ ci fs T N, σ[q]? = some (.inl (ci, fs)) ∧ vwCl[ci]? = some (cls, T, N))
theorem f_rec {R : Room} {k : fK} {D : fD} {ad0 ad : Nat → Nat} {A : Nat → Prop} {p : Program} {l : Launch} {s : State} {m : MethodId} {args : Array Value} {meth : Method} {c : Code} {H : Heap} {locs : List Loc} {n0 : Nat} {σ : List fE} {q : Nat} {cls : String}
    (h : fRec σ q cls) (hC : fCx k R D ad0 A p l s m args meth c) (ha : ∀ i, i < n0 ∨ 1000 ≤ i → ad i = ad0 i) (hP : va_P D.2 vwCl (fw D ad σ) H) (hS : va_S A s.heap H locs) :
    ∃ cell : Cell, H[ad q]? = some cell ∧ cell.vm.isStatics = false ∧ s.vm.findClass cls = some cell.cls := by
  obtain ⟨ci, fs, T, N, h1, h2⟩ := h
  exact va_recv hC.2.2.1 hP h2 (fw_some h1)
section CORE
variable {X : fX} {R : Room} {k kc : fK} {n0 pc : Nat} {L : List (Option Value)} {σ σ' σc σc' : List fE} {pl : List Nat} {cl sl : Nat} {rest st0 : List Value} {r r' : Option Value}
variable {p : Program} {l : Launch} {e : Env} {s : State} {m : MethodId} {args a9 : Array Value} {below : List Frame} {meth : Method} {c : Code} {D : fD} {ad0 ad : Nat → Nat} {A : Nat → Prop} {H : Heap} {locs : List Loc} {ls : Array Slot}
/-- what the kit's rows say of a call -/
def fGo (p : Program) (l : Launch) (e : Env) (R : Room) (s : State) (m : MethodId) (args : Array Value) (below : List Frame) (meth : Method) (c : Code) (H : Heap) (locs : List Loc) (cl sl : Nat) (g : JFrame) (rest : List Value) (a : Array Value) (Post : Pt → Array Value → Option Value → Pt → Prop) (PostX : Pt → Array Value → Addr → Pt → Prop) : Prop :=
  ∀ T : State, T.heap = H → Stand p l e R s m args below meth c T locs cl sl →
    (∃ (v : Option Value) (vm₁ : Vm) (B : Pt), s.WarmedH vm₁ ∧ Stand p l e R s m args below meth c B.U B.locs B.cells B.slots ∧ Post ⟨T.setVm vm₁, locs, cl, sl⟩ a v B ∧
      ∀ target, Steps p.tables e below (B.U.setTop { g with pc := g.pc + 3, stack := v.toList ++ rest }) target → Steps p.tables e below (T.setTop g) target) ∨
    (∃ (q : Addr) (vm₁ : Vm) (B : Pt), s.WarmedH vm₁ ∧ Stand p l e R s m args below meth c B.U B.locs B.cells B.slots ∧ PostX ⟨T.setVm vm₁, locs, cl, sl⟩ a q B ∧
      Steps p.tables e below (T.setTop g) ((B.U.setTop { g with stack := rest }).pushFrame (.throwing q)))
theorem f_retn (hgo : fGo p l e R s m args below meth c H locs cl sl (F0 m pc ls st0) (rest.map (ftr ad)) a9 (fPost kc σc.length (fun j => ad (fpl pl j)) D (va_A (fw D (fun j => ad (fpl pl j)) σc) H.size) (.inl r) σc') (fPostX kc σc.length (fun j => ad (fpl pl j)) D (va_A (fw D (fun j => ad (fpl pl j)) σc) H.size) (.inl r) σc'))
    (hC : fCx k R D ad0 A p l s m args meth c) (ha : ∀ i, i < n0 ∨ 1000 ≤ i → ad i = ad0 i) (hn : n0 ≤ σ.length) (hP : va_P D.2 vwCl (fw D ad σ) H) (hD : va_D A (fw D ad σ)) (hS : va_S A s.heap H locs) (hL : fL ls (kn k) ad L)
    (hcut : fcut σ pl σc) (hnd : pl.Nodup) (hpl : pl.length ≤ 1000) (hlen : σc'.length = σc.length) (hrf : ∀ j ∈ frefs σc', j < pl.length ∨ 1000 ≤ j) (hrr : ∀ j, r = some (.ref j) → j < pl.length ∨ 1000 ≤ j)
    (hσ' : fput (fpl pl) pl σc' σ = σ') (hr' : r.map (ftr (fpl pl)) = r') (kk : V X R k n0 (pc + 3) L (r'.toList ++ rest) σ' (cl + (kR kc).1) (sl + (kR kc).2)) :
    W p l e R s m args below meth c H locs cl sl (X D ad0 A below args s) (F0 m pc ls st0) := by
  intro T hT Y
  have hsub := (f_pre (As := []) hC ha hP hD hS hcut hnd hpl).1
  rcases hgo T hT Y with ⟨v, vm₁, ⟨U', l2, c2, s2⟩, hW₁, X', ⟨g', mk, t, L', r0, ad', e0, e1, e2, e3, hE, e4, hL', e5, e6⟩, st⟩ | ⟨q, vm₁, ⟨U', l2, c2, s2⟩, hW₁, X', ⟨g', mk, t, L', E, ce, ad', e0, -⟩, -⟩
  · dsimp only [Pt.U, Pt.locs, Pt.cells, Pt.slots] at X' e2 e3 hE e4 e5 e6 st
    have e0 : r = r0 := Sum.inl.inj e0
    subst e0 e1 e4 e5 e6
    have hst : ((T.setVm vm₁).calling g' mk a9).heap = H := hT
    obtain ⟨hP2, hD2⟩ := f_post hP hD hcut hnd hlen hrf hE hst hσ'
    obtain ⟨k1, k2, k3⟩ := vx_keep (T' := U') hst e2 hS (fun q _ h => hsub q h) hsub hL' hE.2.2.2.2
    rw [← e2] at hP2
    have hn2 : n0 ≤ σ'.length := by rw [← hσ', fput_len]; exact hn
    obtain ⟨t2, a1, b1⟩ := kk p l e s m args below meth c D ad0 ad A U'.heap _ ls hC ha hn2 hP2 hD2 k3 hL U' rfl X'
    refine ⟨t2, st t2 ?_, b1⟩
    have hfr : (r.map (ftr ad')).toList ++ rest.map (ftr ad) = (r'.toList ++ rest).map (ftr ad) := by
      subst hr'
      cases r with
      | none => rfl
      | some v =>
        show ftr ad' v :: rest.map (ftr ad) = ftr ad (ftr (fpl pl) v) :: rest.map (ftr ad)
        congr 1
        rw [ftr_ftr]
        cases v <;> first | rfl | skip
        rename_i j
        show Value.ref (ad' j) = Value.ref (ad (fpl pl j))
        rw [hE.1 j (by rw [← fcut_len hcut]; exact hrr j rfl)]
    rw [hfr]
    exact a1
  · cases e0
theorem f_thrn {E : String} (hgo : fGo p l e R s m args below meth c H locs cl sl (F0 m pc ls st0) (rest.map (ftr ad)) a9 (fPost kc σc.length (fun j => ad (fpl pl j)) D (va_A (fw D (fun j => ad (fpl pl j)) σc) H.size) (.inr E) σc') (fPostX kc σc.length (fun j => ad (fpl pl j)) D (va_A (fw D (fun j => ad (fpl pl j)) σc) H.size) (.inr E) σc'))
    (hC : fCx k R D ad0 A p l s m args meth c) (ha : ∀ i, i < n0 ∨ 1000 ≤ i → ad i = ad0 i) (hn : n0 ≤ σ.length) (hP : va_P D.2 vwCl (fw D ad σ) H) (hD : va_D A (fw D ad σ)) (hS : va_S A s.heap H locs) (hL : fL ls (kn k) ad L)
    (hcut : fcut σ pl σc) (hnd : pl.Nodup) (hpl : pl.length ≤ 1000) (hlen : σc'.length = σc.length) (hrf : ∀ j ∈ frefs σc', j < pl.length ∨ 1000 ≤ j)
    (hσ' : fput (fpl pl) pl σc' σ = σ') (kk : VX X R k n0 E pc L rest σ' (cl + (kT kc).1) (sl + (kT kc).2)) :
    W p l e R s m args below meth c H locs cl sl (X D ad0 A below args s) (F0 m pc ls st0) := by
  intro T hT Y
  have hsub := (f_pre (As := []) hC ha hP hD hS hcut hnd hpl).1
  rcases hgo T hT Y with ⟨v, vm₁, ⟨U', l2, c2, s2⟩, hW₁, X', ⟨g', mk, t, L', r0, ad', e0, -⟩, -⟩ | ⟨q, vm₁, ⟨U', l2, c2, s2⟩, hW₁, X', ⟨g', mk, t, L', E', ce, ad', e0, e2, e3, hE, hce, hcv, hcl, e4, hL', e5, e6⟩, st⟩
  · cases e0
  · dsimp only [Pt.U, Pt.locs, Pt.cells, Pt.slots] at X' e2 e3 hE hcl e4 e5 e6 st
    have e0 : E = E' := Sum.inr.inj e0
    subst e0 e4 e5 e6
    have hst : ((T.setVm vm₁).calling g' mk a9).heap = H := hT
    obtain ⟨hP2, hD2⟩ := f_post hP hD hcut hnd hlen hrf hE hst hσ'
    obtain ⟨k1, k2, k3⟩ := vx_keep (T' := U') hst e2 hS (fun q _ h => hsub q h) hsub hL' hE.2.2.2.2
    rw [← e2] at hP2
    have hn2 : n0 ≤ σ'.length := by rw [← hσ', fput_len]; exact hn
    obtain ⟨t2, a1, b1⟩ := kk p l e s m args below meth c D ad0 ad A U'.heap _ ls q ce hC ha hn2 hP2 hD2 k3 hL (by rw [e2]; exact hce) hcv (vx_cls hW₁ hcl) U' rfl X'
    exact ⟨t2, st.trans a1, b1⟩
end CORE
section CALLROWS
variable {X : fX} {R : Room} {k kc : fK} {n0 pc : Nat} {L : List (Option Value)} {σ σ' σc σc' : List fE} {pl : List Nat} {cl sl : Nat} {rest st : List Value} {r r' : Option Value} {As : List Value} {b idx : Nat}
theorem f_stk (ad : Nat → Nat) (Bs rest : List Value) : (Bs.reverse ++ rest).map (ftr ad) = (Bs.map (ftr ad)).reverse ++ rest.map (ftr ad) := by rw [List.map_append, List.map_reverse]
theorem f_catsum (ad : Nat → Nat) (st : List Value) : ((st.map (ftr ad)).map fun v => v.category).sum = (st.map fun v => v.category).sum := by
  rw [List.map_map]
  congr 1
  exact List.map_congr_left fun v _ => ftr_cat ad v
/-- a site: the word that links it -/
def fLk (k kc : fK) (idx : Nat) : Prop := Cond.methodLink (ky k).cls idx (ky kc) ∈ fAll
def fVi (kc : fK) : Prop := Cond.instanceMethod (ky kc) ∈ fAll ∧ Cond.selects (ky kc).cls (ky kc) (ky kc) ∈ fAll
theorem f_goV {p : Program} {l : Launch} {e : Env} {s : State} {m : MethodId} {args : Array Value} {below : List Frame} {meth : Method} {c : Code} {D : fD} {ad0 ad : Nat → Nat} {A : Nat → Prop} {H : Heap} {locs : List Loc} {ls : Array Slot} {out : fO}
    (hCt : Ct kc (.ref b :: As) σc out σc') (hd : decode (kb k) pc = .ok (.invokevirtual idx, 3)) (hlk : fLk k kc idx) (hvi : fVi kc) (hcal : fCal kc As.length) (hh : kh kc = []) (hroom : fRoom R kc cl sl) (hrest : (rest.map fun v => v.category).sum ≤ 8) (hrec : fRec σ (fpl pl b) (ky kc).cls)
    (hst : (As.map (ftr (fpl pl))).reverse ++ (.ref (fpl pl b) :: rest) = st)
    (hC : fCx k R D ad0 A p l s m args meth c) (ha : ∀ i, i < n0 ∨ 1000 ≤ i → ad i = ad0 i) (hP : va_P D.2 vwCl (fw D ad σ) H) (hD : va_D A (fw D ad σ)) (hS : va_S A s.heap H locs) (hL : fL ls (kn k) ad L)
    (hcut : fcut σ pl σc) (hnd : pl.Nodup) (hpl : pl.length ≤ 1000) :
    fGo p l e R s m args below meth c H locs cl sl (F0 m pc ls (st.map (ftr ad))) (rest.map (ftr ad)) (Value.ref (ad (fpl pl b)) :: (As.map (ftr (fpl pl))).map (ftr ad)).toArray (fPost kc σc.length (fun j => ad (fpl pl j)) D (va_A (fw D (fun j => ad (fpl pl j)) σc) H.size) out σc') (fPostX kc σc.length (fun j => ad (fpl pl j)) D (va_A (fw D (fun j => ad (fpl pl j)) σc) H.size) out σc') := by
  intro T hT Y
  obtain ⟨hsub, hpre⟩ := f_pre (As := .ref b :: As) hC ha hP hD hS hcut hnd hpl
  obtain ⟨cell, hc1, hc2, hc3⟩ := f_rec hrec hC ha hP hS
  have hw := hC.1.2.2.2.2
  have hcode : (Cond.code (ky kc) (kb kc) (kn kc) (kr kc)).before args s = true := by
    have h1 := hw _ hcal.1.1
    unfold kw at h1
    rw [hh] at h1
    exact h1
  refine vx_callV Y hC.1.1 (own := (ky k).cls) (C := (ky kc).cls) (y := ky kc) hC.1.2.2.2.1 (hw _ hlk) (hw _ hvi.1) (hw _ hvi.2) hcode hcal.2.1
    (f_back (hCt l D (fun j => ad (fpl pl j)) (va_A (fw D (fun j => ad (fpl pl j)) σc) H.size) hC.2.1.2.2.2.2) fPc.blind hroom.1.1 hroom.1.2 hw hcal.1.1 hcal.1.2) (b := ad (fpl pl b)) (by rw [hT]; exact hc1) hc2 hc3 (g := F0 m pc ls (st.map (ftr ad))) rfl (hL.1.trans hC.1.2.2.1.symm)
    (argsL := (As.map (ftr (fpl pl))).map (ftr ad)) (rest := rest.map (ftr ad)) (fun sig hsig => ?_) ?_ ?_ (by rw [hC.1.2.1]; exact hd) (fun vm₁ hW => ⟨hroom.2.1, hroom.2.2, hpre (T.setVm vm₁) hT hW⟩)
  · have h := hcal.2.2.1
    rw [hsig] at h
    rw [List.length_map, List.length_map]
    exact (Option.some.inj h).symm
  · show st.map (ftr ad) = _
    rw [← hst, f_stk]
    rfl
  · show 2 * 0 + ((rest.map (ftr ad)).map fun v => v.category).sum ≤ 8
    rw [f_catsum]
    omega
theorem f_goS {p : Program} {l : Launch} {e : Env} {s : State} {m : MethodId} {args : Array Value} {below : List Frame} {meth : Method} {c : Code} {D : fD} {ad0 ad : Nat → Nat} {A : Nat → Prop} {H : Heap} {locs : List Loc} {ls : Array Slot} {out : fO}
    (hCt : Ct kc As σc out σc') (hd : decode (kb k) pc = .ok (.invokestatic idx, 3)) (hlk : fLk k kc idx) (hsi : Cond.static (ky kc) ∈ fAll) (hcal : fCal kc As.length) (hroom : fRoom R kc cl sl) (hrest : (rest.map fun v => v.category).sum ≤ 8)
    (hst : (As.map (ftr (fpl pl))).reverse ++ rest = st)
    (hC : fCx k R D ad0 A p l s m args meth c) (ha : ∀ i, i < n0 ∨ 1000 ≤ i → ad i = ad0 i) (hP : va_P D.2 vwCl (fw D ad σ) H) (hD : va_D A (fw D ad σ)) (hS : va_S A s.heap H locs) (hL : fL ls (kn k) ad L)
    (hcut : fcut σ pl σc) (hnd : pl.Nodup) (hpl : pl.length ≤ 1000) :
    fGo p l e R s m args below meth c H locs cl sl (F0 m pc ls (st.map (ftr ad))) (rest.map (ftr ad)) ((As.map (ftr (fpl pl))).map (ftr ad)).toArray (fPost kc σc.length (fun j => ad (fpl pl j)) D (va_A (fw D (fun j => ad (fpl pl j)) σc) H.size) out σc') (fPostX kc σc.length (fun j => ad (fpl pl j)) D (va_A (fw D (fun j => ad (fpl pl j)) σc) H.size) out σc') := by
  intro T hT Y
  obtain ⟨hsub, hpre⟩ := f_pre (As := As) hC ha hP hD hS hcut hnd hpl
  have hw := hC.1.2.2.2.2
  have h1 := hw _ hcal.1.1
  have hK := f_back (len := 3) (e := e) (p := p) (below := below) (hCt l D (fun j => ad (fpl pl j)) (va_A (fw D (fun j => ad (fpl pl j)) σc) H.size) hC.2.1.2.2.2.2) fPc.blind (sargs := args) (W9 := 8) hroom.1.1 hroom.1.2 hw hcal.1.1 hcal.1.2
  have g1 : ∀ sig, parseMethodDescriptor (ky kc).desc = some sig → ((As.map (ftr (fpl pl))).map (ftr ad)).length = sig.parameters.length := by
    intro sig hsig
    have h := hcal.2.2.1
    rw [hsig] at h
    rw [List.length_map, List.length_map]
    exact (Option.some.inj h).symm
  have g2 : (F0 m pc ls (st.map (ftr ad))).stack = ((As.map (ftr (fpl pl))).map (ftr ad)).reverse ++ rest.map (ftr ad) := by
    show st.map (ftr ad) = _
    rw [← hst, f_stk]
  have g3 : 2 * (F0 m pc ls (st.map (ftr ad))).monitorRoom + ((rest.map (ftr ad)).map fun v => v.category).sum ≤ 8 := by
    show 2 * 0 + ((rest.map (ftr ad)).map fun v => v.category).sum ≤ 8
    rw [f_catsum]
    omega
  by_cases he : (kh kc).isEmpty = true
  · have hcode : (Cond.code (ky kc) (kb kc) (kn kc) (kr kc)).before args s = true := by
      unfold kw at h1
      rw [if_pos he] at h1
      exact h1
    exact vx_callS Y hC.1.1 (own := (ky k).cls) (y := ky kc) hC.1.2.2.2.1 (hw _ hlk) (hw _ hsi) (hw _ hcal.1.2) hcode hcal.2.1 hK (g := F0 m pc ls (st.map (ftr ad))) rfl (hL.1.trans hC.1.2.2.1.symm) g1 g2 g3 (by rw [hC.1.2.1]; exact hd) (fun vm₁ hW => ⟨hroom.2.1, hroom.2.2, hpre (T.setVm vm₁) hT hW⟩)
  · have hcode : (Cond.codeWith (ky kc) (kb kc) (kn kc) (kr kc) (kh kc)).before args s = true := by
      unfold kw at h1
      rw [if_neg he] at h1
      exact h1
    exact vx_callSX Y hC.1.1 (own := (ky k).cls) (y := ky kc) hC.1.2.2.2.1 (hw _ hlk) (hw _ hsi) (hw _ hcal.1.2) hcode hcal.2.1 hK (g := F0 m pc ls (st.map (ftr ad))) rfl (hL.1.trans hC.1.2.2.1.symm) g1 g2 g3 (by rw [hC.1.2.1]; exact hd) (fun vm₁ hW => ⟨hroom.2.1, hroom.2.2, hpre (T.setVm vm₁) hT hW⟩)
/-- the world's side of a call -/
def fSide (σ : List fE) (pl : List Nat) (σc σc' σ' : List fE) : Prop := fcut σ pl σc ∧ (pl.Nodup ∧ pl.length ≤ 1000) ∧ σc'.length = σc.length ∧ (∀ j ∈ frefs σc', j < pl.length ∨ 1000 ≤ j) ∧ fput (fpl pl) pl σc' σ = σ'
theorem V.callV (hCt : Ct kc (.ref b :: As) σc (.inl r) σc') (hd : decode (kb k) pc = .ok (.invokevirtual idx, 3)) (hlk : fLk k kc idx) (hvi : fVi kc) (hcal : fCal kc As.length) (hh : kh kc = []) (hroom : fRoom R kc cl sl) (hrest : (rest.map fun v => v.category).sum ≤ 8) (hrec : fRec σ (fpl pl b) (ky kc).cls)
    (hst : (As.map (ftr (fpl pl))).reverse ++ (.ref (fpl pl b) :: rest) = st) (hsd : fSide σ pl σc σc' σ') (hrr : ∀ j, r = some (.ref j) → j < pl.length ∨ 1000 ≤ j) (hr' : r.map (ftr (fpl pl)) = r') (kk : V X R k n0 (pc + 3) L (r'.toList ++ rest) σ' (cl + (kR kc).1) (sl + (kR kc).2)) : V X R k n0 pc L st σ cl sl :=
  fun p l e s m args below meth c D ad0 ad A H locs ls hC ha hn hP hD hS hL => f_retn (f_goV hCt hd hlk hvi hcal hh hroom hrest hrec hst hC ha hP hD hS hL hsd.1 hsd.2.1.1 hsd.2.1.2) hC ha hn hP hD hS hL hsd.1 hsd.2.1.1 hsd.2.1.2 hsd.2.2.1 hsd.2.2.2.1 hrr hsd.2.2.2.2 hr' kk
theorem V.callVx {E : String} (hCt : Ct kc (.ref b :: As) σc (.inr E) σc') (hd : decode (kb k) pc = .ok (.invokevirtual idx, 3)) (hlk : fLk k kc idx) (hvi : fVi kc) (hcal : fCal kc As.length) (hh : kh kc = []) (hroom : fRoom R kc cl sl) (hrest : (rest.map fun v => v.category).sum ≤ 8) (hrec : fRec σ (fpl pl b) (ky kc).cls)
    (hst : (As.map (ftr (fpl pl))).reverse ++ (.ref (fpl pl b) :: rest) = st) (hsd : fSide σ pl σc σc' σ') (kk : VX X R k n0 E pc L rest σ' (cl + (kT kc).1) (sl + (kT kc).2)) : V X R k n0 pc L st σ cl sl :=
  fun p l e s m args below meth c D ad0 ad A H locs ls hC ha hn hP hD hS hL => f_thrn (f_goV hCt hd hlk hvi hcal hh hroom hrest hrec hst hC ha hP hD hS hL hsd.1 hsd.2.1.1 hsd.2.1.2) hC ha hn hP hD hS hL hsd.1 hsd.2.1.1 hsd.2.1.2 hsd.2.2.1 hsd.2.2.2.1 hsd.2.2.2.2 kk
theorem V.callS (hCt : Ct kc As σc (.inl r) σc') (hd : decode (kb k) pc = .ok (.invokestatic idx, 3)) (hlk : fLk k kc idx) (hsi : Cond.static (ky kc) ∈ fAll) (hcal : fCal kc As.length) (hroom : fRoom R kc cl sl) (hrest : (rest.map fun v => v.category).sum ≤ 8)
    (hst : (As.map (ftr (fpl pl))).reverse ++ rest = st) (hsd : fSide σ pl σc σc' σ') (hrr : ∀ j, r = some (.ref j) → j < pl.length ∨ 1000 ≤ j) (hr' : r.map (ftr (fpl pl)) = r') (kk : V X R k n0 (pc + 3) L (r'.toList ++ rest) σ' (cl + (kR kc).1) (sl + (kR kc).2)) : V X R k n0 pc L st σ cl sl :=
  fun p l e s m args below meth c D ad0 ad A H locs ls hC ha hn hP hD hS hL => f_retn (f_goS hCt hd hlk hsi hcal hroom hrest hst hC ha hP hD hS hL hsd.1 hsd.2.1.1 hsd.2.1.2) hC ha hn hP hD hS hL hsd.1 hsd.2.1.1 hsd.2.1.2 hsd.2.2.1 hsd.2.2.2.1 hrr hsd.2.2.2.2 hr' kk
theorem V.callSx {E : String} (hCt : Ct kc As σc (.inr E) σc') (hd : decode (kb k) pc = .ok (.invokestatic idx, 3)) (hlk : fLk k kc idx) (hsi : Cond.static (ky kc) ∈ fAll) (hcal : fCal kc As.length) (hroom : fRoom R kc cl sl) (hrest : (rest.map fun v => v.category).sum ≤ 8)
    (hst : (As.map (ftr (fpl pl))).reverse ++ rest = st) (hsd : fSide σ pl σc σc' σ') (kk : VX X R k n0 E pc L rest σ' (cl + (kT kc).1) (sl + (kT kc).2)) : V X R k n0 pc L st σ cl sl :=
  fun p l e s m args below meth c D ad0 ad A H locs ls hC ha hn hP hD hS hL => f_thrn (f_goS hCt hd hlk hsi hcal hroom hrest hst hC ha hP hD hS hL hsd.1 hsd.2.1.1 hsd.2.1.2) hC ha hn hP hD hS hL hsd.1 hsd.2.1.1 hsd.2.1.2 hsd.2.2.1 hsd.2.2.2.1 hsd.2.2.2.2 kk
end CALLROWS
/-- the locals at a method's entry -/
def fent : List Value → List (Option Value)
  | [] => []
  | v :: vs => if v.category = 2 then some v :: none :: fent vs else some v :: fent vs
theorem fent_args (ad : Nat → Nat) : ∀ (vs : List Value) (i : Nat), fal ad i (fent vs) = lv_args i (vs.map (ftr ad)) := by
  intro vs
  induction vs with
  | nil => intro i; rfl
  | cons v vs ih =>
    intro i
    rw [List.map_cons, lv_args, ftr_cat, fent]
    by_cases h : v.category = 2
    · rw [if_pos h, if_pos h]
      show (i, ftr ad v) :: fal ad (i + 1 + 1) (fent vs) = _
      rw [ih]
    · rw [if_neg h, if_neg h]
      show (i, ftr ad v) :: fal ad (i + 1) (fent vs) = _
      rw [ih]
/-- A CONTRACT OUT OF A WALK -/
theorem Ct.of {k : fK} {As : List Value} {σ σ' : List fE} {out : fO} {L : List (Option Value)} {n : Nat} (hcal : fCal k n) (hL : ∀ (i : Nat) (v : Value), L[i]? = some (some v) → (fent As)[i]? = some (some v)) (hlen : (lg_sl (As.map (ftr id))).length ≤ kn k)
    (h : V (fXm σ.length k out σ') (krm k) k σ.length 0 L [] σ 0 0) : Ct k As σ out σ' := by
  intro l D ad A hst
  have hlen : (lg_sl (As.map (ftr ad))).length ≤ kn k := by
    have e : ∀ (f g : Nat → Nat) (vs : List Value), (lg_sl (vs.map (ftr f))).length = (lg_sl (vs.map (ftr g))).length := by
      intro f g vs
      induction vs with
      | nil => rfl
      | cons v vs ih =>
        simp only [lg_sl, List.map_cons, List.flatMap_cons, List.length_append, ftr_cat] at ih ⊢
        rw [ih]
        split <;> rfl
    rw [e ad id]; exact hlen
  refine MetFree.of_bodyS (code := kb k) (maxLocals := kn k) (ret := kr k) hcal.2.2.2 ?_ ?_
  · intro args s m h1 hn
    obtain ⟨meth, c, q1, q2, q3, q4, q5, q6, -, -⟩ := kw_spec hn (atoms_spec (ws := kws k) h1 _ List.mem_cons_self)
    exact ⟨meth, c, q1, q2, q3, q4, q5, q6⟩
  · intro p e s m args below meth c s₁ B hml hP _
    have hh0 : s₁.heap = s.heap := by rw [B.state]; rfl
    obtain ⟨hv, hP1, hK1, hD1, hA1, hS1⟩ := hP
    have hts := atoms_spec (ws := kws k) B.pre
    obtain ⟨meth9, c9, q1, q2, q3, q4, q5, q6, q7, -⟩ := kw_spec B.named (hts _ List.mem_cons_self)
    cases Option.some.inj (q1.symm.trans B.method)
    cases Option.some.inj (q2.symm.trans (Stand.of_body B).code)
    have hnm := name_of_methodNamed B.named B.method
    have hCx : fCx k (krm k) D ad A p l s m args meth c := ⟨⟨B.exec, B.bytes, hml, findClass_of_methodNamed B.named, fun w hw => hts w (List.mem_cons_of_mem _ hw)⟩, ⟨B.returns, B.notSynchronized, Or.inr q7, Or.inr hnm.1, hst⟩, hK1, hA1, hS1⟩
    have hl := lv_entry (As.map (ftr ad)) (n := kn k) hlen
    have hw : W p l e (krm k) s m args below meth c s.heap [] 0 0 (fXm σ.length k out σ' D ad A below args s) (entryFrame m args (kn k)) := by
      rw [hv, lg_entry_eq]
      rw [← hv]
      refine h p l e s m args below meth c D ad ad A s.heap [] _ hCx (fun _ _ => rfl) (Nat.le_refl _) hP1 hD1 va_S.rf ?_
      refine fL.sub (L := fent As) ?_ hL
      show lv_has _ _ (fal ad 0 (fent As))
      rw [fent_args]
      exact hl
    obtain ⟨t, a1, o, b1, b2, b3⟩ := hw s₁ hh0 (Stand.of_body B)
    exact ⟨t, o, a1, b1, b2, b3⟩
