/-! THE FACADE, 7: constructors called; the law's own walk -/
section CTOR
variable {X : fX} {R : Room} {k kc : fK} {n0 pc : Nat} {L : List (Option Value)} {σ σ' σc σc' : List fE} {pl : List Nat} {cl sl : Nat} {rest st : List Value} {As : List Value} {b idx : Nat}
def fSideG (σ : List fE) (pl : List Nat) (σc σc' σ' : List fE) (L : List (Option Value)) (rest : List Value) : Prop :=
  fcut σ pl σc ∧ (pl.Nodup ∧ pl.length ≤ 1000) ∧ (σ.all (oke σ.length) = true ∧ σc'.all (oke σc'.length) = true) ∧ (σc.length ≤ σc'.length ∧ σ.length + σc'.length < 1000) ∧ (L.all (okL σ.length) = true ∧ rest.all (okv σ.length) = true) ∧
    fput (fgr pl σ.length) pl σc' σ ++ (σc'.drop pl.length).map (fre (fgr pl σ.length)) = σ'
theorem V.callI (hCt : Ct kc (.ref b :: As) σc (.inl none) σc') (hd : decode (kb k) pc = .ok (.invokespecial idx, 3)) (hlk : fLk k kc idx ∨ ∃ host, ((ky k).cls, idx, ky kc, host) ∈ gNl) (hin : Cond.instanceMethod (ky kc) ∈ fAll) (hnm : (ky kc).name = "<init>") (hret : kr kc = none) (hcal : fCal kc As.length) (hh : kh kc = []) (hroom : fRoom R kc cl sl) (hrest : (rest.map fun v => v.category).sum ≤ 8)
    (hst : (As.map (ftr (fpl pl))).reverse ++ (.ref (fpl pl b) :: rest) = st) (hsd : fSideG σ pl σc σc' σ' L rest) (kk : V X R k n0 (pc + 3) L rest σ' (cl + (kR kc).1) (sl + (kR kc).2)) : V X R k n0 pc L st σ cl sl := by
  intro p l e s m args below meth c D ad0 ad A H locs ls hC ha hn hP hD hS hL
  obtain ⟨hcut, ⟨hnd, hpl⟩, ⟨hok1, hok2⟩, ⟨hl1, hl2⟩, ⟨hok3, hok4⟩, hσ'⟩ := hsd
  obtain ⟨hsub, hpre⟩ := f_pre (As := .ref b :: As) hC ha hP hD hS hcut hnd hpl
  have hw := hC.1.2.2.2.2
  have hcode : (Cond.code (ky kc) (kb kc) (kn kc) none).before args s = true := by
    have h1 := hw _ hcal.1.1
    unfold kw at h1
    rw [hh, hret] at h1
    exact h1
  have hK := f_back (len := 3) (e := e) (p := p) (below := below) (hCt l D (fun j => ad (fpl pl j)) (va_A (fw D (fun j => ad (fpl pl j)) σc) H.size) hC.2.1.2.2.2.2) fPc.blind (sargs := args) (W9 := 8) hroom.1.1 hroom.1.2 hw hcal.1.1 hcal.1.2
  have g1 : ∀ sig, parseMethodDescriptor (ky kc).desc = some sig → ((As.map (ftr (fpl pl))).map (ftr ad)).length = sig.parameters.length := by
    intro sig hsig
    have h := hcal.2.2.1
    rw [hsig] at h
    rw [List.length_map, List.length_map]
    exact (Option.some.inj h).symm
  have g2 : (F0 m pc ls (st.map (ftr ad))).stack = ((As.map (ftr (fpl pl))).map (ftr ad)).reverse ++ .ref (ad (fpl pl b)) :: rest.map (ftr ad) := by
    show st.map (ftr ad) = _
    rw [← hst, f_stk]
    rfl
  have g3 : 2 * (F0 m pc ls (st.map (ftr ad))).monitorRoom + ((rest.map (ftr ad)).map fun v => v.category).sum ≤ 8 := by
    show 2 * 0 + ((rest.map (ftr ad)).map fun v => v.category).sum ≤ 8
    rw [f_catsum]
    omega
  have hgo : fGo p l e R s m args below meth c H locs cl sl (F0 m pc ls (st.map (ftr ad))) (rest.map (ftr ad)) (Value.ref (ad (fpl pl b)) :: (As.map (ftr (fpl pl))).map (ftr ad)).toArray (fPost kc σc.length (fun j => ad (fpl pl j)) D (va_A (fw D (fun j => ad (fpl pl j)) σc) H.size) (.inl none) σc') (fPostX kc σc.length (fun j => ad (fpl pl j)) D (va_A (fw D (fun j => ad (fpl pl j)) σc) H.size) (.inl none) σc') := by
    intro T hT Y
    rcases hlk with hlk | ⟨host, hlk⟩
    · exact vx_callI Y hC.1.1 (own := (ky k).cls) (y := ky kc) hC.1.2.2.2.1 hnm (hw _ hlk) (hw _ hin) hcode hcal.2.1 hK (g := F0 m pc ls (st.map (ftr ad))) rfl (hL.1.trans hC.1.2.2.1.symm) g1 g2 g3 (by rw [hC.1.2.1]; exact hd) (fun vm₁ hW => ⟨hroom.2.1, hroom.2.2, hpre (T.setVm vm₁) hT hW⟩)
    · exact vx_callIN Y hC.1.1 (own := (ky k).cls) (y := ky kc) (host := host) hC.1.2.2.2.1 hnm (va_Nw.use rfl (hC.2.2.2.2.2.2.2.2.2.2.2.1 _ hlk)) (hw _ hin) hcode hcal.2.1 hK (g := F0 m pc ls (st.map (ftr ad))) rfl (hL.1.trans hC.1.2.2.1.symm) g1 g2 g3 (by rw [hC.1.2.1]; exact hd) (fun vm₁ hW => ⟨hroom.2.1, hroom.2.2, hpre (T.setVm vm₁) hT hW⟩)
  intro T hT Y
  rcases hgo T hT Y with ⟨v, vm₁, ⟨U', l2, c2, s2⟩, hW₁, X', ⟨g', mk, t, L', r0, ad', e0, e1, e2, e3, hE, e4, hL', e5, e6⟩, stp⟩ | ⟨q, vm₁, ⟨U', l2, c2, s2⟩, hW₁, X', ⟨g', mk, t, L', E, ce, ad', e0, -⟩, -⟩
  · dsimp only [Pt.U, Pt.locs, Pt.cells, Pt.slots] at X' e2 e3 hE e4 e5 e6 stp
    have e0 : none = r0 := Sum.inl.inj e0
    subst e0 e1 e4 e5 e6
    have hst2 : ((T.setVm vm₁).calling g' mk (Value.ref (ad (fpl pl b)) :: (As.map (ftr (fpl pl))).map (ftr ad)).toArray).heap = H := hT
    obtain ⟨ad2, h1, h2, hP2, hD2⟩ := f_postG hP hD hcut hnd hok1 hok2 hl1 hl2 hsub hE hst2
    rw [hσ'] at hP2 hD2
    obtain ⟨k1, k2, k3⟩ := vx_keep (T' := U') hst2 e2 hS (fun q _ h => hsub q h) hsub hL' hE.2.2.2.2
    rw [← e2] at hP2
    have hn2 : n0 ≤ σ'.length := by rw [← hσ', List.length_append, fput_len]; omega
    obtain ⟨t2, a1, b1⟩ := kk p l e s m args below meth c D ad0 ad2 A U'.heap _ ls hC (fun i hi => by rw [h1 i (by omega)]; exact ha i hi) hn2 hP2 hD2 k3 (fL.ren h1 hok3 hL) U' rfl X'
    refine ⟨t2, stp t2 ?_, b1⟩
    have hfr : rest.map (ftr ad2) = rest.map (ftr ad) := List.map_congr_left fun v hv => ftr_same h1 (List.all_eq_true.mp hok4 v hv)
    rw [hfr] at a1
    exact a1
  · cases e0
end CTOR
section LAW
/-- the script: n ints xs at the address b, apart from all that is written -/
def fSc (n : Nat) (xs : Nat → Int32) (b : Nat) (A : Nat → Prop) (s : State) : Prop := va_X b n xs s s.heap ∧ b < s.heap.size ∧ ¬ A b
/-- the law's script, at the place 3000 -/
def fScr (n : Nat) (xs : Nat → Int32) (ad0 : Nat → Nat) (A : Nat → Prop) (args : Array Value) (s : State) : Prop :=
  (∀ q, A q → s.heap.size ≤ q) ∧ ∃ b, args = #[.ref b] ∧ va_X b n xs s s.heap ∧ b < s.heap.size ∧ ad0 3000 = b
def fXlaw (n : Nat) (xs : Nat → Int32) : fX := fun _ ad0 A below args s t => fScr n xs ad0 A args s → lw_Z below args s t
/-- an end that may take the script for granted -/
def fAbs (n : Nat) (xs : Nat → Int32) (X : fX) : Prop := ∀ (D : fD) (ad0 : Nat → Nat) (A : Nat → Prop) (below : List Frame) (args : Array Value) (s t : State), (fSc n xs (ad0 3000) A s → X D ad0 A below args s t) → X D ad0 A below args s t
theorem fAbs_law {n : Nat} {xs : Nat → Int32} : fAbs n xs (fXlaw n xs) := by
  intro D ad0 A below args s t h hs
  obtain ⟨hA, b, hb1, hX, hbl, hb3⟩ := id hs
  exact h (by rw [hb3]; exact ⟨hX, hbl, fun q => absurd hbl (Nat.not_lt.mpr (hA b q))⟩) hs
def fXs (n : Nat) (xs : Nat → Int32) (Y : fX) : fX := fun D ad0 A below args s t => fSc n xs (ad0 3000) A s → Y D ad0 A below args s t
theorem fAbs_s {n : Nat} {xs : Nat → Int32} {Y : fX} : fAbs n xs (fXs n xs Y) := fun _ _ _ _ _ _ _ h hs => h hs hs
theorem f_abs {n : Nat} {xs : Nat → Int32} {X : fX} (hX : fAbs n xs X) {p : Program} {l : Launch} {e : Env} {R : Room} {s : State} {m : MethodId} {args : Array Value} {below : List Frame} {meth : Method} {c : Code} {D : fD} {ad0 : Nat → Nat} {A : Nat → Prop} {H : Heap} {locs : List Loc} {cl sl : Nat} {g : JFrame}
    (h : fSc n xs (ad0 3000) A s → W p l e R s m args below meth c H locs cl sl (X D ad0 A below args s) g) : W p l e R s m args below meth c H locs cl sl (X D ad0 A below args s) g := by
  by_cases hs : fSc n xs (ad0 3000) A s
  · exact h hs
  · intro T hT Y
    exact ⟨_, Steps.refl _, hX D ad0 A below args s _ (fun h => absurd h hs)⟩
theorem f_law {n : Nat} {xs : Nat → Int32} {p : Program} {l : Launch} {e : Env} {R : Room} {s : State} {m : MethodId} {args : Array Value} {below : List Frame} {meth : Method} {c : Code} {D : fD} {ad0 : Nat → Nat} {A : Nat → Prop} {H : Heap} {locs : List Loc} {cl sl : Nat} {g : JFrame}
    (h : fScr n xs ad0 A args s → W p l e R s m args below meth c H locs cl sl (fXlaw n xs D ad0 A below args s) g) : W p l e R s m args below meth c H locs cl sl (fXlaw n xs D ad0 A below args s) g := by
  by_cases hs : fScr n xs ad0 A args s
  · exact h hs
  · intro T hT X
    exact ⟨_, Steps.refl _, fun h => absurd h hs⟩
variable {X : fX} {k kc : fK} {n0 pc n : Nat} {xs : Nat → Int32} {L : List (Option Value)} {st rest : List Value} {σ : List fE} {cl sl : Nat}
theorem V.toS {Y : fX} {R : Room} (kk : V Y R k n0 pc L st σ cl sl) : V (fXs n xs Y) R k n0 pc L st σ cl sl := by
  intro p l e s m args below meth c D ad0 ad A H locs ls hC ha hn hP hD hS hL
  have h := kk p l e s m args below meth c D ad0 ad A H locs ls hC ha hn hP hD hS hL
  intro T hT Z
  obtain ⟨t, a1, b1⟩ := h T hT Z
  exact ⟨t, a1, fun _ => b1⟩
theorem V.slen {R : Room} (hX : fAbs n xs X) (hd : decode (kb k) pc = .ok (.arraylength, 1)) (kk : V X R k n0 (pc + 1) L (.int (nI n) :: st) σ cl sl) : V X R k n0 pc L (.ref 3000 :: st) σ cl sl := by
  intro p l e s m args below meth c D ad0 ad A H locs ls hC ha hn hP hD hS hL
  refine f_abs hX fun hs => ?_
  obtain ⟨hX, hbl, hbA⟩ := hs
  have h := kk p l e s m args below meth c D ad0 ad A H locs ls hC ha hn hP hD hS hL
  have e1 : ad 3000 = ad0 3000 := ha 3000 (Or.inr (by omega))
  show W p l e R s m args below meth c H locs cl sl _ (F0 m pc ls (.ref (ad 3000) :: st.map (ftr ad)))
  rw [e1]
  exact va_slen hC.1.1 hC.1.2.1 hX hbl hbA hS hd h
theorem V.sload {R : Room} {i : Int32} (hX : fAbs n xs X) (hd : decode (kb k) pc = .ok (.iaload, 1)) (hin : vp_in i n) (kk : V X R k n0 (pc + 1) L (.int (xs i.toNatClampNeg) :: st) σ cl sl) : V X R k n0 pc L (.int i :: .ref 3000 :: st) σ cl sl := by
  intro p l e s m args below meth c D ad0 ad A H locs ls hC ha hn hP hD hS hL
  refine f_abs hX fun hs => ?_
  obtain ⟨hX, hbl, hbA⟩ := hs
  have h := kk p l e s m args below meth c D ad0 ad A H locs ls hC ha hn hP hD hS hL
  have e1 : ad 3000 = ad0 3000 := ha 3000 (Or.inr (by omega))
  show W p l e R s m args below meth c H locs cl sl _ (F0 m pc ls (.int i :: .ref (ad 3000) :: st.map (ftr ad)))
  rw [e1]
  exact va_sld hC.1.1 hC.1.2.1 hX hbl hbA hS hin hd h
theorem V.lawret (hkb : kb k = code) (hkr : kr k = ret) (hd : decode code pc = .ok (.ireturn, 1)) (h1 : cl ≤ 600104) (h2 : sl ≤ 7301314) : V (fXlaw n xs) room_1 k n0 pc L [.int 1] σ cl sl := by
  intro p l e s m args below meth c D ad0 ad A H locs ls hC ha hn hP hD hS hL
  refine f_law fun hs => ?_
  have hs0 := hs
  obtain ⟨hA, b, hb1, hX, hbl, hb3⟩ := hs
  subst hb1
  have h : W p l e room_1 s m #[Value.ref b] below meth c H locs cl sl (lw_Z below #[Value.ref b] s) (F0 m pc ls [.int 1]) :=
    va_forget (fun q hq => hA _ (hS.2.2 q hq)) (W.widen h1 h2 (lw_ret (Drawn.sameBut.refl s.drawn lw_cs) hC.1.1 (hC.1.2.1.trans hkb) (hC.2.1.1.trans hkr) hC.2.1.2.1 hd))
  intro T hT Y
  obtain ⟨t, a1, b1⟩ := h T hT Y
  exact ⟨t, a1, fun _ => b1⟩
/-- a method that reads the script -/
def fPs (n : Nat) (xs : Nat → Int32) (i : Int32) (D : fD) (ad : Nat → Nat) (A : Nat → Prop) : Array Value → State → Prop := fun v U => fPc [.ref 3000, .int i] [] D ad A v U ∧ fSc n xs (ad 3000) A U
theorem fPs.blind {i : Int32} {D : fD} {ad : Nat → Nat} {A : Nat → Prop} : FrameBlind (fPs n xs i D ad A) := by
  intro a U g mk h
  obtain ⟨h1, h2, h3, h4⟩ := h
  exact ⟨fPc.blind a U g mk h1, va_X.moved (u := U) (U := U.calling g mk a) (State.WarmedH.refl U).alike h2, h3, h4⟩
def CtS (n : Nat) (xs : Nat → Int32) (k : fK) (i : Int32) (out : fO) : Prop :=
  ∀ (l : Launch) (D : fD) (ad : Nat → Nat) (A : Nat → Prop), l.stackTraces = false →
    MetFree l (ky k) (headSpec (kws k) (krm k)) (fPs n xs i D ad A) (fun _ _ _ _ _ => True) (fun _ st o t => fQ 0 ad D A out [] (kR k) (kT k) st o t)
theorem CtS.of {i : Int32} {out : fO} {nn : Nat} (hcal : fCal k nn) (hL : ∀ (j : Nat) (v : Value), L[j]? = some (some v) → (fent [.ref 3000, .int i])[j]? = some (some v)) (hlen : (lg_sl (([.ref 3000, .int i] : List Value).map (ftr id))).length ≤ kn k)
    (h : V (fXs n xs (fXm 0 k out [])) (krm k) k 0 0 L [] [] 0 0) : CtS n xs k i out := by
  intro l D ad A hst
  have hlen : (lg_sl (([.ref 3000, .int i] : List Value).map (ftr ad))).length ≤ kn k := hlen
  refine MetFree.of_bodyS (code := kb k) (maxLocals := kn k) (ret := kr k) hcal.2.2.2 ?_ ?_
  · intro args s m h1 hn
    obtain ⟨meth, c, q1, q2, q3, q4, q5, q6, -, -⟩ := kw_spec hn (atoms_spec (ws := kws k) h1 _ List.mem_cons_self)
    exact ⟨meth, c, q1, q2, q3, q4, q5, q6⟩
  · intro p e s m args below meth c s₁ B hml hP _
    have hh0 : s₁.heap = s.heap := by rw [B.state]; rfl
    obtain ⟨⟨hv, hP1, hK1, hD1, hA1, hS1⟩, hSc⟩ := hP
    have hts := atoms_spec (ws := kws k) B.pre
    obtain ⟨meth9, c9, q1, q2, q3, q4, q5, q6, q7, -⟩ := kw_spec B.named (hts _ List.mem_cons_self)
    cases Option.some.inj (q1.symm.trans B.method)
    cases Option.some.inj (q2.symm.trans (Stand.of_body B).code)
    have hnm := name_of_methodNamed B.named B.method
    have hCx : fCx k (krm k) D ad A p l s m args meth c := ⟨⟨B.exec, B.bytes, hml, findClass_of_methodNamed B.named, fun w hw => hts w (List.mem_cons_of_mem _ hw)⟩, ⟨B.returns, B.notSynchronized, Or.inr q7, Or.inr hnm.1, hst⟩, hK1, hA1, hS1⟩
    have hl := lv_entry (([.ref 3000, .int i] : List Value).map (ftr ad)) (n := kn k) hlen
    have hw : W p l e (krm k) s m args below meth c s.heap [] 0 0 (fXs n xs (fXm 0 k out []) D ad A below args s) (entryFrame m args (kn k)) := by
      rw [hv, lg_entry_eq]
      rw [← hv]
      refine h p l e s m args below meth c D ad ad A s.heap [] _ hCx (fun _ _ => rfl) (Nat.le_refl _) hP1 hD1 va_S.rf ?_
      refine fL.sub (L := fent [.ref 3000, .int i]) ?_ hL
      show lv_has _ _ (fal ad 0 (fent [.ref 3000, .int i]))
      rw [fent_args]
      exact hl
    obtain ⟨t, a1, b1⟩ := hw s₁ hh0 (Stand.of_body B)
    obtain ⟨o, b1, b2, b3⟩ := b1 hSc
    exact ⟨t, o, a1, b1, b2, b3⟩
theorem V.callCell {R : Room} {i r : Int32} {idx : Nat} (hX : fAbs n xs X) (hCt : CtS n xs kc i (.inl (some (.int r)))) (hd : decode (kb k) pc = .ok (.invokestatic idx, 3)) (hlk : fLk k kc idx) (hsi : Cond.static (ky kc) ∈ fAll) (hcal : fCal kc 2) (hh : kh kc = []) (hroom : fRoom R kc cl sl) (hrest : (rest.map fun v => v.category).sum ≤ 8)
    (kk : V X R k n0 (pc + 3) L (.int r :: rest) σ (cl + (kR kc).1) (sl + (kR kc).2)) : V X R k n0 pc L (.int i :: .ref 3000 :: rest) σ cl sl := by
  intro p l e s m args below meth c D ad0 ad A H locs ls hC ha hn hP hD hS hL
  refine f_abs hX fun hs => ?_
  obtain ⟨hX, hbl, hbA⟩ := hs
  have hcut : fcut σ [] [] := rfl
  obtain ⟨hsub, hpre⟩ := f_pre (As := [.ref 3000, .int i]) hC ha hP hD hS hcut List.nodup_nil (Nat.zero_le _)
  have hw := hC.1.2.2.2.2
  have hK := f_back (len := 3) (e := e) (p := p) (below := below) (n0 := 0) (hCt l D (fun j => ad (fpl [] j)) (va_A (fw D (fun j => ad (fpl [] j)) []) H.size) hC.2.1.2.2.2.2) fPs.blind (sargs := args) (W9 := 8) hroom.1.1 hroom.1.2 hw hcal.1.1 hcal.1.2
  have hcode : (Cond.code (ky kc) (kb kc) (kn kc) (kr kc)).before args s = true := by
    have h1 := hw _ hcal.1.1
    unfold kw at h1
    rw [hh] at h1
    exact h1
  have e1 : ad 3000 = ad0 3000 := ha 3000 (Or.inr (by omega))
  have hgo : fGo p l e R s m args below meth c H locs cl sl (F0 m pc ls ((.int i :: .ref 3000 :: rest : List Value).map (ftr ad))) (rest.map (ftr ad)) ((([.ref 3000, .int i] : List Value).map (ftr (fpl []))).map (ftr ad)).toArray (fPost kc ([] : List fE).length (fun j => ad (fpl [] j)) D (va_A (fw D (fun j => ad (fpl [] j)) []) H.size) (.inl (some (.int r))) []) (fPostX kc ([] : List fE).length (fun j => ad (fpl [] j)) D (va_A (fw D (fun j => ad (fpl [] j)) []) H.size) (.inl (some (.int r))) []) := by
    intro T hT Y
    refine vx_callS Y hC.1.1 (own := (ky k).cls) (y := ky kc) hC.1.2.2.2.1 (hw _ hlk) (hw _ hsi) (hw _ hcal.1.2) hcode hcal.2.1 hK (g := F0 m pc ls ((.int i :: .ref 3000 :: rest : List Value).map (ftr ad))) rfl (hL.1.trans hC.1.2.2.1.symm) (argsL := ([.ref (ad 3000), .int i] : List Value)) (rest := rest.map (ftr ad)) (fun sig hsig => ?_) rfl ?_ (by rw [hC.1.2.1]; exact hd) (fun vm₁ hW => ⟨hroom.2.1, hroom.2.2, hpre (T.setVm vm₁) hT hW, ?_, ?_, ?_⟩)
    · have h := hcal.2.2.1
      rw [hsig] at h
      exact (Option.some.inj h).symm
    · show 2 * 0 + ((rest.map (ftr ad)).map fun v => v.category).sum ≤ 8
      rw [f_catsum]
      omega
    · show va_X (ad 3000) n xs (T.setVm vm₁) T.heap
      rw [hT, e1]
      exact va_X.moved hW.alike (hX.kept (hS.2.1 _ hbl hbA))
    · show ad 3000 < T.heap.size
      rw [hT, e1]
      exact Nat.lt_of_lt_of_le hbl hS.1
    · show ¬ va_A (fw D (fun j => ad (fpl [] j)) []) H.size (ad 3000)
      rw [e1]
      intro h
      exact hbA (hsub _ h)
  exact f_retn (r := some (.int r)) (r' := some (.int r)) (σ' := σ) (rest := rest) hgo hC ha hn hP hD hS hL hcut List.nodup_nil (Nat.zero_le _) rfl (fun j hj => by cases hj) (fun j hj => by cases hj) rfl rfl kk
end LAW
section DROP
variable {X : fX} {R : Room} {k : fK} {n0 pc : Nat} {L : List (Option Value)} {st : List Value} {σ σ' τ : List fE} {cl sl : Nat}
theorem fw_pre {D : fD} {ad : Nat → Nat} {i : Nat} {q : Nat × va_E} (h : (fw D ad σ')[i]? = some q) : (fw D ad (σ' ++ τ))[i]? = some q := by
  obtain ⟨e, he, rfl⟩ := fw_of h
  exact fw_some (by rw [List.getElem?_append_left (List.getElem?_eq_some_iff.mp he).1]; exact he)
/-- a return that leaves new cells behind -/
theorem V.zretD {v : Int32} {ty : FieldType} (hd : decode (kb k) pc = .ok (.ireturn, 1)) (hr : kr k = some ty) (hnr : narrow ty (.int v) = .int v) (h1 : cl ≤ (kR k).1) (h2 : sl ≤ (kR k).2) (hn' : n0 ≤ σ'.length) (hs : σ = σ' ++ τ) : V (fXm n0 k (.inl (some (.int v))) σ') R k n0 pc L [.int v] σ cl sl := by
  subst hs
  intro p l e s m args below meth c D ad0 ad A H locs ls hC ha hn hP hD hS hL
  exact W.widen h1 h2 (f_done (W.zret (Qc := fR n0 ad0 D A (some (.int v)) σ') hC.1.1 hC.1.2.1 (hC.2.1.1.trans hr) hnr (fun t ht hW => ⟨ad, ⟨ha, hn', by rw [ht]; exact fun i q hq => hP i q (fw_pre hq), ⟨fun i j x y hx hy => hD.1 i j x y (fw_pre hx) (fw_pre hy), fun i q hq => hD.2 i q (fw_pre hq)⟩, hS.F ht⟩, rfl⟩) hS.2.2 hd hC.2.1.2.1))
/-- two ways that meet with one int more -/
theorem V.join {J : Nat} {y : Int32} {st' : List Value} (h1 : V X R k n0 J L (.int y :: st') σ cl sl → V X R k n0 pc L st σ cl sl) (h2 : V X R k n0 J L (.int y :: st') σ cl sl) : V X R k n0 pc L st σ cl sl := h1 h2
end DROP
