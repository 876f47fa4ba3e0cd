/-! THE FACADE, 7: constructors called; the law's own walk -/
section CTOR
variable {X : fX} {R : Room} {k kc : fK} {n0 pc : Nat} {L : List (Option Value)} {σ σ' σc σc' : List fE} {pl : List Nat} {cl sl : Nat} {rest st : List Value} {As : List Value} {b idx : Nat}
def fSideG (σ : List fE) (pl : List Nat) (σc σc' σ' : List fE) (L : List (Option Value)) (rest : List Value) : Prop :=
  fcut σ pl σc ∧ (pl.Nodup ∧ pl.length ≤ 1000) ∧ (σ.all (oke σ.length) = true ∧ σc'.all (oke σc'.length) = true) ∧ (σc.length ≤ σc'.length ∧ σ.length + σc'.length < 1000) ∧ (L.all (okL σ.length) = true ∧ rest.all (okv σ.length) = true) ∧
    fput (fgr pl σ.length) pl σc' σ ++ (σc'.drop pl.length).map (fre (fgr pl σ.length)) = σ'
theorem V.callI (hCt : Ct kc (.ref b :: As) σc (.inl none) σc') (hd : decode (kb k) pc = .ok (.invokespecial idx, 3)) (hlk : fLk k kc idx ∨ ∃ host, ((ky k).cls, idx, ky kc, host) ∈ gNl) (hin : Cond.instanceMethod (ky kc) ∈ fAll) (hnm : (ky kc).name = "<init>") (hret : kr kc = none) (hcal : fCal kc As.length) (hh : kh kc = []) (hroom : fRoom R kc cl sl) (hrest : (rest.map fun v => v.category).sum ≤ 8)
    (hst : (As.map (ftr (fpl pl))).reverse ++ (.ref (fpl pl b) :: rest) = st) (hsd : fSideG σ pl σc σc' σ' L rest) (kk : V X R k n0 (pc + 3) L rest σ' (cl + (kR kc).1) (sl + (kR kc).2)) : V X R k n0 pc L st σ cl sl := by
  intro p l e s m args below meth c D ad0 ad A H locs ls hC ha hn hP hD hS hL
  obtain ⟨hcut, ⟨hnd, hpl⟩, ⟨hok1, hok2⟩, ⟨hl1, hl2⟩, ⟨hok3, hok4⟩, hσ'⟩ := hsd
  obtain ⟨hsub, hpre⟩ := f_pre (As := .ref b :: As) hC ha hP hD hS hcut hnd hpl
  have hw := hC.1.2.2.2.2
  have hcode : (Cond.code (ky kc) (kb kc) (kn kc) none).before args s = true := by
    have h1 := hw _ hcal.1.1
    unfold kw at h1
    rw [hh, hret] at h1
    exact h1
  have hK := f_back (len := 3) (e := e) (p := p) (below := below) (hCt l D (fun j => ad (fpl pl j)) (va_A (fw D (fun j => ad (fpl pl j)) σc) H.size) hC.2.1.2.2.2.2) fPc.blind (sargs := args) (W9 := 8) hroom.1.1 hroom.1.2 hw hcal.1.1 hcal.1.2
  have g1 : ∀ sig, parseMethodDescriptor (ky kc).desc = some sig → ((As.map (ftr (fpl pl))).map (ftr ad)).length = sig.parameters.length := by
    intro sig hsig
    have h := hcal.2.2.1
    rw [hsig] at h
    rw [List.length_map, List.length_map]
    exact (Option.some.inj h).symm
  have g2 : (F0 m pc ls (st.map (ftr ad))).stack = ((As.map (ftr (fpl pl))).map (ftr ad)).reverse ++ .ref (ad (fpl pl b)) :: rest.map (ftr ad) := by
    show st.map (ftr ad) = _
    rw [← hst, f_stk]
    rfl
  have g3 : 2 * (F0 m pc ls (st.map (ftr ad))).monitorRoom + ((rest.map (ftr ad)).map fun v => v.category).sum ≤ 8 := by
    show 2 * 0 + ((rest.map (ftr ad)).map fun v => v.category).sum ≤ 8
    rw [f_catsum]
    omega
  have hgo : fGo p l e R s m args below meth c H locs cl sl (F0 m pc ls (st.map (ftr ad))) (rest.map (ftr ad)) (Value.ref (ad (fpl pl b)) :: (As.map (ftr (fpl pl))).map (ftr ad)).toArray (fPost kc σc.length (fun j => ad (fpl pl j)) D (va_A (fw D (fun j => ad (fpl pl j)) σc) H.size) (.inl none) σc') (fPostX kc σc.length (fun j => ad (fpl pl j)) D (va_A (fw D (fun j => ad (fpl pl j)) σc) H.size) (.inl none) σc') := by
    intro T hT Y
    rcases hlk with hlk | ⟨host, hlk⟩
    · exact vx_callI Y hC.1.1 (own := (ky k).cls) (y := ky kc) hC.1.2.2.2.1 hnm (hw _ hlk) (hw _ hin) hcode hcal.2.1 hK (g := F0 m pc ls (st.map (ftr ad))) rfl (hL.1.trans hC.1.2.2.1.symm) g1 g2 g3 (by rw [hC.1.2.1]; exact hd) (fun vm₁ hW => ⟨hroom.2.1, hroom.2.2, hpre (T.setVm vm₁) hT hW⟩)
    · exact vx_callIN Y hC.1.1 (own := (ky k).cls) (y := ky kc) (host := host) hC.1.2.2.2.1 hnm (va_Nw.use rfl (hC.2.2.2.2.2.2.2.2.2.2.2.1 _ hlk)) (hw _ hin) hcode hcal.2.1 hK (g := F0 m pc ls (st.map (ftr ad))) rfl (hL.1.trans hC.1.2.2.1.symm) g1 g2 g3 (by rw [hC.1.2.1]; exact hd) (fun vm₁ hW => ⟨hroom.2.1, hroom.2.2, hpre (T.setVm vm₁) hT hW⟩)
  intro T hT Y
  rcases hgo T hT Y with ⟨v, vm₁, ⟨U', l2, c2, s2⟩, hW₁, X', ⟨g', mk, t, L', r0, ad', e0, e1, e2, e3, hE, e4, hL', e5, e6⟩, stp⟩ | ⟨q, vm₁, ⟨U', l2, c2, s2⟩, hW₁, X', ⟨g', mk, t, L', E, ce, ad', e0, -⟩, -⟩
  · dsimp only [Pt.U, Pt.locs, Pt.cells, Pt.slots] at X' e2 e3 hE e4 e5 e6 stp
    have e0 : none = r0 := Sum.inl.inj e0
    subst e0 e1 e4 e5 e6
    have hst2 : ((T.setVm vm₁).calling g' mk (Value.ref (ad (fpl pl b)) :: (As.map (ftr (fpl pl))).map (ftr ad)).toArray).heap = H := hT
    obtain ⟨ad2, h1, h2, hP2, hD2⟩ := f_postG hP hD hcut hnd hok1 hok2 hl1 hl2 hsub hE hst2
    rw [hσ'] at hP2 hD2
    obtain ⟨k1, k2, k3⟩ := vx_keep (T' := U') hst2 e2 hS (fun q _ h => hsub q h) hsub hL' hE.2.2.2.2
    rw [← e2] at hP2
    have hn2 : n0 ≤ σ'.length := by rw [← hσ', List.length_append, fput_len]; omega
    obtain ⟨t2, a1, b1⟩ := kk p l e s m args below meth c D ad0 ad2 A U'.heap _ ls hC (fun i hi => by rw [h1 i (by omega)]; exact ha i hi) hn2 hP2 hD2 k3 (fL.ren h1 hok3 hL) U' rfl X'
    refine ⟨t2, stp t2 ?_, b1⟩
    have hfr : rest.map (ftr ad2) = rest.map (ftr ad) := List.map_congr_left fun v hv => ftr_same h1 (List.all_eq_true.mp hok4 v hv)
    rw [hfr] at a1
    exact a1
  · cases e0
end CTOR
section LAW
/-- the law's script: n ints xs at the place 3000, apart from all that is written -/
def fScr (n : Nat) (xs : Nat → Int32) (ad0 : Nat → Nat) (A : Nat → Prop) (args : Array Value) (s : State) : Prop :=
  (∀ q, A q → s.heap.size ≤ q) ∧ ∃ b, args = #[.ref b] ∧ va_X b n xs s s.heap ∧ b < s.heap.size ∧ ad0 3000 = b
def fXlaw (n : Nat) (xs : Nat → Int32) : fX := fun _ ad0 A below args s t => fScr n xs ad0 A args s → lw_Z below args s t
theorem f_law {n : Nat} {xs : Nat → Int32} {p : Program} {l : Launch} {e : Env} {R : Room} {s : State} {m : MethodId} {args : Array Value} {below : List Frame} {meth : Method} {c : Code} {D : fD} {ad0 : Nat → Nat} {A : Nat → Prop} {H : Heap} {locs : List Loc} {cl sl : Nat} {g : JFrame}
    (h : fScr n xs ad0 A args s → W p l e R s m args below meth c H locs cl sl (fXlaw n xs D ad0 A below args s) g) : W p l e R s m args below meth c H locs cl sl (fXlaw n xs D ad0 A below args s) g := by
  by_cases hs : fScr n xs ad0 A args s
  · exact h hs
  · intro T hT X
    exact ⟨_, Steps.refl _, fun h => absurd h hs⟩
variable {k : fK} {n0 pc n : Nat} {xs : Nat → Int32} {L : List (Option Value)} {st : List Value} {σ : List fE} {cl sl : Nat}
theorem V.slen {R : Room} (hd : decode (kb k) pc = .ok (.arraylength, 1)) (kk : V (fXlaw n xs) R k n0 (pc + 1) L (.int (nI n) :: st) σ cl sl) : V (fXlaw n xs) R k n0 pc L (.ref 3000 :: st) σ cl sl := by
  intro p l e s m args below meth c D ad0 ad A H locs ls hC ha hn hP hD hS hL
  refine f_law fun hs => ?_
  obtain ⟨hA, b, hb1, hX, hbl, hb3⟩ := hs
  have h := kk p l e s m args below meth c D ad0 ad A H locs ls hC ha hn hP hD hS hL
  have e1 : ad 3000 = b := (ha 3000 (Or.inr (by omega))).trans hb3
  show W p l e R s m args below meth c H locs cl sl _ (F0 m pc ls (.ref (ad 3000) :: st.map (ftr ad)))
  rw [e1]
  exact va_slen hC.1.1 hC.1.2.1 hX hbl (fun h => absurd hbl (Nat.not_lt.mpr (hA b h))) hS hd h
theorem V.sload {R : Room} {i : Int32} (hd : decode (kb k) pc = .ok (.iaload, 1)) (hin : vp_in i n) (kk : V (fXlaw n xs) R k n0 (pc + 1) L (.int (xs i.toNatClampNeg) :: st) σ cl sl) : V (fXlaw n xs) R k n0 pc L (.int i :: .ref 3000 :: st) σ cl sl := by
  intro p l e s m args below meth c D ad0 ad A H locs ls hC ha hn hP hD hS hL
  refine f_law fun hs => ?_
  obtain ⟨hA, b, hb1, hX, hbl, hb3⟩ := hs
  have h := kk p l e s m args below meth c D ad0 ad A H locs ls hC ha hn hP hD hS hL
  have e1 : ad 3000 = b := (ha 3000 (Or.inr (by omega))).trans hb3
  show W p l e R s m args below meth c H locs cl sl _ (F0 m pc ls (.int i :: .ref (ad 3000) :: st.map (ftr ad)))
  rw [e1]
  exact va_sld hC.1.1 hC.1.2.1 hX hbl (fun h => absurd hbl (Nat.not_lt.mpr (hA b h))) hS hin hd h
theorem V.lawret (hkb : kb k = code) (hkr : kr k = ret) (hd : decode code pc = .ok (.ireturn, 1)) (h1 : cl ≤ 1062) (h2 : sl ≤ 19011) : V (fXlaw n xs) room_1 k n0 pc L [.int 1] σ cl sl := by
  intro p l e s m args below meth c D ad0 ad A H locs ls hC ha hn hP hD hS hL
  refine f_law fun hs => ?_
  have hs0 := hs
  obtain ⟨hA, b, hb1, hX, hbl, hb3⟩ := hs
  subst hb1
  have h : W p l e room_1 s m #[Value.ref b] below meth c H locs cl sl (lw_Z below #[Value.ref b] s) (F0 m pc ls [.int 1]) :=
    va_forget (fun q hq => hA _ (hS.2.2 q hq)) (W.widen h1 h2 (lw_ret (Drawn.sameBut.refl s.drawn lw_cs) hC.1.1 (hC.1.2.1.trans hkb) (hC.2.1.1.trans hkr) hC.2.1.2.1 hd))
  intro T hT Y
  obtain ⟨t, a1, b1⟩ := h T hT Y
  exact ⟨t, a1, fun _ => b1⟩
end LAW
