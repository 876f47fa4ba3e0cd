/-! THE FACADE, 3: ends, throws, calls -/
section ENDS
variable {p : Program} {l : Launch} {e : Env} {R : Room} {s : State} {m : MethodId} {args : Array Value} {below : List Frame} {meth : Method} {c : Code} {H : Heap} {locs : List Loc} {cells slots : Nat}
/-- how the walk of a method's body ends -/
def fXm (n0 : Nat) (k : fK) (out : fO) (σ' : List fE) : fX := fun D ad0 A below _ s t => ∃ o, t.status = .running ∧ Ended t below o ∧ fQ n0 ad0 D A out σ' (kR k) (kT k) s o t
def fR (n0 : Nat) (ad0 : Nat → Nat) (D : fD) (A : Nat → Prop) (r : Option Value) (σ' : List fE) : Array Value → State → Outcome → State → Prop := fun _ st o t => ∃ ad', fEnd n0 ad0 ad' D A σ' st t ∧ o = .returned (r.map (ftr ad'))
theorem f_done {n0 : Nat} {k : fK} {r : Option Value} {σ' : List fE} {D : fD} {ad0 : Nat → Nat} {A : Nat → Prop} {g : JFrame}
    (h : W p l e R s m args below meth c H locs cells slots (MQ below (fR n0 ad0 D A r σ') args s (kR k).1 (kR k).2 A) g) : W p l e R s m args below meth c H locs cells slots (fXm n0 k (.inl r) σ' D ad0 A below args s) g := by
  intro T hT X
  obtain ⟨t, a, o, b1, b2, ⟨ad', h1, h2⟩, Ls, hF, hL⟩ := h T hT X
  exact ⟨t, a, o, b1, b2, ad', h1, h2, Ls, hF, hL⟩
theorem f_doneT {n0 : Nat} {k : fK} {E : String} {σ' : List fE} {D : fD} {ad0 : Nat → Nat} {A : Nat → Prop} {g : JFrame}
    (h : W p l e R s m args below meth c H locs cells slots (vx_MQ below (fun _ _ _ _ => False) (fun E' st t => E' = E ∧ ∃ ad', fEnd n0 ad0 ad' D A σ' st t) args s (kT k).1 (kT k).2 A) g) : W p l e R s m args below meth c H locs cells slots (fXm n0 k (.inr E) σ' D ad0 A below args s) g := by
  intro T hT X
  obtain ⟨t, a, o, b1, b2, h3⟩ := h T hT X
  rcases h3 with ⟨h3, -⟩ | ⟨q, ho, E', ce, Ls, ⟨rfl, ad', hE⟩, h4, h5, h6, h7, h8, h9⟩
  · exact absurd h3 id
  · exact ⟨t, a, o, b1, b2, ad', q, ce, Ls, hE, ho, h4, h5, h6, h7, h8, h9⟩
theorem f_doneTx {n0 : Nat} {k : fK} {E : String} {σ' : List fE} {D : fD} {ad0 : Nat → Nat} {A : Nat → Prop} {g : JFrame} {q : Addr}
    (h : vx_W p l e R s m args below meth c H locs cells slots (vx_MQ below (fun _ _ _ _ => False) (fun E' st t => E' = E ∧ ∃ ad', fEnd n0 ad0 ad' D A σ' st t) args s (kT k).1 (kT k).2 A) g q) : vx_W p l e R s m args below meth c H locs cells slots (fXm n0 k (.inr E) σ' D ad0 A below args s) g q := by
  intro T hT X
  obtain ⟨t, a, o, b1, b2, h3⟩ := h T hT X
  rcases h3 with ⟨h3, -⟩ | ⟨q, ho, E', ce, Ls, ⟨rfl, ad', hE⟩, h4, h5, h6, h7, h8, h9⟩
  · exact absurd h3 id
  · exact ⟨t, a, o, b1, b2, ad', q, ce, Ls, hE, ho, h4, h5, h6, h7, h8, h9⟩
end ENDS
section VENDS
variable {R : Room} {k : fK} {n0 pc : Nat} {L : List (Option Value)} {st : List Value} {σ σ' : List fE} {cl sl : Nat}
theorem V.iret {v : Int32} (hd : decode (kb k) pc = .ok (.ireturn, 1)) (hr : kr k = some .int) (h1 : cl ≤ (kR k).1) (h2 : sl ≤ (kR k).2) (hs : σ = σ') : V (fXm n0 k (.inl (some (.int v))) σ') R k n0 pc L [.int v] σ cl sl := by
  subst hs
  intro p l e s m args below meth c D ad0 ad A H locs ls hC ha hn hP hD hS hL
  exact W.widen h1 h2 (f_done (W.iret (Qc := fR n0 ad0 D A (some (.int v)) σ) hC.1.1 hC.1.2.1 (hC.2.1.1.trans hr) (fun t ht hW => ⟨ad, ⟨ha, hn, by rw [ht]; exact hP, hD, hS.F ht⟩, rfl⟩) hS.2.2 hd hC.2.1.2.1))
theorem V.zret {v : Int32} {ty : FieldType} (hd : decode (kb k) pc = .ok (.ireturn, 1)) (hr : kr k = some ty) (hnr : narrow ty (.int v) = .int v) (h1 : cl ≤ (kR k).1) (h2 : sl ≤ (kR k).2) (hs : σ = σ') : V (fXm n0 k (.inl (some (.int v))) σ') R k n0 pc L [.int v] σ cl sl := by
  subst hs
  intro p l e s m args below meth c D ad0 ad A H locs ls hC ha hn hP hD hS hL
  exact W.widen h1 h2 (f_done (W.zret (Qc := fR n0 ad0 D A (some (.int v)) σ) hC.1.1 hC.1.2.1 (hC.2.1.1.trans hr) hnr (fun t ht hW => ⟨ad, ⟨ha, hn, by rw [ht]; exact hP, hD, hS.F ht⟩, rfl⟩) hS.2.2 hd hC.2.1.2.1))
theorem V.lret {v : Int64} (hd : decode (kb k) pc = .ok (.lreturn, 1)) (hr : kr k = some .long) (h1 : cl ≤ (kR k).1) (h2 : sl ≤ (kR k).2) (hs : σ = σ') : V (fXm n0 k (.inl (some (.long v))) σ') R k n0 pc L [.long v] σ cl sl := by
  subst hs
  intro p l e s m args below meth c D ad0 ad A H locs ls hC ha hn hP hD hS hL
  exact W.widen h1 h2 (f_done (W.lret (Qc := fR n0 ad0 D A (some (.long v)) σ) hC.1.1 hC.1.2.1 (hC.2.1.1.trans hr) (fun t ht hW => ⟨ad, ⟨ha, hn, by rw [ht]; exact hP, hD, hS.F ht⟩, rfl⟩) hS.2.2 hd hC.2.1.2.1))
theorem V.dret {v : UInt64} (hd : decode (kb k) pc = .ok (.dreturn, 1)) (hr : kr k = some .double) (h1 : cl ≤ (kR k).1) (h2 : sl ≤ (kR k).2) (hs : σ = σ') : V (fXm n0 k (.inl (some (.double v))) σ') R k n0 pc L [.double v] σ cl sl := by
  subst hs
  intro p l e s m args below meth c D ad0 ad A H locs ls hC ha hn hP hD hS hL
  have hlocks : meth.locks = false := hC.2.1.2.1
  exact W.widen h1 h2 (f_done (W.dret (Qc := fR n0 ad0 D A (some (.double v)) σ) hC.1.1 hC.1.2.1 (hC.2.1.1.trans hr) (fun t ht hW => ⟨ad, ⟨ha, hn, by rw [ht]; exact hP, hD, hS.F ht⟩, rfl⟩) hS.2.2 hd hlocks))
theorem V.aret {q : Nat} {nm : String} (hd : decode (kb k) pc = .ok (.areturn, 1)) (hr : kr k = some (.object nm)) (h1 : cl ≤ (kR k).1) (h2 : sl ≤ (kR k).2) (hs : σ = σ') : V (fXm n0 k (.inl (some (.ref q))) σ') R k n0 pc L [.ref q] σ cl sl := by
  subst hs
  intro p l e s m args below meth c D ad0 ad A H locs ls hC ha hn hP hD hS hL
  exact W.widen h1 h2 (f_done (W.aret (Qc := fR n0 ad0 D A (some (.ref q)) σ) hC.1.1 hC.1.2.1 (hC.2.1.1.trans hr) (Or.inl ⟨nm, rfl⟩) (Or.inr ⟨_, rfl⟩) (fun t ht hW => ⟨ad, ⟨ha, hn, by rw [ht]; exact hP, hD, hS.F ht⟩, rfl⟩) hS.2.2 hd hC.2.1.2.1))
theorem V.vret (hd : decode (kb k) pc = .ok (.return_, 1)) (hr : kr k = none) (h1 : cl ≤ (kR k).1) (h2 : sl ≤ (kR k).2) (hs : σ = σ') : V (fXm n0 k (.inl none) σ') R k n0 pc L [] σ cl sl := by
  subst hs
  intro p l e s m args below meth c D ad0 ad A H locs ls hC ha hn hP hD hS hL
  exact W.widen h1 h2 (f_done (W.vret (Qc := fR n0 ad0 D A none σ) hC.1.1 hC.1.2.1 (hC.2.1.1.trans hr) (fun t ht hW => ⟨ad, ⟨ha, hn, by rw [ht]; exact hP, hD, hS.F ht⟩, rfl⟩) hS.2.2 hd hC.2.1.2.1))
theorem f_cast {E : String} {c : ClassId} {s : State} {args : Array Value} (h : s.vm.findClass E = some c) : (Cond.castable E E).before args s = true := by
  simp [Cond.before, Cond.holds, Cond.value, h, va_asg]
theorem f_castI {E : String} {s : State} {args : Array Value} (h : (Cond.initialized E).before args s = true) : (Cond.castable E E).before args s = true := by
  cases hc : s.vm.findClass E with
  | none => simp [Cond.before, Cond.holds, Cond.value, hc] at h
  | some c => exact f_cast hc
/-- what a program decides of a throw 'new E(text)' of this class -/
def fTh (own E : String) (names : List String) (ik ic : Nat) : Prop := Bundle.fit E = true ∧ (∀ n ∈ names, Bundle.fit n = true) ∧ Cond.classLink own ik E ∈ fAll ∧ Cond.initialized E ∈ fAll ∧ ∀ w ∈ vx_atS own ic E names, w ∈ fAll ∨ w = .castable E E ∨ ∃ y, y ∈ gDc ∧ w = .declares y
theorem f_ot {w : Cond} (h : w ∈ fAll) : vx_ot w = true := by
  unfold vx_ot
  rw [fAll_good h, Bool.or_true]
theorem f_nohand {c : Code} (h : ftab k c) (hh : kh k = []) : ∀ x ∈ c.exceptionTable.toList, covers x pc = false := by
  intro x hx
  have h1 : c.exceptionTable.toList = [] := by
    unfold ftab at h
    rw [hh] at h
    rcases h with h | h
    · cases h
    · exact List.map_eq_nil_iff.mp h
  rw [h1] at hx
  cases hx
theorem V.throwS {E tx : String} {names : List String} {ik is ic i : Nat} (hT : fTh (ky k).cls E names ik ic) (hlit : ((ky k).cls, is, tx, i) ∈ gLits)
    (d0 : decode (kb k) pc = .ok (.new ik, 3)) (d3 : decode (kb k) (pc + 3) = .ok (.dup, 1)) (d4 : decode (kb k) (pc + 4) = .ok (.ldc is, 2)) (d6 : decode (kb k) (pc + 6) = .ok (.invokespecial ic, 3)) (d9 : decode (kb k) (pc + 9) = .ok (.athrow, 1))
    (hh : kh k = []) (hRf : names.length + 3 < R.frames) (hRl : (st.map fun v => v.category).sum + (13 * (names.length + 1) + 43) ≤ R.locals) (hRc : cl + 1 ≤ R.cells ∧ sl + 6 ≤ R.slots) (h1 : cl + 1 ≤ (kT k).1) (h2 : sl + 6 ≤ (kT k).2) (hs : σ = σ') :
    V (fXm n0 k (.inr E) σ') R k n0 pc L st σ cl sl := by
  subst hs
  intro p l e s m args below meth c D ad0 ad A H locs ls hC ha hn hP hD hS hL
  have hsum : ((st.map (ftr ad)).map fun v => v.category).sum = (st.map fun v => v.category).sum := by
    rw [List.map_map]
    congr 1
    exact List.map_congr_left fun v _ => ftr_cat ad v
  refine f_doneT (vx_throwS hC.1.1 hC.1.2.1 hC.2.1.2.2.2.2 (own := (ky k).cls) (text := tx) hC.1.2.2.2.1 hT.1 hT.2.1 (hC.1.2.2.2.2 _ hT.2.2.1) (hC.1.2.2.2.2 _ hT.2.2.2.1) (hC.2.2.2.2.2.2.2.2.1 _ hlit) (fun w hw => (hT.2.2.2.2 w hw).elim (hC.1.2.2.2.2 _) (fun h => h.elim (fun h => by rw [h]; exact f_castI (hC.1.2.2.2.2 _ hT.2.2.2.1)) (fun ⟨y, hy, h⟩ => by rw [h]; exact va_Nw.use rfl (hC.2.2.2.2.2.2.2.2.2.2.2.2 y hy)))) (fun w hw => ?_)
    hC.2.2.2.2.1 hC.2.2.2.2.2.1 hS (hL.1.trans hC.1.2.2.1.symm) d0 d3 d4 d6 d9 (f_nohand hC.2.1.2.2.1 hh) hRf (by rw [hsum]; exact hRl) hRc.1 hRc.2 hC.2.1.2.1 (fun t hvm hsz hq => ⟨rfl, ad, ha, hn, ?_, hD, ?_⟩) hS.2.2 h1 h2)
  · rcases List.mem_cons.mp hw with rfl | hw
    · exact f_ot hT.2.2.1
    · rcases List.mem_cons.mp hw with rfl | hw
      · exact f_ot hT.2.2.2.1
      · rcases hT.2.2.2.2 w hw with h | rfl | ⟨y, -, rfl⟩
        · exact f_ot h
        · rfl
        · rfl
  · intro j q hj
    exact (hP j q hj).kept (hq _ (hP j q hj).lt)
  · exact ⟨Nat.le_trans hS.1 hsz, fun q h1 h2 => by rw [hq q (Nat.lt_of_lt_of_le h1 hS.1)]; exact hS.2.1 q h1 h2⟩
/-- THE SAME, WITH AN EXCEPTION OF CLASS E OVER THE FRAME -/
def VX (X : fX) (R : Room) (k : fK) (n0 : Nat) (E : String) (pc : Nat) (L : List (Option Value)) (st : List Value) (σ : List fE) (cl sl : Nat) : Prop :=
  ∀ (p : Program) (l : Launch) (e : Env) (s : State) (m : MethodId) (args : Array Value) (below : List Frame) (meth : Method) (c : Code) (D : fD) (ad0 ad : Nat → Nat) (A : Nat → Prop) (H : Heap) (locs : List Loc) (ls : Array Slot) (q : Addr) (ce : Cell),
    fCx k R D ad0 A p l s m args meth c → (∀ i, i < n0 ∨ 1000 ≤ i → ad i = ad0 i) → n0 ≤ σ.length → va_P D.2 vwCl (fw D ad σ) H → va_D A (fw D ad σ) → va_S A s.heap H locs → fL ls (kn k) ad L →
    H[q]? = some ce → ce.vm = .none → s.vm.findClass E = some ce.cls →
    vx_W p l e R s m args below meth c H locs cl sl (X D ad0 A below args s) (F0 m pc ls (st.map (ftr ad))) q
theorem VX.out {E : String} (hh : kh k = []) (h1 : cl ≤ (kT k).1) (h2 : sl ≤ (kT k).2) (hs : σ = σ') : VX (fXm n0 k (.inr E) σ') R k n0 E pc L st σ cl sl := by
  subst hs
  intro p l e s m args below meth c D ad0 ad A H locs ls q ce hC ha hn hP hD hS hL hc1 hc2 hc3
  exact f_doneTx (vx_out (f_nohand hC.2.1.2.2.1 hh) hC.2.1.2.1 hc1 hc2 hc3 (fun t ht hvm => ⟨rfl, ad, ha, hn, by rw [ht]; exact hP, hD, hS.F ht⟩) hS.2.2 h1 h2)
end VENDS
