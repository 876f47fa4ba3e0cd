/-! THE FACADE, 1: worlds by places, keys of methods, contracts -/
/-- the good words of the tables -/
def fAll : List Cond := lw_tbl.filter goodWord
theorem fAll_good {w : Cond} (h : w ∈ fAll) : goodWord w = true := (List.mem_filter.mp h).2
theorem fAll_tbl {w : Cond} (h : w ∈ fAll) : w ∈ lw_tbl := (List.mem_filter.mp h).1
theorem fAll_mk {w : Cond} (h : w ∈ lw_tbl) (hg : goodWord w = true) : w ∈ fAll := List.mem_filter.mpr ⟨h, hg⟩
/-- what lies at a place: an object (its class's number, its fields, refs are places), or an array of ints or longs -/
abbrev fE : Type := (Nat × List Value) ⊕ (Nat × ((Nat → Int32) ⊕ (Nat → Int64)))
/-- places to addresses -/
def ftr (ad : Nat → Nat) : Value → Value
  | .ref a => .ref (ad a)
  | v => v
theorem ftr_cat (ad : Nat → Nat) (v : Value) : (ftr ad v).category = v.category := by cases v <;> rfl
/-- the classes of arrays, and where the classes lie -/
abbrev fD : Type := (ClassId × ClassId) × va_G
def fcv (D : fD) (ad : Nat → Nat) : fE → va_E
  | .inl (ci, fs) => .inr (ci, fs.map (ftr ad))
  | .inr (n, .inl f) => .inl (D.1.1, n, .inl f)
  | .inr (n, .inr f) => .inl (D.1.2, n, .inr (.inl f))
def fw (D : fD) (ad : Nat → Nat) (σ : List fE) : va_W := σ.mapIdx (fun k e => (ad k, fcv D ad e))
theorem fw_get (D : fD) (ad : Nat → Nat) (σ : List fE) (k : Nat) : (fw D ad σ)[k]? = (σ[k]?).map (fun e => (ad k, fcv D ad e)) := List.getElem?_mapIdx
theorem fw_some {D : fD} {ad : Nat → Nat} {σ : List fE} {k : Nat} {e : fE} (h : σ[k]? = some e) : (fw D ad σ)[k]? = some (ad k, fcv D ad e) := by rw [fw_get, h]; rfl
theorem fw_of {D : fD} {ad : Nat → Nat} {σ : List fE} {k : Nat} {q : Nat × va_E} (h : (fw D ad σ)[k]? = some q) : ∃ e, σ[k]? = some e ∧ q = (ad k, fcv D ad e) := by
  rw [fw_get] at h
  cases hk : σ[k]? with
  | none => rw [hk] at h; cases h
  | some e => rw [hk] at h; exact ⟨e, rfl, (Option.some.inj h).symm⟩
theorem fw_len (D : fD) (ad : Nat → Nat) (σ : List fE) : (fw D ad σ).length = σ.length := List.length_mapIdx
theorem fw_set (D : fD) (ad : Nat → Nat) (σ : List fE) (k : Nat) (e : fE) : (fw D ad σ).set k (ad k, fcv D ad e) = fw D ad (σ.set k e) := by
  apply List.ext_getElem?
  intro i
  rw [List.getElem?_set, fw_get, fw_get, fw_len, List.getElem?_set]
  by_cases h : k = i
  · subst h
    by_cases h2 : k < σ.length
    · simp [h2]
    · simp [h2]
  · simp [h]
/-- a method's key: name, code, locals, return type, handlers, (frames, local words), room (cells, slots), a return's (cells, slots), a throw's -/
abbrev fK : Type := MethodName × ByteArray × Nat × Option FieldType × List (Nat × Nat × Nat × Nat) × (Nat × Nat) × (Nat × Nat) × (Nat × Nat)
abbrev ky (k : fK) : MethodName := k.1
abbrev kb (k : fK) : ByteArray := k.2.1
abbrev kn (k : fK) : Nat := k.2.2.1
abbrev kr (k : fK) : Option FieldType := k.2.2.2.1
abbrev kh (k : fK) : List (Nat × Nat × Nat × Nat) := k.2.2.2.2.1
abbrev kf (k : fK) : Nat × Nat := k.2.2.2.2.2.1
abbrev kR (k : fK) : Nat × Nat := k.2.2.2.2.2.2.1
abbrev kT (k : fK) : Nat × Nat := k.2.2.2.2.2.2.2
def krm (k : fK) : Room := { frames := (kf k).1, cells := max (kR k).1 (kT k).1, slots := max (kR k).2 (kT k).2, locals := (kf k).2 }
def kw (k : fK) : Cond := if (kh k).isEmpty then .code (ky k) (kb k) (kn k) (kr k) else .codeWith (ky k) (kb k) (kn k) (kr k) (kh k)
def kws (k : fK) : List Cond := kw k :: fAll
theorem kw_spec {k : fK} {a : Array Value} {U : State} {mk : MethodId} (hn : U.methodNamed? (ky k) = some mk) (h : (kw k).before a U = true) :
    ∃ meth c, U.vm.method? mk = some meth ∧ meth.code = some c ∧ c.code = kb k ∧ c.maxLocals = kn k ∧ meth.sig.returnType = kr k ∧ meth.locks = false ∧
      c.exceptionTable.toList.map (fun h => (h.startPc, h.endPc, h.handlerPc, h.catchType)) = kh k ∧ parseMethodDescriptor (ky k).desc = some meth.sig := by
  unfold kw at h
  by_cases he : (kh k).isEmpty = true
  · rw [if_pos he] at h
    obtain ⟨meth, c, h1, h2, h3, h4, h5, h6, h7, h8⟩ := Cond.code_spec hn h
    refine ⟨meth, c, h1, h2, h3, h4, h5, h6, ?_, h8⟩
    rw [Array.isEmpty_iff.mp h7, List.isEmpty_iff.mp he]
    rfl
  · rw [if_neg he] at h
    obtain ⟨m9, meth, c, hn9, h1, h2, h3, h4, h5, h6, h7, h8⟩ := Cond.codeWith_spec h
    cases hn.symm.trans hn9
    exact ⟨meth, c, h1, h2, h3, h4, h6, h7, h5, h8⟩
theorem kw_good (k : fK) : goodWord (kw k) = true := by
  unfold kw
  split <;> rfl
/-- the literals: (class, entry, text, number) -/
def gLits : List (String × Nat × String × Nat) := [("BeltKnots$Reader", 9, "", 0), ("BeltKnots", 268, "no such fisher", 1), ("BeltKnots", 280, "the buffer is not a name", 2), ("BeltKnots", 59, "the name cannot be tied", 3), ("BeltKnots", 274, "no such name", 4), ("BeltKnots", 86, "the name cannot be tightened", 5), ("BeltKnots", 95, "the name cannot be given", 6), ("BeltKnots", 108, "no such length of a belt", 7), ("BeltKnots", 122, "the names take more than this length", 8), ("BeltKnots", 129, "no such setting", 9), ("BeltKnots", 132, "no such value of the setting", 10), ("BeltKnots", 134, "no such character code", 11), ("BeltKnots", 140, "the buffer is full", 12), ("BeltKnots", 167, "no such number of a stop", 13), ("BeltKnots", 172, "no such index", 14), ("BeltKnots", 195, "there is no snapshot", 15), ("BeltKnots", 200, "no such letter", 16), ("BeltKnots", 282, "there is no such number to ask for", 17), ("BeltKnots", 208, "no such knot", 18), ("BeltKnots", 221, "no such entry", 19)]
/-- exceptions of which neither is the other -/
def gNc : List (String × String) := [("java/lang/IndexOutOfBoundsException", "java/lang/IllegalArgumentException"), ("java/lang/IndexOutOfBoundsException", "java/lang/IllegalStateException"), ("java/lang/IllegalArgumentException", "java/lang/IndexOutOfBoundsException"), ("java/lang/IllegalArgumentException", "java/lang/IllegalStateException"), ("java/lang/IllegalStateException", "java/lang/IndexOutOfBoundsException"), ("java/lang/IllegalStateException", "java/lang/IllegalArgumentException")]
/-- links to private constructors of nest mates -/
def gNl : List (String × Nat × MethodName × String) := [("BeltKnots", 18, ⟨"BeltKnots$History", "<init>", "()V"⟩, "BeltKnots"), ("BeltKnots", 25, ⟨"BeltKnots$Buffer", "<init>", "()V"⟩, "BeltKnots"), ("BeltKnots", 32, ⟨"BeltKnots$Reader", "<init>", "()V"⟩, "BeltKnots"), ("BeltKnots", 39, ⟨"BeltKnots$Word", "<init>", "()V"⟩, "BeltKnots")]
/-- the constructors that a throw goes through -/
def gDc : List MethodName := [⟨"java/lang/RuntimeException", "<init>", "(Ljava/lang/String;)V"⟩, ⟨"java/lang/Exception", "<init>", "(Ljava/lang/String;)V"⟩, ⟨"java/lang/Throwable", "<init>", "(Ljava/lang/String;)V"⟩]
theorem f_declM {y : MethodName} {u U : State} (hvm : u.vm.Alike U.vm) (h : va_Nw (.declares y) u) : va_Nw (.declares y) U := by
  have tr : ∀ {c : Cond}, c.onTables = true → c.before #[] (u.setVm U.vm) = true → c.before #[] U = true := by
    intro c hc h
    have e := Cond.onTables_vm (A := #[]) (A' := #[]) (U := u) (U' := U) U.vm c hc
    have hU : U.setVm U.vm = U := rfl
    rw [hU] at e
    rw [← e]
    exact h
  exact tr rfl (by rw [Cond.declares_setVm hvm]; exact h)
/-- what the walk takes along of the heap that no method of ours writes: String constants, statics -/
def fSt (ad : Nat → Nat) (A : Nat → Prop) (U : State) (H : Heap) : Prop :=
  vx_Zq Bundle.tN "UNASSIGNED_STACK" Bundle.steD A U H ∧ vx_Zq Bundle.tN "SUPPRESSED_SENTINEL" Bundle.listD A U H ∧ True ∧
  True ∧ (∀ q ∈ gLits, vk_R q.1 q.2.1 q.2.2.1 (ad (q.2.2.2 + 1000)) U) ∧ (∀ q ∈ gNc, va_Nc q.1 q.2 U) ∧
  True ∧ (∀ q ∈ gNl, va_Nw (.methodLinkNest q.1 q.2.1 q.2.2.1 q.2.2.2) U) ∧ ∀ y ∈ gDc, va_Nw (.declares y) U
theorem fSt.moved {ad : Nat → Nat} {A : Nat → Prop} {u U : State} {H : Heap} (hW : u.WarmedH U.vm) (h : fSt ad A u H) : fSt ad A U H :=
  ⟨vx_Zq.moved hW.alike h.1, vx_Zq.moved hW.alike h.2.1, trivial, trivial, fun q hq => (h.2.2.2.2.1 q hq).warm hW, fun q hq => va_Nc.moved hW.alike (h.2.2.2.2.2.1 q hq), trivial, fun q hq => va_Nw.warmM hW (h.2.2.2.2.2.2.2.1 q hq), fun y hy => f_declM hW.alike (h.2.2.2.2.2.2.2.2 y hy)⟩
theorem fSt.kept {ad : Nat → Nat} {A : Nat → Prop} {U : State} {H H1 : Heap} (h : fSt ad A U H) (hq : ∀ a : Nat, a < H.size → ¬ A a → H1[a]? = H[a]?) : fSt ad A U H1 :=
  ⟨vx_Zq.kept h.1 hq, vx_Zq.kept h.2.1 hq, trivial, trivial, h.2.2.2.2.1, h.2.2.2.2.2.1, trivial, h.2.2.2.2.2.2.2⟩
theorem fSt.narrow {ad : Nat → Nat} {A B : Nat → Prop} {U : State} {H : Heap} (h : fSt ad A U H) (hAB : ∀ q, B q → A q) : fSt ad B U H :=
  ⟨vx_Zq.narrow h.1 hAB, vx_Zq.narrow h.2.1 hAB, trivial, trivial, h.2.2.2.2.1, h.2.2.2.2.2.1, trivial, h.2.2.2.2.2.2.2⟩
theorem fSt.ren {ad ad' : Nat → Nat} {A : Nat → Prop} {U : State} {H : Heap} (h : fSt ad A U H) (he : ∀ i, 1000 ≤ i → ad' i = ad i) : fSt ad' A U H :=
  ⟨h.1, h.2.1, trivial, trivial, (fun q hq => by rw [he _ (by omega)]; exact h.2.2.2.2.1 q hq), h.2.2.2.2.2.1, trivial, h.2.2.2.2.2.2.2⟩
theorem fSt.vm {ad : Nat → Nat} {A : Nat → Prop} {u U : State} {H : Heap} (hv : U.vm = u.vm) (h : fSt ad A u H) : fSt ad A U H :=
  h.moved (by rw [hv]; exact State.WarmedH.refl u)
/-- a method's world at its start -/
def fWd (D : fD) (ad : Nat → Nat) (A : Nat → Prop) (σ : List fE) (U : State) (H : Heap) : Prop :=
  va_P D.2 vwCl (fw D ad σ) H ∧ va_K D.2 vwCl [(D.1.1, .int), (D.1.2, .byte)] U ∧ va_D A (fw D ad σ) ∧ (∀ q, H.size ≤ q → A q) ∧ fSt ad A U H
theorem fWd.moved {D : fD} {ad : Nat → Nat} {A : Nat → Prop} {σ : List fE} {u U : State} {H : Heap} (hW : u.WarmedH U.vm) (h : fWd D ad A σ u H) : fWd D ad A σ U H :=
  ⟨h.1, h.2.1.moved hW.alike, h.2.2.1, h.2.2.2.1, h.2.2.2.2.moved hW⟩
def fPc (As : List Value) (σ : List fE) (D : fD) (ad : Nat → Nat) (A : Nat → Prop) : Array Value → State → Prop := fun v U => v = (As.map (ftr ad)).toArray ∧ fWd D ad A σ U U.heap
theorem fPc.blind {As : List Value} {σ : List fE} {D : fD} {ad : Nat → Nat} {A : Nat → Prop} : FrameBlind (fPc As σ D ad A) := by
  intro a U g mk h
  refine ⟨h.1, ?_⟩
  have h2 : fWd D ad A σ U U.heap := h.2
  exact h2.moved (U := U.calling g mk a) (State.WarmedH.refl U)
/-- how a method ends: with an answer (refs are places), or with an exception of this class -/
abbrev fO : Type := Option Value ⊕ String
/-- the world behind a method: old places where they were, new ones behind them -/
def fEnd (n0 : Nat) (ad ad' : Nat → Nat) (D : fD) (A : Nat → Prop) (σ' : List fE) (st t : State) : Prop :=
  (∀ i, i < n0 ∨ 1000 ≤ i → ad' i = ad i) ∧ n0 ≤ σ'.length ∧ va_P D.2 vwCl (fw D ad' σ') t.heap ∧ va_D A (fw D ad' σ') ∧ va_F A st t
def fQr (n0 : Nat) (ad : Nat → Nat) (D : fD) (A : Nat → Prop) (r : Option Value) (σ' : List fE) (bR : Nat × Nat) (st : State) (o : Outcome) (t : State) : Prop :=
  ∃ ad', fEnd n0 ad ad' D A σ' st t ∧ o = .returned (r.map (ftr ad')) ∧ ∃ L, FrameEnd st o t L bR.1 bR.2 ∧ ∀ q ∈ L, A q.base
def fQt (n0 : Nat) (ad : Nat → Nat) (D : fD) (A : Nat → Prop) (E : String) (σ' : List fE) (bT : Nat × Nat) (st : State) (o : Outcome) (t : State) : Prop :=
  ∃ (ad' : Nat → Nat) (q : Addr) (ce : Cell) (L : List Loc), fEnd n0 ad ad' D A σ' st t ∧ o = .threw q ∧ t.heap[q]? = some ce ∧ ce.vm = .none ∧ st.vm.findClass E = some ce.cls ∧ st.WarmedH t.vm ∧ st.sameButNew ({ t with vm := st.vm } : State) L bT.1 bT.2 ∧ ∀ z ∈ L, A z.base
def fQ (n0 : Nat) (ad : Nat → Nat) (D : fD) (A : Nat → Prop) (out : fO) (σ' : List fE) (bR bT : Nat × Nat) (st : State) (o : Outcome) (t : State) : Prop :=
  match out with
  | .inl r => fQr n0 ad D A r σ' bR st o t
  | .inr E => fQt n0 ad D A E σ' bT st o t
/-- THE CONTRACT: from the world σ with these arguments the method ends so, in the world σ' -/
def Ct (k : fK) (As : List Value) (σ : List fE) (out : fO) (σ' : List fE) : Prop :=
  ∀ (l : Launch) (D : fD) (ad : Nat → Nat) (A : Nat → Prop), l.stackTraces = false →
    MetFree l (ky k) (headSpec (kws k) (krm k)) (fPc As σ D ad A) (fun _ _ _ _ _ => True) (fun _ st o t => fQ σ.length ad D A out σ' (kR k) (kT k) st o t)
section FBACK
variable {l : Launch} {R : Room} {p : Program} {e : Env} {below : List Frame} {s : State} {sargs : Array Value} {len W9 : Nat}
def fPre (R : Room) (k : fK) (Pc : Array Value → State → Prop) : Pt → Array Value → Prop := fun P a => P.cells + (krm k).cells ≤ R.cells ∧ P.slots + (krm k).slots ≤ R.slots ∧ Pc a P.U
def fPost (k : fK) (n0 : Nat) (ad : Nat → Nat) (D : fD) (A : Nat → Prop) (out : fO) (σ' : List fE) : Pt → Array Value → Option Value → Pt → Prop := fun P a v B =>
  ∃ (g : JFrame) (mk : MethodId) (t : State) (L : List Loc) (r : Option Value) (ad' : Nat → Nat), out = .inl r ∧ v = r.map (ftr ad') ∧ B.U.heap = t.heap ∧ B.U.vm = t.vm ∧ fEnd n0 ad ad' D A σ' (P.U.calling g mk a) t ∧ B.locs = P.locs ++ L ∧ (∀ q ∈ L, A q.base) ∧ B.cells = P.cells + (kR k).1 ∧ B.slots = P.slots + (kR k).2
def fPostX (k : fK) (n0 : Nat) (ad : Nat → Nat) (D : fD) (A : Nat → Prop) (out : fO) (σ' : List fE) : Pt → Array Value → Addr → Pt → Prop := fun P a q B =>
  ∃ (g : JFrame) (mk : MethodId) (t : State) (L : List Loc) (E : String) (ce : Cell) (ad' : Nat → Nat), out = .inr E ∧ B.U.heap = t.heap ∧ B.U.vm = t.vm ∧ fEnd n0 ad ad' D A σ' (P.U.calling g mk a) t ∧ t.heap[q]? = some ce ∧ ce.vm = .none ∧ P.U.vm.findClass E = some ce.cls ∧ B.locs = P.locs ++ L ∧ (∀ z ∈ L, A z.base) ∧ B.cells = P.cells + (kT k).1 ∧ B.slots = P.slots + (kT k).2
theorem f_back {k : fK} {Pc : Array Value → State → Prop} {n0 : Nat} {ad : Nat → Nat} {D : fD} {A : Nat → Prop} {out : fO} {σ' : List fE}
    (hM : MetFree l (ky k) (headSpec (kws k) (krm k)) Pc (fun _ _ _ _ _ => True) (fun _ st o t => fQ n0 ad D A out σ' (kR k) (kT k) st o t)) (hblind : FrameBlind Pc)
    (hframes : (kf k).1 + 1 ≤ R.frames) (hlocals : W9 + (kn k + 11) + (kf k).2 ≤ R.locals) (hts : ∀ w ∈ fAll, w.before sargs s = true) (hcode : kw k ∈ fAll) (hini : Cond.initialized (ky k).cls ∈ fAll) :
    vx_Back l R p e below s sargs (ky k) len W9 (fPre R k Pc) (fPost k n0 ad D A out σ') (fPostX k n0 ad D A out σ') := by
  intro m meth c P g ig mk a X hg hsize hdg hW hn hp
  have hall : ∀ w ∈ fAll, ∀ (a' : Array Value) (U : State), s.WarmedH U.vm → w.before a' U = true := fun w hw a' U hW => word_at hW (good_of_word (fAll_good hw)) (hts w hw)
  have h1 : (headSpec (kws k) (krm k)).pre.before a P.U = true := atoms_intro fun w hw => by
    rcases List.mem_cons.mp hw with rfl | hw
    · exact hall _ hcode _ _ X.warmed
    · exact hall _ hw _ _ X.warmed
  have h2 : (kw k).before a P.U = true := hall _ hcode _ _ X.warmed
  have h3 : (Cond.initialized (ky k).cls).before a P.U = true := hall _ hini _ _ X.warmed
  have h4 : P.cells + (headSpec (kws k) (krm k)).room.cells ≤ R.cells := hp.1
  have h5 : P.slots + (headSpec (kws k) (krm k)).room.slots ≤ R.slots := hp.2.1
  have hPc : Pc a (P.U.calling g mk a) := hblind _ _ _ _ hp.2.2
  obtain ⟨U, Ls, c0, s0⟩ := P
  dsimp only [Pt.U, Pt.locs, Pt.cells, Pt.slots] at h1 h2 h3 h4 h5 X hn hPc ⊢
  obtain ⟨methY, cY, hmY, hcY, -, hlY, -, -, -, -⟩ := kw_spec hn h2
  obtain ⟨kY, hkY, -⟩ := className_of_methodNamed hn
  have hinitY : kY.init = .initialized := Cond.initialized_spec (findClass_of_methodNamed hn) hkY h3
  have h : At U g.method c below := by rw [hg]; exact X.here
  have hlocals9 : W9 + (kn k + 11) + (headSpec (kws k) (krm k)).room.locals ≤ R.locals := hlocals
  have happ : (headSpec (kws k) (krm k)).appliesLoose (ky k) e.platform (U.calling g mk a) = true :=
    Spec.appliesLoose_calling (g := g) h hdg hn hkY hinitY
      (X.room_calling (g := g) (R' := (headSpec (kws k) (krm k)).room) hsize hmY hcY hframes (by rw [hlY]; omega) h4 h5) h1
  obtain ⟨mid, hmid⟩ := h.above
  have hfr : (U.setTop g).frames = (.java g :: mid) ++ below := by rw [State.frames_setTop' g h.top, hmid]; rfl
  obtain ⟨o, s₂, hsteps, -, hend, hq⟩ := Steps.callFree hM p X.admits X.cas X.clock (acts := []) hfr happ hPc trivial
  have hq' : fQ n0 ad D A out σ' (kR k) (kT k) (U.calling g mk a) o s₂ := hq
  rw [State.frames_setTop' g h.top] at hend
  obtain ⟨g₀, hg0⟩ := Option.isSome_iff_exists.mp h.top
  obtain ⟨r, hr⟩ := State.topJava?_eq_some.mp hg0
  have hr' : (({ U with heap := s₂.heap, slotsUsed := s₂.slotsUsed } : State).setVm s₂.vm).frames = .java g₀ :: r := hr
  cases out with
  | inl rr =>
    obtain ⟨ad', hE, ho, L, hfe, hL⟩ : fQr n0 ad D A rr σ' (kR k) (U.calling g mk a) o s₂ := hq'
    obtain ⟨⟨v, hv⟩, hW₂, e2, q2, q3, q4, q5, q6⟩ := id hfe
    rw [ho] at hv
    have hv : rr.map (ftr ad') = v := by injection hv
    subst ho
    have e3 : s₂ = ({ (U.calling g mk a).setFrames s₂.frames with heap := s₂.heap, slotsUsed := s₂.slotsUsed } : State).setVm s₂.vm := by
      have : s₂ = ({ s₂ with vm := (U.calling g mk a).vm } : State).setVm s₂.vm := rfl
      rw [e2] at this
      exact this
    obtain ⟨c₂, i₂, len₂, hc₂, hd₂, hf₂⟩ := hend
    have hW' : U.WarmedH s₂.vm := hW₂
    have hcc : c₂ = c := by
      have h1 : s₂.code? g.method = U.code? g.method := by
        rw [State.code?_eq, State.code?_eq, hW'.alike.method?]
      exact Option.some.inj (hc₂.symm.trans (h1.trans h.code))
    subst hcc
    have hlen : len₂ = len := by rw [hdg] at hd₂; cases hd₂; rfl
    subst hlen
    have hs₂ : s₂ = (({ U with heap := s₂.heap, slotsUsed := s₂.slotsUsed } : State).setVm s₂.vm).setTop { g with pc := g.pc + len₂, stack := (rr.map (ftr ad')).toList ++ g.stack } := by
      refine e3.trans ?_
      rw [hf₂, State.calling_eq h.top, State.setFrames_setFrames, State.setTop_of_frames _ hr', hr]
      rfl
    have hsame : U.sameButNew ({ U with heap := s₂.heap, slotsUsed := s₂.slotsUsed } : State) L (kR k).1 (kR k).2 := by
      refine ⟨?_, q2, q3, q4, q5, q6⟩
      obtain ⟨t, ht, -⟩ := State.frames_cons hr
      show ({ U with heap := s₂.heap, slotsUsed := s₂.slotsUsed } : State) = { U.setFrames U.frames with heap := s₂.heap, slotsUsed := s₂.slotsUsed }
      rw [State.setFrames_self ht]
    subst hg
    refine Or.inl ⟨rr.map (ftr ad'), ⟨(({ U with heap := s₂.heap, slotsUsed := s₂.slotsUsed } : State).setVm s₂.vm), Ls ++ L, c0 + (kR k).1, s0 + (kR k).2⟩,
      ⟨X.admits, X.cas, X.clock, X.frames, X.room, X.hears, X.method, X.code, (X.here.setHeapUsed s₂.heap s₂.slotsUsed).setVm hW'.alike, X.tail, State.WarmedH.trans X.warmed hW', X.limits, X.bytes, X.same.trans (hsame.setVm s.vm)⟩,
      ⟨g, mk, s₂, L, rr, ad', rfl, rfl, rfl, rfl, hE, rfl, hL, rfl, rfl⟩, ?_⟩
    show Steps p.tables e below _ ((({ U with heap := s₂.heap, slotsUsed := s₂.slotsUsed } : State).setVm s₂.vm).setTop { g with pc := g.pc + len₂, stack := (rr.map (ftr ad')).toList ++ g.stack })
    rw [← hs₂]
    exact hsteps
  | inr E =>
    obtain ⟨ad', q, ce, L, hE, rfl, hce, hcv, hcl, hW₂, hsm, hL⟩ : fQt n0 ad D A E σ' (kT k) (U.calling g mk a) o s₂ := hq'
    obtain ⟨e2, q2, q3, q4, q5, q6⟩ := id hsm
    have e3 : s₂ = ({ (U.calling g mk a).setFrames s₂.frames with heap := s₂.heap, slotsUsed := s₂.slotsUsed } : State).setVm s₂.vm := by
      have : s₂ = ({ s₂ with vm := (U.calling g mk a).vm } : State).setVm s₂.vm := rfl
      rw [e2] at this
      exact this
    have hf₂ : s₂.frames = .throwing q :: .java g :: U.frames.tail := hend
    have hW' : U.WarmedH s₂.vm := hW₂
    have hs₂ : s₂ = ((({ U with heap := s₂.heap, slotsUsed := s₂.slotsUsed } : State).setVm s₂.vm).setTop g).pushFrame (.throwing q) := by
      refine e3.trans ?_
      rw [hf₂, State.calling_eq h.top, State.setFrames_setFrames, State.pushFrame, State.frames_setTop _ hr', State.setTop_of_frames _ hr', State.setFrames_setFrames, hr]
      rfl
    have hsame : U.sameButNew ({ U with heap := s₂.heap, slotsUsed := s₂.slotsUsed } : State) L (kT k).1 (kT k).2 := by
      refine ⟨?_, q2, q3, q4, q5, q6⟩
      obtain ⟨t, ht, -⟩ := State.frames_cons hr
      show ({ U with heap := s₂.heap, slotsUsed := s₂.slotsUsed } : State) = { U.setFrames U.frames with heap := s₂.heap, slotsUsed := s₂.slotsUsed }
      rw [State.setFrames_self ht]
    subst hg
    refine Or.inr ⟨q, ⟨(({ U with heap := s₂.heap, slotsUsed := s₂.slotsUsed } : State).setVm s₂.vm), Ls ++ L, c0 + (kT k).1, s0 + (kT k).2⟩,
      ⟨X.admits, X.cas, X.clock, X.frames, X.room, X.hears, X.method, X.code, (X.here.setHeapUsed s₂.heap s₂.slotsUsed).setVm hW'.alike, X.tail, State.WarmedH.trans X.warmed hW', X.limits, X.bytes, X.same.trans (hsame.setVm s.vm)⟩,
      ⟨g, mk, s₂, L, E, ce, ad', rfl, rfl, rfl, hE, hce, hcv, hcl, rfl, hL, rfl, rfl⟩, ?_⟩
    show Steps p.tables e below _ (((({ U with heap := s₂.heap, slotsUsed := s₂.slotsUsed } : State).setVm s₂.vm).setTop g).pushFrame (.throwing q))
    rw [← hs₂]
    exact hsteps
end FBACK
