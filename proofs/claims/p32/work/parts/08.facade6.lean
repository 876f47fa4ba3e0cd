/-! THE FACADE, 6: handlers, copies of rows, new objects and arrays, constructors -/
section CATCH
variable {X : fX} {R : Room} {k : fK} {n0 pc : Nat} {L L' : List (Option Value)} {st : List Value} {σ σ' : List fE} {cl sl : Nat}
theorem ftab_split {c : Code} (h : c.exceptionTable.toList.map (fun h => (h.startPc, h.endPc, h.handlerPc, h.catchType)) = kh k) {pre : List (Nat × Nat × Nat × Nat)} {x : Nat × Nat × Nat × Nat} {suf : List (Nat × Nat × Nat × Nat)} (hh : kh k = pre ++ x :: suf) :
    ∃ (pre' : List ExceptionTableEntry) (x' : ExceptionTableEntry) (suf' : List ExceptionTableEntry), c.exceptionTable.toList = pre' ++ x' :: suf' ∧ pre'.map (fun h => (h.startPc, h.endPc, h.handlerPc, h.catchType)) = pre ∧ (x'.startPc, x'.endPc, x'.handlerPc, x'.catchType) = x := by
  rw [hh] at h
  obtain ⟨l1, l2, e1, e2, e3⟩ := List.map_eq_append_iff.mp h
  obtain ⟨x', l3, e4, e5, e6⟩ := List.map_eq_cons_iff.mp e3
  subst e4
  exact ⟨l1, x', l3, e1, e2, e5⟩
/-- an exception of class E that was thrown at pc is caught by the row x, which stores it at once and forgets it -/
theorem VX.catch {E nm : String} {pre suf : List (Nat × Nat × Nat × Nat)} {x : Nat × Nat × Nat × Nat} {j : Nat} (hh : kh k = pre ++ x :: suf) (hx : (decide (x.1 ≤ pc) && decide (pc < x.2.1)) = true) (h0 : x.2.2.2 ≠ 0)
    (hpass : ∀ z ∈ pre, z.2.2.2 ≠ 0 ∧ ∃ nz : String, Cond.classLink (ky k).cls z.2.2.2 nz ∈ fAll ∧ (E, nz) ∈ gNc) (hlink : Cond.classLink (ky k).cls x.2.2.2 nm ∈ fAll) (hcast : nm = E)
    {i : Nat} {ins : Instr} {len : Nat} (hd : (∃ f : Fin 4, (f : Nat) = i ∧ ins = .astore_n f ∧ len = 1) ∨ (ins = .astore i ∧ len = 2)) (hdc : decode (kb k) x.2.2.1 = .ok (ins, len)) (hn : i < kn k) (hok : fok L i = true) (hL' : L.set i none = L')
    (kk : V X R k n0 (x.2.2.1 + len) L' [] σ cl sl) : VX X R k n0 E pc L st σ cl sl := by
  intro p l e s m args below meth c D ad0 ad A H locs ls q ce hC ha hn1 hP hD hS hL hc1 hc2 hc3
  subst hL'
  have htab : c.exceptionTable.toList.map (fun h => (h.startPc, h.endPc, h.handlerPc, h.catchType)) = kh k := by
    refine hC.2.1.2.2.1.resolve_left fun h9 => ?_
    rw [hh] at h9
    cases pre with
    | nil =>
      injection h9 with h9 _
      rw [h9] at hx
      simp at hx
    | cons z pre =>
      injection h9 with _ h9
      have := congrArg List.length h9
      simp at this
  obtain ⟨pre', x', suf', e1, e2, e3⟩ := ftab_split htab hh
  have hw := hC.1.2.2.2.2
  have hpc : x'.handlerPc = x.2.2.1 := by rw [← e3]
  subst hcast
  refine vx_catch hC.1.2.2.2.1 pre' x' suf' e1 (fun z hz => ?_) ?_ ?_ (name := nm) ?_ (f_cast hc3) hc1 hc2 hc3 ?_
  · have hz' : (z.startPc, z.endPc, z.handlerPc, z.catchType) ∈ pre := by rw [← e2]; exact List.mem_map.mpr ⟨z, hz, rfl⟩
    obtain ⟨g1, nz, g2, g3⟩ := hpass _ hz'
    exact Or.inr ⟨g1, nz, hw _ g2, hC.2.2.2.2.2.2.2.2.2.1 _ g3⟩
  · have : (decide (x'.startPc ≤ pc) && decide (pc < x'.endPc)) = true := by rw [← e3] at hx; exact hx
    exact this
  · rw [← e3] at h0; exact h0
  · rw [← e3] at hlink; exact hw _ hlink
  · rw [hpc]
    have fin : ∀ ls' : Array Slot, lv_has ls' (kn k) ((i, Value.ref q) :: (fal ad 0 L).filter (fun q => !(q.1 == i) && !(q.1 + 1 == i && q.2.category == 2))) → W p l e R s m args below meth c H locs cl sl (X D ad0 A below args s) (F0 m (x.2.2.1 + len) ls' []) := by
      intro ls' h'
      refine kk p l e s m args below meth c D ad0 ad A H locs ls' hC ha hn1 hP hD hS ?_
      have h2 : fL ls' (kn k) (fun z => if z = 0 then q else 0) [] := ⟨h'.1, h'.2.1, fun q hq => by cases hq⟩
      refine ⟨h'.1, h'.2.1, fun y hy => ?_⟩
      obtain ⟨j, w, h1, rfl⟩ := fal_mem.mp hy
      rw [List.getElem?_set] at h1
      by_cases hij : i = j
      · rw [if_pos hij] at h1
        split at h1 <;> cases h1
      · rw [if_neg hij] at h1
        refine h'.2.2 _ (List.mem_cons_of_mem _ (List.mem_filter.mpr ⟨fal_mem.mpr ⟨j, w, h1, rfl⟩, ?_⟩))
        simp only [Nat.zero_add, ftr_cat, Bool.and_eq_true, Bool.not_eq_true', beq_eq_false_iff_ne, ne_eq, Bool.and_eq_false_imp, beq_iff_eq]
        refine ⟨fun e => hij e.symm, fun e e2 => ?_⟩
        rw [fok_spec hok e h1] at e2
        cases e2
    rcases hd with ⟨f, hf, rfl, rfl⟩ | ⟨rfl, rfl⟩
    · exact lv_astore_n hC.1.1 hC.1.2.1 hdc hf hL hn rfl fin
    · exact lv_astore hC.1.1 hC.1.2.1 hdc hL hn rfl fin
/-- System.arraycopy from one row of ints of the world to another one -/
theorem V.copy {q0 q1 m0 m1 index : Nat} {f g : Nat → Int32} {sp dp n : Int32} (hd : decode (kb k) pc = .ok (.invokestatic index, 3)) (hlk : Cond.methodLink (ky k).cls index arraycopyName ∈ fAll) (hnat : Cond.native arraycopyName ∈ fAll) (hstat : Cond.static arraycopyName ∈ fAll) (hini : Cond.initialized "java/lang/System" ∈ fAll)
    (hq0 : σ[q0]? = some (.inr (m0, .inl f))) (hq1 : σ[q1]? = some (.inr (m1, .inl g))) (h1 : ¬ sp < 0) (h2 : ¬ dp < 0) (h3 : ¬ n < 0) (h4 : sp.toNatClampNeg + n.toNatClampNeg ≤ m0) (h5 : dp.toNatClampNeg + n.toNatClampNeg ≤ m1)
    (hRf : 1 ≤ R.frames) (hRl : (st.map fun v => v.category).sum + (nativeFrameWords "java/lang/System" "arraycopy" 5 + 11) ≤ R.locals) (hσ : σ.set q1 (.inr (m1, .inl (va_cpy f g sp.toNatClampNeg dp.toNatClampNeg n.toNatClampNeg))) = σ')
    (kk : V X R k n0 (pc + 3) L st σ' cl sl) : V X R k n0 pc L (.int n :: .int dp :: .ref q1 :: .int sp :: .ref q0 :: st) σ cl sl := by
  intro p l e s m args below meth c D ad0 ad A H locs ls hC ha hn hP hD hS hL
  subst hσ
  have hw := hC.1.2.2.2.2
  refine va_copyi hC.1.1 hC.1.2.1 (hC.1.2.2.1.trans hL.1.symm) hC.1.2.2.2.1 (hw _ hlk) (hw _ hnat) (hw _ hstat) (hw _ hini) hC.2.2.1 hP hD hS q0 q1 0 0 (fw_some hq0) (fw_some hq1) rfl rfl rfl h1 h2 h3 h4 h5 (fun _ _ => rfl) hRf (by rw [f_catsum]; exact hRl) hd (fun H1 locs1 hP1 hD1 hS1 => ?_)
  have e9 := fw_set D ad σ q1 (.inr (m1, .inl (va_cpy f g sp.toNatClampNeg dp.toNatClampNeg n.toNatClampNeg)))
  exact kk p l e s m args below meth c D ad0 ad A H1 locs1 ls hC ha (by rw [List.length_set]; exact hn) (e9 ▸ hP1) (e9 ▸ hD1) hS1 hL
/-- refs are places of the first n, or of the literals -/
def okv (n : Nat) : Value → Bool
  | .ref j => decide (j < n) || decide (1000 ≤ j)
  | _ => true
def oke (n : Nat) : fE → Bool
  | .inl (_, fs) => fs.all (okv n)
  | .inr _ => true
def okL (n : Nat) : Option Value → Bool
  | some v => okv n v
  | none => true
theorem ftr_same {a1 a2 : Nat → Nat} {n : Nat} (h : ∀ i, i < n ∨ 1000 ≤ i → a1 i = a2 i) {v : Value} (hv : okv n v = true) : ftr a1 v = ftr a2 v := by
  cases v <;> first | rfl | skip
  rename_i j
  simp only [okv, Bool.or_eq_true, decide_eq_true_eq] at hv
  show Value.ref (a1 j) = Value.ref (a2 j)
  rw [h j hv]
theorem fcv_same2 {D : fD} {a1 a2 : Nat → Nat} {n : Nat} (h : ∀ i, i < n ∨ 1000 ≤ i → a1 i = a2 i) {e : fE} (he : oke n e = true) : fcv D a1 e = fcv D a2 e := by
  rcases e with ⟨ci, fs⟩ | ⟨n, f | f⟩
  · show Sum.inr (ci, fs.map _) = Sum.inr (ci, fs.map _)
    congr 2
    exact List.map_congr_left fun v hv => ftr_same h (List.all_eq_true.mp he v hv)
  · rfl
  · rfl
theorem fL.ren {ls : Array Slot} {n N : Nat} {a1 a2 : Nat → Nat} (h : ∀ i, i < N ∨ 1000 ≤ i → a1 i = a2 i) {L : List (Option Value)} (hL : L.all (okL N) = true) (hl : fL ls n a2 L) : fL ls n a1 L := by
  refine ⟨hl.1, hl.2.1, fun y hy => ?_⟩
  obtain ⟨j, w, h1, rfl⟩ := fal_mem.mp hy
  have := List.all_eq_true.mp hL _ (List.mem_of_getElem? h1)
  rw [ftr_same h this]
  exact hl.2.2 _ (fal_mem.mpr ⟨j, w, h1, rfl⟩)
theorem fw_app {D : fD} {a1 a2 : Nat → Nat} {σ τ : List fE} (h : ∀ i, i < σ.length ∨ 1000 ≤ i → a1 i = a2 i) (hσ : σ.all (oke σ.length) = true) : ∀ k, k < σ.length → (fw D a1 (σ ++ τ))[k]? = (fw D a2 σ)[k]? := by
  intro k hk
  rw [fw_get, fw_get, List.getElem?_append_left hk, List.getElem?_eq_getElem hk]
  show some (a1 k, fcv D a1 σ[k]) = some (a2 k, fcv D a2 σ[k])
  rw [h k (Or.inl hk), fcv_same2 h (List.all_eq_true.mp hσ _ (List.getElem_mem hk))]
/-- all that is at hand has its refs among the world's places -/
def fFresh (σ : List fE) (L : List (Option Value)) (st : List Value) : Bool := σ.all (oke σ.length) && (L.all (okL σ.length) && (st.all (okv σ.length) && decide (σ.length < 1000)))
theorem f_push {D : fD} {ad0 ad : Nat → Nat} {A : Nat → Prop} {H1 : Heap} {q : Nat} {e : fE} {x : va_E} (ha : ∀ i, i < n0 ∨ 1000 ≤ i → ad i = ad0 i) (hn : n0 ≤ σ.length) (hfr : fFresh σ L st = true) (hx : ∀ a, fcv D a e = x)
    (hP : va_P D.2 vwCl (fw D ad σ ++ [(q, x)]) H1) (hD : va_D A (fw D ad σ ++ [(q, x)])) {ls : Array Slot} {nl : Nat} (hL : fL ls nl ad L) :
    ∃ ad2 : Nat → Nat, ad2 σ.length = q ∧ (∀ i, i < n0 ∨ 1000 ≤ i → ad2 i = ad0 i) ∧ n0 ≤ (σ ++ [e]).length ∧ va_P D.2 vwCl (fw D ad2 (σ ++ [e])) H1 ∧ va_D A (fw D ad2 (σ ++ [e])) ∧ fL ls nl ad2 L ∧ st.map (ftr ad2) = st.map (ftr ad) := by
  unfold fFresh at hfr
  simp only [Bool.and_eq_true, decide_eq_true_eq] at hfr
  obtain ⟨h1, h2, h3, h4⟩ := hfr
  have hag : ∀ i, i < σ.length ∨ 1000 ≤ i → (fun i => if i = σ.length then q else ad i) i = ad i := by
    intro i hi
    show (if i = σ.length then q else ad i) = ad i
    rw [if_neg (by omega)]
  have hw : fw D (fun i => if i = σ.length then q else ad i) (σ ++ [e]) = fw D ad σ ++ [(q, x)] := by
    apply List.ext_getElem?
    intro i
    by_cases hi : i < σ.length
    · rw [fw_app hag h1 i hi, List.getElem?_append_left (by rw [fw_len]; exact hi)]
    · rw [fw_get, List.getElem?_append_right (by omega), List.getElem?_append_right (by rw [fw_len]; omega), fw_len]
      by_cases hi2 : i = σ.length
      · subst hi2
        simp [hx]
      · have : i - σ.length ≥ 1 := by omega
        rw [List.getElem?_eq_none (by simpa using this), List.getElem?_eq_none (by simpa using this)]
        rfl
  refine ⟨fun i => if i = σ.length then q else ad i, if_pos rfl, fun i hi => ?_, ?_, by rw [hw]; exact hP, by rw [hw]; exact hD, fL.ren hag h2 hL, ?_⟩
  · rw [hag i (by omega)]; exact ha i hi
  · rw [List.length_append]; omega
  · exact List.map_congr_left fun v hv => ftr_same hag (List.all_eq_true.mp h3 v hv)
theorem V.new {ci N index : Nat} {C : String} {T : u_T} {ty : Nat → FieldType} {fs : List Value} (hF : fFl ci C T N ty) (hd : decode (kb k) pc = .ok (.new index, 3)) (hcl : Cond.classLink (ky k).cls index C ∈ fAll) (hins : Cond.instantiable C N ∈ fAll) (hini : Cond.initialized C ∈ fAll)
    (hfs : ∀ j, j < N → defaultValue (ty j) = vp_V fs j) (hnr : ∀ ad, fs.map (ftr ad) = fs) (hfr : fFresh σ L st = true) (hc : cl + 1 ≤ R.cells) (hs : sl + N ≤ R.slots)
    (kk : V X R k n0 (pc + 3) L (.ref σ.length :: st) (σ ++ [.inl (ci, fs)]) (cl + 1) (sl + N)) : V X R k n0 pc L st σ cl sl := by
  intro p l e s m args below meth c D ad0 ad A H locs ls hC ha hn hP hD hS hL
  have hw := hC.1.2.2.2.2
  refine va_new hC.1.1 hC.1.2.1 hw hF.2.1 ty hF.2.2.1 hC.1.2.2.2.1 (hw _ hcl) (hw _ hins) (hw _ hini) hC.2.2.1 hP hD hS hC.2.2.2.1 hF.1 hfs hc hs hd (fun q H1 hP1 hD1 hS1 => ?_)
  obtain ⟨ad2, e1, e2, e3, e4, e5, e6, e7⟩ := f_push (e := .inl (ci, fs)) (st := st) ha hn hfr (fun a => by show Sum.inr (ci, fs.map (ftr a)) = _; rw [hnr]) hP1 hD1 hL
  have h := kk p l e s m args below meth c D ad0 ad2 A H1 locs ls hC e2 e3 e4 e5 hS1 e6
  have h2 : (Value.ref σ.length :: st).map (ftr ad2) = .ref q :: st.map (ftr ad) := by
    rw [List.map_cons, e7]
    show Value.ref (ad2 σ.length) :: _ = _
    rw [e1]
  rw [h2] at h
  exact h
theorem V.newI {n : Int32} {N : Nat} {f : Nat → Int32} (hf : f = fun _ => 0) (hd : decode (kb k) pc = .ok (.newarray .int, 2)) (harr : Cond.arrayClass .int ∈ fAll) (hn0 : ¬ n < 0) (hN : n.toNatClampNeg = N) (hb : N * 4 ≤ 536870912) (hfr : fFresh σ L st = true) (hc : cl + 1 ≤ R.cells) (hs : sl + N ≤ R.slots)
    (kk : V X R k n0 (pc + 2) L (.ref σ.length :: st) (σ ++ [.inr (N, .inl f)]) (cl + 1) (sl + N)) : V X R k n0 pc L (.int n :: st) σ cl sl := by
  subst hf
  intro p l e s m args below meth c D ad0 ad A H locs ls hC ha hn hP hD hS hL
  have hw := hC.1.2.2.2.2
  refine va_newa (atype := .int) (a0 := (N, .inl fun _ => 0)) hC.1.1 hC.1.2.1 (hw _ harr) rfl hC.2.2.1 hP hD hS hC.2.2.2.1 (fun cA => rfl) hn0 hN hb hc hs hd (fun q cA H1 hK1 hP1 hD1 hS1 => ?_)
  have hcA : cA = D.1.1 := by
    have g1 := (hK1.2 2 (cA, .int) rfl).2
    have g2 := (hK1.2 0 (D.1.1, .int) rfl).2
    exact Option.some.inj (g1.symm.trans g2)
  subst hcA
  obtain ⟨ad2, e1, e2, e3, e4, e5, e6, e7⟩ := f_push (e := .inr (N, .inl fun _ => 0)) (st := st) ha hn hfr (fun a => rfl) hP1 hD1 hL
  have h := kk p l e s m args below meth c D ad0 ad2 A H1 locs ls hC e2 e3 e4 e5 hS1 e6
  have h2 : (Value.ref σ.length :: st).map (ftr ad2) = .ref q :: st.map (ftr ad) := by
    rw [List.map_cons, e7]
    show Value.ref (ad2 σ.length) :: _ = _
    rw [e1]
  rw [h2] at h
  exact h
theorem V.objInit {q index : Nat} (hd : decode (kb k) pc = .ok (.invokespecial index, 3)) (hlk : Cond.methodLink (ky k).cls index Lib.objectInit ∈ fAll) (hin : Cond.instanceMethod Lib.objectInit ∈ fAll) (hco : Cond.code Lib.objectInit ⟨#[0xb1]⟩ 1 none ∈ fAll) (hRf : 1 ≤ R.frames) (hRl : (st.map fun v => v.category).sum + 12 ≤ R.locals)
    (kk : V X R k n0 (pc + 3) L st σ cl sl) : V X R k n0 pc L (.ref q :: st) σ cl sl := by
  intro p l e s m args below meth c D ad0 ad A H locs ls hC ha hn hP hD hS hL
  have hw := hC.1.2.2.2.2
  refine W.objInit hC.1.1 hC.1.2.1 hC.1.2.2.2.1 (hw _ hlk) (hw _ hin) (hw _ hco) rfl (hL.1.trans hC.1.2.2.1.symm) (rest := st.map (ftr ad)) rfl hd hRf ?_ ?_
  · show 2 * 0 + ((st.map (ftr ad)).map fun v => v.category).sum + 12 ≤ R.locals
    rw [f_catsum]
    omega
  · exact kk p l e s m args below meth c D ad0 ad A H locs ls hC ha hn hP hD hS hL
/-- the callee's places seen from the caller, new ones behind the caller's N -/
def fgr (pl : List Nat) (N : Nat) (j : Nat) : Nat := match pl[j]? with
  | some q => q
  | none => if j < 1000 then N + (j - pl.length) else j
theorem fre_same {g1 g2 : Nat → Nat} {n : Nat} (h : ∀ i, i < n ∨ 1000 ≤ i → g1 i = g2 i) {e : fE} (he : oke n e = true) : fre g1 e = fre g2 e := by
  rcases e with ⟨ci, fs⟩ | x
  · show Sum.inl (ci, fs.map _) = Sum.inl (ci, fs.map _)
    congr 2
    exact List.map_congr_left fun v hv => ftr_same h (List.all_eq_true.mp he v hv)
  · rfl
/-- the caller's world behind a call that may have made cells -/
theorem f_postG {D : fD} {ad ad' : Nat → Nat} {A : Nat → Prop} {H : Heap} {σ σc σc' : List fE} {pl : List Nat} {st₀ t : State} (hP : va_P D.2 vwCl (fw D ad σ) H) (hD : va_D A (fw D ad σ)) (hcut : fcut σ pl σc) (hnd : pl.Nodup)
    (hσ : σ.all (oke σ.length) = true) (hc : σc'.all (oke σc'.length) = true) (hlen : σc.length ≤ σc'.length) (hmax : σ.length + σc'.length < 1000)
    (hsub : ∀ q, va_A (fw D (fun j => ad (fpl pl j)) σc) H.size q → A q)
    (hE : fEnd σc.length (fun j => ad (fpl pl j)) ad' D (va_A (fw D (fun j => ad (fpl pl j)) σc) H.size) σc' st₀ t) (hst : st₀.heap = H) :
    ∃ ad2 : Nat → Nat, (∀ i, i < σ.length ∨ 1000 ≤ i → ad2 i = ad i) ∧ (∀ j, j < σc'.length ∨ 1000 ≤ j → ad2 (fgr pl σ.length j) = ad' j) ∧
      va_P D.2 vwCl (fw D ad2 (fput (fgr pl σ.length) pl σc' σ ++ (σc'.drop pl.length).map (fre (fgr pl σ.length)))) t.heap ∧ va_D A (fw D ad2 (fput (fgr pl σ.length) pl σc' σ ++ (σc'.drop pl.length).map (fre (fgr pl σ.length)))) := by
  have hl := fcut_len hcut
  obtain ⟨hag, -, hP', hD', hF⟩ := hE
  rw [← hl] at hag hlen
  have hplN : ∀ q ∈ pl, q < σ.length := by
    intro q hq
    obtain ⟨j, hj⟩ := List.getElem?_of_mem hq
    have hjl : j < σc.length := by rw [← hl]; exact (List.getElem?_eq_some_iff.mp hj).1
    obtain ⟨q2, h1, h2⟩ := fcut_at hcut (List.getElem?_eq_getElem hjl)
    cases Option.some.inj (hj.symm.trans h1)
    exact (List.getElem?_eq_some_iff.mp h2).1
  obtain ⟨ad2, hdef⟩ : ∃ ad2 : Nat → Nat, ∀ i, ad2 i = if σ.length ≤ i ∧ i < 1000 then ad' (i - σ.length + pl.length) else ad i := ⟨_, fun _ => rfl⟩
  have hold : ∀ i, i < σ.length ∨ 1000 ≤ i → ad2 i = ad i := fun i hi => by rw [hdef, if_neg (by omega)]
  have hnew : ∀ j, j < σc'.length ∨ 1000 ≤ j → ad2 (fgr pl σ.length j) = ad' j := by
    intro j hj
    unfold fgr
    cases hq : pl[j]? with
    | some q =>
      have hjl : j < pl.length := (List.getElem?_eq_some_iff.mp hq).1
      show ad2 q = ad' j
      rw [hold q (Or.inl (hplN q (List.mem_of_getElem? hq))), hag j (Or.inl hjl)]
      show ad q = ad (fpl pl j)
      unfold fpl
      rw [hq]
    | none =>
      have hjl : pl.length ≤ j := List.getElem?_eq_none_iff.mp hq
      show ad2 (if j < 1000 then σ.length + (j - pl.length) else j) = ad' j
      by_cases h1 : j < 1000
      · rw [if_pos h1, hdef, if_pos (by omega)]
        congr 1
        omega
      · rw [if_neg h1, hold j (Or.inr (by omega)), hag j (Or.inr (by omega))]
        show ad j = ad (fpl pl j)
        unfold fpl
        rw [hq]
  have hcell : ∀ e : fE, oke σc'.length e = true → fcv D ad2 (fre (fgr pl σ.length) e) = fcv D ad' e := fun e he => by
    rw [fcv_fre]
    exact fcv_same2 hnew he
  have hside : ∀ j e, σc'[j]? = some e → fcv D ad2 (fre (fgr pl σ.length) e) = fcv D ad' e := fun j e he => hcell e (List.all_eq_true.mp hc _ (List.mem_of_getElem? he))
  have hlen2 : (fput (fgr pl σ.length) pl σc' σ).length = σ.length := fput_len _ _ _ _
  -- each place of the new world is an old place that the callee doesn't have, or one of the callee's
  have key : ∀ (i : Nat) (x : Nat × va_E), (fw D ad2 (fput (fgr pl σ.length) pl σc' σ ++ (σc'.drop pl.length).map (fre (fgr pl σ.length))))[i]? = some x →
      (i < σ.length ∧ i ∉ pl ∧ (fw D ad σ)[i]? = some x) ∨ ∃ j, (fw D ad' σc')[j]? = some x ∧ ((pl[j]? = some i) ∨ (pl.length ≤ j ∧ i = σ.length + (j - pl.length))) := by
    intro i x hx
    obtain ⟨e, he, rfl⟩ := fw_of hx
    by_cases hi : i < σ.length
    · rw [List.getElem?_append_left (by rw [hlen2]; exact hi)] at he
      by_cases hm : i ∈ pl
      · obtain ⟨j, hj⟩ := List.getElem?_of_mem hm
        have hjl : j < pl.length := (List.getElem?_eq_some_iff.mp hj).1
        have hs : σc'[j]? = some (σc'[j]'(by omega)) := List.getElem?_eq_getElem _
        rw [fput_in _ _ _ _ hnd hj hs hi] at he
        have he := Option.some.inj he
        subst he
        refine Or.inr ⟨j, ?_, Or.inl hj⟩
        rw [fw_some hs, hside j _ hs]
        congr 2
        rw [hold i (Or.inl hi), hag j (Or.inl hjl)]
        show ad (fpl pl j) = ad i
        unfold fpl
        rw [hj]
      · rw [fput_out _ _ _ _ hm] at he
        refine Or.inl ⟨hi, hm, ?_⟩
        rw [fw_some he, hold i (Or.inl hi), fcv_same2 hold (List.all_eq_true.mp hσ _ (List.mem_of_getElem? he))]
    · rw [List.getElem?_append_right (by rw [hlen2]; omega), hlen2, List.getElem?_map, List.getElem?_drop] at he
      cases hs : σc'[pl.length + (i - σ.length)]? with
      | none => rw [hs] at he; cases he
      | some e2 =>
        rw [hs] at he
        have he := Option.some.inj he
        subst he
        have hlt : pl.length + (i - σ.length) < σc'.length := (List.getElem?_eq_some_iff.mp hs).1
        refine Or.inr ⟨pl.length + (i - σ.length), ?_, Or.inr ⟨by omega, by omega⟩⟩
        rw [fw_some hs, hside _ _ hs]
        congr 2
        rw [hdef, if_pos (by omega)]
        congr 1
        omega
  have old_lt : ∀ (i : Nat) (x : Nat × va_E), (fw D ad σ)[i]? = some x → x.1 < H.size := fun i x hx => (hP i x hx).lt
  have old_apart : ∀ (i : Nat) (x : Nat × va_E), i ∉ pl → (fw D ad σ)[i]? = some x → ¬ va_A (fw D (fun j => ad (fpl pl j)) σc) H.size x.1 := by
    rintro i x hi hx (⟨j, y, hj⟩ | h)
    · obtain ⟨e2, he2, hy⟩ := fw_of hj
      obtain ⟨q2, hq2, hs2⟩ := fcut_at hcut he2
      obtain ⟨e1, he1, rfl⟩ := fw_of hx
      have ha : ad i = ad q2 := by
        have := congrArg Prod.fst hy
        dsimp only at this
        rw [this]
        unfold fpl
        rw [hq2]
      have hiq := hD.1 i q2 _ _ (fw_some he1) (fw_some hs2) ha
      exact hi (by rw [hiq]; exact List.mem_of_getElem? hq2)
    · exact absurd (old_lt i x hx) (Nat.not_lt.mpr h)
  refine ⟨ad2, hold, hnew, ?_, ?_, ?_⟩
  · intro i x hx
    rcases key i x hx with ⟨hi, hm, h1⟩ | ⟨j, h1, -⟩
    · refine (hP i x h1).kept ?_
      have := hF.2 x.1 (by rw [hst]; exact old_lt i x h1) (old_apart i x hm h1)
      rw [hst] at this
      exact this
    · exact hP' j x h1
  · intro i i2 x y hx hy hxy
    rcases key i x hx with ⟨hi, hm, h1⟩ | ⟨j, h1, h2⟩
    · rcases key i2 y hy with ⟨hi2, hm2, g1⟩ | ⟨j2, g1, g2⟩
      · exact hD.1 i i2 x y h1 g1 hxy
      · exact absurd (by rw [hxy]; exact hD'.2 j2 y g1) (old_apart i x hm h1)
    · rcases key i2 y hy with ⟨hi2, hm2, g1⟩ | ⟨j2, g1, g2⟩
      · exact absurd (by rw [← hxy]; exact hD'.2 j x h1) (old_apart i2 y hm2 g1)
      · have := hD'.1 j j2 x y h1 g1 hxy
        subst this
        rcases h2 with h2 | ⟨h2, h3⟩
        · rcases g2 with g2 | ⟨g2, g3⟩
          · exact Option.some.inj (h2.symm.trans g2)
          · exact absurd (List.getElem?_eq_some_iff.mp h2).1 (by omega)
        · rcases g2 with g2 | ⟨g2, g3⟩
          · exact absurd (List.getElem?_eq_some_iff.mp g2).1 (by omega)
          · omega
  · intro i x hx
    rcases key i x hx with ⟨hi, hm, h1⟩ | ⟨j, h1, -⟩
    · exact hD.2 i x h1
    · exact hsub _ (hD'.2 j x h1)
end CATCH
