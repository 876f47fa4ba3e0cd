/-! THE FACADE, 2: the judgement V (from here the method ends so), rows of single instructions -/
/-- the handlers of a key, as the machine has them -/
def ftab (k : fK) (c : Code) : Prop := kh k = [(0, 0, 0, 0)] ∨ c.exceptionTable.toList.map (fun h => (h.startPc, h.endPc, h.handlerPc, h.catchType)) = kh k
/-- what stands fixed while a method runs -/
def fCx (k : fK) (R : Room) (D : fD) (ad : Nat → Nat) (A : Nat → Prop) (p : Program) (l : Launch) (s : State) (m : MethodId) (args : Array Value) (meth : Method) (c : Code) : Prop :=
  (p.tables.exec = Jvm.exec ∧ c.code = kb k ∧ c.maxLocals = kn k ∧ s.vm.findClass (ky k).cls = some m.cls ∧ (∀ w ∈ fAll, w.before args s = true)) ∧
  (meth.sig.returnType = kr k ∧ meth.locks = false ∧ ftab k c ∧ (kh k = [(0, 0, 0, 0)] ∨ meth.name = (ky k).name) ∧ l.stackTraces = false) ∧
  va_K D.2 vwCl [(D.1.1, .int), (D.1.2, .byte)] s ∧ (∀ q, s.heap.size ≤ q → A q) ∧ fSt ad A s s.heap
/-- locals: known ones by their places, refs as places -/
def fal (ad : Nat → Nat) : Nat → List (Option Value) → List (Nat × Value)
  | _, [] => []
  | i, none :: L => fal ad (i + 1) L
  | i, some v :: L => (i, ftr ad v) :: fal ad (i + 1) L
theorem fal_mem {ad : Nat → Nat} {q : Nat × Value} : ∀ {L : List (Option Value)} {i : Nat}, q ∈ fal ad i L ↔ ∃ j v, L[j]? = some (some v) ∧ q = (i + j, ftr ad v) := by
  intro L
  induction L with
  | nil => intro i; constructor
           · intro h; cases h
           · rintro ⟨j, v, h, -⟩; simp at h
  | cons o L ih =>
    intro i
    cases o with
    | none =>
      rw [fal, ih]
      constructor
      · rintro ⟨j, v, h, e⟩
        exact ⟨j + 1, v, by simpa using h, by rw [e]; congr 1; omega⟩
      · rintro ⟨j, v, h, e⟩
        cases j with
        | zero => simp at h
        | succ j => exact ⟨j, v, by simpa using h, by rw [e]; congr 1; omega⟩
    | some w =>
      rw [fal, List.mem_cons, ih]
      constructor
      · rintro (rfl | ⟨j, v, h, e⟩)
        · exact ⟨0, w, by simp, rfl⟩
        · exact ⟨j + 1, v, by simpa using h, by rw [e]; congr 1; omega⟩
      · rintro ⟨j, v, h, e⟩
        cases j with
        | zero => simp at h; subst h; exact Or.inl e
        | succ j => exact Or.inr ⟨j, v, by simpa using h, by rw [e]; congr 1; omega⟩
def fL (ls : Array Slot) (n : Nat) (ad : Nat → Nat) (L : List (Option Value)) : Prop := lv_has ls n (fal ad 0 L)
theorem fL.at {ls : Array Slot} {n : Nat} {ad : Nat → Nat} {L : List (Option Value)} (h : fL ls n ad L) {i : Nat} {v : Value} (hi : L[i]? = some (some v)) : ls[i]? = some (.val (ftr ad v)) :=
  h.2.2 (i, ftr ad v) (fal_mem.mpr ⟨i, v, hi, by rw [Nat.zero_add]⟩)
theorem fL.sub {ls : Array Slot} {n : Nat} {ad : Nat → Nat} {L L' : List (Option Value)} (h : fL ls n ad L) (hs : ∀ (i : Nat) (v : Value), L'[i]? = some (some v) → L[i]? = some (some v)) : fL ls n ad L' :=
  ⟨h.1, h.2.1, fun q hq => by
    obtain ⟨j, v, h1, rfl⟩ := fal_mem.mp hq
    exact h.2.2 _ (fal_mem.mpr ⟨j, v, hs j v h1, rfl⟩)⟩
/-- no value of two words starts right below i -/
def fok (L : List (Option Value)) : Nat → Bool
  | 0 => true
  | j + 1 => match L[j]? with
    | some (some v) => v.category == 1
    | _ => true
theorem fok_spec {L : List (Option Value)} {i j : Nat} {v : Value} (h : fok L i = true) (hij : j + 1 = i) (hj : L[j]? = some (some v)) : v.category = 1 := by
  subst hij
  simp only [fok, hj, beq_iff_eq] at h
  exact h
theorem fL.put1 {ls : Array Slot} {n : Nat} {ad : Nat → Nat} {L : List (Option Value)} {i : Nat} {v : Value} (h : fL ls n ad L) (hok : fok L i = true)
    {ls' : Array Slot} (h' : lv_has ls' n ((i, ftr ad v) :: (fal ad 0 L).filter (fun q => !(q.1 == i) && !(q.1 + 1 == i && q.2.category == 2)))) : fL ls' n ad (L.set i (some v)) := by
  refine ⟨h'.1, h'.2.1, fun q hq => ?_⟩
  obtain ⟨j, w, h1, rfl⟩ := fal_mem.mp hq
  rw [List.getElem?_set] at h1
  by_cases hij : i = j
  · subst hij
    rw [if_pos rfl] at h1
    by_cases hl : i < L.length
    · rw [if_pos hl] at h1
      have : v = w := by simpa using h1
      subst this
      exact h'.2.2 _ (by rw [Nat.zero_add]; exact List.mem_cons_self)
    · rw [if_neg hl] at h1; cases h1
  · rw [if_neg hij] at h1
    refine h'.2.2 _ (List.mem_cons_of_mem _ (List.mem_filter.mpr ⟨hq' h1, ?_⟩))
    simp only [Nat.zero_add, ftr_cat, Bool.and_eq_true, Bool.not_eq_true', beq_eq_false_iff_ne, ne_eq, Bool.and_eq_false_imp, beq_iff_eq]
    refine ⟨fun e => hij e.symm, fun e e2 => ?_⟩
    rw [fok_spec hok e h1] at e2
    cases e2
where
  hq' {j : Nat} {w : Value} (h1 : L[j]? = some (some w)) : (0 + j, ftr ad w) ∈ fal ad 0 L := fal_mem.mpr ⟨j, w, h1, rfl⟩
theorem fL.put2 {ls : Array Slot} {n : Nat} {ad : Nat → Nat} {L : List (Option Value)} {i : Nat} {v : Value} (h : fL ls n ad L) (hok : fok L i = true)
    {ls' : Array Slot} (h' : lv_has ls' n ((i, ftr ad v) :: (fal ad 0 L).filter (fun q => !(q.1 == i) && (!(q.1 == i + 1) && !(q.1 + 1 == i && q.2.category == 2))))) : fL ls' n ad ((L.set i (some v)).set (i + 1) none) := by
  refine ⟨h'.1, h'.2.1, fun q hq => ?_⟩
  obtain ⟨j, w, h1, rfl⟩ := fal_mem.mp hq
  rw [List.getElem?_set] at h1
  by_cases hi1 : i + 1 = j
  · rw [if_pos hi1] at h1
    split at h1 <;> cases h1
  rw [if_neg hi1, List.getElem?_set] at h1
  by_cases hij : i = j
  · subst hij
    rw [if_pos rfl] at h1
    by_cases hl : i < L.length
    · rw [if_pos hl] at h1
      have : v = w := by simpa using h1
      subst this
      exact h'.2.2 _ (by rw [Nat.zero_add]; exact List.mem_cons_self)
    · rw [if_neg hl] at h1; cases h1
  · rw [if_neg hij] at h1
    refine h'.2.2 _ (List.mem_cons_of_mem _ (List.mem_filter.mpr ⟨fal_mem.mpr ⟨j, w, h1, rfl⟩, ?_⟩))
    simp only [Nat.zero_add, ftr_cat, Bool.and_eq_true, Bool.not_eq_true', beq_eq_false_iff_ne, ne_eq, Bool.and_eq_false_imp, beq_iff_eq]
    refine ⟨fun e => hij e.symm, fun e => hi1 e.symm, fun e e2 => ?_⟩
    rw [fok_spec hok e h1] at e2
    cases e2
/-- an end: of the world's places and cells, the frames below, the arguments, the start -/
abbrev fX : Type := fD → (Nat → Nat) → (Nat → Prop) → List Frame → Array Value → State → State → Prop
/-- FROM HERE THE METHOD ENDS SO: at pc, with locals L, stack st, the world σ, so many cells and slots made -/
def V (X : fX) (R : Room) (k : fK) (n0 : Nat) (pc : Nat) (L : List (Option Value)) (st : List Value) (σ : List fE) (cl sl : Nat) : Prop :=
  ∀ (p : Program) (l : Launch) (e : Env) (s : State) (m : MethodId) (args : Array Value) (below : List Frame) (meth : Method) (c : Code) (D : fD) (ad0 ad : Nat → Nat) (A : Nat → Prop) (H : Heap) (locs : List Loc) (ls : Array Slot),
    fCx k R D ad0 A p l s m args meth c → (∀ i, i < n0 ∨ 1000 ≤ i → ad i = ad0 i) → n0 ≤ σ.length → va_P D.2 vwCl (fw D ad σ) H → va_D A (fw D ad σ) → va_S A s.heap H locs → fL ls (kn k) ad L →
    W p l e R s m args below meth c H locs cl sl (X D ad0 A below args s) (F0 m pc ls (st.map (ftr ad)))
section ROWS
variable {X : fX} {R : Room} {k : fK} {n0 pc : Nat} {L L' : List (Option Value)} {st : List Value} {σ σ' : List fE} {cl sl : Nat}
theorem V.iconst {n : Int} {v : Int32} (hd : decode (kb k) pc = .ok (.iconst n, 1)) (hv : Int32.ofInt n = v) (kk : V X R k n0 (pc + 1) L (.int v :: st) σ cl sl) : V X R k n0 pc L st σ cl sl :=
  fun p l e s m args below meth c D ad0 ad A H locs ls hC ha hn hP hD hS hL => lv_iconst hC.1.1 hC.1.2.1 hd hv (kk p l e s m args below meth c D ad0 ad A H locs ls hC ha hn hP hD hS hL)
theorem V.bipush {n : Int} {v : Int32} (hd : decode (kb k) pc = .ok (.bipush n, 2)) (hv : (Int8.ofInt n).toInt32 = v) (kk : V X R k n0 (pc + 2) L (.int v :: st) σ cl sl) : V X R k n0 pc L st σ cl sl :=
  fun p l e s m args below meth c D ad0 ad A H locs ls hC ha hn hP hD hS hL => lv_bipush hC.1.1 hC.1.2.1 hd hv (kk p l e s m args below meth c D ad0 ad A H locs ls hC ha hn hP hD hS hL)
theorem V.sipush {n : Int} {v : Int32} (hd : decode (kb k) pc = .ok (.sipush n, 3)) (hv : (Int16.ofInt n).toInt32 = v) (kk : V X R k n0 (pc + 3) L (.int v :: st) σ cl sl) : V X R k n0 pc L st σ cl sl :=
  fun p l e s m args below meth c D ad0 ad A H locs ls hC ha hn hP hD hS hL => lv_sipush hC.1.1 hC.1.2.1 hd hv (kk p l e s m args below meth c D ad0 ad A H locs ls hC ha hn hP hD hS hL)
theorem V.lconst {n : Fin 2} {v : Int64} (hd : decode (kb k) pc = .ok (.lconst n, 1)) (hv : Int64.ofNat (n : Nat) = v) (kk : V X R k n0 (pc + 1) L (.long v :: st) σ cl sl) : V X R k n0 pc L st σ cl sl :=
  fun p l e s m args below meth c D ad0 ad A H locs ls hC ha hn hP hD hS hL => lv_lconst hC.1.1 hC.1.2.1 hd hv (kk p l e s m args below meth c D ad0 ad A H locs ls hC ha hn hP hD hS hL)
theorem V.dconst0  (hd : decode (kb k) pc = .ok (.dconst 0, 1))  (kk : V X R k n0 (pc + 1) L (.double 0 :: st) σ cl sl) : V X R k n0 pc L st σ cl sl :=
  fun p l e s m args below meth c D ad0 ad A H locs ls hC ha hn hP hD hS hL => lv_dconst0 hC.1.1 hC.1.2.1 hd (kk p l e s m args below meth c D ad0 ad A H locs ls hC ha hn hP hD hS hL)
theorem V.dconst1  (hd : decode (kb k) pc = .ok (.dconst 1, 1))  (kk : V X R k n0 (pc + 1) L (.double FP.dconst1 :: st) σ cl sl) : V X R k n0 pc L st σ cl sl :=
  fun p l e s m args below meth c D ad0 ad A H locs ls hC ha hn hP hD hS hL => lv_dconst1 hC.1.1 hC.1.2.1 hd (kk p l e s m args below meth c D ad0 ad A H locs ls hC ha hn hP hD hS hL)
theorem V.iload_n {j : Fin 4} {i : Nat} {x : Int32} (hd : decode (kb k) pc = .ok (.iload_n j, 1)) (hi : (j : Nat) = i) (hl : L[i]? = some (some (.int x))) (kk : V X R k n0 (pc + 1) L (.int x :: st) σ cl sl) : V X R k n0 pc L st σ cl sl :=
  fun p l e s m args below meth c D ad0 ad A H locs ls hC ha hn hP hD hS hL => lv_iload_n hC.1.1 hC.1.2.1 hd hi (hL.at hl) (kk p l e s m args below meth c D ad0 ad A H locs ls hC ha hn hP hD hS hL)
theorem V.iload {i : Nat} {x : Int32} (hd : decode (kb k) pc = .ok (.iload i, 2)) (hl : L[i]? = some (some (.int x))) (kk : V X R k n0 (pc + 2) L (.int x :: st) σ cl sl) : V X R k n0 pc L st σ cl sl :=
  fun p l e s m args below meth c D ad0 ad A H locs ls hC ha hn hP hD hS hL => lv_iload hC.1.1 hC.1.2.1 hd (hL.at hl) (kk p l e s m args below meth c D ad0 ad A H locs ls hC ha hn hP hD hS hL)
theorem V.istore_n {j : Fin 4} {i : Nat} {x : Int32} (hd : decode (kb k) pc = .ok (.istore_n j, 1)) (hi : (j : Nat) = i) (hn : i < kn k) (hok : fok L i = true) (hL' : L.set i (some (.int x)) = L') (kk : V X R k n0 (pc + 1) L' st σ cl sl) : V X R k n0 pc L (.int x :: st) σ cl sl := by
  intro p l e s m args below meth c D ad0 ad A H locs ls hC ha hn1 hP hD hS hL
  subst hL'
  exact lv_istore_n hC.1.1 hC.1.2.1 hd hi hL hn rfl (fun ls' h' => kk p l e s m args below meth c D ad0 ad A H locs ls' hC ha hn1 hP hD hS (hL.put1 hok h'))
theorem V.istore {i : Nat} {x : Int32} (hd : decode (kb k) pc = .ok (.istore i, 2)) (hn : i < kn k) (hok : fok L i = true) (hL' : L.set i (some (.int x)) = L') (kk : V X R k n0 (pc + 2) L' st σ cl sl) : V X R k n0 pc L (.int x :: st) σ cl sl := by
  intro p l e s m args below meth c D ad0 ad A H locs ls hC ha hn1 hP hD hS hL
  subst hL'
  exact lv_istore hC.1.1 hC.1.2.1 hd hL hn rfl (fun ls' h' => kk p l e s m args below meth c D ad0 ad A H locs ls' hC ha hn1 hP hD hS (hL.put1 hok h'))
theorem V.lload_n {j : Fin 4} {i : Nat} {x : Int64} (hd : decode (kb k) pc = .ok (.lload_n j, 1)) (hi : (j : Nat) = i) (hl : L[i]? = some (some (.long x))) (kk : V X R k n0 (pc + 1) L (.long x :: st) σ cl sl) : V X R k n0 pc L st σ cl sl :=
  fun p l e s m args below meth c D ad0 ad A H locs ls hC ha hn hP hD hS hL => lv_lload_n hC.1.1 hC.1.2.1 hd hi (hL.at hl) (kk p l e s m args below meth c D ad0 ad A H locs ls hC ha hn hP hD hS hL)
theorem V.lload {i : Nat} {x : Int64} (hd : decode (kb k) pc = .ok (.lload i, 2)) (hl : L[i]? = some (some (.long x))) (kk : V X R k n0 (pc + 2) L (.long x :: st) σ cl sl) : V X R k n0 pc L st σ cl sl :=
  fun p l e s m args below meth c D ad0 ad A H locs ls hC ha hn hP hD hS hL => lv_lload hC.1.1 hC.1.2.1 hd (hL.at hl) (kk p l e s m args below meth c D ad0 ad A H locs ls hC ha hn hP hD hS hL)
theorem V.lstore_n {j : Fin 4} {i : Nat} {x : Int64} (hd : decode (kb k) pc = .ok (.lstore_n j, 1)) (hi : (j : Nat) = i) (hn : i + 1 < kn k) (hok : fok L i = true) (hL' : (L.set i (some (.long x))).set (i + 1) none = L') (kk : V X R k n0 (pc + 1) L' st σ cl sl) : V X R k n0 pc L (.long x :: st) σ cl sl := by
  intro p l e s m args below meth c D ad0 ad A H locs ls hC ha hn1 hP hD hS hL
  subst hL'
  exact lv_lstore_n hC.1.1 hC.1.2.1 hd hi hL hn rfl (fun ls' h' => kk p l e s m args below meth c D ad0 ad A H locs ls' hC ha hn1 hP hD hS (hL.put2 hok h'))
theorem V.lstore {i : Nat} {x : Int64} (hd : decode (kb k) pc = .ok (.lstore i, 2)) (hn : i + 1 < kn k) (hok : fok L i = true) (hL' : (L.set i (some (.long x))).set (i + 1) none = L') (kk : V X R k n0 (pc + 2) L' st σ cl sl) : V X R k n0 pc L (.long x :: st) σ cl sl := by
  intro p l e s m args below meth c D ad0 ad A H locs ls hC ha hn1 hP hD hS hL
  subst hL'
  exact lv_lstore hC.1.1 hC.1.2.1 hd hL hn rfl (fun ls' h' => kk p l e s m args below meth c D ad0 ad A H locs ls' hC ha hn1 hP hD hS (hL.put2 hok h'))
theorem V.dload_n {j : Fin 4} {i : Nat} {x : UInt64} (hd : decode (kb k) pc = .ok (.dload_n j, 1)) (hi : (j : Nat) = i) (hl : L[i]? = some (some (.double x))) (kk : V X R k n0 (pc + 1) L (.double x :: st) σ cl sl) : V X R k n0 pc L st σ cl sl :=
  fun p l e s m args below meth c D ad0 ad A H locs ls hC ha hn hP hD hS hL => lv_dload_n hC.1.1 hC.1.2.1 hd hi (hL.at hl) (kk p l e s m args below meth c D ad0 ad A H locs ls hC ha hn hP hD hS hL)
theorem V.dload {i : Nat} {x : UInt64} (hd : decode (kb k) pc = .ok (.dload i, 2)) (hl : L[i]? = some (some (.double x))) (kk : V X R k n0 (pc + 2) L (.double x :: st) σ cl sl) : V X R k n0 pc L st σ cl sl :=
  fun p l e s m args below meth c D ad0 ad A H locs ls hC ha hn hP hD hS hL => lv_dload hC.1.1 hC.1.2.1 hd (hL.at hl) (kk p l e s m args below meth c D ad0 ad A H locs ls hC ha hn hP hD hS hL)
theorem V.dstore_n {j : Fin 4} {i : Nat} {x : UInt64} (hd : decode (kb k) pc = .ok (.dstore_n j, 1)) (hi : (j : Nat) = i) (hn : i + 1 < kn k) (hok : fok L i = true) (hL' : (L.set i (some (.double x))).set (i + 1) none = L') (kk : V X R k n0 (pc + 1) L' st σ cl sl) : V X R k n0 pc L (.double x :: st) σ cl sl := by
  intro p l e s m args below meth c D ad0 ad A H locs ls hC ha hn1 hP hD hS hL
  subst hL'
  exact lv_dstore_n hC.1.1 hC.1.2.1 hd hi hL hn rfl (fun ls' h' => kk p l e s m args below meth c D ad0 ad A H locs ls' hC ha hn1 hP hD hS (hL.put2 hok h'))
theorem V.dstore {i : Nat} {x : UInt64} (hd : decode (kb k) pc = .ok (.dstore i, 2)) (hn : i + 1 < kn k) (hok : fok L i = true) (hL' : (L.set i (some (.double x))).set (i + 1) none = L') (kk : V X R k n0 (pc + 2) L' st σ cl sl) : V X R k n0 pc L (.double x :: st) σ cl sl := by
  intro p l e s m args below meth c D ad0 ad A H locs ls hC ha hn1 hP hD hS hL
  subst hL'
  exact lv_dstore hC.1.1 hC.1.2.1 hd hL hn rfl (fun ls' h' => kk p l e s m args below meth c D ad0 ad A H locs ls' hC ha hn1 hP hD hS (hL.put2 hok h'))
theorem V.aload_n {j : Fin 4} {i : Nat} {x : Nat} (hd : decode (kb k) pc = .ok (.aload_n j, 1)) (hi : (j : Nat) = i) (hl : L[i]? = some (some (.ref x))) (kk : V X R k n0 (pc + 1) L (.ref x :: st) σ cl sl) : V X R k n0 pc L st σ cl sl :=
  fun p l e s m args below meth c D ad0 ad A H locs ls hC ha hn hP hD hS hL => lv_aload_n hC.1.1 hC.1.2.1 hd hi (hL.at hl) (kk p l e s m args below meth c D ad0 ad A H locs ls hC ha hn hP hD hS hL)
theorem V.aload {i : Nat} {x : Nat} (hd : decode (kb k) pc = .ok (.aload i, 2)) (hl : L[i]? = some (some (.ref x))) (kk : V X R k n0 (pc + 2) L (.ref x :: st) σ cl sl) : V X R k n0 pc L st σ cl sl :=
  fun p l e s m args below meth c D ad0 ad A H locs ls hC ha hn hP hD hS hL => lv_aload hC.1.1 hC.1.2.1 hd (hL.at hl) (kk p l e s m args below meth c D ad0 ad A H locs ls hC ha hn hP hD hS hL)
theorem V.astore_n {j : Fin 4} {i : Nat} {x : Nat} (hd : decode (kb k) pc = .ok (.astore_n j, 1)) (hi : (j : Nat) = i) (hn : i < kn k) (hok : fok L i = true) (hL' : L.set i (some (.ref x)) = L') (kk : V X R k n0 (pc + 1) L' st σ cl sl) : V X R k n0 pc L (.ref x :: st) σ cl sl := by
  intro p l e s m args below meth c D ad0 ad A H locs ls hC ha hn1 hP hD hS hL
  subst hL'
  exact lv_astore_n hC.1.1 hC.1.2.1 hd hi hL hn rfl (fun ls' h' => kk p l e s m args below meth c D ad0 ad A H locs ls' hC ha hn1 hP hD hS (hL.put1 hok h'))
theorem V.astore {i : Nat} {x : Nat} (hd : decode (kb k) pc = .ok (.astore i, 2)) (hn : i < kn k) (hok : fok L i = true) (hL' : L.set i (some (.ref x)) = L') (kk : V X R k n0 (pc + 2) L' st σ cl sl) : V X R k n0 pc L (.ref x :: st) σ cl sl := by
  intro p l e s m args below meth c D ad0 ad A H locs ls hC ha hn1 hP hD hS hL
  subst hL'
  exact lv_astore hC.1.1 hC.1.2.1 hd hL hn rfl (fun ls' h' => kk p l e s m args below meth c D ad0 ad A H locs ls' hC ha hn1 hP hD hS (hL.put1 hok h'))
theorem V.iinc {i : Nat} {n : Int} {x v : Int32} (hd : decode (kb k) pc = .ok (.iinc i n, 3)) (hl : L[i]? = some (some (.int x))) (hv : x + Int32.ofInt n = v) (hn : i < kn k) (hok : fok L i = true) (hL' : L.set i (some (.int v)) = L') (kk : V X R k n0 (pc + 3) L' st σ cl sl) : V X R k n0 pc L st σ cl sl := by
  intro p l e s m args below meth c D ad0 ad A H locs ls hC ha hn1 hP hD hS hL
  subst hL'
  obtain ⟨j, hj⟩ := List.getElem?_of_mem (fal_mem (ad := ad) (i := 0).mpr ⟨i, _, hl, rfl⟩)
  rw [Nat.zero_add] at hj
  exact lv_iinc hC.1.1 hC.1.2.1 hd hL hj hv hn rfl (fun ls' h' => kk p l e s m args below meth c D ad0 ad A H locs ls' hC ha hn1 hP hD hS (hL.put1 hok h'))
theorem V.iadd {x y : Int32} (hd : decode (kb k) pc = .ok (.iadd, 1))  (kk : V X R k n0 (pc + 1) L (.int (x + y) :: st) σ cl sl) : V X R k n0 pc L (.int y :: .int x :: st) σ cl sl :=
  fun p l e s m args below meth c D ad0 ad A H locs ls hC ha hn hP hD hS hL => lv_iadd hC.1.1 hC.1.2.1 hd (kk p l e s m args below meth c D ad0 ad A H locs ls hC ha hn hP hD hS hL)
theorem V.isub {x y : Int32} (hd : decode (kb k) pc = .ok (.isub, 1))  (kk : V X R k n0 (pc + 1) L (.int (x - y) :: st) σ cl sl) : V X R k n0 pc L (.int y :: .int x :: st) σ cl sl :=
  fun p l e s m args below meth c D ad0 ad A H locs ls hC ha hn hP hD hS hL => lv_isub hC.1.1 hC.1.2.1 hd (kk p l e s m args below meth c D ad0 ad A H locs ls hC ha hn hP hD hS hL)
theorem V.imul {x y : Int32} (hd : decode (kb k) pc = .ok (.imul, 1))  (kk : V X R k n0 (pc + 1) L (.int (x * y) :: st) σ cl sl) : V X R k n0 pc L (.int y :: .int x :: st) σ cl sl :=
  fun p l e s m args below meth c D ad0 ad A H locs ls hC ha hn hP hD hS hL => lv_imul hC.1.1 hC.1.2.1 hd (kk p l e s m args below meth c D ad0 ad A H locs ls hC ha hn hP hD hS hL)
theorem V.iand {x y : Int32} (hd : decode (kb k) pc = .ok (.iand, 1))  (kk : V X R k n0 (pc + 1) L (.int (x &&& y) :: st) σ cl sl) : V X R k n0 pc L (.int y :: .int x :: st) σ cl sl :=
  fun p l e s m args below meth c D ad0 ad A H locs ls hC ha hn hP hD hS hL => lv_iand hC.1.1 hC.1.2.1 hd (kk p l e s m args below meth c D ad0 ad A H locs ls hC ha hn hP hD hS hL)
theorem V.ior {x y : Int32} (hd : decode (kb k) pc = .ok (.ior, 1))  (kk : V X R k n0 (pc + 1) L (.int (x ||| y) :: st) σ cl sl) : V X R k n0 pc L (.int y :: .int x :: st) σ cl sl :=
  fun p l e s m args below meth c D ad0 ad A H locs ls hC ha hn hP hD hS hL => lv_ior hC.1.1 hC.1.2.1 hd (kk p l e s m args below meth c D ad0 ad A H locs ls hC ha hn hP hD hS hL)
theorem V.ixor {x y : Int32} (hd : decode (kb k) pc = .ok (.ixor, 1))  (kk : V X R k n0 (pc + 1) L (.int (x ^^^ y) :: st) σ cl sl) : V X R k n0 pc L (.int y :: .int x :: st) σ cl sl :=
  fun p l e s m args below meth c D ad0 ad A H locs ls hC ha hn hP hD hS hL => lv_ixor hC.1.1 hC.1.2.1 hd (kk p l e s m args below meth c D ad0 ad A H locs ls hC ha hn hP hD hS hL)
theorem V.ishl {x y : Int32} (hd : decode (kb k) pc = .ok (.ishl, 1))  (kk : V X R k n0 (pc + 1) L (.int (x <<< (y &&& 31)) :: st) σ cl sl) : V X R k n0 pc L (.int y :: .int x :: st) σ cl sl :=
  fun p l e s m args below meth c D ad0 ad A H locs ls hC ha hn hP hD hS hL => lv_ishl hC.1.1 hC.1.2.1 hd (kk p l e s m args below meth c D ad0 ad A H locs ls hC ha hn hP hD hS hL)
theorem V.ishr {x y : Int32} (hd : decode (kb k) pc = .ok (.ishr, 1))  (kk : V X R k n0 (pc + 1) L (.int (x >>> (y &&& 31)) :: st) σ cl sl) : V X R k n0 pc L (.int y :: .int x :: st) σ cl sl :=
  fun p l e s m args below meth c D ad0 ad A H locs ls hC ha hn hP hD hS hL => lv_ishr hC.1.1 hC.1.2.1 hd (kk p l e s m args below meth c D ad0 ad A H locs ls hC ha hn hP hD hS hL)
theorem V.ineg {x : Int32} (hd : decode (kb k) pc = .ok (.ineg, 1))  (kk : V X R k n0 (pc + 1) L (.int (-x) :: st) σ cl sl) : V X R k n0 pc L (.int x :: st) σ cl sl :=
  fun p l e s m args below meth c D ad0 ad A H locs ls hC ha hn hP hD hS hL => lv_ineg hC.1.1 hC.1.2.1 hd (kk p l e s m args below meth c D ad0 ad A H locs ls hC ha hn hP hD hS hL)
theorem V.idiv {x y : Int32} (hd : decode (kb k) pc = .ok (.idiv, 1)) (hne : ¬ y = 0) (kk : V X R k n0 (pc + 1) L (.int (x / y) :: st) σ cl sl) : V X R k n0 pc L (.int y :: .int x :: st) σ cl sl :=
  fun p l e s m args below meth c D ad0 ad A H locs ls hC ha hn hP hD hS hL => lv_idiv hC.1.1 hC.1.2.1 hd hne (kk p l e s m args below meth c D ad0 ad A H locs ls hC ha hn hP hD hS hL)
theorem V.irem {x y : Int32} (hd : decode (kb k) pc = .ok (.irem, 1)) (hne : ¬ y = 0) (kk : V X R k n0 (pc + 1) L (.int (x - x / y * y) :: st) σ cl sl) : V X R k n0 pc L (.int y :: .int x :: st) σ cl sl :=
  fun p l e s m args below meth c D ad0 ad A H locs ls hC ha hn hP hD hS hL => lv_irem hC.1.1 hC.1.2.1 hd hne (kk p l e s m args below meth c D ad0 ad A H locs ls hC ha hn hP hD hS hL)
theorem V.ladd {x y : Int64} (hd : decode (kb k) pc = .ok (.ladd, 1))  (kk : V X R k n0 (pc + 1) L (.long (x + y) :: st) σ cl sl) : V X R k n0 pc L (.long y :: .long x :: st) σ cl sl :=
  fun p l e s m args below meth c D ad0 ad A H locs ls hC ha hn hP hD hS hL => lv_ladd hC.1.1 hC.1.2.1 hd (kk p l e s m args below meth c D ad0 ad A H locs ls hC ha hn hP hD hS hL)
theorem V.lsub {x y : Int64} (hd : decode (kb k) pc = .ok (.lsub, 1))  (kk : V X R k n0 (pc + 1) L (.long (x - y) :: st) σ cl sl) : V X R k n0 pc L (.long y :: .long x :: st) σ cl sl :=
  fun p l e s m args below meth c D ad0 ad A H locs ls hC ha hn hP hD hS hL => lv_lsub hC.1.1 hC.1.2.1 hd (kk p l e s m args below meth c D ad0 ad A H locs ls hC ha hn hP hD hS hL)
theorem V.lmul {x y : Int64} (hd : decode (kb k) pc = .ok (.lmul, 1))  (kk : V X R k n0 (pc + 1) L (.long (x * y) :: st) σ cl sl) : V X R k n0 pc L (.long y :: .long x :: st) σ cl sl :=
  fun p l e s m args below meth c D ad0 ad A H locs ls hC ha hn hP hD hS hL => lv_lmul hC.1.1 hC.1.2.1 hd (kk p l e s m args below meth c D ad0 ad A H locs ls hC ha hn hP hD hS hL)
theorem V.lshl {x : Int64} {y : Int32} (hd : decode (kb k) pc = .ok (.lshl, 1))  (kk : V X R k n0 (pc + 1) L (.long (x <<< (y.toInt64 &&& 63)) :: st) σ cl sl) : V X R k n0 pc L (.int y :: .long x :: st) σ cl sl :=
  fun p l e s m args below meth c D ad0 ad A H locs ls hC ha hn hP hD hS hL => lv_lshl hC.1.1 hC.1.2.1 hd rfl (kk p l e s m args below meth c D ad0 ad A H locs ls hC ha hn hP hD hS hL)
theorem V.i2l {x : Int32} (hd : decode (kb k) pc = .ok (.i2l, 1))  (kk : V X R k n0 (pc + 1) L (.long x.toInt64 :: st) σ cl sl) : V X R k n0 pc L (.int x :: st) σ cl sl :=
  fun p l e s m args below meth c D ad0 ad A H locs ls hC ha hn hP hD hS hL => lv_i2l hC.1.1 hC.1.2.1 hd rfl (kk p l e s m args below meth c D ad0 ad A H locs ls hC ha hn hP hD hS hL)
theorem V.i2c {x : Int32} (hd : decode (kb k) pc = .ok (.i2c, 1))  (kk : V X R k n0 (pc + 1) L (.int (x.toUInt32 % 65536).toInt32 :: st) σ cl sl) : V X R k n0 pc L (.int x :: st) σ cl sl :=
  fun p l e s m args below meth c D ad0 ad A H locs ls hC ha hn hP hD hS hL => lv_i2c hC.1.1 hC.1.2.1 hd rfl (kk p l e s m args below meth c D ad0 ad A H locs ls hC ha hn hP hD hS hL)
theorem V.i2b {x : Int32} (hd : decode (kb k) pc = .ok (.i2b, 1))  (kk : V X R k n0 (pc + 1) L (.int x.toInt8.toInt32 :: st) σ cl sl) : V X R k n0 pc L (.int x :: st) σ cl sl :=
  fun p l e s m args below meth c D ad0 ad A H locs ls hC ha hn hP hD hS hL => lv_i2b hC.1.1 hC.1.2.1 hd rfl (kk p l e s m args below meth c D ad0 ad A H locs ls hC ha hn hP hD hS hL)
theorem V.i2d {x : Int32} (hd : decode (kb k) pc = .ok (.i2d, 1))  (kk : V X R k n0 (pc + 1) L (.double (FP.i2d x) :: st) σ cl sl) : V X R k n0 pc L (.int x :: st) σ cl sl :=
  fun p l e s m args below meth c D ad0 ad A H locs ls hC ha hn hP hD hS hL => lv_i2d hC.1.1 hC.1.2.1 hd (kk p l e s m args below meth c D ad0 ad A H locs ls hC ha hn hP hD hS hL)
theorem V.d2l {x : UInt64} (hd : decode (kb k) pc = .ok (.d2l, 1))  (kk : V X R k n0 (pc + 1) L (.long (FP.d2l x) :: st) σ cl sl) : V X R k n0 pc L (.double x :: st) σ cl sl :=
  fun p l e s m args below meth c D ad0 ad A H locs ls hC ha hn hP hD hS hL => lv_d2l hC.1.1 hC.1.2.1 hd (kk p l e s m args below meth c D ad0 ad A H locs ls hC ha hn hP hD hS hL)
theorem V.dadd {x y : UInt64} (hd : decode (kb k) pc = .ok (.dadd, 1)) (hne : vf_n64 (FP.dadd x y)) (kk : V X R k n0 (pc + 1) L (.double (FP.dadd x y) :: st) σ cl sl) : V X R k n0 pc L (.double y :: .double x :: st) σ cl sl :=
  fun p l e s m args below meth c D ad0 ad A H locs ls hC ha hn hP hD hS hL => lv_dadd hC.1.1 hC.1.2.1 hd hne (kk p l e s m args below meth c D ad0 ad A H locs ls hC ha hn hP hD hS hL)
theorem V.dsub {x y : UInt64} (hd : decode (kb k) pc = .ok (.dsub, 1)) (hne : vf_n64 (FP.dsub x y)) (kk : V X R k n0 (pc + 1) L (.double (FP.dsub x y) :: st) σ cl sl) : V X R k n0 pc L (.double y :: .double x :: st) σ cl sl :=
  fun p l e s m args below meth c D ad0 ad A H locs ls hC ha hn hP hD hS hL => lv_dsub hC.1.1 hC.1.2.1 hd hne (kk p l e s m args below meth c D ad0 ad A H locs ls hC ha hn hP hD hS hL)
theorem V.dmul {x y : UInt64} (hd : decode (kb k) pc = .ok (.dmul, 1)) (hne : vf_n64 (FP.dmul x y)) (kk : V X R k n0 (pc + 1) L (.double (FP.dmul x y) :: st) σ cl sl) : V X R k n0 pc L (.double y :: .double x :: st) σ cl sl :=
  fun p l e s m args below meth c D ad0 ad A H locs ls hC ha hn hP hD hS hL => lv_dmul hC.1.1 hC.1.2.1 hd hne (kk p l e s m args below meth c D ad0 ad A H locs ls hC ha hn hP hD hS hL)
theorem V.ddiv {x y : UInt64} (hd : decode (kb k) pc = .ok (.ddiv, 1)) (hne : vf_n64 (FP.ddiv x y)) (kk : V X R k n0 (pc + 1) L (.double (FP.ddiv x y) :: st) σ cl sl) : V X R k n0 pc L (.double y :: .double x :: st) σ cl sl :=
  fun p l e s m args below meth c D ad0 ad A H locs ls hC ha hn hP hD hS hL => lv_ddiv hC.1.1 hC.1.2.1 hd hne (kk p l e s m args below meth c D ad0 ad A H locs ls hC ha hn hP hD hS hL)
theorem V.dcmp {x y : UInt64} {op : CmpOp} (hd : decode (kb k) pc = .ok (.dcmp op, 1))  (kk : V X R k n0 (pc + 1) L (.int (Op.cmpValue (FP.dcmp x y) op) :: st) σ cl sl) : V X R k n0 pc L (.double y :: .double x :: st) σ cl sl :=
  fun p l e s m args below meth c D ad0 ad A H locs ls hC ha hn hP hD hS hL => lv_dcmp hC.1.1 hC.1.2.1 hd (kk p l e s m args below meth c D ad0 ad A H locs ls hC ha hn hP hD hS hL)
theorem V.lcmp {x y : Int64} (hd : decode (kb k) pc = .ok (.lcmp, 1))  (kk : V X R k n0 (pc + 1) L (.int (lg_cmp x y) :: st) σ cl sl) : V X R k n0 pc L (.long y :: .long x :: st) σ cl sl :=
  fun p l e s m args below meth c D ad0 ad A H locs ls hC ha hn hP hD hS hL => W.lcmp hC.1.1 hC.1.2.1 hd (kk p l e s m args below meth c D ad0 ad A H locs ls hC ha hn hP hD hS hL)
theorem V.dup {v : Value} (hd : decode (kb k) pc = .ok (.dup, 1)) (hv : v.category = 1) (kk : V X R k n0 (pc + 1) L (v :: v :: st) σ cl sl) : V X R k n0 pc L (v :: st) σ cl sl :=
  fun p l e s m args below meth c D ad0 ad A H locs ls hC ha hn hP hD hS hL => lv_dup hC.1.1 hC.1.2.1 hd ((ftr_cat ad v).trans hv) (kk p l e s m args below meth c D ad0 ad A H locs ls hC ha hn hP hD hS hL)
theorem V.pop {v : Value} (hd : decode (kb k) pc = .ok (.pop, 1)) (hv : v.category = 1) (kk : V X R k n0 (pc + 1) L st σ cl sl) : V X R k n0 pc L (v :: st) σ cl sl :=
  fun p l e s m args below meth c D ad0 ad A H locs ls hC ha hn hP hD hS hL => lv_pop hC.1.1 hC.1.2.1 hd ((ftr_cat ad v).trans hv) (kk p l e s m args below meth c D ad0 ad A H locs ls hC ha hn hP hD hS hL)
theorem V.dup2 {v w : Value} (hd : decode (kb k) pc = .ok (.dup2, 1)) (hv : v.category = 1) (hw : w.category = 1) (kk : V X R k n0 (pc + 1) L (v :: w :: v :: w :: st) σ cl sl) : V X R k n0 pc L (v :: w :: st) σ cl sl :=
  fun p l e s m args below meth c D ad0 ad A H locs ls hC ha hn hP hD hS hL => lv_dup2_11 hC.1.1 hC.1.2.1 hd ((ftr_cat ad v).trans hv) ((ftr_cat ad w).trans hw) (kk p l e s m args below meth c D ad0 ad A H locs ls hC ha hn hP hD hS hL)
theorem V.goto {off : Int} {tgt : Nat} (hd : decode (kb k) pc = .ok (.goto off, 3)) (ht : (pc : Int) + off = (tgt : Int)) (kk : V X R k n0 tgt L st σ cl sl) : V X R k n0 pc L st σ cl sl :=
  fun p l e s m args below meth c D ad0 ad A H locs ls hC ha hn hP hD hS hL => lv_goto hC.1.1 hC.1.2.1 hd ht (kk p l e s m args below meth c D ad0 ad A H locs ls hC ha hn hP hD hS hL)
theorem V.if_eq {x : Int32} {off : Int} {tgt : Nat} (hd : decode (kb k) pc = .ok (.ifCond .eq off, 3)) (ht : (pc : Int) + off = (tgt : Int)) (kt : x = 0 → V X R k n0 tgt L st σ cl sl) (kf : ¬ x = 0 → V X R k n0 (pc + 3) L st σ cl sl) : V X R k n0 pc L (.int x :: st) σ cl sl :=
  fun p l e s m args below meth c D ad0 ad A H locs ls hC ha hn hP hD hS hL => lv_if_eq hC.1.1 hC.1.2.1 hd ht (fun h => kt h p l e s m args below meth c D ad0 ad A H locs ls hC ha hn hP hD hS hL) (fun h => kf h p l e s m args below meth c D ad0 ad A H locs ls hC ha hn hP hD hS hL)
theorem V.if_ne {x : Int32} {off : Int} {tgt : Nat} (hd : decode (kb k) pc = .ok (.ifCond .ne off, 3)) (ht : (pc : Int) + off = (tgt : Int)) (kt : ¬ x = 0 → V X R k n0 tgt L st σ cl sl) (kf : x = 0 → V X R k n0 (pc + 3) L st σ cl sl) : V X R k n0 pc L (.int x :: st) σ cl sl :=
  fun p l e s m args below meth c D ad0 ad A H locs ls hC ha hn hP hD hS hL => lv_if_ne hC.1.1 hC.1.2.1 hd ht (fun h => kt h p l e s m args below meth c D ad0 ad A H locs ls hC ha hn hP hD hS hL) (fun h => kf h p l e s m args below meth c D ad0 ad A H locs ls hC ha hn hP hD hS hL)
theorem V.if_lt {x : Int32} {off : Int} {tgt : Nat} (hd : decode (kb k) pc = .ok (.ifCond .lt off, 3)) (ht : (pc : Int) + off = (tgt : Int)) (kt : x < 0 → V X R k n0 tgt L st σ cl sl) (kf : ¬ x < 0 → V X R k n0 (pc + 3) L st σ cl sl) : V X R k n0 pc L (.int x :: st) σ cl sl :=
  fun p l e s m args below meth c D ad0 ad A H locs ls hC ha hn hP hD hS hL => lv_if_lt hC.1.1 hC.1.2.1 hd ht (fun h => kt h p l e s m args below meth c D ad0 ad A H locs ls hC ha hn hP hD hS hL) (fun h => kf h p l e s m args below meth c D ad0 ad A H locs ls hC ha hn hP hD hS hL)
theorem V.if_ge {x : Int32} {off : Int} {tgt : Nat} (hd : decode (kb k) pc = .ok (.ifCond .ge off, 3)) (ht : (pc : Int) + off = (tgt : Int)) (kt : 0 ≤ x → V X R k n0 tgt L st σ cl sl) (kf : ¬ 0 ≤ x → V X R k n0 (pc + 3) L st σ cl sl) : V X R k n0 pc L (.int x :: st) σ cl sl :=
  fun p l e s m args below meth c D ad0 ad A H locs ls hC ha hn hP hD hS hL => lv_if_ge hC.1.1 hC.1.2.1 hd ht (fun h => kt h p l e s m args below meth c D ad0 ad A H locs ls hC ha hn hP hD hS hL) (fun h => kf h p l e s m args below meth c D ad0 ad A H locs ls hC ha hn hP hD hS hL)
theorem V.if_gt {x : Int32} {off : Int} {tgt : Nat} (hd : decode (kb k) pc = .ok (.ifCond .gt off, 3)) (ht : (pc : Int) + off = (tgt : Int)) (kt : 0 < x → V X R k n0 tgt L st σ cl sl) (kf : ¬ 0 < x → V X R k n0 (pc + 3) L st σ cl sl) : V X R k n0 pc L (.int x :: st) σ cl sl :=
  fun p l e s m args below meth c D ad0 ad A H locs ls hC ha hn hP hD hS hL => lv_if_gt hC.1.1 hC.1.2.1 hd ht (fun h => kt h p l e s m args below meth c D ad0 ad A H locs ls hC ha hn hP hD hS hL) (fun h => kf h p l e s m args below meth c D ad0 ad A H locs ls hC ha hn hP hD hS hL)
theorem V.if_le {x : Int32} {off : Int} {tgt : Nat} (hd : decode (kb k) pc = .ok (.ifCond .le off, 3)) (ht : (pc : Int) + off = (tgt : Int)) (kt : x ≤ 0 → V X R k n0 tgt L st σ cl sl) (kf : ¬ x ≤ 0 → V X R k n0 (pc + 3) L st σ cl sl) : V X R k n0 pc L (.int x :: st) σ cl sl :=
  fun p l e s m args below meth c D ad0 ad A H locs ls hC ha hn hP hD hS hL => lv_if_le hC.1.1 hC.1.2.1 hd ht (fun h => kt h p l e s m args below meth c D ad0 ad A H locs ls hC ha hn hP hD hS hL) (fun h => kf h p l e s m args below meth c D ad0 ad A H locs ls hC ha hn hP hD hS hL)
theorem V.icmp_eq {x y : Int32} {off : Int} {tgt : Nat} (hd : decode (kb k) pc = .ok (.if_icmp .eq off, 3)) (ht : (pc : Int) + off = (tgt : Int)) (kt : x = y → V X R k n0 tgt L st σ cl sl) (kf : ¬ x = y → V X R k n0 (pc + 3) L st σ cl sl) : V X R k n0 pc L (.int y :: .int x :: st) σ cl sl :=
  fun p l e s m args below meth c D ad0 ad A H locs ls hC ha hn hP hD hS hL => lv_icmp_eq hC.1.1 hC.1.2.1 hd ht (fun h => kt h p l e s m args below meth c D ad0 ad A H locs ls hC ha hn hP hD hS hL) (fun h => kf h p l e s m args below meth c D ad0 ad A H locs ls hC ha hn hP hD hS hL)
theorem V.icmp_ne {x y : Int32} {off : Int} {tgt : Nat} (hd : decode (kb k) pc = .ok (.if_icmp .ne off, 3)) (ht : (pc : Int) + off = (tgt : Int)) (kt : ¬ x = y → V X R k n0 tgt L st σ cl sl) (kf : x = y → V X R k n0 (pc + 3) L st σ cl sl) : V X R k n0 pc L (.int y :: .int x :: st) σ cl sl :=
  fun p l e s m args below meth c D ad0 ad A H locs ls hC ha hn hP hD hS hL => lv_icmp_ne hC.1.1 hC.1.2.1 hd ht (fun h => kt h p l e s m args below meth c D ad0 ad A H locs ls hC ha hn hP hD hS hL) (fun h => kf h p l e s m args below meth c D ad0 ad A H locs ls hC ha hn hP hD hS hL)
theorem V.icmp_lt {x y : Int32} {off : Int} {tgt : Nat} (hd : decode (kb k) pc = .ok (.if_icmp .lt off, 3)) (ht : (pc : Int) + off = (tgt : Int)) (kt : x < y → V X R k n0 tgt L st σ cl sl) (kf : ¬ x < y → V X R k n0 (pc + 3) L st σ cl sl) : V X R k n0 pc L (.int y :: .int x :: st) σ cl sl :=
  fun p l e s m args below meth c D ad0 ad A H locs ls hC ha hn hP hD hS hL => lv_icmp_lt hC.1.1 hC.1.2.1 hd ht (fun h => kt h p l e s m args below meth c D ad0 ad A H locs ls hC ha hn hP hD hS hL) (fun h => kf h p l e s m args below meth c D ad0 ad A H locs ls hC ha hn hP hD hS hL)
theorem V.icmp_ge {x y : Int32} {off : Int} {tgt : Nat} (hd : decode (kb k) pc = .ok (.if_icmp .ge off, 3)) (ht : (pc : Int) + off = (tgt : Int)) (kt : y ≤ x → V X R k n0 tgt L st σ cl sl) (kf : ¬ y ≤ x → V X R k n0 (pc + 3) L st σ cl sl) : V X R k n0 pc L (.int y :: .int x :: st) σ cl sl :=
  fun p l e s m args below meth c D ad0 ad A H locs ls hC ha hn hP hD hS hL => lv_icmp_ge hC.1.1 hC.1.2.1 hd ht (fun h => kt h p l e s m args below meth c D ad0 ad A H locs ls hC ha hn hP hD hS hL) (fun h => kf h p l e s m args below meth c D ad0 ad A H locs ls hC ha hn hP hD hS hL)
theorem V.icmp_gt {x y : Int32} {off : Int} {tgt : Nat} (hd : decode (kb k) pc = .ok (.if_icmp .gt off, 3)) (ht : (pc : Int) + off = (tgt : Int)) (kt : y < x → V X R k n0 tgt L st σ cl sl) (kf : ¬ y < x → V X R k n0 (pc + 3) L st σ cl sl) : V X R k n0 pc L (.int y :: .int x :: st) σ cl sl :=
  fun p l e s m args below meth c D ad0 ad A H locs ls hC ha hn hP hD hS hL => lv_icmp_gt hC.1.1 hC.1.2.1 hd ht (fun h => kt h p l e s m args below meth c D ad0 ad A H locs ls hC ha hn hP hD hS hL) (fun h => kf h p l e s m args below meth c D ad0 ad A H locs ls hC ha hn hP hD hS hL)
theorem V.icmp_le {x y : Int32} {off : Int} {tgt : Nat} (hd : decode (kb k) pc = .ok (.if_icmp .le off, 3)) (ht : (pc : Int) + off = (tgt : Int)) (kt : x ≤ y → V X R k n0 tgt L st σ cl sl) (kf : ¬ x ≤ y → V X R k n0 (pc + 3) L st σ cl sl) : V X R k n0 pc L (.int y :: .int x :: st) σ cl sl :=
  fun p l e s m args below meth c D ad0 ad A H locs ls hC ha hn hP hD hS hL => lv_icmp_le hC.1.1 hC.1.2.1 hd ht (fun h => kt h p l e s m args below meth c D ad0 ad A H locs ls hC ha hn hP hD hS hL) (fun h => kf h p l e s m args below meth c D ad0 ad A H locs ls hC ha hn hP hD hS hL)
theorem V.lookup {dflt : Int} {ps : Array (Int × Int)} {len : Nat} {x : Int32} {off : Int} {tgt : Nat} (hd : decode (kb k) pc = .ok (.lookupswitch dflt ps, len)) (hp : (ps.toList.zip (ps.toList.drop 1)).all (fun (a, next) => a.1 < next.1) = true) (ho : Op.lookupswitch.offset ps.toList dflt x.toInt = off) (ht : (pc : Int) + off = (tgt : Int)) (kk : V X R k n0 tgt L st σ cl sl) : V X R k n0 pc L (.int x :: st) σ cl sl :=
  fun p l e s m args below meth c D ad0 ad A H locs ls hC ha hn hP hD hS hL => lv_lookup hC.1.1 hC.1.2.1 hd hp ho ht (kk p l e s m args below meth c D ad0 ad A H locs ls hC ha hn hP hD hS hL)
theorem V.tableOut {dflt lo hi : Int} {offs : Array Int} {len : Nat} {x : Int32} {tgt : Nat} (hd : decode (kb k) pc = .ok (.tableswitch dflt lo hi offs, len)) (h : x.toInt < lo ∨ hi < x.toInt) (ht : (pc : Int) + dflt = (tgt : Int)) (kk : V X R k n0 tgt L st σ cl sl) : V X R k n0 pc L (.int x :: st) σ cl sl :=
  fun p l e s m args below meth c D ad0 ad A H locs ls hC ha hn hP hD hS hL => lv_tableOut hC.1.1 hC.1.2.1 hd h ht (kk p l e s m args below meth c D ad0 ad A H locs ls hC ha hn hP hD hS hL)
theorem V.tableIn {dflt lo hi : Int} {offs : Array Int} {len : Nat} {x : Int32} {off : Int} {tgt : Nat} (hd : decode (kb k) pc = .ok (.tableswitch dflt lo hi offs, len)) (h1 : ¬ x.toInt < lo) (h2 : ¬ hi < x.toInt) (ho : offs[(x.toInt - lo).toNat]? = some off) (ht : (pc : Int) + off = (tgt : Int)) (kk : V X R k n0 tgt L st σ cl sl) : V X R k n0 pc L (.int x :: st) σ cl sl :=
  fun p l e s m args below meth c D ad0 ad A H locs ls hC ha hn hP hD hS hL => lv_tableIn hC.1.1 hC.1.2.1 hd h1 h2 ho ht (kk p l e s m args below meth c D ad0 ad A H locs ls hC ha hn hP hD hS hL)
theorem V.ldc2 {v : Int64} {index : Nat} (hd : decode (kb k) pc = .ok (.ldc2_w index, 3)) (hw : Cond.constantLong (ky k).cls index v ∈ fAll) (kk : V X R k n0 (pc + 3) L (.long v :: st) σ cl sl) : V X R k n0 pc L st σ cl sl :=
  fun p l e s m args below meth c D ad0 ad A H locs ls hC ha hn hP hD hS hL => lv_ldc2 hC.1.1 hC.1.2.1 hC.1.2.2.2.1 (hC.1.2.2.2.2 _ hw) hd (kk p l e s m args below meth c D ad0 ad A H locs ls hC ha hn hP hD hS hL)
theorem V.ldc2d {v : UInt64} {index : Nat} (hd : decode (kb k) pc = .ok (.ldc2_w index, 3)) (hw : Cond.constantDouble (ky k).cls index v ∈ fAll) (kk : V X R k n0 (pc + 3) L (.double v :: st) σ cl sl) : V X R k n0 pc L st σ cl sl :=
  fun p l e s m args below meth c D ad0 ad A H locs ls hC ha hn hP hD hS hL => lv_ldc2d hC.1.1 hC.1.2.1 hC.1.2.2.2.1 (hC.1.2.2.2.2 _ hw) hd (kk p l e s m args below meth c D ad0 ad A H locs ls hC ha hn hP hD hS hL)
theorem V.ldcI {v : Int32} {index : Nat} (hd : decode (kb k) pc = .ok (.ldc index, 2)) (hw : Cond.constant (ky k).cls index v ∈ fAll) (kk : V X R k n0 (pc + 2) L (.int v :: st) σ cl sl) : V X R k n0 pc L st σ cl sl :=
  fun p l e s m args below meth c D ad0 ad A H locs ls hC ha hn hP hD hS hL => lv_ldc hC.1.1 hC.1.2.1 hC.1.2.2.2.1 (hC.1.2.2.2.2 _ hw) hd (kk p l e s m args below meth c D ad0 ad A H locs ls hC ha hn hP hD hS hL)
theorem V.ldcS {index i : Nat} {tx : String} (hd : decode (kb k) pc = .ok (.ldc index, 2)) (hq : ((ky k).cls, index, tx, i) ∈ gLits) (kk : V X R k n0 (pc + 2) L (.ref (i + 1000) :: st) σ cl sl) : V X R k n0 pc L st σ cl sl := by
  intro p l e s m args below meth c D ad0 ad A H locs ls hC ha hn hP hD hS hL
  refine va_ldcS hC.1.1 hC.1.2.1 hC.1.2.2.2.1 (hC.2.2.2.2.2.2.2.2.1 _ hq) hd ?_
  have h := kk p l e s m args below meth c D ad0 ad A H locs ls hC ha hn hP hD hS hL
  have e : ad (i + 1000) = ad0 (i + 1000) := ha _ (Or.inr (by omega))
  rw [← e]
  exact h
theorem V.iaload {q n : Nat} {f : Nat → Int32} {i : Int32} (hd : decode (kb k) pc = .ok (.iaload, 1)) (hq : σ[q]? = some (.inr (n, .inl f))) (hin : vp_in i n) (kk : V X R k n0 (pc + 1) L (.int (f i.toNatClampNeg) :: st) σ cl sl) : V X R k n0 pc L (.int i :: .ref q :: st) σ cl sl :=
  fun p l e s m args below meth c D ad0 ad A H locs ls hC ha hn hP hD hS hL => va_iald hC.1.1 hC.1.2.1 hC.2.2.1 hP q 0 (fw_some hq) rfl hin hd (kk p l e s m args below meth c D ad0 ad A H locs ls hC ha hn hP hD hS hL)
theorem V.iastore {q n : Nat} {f : Nat → Int32} {i : Int32} {x : Int32} (hd : decode (kb k) pc = .ok (.iastore, 1)) (hq : σ[q]? = some (.inr (n, .inl f))) (hin : vp_in i n) (hσ : σ.set q (.inr (n, .inl (upd f i.toNatClampNeg x))) = σ') (kk : V X R k n0 (pc + 1) L st σ' cl sl) : V X R k n0 pc L (.int x :: .int i :: .ref q :: st) σ cl sl := by
  intro p l e s m args below meth c D ad0 ad A H locs ls hC ha hn hP hD hS hL
  subst hσ
  refine va_iast hC.1.1 hC.1.2.1 hC.2.2.1 hP hD hS q 0 (fw_some hq) rfl hin hd (fun H1 locs1 hP1 hD1 hS1 => ?_)
  have e9 := fw_set D ad σ q (.inr (n, .inl (upd f i.toNatClampNeg x)))
  refine kk p l e s m args below meth c D ad0 ad A H1 locs1 ls hC ha (by rw [List.length_set]; exact hn) (e9 ▸ hP1) (e9 ▸ hD1) hS1 hL
theorem V.alen {q n : Nat} {x : (Nat → Int32) ⊕ (Nat → Int64)} {v : Int32} (hd : decode (kb k) pc = .ok (.arraylength, 1)) (hq : σ[q]? = some (.inr (n, x))) (hv : Int32.ofNat n = v) (kk : V X R k n0 (pc + 1) L (.int v :: st) σ cl sl) : V X R k n0 pc L (.ref q :: st) σ cl sl := by
  intro p l e s m args below meth c D ad0 ad A H locs ls hC ha hn hP hD hS hL
  cases x with
  | inl f => exact va_alen hC.1.1 hC.1.2.1 hC.2.2.1 hP q 0 (fw_some hq) rfl hv hd (kk p l e s m args below meth c D ad0 ad A H locs ls hC ha hn hP hD hS hL)
  | inr f => exact va_alen hC.1.1 hC.1.2.1 hC.2.2.1 hP q 1 (fw_some hq) rfl hv hd (kk p l e s m args below meth c D ad0 ad A H locs ls hC ha hn hP hD hS hL)
/-- what a program decides of a class's fields -/
def fFl (ci : Nat) (C : String) (T : u_T) (N : Nat) (ty : Nat → FieldType) : Prop := vwCl[ci]? = some (C, T, N) ∧ (∀ w ∈ u_ws C T N, w ∈ fAll) ∧ (∀ k, k < N → parseFieldDescriptor (T k).2.2.1 = some (ty k)) ∧ ∀ a, a < N → ∀ b, b < N → a ≠ b → (T a).2.1 ≠ (T b).2.1
theorem V.getfield {q ci N kf index : Nat} {C : String} {T : u_T} {ty : Nat → FieldType} {fs : List Value} {v : Value} (hF : fFl ci C T N ty) (hd : decode (kb k) pc = .ok (.getfield index, 3)) (hw : Cond.fieldLink (ky k).cls index (T kf).1 (T kf).2.1 (T kf).2.2.1 ∈ fAll) (hk : kf < N) (hq : σ[q]? = some (.inl (ci, fs))) (hv : fs[kf]? = some v) (kk : V X R k n0 (pc + 3) L (v :: st) σ cl sl) : V X R k n0 pc L (.ref q :: st) σ cl sl :=
  fun p l e s m args below meth c D ad0 ad A H locs ls hC ha hn hP hD hS hL => va_get hC.1.1 hC.1.2.1 hC.1.2.2.2.2 hF.2.1 hC.1.2.2.2.1 hC.2.2.1 hP q (fw_some hq) hF.1 kf hk (hC.1.2.2.2.2 _ hw) (fun _ h => h) (by rw [List.getElem?_map, hv]; rfl) hd (kk p l e s m args below meth c D ad0 ad A H locs ls hC ha hn hP hD hS hL)
theorem f_setmap (ad : Nat → Nat) (fs : List Value) (kf : Nat) (v : Value) : (fs.map (ftr ad)).set kf (ftr ad v) = (fs.set kf v).map (ftr ad) := by rw [List.map_set]
theorem V.putfield {q ci N kf index : Nat} {C : String} {T : u_T} {ty : Nat → FieldType} {fs : List Value} {v : Value} (hF : fFl ci C T N ty) (hd : decode (kb k) pc = .ok (.putfield index, 3)) (hw : Cond.fieldLink (ky k).cls index (T kf).1 (T kf).2.1 (T kf).2.2.1 ∈ fAll) (hk : kf < N) (hfin : (T kf).2.2.2 = false) (hr : ∀ ad, narrow (ty kf) (ftr ad v) = ftr ad v ∧ fits (ty kf) (ftr ad v) = true) (hq : σ[q]? = some (.inl (ci, fs))) (hl : kf < fs.length) (hσ : σ.set q (.inl (ci, fs.set kf v)) = σ') (kk : V X R k n0 (pc + 3) L st σ' cl sl) : V X R k n0 pc L (v :: .ref q :: st) σ cl sl := by
  intro p l e s m args below meth c D ad0 ad A H locs ls hC ha hn hP hD hS hL
  subst hσ
  refine va_put hC.1.1 hC.1.2.1 hC.1.2.2.2.2 hF.2.1 ty hF.2.2.1 hF.2.2.2 hC.1.2.2.2.1 hC.2.2.1 hP hD hS q (fw_some hq) hF.1 kf hk (hC.1.2.2.2.2 _ hw) (fun _ h => h) hfin (hF.2.2.1 kf hk) (hr ad).1 (hr ad).2 (by rw [List.length_map]; exact hl) hd (fun H1 locs1 hP1 hD1 hS1 => ?_)
  rw [f_setmap] at hP1 hD1
  have e9 := fw_set D ad σ q (.inl (ci, fs.set kf v))
  exact kk p l e s m args below meth c D ad0 ad A H1 locs1 ls hC ha (by rw [List.length_set]; exact hn) (e9 ▸ hP1) (e9 ▸ hD1) hS1 hL
theorem V.putfinal {q ci N kf index : Nat} {C : String} {T : u_T} {ty : Nat → FieldType} {fs : List Value} {v : Value} (hF : fFl ci C T N ty) (hd : decode (kb k) pc = .ok (.putfield index, 3)) (hw : Cond.fieldLink (ky k).cls index (T kf).1 (T kf).2.1 (T kf).2.2.1 ∈ fAll) (hk : kf < N) (hfin : (T kf).2.2.2 = true) (hin : (ky k).name = "<init>") (hh9 : kh k = []) (hdc : (T kf).1 = (ky k).cls) (hr : ∀ ad, narrow (ty kf) (ftr ad v) = ftr ad v ∧ fits (ty kf) (ftr ad v) = true) (hq : σ[q]? = some (.inl (ci, fs))) (hl : kf < fs.length) (hσ : σ.set q (.inl (ci, fs.set kf v)) = σ') (kk : V X R k n0 (pc + 3) L st σ' cl sl) : V X R k n0 pc L (v :: .ref q :: st) σ cl sl := by
  intro p l e s m args below meth c D ad0 ad A H locs ls hC ha hn hP hD hS hL
  subst hσ
  refine va_putF hC.1.1 hC.1.2.1 hC.1.2.2.2.2 hF.2.1 ty hF.2.2.1 hF.2.2.2 hC.1.2.2.2.1 hC.2.2.1 hP hD hS q (fw_some hq) hF.1 kf hk (hC.1.2.2.2.2 _ hw) (fun _ h => h) hfin ((hC.2.1.2.2.2.1.resolve_left (by rw [hh9]; intro h; cases h)).trans hin) hdc (hF.2.2.1 kf hk) (hr ad).1 (hr ad).2 (by rw [List.length_map]; exact hl) hd (fun H1 locs1 hP1 hD1 hS1 => ?_)
  rw [f_setmap] at hP1 hD1
  have e9 := fw_set D ad σ q (.inl (ci, fs.set kf v))
  exact kk p l e s m args below meth c D ad0 ad A H1 locs1 ls hC ha (by rw [List.length_set]; exact hn) (e9 ▸ hP1) (e9 ▸ hD1) hS1 hL
theorem V.loc (hs : ∀ (i : Nat) (v : Value), L'[i]? = some (some v) → L[i]? = some (some v)) (kk : V X R k n0 pc L' st σ cl sl) : V X R k n0 pc L st σ cl sl :=
  fun p l e s m args below meth c D ad0 ad A H locs ls hC ha hn hP hD hS hL => kk p l e s m args below meth c D ad0 ad A H locs ls hC ha hn hP hD hS (hL.sub hs)
theorem V.wide {cl' sl' : Nat} (h1 : cl ≤ cl') (h2 : sl ≤ sl') (kk : V X R k n0 pc L st σ cl' sl') : V X R k n0 pc L st σ cl sl :=
  fun p l e s m args below meth c D ad0 ad A H locs ls hC ha hn hP hD hS hL => W.widen h1 h2 (kk p l e s m args below meth c D ad0 ad A H locs ls hC ha hn hP hD hS hL)
end ROWS
