/-! THE FACADE, 1: worlds by places, keys of methods, contracts -/
/-- the good words of the tables -/
def fAll : List Cond := lw_tbl.filter goodWord
theorem fAll_good {w : Cond} (h : w ∈ fAll) : goodWord w = true := (List.mem_filter.mp h).2
theorem fAll_tbl {w : Cond} (h : w ∈ fAll) : w ∈ lw_tbl := (List.mem_filter.mp h).1
theorem fAll_mk {w : Cond} (h : w ∈ lw_tbl) (hg : goodWord w = true) : w ∈ fAll := List.mem_filter.mpr ⟨h, hg⟩
/-- what lies at a place: an object (its class's number, its fields, refs are places), or an array of ints or longs -/
abbrev fE : Type := (Nat × List Value) ⊕ (Nat × ((Nat → Int32) ⊕ (Nat → Int64)))
/-- places to addresses -/
def ftr (ad : Nat → Nat) : Value → Value
  | .ref a => .ref (ad a)
  | v => v
theorem ftr_cat (ad : Nat → Nat) (v : Value) : (ftr ad v).category = v.category := by cases v <;> rfl
/-- the classes of arrays, and where the classes lie -/
abbrev fD : Type := (ClassId × ClassId) × va_G
def fcv (D : fD) (ad : Nat → Nat) : fE → va_E
  | .inl (ci, fs) => .inr (ci, fs.map (ftr ad))
  | .inr (n, .inl f) => .inl (D.1.1, n, .inl f)
  | .inr (n, .inr f) => .inl (D.1.2, n, .inr (.inl f))
def fw (D : fD) (ad : Nat → Nat) (σ : List fE) : va_W := σ.mapIdx (fun k e => (ad k, fcv D ad e))
theorem fw_get (D : fD) (ad : Nat → Nat) (σ : List fE) (k : Nat) : (fw D ad σ)[k]? = (σ[k]?).map (fun e => (ad k, fcv D ad e)) := List.getElem?_mapIdx
theorem fw_some {D : fD} {ad : Nat → Nat} {σ : List fE} {k : Nat} {e : fE} (h : σ[k]? = some e) : (fw D ad σ)[k]? = some (ad k, fcv D ad e) := by rw [fw_get, h]; rfl
theorem fw_of {D : fD} {ad : Nat → Nat} {σ : List fE} {k : Nat} {q : Nat × va_E} (h : (fw D ad σ)[k]? = some q) : ∃ e, σ[k]? = some e ∧ q = (ad k, fcv D ad e) := by
  rw [fw_get] at h
  cases hk : σ[k]? with
  | none => rw [hk] at h; cases h
  | some e => rw [hk] at h; exact ⟨e, rfl, (Option.some.inj h).symm⟩
theorem fw_len (D : fD) (ad : Nat → Nat) (σ : List fE) : (fw D ad σ).length = σ.length := List.length_mapIdx
theorem fw_set (D : fD) (ad : Nat → Nat) (σ : List fE) (k : Nat) (e : fE) : (fw D ad σ).set k (ad k, fcv D ad e) = fw D ad (σ.set k e) := by
  apply List.ext_getElem?
  intro i
  rw [List.getElem?_set, fw_get, fw_get, fw_len, List.getElem?_set]
  by_cases h : k = i
  · subst h
    by_cases h2 : k < σ.length
    · simp [h2]
    · simp [h2]
  · simp [h]
/-- a method's key: name, code, locals, return type, handlers, (frames, local words), room (cells, slots), a return's (cells, slots), a throw's -/
abbrev fK : Type := MethodName × ByteArray × Nat × Option FieldType × List (Nat × Nat × Nat × Nat) × (Nat × Nat) × (Nat × Nat) × (Nat × Nat)
abbrev ky (k : fK) : MethodName := k.1
abbrev kb (k : fK) : ByteArray := k.2.1
abbrev kn (k : fK) : Nat := k.2.2.1
abbrev kr (k : fK) : Option FieldType := k.2.2.2.1
abbrev kh (k : fK) : List (Nat × Nat × Nat × Nat) := k.2.2.2.2.1
abbrev kf (k : fK) : Nat × Nat := k.2.2.2.2.2.1
abbrev kR (k : fK) : Nat × Nat := k.2.2.2.2.2.2.1
abbrev kT (k : fK) : Nat × Nat := k.2.2.2.2.2.2.2
def krm (k : fK) : Room := { frames := (kf k).1, cells := max (kR k).1 (kT k).1, slots := max (kR k).2 (kT k).2, locals := (kf k).2 }
def kw (k : fK) : Cond := if (kh k).isEmpty then .code (ky k) (kb k) (kn k) (kr k) else .codeWith (ky k) (kb k) (kn k) (kr k) (kh k)
def kws (k : fK) : List Cond := kw k :: fAll
theorem kw_spec {k : fK} {a : Array Value} {U : State} {mk : MethodId} (hn : U.methodNamed? (ky k) = some mk) (h : (kw k).before a U = true) :
    ∃ meth c, U.vm.method? mk = some meth ∧ meth.code = some c ∧ c.code = kb k ∧ c.maxLocals = kn k ∧ meth.sig.returnType = kr k ∧ meth.locks = false ∧
      c.exceptionTable.toList.map (fun h => (h.startPc, h.endPc, h.handlerPc, h.catchType)) = kh k ∧ parseMethodDescriptor (ky k).desc = some meth.sig := by
  unfold kw at h
  by_cases he : (kh k).isEmpty = true
  · rw [if_pos he] at h
    obtain ⟨meth, c, h1, h2, h3, h4, h5, h6, h7, h8⟩ := Cond.code_spec hn h
    refine ⟨meth, c, h1, h2, h3, h4, h5, h6, ?_, h8⟩
    rw [Array.isEmpty_iff.mp h7, List.isEmpty_iff.mp he]
    rfl
  · rw [if_neg he] at h
    obtain ⟨m9, meth, c, hn9, h1, h2, h3, h4, h5, h6, h7, h8⟩ := Cond.codeWith_spec h
    cases hn.symm.trans hn9
    exact ⟨meth, c, h1, h2, h3, h4, h6, h7, h5, h8⟩
theorem kw_good (k : fK) : goodWord (kw k) = true := by
  unfold kw
  split <;> rfl
/-- literals: (class, entry, text, number) -/
abbrev fSt0 : Type := String × Nat × String × Nat
/-- what the walk takes along of the heap that no method of ours writes: String constants, statics -/
def fSt (N : Nat) (len : List Nat) (byt : List (List Int32)) (lits : List fSt0) (ad : Nat → Nat) (A : Nat → Prop) (U : State) (H : Heap) : Prop :=
  vx_Zq Bundle.tN "UNASSIGNED_STACK" Bundle.steD A U H ∧ vx_Zq Bundle.tN "SUPPRESSED_SENTINEL" Bundle.listD A U H ∧ va_Z "java/lang/String" "COMPACT_STRINGS" "Z" (.int 1) A U H ∧
  vk_S N len byt (fun i => ad (1000 + i)) (fun i => ad (2000 + i)) A U H ∧ ∀ q ∈ lits, vk_R q.1 q.2.1 q.2.2.1 (ad (1000 + q.2.2.2)) U
