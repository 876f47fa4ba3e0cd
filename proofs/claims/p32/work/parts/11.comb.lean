/-! WORDS OF THE SHALLOW PROGRAMS: each partial step, and what is known where it went through -/
/-- turns of a loop that are allowed for -/
def gF : Nat := 6000
def flet {α β : Type} (a : α) (f : α → Option β) : Option β := f a
theorem flet_e {α β : Type} {a : α} {f : α → Option β} {r : β} (h : flet a f = some r) : ∃ y, a = y ∧ f y = some r := ⟨a, rfl, h⟩
/-- an index within a row -/
def fin? (i : Int32) (n : Nat) : Bool := !(decide (i < 0) || decide (n ≤ i.toNatClampNeg))
theorem fin_in {i : Int32} {n : Nat} (h : fin? i n = true) : vp_in i n := by
  unfold fin? at h
  intro z
  rcases z with z | z
  · simp [z] at h
  · simp [z] at h
/-- a place of a row -/
def fld {α β : Type} (n : Nat) (f : Nat → α) (i : Int32) (g : α → Option β) : Option β := if fin? i n = true then g (f i.toNatClampNeg) else none
theorem fld_e {α β : Type} {n : Nat} {f : Nat → α} {i : Int32} {g : α → Option β} {r : β} (h : fld n f i g = some r) : vp_in i n ∧ ∃ v, f i.toNatClampNeg = v ∧ g v = some r := by
  unfold fld at h
  by_cases hi : fin? i n = true
  · rw [if_pos hi] at h
    exact ⟨fin_in hi, _, rfl, h⟩
  · rw [if_neg hi] at h; cases h
/-- a place of a row, written -/
def fst (n : Nat) (f : Nat → Int32) (i x : Int32) {β : Type} (g : (Nat → Int32) → Option β) : Option β := if fin? i n = true then g (upd f i.toNatClampNeg x) else none
theorem fst_e {β : Type} {n : Nat} {f : Nat → Int32} {i x : Int32} {g : (Nat → Int32) → Option β} {r : β} (h : fst n f i x g = some r) : vp_in i n ∧ ∃ v, upd f i.toNatClampNeg x = v ∧ g v = some r := by
  unfold fst at h
  by_cases hi : fin? i n = true
  · rw [if_pos hi] at h
    exact ⟨fin_in hi, _, rfl, h⟩
  · rw [if_neg hi] at h; cases h
def fstL (n : Nat) (f : Nat → Int64) (i : Int32) (x : Int64) {β : Type} (g : (Nat → Int64) → Option β) : Option β := if fin? i n = true then g (vp_updL f i.toNatClampNeg x) else none
theorem fstL_e {β : Type} {n : Nat} {f : Nat → Int64} {i : Int32} {x : Int64} {g : (Nat → Int64) → Option β} {r : β} (h : fstL n f i x g = some r) : vp_in i n ∧ ∃ v, vp_updL f i.toNatClampNeg x = v ∧ g v = some r := by
  unfold fstL at h
  by_cases hi : fin? i n = true
  · rw [if_pos hi] at h
    exact ⟨fin_in hi, _, rfl, h⟩
  · rw [if_neg hi] at h; cases h
/-- a divisor -/
def fnz {β : Type} (y : Int32) (g : Option β) : Option β := if y = 0 then none else g
theorem fnz_e {β : Type} {y : Int32} {g : Option β} {r : β} (h : fnz y g = some r) : ¬ y = 0 ∧ g = some r := by
  unfold fnz at h
  by_cases hy : y = 0
  · rw [if_pos hy] at h; cases h
  · rw [if_neg hy] at h; exact ⟨hy, h⟩
/-- a double that is a number -/
def fnn {β : Type} (x : UInt64) (g : UInt64 → Option β) : Option β := if x &&& 0x7fffffffffffffff ≤ 0x7ff0000000000000 then g x else none
theorem fnn_e {β : Type} {x : UInt64} {g : UInt64 → Option β} {r : β} (h : fnn x g = some r) : vf_n64 x ∧ ∃ y, x = y ∧ g y = some r := by
  unfold fnn at h
  by_cases hx : x &&& 0x7fffffffffffffff ≤ 0x7ff0000000000000
  · rw [if_pos hx] at h; exact ⟨hx, _, rfl, h⟩
  · rw [if_neg hx] at h; cases h
/-- a truth value -/
def fz {β : Type} (x : Int32) (g : Option β) : Option β := if x = 0 ∨ x = 1 then g else none
theorem fz_e {β : Type} {x : Int32} {g : Option β} {r : β} (h : fz x g = some r) : narrow .boolean (.int x) = .int x ∧ g = some r := by
  unfold fz at h
  by_cases hx : x = 0 ∨ x = 1
  · rw [if_pos hx] at h
    refine ⟨?_, h⟩
    rcases hx with rfl | rfl <;> rfl
  · rw [if_neg hx] at h; cases h
/-- a char -/
def fch {β : Type} (x : Int32) (g : Option β) : Option β := if narrow .char (.int x) = .int x then g else none
theorem fch_e {β : Type} {x : Int32} {g : Option β} {r : β} (h : fch x g = some r) : narrow .char (.int x) = .int x ∧ g = some r := by
  unfold fch at h
  by_cases hx : narrow .char (.int x) = .int x
  · rw [if_pos hx] at h; exact ⟨hx, h⟩
  · rw [if_neg hx] at h; cases h
/-- behind a call that may throw -/
def fth {α β : Type} (x : α ⊕ String) (f : α → Option β) (g : String → Option β) : Option β := match x with
  | .inl v => f v
  | .inr E => g E
theorem fif_t {β : Type} {c : Prop} [Decidable c] {a b : Option β} {r : β} (h : c) (hf : (if c then a else b) = some r) : a = some r := by rw [if_pos h] at hf; exact hf
theorem fif_f {β : Type} {c : Prop} [Decidable c] {a b : Option β} {r : β} (h : ¬ c) (hf : (if c then a else b) = some r) : b = some r := by rw [if_neg h] at hf; exact hf
theorem fbind {α β : Type} {x : Option α} {f : α → Option β} {r : β} (h : x.bind f = some r) : ∃ y, x = some y ∧ f y = some r := Option.bind_eq_some_iff.mp h
/-- how a call ends, by its result -/
def foI (x : Int32 ⊕ String) : fO := match x with
  | .inl v => .inl (some (.int v))
  | .inr E => .inr E
def foV (x : Unit ⊕ String) : fO := match x with
  | .inl _ => .inl none
  | .inr E => .inr E
def foB (x : Int32 ⊕ String) : fO := foI x
theorem fr_nil {n : Nat} : ∀ j ∈ ([] : List Nat), j < n ∨ 1000 ≤ j := fun _ h => nomatch h
theorem fr_cons {n j : Nat} {l : List Nat} (h : j < n ∨ 1000 ≤ j) (t : ∀ i ∈ l, i < n ∨ 1000 ≤ i) : ∀ i ∈ j :: l, i < n ∨ 1000 ≤ i := fun i hi => (List.mem_cons.mp hi).elim (fun e => e ▸ h) (t i)
theorem fr_i {n : Nat} {x : Int32} : ∀ j, some (Value.int x) = some (.ref j) → j < n ∨ 1000 ≤ j := fun _ h => by cases h
theorem fr_l {n : Nat} {x : Int64} : ∀ j, some (Value.long x) = some (.ref j) → j < n ∨ 1000 ≤ j := fun _ h => by cases h
theorem fr_d {n : Nat} {x : UInt64} : ∀ j, some (Value.double x) = some (.ref j) → j < n ∨ 1000 ≤ j := fun _ h => by cases h
theorem fr_s {n i : Nat} : ∀ j, some (Value.ref (i + 1000)) = some (.ref j) → j < n ∨ 1000 ≤ j := fun _ h => by cases h; exact Or.inr (Nat.le_add_left _ _)
theorem fr_v {n : Nat} : ∀ j, (none : Option Value) = some (.ref j) → j < n ∨ 1000 ≤ j := fun _ h => by cases h
theorem fent_pad {As : List Value} {L : List (Option Value)} {j : Nat} (h : fent As ++ List.replicate j none = L) : ∀ (i : Nat) (v : Value), L[i]? = some (some v) → (fent As)[i]? = some (some v) := by
  intro i v hi
  rw [← h] at hi
  by_cases hl : i < (fent As).length
  · rw [List.getElem?_append_left hl] at hi; exact hi
  · rw [List.getElem?_append_right (by omega), List.getElem?_replicate] at hi
    split at hi <;> simp at hi
/-- fewer locals -/
def fsubl : List (Option Value) → List (Option Value) → Prop
  | [], _ => True
  | none :: L', _ :: L => fsubl L' L
  | some v :: L', w :: L => w = some v ∧ fsubl L' L
  | _ :: _, [] => False
theorem fsubl_spec : ∀ {L' L : List (Option Value)}, fsubl L' L → ∀ (i : Nat) (v : Value), L'[i]? = some (some v) → L[i]? = some (some v) := by
  intro L'
  induction L' with
  | nil => intro L _ i v h; simp at h
  | cons o L' ih =>
    intro L h i v hi
    cases L with
    | nil => cases o <;> exact absurd h id
    | cons w L =>
      cases o with
      | none =>
        cases i with
        | zero => simp at hi
        | succ i => simpa using ih (show fsubl L' L from h) i v (by simpa using hi)
      | some u =>
        obtain ⟨h1, h2⟩ : w = some u ∧ fsubl L' L := h
        cases i with
        | zero => simp at hi; subst hi; simp [h1]
        | succ i => simpa using ih h2 i v (by simpa using hi)
/-- behind a loop that may return -/
def fsum {α ε β : Type} (x : α ⊕ ε) (g : α → Option β) (f : ε → Option β) : Option β := match x with
  | .inl r => g r
  | .inr e => f e
/-- a literal whose text is known -/
def fsl {β : Type} (i : Nat) (g : Option β) : Option β := if i < 6 then g else none
theorem fsl_e {β : Type} {i : Nat} {g : Option β} {r : β} (h : fsl i g = some r) : i < 6 ∧ g = some r := by
  unfold fsl at h
  by_cases hi : i < 6
  · rw [if_pos hi] at h; exact ⟨hi, h⟩
  · rw [if_neg hi] at h; cases h
/-- a byte -/
def fby {β : Type} (x : Int32) (g : Option β) : Option β := if narrow .byte (.int x) = .int x then g else none
theorem fby_e {β : Type} {x : Int32} {g : Option β} {r : β} (h : fby x g = some r) : narrow .byte (.int x) = .int x ∧ g = some r := by
  unfold fby at h
  by_cases hx : narrow .byte (.int x) = .int x
  · rw [if_pos hx] at h; exact ⟨hx, h⟩
  · rw [if_neg hx] at h; cases h
/-- System.arraycopy -/
def fcp {β : Type} (m0 : Nat) (f : Nat → Int32) (m1 : Nat) (g : Nat → Int32) (sp dp n : Int32) (k : (Nat → Int32) → Option β) : Option β :=
  if ¬ sp < 0 ∧ ¬ dp < 0 ∧ ¬ n < 0 ∧ sp.toNatClampNeg + n.toNatClampNeg ≤ m0 ∧ dp.toNatClampNeg + n.toNatClampNeg ≤ m1 then k (va_cpy f g sp.toNatClampNeg dp.toNatClampNeg n.toNatClampNeg) else none
theorem fcp_e {β : Type} {m0 : Nat} {f : Nat → Int32} {m1 : Nat} {g : Nat → Int32} {sp dp n : Int32} {k : (Nat → Int32) → Option β} {r : β} (h : fcp m0 f m1 g sp dp n k = some r) :
    ¬ sp < 0 ∧ ¬ dp < 0 ∧ ¬ n < 0 ∧ sp.toNatClampNeg + n.toNatClampNeg ≤ m0 ∧ dp.toNatClampNeg + n.toNatClampNeg ≤ m1 ∧ ∃ v, va_cpy f g sp.toNatClampNeg dp.toNatClampNeg n.toNatClampNeg = v ∧ k v = some r := by
  unfold fcp at h
  split at h
  · rename_i h1
    exact ⟨h1.1, h1.2.1, h1.2.2.1, h1.2.2.2.1, h1.2.2.2.2, _, rfl, h⟩
  · cases h
section MORE
variable {X : fX} {R : Room} {k : fK} {n0 pc : Nat} {L L' : List (Option Value)} {st : List Value} {σ σ' : List fE} {cl sl : Nat}
theorem V.locs (hs : fsubl L' L) (kk : V X R k n0 pc L' st σ cl sl) : V X R k n0 pc L st σ cl sl := V.loc (fsubl_spec hs) kk
theorem V.cgi {x y : Int32} (h : x = y) (kk : V X R k n0 pc L (.int y :: st) σ cl sl) : V X R k n0 pc L (.int x :: st) σ cl sl := by rw [h]; exact kk
theorem V.cgl {x y : Int64} (h : x = y) (kk : V X R k n0 pc L (.long y :: st) σ cl sl) : V X R k n0 pc L (.long x :: st) σ cl sl := by rw [h]; exact kk
theorem V.cgd {x y : UInt64} (h : x = y) (kk : V X R k n0 pc L (.double y :: st) σ cl sl) : V X R k n0 pc L (.double x :: st) σ cl sl := by rw [h]; exact kk
theorem V.fld {q n : Nat} {f : Nat → Int32} {i v : Int32} (hd : decode (kb k) pc = .ok (.iaload, 1)) (hq : σ[q]? = some (.inr (n, .inl f))) (hin : vp_in i n) (hv : f i.toNatClampNeg = v) (kk : V X R k n0 (pc + 1) L (.int v :: st) σ cl sl) : V X R k n0 pc L (.int i :: .ref q :: st) σ cl sl := V.iaload hd hq hin (by rw [hv]; exact kk)
theorem V.fst {q n : Nat} {f f' : Nat → Int32} {i x : Int32} (hd : decode (kb k) pc = .ok (.iastore, 1)) (hq : σ[q]? = some (.inr (n, .inl f))) (hin : vp_in i n) (hv : upd f i.toNatClampNeg x = f') (hσ : σ.set q (.inr (n, .inl f')) = σ') (kk : V X R k n0 (pc + 1) L st σ' cl sl) : V X R k n0 pc L (.int x :: .int i :: .ref q :: st) σ cl sl := V.iastore hd hq hin (by rw [hv]; exact hσ) kk
variable {kc : fK} {σc σc' : List fE} {pl : List Nat} {rest st2 : List Value} {r r' : Option Value} {As : List Value} {b idx cl2 sl2 : Nat}
theorem V.callVn (hCt : Ct kc (.ref b :: As) σc (.inl r) σc') (hd : decode (kb k) pc = .ok (.invokevirtual idx, 3)) (hlk : fLk k kc idx) (hvi : fVi kc) (hcal : fCal kc As.length) (hh : kh kc = []) (hroom : fRoom R kc cl sl) (hrest : (rest.map fun v => v.category).sum ≤ 8) (hrec : fRec σ (fpl pl b) (ky kc).cls)
    (hst : (As.map (ftr (fpl pl))).reverse ++ (.ref (fpl pl b) :: rest) = st) (hsd : fSide σ pl σc σc' σ') (hrr : ∀ j, r = some (.ref j) → j < pl.length ∨ 1000 ≤ j) (hr' : r.map (ftr (fpl pl)) = r') (h2 : r'.toList ++ rest = st2) (hc2 : cl + (kR kc).1 = cl2) (hs2 : sl + (kR kc).2 = sl2) (kk : V X R k n0 (pc + 3) L st2 σ' cl2 sl2) : V X R k n0 pc L st σ cl sl := by
  subst h2 hc2 hs2
  exact V.callV hCt hd hlk hvi hcal hh hroom hrest hrec hst hsd hrr hr' kk
theorem V.callSn (hCt : Ct kc As σc (.inl r) σc') (hd : decode (kb k) pc = .ok (.invokestatic idx, 3)) (hlk : fLk k kc idx) (hsi : Cond.static (ky kc) ∈ fAll) (hcal : fCal kc As.length) (hroom : fRoom R kc cl sl) (hrest : (rest.map fun v => v.category).sum ≤ 8)
    (hst : (As.map (ftr (fpl pl))).reverse ++ rest = st) (hsd : fSide σ pl σc σc' σ') (hrr : ∀ j, r = some (.ref j) → j < pl.length ∨ 1000 ≤ j) (hr' : r.map (ftr (fpl pl)) = r') (h2 : r'.toList ++ rest = st2) (hc2 : cl + (kR kc).1 = cl2) (hs2 : sl + (kR kc).2 = sl2) (kk : V X R k n0 (pc + 3) L st2 σ' cl2 sl2) : V X R k n0 pc L st σ cl sl := by
  subst h2 hc2 hs2
  exact V.callS hCt hd hlk hsi hcal hroom hrest hst hsd hrr hr' kk
theorem V.throwSW {E tx : String} {names : List String} {ik is ic i : Nat} {n1 : Nat} (hT : fTh (ky k).cls E names ik ic) (hlit : ((ky k).cls, is, tx, i) ∈ gLits)
    (d0 : decode (kb k) pc = .ok (.new ik, 3)) (d3 : decode (kb k) (pc + 3) = .ok (.dup, 1)) (d4 : decode (kb k) (pc + 4) = .ok (.ldc_w is, 3)) (d6 : decode (kb k) (pc + 7) = .ok (.invokespecial ic, 3)) (d9 : decode (kb k) (pc + 10) = .ok (.athrow, 1))
    (hh : kh k = []) (hRf : names.length + 3 < R.frames) (hRl : (st.map fun v => v.category).sum + (13 * (names.length + 1) + 43) ≤ R.locals) (hRc : cl + 1 ≤ R.cells ∧ sl + 6 ≤ R.slots) (h1 : cl + 1 ≤ (kT k).1) (h2 : sl + 6 ≤ (kT k).2) (hs : σ = σ') :
    V (fXm n1 k (.inr E) σ') R k n1 pc L st σ cl sl := by
  subst hs
  intro p l e s m args below meth c D ad0 ad A H locs ls hC ha hn hP hD hS hL
  refine f_doneT (vx_throwSW hC.1.1 hC.1.2.1 hC.2.1.2.2.2.2 (own := (ky k).cls) (text := tx) hC.1.2.2.2.1 hT.1 hT.2.1 (hC.1.2.2.2.2 _ hT.2.2.1) (hC.1.2.2.2.2 _ hT.2.2.2.1) (hC.2.2.2.2.2.2.2.2.1 _ hlit) (fun w hw => (hT.2.2.2.2 w hw).elim (hC.1.2.2.2.2 _) (fun h => h.elim (fun h => by rw [h]; exact f_castI (hC.1.2.2.2.2 _ hT.2.2.2.1)) (fun ⟨y, hy, h⟩ => by rw [h]; exact va_Nw.use rfl (hC.2.2.2.2.2.2.2.2.2.2.2.2 y hy)))) (fun w hw => ?_)
    hC.2.2.2.2.1 hC.2.2.2.2.2.1 hS (hL.1.trans hC.1.2.2.1.symm) d0 d3 d4 d6 d9 (f_nohand hC.2.1.2.2.1 hh) hRf (by rw [f_catsum]; exact hRl) hRc.1 hRc.2 hC.2.1.2.1 (fun t hvm hsz hq => ⟨rfl, ad, ha, hn, ?_, hD, ?_⟩) hS.2.2 h1 h2)
  · rcases List.mem_cons.mp hw with rfl | hw
    · exact f_ot hT.2.2.1
    · rcases List.mem_cons.mp hw with rfl | hw
      · exact f_ot hT.2.2.2.1
      · rcases hT.2.2.2.2 w hw with h | rfl | ⟨y, -, rfl⟩
        · exact f_ot h
        · rfl
        · rfl
  · intro j q hj
    exact (hP j q hj).kept (hq _ (hP j q hj).lt)
  · exact ⟨Nat.le_trans hS.1 hsz, fun q h1 h2 => by rw [hq q (Nat.lt_of_lt_of_le h1 hS.1)]; exact hS.2.1 q h1 h2⟩
theorem V.mmax {index : Nat} {x y v : Int32} (hd : decode (kb k) pc = .ok (.invokestatic index, 3)) (hlk : Cond.methodLink (ky k).cls index Lib.Math.max.name ∈ fAll) (hst : Cond.static Lib.Math.max.name ∈ fAll) (hini : Cond.initialized "java/lang/Math" ∈ fAll) (hco : Cond.code Lib.Math.max.name Lib.Math.max.code 2 (some .int) ∈ fAll)
    (hRf : 1 ≤ R.frames) (hRl : (st.map fun v => v.category).sum + 13 ≤ R.locals) (hc : cl ≤ R.cells) (hs : sl ≤ R.slots) (hv : (if x < y then y else x) = v) (kk : V X R k n0 (pc + 3) L (.int v :: st) σ cl sl) : V X R k n0 pc L (.int y :: .int x :: st) σ cl sl := by
  subst hv
  intro p l e s m args below meth c D ad0 ad A H locs ls hC ha hn hP hD hS hL
  have hw := hC.1.2.2.2.2
  exact va_mmax hC.1.1 hC.1.2.1 (hC.1.2.2.1.trans hL.1.symm) hC.1.2.2.2.1 (hw _ hlk) (hw _ hst) (hw _ hini) (hw _ hco) hRf (by rw [f_catsum]; exact hRl) hc hs hd (kk p l e s m args below meth c D ad0 ad A H locs ls hC ha hn hP hD hS hL)
theorem V.mmin {index : Nat} {x y v : Int32} (hd : decode (kb k) pc = .ok (.invokestatic index, 3)) (hlk : Cond.methodLink (ky k).cls index Lib.Math.min.name ∈ fAll) (hst : Cond.static Lib.Math.min.name ∈ fAll) (hini : Cond.initialized "java/lang/Math" ∈ fAll) (hco : Cond.code Lib.Math.min.name Lib.Math.min.code 2 (some .int) ∈ fAll)
    (hRf : 1 ≤ R.frames) (hRl : (st.map fun v => v.category).sum + 13 ≤ R.locals) (hc : cl ≤ R.cells) (hs : sl ≤ R.slots) (hv : (if y < x then y else x) = v) (kk : V X R k n0 (pc + 3) L (.int v :: st) σ cl sl) : V X R k n0 pc L (.int y :: .int x :: st) σ cl sl := by
  subst hv
  intro p l e s m args below meth c D ad0 ad A H locs ls hC ha hn hP hD hS hL
  have hw := hC.1.2.2.2.2
  exact va_mmin hC.1.1 hC.1.2.1 (hC.1.2.2.1.trans hL.1.symm) hC.1.2.2.2.1 (hw _ hlk) (hw _ hst) (hw _ hini) (hw _ hco) hRf (by rw [f_catsum]; exact hRl) hc hs hd (kk p l e s m args below meth c D ad0 ad A H locs ls hC ha hn hP hD hS hL)
end MORE
