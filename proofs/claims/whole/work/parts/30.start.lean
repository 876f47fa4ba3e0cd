/-! laid by program: shallow functions and contracts -/
/-! THE START: from the law's entry to its walk -/
theorem fS1of {args : Array Value} {s : State} {N : Nat} {tm : Nat → Term} {len : List Nat} {byt : List (List Int32)} {A : Nat → Prop} (hN : ∀ i : Nat, i < N → len.getD i 0 < 2 ^ 31) (hex : ∀ i : Nat, i < N → (Cond.exactly (tm i) "java/lang/String").before args s = true) (hco : ∀ i : Nat, i < N → (Cond.eq (.field (tm i) "java/lang/String" "coder" "B") (.int 0)).before args s = true)
    (har : ∀ i : Nat, i < N → (Cond.arrayOf (.field (tm i) "java/lang/String" "value" "[B") .byte).before args s = true) (hle : ∀ i : Nat, i < N → (Cond.eq (.length (.field (tm i) "java/lang/String" "value" "[B")) (.int (Int32.ofNat (len.getD i 0)))).before args s = true)
    (hel : ∀ i : Nat, i < N → ∀ j : Nat, j < len.getD i 0 → (Cond.eq (.elem (.field (tm i) "java/lang/String" "value" "[B") (.int (Int32.ofNat j))) (.int ((byt.getD i []).getD j 0))).before args s = true) (hA : ∀ a : Nat, a < s.heap.size → ¬ A a)
    (adK : Nat → Nat) (had : ∀ i : Nat, i < N → (tm i).eval args s none [] s = some (.ref (adK i))) : ∃ adV : Nat → Nat, fS1 N len byt adK adV A s s.heap := by
  have h0 : ∀ i : Nat, ∃ q : Nat, i < N → va_O "java/lang/String" (adK i) A s s.heap ∧ va_OF "java/lang/String" "coder" "B" (.int 0) (adK i) A s s.heap ∧ va_OF "java/lang/String" "value" "[B" (.ref q) (adK i) A s s.heap ∧ va_T .byte q (len.getD i 0) (fun j => .int ((byt.getD i []).getD j 0)) A s s.heap := by
    intro i
    by_cases hi : i < N
    · obtain ⟨a, c, cA, kA, q1, q2, q3, q4, q5, q6, -⟩ := Cond.exactly_spec (args := args) (first := s) (o := none) (s := s) (idx := []) (t := tm i) (cls := "java/lang/String") (hex i hi)
      have ea : a = adK i := by
        have := q1.symm.trans (had i hi)
        injection this with this
        injection this
      subst ea
      obtain ⟨t, ht, hT⟩ := va_Tof (f := fun j => .int ((byt.getD i []).getD j 0)) (A := A) (hN i hi) (har i hi) (va_eqt (hle i hi)) (fun j hj => va_eqt (hel i hi j hj)) hA
      exact ⟨t, fun _ => ⟨⟨cA, q3, q5, by rw [q6]; exact q2, hA _ (Array.getElem?_eq_some_iff.mp q3).1⟩, vk_OFof q1 (va_eqt (hco i hi)) hA, vk_OFof q1 ht hA, hT⟩⟩
    · exact ⟨0, fun h => absurd h hi⟩
  obtain ⟨ad, h⟩ := Classical.axiomOfChoice h0
  exact ⟨ad, fun i hi => h i hi⟩
def gTm (i : Nat) : Term := .string (gLits.getD i ("", 0, "", 0)).1 (gLits.getD i ("", 0, "", 0)).2.1
theorem f_arr {s : State} {args : Array Value} {ty : FieldType} (hty : ∀ C, ty ≠ .object C) (h : (Cond.arrayClass ty).before args s = true) : ∃ cA : ClassId, ArrOfT s cA ty ∧ va_RA s cA ty := by
  obtain ⟨cB, kB, comp, hcB, hkB, hkind⟩ := Cond.arrayClass_spec h
  refine ⟨cB, fun n z => ⟨fun _ h => (by cases h), kB, hkB, comp, hkind⟩, ?_⟩
  cases ty with
  | object C => exact absurd rfl (hty C)
  | _ => exact hcB
/-- what the Statement gives of the start, in a list that is decided by places -/
theorem f_nar {s : State} {args : Array Value} (h : (Jvm.Cond.and given_1 narrow_1).before args s = true) {w : Cond} (hw : w ∈ flatC (Jvm.Cond.and given_1 narrow_1)) : w.before args s = true := flat_of_before _ h w hw
set_option maxHeartbeats 4000000 in
set_option maxRecDepth 100000 in
theorem f_start {p : Program} {s : State} {m : MethodId} {meth : Method} {c : Code} (l : Launch) (hflags : l.flags = flags0) {b L : Nat} {xs : Nat → Int32} (C0 : lw_At p s m meth c b L xs) :
    ∃ (D : fD) (ad0 : Nat → Nat), fCx k_L_law room_1 D ad0 (fun q => s.heap.size ≤ q) p l s m #[Value.ref b] meth c ∧ ad0 3000 = b := by
  obtain ⟨hx, hb, hr, hml, hown, hts, hX, hbl, hlocks, hgv⟩ := C0
  have hA : ∀ a : Nat, a < s.heap.size → ¬ (fun q : Nat => s.heap.size ≤ q) a := fun a h1 h2 => absurd h1 (Nat.not_lt.mpr h2)
  have hcl : ∀ (k : Nat), ∃ q : ClassId × (Nat → Nat), ∀ r, vwCl[k]? = some r → u_Kn s r.1 r.2.1 r.2.2 q.1 q.2 := by
    have one : ∀ (C : String) (T : u_T) (N n : Nat), (∀ w ∈ u_ws C T N, w ∈ fAll) → (Cond.instantiable C n).before #[Value.ref b] s = true → ∃ q : ClassId × (Nat → Nat), u_Kn s C T N q.1 q.2 := by
      intro C T N n h1 h2
      obtain ⟨c0, iS, h⟩ := u_known (N := N) hts (fun w hw => fAll_tbl (h1 w hw)) h2
      exact ⟨(c0, iS), h⟩
    intro k
    match k with
    | 0 => obtain ⟨q, h⟩ := one RX1 TX1 2 _ fl_RX1.2.1 (hts _ (fAll_tbl w141)); exact ⟨q, fun r hr => by cases hr; exact h⟩
    | 1 => obtain ⟨q, h⟩ := one RX3 TX3 5 _ fl_RX3.2.1 (hts _ (fAll_tbl w119)); exact ⟨q, fun r hr => by cases hr; exact h⟩
    | 2 => obtain ⟨q, h⟩ := one RX5 TX5 2 _ fl_RX5.2.1 (hts _ (fAll_tbl w154)); exact ⟨q, fun r hr => by cases hr; exact h⟩
    | 3 => obtain ⟨q, h⟩ := one RX7 TX7 1 _ fl_RX7.2.1 (hts _ (fAll_tbl w101)); exact ⟨q, fun r hr => by cases hr; exact h⟩
    | 4 => obtain ⟨q, h⟩ := one RX9 TX9 2 _ fl_RX9.2.1 (hts _ (fAll_tbl w169)); exact ⟨q, fun r hr => by cases hr; exact h⟩
    | 5 => obtain ⟨q, h⟩ := one RX10 TX10 5 _ fl_RX10.2.1 (hts _ (fAll_tbl w93)); exact ⟨q, fun r hr => by cases hr; exact h⟩
    | 6 => obtain ⟨q, h⟩ := one RX11 TX11 19 _ fl_RX11.2.1 (hts _ (fAll_tbl w1038)); exact ⟨q, fun r hr => by cases hr; exact h⟩
    | k + 7 => exact ⟨(0, fun _ => 0), fun r hr => by simp [vwCl] at hr⟩
  obtain ⟨fq, hfq⟩ := Classical.axiomOfChoice hcl
  obtain ⟨cI, hI1, hI2⟩ := f_arr (ty := .int) (fun _ h => by cases h) (hts _ (fAll_tbl w117))
  obtain ⟨cJ, hJ1, hJ2⟩ := f_arr (ty := .long) (fun _ h => by cases h) (hts _ (fAll_tbl w1492))
  -- literals
  have hlit : ∀ i : Nat, ∃ a : Nat, i < 27 → (gTm i).eval #[Value.ref b] s none [] s = some (.ref a) := by
    intro i
    by_cases hi : i < 27
    · have hex : (Cond.exactly (gTm i) "java/lang/String").before #[Value.ref b] s = true := by
        refine f_nar hgv ?_
        have : ∀ i < 27, Cond.exactly (gTm i) "java/lang/String" ∈ flatC (Jvm.Cond.and given_1 narrow_1) := by decide +kernel
        exact this i hi
      obtain ⟨a, c, cA, kA, q1, -⟩ := Cond.exactly_spec (args := #[Value.ref b]) (first := s) (o := none) (s := s) (idx := []) (t := gTm i) (cls := "java/lang/String") hex
      exact ⟨a, fun _ => q1⟩
    · exact ⟨0, fun h => absurd h hi⟩
  obtain ⟨adK, hadK⟩ := Classical.axiomOfChoice hlit
  obtain ⟨adV, hadV⟩ := fS1of (args := #[Value.ref b]) (s := s) (N := 6) (tm := gTm) (len := gLen) (byt := gByt) (A := fun q => s.heap.size ≤ q) (by decide)
    (fun i hi => f_nar hgv (by have : ∀ i < 6, Cond.exactly (gTm i) "java/lang/String" ∈ flatC (Jvm.Cond.and given_1 narrow_1) := by decide +kernel
                               exact this i hi))
    (fun i hi => f_nar hgv (by have : ∀ i < 6, Cond.eq (.field (gTm i) "java/lang/String" "coder" "B") (.int 0) ∈ flatC (Jvm.Cond.and given_1 narrow_1) := by decide +kernel
                               exact this i hi))
    (fun i hi => f_nar hgv (by have : ∀ i < 6, Cond.arrayOf (.field (gTm i) "java/lang/String" "value" "[B") .byte ∈ flatC (Jvm.Cond.and given_1 narrow_1) := by decide +kernel
                               exact this i hi))
    (fun i hi => f_nar hgv (by have : ∀ i < 6, Cond.eq (.length (.field (gTm i) "java/lang/String" "value" "[B")) (.int (Int32.ofNat (gLen.getD i 0))) ∈ flatC (Jvm.Cond.and given_1 narrow_1) := by decide +kernel
                               exact this i hi))
    (fun i hi j hj => f_nar hgv (by have : ∀ i < 6, ∀ j < gLen.getD i 0, Cond.eq (.elem (.field (gTm i) "java/lang/String" "value" "[B") (.int (Int32.ofNat j))) (.int ((gByt.getD i []).getD j 0)) ∈ flatC (Jvm.Cond.and given_1 narrow_1) := by decide +kernel
                                    exact this i hi j hj))
    hA adK (fun i hi => hadK i (by omega))
  have hZu := vx_Zqof (A := fun q => s.heap.size ≤ q) (hts (.laysStatic Bundle.tN "UNASSIGNED_STACK" Bundle.steD) (by decide +kernel)) (hts (.initialized Bundle.tN) (by decide +kernel)) (f_nar hgv (w := .isRef (.static Bundle.tN "UNASSIGNED_STACK" Bundle.steD)) (by decide +kernel)) hA
  have hZs := vx_Zqof (A := fun q => s.heap.size ≤ q) (hts (.laysStatic Bundle.tN "SUPPRESSED_SENTINEL" Bundle.listD) (by decide +kernel)) (hts (.initialized Bundle.tN) (by decide +kernel)) (f_nar hgv (w := .isRef (.static Bundle.tN "SUPPRESSED_SENTINEL" Bundle.listD)) (by decide +kernel)) hA
  have hZc := va_Zof (A := fun q => s.heap.size ≤ q) (v := .int 1) (hts (.laysStatic "java/lang/String" "COMPACT_STRINGS" "Z") (by decide +kernel)) (hts (.initialized "java/lang/String") (by decide +kernel)) (va_eqt (f_nar hgv (w := .eq (.static "java/lang/String" "COMPACT_STRINGS" "Z") (.int 1)) (by decide +kernel))) hA
  have hZi := va_Zqof (A := fun q => s.heap.size ≤ q) (hts (.laysStatic "jdk/internal/util/Preconditions" "SIOOBE_FORMATTER" "Ljava/util/function/BiFunction;") (by decide +kernel)) (hts (.initialized "jdk/internal/util/Preconditions") (by decide +kernel)) (f_nar hgv (w := .isRef (.static "jdk/internal/util/Preconditions" "SIOOBE_FORMATTER" "Ljava/util/function/BiFunction;")) (by decide +kernel)) hA
  obtain ⟨tS, hZi⟩ : ∃ t : Nat, va_Z "jdk/internal/util/Preconditions" "SIOOBE_FORMATTER" "Ljava/util/function/BiFunction;" .null (fun q => s.heap.size ≤ q) s s.heap ∨ va_Z "jdk/internal/util/Preconditions" "SIOOBE_FORMATTER" "Ljava/util/function/BiFunction;" (.ref t) (fun q => s.heap.size ≤ q) s s.heap := by
    rcases hZi with h | ⟨t, h⟩
    · exact ⟨0, Or.inl h⟩
    · exact ⟨t, Or.inr h⟩
  refine ⟨((cI, cJ), (fun k => (fq k).1, fun k => (fq k).2)), fun i => if i < 2000 then adK (i - 1000) else if i < 3000 then adV (i - 2000) else if i = 3000 then b else tS, ⟨⟨hx, hb, hml, hown, fun w hw => hts w (fAll_tbl hw)⟩, ⟨hr, hlocks, Or.inl rfl, Or.inl rfl, ?_⟩, ⟨fun k r hr => hfq k r hr, fun k q hq => ?_⟩, fun _ h => h, hZu, hZs, hZc, ?_, fun q hq => ?_, fun q hq => ?_, hZi, fun q hq => ?_, fun y hy => ?_⟩, rfl⟩
  · show (!l.flags.contains noTraceFlag) = false
    rw [hflags]
    decide
  · match k, hq with
    | 0, hq => cases hq; exact ⟨hI1, hI2⟩
    | 1, hq => cases hq; exact ⟨hJ1, hJ2⟩
    | k + 2, hq => simp at hq
  · intro i hi
    have e1 : (if i + 1000 < 2000 then adK (i + 1000 - 1000) else if i + 1000 < 3000 then adV (i + 1000 - 2000) else if i + 1000 = 3000 then b else tS) = adK i := by
      rw [if_pos (by omega)]; congr 1
    have e2 : (if i + 2000 < 2000 then adK (i + 2000 - 1000) else if i + 2000 < 3000 then adV (i + 2000 - 2000) else if i + 2000 = 3000 then b else tS) = adV i := by
      rw [if_neg (by omega), if_pos (by omega)]; congr 1
    dsimp only
    rw [e1, e2]
    exact hadV i hi
  · obtain ⟨i, hi⟩ := List.getElem?_of_mem hq
    have hlt : i < 27 := (List.getElem?_eq_some_iff.mp hi).1
    have hnum : ∀ i < 27, ((gLits.getD i ("", 0, "", 0)).2.2.2 = i) := by decide
    have hget : gLits.getD i ("", 0, "", 0) = q := by rw [List.getD_eq_getElem?_getD, hi]; rfl
    have hn : q.2.2.2 = i := by rw [← hget]; exact hnum i hlt
    have hw : ∀ i < 27, Cond.stringRef (gLits.getD i ("", 0, "", 0)).1 (gLits.getD i ("", 0, "", 0)).2.1 (gLits.getD i ("", 0, "", 0)).2.2.1 ∈ lw_tbl := by decide +kernel
    have h1 := hts _ (hw i hlt)
    rw [hget] at h1
    have h2 := hadK i hlt
    unfold gTm at h2
    rw [hget] at h2
    have e1 : (if q.2.2.2 + 1000 < 2000 then adK (q.2.2.2 + 1000 - 1000) else if q.2.2.2 + 1000 < 3000 then adV (q.2.2.2 + 1000 - 2000) else if q.2.2.2 + 1000 = 3000 then b else tS) = adK i := by
      rw [hn, if_pos (by omega)]; congr 1
    dsimp only
    rw [e1]
    exact vk_R.of h1 h2
  · have : ∀ q ∈ gNc, Cond.not (.castable q.1 q.2) ∈ flatC (Jvm.Cond.and given_1 narrow_1) := by decide +kernel
    exact va_Nc.of (f_nar hgv (this q hq))
  · have : ∀ q ∈ gNl, Cond.methodLinkNest q.1 q.2.1 q.2.2.1 q.2.2.2 ∈ lw_tbl := by decide +kernel
    exact va_Nw.of rfl (hts _ (this q hq))
  · have : ∀ y ∈ gDc, Cond.declares y ∈ lw_tbl := by decide +kernel
    exact va_Nw.of rfl (hts _ (this y hy))
set_option maxHeartbeats 4000000 in
set_option maxRecDepth 100000 in
theorem whole_start_of {p : Program} {e : Env} {s : State} {m : MethodId} {below : List Frame} {meth : Method} {c : Code} (l : Launch) (hflags : l.flags = flags0) {b L : Nat} {xs : Nat → Int32} (C0 : lw_At p s m meth c b L xs) (hf : s_L_law L xs = some ()) : W p l e room_1 s m #[Value.ref b] below meth c s.heap [] 0 0 (lw_Z below #[Value.ref b] s) (entryFrame m ([Value.ref b] : List Value).toArray 9) := by
  obtain ⟨D, ad0, hCx, h3⟩ := f_start l hflags C0
  have hl := lv_entry ([.ref b]) (n := 9) (Nat.le_of_ble_eq_true rfl)
  have hw := v_L_law hf p l e s m #[Value.ref b] below meth c D ad0 ad0 (fun q => s.heap.size ≤ q) s.heap [] ((lg_sl ([.ref b]) ++ List.replicate (9 - (lg_sl ([.ref b])).length) Slot.unset).toArray) hCx (fun _ _ => rfl) (Nat.zero_le _) (fun k q h => by simp [fw] at h) ⟨fun i j p q h => by simp [fw] at h, fun k q h => by simp [fw] at h⟩ va_S.rf (by
    refine ⟨hl.1, hl.2.1, fun y hy => ?_⟩
    have hy : y ∈ [(0, Value.ref (ad0 3000))] := hy
    rw [h3] at hy
    exact hl.2.2 y hy)
  intro T hT X
  rw [lg_entry_eq]
  obtain ⟨t, a1, b1⟩ := hw T hT X
  exact ⟨t, a1, b1 ⟨fun _ h => h, b, rfl, C0.2.2.2.2.2.2.1, C0.2.2.2.2.2.2.2.1, h3⟩⟩

