/-! laid by program: shallow functions and contracts -/
/-! THE START: from the law's entry to its walk -/
def gTm (i : Nat) : Term := .string (gLits.getD i ("", 0, "", 0)).1 (gLits.getD i ("", 0, "", 0)).2.1
theorem f_arr {s : State} {args : Array Value} {ty : FieldType} (hty : ∀ C, ty ≠ .object C) (h : (Cond.arrayClass ty).before args s = true) : ∃ cA : ClassId, ArrOfT s cA ty ∧ va_RA s cA ty := by
  obtain ⟨cB, kB, comp, hcB, hkB, hkind⟩ := Cond.arrayClass_spec h
  refine ⟨cB, fun n z => ⟨fun _ h => (by cases h), kB, hkB, comp, hkind⟩, ?_⟩
  cases ty with
  | object C => exact absurd rfl (hty C)
  | _ => exact hcB
/-- what the Statement gives of the start, in a list that is decided by places -/
theorem f_nar {s : State} {args : Array Value} (h : (Jvm.Cond.and given_1 narrow_1).before args s = true) {w : Cond} (hw : w ∈ flatC (Jvm.Cond.and given_1 narrow_1)) : w.before args s = true := flat_of_before _ h w hw
set_option maxHeartbeats 4000000 in
set_option maxRecDepth 100000 in
theorem f_start {p : Program} {s : State} {m : MethodId} {meth : Method} {c : Code} (l : Launch) (hflags : l.flags = flags0) {b L : Nat} {xs : Nat → Int32} (C0 : lw_At p s m meth c b L xs) :
    ∃ (D : fD) (ad0 : Nat → Nat), fCx k_L_law room_1 D ad0 (fun q => s.heap.size ≤ q) p l s m #[Value.ref b] meth c ∧ ad0 3000 = b := by
  obtain ⟨hx, hb, hr, hml, hown, hts, hX, hbl, hlocks, hgv⟩ := C0
  have hA : ∀ a : Nat, a < s.heap.size → ¬ (fun q : Nat => s.heap.size ≤ q) a := fun a h1 h2 => absurd h1 (Nat.not_lt.mpr h2)
  have hcl : ∀ (k : Nat), ∃ q : ClassId × (Nat → Nat), ∀ r, vwCl[k]? = some r → u_Kn s r.1 r.2.1 r.2.2 q.1 q.2 := by
    have one : ∀ (C : String) (T : u_T) (N n : Nat), (∀ w ∈ u_ws C T N, w ∈ fAll) → (Cond.instantiable C n).before #[Value.ref b] s = true → ∃ q : ClassId × (Nat → Nat), u_Kn s C T N q.1 q.2 := by
      intro C T N n h1 h2
      obtain ⟨c0, iS, h⟩ := u_known (N := N) hts (fun w hw => fAll_tbl (h1 w hw)) h2
      exact ⟨(c0, iS), h⟩
    intro k
    match k with
    | 0 => obtain ⟨q, h⟩ := one RX1 TX1 2 _ fl_RX1.2.1 (hts _ (fAll_tbl w72)); exact ⟨q, fun r hr => by cases hr; exact h⟩
    | 1 => obtain ⟨q, h⟩ := one RX3 TX3 5 _ fl_RX3.2.1 (hts _ (fAll_tbl w50)); exact ⟨q, fun r hr => by cases hr; exact h⟩
    | 2 => obtain ⟨q, h⟩ := one RX5 TX5 2 _ fl_RX5.2.1 (hts _ (fAll_tbl w85)); exact ⟨q, fun r hr => by cases hr; exact h⟩
    | 3 => obtain ⟨q, h⟩ := one RX7 TX7 1 _ fl_RX7.2.1 (hts _ (fAll_tbl w32)); exact ⟨q, fun r hr => by cases hr; exact h⟩
    | 4 => obtain ⟨q, h⟩ := one RX9 TX9 2 _ fl_RX9.2.1 (hts _ (fAll_tbl w100)); exact ⟨q, fun r hr => by cases hr; exact h⟩
    | 5 => obtain ⟨q, h⟩ := one RX10 TX10 5 _ fl_RX10.2.1 (hts _ (fAll_tbl w24)); exact ⟨q, fun r hr => by cases hr; exact h⟩
    | k + 6 => exact ⟨(0, fun _ => 0), fun r hr => by simp [vwCl] at hr⟩
  obtain ⟨fq, hfq⟩ := Classical.axiomOfChoice hcl
  obtain ⟨cI, hI1, hI2⟩ := f_arr (ty := .int) (fun _ h => by cases h) (hts _ (fAll_tbl w48))
  obtain ⟨cJ, hJ1, hJ2⟩ := f_arr (ty := .byte) (fun _ h => by cases h) (hts _ (fAll_tbl w98))
  -- literals
  have hlit : ∀ i : Nat, ∃ a : Nat, i < 20 → (gTm i).eval #[Value.ref b] s none [] s = some (.ref a) := by
    intro i
    by_cases hi : i < 20
    · have hex : (Cond.exactly (gTm i) "java/lang/String").before #[Value.ref b] s = true := by
        refine f_nar hgv ?_
        have : ∀ i < 20, Cond.exactly (gTm i) "java/lang/String" ∈ flatC (Jvm.Cond.and given_1 narrow_1) := by decide +kernel
        exact this i hi
      obtain ⟨a, c, cA, kA, q1, -⟩ := Cond.exactly_spec (args := #[Value.ref b]) (first := s) (o := none) (s := s) (idx := []) (t := gTm i) (cls := "java/lang/String") hex
      exact ⟨a, fun _ => q1⟩
    · exact ⟨0, fun h => absurd h hi⟩
  obtain ⟨adK, hadK⟩ := Classical.axiomOfChoice hlit
  have hZu := vx_Zqof (A := fun q => s.heap.size ≤ q) (hts (.laysStatic Bundle.tN "UNASSIGNED_STACK" Bundle.steD) (by decide +kernel)) (hts (.initialized Bundle.tN) (by decide +kernel)) (f_nar hgv (w := .isRef (.static Bundle.tN "UNASSIGNED_STACK" Bundle.steD)) (by decide +kernel)) hA
  have hZs := vx_Zqof (A := fun q => s.heap.size ≤ q) (hts (.laysStatic Bundle.tN "SUPPRESSED_SENTINEL" Bundle.listD) (by decide +kernel)) (hts (.initialized Bundle.tN) (by decide +kernel)) (f_nar hgv (w := .isRef (.static Bundle.tN "SUPPRESSED_SENTINEL" Bundle.listD)) (by decide +kernel)) hA
  refine ⟨((cI, cJ), (fun k => (fq k).1, fun k => (fq k).2)), fun i => if i < 2000 then adK (i - 1000) else b, ⟨⟨hx, hb, hml, hown, fun w hw => hts w (fAll_tbl hw)⟩, ⟨hr, hlocks, Or.inl rfl, Or.inl rfl, ?_⟩, ⟨fun k r hr => hfq k r hr, fun k q hq => ?_⟩, fun _ h => h, hZu, hZs, trivial, trivial, fun q hq => ?_, fun q hq => ?_, trivial, fun q hq => ?_, fun y hy => ?_⟩, rfl⟩
  · show (!l.flags.contains noTraceFlag) = false
    rw [hflags]
    decide
  · match k, hq with
    | 0, hq => cases hq; exact ⟨hI1, hI2⟩
    | 1, hq => cases hq; exact ⟨hJ1, hJ2⟩
    | k + 2, hq => simp at hq
  · obtain ⟨i, hi⟩ := List.getElem?_of_mem hq
    have hlt : i < 20 := (List.getElem?_eq_some_iff.mp hi).1
    have hnum : ∀ i < 20, ((gLits.getD i ("", 0, "", 0)).2.2.2 = i) := by decide
    have hget : gLits.getD i ("", 0, "", 0) = q := by rw [List.getD_eq_getElem?_getD, hi]; rfl
    have hn : q.2.2.2 = i := by rw [← hget]; exact hnum i hlt
    have hw : ∀ i < 20, Cond.stringRef (gLits.getD i ("", 0, "", 0)).1 (gLits.getD i ("", 0, "", 0)).2.1 (gLits.getD i ("", 0, "", 0)).2.2.1 ∈ lw_tbl := by decide +kernel
    have h1 := hts _ (hw i hlt)
    rw [hget] at h1
    have h2 := hadK i hlt
    unfold gTm at h2
    rw [hget] at h2
    have e1 : (if q.2.2.2 + 1000 < 2000 then adK (q.2.2.2 + 1000 - 1000) else b) = adK i := by
      rw [hn, if_pos (by omega)]; congr 1
    dsimp only
    rw [e1]
    exact vk_R.of h1 h2
  · have : ∀ q ∈ gNc, Cond.not (.castable q.1 q.2) ∈ flatC (Jvm.Cond.and given_1 narrow_1) := by decide +kernel
    exact va_Nc.of (f_nar hgv (this q hq))
  · have : ∀ q ∈ gNl, Cond.methodLinkNest q.1 q.2.1 q.2.2.1 q.2.2.2 ∈ lw_tbl := by decide +kernel
    exact va_Nw.of rfl (hts _ (this q hq))
  · have : ∀ y ∈ gDc, Cond.declares y ∈ lw_tbl := by decide +kernel
    exact va_Nw.of rfl (hts _ (this y hy))
set_option maxHeartbeats 4000000 in
set_option maxRecDepth 100000 in
theorem whole_start_of {p : Program} {e : Env} {s : State} {m : MethodId} {below : List Frame} {meth : Method} {c : Code} (l : Launch) (hflags : l.flags = flags0) {b L : Nat} {xs : Nat → Int32} (C0 : lw_At p s m meth c b L xs) (hf : s_L_law L xs = some ()) : W p l e room_1 s m #[Value.ref b] below meth c s.heap [] 0 0 (lw_Z below #[Value.ref b] s) (entryFrame m ([Value.ref b] : List Value).toArray 3) := by
  obtain ⟨D, ad0, hCx, h3⟩ := f_start l hflags C0
  have hl := lv_entry ([.ref b]) (n := 3) (Nat.le_of_ble_eq_true rfl)
  have hw := v_L_law hf p l e s m #[Value.ref b] below meth c D ad0 ad0 (fun q => s.heap.size ≤ q) s.heap [] ((lg_sl ([.ref b]) ++ List.replicate (3 - (lg_sl ([.ref b])).length) Slot.unset).toArray) hCx (fun _ _ => rfl) (Nat.zero_le _) (fun k q h => by simp [fw] at h) ⟨fun i j p q h => by simp [fw] at h, fun k q h => by simp [fw] at h⟩ va_S.rf (by
    refine ⟨hl.1, hl.2.1, fun y hy => ?_⟩
    have hy : y ∈ [(0, Value.ref (ad0 3000))] := hy
    rw [h3] at hy
    exact hl.2.2 y hy)
  intro T hT X
  rw [lg_entry_eq]
  obtain ⟨t, a1, b1⟩ := hw T hT X
  exact ⟨t, a1, b1 ⟨fun _ h => h, b, rfl, C0.2.2.2.2.2.2.1, C0.2.2.2.2.2.2.2.1, h3⟩⟩

