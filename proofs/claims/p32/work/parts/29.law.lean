/-! laid by program: shallow functions and contracts -/
theorem w23 : Cond.classLink RL 11 "BeltKnots" ∈ fAll := fAll_mk (List.mem_of_getElem? (i := 23) (by decide +kernel)) (by decide +kernel)
theorem w24 : Cond.instantiable "BeltKnots" 5 ∈ fAll := fAll_mk (List.mem_of_getElem? (i := 24) (by decide +kernel)) (by decide +kernel)
theorem w25 : Cond.methodLink RL 140 yX10_init ∈ fAll := fAll_mk (List.mem_of_getElem? (i := 25) (by decide +kernel)) (by decide +kernel)
theorem w26 : Cond.instanceMethod yX10_init ∈ fAll := fAll_mk (List.mem_of_getElem? (i := 26) (by decide +kernel)) (by decide +kernel)
theorem w98 : Cond.arrayClass .byte ∈ fAll := fAll_mk (List.mem_of_getElem? (i := 98) (by decide +kernel)) (by decide +kernel)
theorem w166 : Cond.methodLink RL 145 yL_cell ∈ fAll := fAll_mk (List.mem_of_getElem? (i := 166) (by decide +kernel)) (by decide +kernel)
theorem w167 : Cond.static yL_cell ∈ fAll := fAll_mk (List.mem_of_getElem? (i := 167) (by decide +kernel)) (by decide +kernel)
theorem w171 : Cond.methodLink RL 141 yL_holds ∈ fAll := fAll_mk (List.mem_of_getElem? (i := 171) (by decide +kernel)) (by decide +kernel)
theorem w172 : Cond.static yL_holds ∈ fAll := fAll_mk (List.mem_of_getElem? (i := 172) (by decide +kernel)) (by decide +kernel)
theorem w457 : Cond.methodLink RL 149 yL_act ∈ fAll := fAll_mk (List.mem_of_getElem? (i := 457) (by decide +kernel)) (by decide +kernel)
theorem w458 : Cond.static yL_act ∈ fAll := fAll_mk (List.mem_of_getElem? (i := 458) (by decide +kernel)) (by decide +kernel)
def k_L_law : fK := (x, cL_law, 3, ret, [(0, 0, 0, 0)], (14, 554), (0, 0), (0, 0))
def s_L_law_L28 (a0n : Nat) (a0 : Nat → Int32) : Nat → Int32 → (Nat → Int32) → (Int32) → (Int32) → (Int32) → (Nat → Int32) → (Nat → Int32) → (Int32) → (Nat → Int32) → (Int32) → (Nat → Int32) → Option (Int32 × (Nat → Int32) × (Int32) × (Int32) × (Int32) × (Nat → Int32) × (Nat → Int32) × (Int32) × (Nat → Int32) × (Int32) × (Nat → Int32))
  | 0, _, _, _, _, _, _, _, _, _, _, _ => none
  | n + 1, x2, State_cells, History_oldest, History_size, History_snapshotTaken, History_saved, History_snapshot, Buffer_size, Buffer_codes, Word_size, Word_letters => if (52 ≤ x2 : Prop) then (some (x2, State_cells, History_oldest, History_size, History_snapshotTaken, History_saved, History_snapshot, Buffer_size, Buffer_codes, Word_size, Word_letters)) else ((s_L_cell a0n a0 (2 * x2)).bind fun v4 => (s_L_cell a0n a0 ((2 * x2) + 1)).bind fun v5 => (s_L_act v4 v5 State_cells History_oldest History_size History_snapshotTaken History_saved History_snapshot Buffer_size Buffer_codes Word_size Word_letters).bind fun v6 => if (v6.1 = 0 : Prop) then (none) else ((s_L_holds v6.2.1 v6.2.2.2.1 v6.2.2.2.2.2.2.2.2.2.1 v6.2.2.2.2.2.2.2.2.2.2).bind fun v7 => if (v7.1 = 0 : Prop) then (none) else (s_L_law_L28 a0n a0 n (x2 + 1) v6.2.1 v6.2.2.1 v6.2.2.2.1 v6.2.2.2.2.1 v6.2.2.2.2.2.1 v6.2.2.2.2.2.2.1 v6.2.2.2.2.2.2.2.1 v6.2.2.2.2.2.2.2.2.1 v7.2.1 v7.2.2)))
set_option maxHeartbeats 4000000 in
set_option maxRecDepth 100000 in
theorem v_L_law_L28 {a0n : Nat} {a0 : Nat → Int32} {Reader_pattern : Nat} {Reader_place : Int32} : ∀ (n : Nat) {x2 : Int32} {State_cells : (Nat → Int32)} {History_oldest : (Int32)} {History_size : (Int32)} {History_snapshotTaken : (Int32)} {History_saved : (Nat → Int32)} {History_snapshot : (Nat → Int32)} {Buffer_size : (Int32)} {Buffer_codes : (Nat → Int32)} {Word_size : (Int32)} {Word_letters : (Nat → Int32)} {res : Int32 × (Nat → Int32) × (Int32) × (Int32) × (Int32) × (Nat → Int32) × (Nat → Int32) × (Int32) × (Nat → Int32) × (Int32) × (Nat → Int32)} (hf : s_L_law_L28 a0n a0 n x2 State_cells History_oldest History_size History_snapshotTaken History_saved History_snapshot Buffer_size Buffer_codes Word_size Word_letters = some res) {cl sl : Nat} (hc : cl + 10 * n ≤ 600104) (hs : sl + 100 * n ≤ 7301314) (hx : V (fXlaw a0n a0) room_1 k_L_law 0 72 [some (.ref 3000), some (.ref 0), some (.int res.1), none, none, none, none, none, none] [] [.inl (5, [.ref 1, .ref 3, .ref 6, .ref 8, .ref 9]), .inl (3, [.ref 2]), .inr (910, .inl res.2.1), .inl (1, [.ref 4, .ref 5, .int res.2.2.1, .int res.2.2.2.1, .int res.2.2.2.2.1]), .inr (5460, .inl res.2.2.2.2.2.1), .inr (910, .inl res.2.2.2.2.2.2.1), .inl (0, [.ref 7, .int res.2.2.2.2.2.2.2.1]), .inr (60, .inl res.2.2.2.2.2.2.2.2.1), .inl (2, [.ref (Reader_pattern + 1000), .int Reader_place]), .inl (4, [.ref 10, .int res.2.2.2.2.2.2.2.2.2.1]), .inr (8, .inl res.2.2.2.2.2.2.2.2.2.2)] 600104 7301314), V (fXlaw a0n a0) room_1 k_L_law 0 28 [some (.ref 3000), some (.ref 0), some (.int x2), none, none, none, none, none, none] [] [.inl (5, [.ref 1, .ref 3, .ref 6, .ref 8, .ref 9]), .inl (3, [.ref 2]), .inr (910, .inl State_cells), .inl (1, [.ref 4, .ref 5, .int History_oldest, .int History_size, .int History_snapshotTaken]), .inr (5460, .inl History_saved), .inr (910, .inl History_snapshot), .inl (0, [.ref 7, .int Buffer_size]), .inr (60, .inl Buffer_codes), .inl (2, [.ref (Reader_pattern + 1000), .int Reader_place]), .inl (4, [.ref 10, .int Word_size]), .inr (8, .inl Word_letters)] cl sl := by
  intro n
  induction n with
  | zero =>
    intro x2 State_cells History_oldest History_size History_snapshotTaken History_saved History_snapshot Buffer_size Buffer_codes Word_size Word_letters res hf cl sl hc hs hx
    rw [s_L_law_L28] at hf
    cases hf
  | succ n ih =>
    intro x2 State_cells History_oldest History_size History_snapshotTaken History_saved History_snapshot Buffer_size Buffer_codes Word_size Word_letters res hf cl sl hc hs hx
    rw [s_L_law_L28] at hf
    refine V.iload_n (i := 2) dL_law_28 rfl rfl ?_
    refine V.bipush (v := 52) dL_law_29 rfl ?_
    refine V.icmp_ge (tgt := 72) dL_law_31 (by decide) (fun h => ?_) (fun h => ?_)
    · have hf := fif_t h hf
      obtain rfl := Option.some.inj hf
      exact V.wide (by omega) (by omega) hx
    · have hf := fif_f h hf
      refine V.aload_n (i := 1) dL_law_34 rfl rfl ?_
      refine V.aload_n (i := 0) dL_law_35 rfl rfl ?_
      refine V.iconst (v := 2) dL_law_36 rfl ?_
      refine V.iload_n (i := 2) dL_law_37 rfl rfl ?_
      refine V.imul dL_law_38 ?_
      obtain ⟨v4, hv4, hf⟩ := fbind hf
      refine V.callCell fAbs_law (ct_L_cell hv4) dL_law_39 w166 w167 cal_L_cell rfl ⟨⟨Nat.le_of_ble_eq_true rfl, Nat.le_of_ble_eq_true rfl⟩, (show cl + 0 ≤ 600104 by omega), (show sl + 0 ≤ 7301314 by omega)⟩ (Nat.le_of_ble_eq_true rfl) ?_
      refine V.aload_n (i := 0) dL_law_42 rfl rfl ?_
      refine V.iconst (v := 2) dL_law_43 rfl ?_
      refine V.iload_n (i := 2) dL_law_44 rfl rfl ?_
      refine V.imul dL_law_45 ?_
      refine V.iconst (v := 1) dL_law_46 rfl ?_
      refine V.iadd dL_law_47 ?_
      obtain ⟨v5, hv5, hf⟩ := fbind hf
      refine V.callCell fAbs_law (ct_L_cell hv5) dL_law_48 w166 w167 cal_L_cell rfl ⟨⟨Nat.le_of_ble_eq_true rfl, Nat.le_of_ble_eq_true rfl⟩, (show cl + 0 ≤ 600104 by omega), (show sl + 0 ≤ 7301314 by omega)⟩ (Nat.le_of_ble_eq_true rfl) ?_
      obtain ⟨v6, hv6, hf⟩ := fbind hf
      refine V.callSn (pl := [0, 1, 2, 3, 4, 5, 6, 7, 8, 9, 10]) (σ' := [.inl (5, [.ref 1, .ref 3, .ref 6, .ref 8, .ref 9]), .inl (3, [.ref 2]), .inr (910, .inl v6.2.1), .inl (1, [.ref 4, .ref 5, .int v6.2.2.1, .int v6.2.2.2.1, .int v6.2.2.2.2.1]), .inr (5460, .inl v6.2.2.2.2.2.1), .inr (910, .inl v6.2.2.2.2.2.2.1), .inl (0, [.ref 7, .int v6.2.2.2.2.2.2.2.1]), .inr (60, .inl v6.2.2.2.2.2.2.2.2.1), .inl (2, [.ref (Reader_pattern + 1000), .int Reader_place]), .inl (4, [.ref 10, .int v6.2.2.2.2.2.2.2.2.2.1]), .inr (8, .inl v6.2.2.2.2.2.2.2.2.2.2)]) (st2 := [.int v6.1]) (cl2 := (cl + 2)) (sl2 := (sl + 14)) (ct_L_act (a1 := v4) (a2 := v5) (State_cells := State_cells) (History_oldest := History_oldest) (History_size := History_size) (History_snapshotTaken := History_snapshotTaken) (History_saved := History_saved) (History_snapshot := History_snapshot) (Buffer_size := Buffer_size) (Buffer_codes := Buffer_codes) (Reader_pattern := Reader_pattern) (Reader_place := Reader_place) (Word_size := Word_size) (Word_letters := Word_letters) hv6) dL_law_51 w457 w458 cal_L_act ⟨⟨Nat.le_of_ble_eq_true rfl, Nat.le_of_ble_eq_true rfl⟩, (show cl + 3 ≤ 600104 by omega), (show sl + 20 ≤ 7301314 by omega)⟩ (Nat.le_of_ble_eq_true rfl) rfl ⟨rfl, ⟨by decide, by decide⟩, rfl, (fr_cons (Or.inl (Nat.le_of_ble_eq_true rfl)) (fr_cons (Or.inl (Nat.le_of_ble_eq_true rfl)) (fr_cons (Or.inl (Nat.le_of_ble_eq_true rfl)) (fr_cons (Or.inl (Nat.le_of_ble_eq_true rfl)) (fr_cons (Or.inl (Nat.le_of_ble_eq_true rfl)) (fr_cons (Or.inl (Nat.le_of_ble_eq_true rfl)) (fr_cons (Or.inl (Nat.le_of_ble_eq_true rfl)) (fr_cons (Or.inl (Nat.le_of_ble_eq_true rfl)) (fr_cons (Or.inl (Nat.le_of_ble_eq_true rfl)) (fr_cons (Or.inr (Nat.le_add_left 1000 _)) (fr_cons (Or.inl (Nat.le_of_ble_eq_true rfl)) (fr_nil)))))))))))), rfl⟩ fr_i rfl rfl rfl rfl ?_
      refine V.if_eq (tgt := 64) dL_law_54 (by decide) (fun h => ?_) (fun h => ?_)
      · have hf := fif_t h hf
        refine V.iconst (v := 0) dL_law_64 rfl ?_
        cases hf
      · have hf := fif_f h hf
        refine V.aload_n (i := 1) dL_law_57 rfl rfl ?_
        obtain ⟨v7, hv7, hf⟩ := fbind hf
        refine V.callSn (pl := [0, 1, 2, 3, 4, 5, 6, 7, 8, 9, 10]) (σ' := [.inl (5, [.ref 1, .ref 3, .ref 6, .ref 8, .ref 9]), .inl (3, [.ref 2]), .inr (910, .inl v6.2.1), .inl (1, [.ref 4, .ref 5, .int v6.2.2.1, .int v6.2.2.2.1, .int v6.2.2.2.2.1]), .inr (5460, .inl v6.2.2.2.2.2.1), .inr (910, .inl v6.2.2.2.2.2.2.1), .inl (0, [.ref 7, .int v6.2.2.2.2.2.2.2.1]), .inr (60, .inl v6.2.2.2.2.2.2.2.2.1), .inl (2, [.ref (Reader_pattern + 1000), .int Reader_place]), .inl (4, [.ref 10, .int v7.2.1]), .inr (8, .inl v7.2.2)]) (st2 := [.int v7.1]) (cl2 := (cl + 2)) (sl2 := (sl + 14)) (ct_L_holds (State_cells := v6.2.1) (History_oldest := v6.2.2.1) (History_size := v6.2.2.2.1) (History_snapshotTaken := v6.2.2.2.2.1) (History_saved := v6.2.2.2.2.2.1) (History_snapshot := v6.2.2.2.2.2.2.1) (Buffer_size := v6.2.2.2.2.2.2.2.1) (Buffer_codes := v6.2.2.2.2.2.2.2.2.1) (Reader_pattern := Reader_pattern) (Reader_place := Reader_place) (Word_size := v6.2.2.2.2.2.2.2.2.2.1) (Word_letters := v6.2.2.2.2.2.2.2.2.2.2) hv7) dL_law_58 w171 w172 cal_L_holds ⟨⟨Nat.le_of_ble_eq_true rfl, Nat.le_of_ble_eq_true rfl⟩, (show (cl + 2) + 1 ≤ 600104 by omega), (show (sl + 14) + 6 ≤ 7301314 by omega)⟩ (Nat.le_of_ble_eq_true rfl) rfl ⟨rfl, ⟨by decide, by decide⟩, rfl, (fr_cons (Or.inl (Nat.le_of_ble_eq_true rfl)) (fr_cons (Or.inl (Nat.le_of_ble_eq_true rfl)) (fr_cons (Or.inl (Nat.le_of_ble_eq_true rfl)) (fr_cons (Or.inl (Nat.le_of_ble_eq_true rfl)) (fr_cons (Or.inl (Nat.le_of_ble_eq_true rfl)) (fr_cons (Or.inl (Nat.le_of_ble_eq_true rfl)) (fr_cons (Or.inl (Nat.le_of_ble_eq_true rfl)) (fr_cons (Or.inl (Nat.le_of_ble_eq_true rfl)) (fr_cons (Or.inl (Nat.le_of_ble_eq_true rfl)) (fr_cons (Or.inr (Nat.le_add_left 1000 _)) (fr_cons (Or.inl (Nat.le_of_ble_eq_true rfl)) (fr_nil)))))))))))), rfl⟩ fr_i rfl rfl rfl rfl ?_
        refine V.if_ne (tgt := 66) dL_law_61 (by decide) (fun h => ?_) (fun h => ?_)
        · have hf := fif_f h hf
          refine V.iinc (i := 2) (v := (x2 + 1)) (L' := [some (.ref 3000), some (.ref 0), some (.int (x2 + 1)), none, none, none, none, none, none]) dL_law_66 rfl rfl (Nat.le_of_ble_eq_true rfl) rfl rfl ?_
          refine V.goto (tgt := 28) dL_law_69 (by decide) ?_
          exact ih hf (show (cl + 2) + 10 * n ≤ 600104 by omega) (show (sl + 14) + 100 * n ≤ 7301314 by omega) hx
        · have hf := fif_t h hf
          refine V.iconst (v := 0) dL_law_64 rfl ?_
          cases hf
def s_L_law (a0n : Nat) (a0 : Nat → Int32) : Option Unit := (s_X10_init).bind fun v1 => (s_L_holds v1.1 v1.2.2.1 v1.2.2.2.2.2.2.2.2.2.2.1 v1.2.2.2.2.2.2.2.2.2.2.2).bind fun v2 => if (v2.1 = 0 : Prop) then (none) else ((s_X10_trueShare v1.1).bind fun v3 => if ((Op.cmpValue (FP.dcmp v3 FP.dconst1) .l) = 0 : Prop) then ((s_L_law_L28 a0n a0 53 0 v1.1 v1.2.1 v1.2.2.1 v1.2.2.2.1 v1.2.2.2.2.1 v1.2.2.2.2.2.1 v1.2.2.2.2.2.2.1 v1.2.2.2.2.2.2.2.1 v2.2.1 v2.2.2).bind fun r8 => some ()) else (none))
set_option maxHeartbeats 4000000 in
set_option maxRecDepth 100000 in
theorem v_L_law {a0n : Nat} {a0 : Nat → Int32} (hf : s_L_law a0n a0 = some ()) : V (fXlaw a0n a0) room_1 k_L_law 0 0 [some (.ref 3000), none, none, none, none, none, none, none, none] [] [] 0 0 := by
  unfold s_L_law at hf
  refine V.new (ci := 5) (fs := [.null, .null, .null, .null, .null]) fl_RX10 dL_law_0 w23 w24 w6 (fun j hj => by rcases (show j = 0 ∨ j = 1 ∨ j = 2 ∨ j = 3 ∨ j = 4 by omega) with rfl | rfl | rfl | rfl | rfl <;> rfl) (fun _ => rfl) rfl (Nat.le_of_ble_eq_true rfl) (Nat.le_of_ble_eq_true rfl) ?_
  refine V.dup dL_law_3 rfl ?_
  obtain ⟨v1, hv1, hf⟩ := fbind hf
  refine V.callI (pl := [0]) (σ' := [.inl (5, [.ref 1, .ref 3, .ref 6, .ref 8, .ref 9]), .inl (3, [.ref 2]), .inr (910, .inl v1.1), .inl (1, [.ref 4, .ref 5, .int v1.2.1, .int v1.2.2.1, .int v1.2.2.2.1]), .inr (5460, .inl v1.2.2.2.2.1), .inr (910, .inl v1.2.2.2.2.2.1), .inl (0, [.ref 7, .int v1.2.2.2.2.2.2.1]), .inr (60, .inl v1.2.2.2.2.2.2.2.1), .inl (2, [.ref (v1.2.2.2.2.2.2.2.2.1 + 1000), .int v1.2.2.2.2.2.2.2.2.2.1]), .inl (4, [.ref 10, .int v1.2.2.2.2.2.2.2.2.2.2.1]), .inr (8, .inl v1.2.2.2.2.2.2.2.2.2.2.2)]) (ct_X10_init hv1) dL_law_4 (Or.inl w25) w26 rfl rfl cal_X10_init rfl ⟨⟨Nat.le_of_ble_eq_true rfl, Nat.le_of_ble_eq_true rfl⟩, Nat.le_of_ble_eq_true rfl, Nat.le_of_ble_eq_true rfl⟩ (Nat.le_of_ble_eq_true rfl) rfl ⟨rfl, ⟨by decide, by decide⟩, ⟨rfl, rfl⟩, ⟨Nat.le_of_ble_eq_true rfl, Nat.le_of_ble_eq_true rfl⟩, ⟨rfl, rfl⟩, rfl⟩ ?_
  refine V.astore_n (i := 1) (L' := [some (.ref 3000), some (.ref 0), none, none, none, none, none, none, none]) dL_law_7 rfl (Nat.le_of_ble_eq_true rfl) rfl rfl ?_
  refine V.aload_n (i := 1) dL_law_8 rfl rfl ?_
  obtain ⟨v2, hv2, hf⟩ := fbind hf
  refine V.callSn (pl := [0, 1, 2, 3, 4, 5, 6, 7, 8, 9, 10]) (σ' := [.inl (5, [.ref 1, .ref 3, .ref 6, .ref 8, .ref 9]), .inl (3, [.ref 2]), .inr (910, .inl v1.1), .inl (1, [.ref 4, .ref 5, .int v1.2.1, .int v1.2.2.1, .int v1.2.2.2.1]), .inr (5460, .inl v1.2.2.2.2.1), .inr (910, .inl v1.2.2.2.2.2.1), .inl (0, [.ref 7, .int v1.2.2.2.2.2.2.1]), .inr (60, .inl v1.2.2.2.2.2.2.2.1), .inl (2, [.ref (v1.2.2.2.2.2.2.2.2.1 + 1000), .int v1.2.2.2.2.2.2.2.2.2.1]), .inl (4, [.ref 10, .int v2.2.1]), .inr (8, .inl v2.2.2)]) (st2 := [.int v2.1]) (cl2 := 11) (sl2 := 7365) (ct_L_holds (State_cells := v1.1) (History_oldest := v1.2.1) (History_size := v1.2.2.1) (History_snapshotTaken := v1.2.2.2.1) (History_saved := v1.2.2.2.2.1) (History_snapshot := v1.2.2.2.2.2.1) (Buffer_size := v1.2.2.2.2.2.2.1) (Buffer_codes := v1.2.2.2.2.2.2.2.1) (Reader_pattern := v1.2.2.2.2.2.2.2.2.1) (Reader_place := v1.2.2.2.2.2.2.2.2.2.1) (Word_size := v1.2.2.2.2.2.2.2.2.2.2.1) (Word_letters := v1.2.2.2.2.2.2.2.2.2.2.2) hv2) dL_law_9 w171 w172 cal_L_holds ⟨⟨Nat.le_of_ble_eq_true rfl, Nat.le_of_ble_eq_true rfl⟩, Nat.le_of_ble_eq_true rfl, Nat.le_of_ble_eq_true rfl⟩ (Nat.le_of_ble_eq_true rfl) rfl ⟨rfl, ⟨by decide, by decide⟩, rfl, (fr_cons (Or.inl (Nat.le_of_ble_eq_true rfl)) (fr_cons (Or.inl (Nat.le_of_ble_eq_true rfl)) (fr_cons (Or.inl (Nat.le_of_ble_eq_true rfl)) (fr_cons (Or.inl (Nat.le_of_ble_eq_true rfl)) (fr_cons (Or.inl (Nat.le_of_ble_eq_true rfl)) (fr_cons (Or.inl (Nat.le_of_ble_eq_true rfl)) (fr_cons (Or.inl (Nat.le_of_ble_eq_true rfl)) (fr_cons (Or.inl (Nat.le_of_ble_eq_true rfl)) (fr_cons (Or.inl (Nat.le_of_ble_eq_true rfl)) (fr_cons (Or.inr (Nat.le_add_left 1000 _)) (fr_cons (Or.inl (Nat.le_of_ble_eq_true rfl)) (fr_nil)))))))))))), rfl⟩ fr_i rfl rfl rfl rfl ?_
  refine V.if_eq (tgt := 24) dL_law_12 (by decide) (fun h => ?_) (fun h => ?_)
  · have hf := fif_t h hf
    refine V.iconst (v := 0) dL_law_24 rfl ?_
    cases hf
  · have hf := fif_f h hf
    refine V.aload_n (i := 1) dL_law_15 rfl rfl ?_
    obtain ⟨v3, hv3, hf⟩ := fbind hf
    refine V.callVn (pl := [0, 1, 2, 3, 4, 5, 6, 7, 8, 9, 10]) (σ' := [.inl (5, [.ref 1, .ref 3, .ref 6, .ref 8, .ref 9]), .inl (3, [.ref 2]), .inr (910, .inl v1.1), .inl (1, [.ref 4, .ref 5, .int v1.2.1, .int v1.2.2.1, .int v1.2.2.2.1]), .inr (5460, .inl v1.2.2.2.2.1), .inr (910, .inl v1.2.2.2.2.2.1), .inl (0, [.ref 7, .int v1.2.2.2.2.2.2.1]), .inr (60, .inl v1.2.2.2.2.2.2.2.1), .inl (2, [.ref (v1.2.2.2.2.2.2.2.2.1 + 1000), .int v1.2.2.2.2.2.2.2.2.2.1]), .inl (4, [.ref 10, .int v2.2.1]), .inr (8, .inl v2.2.2)]) (st2 := [.double v3]) (cl2 := 11) (sl2 := 7365) (ct_X10_trueShare (State_cells := v1.1) (History_oldest := v1.2.1) (History_size := v1.2.2.1) (History_snapshotTaken := v1.2.2.2.1) (History_saved := v1.2.2.2.2.1) (History_snapshot := v1.2.2.2.2.2.1) (Buffer_size := v1.2.2.2.2.2.2.1) (Buffer_codes := v1.2.2.2.2.2.2.2.1) (Reader_pattern := v1.2.2.2.2.2.2.2.2.1) (Reader_place := v1.2.2.2.2.2.2.2.2.2.1) (Word_size := v2.2.1) (Word_letters := v2.2.2) hv3) dL_law_16 w128 ⟨w129, w130⟩ cal_X10_trueShare rfl ⟨⟨Nat.le_of_ble_eq_true rfl, Nat.le_of_ble_eq_true rfl⟩, Nat.le_of_ble_eq_true rfl, Nat.le_of_ble_eq_true rfl⟩ (Nat.le_of_ble_eq_true rfl) ⟨_, _, _, _, rfl, rfl⟩ rfl ⟨rfl, ⟨by decide, by decide⟩, rfl, (fr_cons (Or.inl (Nat.le_of_ble_eq_true rfl)) (fr_cons (Or.inl (Nat.le_of_ble_eq_true rfl)) (fr_cons (Or.inl (Nat.le_of_ble_eq_true rfl)) (fr_cons (Or.inl (Nat.le_of_ble_eq_true rfl)) (fr_cons (Or.inl (Nat.le_of_ble_eq_true rfl)) (fr_cons (Or.inl (Nat.le_of_ble_eq_true rfl)) (fr_cons (Or.inl (Nat.le_of_ble_eq_true rfl)) (fr_cons (Or.inl (Nat.le_of_ble_eq_true rfl)) (fr_cons (Or.inl (Nat.le_of_ble_eq_true rfl)) (fr_cons (Or.inr (Nat.le_add_left 1000 _)) (fr_cons (Or.inl (Nat.le_of_ble_eq_true rfl)) (fr_nil)))))))))))), rfl⟩ fr_d rfl rfl rfl rfl ?_
    refine V.dconst1 dL_law_19 ?_
    refine V.dcmp dL_law_20 ?_
    refine V.if_eq (tgt := 26) dL_law_21 (by decide) (fun h => ?_) (fun h => ?_)
    · have hf := fif_t h hf
      refine V.iconst (v := 0) dL_law_26 rfl ?_
      refine V.istore_n (i := 2) (L' := [some (.ref 3000), some (.ref 0), some (.int 0), none, none, none, none, none, none]) dL_law_27 rfl (Nat.le_of_ble_eq_true rfl) rfl rfl ?_
      obtain ⟨r8, hr8, hf⟩ := fbind hf
      refine v_L_law_L28 53 hr8 (Nat.le_of_ble_eq_true rfl) (Nat.le_of_ble_eq_true rfl) ?_
      refine V.iconst (v := 1) dL_law_72 rfl ?_
      exact V.lawret rfl rfl dL_law_73 (Nat.le_of_ble_eq_true rfl) (Nat.le_of_ble_eq_true rfl)
    · have hf := fif_f h hf
      refine V.iconst (v := 0) dL_law_24 rfl ?_
      cases hf
