/-! laid by program: shallow functions and contracts -/
def k_L_cell : fK := (yL_cell, cL_cell, 2, (some .int), [], (0, 0), (0, 0), (0, 0))
theorem cal_L_cell : fCal k_L_cell 2 := ⟨⟨wc168, w5⟩, ⟨by decide +kernel, by decide +kernel⟩, by decide +kernel, by decide +kernel⟩
def s_L_cell (a0n : Nat) (a0 : Nat → Int32) (a1 : Int32) : Option (Int32) := if ((nI a0n) ≤ a1 : Prop) then (some ((835179955 * (a1 + 5)) + 766108657)) else (fld a0n a0 a1 fun v1 => some v1)
set_option maxHeartbeats 4000000 in
set_option maxRecDepth 100000 in
theorem ct_L_cell {a0n : Nat} {a0 : Nat → Int32} {a1 res : Int32} (hf : s_L_cell a0n a0 a1 = some res) : CtS a0n a0 k_L_cell a1 (.inl (some (.int res))) := by
  unfold s_L_cell at hf
  refine CtS.of (L := [some (.ref 3000), some (.int a1)]) cal_L_cell (fent_pad (j := 0) rfl) (Nat.le_of_ble_eq_true rfl) ?_
  refine V.iload_n (i := 1) dL_cell_0 rfl rfl ?_
  refine V.aload_n (i := 0) dL_cell_1 rfl rfl ?_
  refine V.slen fAbs_s dL_cell_2 ?_
  refine V.icmp_ge (tgt := 12) dL_cell_3 (by decide) (fun h => ?_) (fun h => ?_)
  · have hf := fif_t h hf
    refine V.ldcI (v := 835179955) dL_cell_12 w169 ?_
    refine V.iload_n (i := 1) dL_cell_14 rfl rfl ?_
    refine V.iconst (v := 5) dL_cell_15 rfl ?_
    refine V.iadd dL_cell_16 ?_
    refine V.imul dL_cell_17 ?_
    refine V.ldcI (v := 766108657) dL_cell_18 w170 ?_
    refine V.iadd dL_cell_20 ?_
    obtain rfl := Option.some.inj hf
    exact V.toS (V.iret dL_cell_21 rfl (Nat.le_of_ble_eq_true rfl) (Nat.le_of_ble_eq_true rfl) rfl)
  · have hf := fif_f h hf
    refine V.aload_n (i := 0) dL_cell_6 rfl rfl ?_
    refine V.iload_n (i := 1) dL_cell_7 rfl rfl ?_
    obtain ⟨hi, v1, ev1, hf⟩ := fld_e hf
    refine V.sload fAbs_s dL_cell_8 hi ?_
    refine V.cgi ev1 ?_
    refine V.goto (tgt := 21) dL_cell_9 (by decide) ?_
    obtain rfl := Option.some.inj hf
    exact V.toS (V.iret dL_cell_21 rfl (Nat.le_of_ble_eq_true rfl) (Nat.le_of_ble_eq_true rfl) rfl)
def k_L_low : fK := (yL_low, cL_low, 2, (some .int), [], (0, 0), (0, 0), (0, 0))
theorem cal_L_low : fCal k_L_low 2 := ⟨⟨wc462, w5⟩, ⟨by decide +kernel, by decide +kernel⟩, by decide +kernel, by decide +kernel⟩
def s_L_low (a0 : Int32) (a1 : Int32) : Option (Int32) := fnz a1 (some ((a0 &&& 2147483647) - (a0 &&& 2147483647) / a1 * a1))
set_option maxHeartbeats 4000000 in
set_option maxRecDepth 100000 in
theorem ct_L_low {a0 : Int32} {a1 : Int32} {res : Int32} (hf : s_L_low a0 a1 = some res) : Ct k_L_low [.int a0, .int a1] [] (.inl (some (.int res))) [] := by
  unfold s_L_low at hf
  refine Ct.of (L := [some (.int a0), some (.int a1)]) cal_L_low (fent_pad (j := 0) rfl) (Nat.le_of_ble_eq_true rfl) ?_
  refine V.iload_n (i := 0) dL_low_0 rfl rfl ?_
  refine V.ldcI (v := 2147483647) dL_low_1 w463 ?_
  refine V.iand dL_low_3 ?_
  refine V.iload_n (i := 1) dL_low_4 rfl rfl ?_
  obtain ⟨hz, hf⟩ := fnz_e hf
  refine V.irem dL_low_5 hz ?_
  obtain rfl := Option.some.inj hf
  exact V.iret dL_low_6 rfl (Nat.le_of_ble_eq_true rfl) (Nat.le_of_ble_eq_true rfl) rfl
def k_L_isName : fK := (yL_isName, cL_isName, 11, (some .boolean), [], (9, 148), (0, 0), (1, 6))
theorem cal_L_isName : fCal k_L_isName 3 := ⟨⟨wc319, w5⟩, ⟨by decide +kernel, by decide +kernel⟩, by decide +kernel, by decide +kernel⟩
def s_L_isName_L20 (p1 : Int32) (p2 : Int32) (p3 : Int32) (State_cells : Nat → Int32) : Nat → Int32 → Int32 → Int32 → Int32 → Option ((Int32) ⊕ (Int32 × Int32 × Int32 × Int32))
  | 0, _, _, _, _ => none
  | n + 1, x4, x5, x6, x7 => if (8 ≤ x7 : Prop) then (some (.inr (x4, x5, x6, x7))) else ((s_X10_knot p1 p2 x7 0 State_cells).bind fun v3 => fth v3 (fun v4 => (s_X10_knot p1 p2 x7 1 State_cells).bind fun v5 => fth v5 (fun v6 => (s_X10_knot p1 p2 x7 2 State_cells).bind fun v7 => fth v7 (fun v8 => flet ((if (v4 = (-1) : Prop) then 1 else 0) : Int32) fun v9 => flet ((if (x7 < p3 : Prop) then 0 else 1) : Int32) fun v11 => if (v9 = v11 : Prop) then (flet ((if (v4 = (-1) : Prop) then 1 else 0) : Int32) fun v13 => flet ((if (v6 = (-1) : Prop) then 1 else 0) : Int32) fun v15 => if (v13 = v15 : Prop) then (flet ((if (v4 = (-1) : Prop) then 1 else 0) : Int32) fun v17 => flet ((if (v8 = (-1) : Prop) then 1 else 0) : Int32) fun v19 => if (v17 = v19 : Prop) then (if (v4 < 0 : Prop) then (s_L_isName_L20 p1 p2 p3 State_cells n x4 x5 x6 (x7 + 1)) else ((s_X10_letter v4 2 State_cells).bind fun v21 => fth v21 (fun v22 => flet ((if (v8 ≤ 0 : Prop) then 0 else 1) : Int32) fun v23 => flet ((if (v8 ≤ 1 : Prop) then 0 else 1) : Int32) fun v25 => flet ((if (v8 = 0 : Prop) then v4 else (if (v8 = 1 : Prop) then (v4 + 1) else 16)) : Int32) fun v27 => if (v6 = v27 : Prop) then (if (v8 ≤ 0 : Prop) then (if (0 ≤ v8 : Prop) then (s_L_isName_L20 p1 p2 p3 State_cells n (x4 + (v22 + 1)) (x5 + v23) (x6 + v25) (x7 + 1)) else (some (.inl 0))) else ((s_X10_letter v4 3 State_cells).bind fun v30 => fth v30 (fun v31 => if (v31 = 0 : Prop) then (some (.inl 0)) else (if (0 ≤ v8 : Prop) then (s_L_isName_L20 p1 p2 p3 State_cells n (x4 + (v22 + 1)) (x5 + v23) (x6 + v25) (x7 + 1)) else (some (.inl 0)))) (fun E9 => none))) else (some (.inl 0))) (fun E9 => none))) else (some (.inl 0))) else (some (.inl 0))) else (some (.inl 0))) (fun E9 => none)) (fun E9 => none)) (fun E9 => none))
set_option maxHeartbeats 4000000 in
set_option maxRecDepth 100000 in
theorem v_L_isName_L20 {out : fO} {σ' : List fE} {p1 : Int32} {p2 : Int32} {p3 : Int32} {State_cells : Nat → Int32} {History_oldest : Int32} {History_size : Int32} {History_snapshotTaken : Int32} {History_saved : Nat → Int32} {History_snapshot : Nat → Int32} {Buffer_size : Int32} {Buffer_codes : Nat → Int32} {Reader_pattern : Nat} {Reader_place : Int32} {Word_size : Int32} {Word_letters : Nat → Int32} : ∀ (n : Nat) {x4 : Int32} {x5 : Int32} {x6 : Int32} {x7 : Int32} {res : (Int32) ⊕ (Int32 × Int32 × Int32 × Int32)} (hf : s_L_isName_L20 p1 p2 p3 State_cells n x4 x5 x6 x7 = some res) (hr : ∀ r, res = .inl r → out = (.inl (some (.int r))) ∧ σ' = [.inl (5, [.ref 1, .ref 3, .ref 6, .ref 8, .ref 9]), .inl (3, [.ref 2]), .inr (910, .inl State_cells), .inl (1, [.ref 4, .ref 5, .int History_oldest, .int History_size, .int History_snapshotTaken]), .inr (5460, .inl History_saved), .inr (910, .inl History_snapshot), .inl (0, [.ref 7, .int Buffer_size]), .inr (60, .inl Buffer_codes), .inl (2, [.ref (Reader_pattern + 1000), .int Reader_place]), .inl (4, [.ref 10, .int Word_size]), .inr (8, .inl Word_letters)]) (hx : ∀ e, res = .inr e → V (fXm 11 k_L_isName out σ') (krm k_L_isName) k_L_isName 11 245 [some (.ref 0), some (.int p1), some (.int p2), some (.int p3), some (.int e.1), some (.int e.2.1), some (.int e.2.2.1), some (.int e.2.2.2), none, none, none] [] [.inl (5, [.ref 1, .ref 3, .ref 6, .ref 8, .ref 9]), .inl (3, [.ref 2]), .inr (910, .inl State_cells), .inl (1, [.ref 4, .ref 5, .int History_oldest, .int History_size, .int History_snapshotTaken]), .inr (5460, .inl History_saved), .inr (910, .inl History_snapshot), .inl (0, [.ref 7, .int Buffer_size]), .inr (60, .inl Buffer_codes), .inl (2, [.ref (Reader_pattern + 1000), .int Reader_place]), .inl (4, [.ref 10, .int Word_size]), .inr (8, .inl Word_letters)] 0 0), V (fXm 11 k_L_isName out σ') (krm k_L_isName) k_L_isName 11 20 [some (.ref 0), some (.int p1), some (.int p2), some (.int p3), some (.int x4), some (.int x5), some (.int x6), some (.int x7), none, none, none] [] [.inl (5, [.ref 1, .ref 3, .ref 6, .ref 8, .ref 9]), .inl (3, [.ref 2]), .inr (910, .inl State_cells), .inl (1, [.ref 4, .ref 5, .int History_oldest, .int History_size, .int History_snapshotTaken]), .inr (5460, .inl History_saved), .inr (910, .inl History_snapshot), .inl (0, [.ref 7, .int Buffer_size]), .inr (60, .inl Buffer_codes), .inl (2, [.ref (Reader_pattern + 1000), .int Reader_place]), .inl (4, [.ref 10, .int Word_size]), .inr (8, .inl Word_letters)] 0 0 := by
  intro n
  induction n with
  | zero =>
    intro x4 x5 x6 x7 res hf hr hx
    rw [s_L_isName_L20] at hf
    cases hf
  | succ n ih =>
    intro x4 x5 x6 x7 res hf hr hx
    rw [s_L_isName_L20] at hf
    refine V.iload (i := 7) dL_isName_20 rfl ?_
    refine V.bipush (v := 8) dL_isName_22 rfl ?_
    refine V.icmp_ge (tgt := 245) dL_isName_24 (by decide) (fun h => ?_) (fun h => ?_)
    · have hf := fif_t h hf
      obtain rfl := Option.some.inj hf
      exact hx _ rfl
    · have hf := fif_f h hf
      refine V.aload_n (i := 0) dL_isName_27 rfl rfl ?_
      refine V.iload_n (i := 1) dL_isName_28 rfl rfl ?_
      refine V.iload_n (i := 2) dL_isName_29 rfl rfl ?_
      refine V.iload (i := 7) dL_isName_30 rfl ?_
      refine V.iconst (v := 0) dL_isName_32 rfl ?_
      obtain ⟨v3, hv3, hf⟩ := fbind hf
      have hc := ct_X10_knot (a1 := p1) (a2 := p2) (a3 := x7) (a4 := 0) (State_cells := State_cells) (History_oldest := History_oldest) (History_size := History_size) (History_snapshotTaken := History_snapshotTaken) (History_saved := History_saved) (History_snapshot := History_snapshot) (Buffer_size := Buffer_size) (Buffer_codes := Buffer_codes) (Reader_pattern := Reader_pattern) (Reader_place := Reader_place) (Word_size := Word_size) (Word_letters := Word_letters) hv3
      rcases hv3b : v3 with v4 | E9
      · rw [hv3b] at hc hf
        dsimp only [fth] at hf
        refine V.callVn (pl := [0, 1, 2, 3, 4, 5, 6, 7, 8, 9, 10]) (σ' := [.inl (5, [.ref 1, .ref 3, .ref 6, .ref 8, .ref 9]), .inl (3, [.ref 2]), .inr (910, .inl State_cells), .inl (1, [.ref 4, .ref 5, .int History_oldest, .int History_size, .int History_snapshotTaken]), .inr (5460, .inl History_saved), .inr (910, .inl History_snapshot), .inl (0, [.ref 7, .int Buffer_size]), .inr (60, .inl Buffer_codes), .inl (2, [.ref (Reader_pattern + 1000), .int Reader_place]), .inl (4, [.ref 10, .int Word_size]), .inr (8, .inl Word_letters)]) (st2 := [.int v4]) (cl2 := 0) (sl2 := 0) hc dL_isName_33 w320 ⟨w321, w322⟩ cal_X10_knot rfl ⟨⟨Nat.le_of_ble_eq_true rfl, Nat.le_of_ble_eq_true rfl⟩, Nat.le_of_ble_eq_true rfl, Nat.le_of_ble_eq_true rfl⟩ (Nat.le_of_ble_eq_true rfl) ⟨_, _, _, _, rfl, rfl⟩ rfl ⟨rfl, ⟨by decide, by decide⟩, rfl, (fr_cons (Or.inl (Nat.le_of_ble_eq_true rfl)) (fr_cons (Or.inl (Nat.le_of_ble_eq_true rfl)) (fr_cons (Or.inl (Nat.le_of_ble_eq_true rfl)) (fr_cons (Or.inl (Nat.le_of_ble_eq_true rfl)) (fr_cons (Or.inl (Nat.le_of_ble_eq_true rfl)) (fr_cons (Or.inl (Nat.le_of_ble_eq_true rfl)) (fr_cons (Or.inl (Nat.le_of_ble_eq_true rfl)) (fr_cons (Or.inl (Nat.le_of_ble_eq_true rfl)) (fr_cons (Or.inl (Nat.le_of_ble_eq_true rfl)) (fr_cons (Or.inr (Nat.le_add_left 1000 _)) (fr_cons (Or.inl (Nat.le_of_ble_eq_true rfl)) (fr_nil)))))))))))), rfl⟩ fr_i rfl rfl rfl rfl ?_
        refine V.istore (i := 8) (L' := [some (.ref 0), some (.int p1), some (.int p2), some (.int p3), some (.int x4), some (.int x5), some (.int x6), some (.int x7), some (.int v4), none, none]) dL_isName_36 (Nat.le_of_ble_eq_true rfl) rfl rfl ?_
        refine V.aload_n (i := 0) dL_isName_38 rfl rfl ?_
        refine V.iload_n (i := 1) dL_isName_39 rfl rfl ?_
        refine V.iload_n (i := 2) dL_isName_40 rfl rfl ?_
        refine V.iload (i := 7) dL_isName_41 rfl ?_
        refine V.iconst (v := 1) dL_isName_43 rfl ?_
        obtain ⟨v5, hv5, hf⟩ := fbind hf
        have hc := ct_X10_knot (a1 := p1) (a2 := p2) (a3 := x7) (a4 := 1) (State_cells := State_cells) (History_oldest := History_oldest) (History_size := History_size) (History_snapshotTaken := History_snapshotTaken) (History_saved := History_saved) (History_snapshot := History_snapshot) (Buffer_size := Buffer_size) (Buffer_codes := Buffer_codes) (Reader_pattern := Reader_pattern) (Reader_place := Reader_place) (Word_size := Word_size) (Word_letters := Word_letters) hv5
        rcases hv5b : v5 with v6 | E9
        · rw [hv5b] at hc hf
          dsimp only [fth] at hf
          refine V.callVn (pl := [0, 1, 2, 3, 4, 5, 6, 7, 8, 9, 10]) (σ' := [.inl (5, [.ref 1, .ref 3, .ref 6, .ref 8, .ref 9]), .inl (3, [.ref 2]), .inr (910, .inl State_cells), .inl (1, [.ref 4, .ref 5, .int History_oldest, .int History_size, .int History_snapshotTaken]), .inr (5460, .inl History_saved), .inr (910, .inl History_snapshot), .inl (0, [.ref 7, .int Buffer_size]), .inr (60, .inl Buffer_codes), .inl (2, [.ref (Reader_pattern + 1000), .int Reader_place]), .inl (4, [.ref 10, .int Word_size]), .inr (8, .inl Word_letters)]) (st2 := [.int v6]) (cl2 := 0) (sl2 := 0) hc dL_isName_44 w320 ⟨w321, w322⟩ cal_X10_knot rfl ⟨⟨Nat.le_of_ble_eq_true rfl, Nat.le_of_ble_eq_true rfl⟩, Nat.le_of_ble_eq_true rfl, Nat.le_of_ble_eq_true rfl⟩ (Nat.le_of_ble_eq_true rfl) ⟨_, _, _, _, rfl, rfl⟩ rfl ⟨rfl, ⟨by decide, by decide⟩, rfl, (fr_cons (Or.inl (Nat.le_of_ble_eq_true rfl)) (fr_cons (Or.inl (Nat.le_of_ble_eq_true rfl)) (fr_cons (Or.inl (Nat.le_of_ble_eq_true rfl)) (fr_cons (Or.inl (Nat.le_of_ble_eq_true rfl)) (fr_cons (Or.inl (Nat.le_of_ble_eq_true rfl)) (fr_cons (Or.inl (Nat.le_of_ble_eq_true rfl)) (fr_cons (Or.inl (Nat.le_of_ble_eq_true rfl)) (fr_cons (Or.inl (Nat.le_of_ble_eq_true rfl)) (fr_cons (Or.inl (Nat.le_of_ble_eq_true rfl)) (fr_cons (Or.inr (Nat.le_add_left 1000 _)) (fr_cons (Or.inl (Nat.le_of_ble_eq_true rfl)) (fr_nil)))))))))))), rfl⟩ fr_i rfl rfl rfl rfl ?_
          refine V.istore (i := 9) (L' := [some (.ref 0), some (.int p1), some (.int p2), some (.int p3), some (.int x4), some (.int x5), some (.int x6), some (.int x7), some (.int v4), some (.int v6), none]) dL_isName_47 (Nat.le_of_ble_eq_true rfl) rfl rfl ?_
          refine V.aload_n (i := 0) dL_isName_49 rfl rfl ?_
          refine V.iload_n (i := 1) dL_isName_50 rfl rfl ?_
          refine V.iload_n (i := 2) dL_isName_51 rfl rfl ?_
          refine V.iload (i := 7) dL_isName_52 rfl ?_
          refine V.iconst (v := 2) dL_isName_54 rfl ?_
          obtain ⟨v7, hv7, hf⟩ := fbind hf
          have hc := ct_X10_knot (a1 := p1) (a2 := p2) (a3 := x7) (a4 := 2) (State_cells := State_cells) (History_oldest := History_oldest) (History_size := History_size) (History_snapshotTaken := History_snapshotTaken) (History_saved := History_saved) (History_snapshot := History_snapshot) (Buffer_size := Buffer_size) (Buffer_codes := Buffer_codes) (Reader_pattern := Reader_pattern) (Reader_place := Reader_place) (Word_size := Word_size) (Word_letters := Word_letters) hv7
          rcases hv7b : v7 with v8 | E9
          · rw [hv7b] at hc hf
            dsimp only [fth] at hf
            refine V.callVn (pl := [0, 1, 2, 3, 4, 5, 6, 7, 8, 9, 10]) (σ' := [.inl (5, [.ref 1, .ref 3, .ref 6, .ref 8, .ref 9]), .inl (3, [.ref 2]), .inr (910, .inl State_cells), .inl (1, [.ref 4, .ref 5, .int History_oldest, .int History_size, .int History_snapshotTaken]), .inr (5460, .inl History_saved), .inr (910, .inl History_snapshot), .inl (0, [.ref 7, .int Buffer_size]), .inr (60, .inl Buffer_codes), .inl (2, [.ref (Reader_pattern + 1000), .int Reader_place]), .inl (4, [.ref 10, .int Word_size]), .inr (8, .inl Word_letters)]) (st2 := [.int v8]) (cl2 := 0) (sl2 := 0) hc dL_isName_55 w320 ⟨w321, w322⟩ cal_X10_knot rfl ⟨⟨Nat.le_of_ble_eq_true rfl, Nat.le_of_ble_eq_true rfl⟩, Nat.le_of_ble_eq_true rfl, Nat.le_of_ble_eq_true rfl⟩ (Nat.le_of_ble_eq_true rfl) ⟨_, _, _, _, rfl, rfl⟩ rfl ⟨rfl, ⟨by decide, by decide⟩, rfl, (fr_cons (Or.inl (Nat.le_of_ble_eq_true rfl)) (fr_cons (Or.inl (Nat.le_of_ble_eq_true rfl)) (fr_cons (Or.inl (Nat.le_of_ble_eq_true rfl)) (fr_cons (Or.inl (Nat.le_of_ble_eq_true rfl)) (fr_cons (Or.inl (Nat.le_of_ble_eq_true rfl)) (fr_cons (Or.inl (Nat.le_of_ble_eq_true rfl)) (fr_cons (Or.inl (Nat.le_of_ble_eq_true rfl)) (fr_cons (Or.inl (Nat.le_of_ble_eq_true rfl)) (fr_cons (Or.inl (Nat.le_of_ble_eq_true rfl)) (fr_cons (Or.inr (Nat.le_add_left 1000 _)) (fr_cons (Or.inl (Nat.le_of_ble_eq_true rfl)) (fr_nil)))))))))))), rfl⟩ fr_i rfl rfl rfl rfl ?_
            refine V.istore (i := 10) (L' := [some (.ref 0), some (.int p1), some (.int p2), some (.int p3), some (.int x4), some (.int x5), some (.int x6), some (.int x7), some (.int v4), some (.int v6), some (.int v8)]) dL_isName_58 (Nat.le_of_ble_eq_true rfl) rfl rfl ?_
            refine V.iload (i := 8) dL_isName_60 rfl ?_
            refine V.iconst (v := (-1)) dL_isName_62 rfl ?_
            obtain ⟨v9, ev9, hf⟩ := flet_e hf
            refine V.join (J := 71) (y := v9) (st' := []) (fun tlv9 => ?_) ?_
            · refine V.icmp_ne (tgt := 70) dL_isName_63 (by decide) (fun h10 => ?_) (fun h10 => ?_)
              · refine V.iconst (v := 0) dL_isName_70 rfl ?_
                exact V.cgi (by rw [← ev9, if_neg h10]) tlv9
              · refine V.iconst (v := 1) dL_isName_66 rfl ?_
                refine V.goto (tgt := 71) dL_isName_67 (by decide) ?_
                exact V.cgi (by rw [← ev9, if_pos h10]) tlv9
            · refine V.iload (i := 7) dL_isName_71 rfl ?_
              refine V.iload_n (i := 3) dL_isName_73 rfl rfl ?_
              obtain ⟨v11, ev11, hf⟩ := flet_e hf
              refine V.join (J := 82) (y := v11) (st' := [.int v9]) (fun tlv11 => ?_) ?_
              · refine V.icmp_lt (tgt := 81) dL_isName_74 (by decide) (fun h12 => ?_) (fun h12 => ?_)
                · refine V.iconst (v := 0) dL_isName_81 rfl ?_
                  exact V.cgi (by rw [← ev11, if_pos h12]) tlv11
                · refine V.iconst (v := 1) dL_isName_77 rfl ?_
                  refine V.goto (tgt := 82) dL_isName_78 (by decide) ?_
                  exact V.cgi (by rw [← ev11, if_neg h12]) tlv11
              · refine V.icmp_ne (tgt := 135) dL_isName_82 (by decide) (fun h => ?_) (fun h => ?_)
                · have hf := fif_f h hf
                  refine V.iconst (v := 0) dL_isName_135 rfl ?_
                  obtain rfl := Option.some.inj hf
                  obtain ⟨e1, e2⟩ := hr _ rfl
                  subst e1; subst e2
                  exact V.zret (v := 0) dL_isName_136 rfl (by decide +kernel) (Nat.le_of_ble_eq_true rfl) (Nat.le_of_ble_eq_true rfl) rfl
                · have hf := fif_t h hf
                  refine V.iload (i := 8) dL_isName_85 rfl ?_
                  refine V.iconst (v := (-1)) dL_isName_87 rfl ?_
                  obtain ⟨v13, ev13, hf⟩ := flet_e hf
                  refine V.join (J := 96) (y := v13) (st' := []) (fun tlv13 => ?_) ?_
                  · refine V.icmp_ne (tgt := 95) dL_isName_88 (by decide) (fun h14 => ?_) (fun h14 => ?_)
                    · refine V.iconst (v := 0) dL_isName_95 rfl ?_
                      exact V.cgi (by rw [← ev13, if_neg h14]) tlv13
                    · refine V.iconst (v := 1) dL_isName_91 rfl ?_
                      refine V.goto (tgt := 96) dL_isName_92 (by decide) ?_
                      exact V.cgi (by rw [← ev13, if_pos h14]) tlv13
                  · refine V.iload (i := 9) dL_isName_96 rfl ?_
                    refine V.iconst (v := (-1)) dL_isName_98 rfl ?_
                    obtain ⟨v15, ev15, hf⟩ := flet_e hf
                    refine V.join (J := 107) (y := v15) (st' := [.int v13]) (fun tlv15 => ?_) ?_
                    · refine V.icmp_ne (tgt := 106) dL_isName_99 (by decide) (fun h16 => ?_) (fun h16 => ?_)
                      · refine V.iconst (v := 0) dL_isName_106 rfl ?_
                        exact V.cgi (by rw [← ev15, if_neg h16]) tlv15
                      · refine V.iconst (v := 1) dL_isName_102 rfl ?_
                        refine V.goto (tgt := 107) dL_isName_103 (by decide) ?_
                        exact V.cgi (by rw [← ev15, if_pos h16]) tlv15
                    · refine V.icmp_ne (tgt := 135) dL_isName_107 (by decide) (fun h => ?_) (fun h => ?_)
                      · have hf := fif_f h hf
                        refine V.iconst (v := 0) dL_isName_135 rfl ?_
                        obtain rfl := Option.some.inj hf
                        obtain ⟨e1, e2⟩ := hr _ rfl
                        subst e1; subst e2
                        exact V.zret (v := 0) dL_isName_136 rfl (by decide +kernel) (Nat.le_of_ble_eq_true rfl) (Nat.le_of_ble_eq_true rfl) rfl
                      · have hf := fif_t h hf
                        refine V.iload (i := 8) dL_isName_110 rfl ?_
                        refine V.iconst (v := (-1)) dL_isName_112 rfl ?_
                        obtain ⟨v17, ev17, hf⟩ := flet_e hf
                        refine V.join (J := 121) (y := v17) (st' := []) (fun tlv17 => ?_) ?_
                        · refine V.icmp_ne (tgt := 120) dL_isName_113 (by decide) (fun h18 => ?_) (fun h18 => ?_)
                          · refine V.iconst (v := 0) dL_isName_120 rfl ?_
                            exact V.cgi (by rw [← ev17, if_neg h18]) tlv17
                          · refine V.iconst (v := 1) dL_isName_116 rfl ?_
                            refine V.goto (tgt := 121) dL_isName_117 (by decide) ?_
                            exact V.cgi (by rw [← ev17, if_pos h18]) tlv17
                        · refine V.iload (i := 10) dL_isName_121 rfl ?_
                          refine V.iconst (v := (-1)) dL_isName_123 rfl ?_
                          obtain ⟨v19, ev19, hf⟩ := flet_e hf
                          refine V.join (J := 132) (y := v19) (st' := [.int v17]) (fun tlv19 => ?_) ?_
                          · refine V.icmp_ne (tgt := 131) dL_isName_124 (by decide) (fun h20 => ?_) (fun h20 => ?_)
                            · refine V.iconst (v := 0) dL_isName_131 rfl ?_
                              exact V.cgi (by rw [← ev19, if_neg h20]) tlv19
                            · refine V.iconst (v := 1) dL_isName_127 rfl ?_
                              refine V.goto (tgt := 132) dL_isName_128 (by decide) ?_
                              exact V.cgi (by rw [← ev19, if_pos h20]) tlv19
                          · refine V.icmp_eq (tgt := 137) dL_isName_132 (by decide) (fun h => ?_) (fun h => ?_)
                            · have hf := fif_t h hf
                              refine V.iload (i := 8) dL_isName_137 rfl ?_
                              refine V.if_lt (tgt := 239) dL_isName_139 (by decide) (fun h => ?_) (fun h => ?_)
                              · have hf := fif_t h hf
                                refine V.iinc (i := 7) (v := (x7 + 1)) (L' := [some (.ref 0), some (.int p1), some (.int p2), some (.int p3), some (.int x4), some (.int x5), some (.int x6), some (.int (x7 + 1)), some (.int v4), some (.int v6), some (.int v8)]) dL_isName_239 rfl rfl (Nat.le_of_ble_eq_true rfl) rfl rfl ?_
                                refine V.goto (tgt := 20) dL_isName_242 (by decide) ?_
                                exact V.locs (L' := [some (.ref 0), some (.int p1), some (.int p2), some (.int p3), some (.int x4), some (.int x5), some (.int x6), some (.int (x7 + 1)), none, none, none]) ⟨rfl, ⟨rfl, ⟨rfl, ⟨rfl, ⟨rfl, ⟨rfl, ⟨rfl, ⟨rfl, trivial⟩⟩⟩⟩⟩⟩⟩⟩ (ih hf hr hx)
                              · have hf := fif_f h hf
                                refine V.iload (i := 4) dL_isName_142 rfl ?_
                                refine V.aload_n (i := 0) dL_isName_144 rfl rfl ?_
                                refine V.iload (i := 8) dL_isName_145 rfl ?_
                                refine V.iconst (v := 2) dL_isName_147 rfl ?_
                                obtain ⟨v21, hv21, hf⟩ := fbind hf
                                have hc := ct_X10_letter (a1 := v4) (a2 := 2) (State_cells := State_cells) (History_oldest := History_oldest) (History_size := History_size) (History_snapshotTaken := History_snapshotTaken) (History_saved := History_saved) (History_snapshot := History_snapshot) (Buffer_size := Buffer_size) (Buffer_codes := Buffer_codes) (Reader_pattern := Reader_pattern) (Reader_place := Reader_place) (Word_size := Word_size) (Word_letters := Word_letters) hv21
                                rcases hv21b : v21 with v22 | E9
                                · rw [hv21b] at hc hf
                                  dsimp only [fth] at hf
                                  refine V.callVn (pl := [0, 1, 2, 3, 4, 5, 6, 7, 8, 9, 10]) (σ' := [.inl (5, [.ref 1, .ref 3, .ref 6, .ref 8, .ref 9]), .inl (3, [.ref 2]), .inr (910, .inl State_cells), .inl (1, [.ref 4, .ref 5, .int History_oldest, .int History_size, .int History_snapshotTaken]), .inr (5460, .inl History_saved), .inr (910, .inl History_snapshot), .inl (0, [.ref 7, .int Buffer_size]), .inr (60, .inl Buffer_codes), .inl (2, [.ref (Reader_pattern + 1000), .int Reader_place]), .inl (4, [.ref 10, .int Word_size]), .inr (8, .inl Word_letters)]) (st2 := [.int v22, .int x4]) (cl2 := 0) (sl2 := 0) hc dL_isName_148 w337 ⟨w338, w339⟩ cal_X10_letter rfl ⟨⟨Nat.le_of_ble_eq_true rfl, Nat.le_of_ble_eq_true rfl⟩, Nat.le_of_ble_eq_true rfl, Nat.le_of_ble_eq_true rfl⟩ (Nat.le_of_ble_eq_true rfl) ⟨_, _, _, _, rfl, rfl⟩ rfl ⟨rfl, ⟨by decide, by decide⟩, rfl, (fr_cons (Or.inl (Nat.le_of_ble_eq_true rfl)) (fr_cons (Or.inl (Nat.le_of_ble_eq_true rfl)) (fr_cons (Or.inl (Nat.le_of_ble_eq_true rfl)) (fr_cons (Or.inl (Nat.le_of_ble_eq_true rfl)) (fr_cons (Or.inl (Nat.le_of_ble_eq_true rfl)) (fr_cons (Or.inl (Nat.le_of_ble_eq_true rfl)) (fr_cons (Or.inl (Nat.le_of_ble_eq_true rfl)) (fr_cons (Or.inl (Nat.le_of_ble_eq_true rfl)) (fr_cons (Or.inl (Nat.le_of_ble_eq_true rfl)) (fr_cons (Or.inr (Nat.le_add_left 1000 _)) (fr_cons (Or.inl (Nat.le_of_ble_eq_true rfl)) (fr_nil)))))))))))), rfl⟩ fr_i rfl rfl rfl rfl ?_
                                  refine V.iconst (v := 1) dL_isName_151 rfl ?_
                                  refine V.iadd dL_isName_152 ?_
                                  refine V.iadd dL_isName_153 ?_
                                  refine V.istore (i := 4) (L' := [some (.ref 0), some (.int p1), some (.int p2), some (.int p3), some (.int (x4 + (v22 + 1))), some (.int x5), some (.int x6), some (.int x7), some (.int v4), some (.int v6), some (.int v8)]) dL_isName_154 (Nat.le_of_ble_eq_true rfl) rfl rfl ?_
                                  refine V.iload (i := 5) dL_isName_156 rfl ?_
                                  refine V.iload (i := 10) dL_isName_158 rfl ?_
                                  obtain ⟨v23, ev23, hf⟩ := flet_e hf
                                  refine V.join (J := 168) (y := v23) (st' := [.int x5]) (fun tlv23 => ?_) ?_
                                  · refine V.if_le (tgt := 167) dL_isName_160 (by decide) (fun h24 => ?_) (fun h24 => ?_)
                                    · refine V.iconst (v := 0) dL_isName_167 rfl ?_
                                      exact V.cgi (by rw [← ev23, if_pos h24]) tlv23
                                    · refine V.iconst (v := 1) dL_isName_163 rfl ?_
                                      refine V.goto (tgt := 168) dL_isName_164 (by decide) ?_
                                      exact V.cgi (by rw [← ev23, if_neg h24]) tlv23
                                  · refine V.iadd dL_isName_168 ?_
                                    refine V.istore (i := 5) (L' := [some (.ref 0), some (.int p1), some (.int p2), some (.int p3), some (.int (x4 + (v22 + 1))), some (.int (x5 + v23)), some (.int x6), some (.int x7), some (.int v4), some (.int v6), some (.int v8)]) dL_isName_169 (Nat.le_of_ble_eq_true rfl) rfl rfl ?_
                                    refine V.iload (i := 6) dL_isName_171 rfl ?_
                                    refine V.iload (i := 10) dL_isName_173 rfl ?_
                                    refine V.iconst (v := 1) dL_isName_175 rfl ?_
                                    obtain ⟨v25, ev25, hf⟩ := flet_e hf
                                    refine V.join (J := 184) (y := v25) (st' := [.int x6]) (fun tlv25 => ?_) ?_
                                    · refine V.icmp_le (tgt := 183) dL_isName_176 (by decide) (fun h26 => ?_) (fun h26 => ?_)
                                      · refine V.iconst (v := 0) dL_isName_183 rfl ?_
                                        exact V.cgi (by rw [← ev25, if_pos h26]) tlv25
                                      · refine V.iconst (v := 1) dL_isName_179 rfl ?_
                                        refine V.goto (tgt := 184) dL_isName_180 (by decide) ?_
                                        exact V.cgi (by rw [← ev25, if_neg h26]) tlv25
                                    · refine V.iadd dL_isName_184 ?_
                                      refine V.istore (i := 6) (L' := [some (.ref 0), some (.int p1), some (.int p2), some (.int p3), some (.int (x4 + (v22 + 1))), some (.int (x5 + v23)), some (.int (x6 + v25)), some (.int x7), some (.int v4), some (.int v6), some (.int v8)]) dL_isName_185 (Nat.le_of_ble_eq_true rfl) rfl rfl ?_
                                      refine V.iload (i := 9) dL_isName_187 rfl ?_
                                      refine V.iload (i := 10) dL_isName_189 rfl ?_
                                      obtain ⟨v27, ev27, hf⟩ := flet_e hf
                                      refine V.join (J := 214) (y := v27) (st' := [.int v6]) (fun tlv27 => ?_) ?_
                                      · refine V.if_ne (tgt := 199) dL_isName_191 (by decide) (fun h28 => ?_) (fun h28 => ?_)
                                        · refine V.iload (i := 10) dL_isName_199 rfl ?_
                                          refine V.iconst (v := 1) dL_isName_201 rfl ?_
                                          refine V.icmp_ne (tgt := 212) dL_isName_202 (by decide) (fun h29 => ?_) (fun h29 => ?_)
                                          · refine V.bipush (v := 16) dL_isName_212 rfl ?_
                                            exact V.cgi (by rw [← ev27, if_neg h28, if_neg h29]) tlv27
                                          · refine V.iload (i := 8) dL_isName_205 rfl ?_
                                            refine V.iconst (v := 1) dL_isName_207 rfl ?_
                                            refine V.iadd dL_isName_208 ?_
                                            refine V.goto (tgt := 214) dL_isName_209 (by decide) ?_
                                            exact V.cgi (by rw [← ev27, if_neg h28, if_pos h29]) tlv27
                                        · refine V.iload (i := 8) dL_isName_194 rfl ?_
                                          refine V.goto (tgt := 214) dL_isName_196 (by decide) ?_
                                          exact V.cgi (by rw [← ev27, if_pos h28]) tlv27
                                      · refine V.icmp_ne (tgt := 237) dL_isName_214 (by decide) (fun h => ?_) (fun h => ?_)
                                        · have hf := fif_f h hf
                                          refine V.iconst (v := 0) dL_isName_237 rfl ?_
                                          obtain rfl := Option.some.inj hf
                                          obtain ⟨e1, e2⟩ := hr _ rfl
                                          subst e1; subst e2
                                          exact V.zret (v := 0) dL_isName_238 rfl (by decide +kernel) (Nat.le_of_ble_eq_true rfl) (Nat.le_of_ble_eq_true rfl) rfl
                                        · have hf := fif_t h hf
                                          refine V.iload (i := 10) dL_isName_217 rfl ?_
                                          refine V.if_le (tgt := 232) dL_isName_219 (by decide) (fun h => ?_) (fun h => ?_)
                                          · have hf := fif_t h hf
                                            refine V.iload (i := 10) dL_isName_232 rfl ?_
                                            refine V.if_ge (tgt := 239) dL_isName_234 (by decide) (fun h => ?_) (fun h => ?_)
                                            · have hf := fif_t h hf
                                              refine V.iinc (i := 7) (v := (x7 + 1)) (L' := [some (.ref 0), some (.int p1), some (.int p2), some (.int p3), some (.int (x4 + (v22 + 1))), some (.int (x5 + v23)), some (.int (x6 + v25)), some (.int (x7 + 1)), some (.int v4), some (.int v6), some (.int v8)]) dL_isName_239 rfl rfl (Nat.le_of_ble_eq_true rfl) rfl rfl ?_
                                              refine V.goto (tgt := 20) dL_isName_242 (by decide) ?_
                                              exact V.locs (L' := [some (.ref 0), some (.int p1), some (.int p2), some (.int p3), some (.int (x4 + (v22 + 1))), some (.int (x5 + v23)), some (.int (x6 + v25)), some (.int (x7 + 1)), none, none, none]) ⟨rfl, ⟨rfl, ⟨rfl, ⟨rfl, ⟨rfl, ⟨rfl, ⟨rfl, ⟨rfl, trivial⟩⟩⟩⟩⟩⟩⟩⟩ (ih hf hr hx)
                                            · have hf := fif_f h hf
                                              refine V.iconst (v := 0) dL_isName_237 rfl ?_
                                              obtain rfl := Option.some.inj hf
                                              obtain ⟨e1, e2⟩ := hr _ rfl
                                              subst e1; subst e2
                                              exact V.zret (v := 0) dL_isName_238 rfl (by decide +kernel) (Nat.le_of_ble_eq_true rfl) (Nat.le_of_ble_eq_true rfl) rfl
                                          · have hf := fif_f h hf
                                            refine V.aload_n (i := 0) dL_isName_222 rfl rfl ?_
                                            refine V.iload (i := 8) dL_isName_223 rfl ?_
                                            refine V.iconst (v := 3) dL_isName_225 rfl ?_
                                            obtain ⟨v30, hv30, hf⟩ := fbind hf
                                            have hc := ct_X10_letter (a1 := v4) (a2 := 3) (State_cells := State_cells) (History_oldest := History_oldest) (History_size := History_size) (History_snapshotTaken := History_snapshotTaken) (History_saved := History_saved) (History_snapshot := History_snapshot) (Buffer_size := Buffer_size) (Buffer_codes := Buffer_codes) (Reader_pattern := Reader_pattern) (Reader_place := Reader_place) (Word_size := Word_size) (Word_letters := Word_letters) hv30
                                            rcases hv30b : v30 with v31 | E9
                                            · rw [hv30b] at hc hf
                                              dsimp only [fth] at hf
                                              refine V.callVn (pl := [0, 1, 2, 3, 4, 5, 6, 7, 8, 9, 10]) (σ' := [.inl (5, [.ref 1, .ref 3, .ref 6, .ref 8, .ref 9]), .inl (3, [.ref 2]), .inr (910, .inl State_cells), .inl (1, [.ref 4, .ref 5, .int History_oldest, .int History_size, .int History_snapshotTaken]), .inr (5460, .inl History_saved), .inr (910, .inl History_snapshot), .inl (0, [.ref 7, .int Buffer_size]), .inr (60, .inl Buffer_codes), .inl (2, [.ref (Reader_pattern + 1000), .int Reader_place]), .inl (4, [.ref 10, .int Word_size]), .inr (8, .inl Word_letters)]) (st2 := [.int v31]) (cl2 := 0) (sl2 := 0) hc dL_isName_226 w337 ⟨w338, w339⟩ cal_X10_letter rfl ⟨⟨Nat.le_of_ble_eq_true rfl, Nat.le_of_ble_eq_true rfl⟩, Nat.le_of_ble_eq_true rfl, Nat.le_of_ble_eq_true rfl⟩ (Nat.le_of_ble_eq_true rfl) ⟨_, _, _, _, rfl, rfl⟩ rfl ⟨rfl, ⟨by decide, by decide⟩, rfl, (fr_cons (Or.inl (Nat.le_of_ble_eq_true rfl)) (fr_cons (Or.inl (Nat.le_of_ble_eq_true rfl)) (fr_cons (Or.inl (Nat.le_of_ble_eq_true rfl)) (fr_cons (Or.inl (Nat.le_of_ble_eq_true rfl)) (fr_cons (Or.inl (Nat.le_of_ble_eq_true rfl)) (fr_cons (Or.inl (Nat.le_of_ble_eq_true rfl)) (fr_cons (Or.inl (Nat.le_of_ble_eq_true rfl)) (fr_cons (Or.inl (Nat.le_of_ble_eq_true rfl)) (fr_cons (Or.inl (Nat.le_of_ble_eq_true rfl)) (fr_cons (Or.inr (Nat.le_add_left 1000 _)) (fr_cons (Or.inl (Nat.le_of_ble_eq_true rfl)) (fr_nil)))))))))))), rfl⟩ fr_i rfl rfl rfl rfl ?_
                                              refine V.if_eq (tgt := 237) dL_isName_229 (by decide) (fun h => ?_) (fun h => ?_)
                                              · have hf := fif_t h hf
                                                refine V.iconst (v := 0) dL_isName_237 rfl ?_
                                                obtain rfl := Option.some.inj hf
                                                obtain ⟨e1, e2⟩ := hr _ rfl
                                                subst e1; subst e2
                                                exact V.zret (v := 0) dL_isName_238 rfl (by decide +kernel) (Nat.le_of_ble_eq_true rfl) (Nat.le_of_ble_eq_true rfl) rfl
                                              · have hf := fif_f h hf
                                                refine V.iload (i := 10) dL_isName_232 rfl ?_
                                                refine V.if_ge (tgt := 239) dL_isName_234 (by decide) (fun h => ?_) (fun h => ?_)
                                                · have hf := fif_t h hf
                                                  refine V.iinc (i := 7) (v := (x7 + 1)) (L' := [some (.ref 0), some (.int p1), some (.int p2), some (.int p3), some (.int (x4 + (v22 + 1))), some (.int (x5 + v23)), some (.int (x6 + v25)), some (.int (x7 + 1)), some (.int v4), some (.int v6), some (.int v8)]) dL_isName_239 rfl rfl (Nat.le_of_ble_eq_true rfl) rfl rfl ?_
                                                  refine V.goto (tgt := 20) dL_isName_242 (by decide) ?_
                                                  exact V.locs (L' := [some (.ref 0), some (.int p1), some (.int p2), some (.int p3), some (.int (x4 + (v22 + 1))), some (.int (x5 + v23)), some (.int (x6 + v25)), some (.int (x7 + 1)), none, none, none]) ⟨rfl, ⟨rfl, ⟨rfl, ⟨rfl, ⟨rfl, ⟨rfl, ⟨rfl, ⟨rfl, trivial⟩⟩⟩⟩⟩⟩⟩⟩ (ih hf hr hx)
                                                · have hf := fif_f h hf
                                                  refine V.iconst (v := 0) dL_isName_237 rfl ?_
                                                  obtain rfl := Option.some.inj hf
                                                  obtain ⟨e1, e2⟩ := hr _ rfl
                                                  subst e1; subst e2
                                                  exact V.zret (v := 0) dL_isName_238 rfl (by decide +kernel) (Nat.le_of_ble_eq_true rfl) (Nat.le_of_ble_eq_true rfl) rfl
                                            · rw [hv30b] at hc hf
                                              dsimp only [fth] at hf
                                              cases hf
                                · rw [hv21b] at hc hf
                                  dsimp only [fth] at hf
                                  cases hf
                            · have hf := fif_f h hf
                              refine V.iconst (v := 0) dL_isName_135 rfl ?_
                              obtain rfl := Option.some.inj hf
                              obtain ⟨e1, e2⟩ := hr _ rfl
                              subst e1; subst e2
                              exact V.zret (v := 0) dL_isName_136 rfl (by decide +kernel) (Nat.le_of_ble_eq_true rfl) (Nat.le_of_ble_eq_true rfl) rfl
          · rw [hv7b] at hc hf
            dsimp only [fth] at hf
            cases hf
        · rw [hv5b] at hc hf
          dsimp only [fth] at hf
          cases hf
      · rw [hv3b] at hc hf
        dsimp only [fth] at hf
        cases hf
def s_L_isName (a1 : Int32) (a2 : Int32) (State_cells : Nat → Int32) : Option (Int32) := (s_X10_name a1 a2 0 State_cells).bind fun v1 => fth v1 (fun v2 => (s_L_isName_L20 a1 a2 v2 State_cells gF 2 0 0 0).bind fun r32 => fsum r32 (fun r9 => some r9) (fun e33 => (s_X10_name a1 a2 4 State_cells).bind fun v34 => fth v34 (fun v35 => if (v2 < 1 : Prop) then (some 0) else (if (8 < v2 : Prop) then (some 0) else ((s_X10_name a1 a2 1 State_cells).bind fun v36 => fth v36 (fun v37 => if (v37 = e33.1 : Prop) then ((s_X10_name a1 a2 2 State_cells).bind fun v38 => fth v38 (fun v39 => if (v39 = e33.2.1 : Prop) then ((s_X10_name a1 a2 3 State_cells).bind fun v40 => fth v40 (fun v41 => flet ((if (v41 = e33.2.2.1 : Prop) then (if (v35 = (-1) : Prop) then 1 else (if (v35 < 1 : Prop) then 0 else (if (60 < v35 : Prop) then 0 else 1))) else 0) : Int32) fun v42 => fz v42 (some v42)) (fun E9 => none)) else (some 0)) (fun E9 => none)) else (some 0)) (fun E9 => none)))) (fun E9 => none))) (fun E9 => none)
set_option maxHeartbeats 4000000 in
set_option maxRecDepth 100000 in
theorem ct_L_isName {a1 : Int32} {a2 : Int32} {State_cells : Nat → Int32} {History_oldest : Int32} {History_size : Int32} {History_snapshotTaken : Int32} {History_saved : Nat → Int32} {History_snapshot : Nat → Int32} {Buffer_size : Int32} {Buffer_codes : Nat → Int32} {Reader_pattern : Nat} {Reader_place : Int32} {Word_size : Int32} {Word_letters : Nat → Int32} {res : Int32} (hf : s_L_isName a1 a2 State_cells = some res) : Ct k_L_isName [.ref 0, .int a1, .int a2] [.inl (5, [.ref 1, .ref 3, .ref 6, .ref 8, .ref 9]), .inl (3, [.ref 2]), .inr (910, .inl State_cells), .inl (1, [.ref 4, .ref 5, .int History_oldest, .int History_size, .int History_snapshotTaken]), .inr (5460, .inl History_saved), .inr (910, .inl History_snapshot), .inl (0, [.ref 7, .int Buffer_size]), .inr (60, .inl Buffer_codes), .inl (2, [.ref (Reader_pattern + 1000), .int Reader_place]), .inl (4, [.ref 10, .int Word_size]), .inr (8, .inl Word_letters)] (.inl (some (.int res))) [.inl (5, [.ref 1, .ref 3, .ref 6, .ref 8, .ref 9]), .inl (3, [.ref 2]), .inr (910, .inl State_cells), .inl (1, [.ref 4, .ref 5, .int History_oldest, .int History_size, .int History_snapshotTaken]), .inr (5460, .inl History_saved), .inr (910, .inl History_snapshot), .inl (0, [.ref 7, .int Buffer_size]), .inr (60, .inl Buffer_codes), .inl (2, [.ref (Reader_pattern + 1000), .int Reader_place]), .inl (4, [.ref 10, .int Word_size]), .inr (8, .inl Word_letters)] := by
  unfold s_L_isName at hf
  refine Ct.of (L := [some (.ref 0), some (.int a1), some (.int a2), none, none, none, none, none, none, none, none]) cal_L_isName (fent_pad (j := 8) rfl) (Nat.le_of_ble_eq_true rfl) ?_
  refine V.aload_n (i := 0) dL_isName_0 rfl rfl ?_
  refine V.iload_n (i := 1) dL_isName_1 rfl rfl ?_
  refine V.iload_n (i := 2) dL_isName_2 rfl rfl ?_
  refine V.iconst (v := 0) dL_isName_3 rfl ?_
  obtain ⟨v1, hv1, hf⟩ := fbind hf
  have hc := ct_X10_name (a1 := a1) (a2 := a2) (a3 := 0) (State_cells := State_cells) (History_oldest := History_oldest) (History_size := History_size) (History_snapshotTaken := History_snapshotTaken) (History_saved := History_saved) (History_snapshot := History_snapshot) (Buffer_size := Buffer_size) (Buffer_codes := Buffer_codes) (Reader_pattern := Reader_pattern) (Reader_place := Reader_place) (Word_size := Word_size) (Word_letters := Word_letters) hv1
  rcases hv1b : v1 with v2 | E9
  · rw [hv1b] at hc hf
    dsimp only [fth] at hf
    refine V.callVn (pl := [0, 1, 2, 3, 4, 5, 6, 7, 8, 9, 10]) (σ' := [.inl (5, [.ref 1, .ref 3, .ref 6, .ref 8, .ref 9]), .inl (3, [.ref 2]), .inr (910, .inl State_cells), .inl (1, [.ref 4, .ref 5, .int History_oldest, .int History_size, .int History_snapshotTaken]), .inr (5460, .inl History_saved), .inr (910, .inl History_snapshot), .inl (0, [.ref 7, .int Buffer_size]), .inr (60, .inl Buffer_codes), .inl (2, [.ref (Reader_pattern + 1000), .int Reader_place]), .inl (4, [.ref 10, .int Word_size]), .inr (8, .inl Word_letters)]) (st2 := [.int v2]) (cl2 := 0) (sl2 := 0) hc dL_isName_4 w284 ⟨w285, w286⟩ cal_X10_name rfl ⟨⟨Nat.le_of_ble_eq_true rfl, Nat.le_of_ble_eq_true rfl⟩, Nat.le_of_ble_eq_true rfl, Nat.le_of_ble_eq_true rfl⟩ (Nat.le_of_ble_eq_true rfl) ⟨_, _, _, _, rfl, rfl⟩ rfl ⟨rfl, ⟨by decide, by decide⟩, rfl, (fr_cons (Or.inl (Nat.le_of_ble_eq_true rfl)) (fr_cons (Or.inl (Nat.le_of_ble_eq_true rfl)) (fr_cons (Or.inl (Nat.le_of_ble_eq_true rfl)) (fr_cons (Or.inl (Nat.le_of_ble_eq_true rfl)) (fr_cons (Or.inl (Nat.le_of_ble_eq_true rfl)) (fr_cons (Or.inl (Nat.le_of_ble_eq_true rfl)) (fr_cons (Or.inl (Nat.le_of_ble_eq_true rfl)) (fr_cons (Or.inl (Nat.le_of_ble_eq_true rfl)) (fr_cons (Or.inl (Nat.le_of_ble_eq_true rfl)) (fr_cons (Or.inr (Nat.le_add_left 1000 _)) (fr_cons (Or.inl (Nat.le_of_ble_eq_true rfl)) (fr_nil)))))))))))), rfl⟩ fr_i rfl rfl rfl rfl ?_
    refine V.istore_n (i := 3) (L' := [some (.ref 0), some (.int a1), some (.int a2), some (.int v2), none, none, none, none, none, none, none]) dL_isName_7 rfl (Nat.le_of_ble_eq_true rfl) rfl rfl ?_
    refine V.iconst (v := 2) dL_isName_8 rfl ?_
    refine V.istore (i := 4) (L' := [some (.ref 0), some (.int a1), some (.int a2), some (.int v2), some (.int 2), none, none, none, none, none, none]) dL_isName_9 (Nat.le_of_ble_eq_true rfl) rfl rfl ?_
    refine V.iconst (v := 0) dL_isName_11 rfl ?_
    refine V.istore (i := 5) (L' := [some (.ref 0), some (.int a1), some (.int a2), some (.int v2), some (.int 2), some (.int 0), none, none, none, none, none]) dL_isName_12 (Nat.le_of_ble_eq_true rfl) rfl rfl ?_
    refine V.iconst (v := 0) dL_isName_14 rfl ?_
    refine V.istore (i := 6) (L' := [some (.ref 0), some (.int a1), some (.int a2), some (.int v2), some (.int 2), some (.int 0), some (.int 0), none, none, none, none]) dL_isName_15 (Nat.le_of_ble_eq_true rfl) rfl rfl ?_
    refine V.iconst (v := 0) dL_isName_17 rfl ?_
    refine V.istore (i := 7) (L' := [some (.ref 0), some (.int a1), some (.int a2), some (.int v2), some (.int 2), some (.int 0), some (.int 0), some (.int 0), none, none, none]) dL_isName_18 (Nat.le_of_ble_eq_true rfl) rfl rfl ?_
    obtain ⟨r32, hr32, hf⟩ := fbind hf
    rcases r32 with r9 | e33
    · obtain rfl := Option.some.inj (show some _ = some res from hf)
      exact v_L_isName_L20 gF hr32 (fun _ h => by cases h; exact ⟨rfl, rfl⟩) (fun _ h => by cases h)
    · replace hf : _ = some res := hf
      dsimp only [fsum] at hf
      refine v_L_isName_L20 gF hr32 (fun _ h => by cases h) (fun _ h => ?_)
      cases h
      refine V.aload_n (i := 0) dL_isName_245 rfl rfl ?_
      refine V.iload_n (i := 1) dL_isName_246 rfl rfl ?_
      refine V.iload_n (i := 2) dL_isName_247 rfl rfl ?_
      refine V.iconst (v := 4) dL_isName_248 rfl ?_
      obtain ⟨v34, hv34, hf⟩ := fbind hf
      have hc := ct_X10_name (a1 := a1) (a2 := a2) (a3 := 4) (State_cells := State_cells) (History_oldest := History_oldest) (History_size := History_size) (History_snapshotTaken := History_snapshotTaken) (History_saved := History_saved) (History_snapshot := History_snapshot) (Buffer_size := Buffer_size) (Buffer_codes := Buffer_codes) (Reader_pattern := Reader_pattern) (Reader_place := Reader_place) (Word_size := Word_size) (Word_letters := Word_letters) hv34
      rcases hv34b : v34 with v35 | E9
      · rw [hv34b] at hc hf
        dsimp only [fth] at hf
        refine V.callVn (pl := [0, 1, 2, 3, 4, 5, 6, 7, 8, 9, 10]) (σ' := [.inl (5, [.ref 1, .ref 3, .ref 6, .ref 8, .ref 9]), .inl (3, [.ref 2]), .inr (910, .inl State_cells), .inl (1, [.ref 4, .ref 5, .int History_oldest, .int History_size, .int History_snapshotTaken]), .inr (5460, .inl History_saved), .inr (910, .inl History_snapshot), .inl (0, [.ref 7, .int Buffer_size]), .inr (60, .inl Buffer_codes), .inl (2, [.ref (Reader_pattern + 1000), .int Reader_place]), .inl (4, [.ref 10, .int Word_size]), .inr (8, .inl Word_letters)]) (st2 := [.int v35]) (cl2 := 0) (sl2 := 0) hc dL_isName_249 w284 ⟨w285, w286⟩ cal_X10_name rfl ⟨⟨Nat.le_of_ble_eq_true rfl, Nat.le_of_ble_eq_true rfl⟩, Nat.le_of_ble_eq_true rfl, Nat.le_of_ble_eq_true rfl⟩ (Nat.le_of_ble_eq_true rfl) ⟨_, _, _, _, rfl, rfl⟩ rfl ⟨rfl, ⟨by decide, by decide⟩, rfl, (fr_cons (Or.inl (Nat.le_of_ble_eq_true rfl)) (fr_cons (Or.inl (Nat.le_of_ble_eq_true rfl)) (fr_cons (Or.inl (Nat.le_of_ble_eq_true rfl)) (fr_cons (Or.inl (Nat.le_of_ble_eq_true rfl)) (fr_cons (Or.inl (Nat.le_of_ble_eq_true rfl)) (fr_cons (Or.inl (Nat.le_of_ble_eq_true rfl)) (fr_cons (Or.inl (Nat.le_of_ble_eq_true rfl)) (fr_cons (Or.inl (Nat.le_of_ble_eq_true rfl)) (fr_cons (Or.inl (Nat.le_of_ble_eq_true rfl)) (fr_cons (Or.inr (Nat.le_add_left 1000 _)) (fr_cons (Or.inl (Nat.le_of_ble_eq_true rfl)) (fr_nil)))))))))))), rfl⟩ fr_i rfl rfl rfl rfl ?_
        refine V.istore (i := 7) (L' := [some (.ref 0), some (.int a1), some (.int a2), some (.int v2), some (.int e33.1), some (.int e33.2.1), some (.int e33.2.2.1), some (.int v35), none, none, none]) dL_isName_252 (Nat.le_of_ble_eq_true rfl) rfl rfl ?_
        refine V.iload_n (i := 3) dL_isName_254 rfl rfl ?_
        refine V.iconst (v := 1) dL_isName_255 rfl ?_
        refine V.icmp_lt (tgt := 324) dL_isName_256 (by decide) (fun h => ?_) (fun h => ?_)
        · have hf := fif_t h hf
          refine V.iconst (v := 0) dL_isName_324 rfl ?_
          obtain rfl := Option.some.inj hf
          exact V.zret (v := 0) dL_isName_325 rfl (by decide +kernel) (Nat.le_of_ble_eq_true rfl) (Nat.le_of_ble_eq_true rfl) rfl
        · have hf := fif_f h hf
          refine V.iload_n (i := 3) dL_isName_259 rfl rfl ?_
          refine V.bipush (v := 8) dL_isName_260 rfl ?_
          refine V.icmp_gt (tgt := 324) dL_isName_262 (by decide) (fun h => ?_) (fun h => ?_)
          · have hf := fif_t h hf
            refine V.iconst (v := 0) dL_isName_324 rfl ?_
            obtain rfl := Option.some.inj hf
            exact V.zret (v := 0) dL_isName_325 rfl (by decide +kernel) (Nat.le_of_ble_eq_true rfl) (Nat.le_of_ble_eq_true rfl) rfl
          · have hf := fif_f h hf
            refine V.aload_n (i := 0) dL_isName_265 rfl rfl ?_
            refine V.iload_n (i := 1) dL_isName_266 rfl rfl ?_
            refine V.iload_n (i := 2) dL_isName_267 rfl rfl ?_
            refine V.iconst (v := 1) dL_isName_268 rfl ?_
            obtain ⟨v36, hv36, hf⟩ := fbind hf
            have hc := ct_X10_name (a1 := a1) (a2 := a2) (a3 := 1) (State_cells := State_cells) (History_oldest := History_oldest) (History_size := History_size) (History_snapshotTaken := History_snapshotTaken) (History_saved := History_saved) (History_snapshot := History_snapshot) (Buffer_size := Buffer_size) (Buffer_codes := Buffer_codes) (Reader_pattern := Reader_pattern) (Reader_place := Reader_place) (Word_size := Word_size) (Word_letters := Word_letters) hv36
            rcases hv36b : v36 with v37 | E9
            · rw [hv36b] at hc hf
              dsimp only [fth] at hf
              refine V.callVn (pl := [0, 1, 2, 3, 4, 5, 6, 7, 8, 9, 10]) (σ' := [.inl (5, [.ref 1, .ref 3, .ref 6, .ref 8, .ref 9]), .inl (3, [.ref 2]), .inr (910, .inl State_cells), .inl (1, [.ref 4, .ref 5, .int History_oldest, .int History_size, .int History_snapshotTaken]), .inr (5460, .inl History_saved), .inr (910, .inl History_snapshot), .inl (0, [.ref 7, .int Buffer_size]), .inr (60, .inl Buffer_codes), .inl (2, [.ref (Reader_pattern + 1000), .int Reader_place]), .inl (4, [.ref 10, .int Word_size]), .inr (8, .inl Word_letters)]) (st2 := [.int v37]) (cl2 := 0) (sl2 := 0) hc dL_isName_269 w284 ⟨w285, w286⟩ cal_X10_name rfl ⟨⟨Nat.le_of_ble_eq_true rfl, Nat.le_of_ble_eq_true rfl⟩, Nat.le_of_ble_eq_true rfl, Nat.le_of_ble_eq_true rfl⟩ (Nat.le_of_ble_eq_true rfl) ⟨_, _, _, _, rfl, rfl⟩ rfl ⟨rfl, ⟨by decide, by decide⟩, rfl, (fr_cons (Or.inl (Nat.le_of_ble_eq_true rfl)) (fr_cons (Or.inl (Nat.le_of_ble_eq_true rfl)) (fr_cons (Or.inl (Nat.le_of_ble_eq_true rfl)) (fr_cons (Or.inl (Nat.le_of_ble_eq_true rfl)) (fr_cons (Or.inl (Nat.le_of_ble_eq_true rfl)) (fr_cons (Or.inl (Nat.le_of_ble_eq_true rfl)) (fr_cons (Or.inl (Nat.le_of_ble_eq_true rfl)) (fr_cons (Or.inl (Nat.le_of_ble_eq_true rfl)) (fr_cons (Or.inl (Nat.le_of_ble_eq_true rfl)) (fr_cons (Or.inr (Nat.le_add_left 1000 _)) (fr_cons (Or.inl (Nat.le_of_ble_eq_true rfl)) (fr_nil)))))))))))), rfl⟩ fr_i rfl rfl rfl rfl ?_
              refine V.iload (i := 4) dL_isName_272 rfl ?_
              refine V.icmp_ne (tgt := 324) dL_isName_274 (by decide) (fun h => ?_) (fun h => ?_)
              · have hf := fif_f h hf
                refine V.iconst (v := 0) dL_isName_324 rfl ?_
                obtain rfl := Option.some.inj hf
                exact V.zret (v := 0) dL_isName_325 rfl (by decide +kernel) (Nat.le_of_ble_eq_true rfl) (Nat.le_of_ble_eq_true rfl) rfl
              · have hf := fif_t h hf
                refine V.aload_n (i := 0) dL_isName_277 rfl rfl ?_
                refine V.iload_n (i := 1) dL_isName_278 rfl rfl ?_
                refine V.iload_n (i := 2) dL_isName_279 rfl rfl ?_
                refine V.iconst (v := 2) dL_isName_280 rfl ?_
                obtain ⟨v38, hv38, hf⟩ := fbind hf
                have hc := ct_X10_name (a1 := a1) (a2 := a2) (a3 := 2) (State_cells := State_cells) (History_oldest := History_oldest) (History_size := History_size) (History_snapshotTaken := History_snapshotTaken) (History_saved := History_saved) (History_snapshot := History_snapshot) (Buffer_size := Buffer_size) (Buffer_codes := Buffer_codes) (Reader_pattern := Reader_pattern) (Reader_place := Reader_place) (Word_size := Word_size) (Word_letters := Word_letters) hv38
                rcases hv38b : v38 with v39 | E9
                · rw [hv38b] at hc hf
                  dsimp only [fth] at hf
                  refine V.callVn (pl := [0, 1, 2, 3, 4, 5, 6, 7, 8, 9, 10]) (σ' := [.inl (5, [.ref 1, .ref 3, .ref 6, .ref 8, .ref 9]), .inl (3, [.ref 2]), .inr (910, .inl State_cells), .inl (1, [.ref 4, .ref 5, .int History_oldest, .int History_size, .int History_snapshotTaken]), .inr (5460, .inl History_saved), .inr (910, .inl History_snapshot), .inl (0, [.ref 7, .int Buffer_size]), .inr (60, .inl Buffer_codes), .inl (2, [.ref (Reader_pattern + 1000), .int Reader_place]), .inl (4, [.ref 10, .int Word_size]), .inr (8, .inl Word_letters)]) (st2 := [.int v39]) (cl2 := 0) (sl2 := 0) hc dL_isName_281 w284 ⟨w285, w286⟩ cal_X10_name rfl ⟨⟨Nat.le_of_ble_eq_true rfl, Nat.le_of_ble_eq_true rfl⟩, Nat.le_of_ble_eq_true rfl, Nat.le_of_ble_eq_true rfl⟩ (Nat.le_of_ble_eq_true rfl) ⟨_, _, _, _, rfl, rfl⟩ rfl ⟨rfl, ⟨by decide, by decide⟩, rfl, (fr_cons (Or.inl (Nat.le_of_ble_eq_true rfl)) (fr_cons (Or.inl (Nat.le_of_ble_eq_true rfl)) (fr_cons (Or.inl (Nat.le_of_ble_eq_true rfl)) (fr_cons (Or.inl (Nat.le_of_ble_eq_true rfl)) (fr_cons (Or.inl (Nat.le_of_ble_eq_true rfl)) (fr_cons (Or.inl (Nat.le_of_ble_eq_true rfl)) (fr_cons (Or.inl (Nat.le_of_ble_eq_true rfl)) (fr_cons (Or.inl (Nat.le_of_ble_eq_true rfl)) (fr_cons (Or.inl (Nat.le_of_ble_eq_true rfl)) (fr_cons (Or.inr (Nat.le_add_left 1000 _)) (fr_cons (Or.inl (Nat.le_of_ble_eq_true rfl)) (fr_nil)))))))))))), rfl⟩ fr_i rfl rfl rfl rfl ?_
                  refine V.iload (i := 5) dL_isName_284 rfl ?_
                  refine V.icmp_ne (tgt := 324) dL_isName_286 (by decide) (fun h => ?_) (fun h => ?_)
                  · have hf := fif_f h hf
                    refine V.iconst (v := 0) dL_isName_324 rfl ?_
                    obtain rfl := Option.some.inj hf
                    exact V.zret (v := 0) dL_isName_325 rfl (by decide +kernel) (Nat.le_of_ble_eq_true rfl) (Nat.le_of_ble_eq_true rfl) rfl
                  · have hf := fif_t h hf
                    refine V.aload_n (i := 0) dL_isName_289 rfl rfl ?_
                    refine V.iload_n (i := 1) dL_isName_290 rfl rfl ?_
                    refine V.iload_n (i := 2) dL_isName_291 rfl rfl ?_
                    refine V.iconst (v := 3) dL_isName_292 rfl ?_
                    obtain ⟨v40, hv40, hf⟩ := fbind hf
                    have hc := ct_X10_name (a1 := a1) (a2 := a2) (a3 := 3) (State_cells := State_cells) (History_oldest := History_oldest) (History_size := History_size) (History_snapshotTaken := History_snapshotTaken) (History_saved := History_saved) (History_snapshot := History_snapshot) (Buffer_size := Buffer_size) (Buffer_codes := Buffer_codes) (Reader_pattern := Reader_pattern) (Reader_place := Reader_place) (Word_size := Word_size) (Word_letters := Word_letters) hv40
                    rcases hv40b : v40 with v41 | E9
                    · rw [hv40b] at hc hf
                      dsimp only [fth] at hf
                      refine V.callVn (pl := [0, 1, 2, 3, 4, 5, 6, 7, 8, 9, 10]) (σ' := [.inl (5, [.ref 1, .ref 3, .ref 6, .ref 8, .ref 9]), .inl (3, [.ref 2]), .inr (910, .inl State_cells), .inl (1, [.ref 4, .ref 5, .int History_oldest, .int History_size, .int History_snapshotTaken]), .inr (5460, .inl History_saved), .inr (910, .inl History_snapshot), .inl (0, [.ref 7, .int Buffer_size]), .inr (60, .inl Buffer_codes), .inl (2, [.ref (Reader_pattern + 1000), .int Reader_place]), .inl (4, [.ref 10, .int Word_size]), .inr (8, .inl Word_letters)]) (st2 := [.int v41]) (cl2 := 0) (sl2 := 0) hc dL_isName_293 w284 ⟨w285, w286⟩ cal_X10_name rfl ⟨⟨Nat.le_of_ble_eq_true rfl, Nat.le_of_ble_eq_true rfl⟩, Nat.le_of_ble_eq_true rfl, Nat.le_of_ble_eq_true rfl⟩ (Nat.le_of_ble_eq_true rfl) ⟨_, _, _, _, rfl, rfl⟩ rfl ⟨rfl, ⟨by decide, by decide⟩, rfl, (fr_cons (Or.inl (Nat.le_of_ble_eq_true rfl)) (fr_cons (Or.inl (Nat.le_of_ble_eq_true rfl)) (fr_cons (Or.inl (Nat.le_of_ble_eq_true rfl)) (fr_cons (Or.inl (Nat.le_of_ble_eq_true rfl)) (fr_cons (Or.inl (Nat.le_of_ble_eq_true rfl)) (fr_cons (Or.inl (Nat.le_of_ble_eq_true rfl)) (fr_cons (Or.inl (Nat.le_of_ble_eq_true rfl)) (fr_cons (Or.inl (Nat.le_of_ble_eq_true rfl)) (fr_cons (Or.inl (Nat.le_of_ble_eq_true rfl)) (fr_cons (Or.inr (Nat.le_add_left 1000 _)) (fr_cons (Or.inl (Nat.le_of_ble_eq_true rfl)) (fr_nil)))))))))))), rfl⟩ fr_i rfl rfl rfl rfl ?_
                      refine V.iload (i := 6) dL_isName_296 rfl ?_
                      obtain ⟨v42, ev42, hf⟩ := flet_e hf
                      refine V.join (J := 325) (y := v42) (st' := []) (fun tlv42 => ?_) ?_
                      · refine V.icmp_ne (tgt := 324) dL_isName_298 (by decide) (fun h43 => ?_) (fun h43 => ?_)
                        · refine V.iconst (v := 0) dL_isName_324 rfl ?_
                          exact V.cgi (by rw [← ev42, if_neg h43]) tlv42
                        · refine V.iload (i := 7) dL_isName_301 rfl ?_
                          refine V.iconst (v := (-1)) dL_isName_303 rfl ?_
                          refine V.icmp_eq (tgt := 320) dL_isName_304 (by decide) (fun h44 => ?_) (fun h44 => ?_)
                          · refine V.iconst (v := 1) dL_isName_320 rfl ?_
                            refine V.goto (tgt := 325) dL_isName_321 (by decide) ?_
                            exact V.cgi (by rw [← ev42, if_pos h43, if_pos h44]) tlv42
                          · refine V.iload (i := 7) dL_isName_307 rfl ?_
                            refine V.iconst (v := 1) dL_isName_309 rfl ?_
                            refine V.icmp_lt (tgt := 324) dL_isName_310 (by decide) (fun h45 => ?_) (fun h45 => ?_)
                            · refine V.iconst (v := 0) dL_isName_324 rfl ?_
                              exact V.cgi (by rw [← ev42, if_pos h43, if_neg h44, if_pos h45]) tlv42
                            · refine V.iload (i := 7) dL_isName_313 rfl ?_
                              refine V.bipush (v := 60) dL_isName_315 rfl ?_
                              refine V.icmp_gt (tgt := 324) dL_isName_317 (by decide) (fun h46 => ?_) (fun h46 => ?_)
                              · refine V.iconst (v := 0) dL_isName_324 rfl ?_
                                exact V.cgi (by rw [← ev42, if_pos h43, if_neg h44, if_neg h45, if_pos h46]) tlv42
                              · refine V.iconst (v := 1) dL_isName_320 rfl ?_
                                refine V.goto (tgt := 325) dL_isName_321 (by decide) ?_
                                exact V.cgi (by rw [← ev42, if_pos h43, if_neg h44, if_neg h45, if_neg h46]) tlv42
                      · obtain ⟨hz, hf⟩ := fz_e hf
                        obtain rfl := Option.some.inj hf
                        exact V.zret (v := v42) dL_isName_325 rfl hz (Nat.le_of_ble_eq_true rfl) (Nat.le_of_ble_eq_true rfl) rfl
                    · rw [hv40b] at hc hf
                      dsimp only [fth] at hf
                      cases hf
                · rw [hv38b] at hc hf
                  dsimp only [fth] at hf
                  cases hf
            · rw [hv36b] at hc hf
              dsimp only [fth] at hf
              cases hf
      · rw [hv34b] at hc hf
        dsimp only [fth] at hf
        cases hf
  · rw [hv1b] at hc hf
    dsimp only [fth] at hf
    cases hf
def k_L_holds : fK := (yL_holds, cL_holds, 11, (some .boolean), [], (10, 178), (0, 0), (1, 6))
theorem cal_L_holds : fCal k_L_holds 1 := ⟨⟨wc173, w5⟩, ⟨by decide +kernel, by decide +kernel⟩, by decide +kernel, by decide +kernel⟩
def s_L_holds_L30 (p7 : Int32) (State_cells : Nat → Int32) : Nat → Int32 → Int32 → Int32 → Int32 → (Int32) → (Nat → Int32) → Option ((Int32 × (Int32) × (Nat → Int32)) ⊕ (Int32 × Int32 × Int32 × Int32 × (Int32) × (Nat → Int32)))
  | 0, _, _, _, _, _, _ => none
  | n + 1, x5, x6, x8, x9, Word_size, Word_letters => (s_X10_fisher p7 1 State_cells).bind fun v1 => fth v1 (fun v2 => if (v2 ≤ x9 : Prop) then (some (.inr (x5, x6, x8, x9, Word_size, Word_letters))) else ((s_X10_name p7 x9 1 State_cells).bind fun v3 => fth v3 (fun v4 => (s_X10_name p7 x9 2 State_cells).bind fun v5 => fth v5 (fun v6 => (s_X10_name p7 x9 0 State_cells).bind fun v7 => fth v7 (fun v8 => (s_L_isName p7 x9 State_cells).bind fun v9 => if (v9 = 0 : Prop) then (some (.inl (0, Word_size, Word_letters))) else ((s_X10_noGift p7 x9 p7 State_cells Word_size Word_letters).bind fun v10 => fth v10.1 (fun v11 => if (v11 = 5 : Prop) then (s_L_holds_L30 p7 State_cells n (x5 + v6) (x6 + v8) (x8 + v4) (x9 + 1) v10.2.1 v10.2.2) else (some (.inl (0, v10.2.1, v10.2.2)))) (fun E9 => none))) (fun E9 => none)) (fun E9 => none)) (fun E9 => none))) (fun E9 => none)
set_option maxHeartbeats 4000000 in
set_option maxRecDepth 100000 in
theorem v_L_holds_L30 {out : fO} {σ' : List fE} {p1 : Int32} {p2 : Int32} {p3 : Int32} {p4 : Int32} {p7 : Int32} {State_cells : Nat → Int32} {History_oldest : Int32} {History_size : Int32} {History_snapshotTaken : Int32} {History_saved : Nat → Int32} {History_snapshot : Nat → Int32} {Buffer_size : Int32} {Buffer_codes : Nat → Int32} {Reader_pattern : Nat} {Reader_place : Int32} : ∀ (n : Nat) {x5 : Int32} {x6 : Int32} {x8 : Int32} {x9 : Int32} {Word_size : (Int32)} {Word_letters : (Nat → Int32)} {res : (Int32 × (Int32) × (Nat → Int32)) ⊕ (Int32 × Int32 × Int32 × Int32 × (Int32) × (Nat → Int32))} (hf : s_L_holds_L30 p7 State_cells n x5 x6 x8 x9 Word_size Word_letters = some res) (hr : ∀ r, res = .inl r → out = (.inl (some (.int r.1))) ∧ σ' = [.inl (5, [.ref 1, .ref 3, .ref 6, .ref 8, .ref 9]), .inl (3, [.ref 2]), .inr (910, .inl State_cells), .inl (1, [.ref 4, .ref 5, .int History_oldest, .int History_size, .int History_snapshotTaken]), .inr (5460, .inl History_saved), .inr (910, .inl History_snapshot), .inl (0, [.ref 7, .int Buffer_size]), .inr (60, .inl Buffer_codes), .inl (2, [.ref (Reader_pattern + 1000), .int Reader_place]), .inl (4, [.ref 10, .int r.2.1]), .inr (8, .inl r.2.2)]) (hx : ∀ e, res = .inr e → V (fXm 11 k_L_holds out σ') (krm k_L_holds) k_L_holds 11 117 [some (.ref 0), some (.int p1), some (.int p2), some (.int p3), some (.int p4), some (.int e.1), some (.int e.2.1), some (.int p7), some (.int e.2.2.1), some (.int e.2.2.2.1), none] [] [.inl (5, [.ref 1, .ref 3, .ref 6, .ref 8, .ref 9]), .inl (3, [.ref 2]), .inr (910, .inl State_cells), .inl (1, [.ref 4, .ref 5, .int History_oldest, .int History_size, .int History_snapshotTaken]), .inr (5460, .inl History_saved), .inr (910, .inl History_snapshot), .inl (0, [.ref 7, .int Buffer_size]), .inr (60, .inl Buffer_codes), .inl (2, [.ref (Reader_pattern + 1000), .int Reader_place]), .inl (4, [.ref 10, .int e.2.2.2.2.1]), .inr (8, .inl e.2.2.2.2.2)] 0 0), V (fXm 11 k_L_holds out σ') (krm k_L_holds) k_L_holds 11 30 [some (.ref 0), some (.int p1), some (.int p2), some (.int p3), some (.int p4), some (.int x5), some (.int x6), some (.int p7), some (.int x8), some (.int x9), none] [] [.inl (5, [.ref 1, .ref 3, .ref 6, .ref 8, .ref 9]), .inl (3, [.ref 2]), .inr (910, .inl State_cells), .inl (1, [.ref 4, .ref 5, .int History_oldest, .int History_size, .int History_snapshotTaken]), .inr (5460, .inl History_saved), .inr (910, .inl History_snapshot), .inl (0, [.ref 7, .int Buffer_size]), .inr (60, .inl Buffer_codes), .inl (2, [.ref (Reader_pattern + 1000), .int Reader_place]), .inl (4, [.ref 10, .int Word_size]), .inr (8, .inl Word_letters)] 0 0 := by
  intro n
  induction n with
  | zero =>
    intro x5 x6 x8 x9 Word_size Word_letters res hf hr hx
    rw [s_L_holds_L30] at hf
    cases hf
  | succ n ih =>
    intro x5 x6 x8 x9 Word_size Word_letters res hf hr hx
    rw [s_L_holds_L30] at hf
    refine V.iload (i := 9) dL_holds_30 rfl ?_
    refine V.aload_n (i := 0) dL_holds_32 rfl rfl ?_
    refine V.iload (i := 7) dL_holds_33 rfl ?_
    refine V.iconst (v := 1) dL_holds_35 rfl ?_
    obtain ⟨v1, hv1, hf⟩ := fbind hf
    have hc := ct_X10_fisher (a1 := p7) (a2 := 1) (State_cells := State_cells) (History_oldest := History_oldest) (History_size := History_size) (History_snapshotTaken := History_snapshotTaken) (History_saved := History_saved) (History_snapshot := History_snapshot) (Buffer_size := Buffer_size) (Buffer_codes := Buffer_codes) (Reader_pattern := Reader_pattern) (Reader_place := Reader_place) (Word_size := Word_size) (Word_letters := Word_letters) hv1
    rcases hv1b : v1 with v2 | E9
    · rw [hv1b] at hc hf
      dsimp only [fth] at hf
      refine V.callVn (pl := [0, 1, 2, 3, 4, 5, 6, 7, 8, 9, 10]) (σ' := [.inl (5, [.ref 1, .ref 3, .ref 6, .ref 8, .ref 9]), .inl (3, [.ref 2]), .inr (910, .inl State_cells), .inl (1, [.ref 4, .ref 5, .int History_oldest, .int History_size, .int History_snapshotTaken]), .inr (5460, .inl History_saved), .inr (910, .inl History_snapshot), .inl (0, [.ref 7, .int Buffer_size]), .inr (60, .inl Buffer_codes), .inl (2, [.ref (Reader_pattern + 1000), .int Reader_place]), .inl (4, [.ref 10, .int Word_size]), .inr (8, .inl Word_letters)]) (st2 := [.int v2, .int x9]) (cl2 := 0) (sl2 := 0) hc dL_holds_36 w174 ⟨w175, w176⟩ cal_X10_fisher rfl ⟨⟨Nat.le_of_ble_eq_true rfl, Nat.le_of_ble_eq_true rfl⟩, Nat.le_of_ble_eq_true rfl, Nat.le_of_ble_eq_true rfl⟩ (Nat.le_of_ble_eq_true rfl) ⟨_, _, _, _, rfl, rfl⟩ rfl ⟨rfl, ⟨by decide, by decide⟩, rfl, (fr_cons (Or.inl (Nat.le_of_ble_eq_true rfl)) (fr_cons (Or.inl (Nat.le_of_ble_eq_true rfl)) (fr_cons (Or.inl (Nat.le_of_ble_eq_true rfl)) (fr_cons (Or.inl (Nat.le_of_ble_eq_true rfl)) (fr_cons (Or.inl (Nat.le_of_ble_eq_true rfl)) (fr_cons (Or.inl (Nat.le_of_ble_eq_true rfl)) (fr_cons (Or.inl (Nat.le_of_ble_eq_true rfl)) (fr_cons (Or.inl (Nat.le_of_ble_eq_true rfl)) (fr_cons (Or.inl (Nat.le_of_ble_eq_true rfl)) (fr_cons (Or.inr (Nat.le_add_left 1000 _)) (fr_cons (Or.inl (Nat.le_of_ble_eq_true rfl)) (fr_nil)))))))))))), rfl⟩ fr_i rfl rfl rfl rfl ?_
      refine V.icmp_ge (tgt := 117) dL_holds_39 (by decide) (fun h => ?_) (fun h => ?_)
      · have hf := fif_t h hf
        obtain rfl := Option.some.inj hf
        exact hx _ rfl
      · have hf := fif_f h hf
        refine V.iload (i := 8) dL_holds_42 rfl ?_
        refine V.aload_n (i := 0) dL_holds_44 rfl rfl ?_
        refine V.iload (i := 7) dL_holds_45 rfl ?_
        refine V.iload (i := 9) dL_holds_47 rfl ?_
        refine V.iconst (v := 1) dL_holds_49 rfl ?_
        obtain ⟨v3, hv3, hf⟩ := fbind hf
        have hc := ct_X10_name (a1 := p7) (a2 := x9) (a3 := 1) (State_cells := State_cells) (History_oldest := History_oldest) (History_size := History_size) (History_snapshotTaken := History_snapshotTaken) (History_saved := History_saved) (History_snapshot := History_snapshot) (Buffer_size := Buffer_size) (Buffer_codes := Buffer_codes) (Reader_pattern := Reader_pattern) (Reader_place := Reader_place) (Word_size := Word_size) (Word_letters := Word_letters) hv3
        rcases hv3b : v3 with v4 | E9
        · rw [hv3b] at hc hf
          dsimp only [fth] at hf
          refine V.callVn (pl := [0, 1, 2, 3, 4, 5, 6, 7, 8, 9, 10]) (σ' := [.inl (5, [.ref 1, .ref 3, .ref 6, .ref 8, .ref 9]), .inl (3, [.ref 2]), .inr (910, .inl State_cells), .inl (1, [.ref 4, .ref 5, .int History_oldest, .int History_size, .int History_snapshotTaken]), .inr (5460, .inl History_saved), .inr (910, .inl History_snapshot), .inl (0, [.ref 7, .int Buffer_size]), .inr (60, .inl Buffer_codes), .inl (2, [.ref (Reader_pattern + 1000), .int Reader_place]), .inl (4, [.ref 10, .int Word_size]), .inr (8, .inl Word_letters)]) (st2 := [.int v4, .int x8]) (cl2 := 0) (sl2 := 0) hc dL_holds_50 w284 ⟨w285, w286⟩ cal_X10_name rfl ⟨⟨Nat.le_of_ble_eq_true rfl, Nat.le_of_ble_eq_true rfl⟩, Nat.le_of_ble_eq_true rfl, Nat.le_of_ble_eq_true rfl⟩ (Nat.le_of_ble_eq_true rfl) ⟨_, _, _, _, rfl, rfl⟩ rfl ⟨rfl, ⟨by decide, by decide⟩, rfl, (fr_cons (Or.inl (Nat.le_of_ble_eq_true rfl)) (fr_cons (Or.inl (Nat.le_of_ble_eq_true rfl)) (fr_cons (Or.inl (Nat.le_of_ble_eq_true rfl)) (fr_cons (Or.inl (Nat.le_of_ble_eq_true rfl)) (fr_cons (Or.inl (Nat.le_of_ble_eq_true rfl)) (fr_cons (Or.inl (Nat.le_of_ble_eq_true rfl)) (fr_cons (Or.inl (Nat.le_of_ble_eq_true rfl)) (fr_cons (Or.inl (Nat.le_of_ble_eq_true rfl)) (fr_cons (Or.inl (Nat.le_of_ble_eq_true rfl)) (fr_cons (Or.inr (Nat.le_add_left 1000 _)) (fr_cons (Or.inl (Nat.le_of_ble_eq_true rfl)) (fr_nil)))))))))))), rfl⟩ fr_i rfl rfl rfl rfl ?_
          refine V.iadd dL_holds_53 ?_
          refine V.istore (i := 8) (L' := [some (.ref 0), some (.int p1), some (.int p2), some (.int p3), some (.int p4), some (.int x5), some (.int x6), some (.int p7), some (.int (x8 + v4)), some (.int x9), none]) dL_holds_54 (Nat.le_of_ble_eq_true rfl) rfl rfl ?_
          refine V.iload (i := 5) dL_holds_56 rfl ?_
          refine V.aload_n (i := 0) dL_holds_58 rfl rfl ?_
          refine V.iload (i := 7) dL_holds_59 rfl ?_
          refine V.iload (i := 9) dL_holds_61 rfl ?_
          refine V.iconst (v := 2) dL_holds_63 rfl ?_
          obtain ⟨v5, hv5, hf⟩ := fbind hf
          have hc := ct_X10_name (a1 := p7) (a2 := x9) (a3 := 2) (State_cells := State_cells) (History_oldest := History_oldest) (History_size := History_size) (History_snapshotTaken := History_snapshotTaken) (History_saved := History_saved) (History_snapshot := History_snapshot) (Buffer_size := Buffer_size) (Buffer_codes := Buffer_codes) (Reader_pattern := Reader_pattern) (Reader_place := Reader_place) (Word_size := Word_size) (Word_letters := Word_letters) hv5
          rcases hv5b : v5 with v6 | E9
          · rw [hv5b] at hc hf
            dsimp only [fth] at hf
            refine V.callVn (pl := [0, 1, 2, 3, 4, 5, 6, 7, 8, 9, 10]) (σ' := [.inl (5, [.ref 1, .ref 3, .ref 6, .ref 8, .ref 9]), .inl (3, [.ref 2]), .inr (910, .inl State_cells), .inl (1, [.ref 4, .ref 5, .int History_oldest, .int History_size, .int History_snapshotTaken]), .inr (5460, .inl History_saved), .inr (910, .inl History_snapshot), .inl (0, [.ref 7, .int Buffer_size]), .inr (60, .inl Buffer_codes), .inl (2, [.ref (Reader_pattern + 1000), .int Reader_place]), .inl (4, [.ref 10, .int Word_size]), .inr (8, .inl Word_letters)]) (st2 := [.int v6, .int x5]) (cl2 := 0) (sl2 := 0) hc dL_holds_64 w284 ⟨w285, w286⟩ cal_X10_name rfl ⟨⟨Nat.le_of_ble_eq_true rfl, Nat.le_of_ble_eq_true rfl⟩, Nat.le_of_ble_eq_true rfl, Nat.le_of_ble_eq_true rfl⟩ (Nat.le_of_ble_eq_true rfl) ⟨_, _, _, _, rfl, rfl⟩ rfl ⟨rfl, ⟨by decide, by decide⟩, rfl, (fr_cons (Or.inl (Nat.le_of_ble_eq_true rfl)) (fr_cons (Or.inl (Nat.le_of_ble_eq_true rfl)) (fr_cons (Or.inl (Nat.le_of_ble_eq_true rfl)) (fr_cons (Or.inl (Nat.le_of_ble_eq_true rfl)) (fr_cons (Or.inl (Nat.le_of_ble_eq_true rfl)) (fr_cons (Or.inl (Nat.le_of_ble_eq_true rfl)) (fr_cons (Or.inl (Nat.le_of_ble_eq_true rfl)) (fr_cons (Or.inl (Nat.le_of_ble_eq_true rfl)) (fr_cons (Or.inl (Nat.le_of_ble_eq_true rfl)) (fr_cons (Or.inr (Nat.le_add_left 1000 _)) (fr_cons (Or.inl (Nat.le_of_ble_eq_true rfl)) (fr_nil)))))))))))), rfl⟩ fr_i rfl rfl rfl rfl ?_
            refine V.iadd dL_holds_67 ?_
            refine V.istore (i := 5) (L' := [some (.ref 0), some (.int p1), some (.int p2), some (.int p3), some (.int p4), some (.int (x5 + v6)), some (.int x6), some (.int p7), some (.int (x8 + v4)), some (.int x9), none]) dL_holds_68 (Nat.le_of_ble_eq_true rfl) rfl rfl ?_
            refine V.iload (i := 6) dL_holds_70 rfl ?_
            refine V.aload_n (i := 0) dL_holds_72 rfl rfl ?_
            refine V.iload (i := 7) dL_holds_73 rfl ?_
            refine V.iload (i := 9) dL_holds_75 rfl ?_
            refine V.iconst (v := 0) dL_holds_77 rfl ?_
            obtain ⟨v7, hv7, hf⟩ := fbind hf
            have hc := ct_X10_name (a1 := p7) (a2 := x9) (a3 := 0) (State_cells := State_cells) (History_oldest := History_oldest) (History_size := History_size) (History_snapshotTaken := History_snapshotTaken) (History_saved := History_saved) (History_snapshot := History_snapshot) (Buffer_size := Buffer_size) (Buffer_codes := Buffer_codes) (Reader_pattern := Reader_pattern) (Reader_place := Reader_place) (Word_size := Word_size) (Word_letters := Word_letters) hv7
            rcases hv7b : v7 with v8 | E9
            · rw [hv7b] at hc hf
              dsimp only [fth] at hf
              refine V.callVn (pl := [0, 1, 2, 3, 4, 5, 6, 7, 8, 9, 10]) (σ' := [.inl (5, [.ref 1, .ref 3, .ref 6, .ref 8, .ref 9]), .inl (3, [.ref 2]), .inr (910, .inl State_cells), .inl (1, [.ref 4, .ref 5, .int History_oldest, .int History_size, .int History_snapshotTaken]), .inr (5460, .inl History_saved), .inr (910, .inl History_snapshot), .inl (0, [.ref 7, .int Buffer_size]), .inr (60, .inl Buffer_codes), .inl (2, [.ref (Reader_pattern + 1000), .int Reader_place]), .inl (4, [.ref 10, .int Word_size]), .inr (8, .inl Word_letters)]) (st2 := [.int v8, .int x6]) (cl2 := 0) (sl2 := 0) hc dL_holds_78 w284 ⟨w285, w286⟩ cal_X10_name rfl ⟨⟨Nat.le_of_ble_eq_true rfl, Nat.le_of_ble_eq_true rfl⟩, Nat.le_of_ble_eq_true rfl, Nat.le_of_ble_eq_true rfl⟩ (Nat.le_of_ble_eq_true rfl) ⟨_, _, _, _, rfl, rfl⟩ rfl ⟨rfl, ⟨by decide, by decide⟩, rfl, (fr_cons (Or.inl (Nat.le_of_ble_eq_true rfl)) (fr_cons (Or.inl (Nat.le_of_ble_eq_true rfl)) (fr_cons (Or.inl (Nat.le_of_ble_eq_true rfl)) (fr_cons (Or.inl (Nat.le_of_ble_eq_true rfl)) (fr_cons (Or.inl (Nat.le_of_ble_eq_true rfl)) (fr_cons (Or.inl (Nat.le_of_ble_eq_true rfl)) (fr_cons (Or.inl (Nat.le_of_ble_eq_true rfl)) (fr_cons (Or.inl (Nat.le_of_ble_eq_true rfl)) (fr_cons (Or.inl (Nat.le_of_ble_eq_true rfl)) (fr_cons (Or.inr (Nat.le_add_left 1000 _)) (fr_cons (Or.inl (Nat.le_of_ble_eq_true rfl)) (fr_nil)))))))))))), rfl⟩ fr_i rfl rfl rfl rfl ?_
              refine V.iadd dL_holds_81 ?_
              refine V.istore (i := 6) (L' := [some (.ref 0), some (.int p1), some (.int p2), some (.int p3), some (.int p4), some (.int (x5 + v6)), some (.int (x6 + v8)), some (.int p7), some (.int (x8 + v4)), some (.int x9), none]) dL_holds_82 (Nat.le_of_ble_eq_true rfl) rfl rfl ?_
              refine V.aload_n (i := 0) dL_holds_84 rfl rfl ?_
              refine V.iload (i := 7) dL_holds_85 rfl ?_
              refine V.iload (i := 9) dL_holds_87 rfl ?_
              obtain ⟨v9, hv9, hf⟩ := fbind hf
              refine V.callSn (pl := [0, 1, 2, 3, 4, 5, 6, 7, 8, 9, 10]) (σ' := [.inl (5, [.ref 1, .ref 3, .ref 6, .ref 8, .ref 9]), .inl (3, [.ref 2]), .inr (910, .inl State_cells), .inl (1, [.ref 4, .ref 5, .int History_oldest, .int History_size, .int History_snapshotTaken]), .inr (5460, .inl History_saved), .inr (910, .inl History_snapshot), .inl (0, [.ref 7, .int Buffer_size]), .inr (60, .inl Buffer_codes), .inl (2, [.ref (Reader_pattern + 1000), .int Reader_place]), .inl (4, [.ref 10, .int Word_size]), .inr (8, .inl Word_letters)]) (st2 := [.int v9]) (cl2 := 0) (sl2 := 0) (ct_L_isName (a1 := p7) (a2 := x9) (State_cells := State_cells) (History_oldest := History_oldest) (History_size := History_size) (History_snapshotTaken := History_snapshotTaken) (History_saved := History_saved) (History_snapshot := History_snapshot) (Buffer_size := Buffer_size) (Buffer_codes := Buffer_codes) (Reader_pattern := Reader_pattern) (Reader_place := Reader_place) (Word_size := Word_size) (Word_letters := Word_letters) hv9) dL_holds_89 w317 w318 cal_L_isName ⟨⟨Nat.le_of_ble_eq_true rfl, Nat.le_of_ble_eq_true rfl⟩, Nat.le_of_ble_eq_true rfl, Nat.le_of_ble_eq_true rfl⟩ (Nat.le_of_ble_eq_true rfl) rfl ⟨rfl, ⟨by decide, by decide⟩, rfl, (fr_cons (Or.inl (Nat.le_of_ble_eq_true rfl)) (fr_cons (Or.inl (Nat.le_of_ble_eq_true rfl)) (fr_cons (Or.inl (Nat.le_of_ble_eq_true rfl)) (fr_cons (Or.inl (Nat.le_of_ble_eq_true rfl)) (fr_cons (Or.inl (Nat.le_of_ble_eq_true rfl)) (fr_cons (Or.inl (Nat.le_of_ble_eq_true rfl)) (fr_cons (Or.inl (Nat.le_of_ble_eq_true rfl)) (fr_cons (Or.inl (Nat.le_of_ble_eq_true rfl)) (fr_cons (Or.inl (Nat.le_of_ble_eq_true rfl)) (fr_cons (Or.inr (Nat.le_add_left 1000 _)) (fr_cons (Or.inl (Nat.le_of_ble_eq_true rfl)) (fr_nil)))))))))))), rfl⟩ fr_i rfl rfl rfl rfl ?_
              refine V.if_eq (tgt := 109) dL_holds_92 (by decide) (fun h => ?_) (fun h => ?_)
              · have hf := fif_t h hf
                refine V.iconst (v := 0) dL_holds_109 rfl ?_
                obtain rfl := Option.some.inj hf
                obtain ⟨e1, e2⟩ := hr _ rfl
                subst e1; subst e2
                exact V.zret (v := 0) dL_holds_110 rfl (by decide +kernel) (Nat.le_of_ble_eq_true rfl) (Nat.le_of_ble_eq_true rfl) rfl
              · have hf := fif_f h hf
                refine V.aload_n (i := 0) dL_holds_95 rfl rfl ?_
                refine V.iload (i := 7) dL_holds_96 rfl ?_
                refine V.iload (i := 9) dL_holds_98 rfl ?_
                refine V.iload (i := 7) dL_holds_100 rfl ?_
                obtain ⟨v10, hv10, hf⟩ := fbind hf
                have hc := ct_X10_noGift (a1 := p7) (a2 := x9) (a3 := p7) (State_cells := State_cells) (History_oldest := History_oldest) (History_size := History_size) (History_snapshotTaken := History_snapshotTaken) (History_saved := History_saved) (History_snapshot := History_snapshot) (Buffer_size := Buffer_size) (Buffer_codes := Buffer_codes) (Reader_pattern := Reader_pattern) (Reader_place := Reader_place) (Word_size := Word_size) (Word_letters := Word_letters) hv10
                rcases hv10b : v10.1 with v11 | E9
                · rw [hv10b] at hc hf
                  dsimp only [fth] at hf
                  refine V.callVn (pl := [0, 1, 2, 3, 4, 5, 6, 7, 8, 9, 10]) (σ' := [.inl (5, [.ref 1, .ref 3, .ref 6, .ref 8, .ref 9]), .inl (3, [.ref 2]), .inr (910, .inl State_cells), .inl (1, [.ref 4, .ref 5, .int History_oldest, .int History_size, .int History_snapshotTaken]), .inr (5460, .inl History_saved), .inr (910, .inl History_snapshot), .inl (0, [.ref 7, .int Buffer_size]), .inr (60, .inl Buffer_codes), .inl (2, [.ref (Reader_pattern + 1000), .int Reader_place]), .inl (4, [.ref 10, .int v10.2.1]), .inr (8, .inl v10.2.2)]) (st2 := [.int v11]) (cl2 := 0) (sl2 := 0) hc dL_holds_102 w353 ⟨w354, w355⟩ cal_X10_noGift rfl ⟨⟨Nat.le_of_ble_eq_true rfl, Nat.le_of_ble_eq_true rfl⟩, Nat.le_of_ble_eq_true rfl, Nat.le_of_ble_eq_true rfl⟩ (Nat.le_of_ble_eq_true rfl) ⟨_, _, _, _, rfl, rfl⟩ rfl ⟨rfl, ⟨by decide, by decide⟩, rfl, (fr_cons (Or.inl (Nat.le_of_ble_eq_true rfl)) (fr_cons (Or.inl (Nat.le_of_ble_eq_true rfl)) (fr_cons (Or.inl (Nat.le_of_ble_eq_true rfl)) (fr_cons (Or.inl (Nat.le_of_ble_eq_true rfl)) (fr_cons (Or.inl (Nat.le_of_ble_eq_true rfl)) (fr_cons (Or.inl (Nat.le_of_ble_eq_true rfl)) (fr_cons (Or.inl (Nat.le_of_ble_eq_true rfl)) (fr_cons (Or.inl (Nat.le_of_ble_eq_true rfl)) (fr_cons (Or.inl (Nat.le_of_ble_eq_true rfl)) (fr_cons (Or.inr (Nat.le_add_left 1000 _)) (fr_cons (Or.inl (Nat.le_of_ble_eq_true rfl)) (fr_nil)))))))))))), rfl⟩ fr_i rfl rfl rfl rfl ?_
                  refine V.iconst (v := 5) dL_holds_105 rfl ?_
                  refine V.icmp_eq (tgt := 111) dL_holds_106 (by decide) (fun h => ?_) (fun h => ?_)
                  · have hf := fif_t h hf
                    refine V.iinc (i := 9) (v := (x9 + 1)) (L' := [some (.ref 0), some (.int p1), some (.int p2), some (.int p3), some (.int p4), some (.int (x5 + v6)), some (.int (x6 + v8)), some (.int p7), some (.int (x8 + v4)), some (.int (x9 + 1)), none]) dL_holds_111 rfl rfl (Nat.le_of_ble_eq_true rfl) rfl rfl ?_
                    refine V.goto (tgt := 30) dL_holds_114 (by decide) ?_
                    exact ih hf hr hx
                  · have hf := fif_f h hf
                    refine V.iconst (v := 0) dL_holds_109 rfl ?_
                    obtain rfl := Option.some.inj hf
                    obtain ⟨e1, e2⟩ := hr _ rfl
                    subst e1; subst e2
                    exact V.zret (v := 0) dL_holds_110 rfl (by decide +kernel) (Nat.le_of_ble_eq_true rfl) (Nat.le_of_ble_eq_true rfl) rfl
                · rw [hv10b] at hc hf
                  dsimp only [fth] at hf
                  cases hf
            · rw [hv7b] at hc hf
              dsimp only [fth] at hf
              cases hf
          · rw [hv5b] at hc hf
            dsimp only [fth] at hf
            cases hf
        · rw [hv3b] at hc hf
          dsimp only [fth] at hf
          cases hf
    · rw [hv1b] at hc hf
      dsimp only [fth] at hf
      cases hf
def s_L_holds_L18 (State_cells : Nat → Int32) : Nat → Int32 → Int32 → Int32 → Int32 → Int32 → Int32 → Int32 → (Int32) → (Nat → Int32) → Option ((Int32 × (Int32) × (Nat → Int32)) ⊕ (Int32 × Int32 × Int32 × Int32 × Int32 × Int32 × Int32 × (Int32) × (Nat → Int32)))
  | 0, _, _, _, _, _, _, _, _, _ => none
  | n + 1, x1, x2, x3, x4, x5, x6, x7, Word_size, Word_letters => if (5 ≤ x7 : Prop) then (some (.inr (x1, x2, x3, x4, x5, x6, x7, Word_size, Word_letters))) else ((s_L_holds_L30 x7 State_cells gF x5 x6 0 0 Word_size Word_letters).bind fun r12 => fsum r12 (fun r9 => some (.inl r9)) (fun e13 => (s_X10_fisher x7 1 State_cells).bind fun v14 => fth v14 (fun v15 => (s_X10_fisher x7 3 State_cells).bind fun v16 => fth v16 (fun v17 => (s_X10_fisher x7 4 State_cells).bind fun v18 => fth v18 (fun v19 => (s_X10_fisher x7 1 State_cells).bind fun v20 => fth v20 (fun v21 => if (6 < v21 : Prop) then (some (.inl (0, e13.2.2.2.2.1, e13.2.2.2.2.2))) else ((s_X10_fisher x7 2 State_cells).bind fun v22 => fth v22 (fun v23 => (s_X10_fisher x7 0 State_cells).bind fun v24 => fth v24 (fun v25 => if (v23 = (v25 - e13.2.2.1) : Prop) then ((s_X10_fisher x7 2 State_cells).bind fun v26 => fth v26 (fun v27 => if (v27 < 0 : Prop) then (some (.inl (0, e13.2.2.2.2.1, e13.2.2.2.2.2))) else ((s_X10_ifStorm x7 0 State_cells).bind fun v28 => fth v28 (fun v29 => (s_X10_fisher x7 1 State_cells).bind fun v30 => fth v30 (fun v31 => if (v31 < v29 : Prop) then (some (.inl (0, e13.2.2.2.2.1, e13.2.2.2.2.2))) else ((s_X10_ifStorm x7 1 State_cells).bind fun v32 => fth v32 (fun v33 => if (0 ≤ v33 : Prop) then (s_L_holds_L18 State_cells n (x1 + v15) (x2 + e13.2.2.1) (x3 + v17) (x4 + v19) e13.1 e13.2.1 (x7 + 1) e13.2.2.2.2.1 e13.2.2.2.2.2) else (some (.inl (0, e13.2.2.2.2.1, e13.2.2.2.2.2)))) (fun E9 => none))) (fun E9 => none)) (fun E9 => none))) (fun E9 => none)) else (some (.inl (0, e13.2.2.2.2.1, e13.2.2.2.2.2)))) (fun E9 => none)) (fun E9 => none))) (fun E9 => none)) (fun E9 => none)) (fun E9 => none)) (fun E9 => none)))
set_option maxHeartbeats 4000000 in
set_option maxRecDepth 100000 in
theorem v_L_holds_L18 {out : fO} {σ' : List fE} {State_cells : Nat → Int32} {History_oldest : Int32} {History_size : Int32} {History_snapshotTaken : Int32} {History_saved : Nat → Int32} {History_snapshot : Nat → Int32} {Buffer_size : Int32} {Buffer_codes : Nat → Int32} {Reader_pattern : Nat} {Reader_place : Int32} : ∀ (n : Nat) {x1 : Int32} {x2 : Int32} {x3 : Int32} {x4 : Int32} {x5 : Int32} {x6 : Int32} {x7 : Int32} {Word_size : (Int32)} {Word_letters : (Nat → Int32)} {res : (Int32 × (Int32) × (Nat → Int32)) ⊕ (Int32 × Int32 × Int32 × Int32 × Int32 × Int32 × Int32 × (Int32) × (Nat → Int32))} (hf : s_L_holds_L18 State_cells n x1 x2 x3 x4 x5 x6 x7 Word_size Word_letters = some res) (hr : ∀ r, res = .inl r → out = (.inl (some (.int r.1))) ∧ σ' = [.inl (5, [.ref 1, .ref 3, .ref 6, .ref 8, .ref 9]), .inl (3, [.ref 2]), .inr (910, .inl State_cells), .inl (1, [.ref 4, .ref 5, .int History_oldest, .int History_size, .int History_snapshotTaken]), .inr (5460, .inl History_saved), .inr (910, .inl History_snapshot), .inl (0, [.ref 7, .int Buffer_size]), .inr (60, .inl Buffer_codes), .inl (2, [.ref (Reader_pattern + 1000), .int Reader_place]), .inl (4, [.ref 10, .int r.2.1]), .inr (8, .inl r.2.2)]) (hx : ∀ e, res = .inr e → V (fXm 11 k_L_holds out σ') (krm k_L_holds) k_L_holds 11 231 [some (.ref 0), some (.int e.1), some (.int e.2.1), some (.int e.2.2.1), some (.int e.2.2.2.1), some (.int e.2.2.2.2.1), some (.int e.2.2.2.2.2.1), some (.int e.2.2.2.2.2.2.1), none, none, none] [] [.inl (5, [.ref 1, .ref 3, .ref 6, .ref 8, .ref 9]), .inl (3, [.ref 2]), .inr (910, .inl State_cells), .inl (1, [.ref 4, .ref 5, .int History_oldest, .int History_size, .int History_snapshotTaken]), .inr (5460, .inl History_saved), .inr (910, .inl History_snapshot), .inl (0, [.ref 7, .int Buffer_size]), .inr (60, .inl Buffer_codes), .inl (2, [.ref (Reader_pattern + 1000), .int Reader_place]), .inl (4, [.ref 10, .int e.2.2.2.2.2.2.2.1]), .inr (8, .inl e.2.2.2.2.2.2.2.2)] 0 0), V (fXm 11 k_L_holds out σ') (krm k_L_holds) k_L_holds 11 18 [some (.ref 0), some (.int x1), some (.int x2), some (.int x3), some (.int x4), some (.int x5), some (.int x6), some (.int x7), none, none, none] [] [.inl (5, [.ref 1, .ref 3, .ref 6, .ref 8, .ref 9]), .inl (3, [.ref 2]), .inr (910, .inl State_cells), .inl (1, [.ref 4, .ref 5, .int History_oldest, .int History_size, .int History_snapshotTaken]), .inr (5460, .inl History_saved), .inr (910, .inl History_snapshot), .inl (0, [.ref 7, .int Buffer_size]), .inr (60, .inl Buffer_codes), .inl (2, [.ref (Reader_pattern + 1000), .int Reader_place]), .inl (4, [.ref 10, .int Word_size]), .inr (8, .inl Word_letters)] 0 0 := by
  intro n
  induction n with
  | zero =>
    intro x1 x2 x3 x4 x5 x6 x7 Word_size Word_letters res hf hr hx
    rw [s_L_holds_L18] at hf
    cases hf
  | succ n ih =>
    intro x1 x2 x3 x4 x5 x6 x7 Word_size Word_letters res hf hr hx
    rw [s_L_holds_L18] at hf
    refine V.iload (i := 7) dL_holds_18 rfl ?_
    refine V.iconst (v := 5) dL_holds_20 rfl ?_
    refine V.icmp_ge (tgt := 231) dL_holds_21 (by decide) (fun h => ?_) (fun h => ?_)
    · have hf := fif_t h hf
      obtain rfl := Option.some.inj hf
      exact hx _ rfl
    · have hf := fif_f h hf
      refine V.iconst (v := 0) dL_holds_24 rfl ?_
      refine V.istore (i := 8) (L' := [some (.ref 0), some (.int x1), some (.int x2), some (.int x3), some (.int x4), some (.int x5), some (.int x6), some (.int x7), some (.int 0), none, none]) dL_holds_25 (Nat.le_of_ble_eq_true rfl) rfl rfl ?_
      refine V.iconst (v := 0) dL_holds_27 rfl ?_
      refine V.istore (i := 9) (L' := [some (.ref 0), some (.int x1), some (.int x2), some (.int x3), some (.int x4), some (.int x5), some (.int x6), some (.int x7), some (.int 0), some (.int 0), none]) dL_holds_28 (Nat.le_of_ble_eq_true rfl) rfl rfl ?_
      obtain ⟨r12, hr12, hf⟩ := fbind hf
      rcases r12 with r9 | e13
      · obtain rfl := Option.some.inj (show some _ = some res from hf)
        obtain ⟨e1, e2⟩ := hr _ rfl
        subst e1; subst e2
        exact v_L_holds_L30 gF hr12 (fun _ h => by cases h; exact ⟨rfl, rfl⟩) (fun _ h => by cases h)
      · replace hf : _ = some res := hf
        dsimp only [fsum] at hf
        refine v_L_holds_L30 gF hr12 (fun _ h => by cases h) (fun _ h => ?_)
        cases h
        refine V.iload_n (i := 1) dL_holds_117 rfl rfl ?_
        refine V.aload_n (i := 0) dL_holds_118 rfl rfl ?_
        refine V.iload (i := 7) dL_holds_119 rfl ?_
        refine V.iconst (v := 1) dL_holds_121 rfl ?_
        obtain ⟨v14, hv14, hf⟩ := fbind hf
        have hc := ct_X10_fisher (a1 := x7) (a2 := 1) (State_cells := State_cells) (History_oldest := History_oldest) (History_size := History_size) (History_snapshotTaken := History_snapshotTaken) (History_saved := History_saved) (History_snapshot := History_snapshot) (Buffer_size := Buffer_size) (Buffer_codes := Buffer_codes) (Reader_pattern := Reader_pattern) (Reader_place := Reader_place) (Word_size := e13.2.2.2.2.1) (Word_letters := e13.2.2.2.2.2) hv14
        rcases hv14b : v14 with v15 | E9
        · rw [hv14b] at hc hf
          dsimp only [fth] at hf
          refine V.callVn (pl := [0, 1, 2, 3, 4, 5, 6, 7, 8, 9, 10]) (σ' := [.inl (5, [.ref 1, .ref 3, .ref 6, .ref 8, .ref 9]), .inl (3, [.ref 2]), .inr (910, .inl State_cells), .inl (1, [.ref 4, .ref 5, .int History_oldest, .int History_size, .int History_snapshotTaken]), .inr (5460, .inl History_saved), .inr (910, .inl History_snapshot), .inl (0, [.ref 7, .int Buffer_size]), .inr (60, .inl Buffer_codes), .inl (2, [.ref (Reader_pattern + 1000), .int Reader_place]), .inl (4, [.ref 10, .int e13.2.2.2.2.1]), .inr (8, .inl e13.2.2.2.2.2)]) (st2 := [.int v15, .int x1]) (cl2 := 0) (sl2 := 0) hc dL_holds_122 w174 ⟨w175, w176⟩ cal_X10_fisher rfl ⟨⟨Nat.le_of_ble_eq_true rfl, Nat.le_of_ble_eq_true rfl⟩, Nat.le_of_ble_eq_true rfl, Nat.le_of_ble_eq_true rfl⟩ (Nat.le_of_ble_eq_true rfl) ⟨_, _, _, _, rfl, rfl⟩ rfl ⟨rfl, ⟨by decide, by decide⟩, rfl, (fr_cons (Or.inl (Nat.le_of_ble_eq_true rfl)) (fr_cons (Or.inl (Nat.le_of_ble_eq_true rfl)) (fr_cons (Or.inl (Nat.le_of_ble_eq_true rfl)) (fr_cons (Or.inl (Nat.le_of_ble_eq_true rfl)) (fr_cons (Or.inl (Nat.le_of_ble_eq_true rfl)) (fr_cons (Or.inl (Nat.le_of_ble_eq_true rfl)) (fr_cons (Or.inl (Nat.le_of_ble_eq_true rfl)) (fr_cons (Or.inl (Nat.le_of_ble_eq_true rfl)) (fr_cons (Or.inl (Nat.le_of_ble_eq_true rfl)) (fr_cons (Or.inr (Nat.le_add_left 1000 _)) (fr_cons (Or.inl (Nat.le_of_ble_eq_true rfl)) (fr_nil)))))))))))), rfl⟩ fr_i rfl rfl rfl rfl ?_
          refine V.iadd dL_holds_125 ?_
          refine V.istore_n (i := 1) (L' := [some (.ref 0), some (.int (x1 + v15)), some (.int x2), some (.int x3), some (.int x4), some (.int e13.1), some (.int e13.2.1), some (.int x7), some (.int e13.2.2.1), some (.int e13.2.2.2.1), none]) dL_holds_126 rfl (Nat.le_of_ble_eq_true rfl) rfl rfl ?_
          refine V.iload_n (i := 2) dL_holds_127 rfl rfl ?_
          refine V.iload (i := 8) dL_holds_128 rfl ?_
          refine V.iadd dL_holds_130 ?_
          refine V.istore_n (i := 2) (L' := [some (.ref 0), some (.int (x1 + v15)), some (.int (x2 + e13.2.2.1)), some (.int x3), some (.int x4), some (.int e13.1), some (.int e13.2.1), some (.int x7), some (.int e13.2.2.1), some (.int e13.2.2.2.1), none]) dL_holds_131 rfl (Nat.le_of_ble_eq_true rfl) rfl rfl ?_
          refine V.iload_n (i := 3) dL_holds_132 rfl rfl ?_
          refine V.aload_n (i := 0) dL_holds_133 rfl rfl ?_
          refine V.iload (i := 7) dL_holds_134 rfl ?_
          refine V.iconst (v := 3) dL_holds_136 rfl ?_
          obtain ⟨v16, hv16, hf⟩ := fbind hf
          have hc := ct_X10_fisher (a1 := x7) (a2 := 3) (State_cells := State_cells) (History_oldest := History_oldest) (History_size := History_size) (History_snapshotTaken := History_snapshotTaken) (History_saved := History_saved) (History_snapshot := History_snapshot) (Buffer_size := Buffer_size) (Buffer_codes := Buffer_codes) (Reader_pattern := Reader_pattern) (Reader_place := Reader_place) (Word_size := e13.2.2.2.2.1) (Word_letters := e13.2.2.2.2.2) hv16
          rcases hv16b : v16 with v17 | E9
          · rw [hv16b] at hc hf
            dsimp only [fth] at hf
            refine V.callVn (pl := [0, 1, 2, 3, 4, 5, 6, 7, 8, 9, 10]) (σ' := [.inl (5, [.ref 1, .ref 3, .ref 6, .ref 8, .ref 9]), .inl (3, [.ref 2]), .inr (910, .inl State_cells), .inl (1, [.ref 4, .ref 5, .int History_oldest, .int History_size, .int History_snapshotTaken]), .inr (5460, .inl History_saved), .inr (910, .inl History_snapshot), .inl (0, [.ref 7, .int Buffer_size]), .inr (60, .inl Buffer_codes), .inl (2, [.ref (Reader_pattern + 1000), .int Reader_place]), .inl (4, [.ref 10, .int e13.2.2.2.2.1]), .inr (8, .inl e13.2.2.2.2.2)]) (st2 := [.int v17, .int x3]) (cl2 := 0) (sl2 := 0) hc dL_holds_137 w174 ⟨w175, w176⟩ cal_X10_fisher rfl ⟨⟨Nat.le_of_ble_eq_true rfl, Nat.le_of_ble_eq_true rfl⟩, Nat.le_of_ble_eq_true rfl, Nat.le_of_ble_eq_true rfl⟩ (Nat.le_of_ble_eq_true rfl) ⟨_, _, _, _, rfl, rfl⟩ rfl ⟨rfl, ⟨by decide, by decide⟩, rfl, (fr_cons (Or.inl (Nat.le_of_ble_eq_true rfl)) (fr_cons (Or.inl (Nat.le_of_ble_eq_true rfl)) (fr_cons (Or.inl (Nat.le_of_ble_eq_true rfl)) (fr_cons (Or.inl (Nat.le_of_ble_eq_true rfl)) (fr_cons (Or.inl (Nat.le_of_ble_eq_true rfl)) (fr_cons (Or.inl (Nat.le_of_ble_eq_true rfl)) (fr_cons (Or.inl (Nat.le_of_ble_eq_true rfl)) (fr_cons (Or.inl (Nat.le_of_ble_eq_true rfl)) (fr_cons (Or.inl (Nat.le_of_ble_eq_true rfl)) (fr_cons (Or.inr (Nat.le_add_left 1000 _)) (fr_cons (Or.inl (Nat.le_of_ble_eq_true rfl)) (fr_nil)))))))))))), rfl⟩ fr_i rfl rfl rfl rfl ?_
            refine V.iadd dL_holds_140 ?_
            refine V.istore_n (i := 3) (L' := [some (.ref 0), some (.int (x1 + v15)), some (.int (x2 + e13.2.2.1)), some (.int (x3 + v17)), some (.int x4), some (.int e13.1), some (.int e13.2.1), some (.int x7), some (.int e13.2.2.1), some (.int e13.2.2.2.1), none]) dL_holds_141 rfl (Nat.le_of_ble_eq_true rfl) rfl rfl ?_
            refine V.iload (i := 4) dL_holds_142 rfl ?_
            refine V.aload_n (i := 0) dL_holds_144 rfl rfl ?_
            refine V.iload (i := 7) dL_holds_145 rfl ?_
            refine V.iconst (v := 4) dL_holds_147 rfl ?_
            obtain ⟨v18, hv18, hf⟩ := fbind hf
            have hc := ct_X10_fisher (a1 := x7) (a2 := 4) (State_cells := State_cells) (History_oldest := History_oldest) (History_size := History_size) (History_snapshotTaken := History_snapshotTaken) (History_saved := History_saved) (History_snapshot := History_snapshot) (Buffer_size := Buffer_size) (Buffer_codes := Buffer_codes) (Reader_pattern := Reader_pattern) (Reader_place := Reader_place) (Word_size := e13.2.2.2.2.1) (Word_letters := e13.2.2.2.2.2) hv18
            rcases hv18b : v18 with v19 | E9
            · rw [hv18b] at hc hf
              dsimp only [fth] at hf
              refine V.callVn (pl := [0, 1, 2, 3, 4, 5, 6, 7, 8, 9, 10]) (σ' := [.inl (5, [.ref 1, .ref 3, .ref 6, .ref 8, .ref 9]), .inl (3, [.ref 2]), .inr (910, .inl State_cells), .inl (1, [.ref 4, .ref 5, .int History_oldest, .int History_size, .int History_snapshotTaken]), .inr (5460, .inl History_saved), .inr (910, .inl History_snapshot), .inl (0, [.ref 7, .int Buffer_size]), .inr (60, .inl Buffer_codes), .inl (2, [.ref (Reader_pattern + 1000), .int Reader_place]), .inl (4, [.ref 10, .int e13.2.2.2.2.1]), .inr (8, .inl e13.2.2.2.2.2)]) (st2 := [.int v19, .int x4]) (cl2 := 0) (sl2 := 0) hc dL_holds_148 w174 ⟨w175, w176⟩ cal_X10_fisher rfl ⟨⟨Nat.le_of_ble_eq_true rfl, Nat.le_of_ble_eq_true rfl⟩, Nat.le_of_ble_eq_true rfl, Nat.le_of_ble_eq_true rfl⟩ (Nat.le_of_ble_eq_true rfl) ⟨_, _, _, _, rfl, rfl⟩ rfl ⟨rfl, ⟨by decide, by decide⟩, rfl, (fr_cons (Or.inl (Nat.le_of_ble_eq_true rfl)) (fr_cons (Or.inl (Nat.le_of_ble_eq_true rfl)) (fr_cons (Or.inl (Nat.le_of_ble_eq_true rfl)) (fr_cons (Or.inl (Nat.le_of_ble_eq_true rfl)) (fr_cons (Or.inl (Nat.le_of_ble_eq_true rfl)) (fr_cons (Or.inl (Nat.le_of_ble_eq_true rfl)) (fr_cons (Or.inl (Nat.le_of_ble_eq_true rfl)) (fr_cons (Or.inl (Nat.le_of_ble_eq_true rfl)) (fr_cons (Or.inl (Nat.le_of_ble_eq_true rfl)) (fr_cons (Or.inr (Nat.le_add_left 1000 _)) (fr_cons (Or.inl (Nat.le_of_ble_eq_true rfl)) (fr_nil)))))))))))), rfl⟩ fr_i rfl rfl rfl rfl ?_
              refine V.iadd dL_holds_151 ?_
              refine V.istore (i := 4) (L' := [some (.ref 0), some (.int (x1 + v15)), some (.int (x2 + e13.2.2.1)), some (.int (x3 + v17)), some (.int (x4 + v19)), some (.int e13.1), some (.int e13.2.1), some (.int x7), some (.int e13.2.2.1), some (.int e13.2.2.2.1), none]) dL_holds_152 (Nat.le_of_ble_eq_true rfl) rfl rfl ?_
              refine V.aload_n (i := 0) dL_holds_154 rfl rfl ?_
              refine V.iload (i := 7) dL_holds_155 rfl ?_
              refine V.iconst (v := 1) dL_holds_157 rfl ?_
              obtain ⟨v20, hv20, hf⟩ := fbind hf
              have hc := ct_X10_fisher (a1 := x7) (a2 := 1) (State_cells := State_cells) (History_oldest := History_oldest) (History_size := History_size) (History_snapshotTaken := History_snapshotTaken) (History_saved := History_saved) (History_snapshot := History_snapshot) (Buffer_size := Buffer_size) (Buffer_codes := Buffer_codes) (Reader_pattern := Reader_pattern) (Reader_place := Reader_place) (Word_size := e13.2.2.2.2.1) (Word_letters := e13.2.2.2.2.2) hv20
              rcases hv20b : v20 with v21 | E9
              · rw [hv20b] at hc hf
                dsimp only [fth] at hf
                refine V.callVn (pl := [0, 1, 2, 3, 4, 5, 6, 7, 8, 9, 10]) (σ' := [.inl (5, [.ref 1, .ref 3, .ref 6, .ref 8, .ref 9]), .inl (3, [.ref 2]), .inr (910, .inl State_cells), .inl (1, [.ref 4, .ref 5, .int History_oldest, .int History_size, .int History_snapshotTaken]), .inr (5460, .inl History_saved), .inr (910, .inl History_snapshot), .inl (0, [.ref 7, .int Buffer_size]), .inr (60, .inl Buffer_codes), .inl (2, [.ref (Reader_pattern + 1000), .int Reader_place]), .inl (4, [.ref 10, .int e13.2.2.2.2.1]), .inr (8, .inl e13.2.2.2.2.2)]) (st2 := [.int v21]) (cl2 := 0) (sl2 := 0) hc dL_holds_158 w174 ⟨w175, w176⟩ cal_X10_fisher rfl ⟨⟨Nat.le_of_ble_eq_true rfl, Nat.le_of_ble_eq_true rfl⟩, Nat.le_of_ble_eq_true rfl, Nat.le_of_ble_eq_true rfl⟩ (Nat.le_of_ble_eq_true rfl) ⟨_, _, _, _, rfl, rfl⟩ rfl ⟨rfl, ⟨by decide, by decide⟩, rfl, (fr_cons (Or.inl (Nat.le_of_ble_eq_true rfl)) (fr_cons (Or.inl (Nat.le_of_ble_eq_true rfl)) (fr_cons (Or.inl (Nat.le_of_ble_eq_true rfl)) (fr_cons (Or.inl (Nat.le_of_ble_eq_true rfl)) (fr_cons (Or.inl (Nat.le_of_ble_eq_true rfl)) (fr_cons (Or.inl (Nat.le_of_ble_eq_true rfl)) (fr_cons (Or.inl (Nat.le_of_ble_eq_true rfl)) (fr_cons (Or.inl (Nat.le_of_ble_eq_true rfl)) (fr_cons (Or.inl (Nat.le_of_ble_eq_true rfl)) (fr_cons (Or.inr (Nat.le_add_left 1000 _)) (fr_cons (Or.inl (Nat.le_of_ble_eq_true rfl)) (fr_nil)))))))))))), rfl⟩ fr_i rfl rfl rfl rfl ?_
                refine V.bipush (v := 6) dL_holds_161 rfl ?_
                refine V.icmp_gt (tgt := 223) dL_holds_163 (by decide) (fun h => ?_) (fun h => ?_)
                · have hf := fif_t h hf
                  refine V.iconst (v := 0) dL_holds_223 rfl ?_
                  obtain rfl := Option.some.inj hf
                  obtain ⟨e1, e2⟩ := hr _ rfl
                  subst e1; subst e2
                  exact V.zret (v := 0) dL_holds_224 rfl (by decide +kernel) (Nat.le_of_ble_eq_true rfl) (Nat.le_of_ble_eq_true rfl) rfl
                · have hf := fif_f h hf
                  refine V.aload_n (i := 0) dL_holds_166 rfl rfl ?_
                  refine V.iload (i := 7) dL_holds_167 rfl ?_
                  refine V.iconst (v := 2) dL_holds_169 rfl ?_
                  obtain ⟨v22, hv22, hf⟩ := fbind hf
                  have hc := ct_X10_fisher (a1 := x7) (a2 := 2) (State_cells := State_cells) (History_oldest := History_oldest) (History_size := History_size) (History_snapshotTaken := History_snapshotTaken) (History_saved := History_saved) (History_snapshot := History_snapshot) (Buffer_size := Buffer_size) (Buffer_codes := Buffer_codes) (Reader_pattern := Reader_pattern) (Reader_place := Reader_place) (Word_size := e13.2.2.2.2.1) (Word_letters := e13.2.2.2.2.2) hv22
                  rcases hv22b : v22 with v23 | E9
                  · rw [hv22b] at hc hf
                    dsimp only [fth] at hf
                    refine V.callVn (pl := [0, 1, 2, 3, 4, 5, 6, 7, 8, 9, 10]) (σ' := [.inl (5, [.ref 1, .ref 3, .ref 6, .ref 8, .ref 9]), .inl (3, [.ref 2]), .inr (910, .inl State_cells), .inl (1, [.ref 4, .ref 5, .int History_oldest, .int History_size, .int History_snapshotTaken]), .inr (5460, .inl History_saved), .inr (910, .inl History_snapshot), .inl (0, [.ref 7, .int Buffer_size]), .inr (60, .inl Buffer_codes), .inl (2, [.ref (Reader_pattern + 1000), .int Reader_place]), .inl (4, [.ref 10, .int e13.2.2.2.2.1]), .inr (8, .inl e13.2.2.2.2.2)]) (st2 := [.int v23]) (cl2 := 0) (sl2 := 0) hc dL_holds_170 w174 ⟨w175, w176⟩ cal_X10_fisher rfl ⟨⟨Nat.le_of_ble_eq_true rfl, Nat.le_of_ble_eq_true rfl⟩, Nat.le_of_ble_eq_true rfl, Nat.le_of_ble_eq_true rfl⟩ (Nat.le_of_ble_eq_true rfl) ⟨_, _, _, _, rfl, rfl⟩ rfl ⟨rfl, ⟨by decide, by decide⟩, rfl, (fr_cons (Or.inl (Nat.le_of_ble_eq_true rfl)) (fr_cons (Or.inl (Nat.le_of_ble_eq_true rfl)) (fr_cons (Or.inl (Nat.le_of_ble_eq_true rfl)) (fr_cons (Or.inl (Nat.le_of_ble_eq_true rfl)) (fr_cons (Or.inl (Nat.le_of_ble_eq_true rfl)) (fr_cons (Or.inl (Nat.le_of_ble_eq_true rfl)) (fr_cons (Or.inl (Nat.le_of_ble_eq_true rfl)) (fr_cons (Or.inl (Nat.le_of_ble_eq_true rfl)) (fr_cons (Or.inl (Nat.le_of_ble_eq_true rfl)) (fr_cons (Or.inr (Nat.le_add_left 1000 _)) (fr_cons (Or.inl (Nat.le_of_ble_eq_true rfl)) (fr_nil)))))))))))), rfl⟩ fr_i rfl rfl rfl rfl ?_
                    refine V.aload_n (i := 0) dL_holds_173 rfl rfl ?_
                    refine V.iload (i := 7) dL_holds_174 rfl ?_
                    refine V.iconst (v := 0) dL_holds_176 rfl ?_
                    obtain ⟨v24, hv24, hf⟩ := fbind hf
                    have hc := ct_X10_fisher (a1 := x7) (a2 := 0) (State_cells := State_cells) (History_oldest := History_oldest) (History_size := History_size) (History_snapshotTaken := History_snapshotTaken) (History_saved := History_saved) (History_snapshot := History_snapshot) (Buffer_size := Buffer_size) (Buffer_codes := Buffer_codes) (Reader_pattern := Reader_pattern) (Reader_place := Reader_place) (Word_size := e13.2.2.2.2.1) (Word_letters := e13.2.2.2.2.2) hv24
                    rcases hv24b : v24 with v25 | E9
                    · rw [hv24b] at hc hf
                      dsimp only [fth] at hf
                      refine V.callVn (pl := [0, 1, 2, 3, 4, 5, 6, 7, 8, 9, 10]) (σ' := [.inl (5, [.ref 1, .ref 3, .ref 6, .ref 8, .ref 9]), .inl (3, [.ref 2]), .inr (910, .inl State_cells), .inl (1, [.ref 4, .ref 5, .int History_oldest, .int History_size, .int History_snapshotTaken]), .inr (5460, .inl History_saved), .inr (910, .inl History_snapshot), .inl (0, [.ref 7, .int Buffer_size]), .inr (60, .inl Buffer_codes), .inl (2, [.ref (Reader_pattern + 1000), .int Reader_place]), .inl (4, [.ref 10, .int e13.2.2.2.2.1]), .inr (8, .inl e13.2.2.2.2.2)]) (st2 := [.int v25, .int v23]) (cl2 := 0) (sl2 := 0) hc dL_holds_177 w174 ⟨w175, w176⟩ cal_X10_fisher rfl ⟨⟨Nat.le_of_ble_eq_true rfl, Nat.le_of_ble_eq_true rfl⟩, Nat.le_of_ble_eq_true rfl, Nat.le_of_ble_eq_true rfl⟩ (Nat.le_of_ble_eq_true rfl) ⟨_, _, _, _, rfl, rfl⟩ rfl ⟨rfl, ⟨by decide, by decide⟩, rfl, (fr_cons (Or.inl (Nat.le_of_ble_eq_true rfl)) (fr_cons (Or.inl (Nat.le_of_ble_eq_true rfl)) (fr_cons (Or.inl (Nat.le_of_ble_eq_true rfl)) (fr_cons (Or.inl (Nat.le_of_ble_eq_true rfl)) (fr_cons (Or.inl (Nat.le_of_ble_eq_true rfl)) (fr_cons (Or.inl (Nat.le_of_ble_eq_true rfl)) (fr_cons (Or.inl (Nat.le_of_ble_eq_true rfl)) (fr_cons (Or.inl (Nat.le_of_ble_eq_true rfl)) (fr_cons (Or.inl (Nat.le_of_ble_eq_true rfl)) (fr_cons (Or.inr (Nat.le_add_left 1000 _)) (fr_cons (Or.inl (Nat.le_of_ble_eq_true rfl)) (fr_nil)))))))))))), rfl⟩ fr_i rfl rfl rfl rfl ?_
                      refine V.iload (i := 8) dL_holds_180 rfl ?_
                      refine V.isub dL_holds_182 ?_
                      refine V.icmp_ne (tgt := 223) dL_holds_183 (by decide) (fun h => ?_) (fun h => ?_)
                      · have hf := fif_f h hf
                        refine V.iconst (v := 0) dL_holds_223 rfl ?_
                        obtain rfl := Option.some.inj hf
                        obtain ⟨e1, e2⟩ := hr _ rfl
                        subst e1; subst e2
                        exact V.zret (v := 0) dL_holds_224 rfl (by decide +kernel) (Nat.le_of_ble_eq_true rfl) (Nat.le_of_ble_eq_true rfl) rfl
                      · have hf := fif_t h hf
                        refine V.aload_n (i := 0) dL_holds_186 rfl rfl ?_
                        refine V.iload (i := 7) dL_holds_187 rfl ?_
                        refine V.iconst (v := 2) dL_holds_189 rfl ?_
                        obtain ⟨v26, hv26, hf⟩ := fbind hf
                        have hc := ct_X10_fisher (a1 := x7) (a2 := 2) (State_cells := State_cells) (History_oldest := History_oldest) (History_size := History_size) (History_snapshotTaken := History_snapshotTaken) (History_saved := History_saved) (History_snapshot := History_snapshot) (Buffer_size := Buffer_size) (Buffer_codes := Buffer_codes) (Reader_pattern := Reader_pattern) (Reader_place := Reader_place) (Word_size := e13.2.2.2.2.1) (Word_letters := e13.2.2.2.2.2) hv26
                        rcases hv26b : v26 with v27 | E9
                        · rw [hv26b] at hc hf
                          dsimp only [fth] at hf
                          refine V.callVn (pl := [0, 1, 2, 3, 4, 5, 6, 7, 8, 9, 10]) (σ' := [.inl (5, [.ref 1, .ref 3, .ref 6, .ref 8, .ref 9]), .inl (3, [.ref 2]), .inr (910, .inl State_cells), .inl (1, [.ref 4, .ref 5, .int History_oldest, .int History_size, .int History_snapshotTaken]), .inr (5460, .inl History_saved), .inr (910, .inl History_snapshot), .inl (0, [.ref 7, .int Buffer_size]), .inr (60, .inl Buffer_codes), .inl (2, [.ref (Reader_pattern + 1000), .int Reader_place]), .inl (4, [.ref 10, .int e13.2.2.2.2.1]), .inr (8, .inl e13.2.2.2.2.2)]) (st2 := [.int v27]) (cl2 := 0) (sl2 := 0) hc dL_holds_190 w174 ⟨w175, w176⟩ cal_X10_fisher rfl ⟨⟨Nat.le_of_ble_eq_true rfl, Nat.le_of_ble_eq_true rfl⟩, Nat.le_of_ble_eq_true rfl, Nat.le_of_ble_eq_true rfl⟩ (Nat.le_of_ble_eq_true rfl) ⟨_, _, _, _, rfl, rfl⟩ rfl ⟨rfl, ⟨by decide, by decide⟩, rfl, (fr_cons (Or.inl (Nat.le_of_ble_eq_true rfl)) (fr_cons (Or.inl (Nat.le_of_ble_eq_true rfl)) (fr_cons (Or.inl (Nat.le_of_ble_eq_true rfl)) (fr_cons (Or.inl (Nat.le_of_ble_eq_true rfl)) (fr_cons (Or.inl (Nat.le_of_ble_eq_true rfl)) (fr_cons (Or.inl (Nat.le_of_ble_eq_true rfl)) (fr_cons (Or.inl (Nat.le_of_ble_eq_true rfl)) (fr_cons (Or.inl (Nat.le_of_ble_eq_true rfl)) (fr_cons (Or.inl (Nat.le_of_ble_eq_true rfl)) (fr_cons (Or.inr (Nat.le_add_left 1000 _)) (fr_cons (Or.inl (Nat.le_of_ble_eq_true rfl)) (fr_nil)))))))))))), rfl⟩ fr_i rfl rfl rfl rfl ?_
                          refine V.if_lt (tgt := 223) dL_holds_193 (by decide) (fun h => ?_) (fun h => ?_)
                          · have hf := fif_t h hf
                            refine V.iconst (v := 0) dL_holds_223 rfl ?_
                            obtain rfl := Option.some.inj hf
                            obtain ⟨e1, e2⟩ := hr _ rfl
                            subst e1; subst e2
                            exact V.zret (v := 0) dL_holds_224 rfl (by decide +kernel) (Nat.le_of_ble_eq_true rfl) (Nat.le_of_ble_eq_true rfl) rfl
                          · have hf := fif_f h hf
                            refine V.aload_n (i := 0) dL_holds_196 rfl rfl ?_
                            refine V.iload (i := 7) dL_holds_197 rfl ?_
                            refine V.iconst (v := 0) dL_holds_199 rfl ?_
                            obtain ⟨v28, hv28, hf⟩ := fbind hf
                            have hc := ct_X10_ifStorm (a1 := x7) (a2 := 0) (State_cells := State_cells) (History_oldest := History_oldest) (History_size := History_size) (History_snapshotTaken := History_snapshotTaken) (History_saved := History_saved) (History_snapshot := History_snapshot) (Buffer_size := Buffer_size) (Buffer_codes := Buffer_codes) (Reader_pattern := Reader_pattern) (Reader_place := Reader_place) (Word_size := e13.2.2.2.2.1) (Word_letters := e13.2.2.2.2.2) hv28
                            rcases hv28b : v28 with v29 | E9
                            · rw [hv28b] at hc hf
                              dsimp only [fth] at hf
                              refine V.callVn (pl := [0, 1, 2, 3, 4, 5, 6, 7, 8, 9, 10]) (σ' := [.inl (5, [.ref 1, .ref 3, .ref 6, .ref 8, .ref 9]), .inl (3, [.ref 2]), .inr (910, .inl State_cells), .inl (1, [.ref 4, .ref 5, .int History_oldest, .int History_size, .int History_snapshotTaken]), .inr (5460, .inl History_saved), .inr (910, .inl History_snapshot), .inl (0, [.ref 7, .int Buffer_size]), .inr (60, .inl Buffer_codes), .inl (2, [.ref (Reader_pattern + 1000), .int Reader_place]), .inl (4, [.ref 10, .int e13.2.2.2.2.1]), .inr (8, .inl e13.2.2.2.2.2)]) (st2 := [.int v29]) (cl2 := 0) (sl2 := 0) hc dL_holds_200 w392 ⟨w393, w394⟩ cal_X10_ifStorm rfl ⟨⟨Nat.le_of_ble_eq_true rfl, Nat.le_of_ble_eq_true rfl⟩, Nat.le_of_ble_eq_true rfl, Nat.le_of_ble_eq_true rfl⟩ (Nat.le_of_ble_eq_true rfl) ⟨_, _, _, _, rfl, rfl⟩ rfl ⟨rfl, ⟨by decide, by decide⟩, rfl, (fr_cons (Or.inl (Nat.le_of_ble_eq_true rfl)) (fr_cons (Or.inl (Nat.le_of_ble_eq_true rfl)) (fr_cons (Or.inl (Nat.le_of_ble_eq_true rfl)) (fr_cons (Or.inl (Nat.le_of_ble_eq_true rfl)) (fr_cons (Or.inl (Nat.le_of_ble_eq_true rfl)) (fr_cons (Or.inl (Nat.le_of_ble_eq_true rfl)) (fr_cons (Or.inl (Nat.le_of_ble_eq_true rfl)) (fr_cons (Or.inl (Nat.le_of_ble_eq_true rfl)) (fr_cons (Or.inl (Nat.le_of_ble_eq_true rfl)) (fr_cons (Or.inr (Nat.le_add_left 1000 _)) (fr_cons (Or.inl (Nat.le_of_ble_eq_true rfl)) (fr_nil)))))))))))), rfl⟩ fr_i rfl rfl rfl rfl ?_
                              refine V.aload_n (i := 0) dL_holds_203 rfl rfl ?_
                              refine V.iload (i := 7) dL_holds_204 rfl ?_
                              refine V.iconst (v := 1) dL_holds_206 rfl ?_
                              obtain ⟨v30, hv30, hf⟩ := fbind hf
                              have hc := ct_X10_fisher (a1 := x7) (a2 := 1) (State_cells := State_cells) (History_oldest := History_oldest) (History_size := History_size) (History_snapshotTaken := History_snapshotTaken) (History_saved := History_saved) (History_snapshot := History_snapshot) (Buffer_size := Buffer_size) (Buffer_codes := Buffer_codes) (Reader_pattern := Reader_pattern) (Reader_place := Reader_place) (Word_size := e13.2.2.2.2.1) (Word_letters := e13.2.2.2.2.2) hv30
                              rcases hv30b : v30 with v31 | E9
                              · rw [hv30b] at hc hf
                                dsimp only [fth] at hf
                                refine V.callVn (pl := [0, 1, 2, 3, 4, 5, 6, 7, 8, 9, 10]) (σ' := [.inl (5, [.ref 1, .ref 3, .ref 6, .ref 8, .ref 9]), .inl (3, [.ref 2]), .inr (910, .inl State_cells), .inl (1, [.ref 4, .ref 5, .int History_oldest, .int History_size, .int History_snapshotTaken]), .inr (5460, .inl History_saved), .inr (910, .inl History_snapshot), .inl (0, [.ref 7, .int Buffer_size]), .inr (60, .inl Buffer_codes), .inl (2, [.ref (Reader_pattern + 1000), .int Reader_place]), .inl (4, [.ref 10, .int e13.2.2.2.2.1]), .inr (8, .inl e13.2.2.2.2.2)]) (st2 := [.int v31, .int v29]) (cl2 := 0) (sl2 := 0) hc dL_holds_207 w174 ⟨w175, w176⟩ cal_X10_fisher rfl ⟨⟨Nat.le_of_ble_eq_true rfl, Nat.le_of_ble_eq_true rfl⟩, Nat.le_of_ble_eq_true rfl, Nat.le_of_ble_eq_true rfl⟩ (Nat.le_of_ble_eq_true rfl) ⟨_, _, _, _, rfl, rfl⟩ rfl ⟨rfl, ⟨by decide, by decide⟩, rfl, (fr_cons (Or.inl (Nat.le_of_ble_eq_true rfl)) (fr_cons (Or.inl (Nat.le_of_ble_eq_true rfl)) (fr_cons (Or.inl (Nat.le_of_ble_eq_true rfl)) (fr_cons (Or.inl (Nat.le_of_ble_eq_true rfl)) (fr_cons (Or.inl (Nat.le_of_ble_eq_true rfl)) (fr_cons (Or.inl (Nat.le_of_ble_eq_true rfl)) (fr_cons (Or.inl (Nat.le_of_ble_eq_true rfl)) (fr_cons (Or.inl (Nat.le_of_ble_eq_true rfl)) (fr_cons (Or.inl (Nat.le_of_ble_eq_true rfl)) (fr_cons (Or.inr (Nat.le_add_left 1000 _)) (fr_cons (Or.inl (Nat.le_of_ble_eq_true rfl)) (fr_nil)))))))))))), rfl⟩ fr_i rfl rfl rfl rfl ?_
                                refine V.icmp_gt (tgt := 223) dL_holds_210 (by decide) (fun h => ?_) (fun h => ?_)
                                · have hf := fif_t h hf
                                  refine V.iconst (v := 0) dL_holds_223 rfl ?_
                                  obtain rfl := Option.some.inj hf
                                  obtain ⟨e1, e2⟩ := hr _ rfl
                                  subst e1; subst e2
                                  exact V.zret (v := 0) dL_holds_224 rfl (by decide +kernel) (Nat.le_of_ble_eq_true rfl) (Nat.le_of_ble_eq_true rfl) rfl
                                · have hf := fif_f h hf
                                  refine V.aload_n (i := 0) dL_holds_213 rfl rfl ?_
                                  refine V.iload (i := 7) dL_holds_214 rfl ?_
                                  refine V.iconst (v := 1) dL_holds_216 rfl ?_
                                  obtain ⟨v32, hv32, hf⟩ := fbind hf
                                  have hc := ct_X10_ifStorm (a1 := x7) (a2 := 1) (State_cells := State_cells) (History_oldest := History_oldest) (History_size := History_size) (History_snapshotTaken := History_snapshotTaken) (History_saved := History_saved) (History_snapshot := History_snapshot) (Buffer_size := Buffer_size) (Buffer_codes := Buffer_codes) (Reader_pattern := Reader_pattern) (Reader_place := Reader_place) (Word_size := e13.2.2.2.2.1) (Word_letters := e13.2.2.2.2.2) hv32
                                  rcases hv32b : v32 with v33 | E9
                                  · rw [hv32b] at hc hf
                                    dsimp only [fth] at hf
                                    refine V.callVn (pl := [0, 1, 2, 3, 4, 5, 6, 7, 8, 9, 10]) (σ' := [.inl (5, [.ref 1, .ref 3, .ref 6, .ref 8, .ref 9]), .inl (3, [.ref 2]), .inr (910, .inl State_cells), .inl (1, [.ref 4, .ref 5, .int History_oldest, .int History_size, .int History_snapshotTaken]), .inr (5460, .inl History_saved), .inr (910, .inl History_snapshot), .inl (0, [.ref 7, .int Buffer_size]), .inr (60, .inl Buffer_codes), .inl (2, [.ref (Reader_pattern + 1000), .int Reader_place]), .inl (4, [.ref 10, .int e13.2.2.2.2.1]), .inr (8, .inl e13.2.2.2.2.2)]) (st2 := [.int v33]) (cl2 := 0) (sl2 := 0) hc dL_holds_217 w392 ⟨w393, w394⟩ cal_X10_ifStorm rfl ⟨⟨Nat.le_of_ble_eq_true rfl, Nat.le_of_ble_eq_true rfl⟩, Nat.le_of_ble_eq_true rfl, Nat.le_of_ble_eq_true rfl⟩ (Nat.le_of_ble_eq_true rfl) ⟨_, _, _, _, rfl, rfl⟩ rfl ⟨rfl, ⟨by decide, by decide⟩, rfl, (fr_cons (Or.inl (Nat.le_of_ble_eq_true rfl)) (fr_cons (Or.inl (Nat.le_of_ble_eq_true rfl)) (fr_cons (Or.inl (Nat.le_of_ble_eq_true rfl)) (fr_cons (Or.inl (Nat.le_of_ble_eq_true rfl)) (fr_cons (Or.inl (Nat.le_of_ble_eq_true rfl)) (fr_cons (Or.inl (Nat.le_of_ble_eq_true rfl)) (fr_cons (Or.inl (Nat.le_of_ble_eq_true rfl)) (fr_cons (Or.inl (Nat.le_of_ble_eq_true rfl)) (fr_cons (Or.inl (Nat.le_of_ble_eq_true rfl)) (fr_cons (Or.inr (Nat.le_add_left 1000 _)) (fr_cons (Or.inl (Nat.le_of_ble_eq_true rfl)) (fr_nil)))))))))))), rfl⟩ fr_i rfl rfl rfl rfl ?_
                                    refine V.if_ge (tgt := 225) dL_holds_220 (by decide) (fun h => ?_) (fun h => ?_)
                                    · have hf := fif_t h hf
                                      refine V.iinc (i := 7) (v := (x7 + 1)) (L' := [some (.ref 0), some (.int (x1 + v15)), some (.int (x2 + e13.2.2.1)), some (.int (x3 + v17)), some (.int (x4 + v19)), some (.int e13.1), some (.int e13.2.1), some (.int (x7 + 1)), some (.int e13.2.2.1), some (.int e13.2.2.2.1), none]) dL_holds_225 rfl rfl (Nat.le_of_ble_eq_true rfl) rfl rfl ?_
                                      refine V.goto (tgt := 18) dL_holds_228 (by decide) ?_
                                      exact V.locs (L' := [some (.ref 0), some (.int (x1 + v15)), some (.int (x2 + e13.2.2.1)), some (.int (x3 + v17)), some (.int (x4 + v19)), some (.int e13.1), some (.int e13.2.1), some (.int (x7 + 1)), none, none, none]) ⟨rfl, ⟨rfl, ⟨rfl, ⟨rfl, ⟨rfl, ⟨rfl, ⟨rfl, ⟨rfl, trivial⟩⟩⟩⟩⟩⟩⟩⟩ (ih hf hr hx)
                                    · have hf := fif_f h hf
                                      refine V.iconst (v := 0) dL_holds_223 rfl ?_
                                      obtain rfl := Option.some.inj hf
                                      obtain ⟨e1, e2⟩ := hr _ rfl
                                      subst e1; subst e2
                                      exact V.zret (v := 0) dL_holds_224 rfl (by decide +kernel) (Nat.le_of_ble_eq_true rfl) (Nat.le_of_ble_eq_true rfl) rfl
                                  · rw [hv32b] at hc hf
                                    dsimp only [fth] at hf
                                    cases hf
                              · rw [hv30b] at hc hf
                                dsimp only [fth] at hf
                                cases hf
                            · rw [hv28b] at hc hf
                              dsimp only [fth] at hf
                              cases hf
                        · rw [hv26b] at hc hf
                          dsimp only [fth] at hf
                          cases hf
                    · rw [hv24b] at hc hf
                      dsimp only [fth] at hf
                      cases hf
                  · rw [hv22b] at hc hf
                    dsimp only [fth] at hf
                    cases hf
              · rw [hv20b] at hc hf
                dsimp only [fth] at hf
                cases hf
            · rw [hv18b] at hc hf
              dsimp only [fth] at hf
              cases hf
          · rw [hv16b] at hc hf
            dsimp only [fth] at hf
            cases hf
        · rw [hv14b] at hc hf
          dsimp only [fth] at hf
          cases hf
def s_L_holds_L237 (State_cells : Nat → Int32) (Word_size : Int32) (Word_letters : Nat → Int32) : Nat → Int32 → Int32 → Option ((Int32 × (Int32) × (Nat → Int32)) ⊕ (Int32 × Int32))
  | 0, _, _ => none
  | n + 1, x7, x8 => if (16 ≤ x8 : Prop) then (some (.inr (x7, x8))) else ((s_X10_letter x8 4 State_cells).bind fun v36 => fth v36 (fun v37 => (s_X10_letter x8 2 State_cells).bind fun v38 => fth v38 (fun v39 => (s_X10_letter x8 0 State_cells).bind fun v40 => fth v40 (fun v41 => (s_X10_letter x8 1 State_cells).bind fun v42 => fth v42 (fun v43 => if (v39 = ((2 * v41) + v43) : Prop) then (s_L_holds_L237 State_cells Word_size Word_letters n (x7 + v37) (x8 + 1)) else (some (.inl (0, Word_size, Word_letters)))) (fun E9 => none)) (fun E9 => none)) (fun E9 => none)) (fun E9 => none))
set_option maxHeartbeats 4000000 in
set_option maxRecDepth 100000 in
theorem v_L_holds_L237 {out : fO} {σ' : List fE} {p1 : Int32} {p2 : Int32} {p3 : Int32} {p4 : Int32} {p5 : Int32} {p6 : Int32} {State_cells : Nat → Int32} {History_oldest : Int32} {History_size : Int32} {History_snapshotTaken : Int32} {History_saved : Nat → Int32} {History_snapshot : Nat → Int32} {Buffer_size : Int32} {Buffer_codes : Nat → Int32} {Reader_pattern : Nat} {Reader_place : Int32} {Word_size : Int32} {Word_letters : Nat → Int32} : ∀ (n : Nat) {x7 : Int32} {x8 : Int32} {res : (Int32 × (Int32) × (Nat → Int32)) ⊕ (Int32 × Int32)} (hf : s_L_holds_L237 State_cells Word_size Word_letters n x7 x8 = some res) (hr : ∀ r, res = .inl r → out = (.inl (some (.int r.1))) ∧ σ' = [.inl (5, [.ref 1, .ref 3, .ref 6, .ref 8, .ref 9]), .inl (3, [.ref 2]), .inr (910, .inl State_cells), .inl (1, [.ref 4, .ref 5, .int History_oldest, .int History_size, .int History_snapshotTaken]), .inr (5460, .inl History_saved), .inr (910, .inl History_snapshot), .inl (0, [.ref 7, .int Buffer_size]), .inr (60, .inl Buffer_codes), .inl (2, [.ref (Reader_pattern + 1000), .int Reader_place]), .inl (4, [.ref 10, .int r.2.1]), .inr (8, .inl r.2.2)]) (hx : ∀ e, res = .inr e → V (fXm 11 k_L_holds out σ') (krm k_L_holds) k_L_holds 11 291 [some (.ref 0), some (.int p1), some (.int p2), some (.int p3), some (.int p4), some (.int p5), some (.int p6), some (.int e.1), some (.int e.2), none, none] [] [.inl (5, [.ref 1, .ref 3, .ref 6, .ref 8, .ref 9]), .inl (3, [.ref 2]), .inr (910, .inl State_cells), .inl (1, [.ref 4, .ref 5, .int History_oldest, .int History_size, .int History_snapshotTaken]), .inr (5460, .inl History_saved), .inr (910, .inl History_snapshot), .inl (0, [.ref 7, .int Buffer_size]), .inr (60, .inl Buffer_codes), .inl (2, [.ref (Reader_pattern + 1000), .int Reader_place]), .inl (4, [.ref 10, .int Word_size]), .inr (8, .inl Word_letters)] 0 0), V (fXm 11 k_L_holds out σ') (krm k_L_holds) k_L_holds 11 237 [some (.ref 0), some (.int p1), some (.int p2), some (.int p3), some (.int p4), some (.int p5), some (.int p6), some (.int x7), some (.int x8), none, none] [] [.inl (5, [.ref 1, .ref 3, .ref 6, .ref 8, .ref 9]), .inl (3, [.ref 2]), .inr (910, .inl State_cells), .inl (1, [.ref 4, .ref 5, .int History_oldest, .int History_size, .int History_snapshotTaken]), .inr (5460, .inl History_saved), .inr (910, .inl History_snapshot), .inl (0, [.ref 7, .int Buffer_size]), .inr (60, .inl Buffer_codes), .inl (2, [.ref (Reader_pattern + 1000), .int Reader_place]), .inl (4, [.ref 10, .int Word_size]), .inr (8, .inl Word_letters)] 0 0 := by
  intro n
  induction n with
  | zero =>
    intro x7 x8 res hf hr hx
    rw [s_L_holds_L237] at hf
    cases hf
  | succ n ih =>
    intro x7 x8 res hf hr hx
    rw [s_L_holds_L237] at hf
    refine V.iload (i := 8) dL_holds_237 rfl ?_
    refine V.bipush (v := 16) dL_holds_239 rfl ?_
    refine V.icmp_ge (tgt := 291) dL_holds_241 (by decide) (fun h => ?_) (fun h => ?_)
    · have hf := fif_t h hf
      obtain rfl := Option.some.inj hf
      exact hx _ rfl
    · have hf := fif_f h hf
      refine V.iload (i := 7) dL_holds_244 rfl ?_
      refine V.aload_n (i := 0) dL_holds_246 rfl rfl ?_
      refine V.iload (i := 8) dL_holds_247 rfl ?_
      refine V.iconst (v := 4) dL_holds_249 rfl ?_
      obtain ⟨v36, hv36, hf⟩ := fbind hf
      have hc := ct_X10_letter (a1 := x8) (a2 := 4) (State_cells := State_cells) (History_oldest := History_oldest) (History_size := History_size) (History_snapshotTaken := History_snapshotTaken) (History_saved := History_saved) (History_snapshot := History_snapshot) (Buffer_size := Buffer_size) (Buffer_codes := Buffer_codes) (Reader_pattern := Reader_pattern) (Reader_place := Reader_place) (Word_size := Word_size) (Word_letters := Word_letters) hv36
      rcases hv36b : v36 with v37 | E9
      · rw [hv36b] at hc hf
        dsimp only [fth] at hf
        refine V.callVn (pl := [0, 1, 2, 3, 4, 5, 6, 7, 8, 9, 10]) (σ' := [.inl (5, [.ref 1, .ref 3, .ref 6, .ref 8, .ref 9]), .inl (3, [.ref 2]), .inr (910, .inl State_cells), .inl (1, [.ref 4, .ref 5, .int History_oldest, .int History_size, .int History_snapshotTaken]), .inr (5460, .inl History_saved), .inr (910, .inl History_snapshot), .inl (0, [.ref 7, .int Buffer_size]), .inr (60, .inl Buffer_codes), .inl (2, [.ref (Reader_pattern + 1000), .int Reader_place]), .inl (4, [.ref 10, .int Word_size]), .inr (8, .inl Word_letters)]) (st2 := [.int v37, .int x7]) (cl2 := 0) (sl2 := 0) hc dL_holds_250 w337 ⟨w338, w339⟩ cal_X10_letter rfl ⟨⟨Nat.le_of_ble_eq_true rfl, Nat.le_of_ble_eq_true rfl⟩, Nat.le_of_ble_eq_true rfl, Nat.le_of_ble_eq_true rfl⟩ (Nat.le_of_ble_eq_true rfl) ⟨_, _, _, _, rfl, rfl⟩ rfl ⟨rfl, ⟨by decide, by decide⟩, rfl, (fr_cons (Or.inl (Nat.le_of_ble_eq_true rfl)) (fr_cons (Or.inl (Nat.le_of_ble_eq_true rfl)) (fr_cons (Or.inl (Nat.le_of_ble_eq_true rfl)) (fr_cons (Or.inl (Nat.le_of_ble_eq_true rfl)) (fr_cons (Or.inl (Nat.le_of_ble_eq_true rfl)) (fr_cons (Or.inl (Nat.le_of_ble_eq_true rfl)) (fr_cons (Or.inl (Nat.le_of_ble_eq_true rfl)) (fr_cons (Or.inl (Nat.le_of_ble_eq_true rfl)) (fr_cons (Or.inl (Nat.le_of_ble_eq_true rfl)) (fr_cons (Or.inr (Nat.le_add_left 1000 _)) (fr_cons (Or.inl (Nat.le_of_ble_eq_true rfl)) (fr_nil)))))))))))), rfl⟩ fr_i rfl rfl rfl rfl ?_
        refine V.iadd dL_holds_253 ?_
        refine V.istore (i := 7) (L' := [some (.ref 0), some (.int p1), some (.int p2), some (.int p3), some (.int p4), some (.int p5), some (.int p6), some (.int (x7 + v37)), some (.int x8), none, none]) dL_holds_254 (Nat.le_of_ble_eq_true rfl) rfl rfl ?_
        refine V.aload_n (i := 0) dL_holds_256 rfl rfl ?_
        refine V.iload (i := 8) dL_holds_257 rfl ?_
        refine V.iconst (v := 2) dL_holds_259 rfl ?_
        obtain ⟨v38, hv38, hf⟩ := fbind hf
        have hc := ct_X10_letter (a1 := x8) (a2 := 2) (State_cells := State_cells) (History_oldest := History_oldest) (History_size := History_size) (History_snapshotTaken := History_snapshotTaken) (History_saved := History_saved) (History_snapshot := History_snapshot) (Buffer_size := Buffer_size) (Buffer_codes := Buffer_codes) (Reader_pattern := Reader_pattern) (Reader_place := Reader_place) (Word_size := Word_size) (Word_letters := Word_letters) hv38
        rcases hv38b : v38 with v39 | E9
        · rw [hv38b] at hc hf
          dsimp only [fth] at hf
          refine V.callVn (pl := [0, 1, 2, 3, 4, 5, 6, 7, 8, 9, 10]) (σ' := [.inl (5, [.ref 1, .ref 3, .ref 6, .ref 8, .ref 9]), .inl (3, [.ref 2]), .inr (910, .inl State_cells), .inl (1, [.ref 4, .ref 5, .int History_oldest, .int History_size, .int History_snapshotTaken]), .inr (5460, .inl History_saved), .inr (910, .inl History_snapshot), .inl (0, [.ref 7, .int Buffer_size]), .inr (60, .inl Buffer_codes), .inl (2, [.ref (Reader_pattern + 1000), .int Reader_place]), .inl (4, [.ref 10, .int Word_size]), .inr (8, .inl Word_letters)]) (st2 := [.int v39]) (cl2 := 0) (sl2 := 0) hc dL_holds_260 w337 ⟨w338, w339⟩ cal_X10_letter rfl ⟨⟨Nat.le_of_ble_eq_true rfl, Nat.le_of_ble_eq_true rfl⟩, Nat.le_of_ble_eq_true rfl, Nat.le_of_ble_eq_true rfl⟩ (Nat.le_of_ble_eq_true rfl) ⟨_, _, _, _, rfl, rfl⟩ rfl ⟨rfl, ⟨by decide, by decide⟩, rfl, (fr_cons (Or.inl (Nat.le_of_ble_eq_true rfl)) (fr_cons (Or.inl (Nat.le_of_ble_eq_true rfl)) (fr_cons (Or.inl (Nat.le_of_ble_eq_true rfl)) (fr_cons (Or.inl (Nat.le_of_ble_eq_true rfl)) (fr_cons (Or.inl (Nat.le_of_ble_eq_true rfl)) (fr_cons (Or.inl (Nat.le_of_ble_eq_true rfl)) (fr_cons (Or.inl (Nat.le_of_ble_eq_true rfl)) (fr_cons (Or.inl (Nat.le_of_ble_eq_true rfl)) (fr_cons (Or.inl (Nat.le_of_ble_eq_true rfl)) (fr_cons (Or.inr (Nat.le_add_left 1000 _)) (fr_cons (Or.inl (Nat.le_of_ble_eq_true rfl)) (fr_nil)))))))))))), rfl⟩ fr_i rfl rfl rfl rfl ?_
          refine V.iconst (v := 2) dL_holds_263 rfl ?_
          refine V.aload_n (i := 0) dL_holds_264 rfl rfl ?_
          refine V.iload (i := 8) dL_holds_265 rfl ?_
          refine V.iconst (v := 0) dL_holds_267 rfl ?_
          obtain ⟨v40, hv40, hf⟩ := fbind hf
          have hc := ct_X10_letter (a1 := x8) (a2 := 0) (State_cells := State_cells) (History_oldest := History_oldest) (History_size := History_size) (History_snapshotTaken := History_snapshotTaken) (History_saved := History_saved) (History_snapshot := History_snapshot) (Buffer_size := Buffer_size) (Buffer_codes := Buffer_codes) (Reader_pattern := Reader_pattern) (Reader_place := Reader_place) (Word_size := Word_size) (Word_letters := Word_letters) hv40
          rcases hv40b : v40 with v41 | E9
          · rw [hv40b] at hc hf
            dsimp only [fth] at hf
            refine V.callVn (pl := [0, 1, 2, 3, 4, 5, 6, 7, 8, 9, 10]) (σ' := [.inl (5, [.ref 1, .ref 3, .ref 6, .ref 8, .ref 9]), .inl (3, [.ref 2]), .inr (910, .inl State_cells), .inl (1, [.ref 4, .ref 5, .int History_oldest, .int History_size, .int History_snapshotTaken]), .inr (5460, .inl History_saved), .inr (910, .inl History_snapshot), .inl (0, [.ref 7, .int Buffer_size]), .inr (60, .inl Buffer_codes), .inl (2, [.ref (Reader_pattern + 1000), .int Reader_place]), .inl (4, [.ref 10, .int Word_size]), .inr (8, .inl Word_letters)]) (st2 := [.int v41, .int 2, .int v39]) (cl2 := 0) (sl2 := 0) hc dL_holds_268 w337 ⟨w338, w339⟩ cal_X10_letter rfl ⟨⟨Nat.le_of_ble_eq_true rfl, Nat.le_of_ble_eq_true rfl⟩, Nat.le_of_ble_eq_true rfl, Nat.le_of_ble_eq_true rfl⟩ (Nat.le_of_ble_eq_true rfl) ⟨_, _, _, _, rfl, rfl⟩ rfl ⟨rfl, ⟨by decide, by decide⟩, rfl, (fr_cons (Or.inl (Nat.le_of_ble_eq_true rfl)) (fr_cons (Or.inl (Nat.le_of_ble_eq_true rfl)) (fr_cons (Or.inl (Nat.le_of_ble_eq_true rfl)) (fr_cons (Or.inl (Nat.le_of_ble_eq_true rfl)) (fr_cons (Or.inl (Nat.le_of_ble_eq_true rfl)) (fr_cons (Or.inl (Nat.le_of_ble_eq_true rfl)) (fr_cons (Or.inl (Nat.le_of_ble_eq_true rfl)) (fr_cons (Or.inl (Nat.le_of_ble_eq_true rfl)) (fr_cons (Or.inl (Nat.le_of_ble_eq_true rfl)) (fr_cons (Or.inr (Nat.le_add_left 1000 _)) (fr_cons (Or.inl (Nat.le_of_ble_eq_true rfl)) (fr_nil)))))))))))), rfl⟩ fr_i rfl rfl rfl rfl ?_
            refine V.imul dL_holds_271 ?_
            refine V.aload_n (i := 0) dL_holds_272 rfl rfl ?_
            refine V.iload (i := 8) dL_holds_273 rfl ?_
            refine V.iconst (v := 1) dL_holds_275 rfl ?_
            obtain ⟨v42, hv42, hf⟩ := fbind hf
            have hc := ct_X10_letter (a1 := x8) (a2 := 1) (State_cells := State_cells) (History_oldest := History_oldest) (History_size := History_size) (History_snapshotTaken := History_snapshotTaken) (History_saved := History_saved) (History_snapshot := History_snapshot) (Buffer_size := Buffer_size) (Buffer_codes := Buffer_codes) (Reader_pattern := Reader_pattern) (Reader_place := Reader_place) (Word_size := Word_size) (Word_letters := Word_letters) hv42
            rcases hv42b : v42 with v43 | E9
            · rw [hv42b] at hc hf
              dsimp only [fth] at hf
              refine V.callVn (pl := [0, 1, 2, 3, 4, 5, 6, 7, 8, 9, 10]) (σ' := [.inl (5, [.ref 1, .ref 3, .ref 6, .ref 8, .ref 9]), .inl (3, [.ref 2]), .inr (910, .inl State_cells), .inl (1, [.ref 4, .ref 5, .int History_oldest, .int History_size, .int History_snapshotTaken]), .inr (5460, .inl History_saved), .inr (910, .inl History_snapshot), .inl (0, [.ref 7, .int Buffer_size]), .inr (60, .inl Buffer_codes), .inl (2, [.ref (Reader_pattern + 1000), .int Reader_place]), .inl (4, [.ref 10, .int Word_size]), .inr (8, .inl Word_letters)]) (st2 := [.int v43, .int (2 * v41), .int v39]) (cl2 := 0) (sl2 := 0) hc dL_holds_276 w337 ⟨w338, w339⟩ cal_X10_letter rfl ⟨⟨Nat.le_of_ble_eq_true rfl, Nat.le_of_ble_eq_true rfl⟩, Nat.le_of_ble_eq_true rfl, Nat.le_of_ble_eq_true rfl⟩ (Nat.le_of_ble_eq_true rfl) ⟨_, _, _, _, rfl, rfl⟩ rfl ⟨rfl, ⟨by decide, by decide⟩, rfl, (fr_cons (Or.inl (Nat.le_of_ble_eq_true rfl)) (fr_cons (Or.inl (Nat.le_of_ble_eq_true rfl)) (fr_cons (Or.inl (Nat.le_of_ble_eq_true rfl)) (fr_cons (Or.inl (Nat.le_of_ble_eq_true rfl)) (fr_cons (Or.inl (Nat.le_of_ble_eq_true rfl)) (fr_cons (Or.inl (Nat.le_of_ble_eq_true rfl)) (fr_cons (Or.inl (Nat.le_of_ble_eq_true rfl)) (fr_cons (Or.inl (Nat.le_of_ble_eq_true rfl)) (fr_cons (Or.inl (Nat.le_of_ble_eq_true rfl)) (fr_cons (Or.inr (Nat.le_add_left 1000 _)) (fr_cons (Or.inl (Nat.le_of_ble_eq_true rfl)) (fr_nil)))))))))))), rfl⟩ fr_i rfl rfl rfl rfl ?_
              refine V.iadd dL_holds_279 ?_
              refine V.icmp_eq (tgt := 285) dL_holds_280 (by decide) (fun h => ?_) (fun h => ?_)
              · have hf := fif_t h hf
                refine V.iinc (i := 8) (v := (x8 + 1)) (L' := [some (.ref 0), some (.int p1), some (.int p2), some (.int p3), some (.int p4), some (.int p5), some (.int p6), some (.int (x7 + v37)), some (.int (x8 + 1)), none, none]) dL_holds_285 rfl rfl (Nat.le_of_ble_eq_true rfl) rfl rfl ?_
                refine V.goto (tgt := 237) dL_holds_288 (by decide) ?_
                exact ih hf hr hx
              · have hf := fif_f h hf
                refine V.iconst (v := 0) dL_holds_283 rfl ?_
                obtain rfl := Option.some.inj hf
                obtain ⟨e1, e2⟩ := hr _ rfl
                subst e1; subst e2
                exact V.zret (v := 0) dL_holds_284 rfl (by decide +kernel) (Nat.le_of_ble_eq_true rfl) (Nat.le_of_ble_eq_true rfl) rfl
            · rw [hv42b] at hc hf
              dsimp only [fth] at hf
              cases hf
          · rw [hv40b] at hc hf
            dsimp only [fth] at hf
            cases hf
        · rw [hv38b] at hc hf
          dsimp only [fth] at hf
          cases hf
      · rw [hv36b] at hc hf
        dsimp only [fth] at hf
        cases hf
def s_L_holds_L302 (p8 : Int32) (State_cells : Nat → Int32) (History_size : Int32) (Word_size : Int32) (Word_letters : Nat → Int32) : Nat → Int32 → Option ((Int32 × (Int32) × (Nat → Int32)) ⊕ (Int32))
  | 0, _ => none
  | n + 1, x9 => if (p8 < x9 : Prop) then (some (.inr x9)) else ((s_X10_drowned x9 0 State_cells).bind fun v48 => fth v48 (fun v49 => flet ((if (v49 = (-1) : Prop) then 1 else 0) : Int32) fun v50 => flet ((if (x9 = p8 : Prop) then 1 else 0) : Int32) fun v52 => if (v50 = v52 : Prop) then (if (x9 ≤ 0 : Prop) then (if (p8 ≤ x9 : Prop) then (s_L_holds_L302 p8 State_cells History_size Word_size Word_letters n (x9 + 1)) else ((s_X10_drowned x9 2 State_cells).bind fun v54 => fth v54 (fun v55 => (s_X10_count 1 State_cells History_size).bind fun v56 => fth v56 (fun v57 => if (v55 ≤ v57 : Prop) then (s_L_holds_L302 p8 State_cells History_size Word_size Word_letters n (x9 + 1)) else (some (.inl (0, Word_size, Word_letters)))) (fun E9 => none)) (fun E9 => none))) else (if (p8 ≤ x9 : Prop) then (if (p8 ≤ x9 : Prop) then (s_L_holds_L302 p8 State_cells History_size Word_size Word_letters n (x9 + 1)) else ((s_X10_drowned x9 2 State_cells).bind fun v58 => fth v58 (fun v59 => (s_X10_count 1 State_cells History_size).bind fun v60 => fth v60 (fun v61 => if (v59 ≤ v61 : Prop) then (s_L_holds_L302 p8 State_cells History_size Word_size Word_letters n (x9 + 1)) else (some (.inl (0, Word_size, Word_letters)))) (fun E9 => none)) (fun E9 => none))) else ((s_X10_drowned x9 2 State_cells).bind fun v62 => fth v62 (fun v63 => (s_X10_drowned (x9 - 1) 2 State_cells).bind fun v64 => fth v64 (fun v65 => if (v63 < v65 : Prop) then (some (.inl (0, Word_size, Word_letters))) else (if (p8 ≤ x9 : Prop) then (s_L_holds_L302 p8 State_cells History_size Word_size Word_letters n (x9 + 1)) else ((s_X10_drowned x9 2 State_cells).bind fun v66 => fth v66 (fun v67 => (s_X10_count 1 State_cells History_size).bind fun v68 => fth v68 (fun v69 => if (v67 ≤ v69 : Prop) then (s_L_holds_L302 p8 State_cells History_size Word_size Word_letters n (x9 + 1)) else (some (.inl (0, Word_size, Word_letters)))) (fun E9 => none)) (fun E9 => none)))) (fun E9 => none)) (fun E9 => none)))) else (some (.inl (0, Word_size, Word_letters)))) (fun E9 => none))
set_option maxHeartbeats 4000000 in
set_option maxRecDepth 100000 in
theorem v_L_holds_L302 {out : fO} {σ' : List fE} {p1 : Int32} {p2 : Int32} {p3 : Int32} {p4 : Int32} {p5 : Int32} {p6 : Int32} {p7 : Int32} {p8 : Int32} {State_cells : Nat → Int32} {History_oldest : Int32} {History_size : Int32} {History_snapshotTaken : Int32} {History_saved : Nat → Int32} {History_snapshot : Nat → Int32} {Buffer_size : Int32} {Buffer_codes : Nat → Int32} {Reader_pattern : Nat} {Reader_place : Int32} {Word_size : Int32} {Word_letters : Nat → Int32} : ∀ (n : Nat) {x9 : Int32} {res : (Int32 × (Int32) × (Nat → Int32)) ⊕ (Int32)} (hf : s_L_holds_L302 p8 State_cells History_size Word_size Word_letters n x9 = some res) (hr : ∀ r, res = .inl r → out = (.inl (some (.int r.1))) ∧ σ' = [.inl (5, [.ref 1, .ref 3, .ref 6, .ref 8, .ref 9]), .inl (3, [.ref 2]), .inr (910, .inl State_cells), .inl (1, [.ref 4, .ref 5, .int History_oldest, .int History_size, .int History_snapshotTaken]), .inr (5460, .inl History_saved), .inr (910, .inl History_snapshot), .inl (0, [.ref 7, .int Buffer_size]), .inr (60, .inl Buffer_codes), .inl (2, [.ref (Reader_pattern + 1000), .int Reader_place]), .inl (4, [.ref 10, .int r.2.1]), .inr (8, .inl r.2.2)]) (hx : ∀ e, res = .inr e → V (fXm 11 k_L_holds out σ') (krm k_L_holds) k_L_holds 11 401 [some (.ref 0), some (.int p1), some (.int p2), some (.int p3), some (.int p4), some (.int p5), some (.int p6), some (.int p7), some (.int p8), some (.int e), none] [] [.inl (5, [.ref 1, .ref 3, .ref 6, .ref 8, .ref 9]), .inl (3, [.ref 2]), .inr (910, .inl State_cells), .inl (1, [.ref 4, .ref 5, .int History_oldest, .int History_size, .int History_snapshotTaken]), .inr (5460, .inl History_saved), .inr (910, .inl History_snapshot), .inl (0, [.ref 7, .int Buffer_size]), .inr (60, .inl Buffer_codes), .inl (2, [.ref (Reader_pattern + 1000), .int Reader_place]), .inl (4, [.ref 10, .int Word_size]), .inr (8, .inl Word_letters)] 0 0), V (fXm 11 k_L_holds out σ') (krm k_L_holds) k_L_holds 11 302 [some (.ref 0), some (.int p1), some (.int p2), some (.int p3), some (.int p4), some (.int p5), some (.int p6), some (.int p7), some (.int p8), some (.int x9), none] [] [.inl (5, [.ref 1, .ref 3, .ref 6, .ref 8, .ref 9]), .inl (3, [.ref 2]), .inr (910, .inl State_cells), .inl (1, [.ref 4, .ref 5, .int History_oldest, .int History_size, .int History_snapshotTaken]), .inr (5460, .inl History_saved), .inr (910, .inl History_snapshot), .inl (0, [.ref 7, .int Buffer_size]), .inr (60, .inl Buffer_codes), .inl (2, [.ref (Reader_pattern + 1000), .int Reader_place]), .inl (4, [.ref 10, .int Word_size]), .inr (8, .inl Word_letters)] 0 0 := by
  intro n
  induction n with
  | zero =>
    intro x9 res hf hr hx
    rw [s_L_holds_L302] at hf
    cases hf
  | succ n ih =>
    intro x9 res hf hr hx
    rw [s_L_holds_L302] at hf
    refine V.iload (i := 9) dL_holds_302 rfl ?_
    refine V.iload (i := 8) dL_holds_304 rfl ?_
    refine V.icmp_gt (tgt := 401) dL_holds_306 (by decide) (fun h => ?_) (fun h => ?_)
    · have hf := fif_t h hf
      obtain rfl := Option.some.inj hf
      exact hx _ rfl
    · have hf := fif_f h hf
      refine V.aload_n (i := 0) dL_holds_309 rfl rfl ?_
      refine V.iload (i := 9) dL_holds_310 rfl ?_
      refine V.iconst (v := 0) dL_holds_312 rfl ?_
      obtain ⟨v48, hv48, hf⟩ := fbind hf
      have hc := ct_X10_drowned (a1 := x9) (a2 := 0) (State_cells := State_cells) (History_oldest := History_oldest) (History_size := History_size) (History_snapshotTaken := History_snapshotTaken) (History_saved := History_saved) (History_snapshot := History_snapshot) (Buffer_size := Buffer_size) (Buffer_codes := Buffer_codes) (Reader_pattern := Reader_pattern) (Reader_place := Reader_place) (Word_size := Word_size) (Word_letters := Word_letters) hv48
      rcases hv48b : v48 with v49 | E9
      · rw [hv48b] at hc hf
        dsimp only [fth] at hf
        refine V.callVn (pl := [0, 1, 2, 3, 4, 5, 6, 7, 8, 9, 10]) (σ' := [.inl (5, [.ref 1, .ref 3, .ref 6, .ref 8, .ref 9]), .inl (3, [.ref 2]), .inr (910, .inl State_cells), .inl (1, [.ref 4, .ref 5, .int History_oldest, .int History_size, .int History_snapshotTaken]), .inr (5460, .inl History_saved), .inr (910, .inl History_snapshot), .inl (0, [.ref 7, .int Buffer_size]), .inr (60, .inl Buffer_codes), .inl (2, [.ref (Reader_pattern + 1000), .int Reader_place]), .inl (4, [.ref 10, .int Word_size]), .inr (8, .inl Word_letters)]) (st2 := [.int v49]) (cl2 := 0) (sl2 := 0) hc dL_holds_313 w436 ⟨w437, w438⟩ cal_X10_drowned rfl ⟨⟨Nat.le_of_ble_eq_true rfl, Nat.le_of_ble_eq_true rfl⟩, Nat.le_of_ble_eq_true rfl, Nat.le_of_ble_eq_true rfl⟩ (Nat.le_of_ble_eq_true rfl) ⟨_, _, _, _, rfl, rfl⟩ rfl ⟨rfl, ⟨by decide, by decide⟩, rfl, (fr_cons (Or.inl (Nat.le_of_ble_eq_true rfl)) (fr_cons (Or.inl (Nat.le_of_ble_eq_true rfl)) (fr_cons (Or.inl (Nat.le_of_ble_eq_true rfl)) (fr_cons (Or.inl (Nat.le_of_ble_eq_true rfl)) (fr_cons (Or.inl (Nat.le_of_ble_eq_true rfl)) (fr_cons (Or.inl (Nat.le_of_ble_eq_true rfl)) (fr_cons (Or.inl (Nat.le_of_ble_eq_true rfl)) (fr_cons (Or.inl (Nat.le_of_ble_eq_true rfl)) (fr_cons (Or.inl (Nat.le_of_ble_eq_true rfl)) (fr_cons (Or.inr (Nat.le_add_left 1000 _)) (fr_cons (Or.inl (Nat.le_of_ble_eq_true rfl)) (fr_nil)))))))))))), rfl⟩ fr_i rfl rfl rfl rfl ?_
        refine V.iconst (v := (-1)) dL_holds_316 rfl ?_
        obtain ⟨v50, ev50, hf⟩ := flet_e hf
        refine V.join (J := 325) (y := v50) (st' := []) (fun tlv50 => ?_) ?_
        · refine V.icmp_ne (tgt := 324) dL_holds_317 (by decide) (fun h51 => ?_) (fun h51 => ?_)
          · refine V.iconst (v := 0) dL_holds_324 rfl ?_
            exact V.cgi (by rw [← ev50, if_neg h51]) tlv50
          · refine V.iconst (v := 1) dL_holds_320 rfl ?_
            refine V.goto (tgt := 325) dL_holds_321 (by decide) ?_
            exact V.cgi (by rw [← ev50, if_pos h51]) tlv50
        · refine V.iload (i := 9) dL_holds_325 rfl ?_
          refine V.iload (i := 8) dL_holds_327 rfl ?_
          obtain ⟨v52, ev52, hf⟩ := flet_e hf
          refine V.join (J := 337) (y := v52) (st' := [.int v50]) (fun tlv52 => ?_) ?_
          · refine V.icmp_ne (tgt := 336) dL_holds_329 (by decide) (fun h53 => ?_) (fun h53 => ?_)
            · refine V.iconst (v := 0) dL_holds_336 rfl ?_
              exact V.cgi (by rw [← ev52, if_neg h53]) tlv52
            · refine V.iconst (v := 1) dL_holds_332 rfl ?_
              refine V.goto (tgt := 337) dL_holds_333 (by decide) ?_
              exact V.cgi (by rw [← ev52, if_pos h53]) tlv52
          · refine V.icmp_ne (tgt := 393) dL_holds_337 (by decide) (fun h => ?_) (fun h => ?_)
            · have hf := fif_f h hf
              refine V.iconst (v := 0) dL_holds_393 rfl ?_
              obtain rfl := Option.some.inj hf
              obtain ⟨e1, e2⟩ := hr _ rfl
              subst e1; subst e2
              exact V.zret (v := 0) dL_holds_394 rfl (by decide +kernel) (Nat.le_of_ble_eq_true rfl) (Nat.le_of_ble_eq_true rfl) rfl
            · have hf := fif_t h hf
              refine V.iload (i := 9) dL_holds_340 rfl ?_
              refine V.if_le (tgt := 371) dL_holds_342 (by decide) (fun h => ?_) (fun h => ?_)
              · have hf := fif_t h hf
                refine V.iload (i := 9) dL_holds_371 rfl ?_
                refine V.iload (i := 8) dL_holds_373 rfl ?_
                refine V.icmp_ge (tgt := 395) dL_holds_375 (by decide) (fun h => ?_) (fun h => ?_)
                · have hf := fif_t h hf
                  refine V.iinc (i := 9) (v := (x9 + 1)) (L' := [some (.ref 0), some (.int p1), some (.int p2), some (.int p3), some (.int p4), some (.int p5), some (.int p6), some (.int p7), some (.int p8), some (.int (x9 + 1)), none]) dL_holds_395 rfl rfl (Nat.le_of_ble_eq_true rfl) rfl rfl ?_
                  refine V.goto (tgt := 302) dL_holds_398 (by decide) ?_
                  exact ih hf hr hx
                · have hf := fif_f h hf
                  refine V.aload_n (i := 0) dL_holds_378 rfl rfl ?_
                  refine V.iload (i := 9) dL_holds_379 rfl ?_
                  refine V.iconst (v := 2) dL_holds_381 rfl ?_
                  obtain ⟨v54, hv54, hf⟩ := fbind hf
                  have hc := ct_X10_drowned (a1 := x9) (a2 := 2) (State_cells := State_cells) (History_oldest := History_oldest) (History_size := History_size) (History_snapshotTaken := History_snapshotTaken) (History_saved := History_saved) (History_snapshot := History_snapshot) (Buffer_size := Buffer_size) (Buffer_codes := Buffer_codes) (Reader_pattern := Reader_pattern) (Reader_place := Reader_place) (Word_size := Word_size) (Word_letters := Word_letters) hv54
                  rcases hv54b : v54 with v55 | E9
                  · rw [hv54b] at hc hf
                    dsimp only [fth] at hf
                    refine V.callVn (pl := [0, 1, 2, 3, 4, 5, 6, 7, 8, 9, 10]) (σ' := [.inl (5, [.ref 1, .ref 3, .ref 6, .ref 8, .ref 9]), .inl (3, [.ref 2]), .inr (910, .inl State_cells), .inl (1, [.ref 4, .ref 5, .int History_oldest, .int History_size, .int History_snapshotTaken]), .inr (5460, .inl History_saved), .inr (910, .inl History_snapshot), .inl (0, [.ref 7, .int Buffer_size]), .inr (60, .inl Buffer_codes), .inl (2, [.ref (Reader_pattern + 1000), .int Reader_place]), .inl (4, [.ref 10, .int Word_size]), .inr (8, .inl Word_letters)]) (st2 := [.int v55]) (cl2 := 0) (sl2 := 0) hc dL_holds_382 w436 ⟨w437, w438⟩ cal_X10_drowned rfl ⟨⟨Nat.le_of_ble_eq_true rfl, Nat.le_of_ble_eq_true rfl⟩, Nat.le_of_ble_eq_true rfl, Nat.le_of_ble_eq_true rfl⟩ (Nat.le_of_ble_eq_true rfl) ⟨_, _, _, _, rfl, rfl⟩ rfl ⟨rfl, ⟨by decide, by decide⟩, rfl, (fr_cons (Or.inl (Nat.le_of_ble_eq_true rfl)) (fr_cons (Or.inl (Nat.le_of_ble_eq_true rfl)) (fr_cons (Or.inl (Nat.le_of_ble_eq_true rfl)) (fr_cons (Or.inl (Nat.le_of_ble_eq_true rfl)) (fr_cons (Or.inl (Nat.le_of_ble_eq_true rfl)) (fr_cons (Or.inl (Nat.le_of_ble_eq_true rfl)) (fr_cons (Or.inl (Nat.le_of_ble_eq_true rfl)) (fr_cons (Or.inl (Nat.le_of_ble_eq_true rfl)) (fr_cons (Or.inl (Nat.le_of_ble_eq_true rfl)) (fr_cons (Or.inr (Nat.le_add_left 1000 _)) (fr_cons (Or.inl (Nat.le_of_ble_eq_true rfl)) (fr_nil)))))))))))), rfl⟩ fr_i rfl rfl rfl rfl ?_
                    refine V.aload_n (i := 0) dL_holds_385 rfl rfl ?_
                    refine V.iconst (v := 1) dL_holds_386 rfl ?_
                    obtain ⟨v56, hv56, hf⟩ := fbind hf
                    have hc := ct_X10_count (a1 := 1) (State_cells := State_cells) (History_oldest := History_oldest) (History_size := History_size) (History_snapshotTaken := History_snapshotTaken) (History_saved := History_saved) (History_snapshot := History_snapshot) (Buffer_size := Buffer_size) (Buffer_codes := Buffer_codes) (Reader_pattern := Reader_pattern) (Reader_place := Reader_place) (Word_size := Word_size) (Word_letters := Word_letters) hv56
                    rcases hv56b : v56 with v57 | E9
                    · rw [hv56b] at hc hf
                      dsimp only [fth] at hf
                      refine V.callVn (pl := [0, 1, 2, 3, 4, 5, 6, 7, 8, 9, 10]) (σ' := [.inl (5, [.ref 1, .ref 3, .ref 6, .ref 8, .ref 9]), .inl (3, [.ref 2]), .inr (910, .inl State_cells), .inl (1, [.ref 4, .ref 5, .int History_oldest, .int History_size, .int History_snapshotTaken]), .inr (5460, .inl History_saved), .inr (910, .inl History_snapshot), .inl (0, [.ref 7, .int Buffer_size]), .inr (60, .inl Buffer_codes), .inl (2, [.ref (Reader_pattern + 1000), .int Reader_place]), .inl (4, [.ref 10, .int Word_size]), .inr (8, .inl Word_letters)]) (st2 := [.int v57, .int v55]) (cl2 := 0) (sl2 := 0) hc dL_holds_387 w404 ⟨w405, w406⟩ cal_X10_count rfl ⟨⟨Nat.le_of_ble_eq_true rfl, Nat.le_of_ble_eq_true rfl⟩, Nat.le_of_ble_eq_true rfl, Nat.le_of_ble_eq_true rfl⟩ (Nat.le_of_ble_eq_true rfl) ⟨_, _, _, _, rfl, rfl⟩ rfl ⟨rfl, ⟨by decide, by decide⟩, rfl, (fr_cons (Or.inl (Nat.le_of_ble_eq_true rfl)) (fr_cons (Or.inl (Nat.le_of_ble_eq_true rfl)) (fr_cons (Or.inl (Nat.le_of_ble_eq_true rfl)) (fr_cons (Or.inl (Nat.le_of_ble_eq_true rfl)) (fr_cons (Or.inl (Nat.le_of_ble_eq_true rfl)) (fr_cons (Or.inl (Nat.le_of_ble_eq_true rfl)) (fr_cons (Or.inl (Nat.le_of_ble_eq_true rfl)) (fr_cons (Or.inl (Nat.le_of_ble_eq_true rfl)) (fr_cons (Or.inl (Nat.le_of_ble_eq_true rfl)) (fr_cons (Or.inr (Nat.le_add_left 1000 _)) (fr_cons (Or.inl (Nat.le_of_ble_eq_true rfl)) (fr_nil)))))))))))), rfl⟩ fr_i rfl rfl rfl rfl ?_
                      refine V.icmp_le (tgt := 395) dL_holds_390 (by decide) (fun h => ?_) (fun h => ?_)
                      · have hf := fif_t h hf
                        refine V.iinc (i := 9) (v := (x9 + 1)) (L' := [some (.ref 0), some (.int p1), some (.int p2), some (.int p3), some (.int p4), some (.int p5), some (.int p6), some (.int p7), some (.int p8), some (.int (x9 + 1)), none]) dL_holds_395 rfl rfl (Nat.le_of_ble_eq_true rfl) rfl rfl ?_
                        refine V.goto (tgt := 302) dL_holds_398 (by decide) ?_
                        exact ih hf hr hx
                      · have hf := fif_f h hf
                        refine V.iconst (v := 0) dL_holds_393 rfl ?_
                        obtain rfl := Option.some.inj hf
                        obtain ⟨e1, e2⟩ := hr _ rfl
                        subst e1; subst e2
                        exact V.zret (v := 0) dL_holds_394 rfl (by decide +kernel) (Nat.le_of_ble_eq_true rfl) (Nat.le_of_ble_eq_true rfl) rfl
                    · rw [hv56b] at hc hf
                      dsimp only [fth] at hf
                      cases hf
                  · rw [hv54b] at hc hf
                    dsimp only [fth] at hf
                    cases hf
              · have hf := fif_f h hf
                refine V.iload (i := 9) dL_holds_345 rfl ?_
                refine V.iload (i := 8) dL_holds_347 rfl ?_
                refine V.icmp_ge (tgt := 371) dL_holds_349 (by decide) (fun h => ?_) (fun h => ?_)
                · have hf := fif_t h hf
                  refine V.iload (i := 9) dL_holds_371 rfl ?_
                  refine V.iload (i := 8) dL_holds_373 rfl ?_
                  refine V.icmp_ge (tgt := 395) dL_holds_375 (by decide) (fun h => ?_) (fun h => ?_)
                  · have hf := fif_t h hf
                    refine V.iinc (i := 9) (v := (x9 + 1)) (L' := [some (.ref 0), some (.int p1), some (.int p2), some (.int p3), some (.int p4), some (.int p5), some (.int p6), some (.int p7), some (.int p8), some (.int (x9 + 1)), none]) dL_holds_395 rfl rfl (Nat.le_of_ble_eq_true rfl) rfl rfl ?_
                    refine V.goto (tgt := 302) dL_holds_398 (by decide) ?_
                    exact ih hf hr hx
                  · have hf := fif_f h hf
                    refine V.aload_n (i := 0) dL_holds_378 rfl rfl ?_
                    refine V.iload (i := 9) dL_holds_379 rfl ?_
                    refine V.iconst (v := 2) dL_holds_381 rfl ?_
                    obtain ⟨v58, hv58, hf⟩ := fbind hf
                    have hc := ct_X10_drowned (a1 := x9) (a2 := 2) (State_cells := State_cells) (History_oldest := History_oldest) (History_size := History_size) (History_snapshotTaken := History_snapshotTaken) (History_saved := History_saved) (History_snapshot := History_snapshot) (Buffer_size := Buffer_size) (Buffer_codes := Buffer_codes) (Reader_pattern := Reader_pattern) (Reader_place := Reader_place) (Word_size := Word_size) (Word_letters := Word_letters) hv58
                    rcases hv58b : v58 with v59 | E9
                    · rw [hv58b] at hc hf
                      dsimp only [fth] at hf
                      refine V.callVn (pl := [0, 1, 2, 3, 4, 5, 6, 7, 8, 9, 10]) (σ' := [.inl (5, [.ref 1, .ref 3, .ref 6, .ref 8, .ref 9]), .inl (3, [.ref 2]), .inr (910, .inl State_cells), .inl (1, [.ref 4, .ref 5, .int History_oldest, .int History_size, .int History_snapshotTaken]), .inr (5460, .inl History_saved), .inr (910, .inl History_snapshot), .inl (0, [.ref 7, .int Buffer_size]), .inr (60, .inl Buffer_codes), .inl (2, [.ref (Reader_pattern + 1000), .int Reader_place]), .inl (4, [.ref 10, .int Word_size]), .inr (8, .inl Word_letters)]) (st2 := [.int v59]) (cl2 := 0) (sl2 := 0) hc dL_holds_382 w436 ⟨w437, w438⟩ cal_X10_drowned rfl ⟨⟨Nat.le_of_ble_eq_true rfl, Nat.le_of_ble_eq_true rfl⟩, Nat.le_of_ble_eq_true rfl, Nat.le_of_ble_eq_true rfl⟩ (Nat.le_of_ble_eq_true rfl) ⟨_, _, _, _, rfl, rfl⟩ rfl ⟨rfl, ⟨by decide, by decide⟩, rfl, (fr_cons (Or.inl (Nat.le_of_ble_eq_true rfl)) (fr_cons (Or.inl (Nat.le_of_ble_eq_true rfl)) (fr_cons (Or.inl (Nat.le_of_ble_eq_true rfl)) (fr_cons (Or.inl (Nat.le_of_ble_eq_true rfl)) (fr_cons (Or.inl (Nat.le_of_ble_eq_true rfl)) (fr_cons (Or.inl (Nat.le_of_ble_eq_true rfl)) (fr_cons (Or.inl (Nat.le_of_ble_eq_true rfl)) (fr_cons (Or.inl (Nat.le_of_ble_eq_true rfl)) (fr_cons (Or.inl (Nat.le_of_ble_eq_true rfl)) (fr_cons (Or.inr (Nat.le_add_left 1000 _)) (fr_cons (Or.inl (Nat.le_of_ble_eq_true rfl)) (fr_nil)))))))))))), rfl⟩ fr_i rfl rfl rfl rfl ?_
                      refine V.aload_n (i := 0) dL_holds_385 rfl rfl ?_
                      refine V.iconst (v := 1) dL_holds_386 rfl ?_
                      obtain ⟨v60, hv60, hf⟩ := fbind hf
                      have hc := ct_X10_count (a1 := 1) (State_cells := State_cells) (History_oldest := History_oldest) (History_size := History_size) (History_snapshotTaken := History_snapshotTaken) (History_saved := History_saved) (History_snapshot := History_snapshot) (Buffer_size := Buffer_size) (Buffer_codes := Buffer_codes) (Reader_pattern := Reader_pattern) (Reader_place := Reader_place) (Word_size := Word_size) (Word_letters := Word_letters) hv60
                      rcases hv60b : v60 with v61 | E9
                      · rw [hv60b] at hc hf
                        dsimp only [fth] at hf
                        refine V.callVn (pl := [0, 1, 2, 3, 4, 5, 6, 7, 8, 9, 10]) (σ' := [.inl (5, [.ref 1, .ref 3, .ref 6, .ref 8, .ref 9]), .inl (3, [.ref 2]), .inr (910, .inl State_cells), .inl (1, [.ref 4, .ref 5, .int History_oldest, .int History_size, .int History_snapshotTaken]), .inr (5460, .inl History_saved), .inr (910, .inl History_snapshot), .inl (0, [.ref 7, .int Buffer_size]), .inr (60, .inl Buffer_codes), .inl (2, [.ref (Reader_pattern + 1000), .int Reader_place]), .inl (4, [.ref 10, .int Word_size]), .inr (8, .inl Word_letters)]) (st2 := [.int v61, .int v59]) (cl2 := 0) (sl2 := 0) hc dL_holds_387 w404 ⟨w405, w406⟩ cal_X10_count rfl ⟨⟨Nat.le_of_ble_eq_true rfl, Nat.le_of_ble_eq_true rfl⟩, Nat.le_of_ble_eq_true rfl, Nat.le_of_ble_eq_true rfl⟩ (Nat.le_of_ble_eq_true rfl) ⟨_, _, _, _, rfl, rfl⟩ rfl ⟨rfl, ⟨by decide, by decide⟩, rfl, (fr_cons (Or.inl (Nat.le_of_ble_eq_true rfl)) (fr_cons (Or.inl (Nat.le_of_ble_eq_true rfl)) (fr_cons (Or.inl (Nat.le_of_ble_eq_true rfl)) (fr_cons (Or.inl (Nat.le_of_ble_eq_true rfl)) (fr_cons (Or.inl (Nat.le_of_ble_eq_true rfl)) (fr_cons (Or.inl (Nat.le_of_ble_eq_true rfl)) (fr_cons (Or.inl (Nat.le_of_ble_eq_true rfl)) (fr_cons (Or.inl (Nat.le_of_ble_eq_true rfl)) (fr_cons (Or.inl (Nat.le_of_ble_eq_true rfl)) (fr_cons (Or.inr (Nat.le_add_left 1000 _)) (fr_cons (Or.inl (Nat.le_of_ble_eq_true rfl)) (fr_nil)))))))))))), rfl⟩ fr_i rfl rfl rfl rfl ?_
                        refine V.icmp_le (tgt := 395) dL_holds_390 (by decide) (fun h => ?_) (fun h => ?_)
                        · have hf := fif_t h hf
                          refine V.iinc (i := 9) (v := (x9 + 1)) (L' := [some (.ref 0), some (.int p1), some (.int p2), some (.int p3), some (.int p4), some (.int p5), some (.int p6), some (.int p7), some (.int p8), some (.int (x9 + 1)), none]) dL_holds_395 rfl rfl (Nat.le_of_ble_eq_true rfl) rfl rfl ?_
                          refine V.goto (tgt := 302) dL_holds_398 (by decide) ?_
                          exact ih hf hr hx
                        · have hf := fif_f h hf
                          refine V.iconst (v := 0) dL_holds_393 rfl ?_
                          obtain rfl := Option.some.inj hf
                          obtain ⟨e1, e2⟩ := hr _ rfl
                          subst e1; subst e2
                          exact V.zret (v := 0) dL_holds_394 rfl (by decide +kernel) (Nat.le_of_ble_eq_true rfl) (Nat.le_of_ble_eq_true rfl) rfl
                      · rw [hv60b] at hc hf
                        dsimp only [fth] at hf
                        cases hf
                    · rw [hv58b] at hc hf
                      dsimp only [fth] at hf
                      cases hf
                · have hf := fif_f h hf
                  refine V.aload_n (i := 0) dL_holds_352 rfl rfl ?_
                  refine V.iload (i := 9) dL_holds_353 rfl ?_
                  refine V.iconst (v := 2) dL_holds_355 rfl ?_
                  obtain ⟨v62, hv62, hf⟩ := fbind hf
                  have hc := ct_X10_drowned (a1 := x9) (a2 := 2) (State_cells := State_cells) (History_oldest := History_oldest) (History_size := History_size) (History_snapshotTaken := History_snapshotTaken) (History_saved := History_saved) (History_snapshot := History_snapshot) (Buffer_size := Buffer_size) (Buffer_codes := Buffer_codes) (Reader_pattern := Reader_pattern) (Reader_place := Reader_place) (Word_size := Word_size) (Word_letters := Word_letters) hv62
                  rcases hv62b : v62 with v63 | E9
                  · rw [hv62b] at hc hf
                    dsimp only [fth] at hf
                    refine V.callVn (pl := [0, 1, 2, 3, 4, 5, 6, 7, 8, 9, 10]) (σ' := [.inl (5, [.ref 1, .ref 3, .ref 6, .ref 8, .ref 9]), .inl (3, [.ref 2]), .inr (910, .inl State_cells), .inl (1, [.ref 4, .ref 5, .int History_oldest, .int History_size, .int History_snapshotTaken]), .inr (5460, .inl History_saved), .inr (910, .inl History_snapshot), .inl (0, [.ref 7, .int Buffer_size]), .inr (60, .inl Buffer_codes), .inl (2, [.ref (Reader_pattern + 1000), .int Reader_place]), .inl (4, [.ref 10, .int Word_size]), .inr (8, .inl Word_letters)]) (st2 := [.int v63]) (cl2 := 0) (sl2 := 0) hc dL_holds_356 w436 ⟨w437, w438⟩ cal_X10_drowned rfl ⟨⟨Nat.le_of_ble_eq_true rfl, Nat.le_of_ble_eq_true rfl⟩, Nat.le_of_ble_eq_true rfl, Nat.le_of_ble_eq_true rfl⟩ (Nat.le_of_ble_eq_true rfl) ⟨_, _, _, _, rfl, rfl⟩ rfl ⟨rfl, ⟨by decide, by decide⟩, rfl, (fr_cons (Or.inl (Nat.le_of_ble_eq_true rfl)) (fr_cons (Or.inl (Nat.le_of_ble_eq_true rfl)) (fr_cons (Or.inl (Nat.le_of_ble_eq_true rfl)) (fr_cons (Or.inl (Nat.le_of_ble_eq_true rfl)) (fr_cons (Or.inl (Nat.le_of_ble_eq_true rfl)) (fr_cons (Or.inl (Nat.le_of_ble_eq_true rfl)) (fr_cons (Or.inl (Nat.le_of_ble_eq_true rfl)) (fr_cons (Or.inl (Nat.le_of_ble_eq_true rfl)) (fr_cons (Or.inl (Nat.le_of_ble_eq_true rfl)) (fr_cons (Or.inr (Nat.le_add_left 1000 _)) (fr_cons (Or.inl (Nat.le_of_ble_eq_true rfl)) (fr_nil)))))))))))), rfl⟩ fr_i rfl rfl rfl rfl ?_
                    refine V.aload_n (i := 0) dL_holds_359 rfl rfl ?_
                    refine V.iload (i := 9) dL_holds_360 rfl ?_
                    refine V.iconst (v := 1) dL_holds_362 rfl ?_
                    refine V.isub dL_holds_363 ?_
                    refine V.iconst (v := 2) dL_holds_364 rfl ?_
                    obtain ⟨v64, hv64, hf⟩ := fbind hf
                    have hc := ct_X10_drowned (a1 := (x9 - 1)) (a2 := 2) (State_cells := State_cells) (History_oldest := History_oldest) (History_size := History_size) (History_snapshotTaken := History_snapshotTaken) (History_saved := History_saved) (History_snapshot := History_snapshot) (Buffer_size := Buffer_size) (Buffer_codes := Buffer_codes) (Reader_pattern := Reader_pattern) (Reader_place := Reader_place) (Word_size := Word_size) (Word_letters := Word_letters) hv64
                    rcases hv64b : v64 with v65 | E9
                    · rw [hv64b] at hc hf
                      dsimp only [fth] at hf
                      refine V.callVn (pl := [0, 1, 2, 3, 4, 5, 6, 7, 8, 9, 10]) (σ' := [.inl (5, [.ref 1, .ref 3, .ref 6, .ref 8, .ref 9]), .inl (3, [.ref 2]), .inr (910, .inl State_cells), .inl (1, [.ref 4, .ref 5, .int History_oldest, .int History_size, .int History_snapshotTaken]), .inr (5460, .inl History_saved), .inr (910, .inl History_snapshot), .inl (0, [.ref 7, .int Buffer_size]), .inr (60, .inl Buffer_codes), .inl (2, [.ref (Reader_pattern + 1000), .int Reader_place]), .inl (4, [.ref 10, .int Word_size]), .inr (8, .inl Word_letters)]) (st2 := [.int v65, .int v63]) (cl2 := 0) (sl2 := 0) hc dL_holds_365 w436 ⟨w437, w438⟩ cal_X10_drowned rfl ⟨⟨Nat.le_of_ble_eq_true rfl, Nat.le_of_ble_eq_true rfl⟩, Nat.le_of_ble_eq_true rfl, Nat.le_of_ble_eq_true rfl⟩ (Nat.le_of_ble_eq_true rfl) ⟨_, _, _, _, rfl, rfl⟩ rfl ⟨rfl, ⟨by decide, by decide⟩, rfl, (fr_cons (Or.inl (Nat.le_of_ble_eq_true rfl)) (fr_cons (Or.inl (Nat.le_of_ble_eq_true rfl)) (fr_cons (Or.inl (Nat.le_of_ble_eq_true rfl)) (fr_cons (Or.inl (Nat.le_of_ble_eq_true rfl)) (fr_cons (Or.inl (Nat.le_of_ble_eq_true rfl)) (fr_cons (Or.inl (Nat.le_of_ble_eq_true rfl)) (fr_cons (Or.inl (Nat.le_of_ble_eq_true rfl)) (fr_cons (Or.inl (Nat.le_of_ble_eq_true rfl)) (fr_cons (Or.inl (Nat.le_of_ble_eq_true rfl)) (fr_cons (Or.inr (Nat.le_add_left 1000 _)) (fr_cons (Or.inl (Nat.le_of_ble_eq_true rfl)) (fr_nil)))))))))))), rfl⟩ fr_i rfl rfl rfl rfl ?_
                      refine V.icmp_lt (tgt := 393) dL_holds_368 (by decide) (fun h => ?_) (fun h => ?_)
                      · have hf := fif_t h hf
                        refine V.iconst (v := 0) dL_holds_393 rfl ?_
                        obtain rfl := Option.some.inj hf
                        obtain ⟨e1, e2⟩ := hr _ rfl
                        subst e1; subst e2
                        exact V.zret (v := 0) dL_holds_394 rfl (by decide +kernel) (Nat.le_of_ble_eq_true rfl) (Nat.le_of_ble_eq_true rfl) rfl
                      · have hf := fif_f h hf
                        refine V.iload (i := 9) dL_holds_371 rfl ?_
                        refine V.iload (i := 8) dL_holds_373 rfl ?_
                        refine V.icmp_ge (tgt := 395) dL_holds_375 (by decide) (fun h => ?_) (fun h => ?_)
                        · have hf := fif_t h hf
                          refine V.iinc (i := 9) (v := (x9 + 1)) (L' := [some (.ref 0), some (.int p1), some (.int p2), some (.int p3), some (.int p4), some (.int p5), some (.int p6), some (.int p7), some (.int p8), some (.int (x9 + 1)), none]) dL_holds_395 rfl rfl (Nat.le_of_ble_eq_true rfl) rfl rfl ?_
                          refine V.goto (tgt := 302) dL_holds_398 (by decide) ?_
                          exact ih hf hr hx
                        · have hf := fif_f h hf
                          refine V.aload_n (i := 0) dL_holds_378 rfl rfl ?_
                          refine V.iload (i := 9) dL_holds_379 rfl ?_
                          refine V.iconst (v := 2) dL_holds_381 rfl ?_
                          obtain ⟨v66, hv66, hf⟩ := fbind hf
                          have hc := ct_X10_drowned (a1 := x9) (a2 := 2) (State_cells := State_cells) (History_oldest := History_oldest) (History_size := History_size) (History_snapshotTaken := History_snapshotTaken) (History_saved := History_saved) (History_snapshot := History_snapshot) (Buffer_size := Buffer_size) (Buffer_codes := Buffer_codes) (Reader_pattern := Reader_pattern) (Reader_place := Reader_place) (Word_size := Word_size) (Word_letters := Word_letters) hv66
                          rcases hv66b : v66 with v67 | E9
                          · rw [hv66b] at hc hf
                            dsimp only [fth] at hf
                            refine V.callVn (pl := [0, 1, 2, 3, 4, 5, 6, 7, 8, 9, 10]) (σ' := [.inl (5, [.ref 1, .ref 3, .ref 6, .ref 8, .ref 9]), .inl (3, [.ref 2]), .inr (910, .inl State_cells), .inl (1, [.ref 4, .ref 5, .int History_oldest, .int History_size, .int History_snapshotTaken]), .inr (5460, .inl History_saved), .inr (910, .inl History_snapshot), .inl (0, [.ref 7, .int Buffer_size]), .inr (60, .inl Buffer_codes), .inl (2, [.ref (Reader_pattern + 1000), .int Reader_place]), .inl (4, [.ref 10, .int Word_size]), .inr (8, .inl Word_letters)]) (st2 := [.int v67]) (cl2 := 0) (sl2 := 0) hc dL_holds_382 w436 ⟨w437, w438⟩ cal_X10_drowned rfl ⟨⟨Nat.le_of_ble_eq_true rfl, Nat.le_of_ble_eq_true rfl⟩, Nat.le_of_ble_eq_true rfl, Nat.le_of_ble_eq_true rfl⟩ (Nat.le_of_ble_eq_true rfl) ⟨_, _, _, _, rfl, rfl⟩ rfl ⟨rfl, ⟨by decide, by decide⟩, rfl, (fr_cons (Or.inl (Nat.le_of_ble_eq_true rfl)) (fr_cons (Or.inl (Nat.le_of_ble_eq_true rfl)) (fr_cons (Or.inl (Nat.le_of_ble_eq_true rfl)) (fr_cons (Or.inl (Nat.le_of_ble_eq_true rfl)) (fr_cons (Or.inl (Nat.le_of_ble_eq_true rfl)) (fr_cons (Or.inl (Nat.le_of_ble_eq_true rfl)) (fr_cons (Or.inl (Nat.le_of_ble_eq_true rfl)) (fr_cons (Or.inl (Nat.le_of_ble_eq_true rfl)) (fr_cons (Or.inl (Nat.le_of_ble_eq_true rfl)) (fr_cons (Or.inr (Nat.le_add_left 1000 _)) (fr_cons (Or.inl (Nat.le_of_ble_eq_true rfl)) (fr_nil)))))))))))), rfl⟩ fr_i rfl rfl rfl rfl ?_
                            refine V.aload_n (i := 0) dL_holds_385 rfl rfl ?_
                            refine V.iconst (v := 1) dL_holds_386 rfl ?_
                            obtain ⟨v68, hv68, hf⟩ := fbind hf
                            have hc := ct_X10_count (a1 := 1) (State_cells := State_cells) (History_oldest := History_oldest) (History_size := History_size) (History_snapshotTaken := History_snapshotTaken) (History_saved := History_saved) (History_snapshot := History_snapshot) (Buffer_size := Buffer_size) (Buffer_codes := Buffer_codes) (Reader_pattern := Reader_pattern) (Reader_place := Reader_place) (Word_size := Word_size) (Word_letters := Word_letters) hv68
                            rcases hv68b : v68 with v69 | E9
                            · rw [hv68b] at hc hf
                              dsimp only [fth] at hf
                              refine V.callVn (pl := [0, 1, 2, 3, 4, 5, 6, 7, 8, 9, 10]) (σ' := [.inl (5, [.ref 1, .ref 3, .ref 6, .ref 8, .ref 9]), .inl (3, [.ref 2]), .inr (910, .inl State_cells), .inl (1, [.ref 4, .ref 5, .int History_oldest, .int History_size, .int History_snapshotTaken]), .inr (5460, .inl History_saved), .inr (910, .inl History_snapshot), .inl (0, [.ref 7, .int Buffer_size]), .inr (60, .inl Buffer_codes), .inl (2, [.ref (Reader_pattern + 1000), .int Reader_place]), .inl (4, [.ref 10, .int Word_size]), .inr (8, .inl Word_letters)]) (st2 := [.int v69, .int v67]) (cl2 := 0) (sl2 := 0) hc dL_holds_387 w404 ⟨w405, w406⟩ cal_X10_count rfl ⟨⟨Nat.le_of_ble_eq_true rfl, Nat.le_of_ble_eq_true rfl⟩, Nat.le_of_ble_eq_true rfl, Nat.le_of_ble_eq_true rfl⟩ (Nat.le_of_ble_eq_true rfl) ⟨_, _, _, _, rfl, rfl⟩ rfl ⟨rfl, ⟨by decide, by decide⟩, rfl, (fr_cons (Or.inl (Nat.le_of_ble_eq_true rfl)) (fr_cons (Or.inl (Nat.le_of_ble_eq_true rfl)) (fr_cons (Or.inl (Nat.le_of_ble_eq_true rfl)) (fr_cons (Or.inl (Nat.le_of_ble_eq_true rfl)) (fr_cons (Or.inl (Nat.le_of_ble_eq_true rfl)) (fr_cons (Or.inl (Nat.le_of_ble_eq_true rfl)) (fr_cons (Or.inl (Nat.le_of_ble_eq_true rfl)) (fr_cons (Or.inl (Nat.le_of_ble_eq_true rfl)) (fr_cons (Or.inl (Nat.le_of_ble_eq_true rfl)) (fr_cons (Or.inr (Nat.le_add_left 1000 _)) (fr_cons (Or.inl (Nat.le_of_ble_eq_true rfl)) (fr_nil)))))))))))), rfl⟩ fr_i rfl rfl rfl rfl ?_
                              refine V.icmp_le (tgt := 395) dL_holds_390 (by decide) (fun h => ?_) (fun h => ?_)
                              · have hf := fif_t h hf
                                refine V.iinc (i := 9) (v := (x9 + 1)) (L' := [some (.ref 0), some (.int p1), some (.int p2), some (.int p3), some (.int p4), some (.int p5), some (.int p6), some (.int p7), some (.int p8), some (.int (x9 + 1)), none]) dL_holds_395 rfl rfl (Nat.le_of_ble_eq_true rfl) rfl rfl ?_
                                refine V.goto (tgt := 302) dL_holds_398 (by decide) ?_
                                exact ih hf hr hx
                              · have hf := fif_f h hf
                                refine V.iconst (v := 0) dL_holds_393 rfl ?_
                                obtain rfl := Option.some.inj hf
                                obtain ⟨e1, e2⟩ := hr _ rfl
                                subst e1; subst e2
                                exact V.zret (v := 0) dL_holds_394 rfl (by decide +kernel) (Nat.le_of_ble_eq_true rfl) (Nat.le_of_ble_eq_true rfl) rfl
                            · rw [hv68b] at hc hf
                              dsimp only [fth] at hf
                              cases hf
                          · rw [hv66b] at hc hf
                            dsimp only [fth] at hf
                            cases hf
                    · rw [hv64b] at hc hf
                      dsimp only [fth] at hf
                      cases hf
                  · rw [hv62b] at hc hf
                    dsimp only [fth] at hf
                    cases hf
      · rw [hv48b] at hc hf
        dsimp only [fth] at hf
        cases hf
def s_L_holds (State_cells : Nat → Int32) (History_size : Int32) (Word_size : Int32) (Word_letters : Nat → Int32) : Option (Int32 × (Int32) × (Nat → Int32)) := (s_L_holds_L18 State_cells gF 0 0 0 0 0 0 0 Word_size Word_letters).bind fun r34 => fsum r34 (fun r9 => some r9) (fun e35 => (s_L_holds_L237 State_cells e35.2.2.2.2.2.2.2.1 e35.2.2.2.2.2.2.2.2 gF 0 0).bind fun r44 => fsum r44 (fun r9 => some r9) (fun e45 => (s_X10_count 6 State_cells History_size).bind fun v46 => fth v46 (fun v47 => (s_L_holds_L302 v47 State_cells History_size e35.2.2.2.2.2.2.2.1 e35.2.2.2.2.2.2.2.2 gF 0).bind fun r70 => fsum r70 (fun r9 => some r9) (fun e71 => if (e35.2.2.2.2.2.1 = 0 : Prop) then ((s_X10_count 0 State_cells History_size).bind fun v100 => fth v100 (fun v101 => if (v101 = e35.1 : Prop) then ((s_X10_count 2 State_cells History_size).bind fun v102 => fth v102 (fun v103 => if (v103 = e35.2.1 : Prop) then ((s_X10_count 3 State_cells History_size).bind fun v104 => fth v104 (fun v105 => if (v105 = e35.2.1 : Prop) then ((s_X10_count 4 State_cells History_size).bind fun v106 => fth v106 (fun v107 => if (v107 = e35.2.1 : Prop) then ((s_X10_count 5 State_cells History_size).bind fun v108 => fth v108 (fun v109 => if (v109 = e35.2.2.2.2.1 : Prop) then (if (e45.1 = e35.2.2.2.2.2.1 : Prop) then ((s_X10_count 7 State_cells History_size).bind fun v110 => fth v110 (fun v111 => if (v111 = e35.2.2.1 : Prop) then ((s_X10_count 8 State_cells History_size).bind fun v112 => fth v112 (fun v113 => if (v113 = e35.2.2.2.1 : Prop) then (flet ((if (12 ≤ e35.2.2.1 : Prop) then 12 else e35.2.2.1) : Int32) fun v114 => if (v47 = v114 : Prop) then ((s_X10_trueShare State_cells).bind fun v116 => if ((Op.cmpValue (FP.dcmp v116 FP.dconst1) .l) = 0 : Prop) then ((s_X10_stopped 0 State_cells).bind fun v117 => fth v117 (fun v118 => flet ((if (v118 = (-1) : Prop) then 1 else 0) : Int32) fun v119 => (s_X10_stopped 1 State_cells).bind fun v121 => fth v121 (fun v122 => flet ((if (v122 = (-1) : Prop) then 1 else 0) : Int32) fun v123 => flet ((if (v119 = v123 : Prop) then 1 else 0) : Int32) fun v125 => fz v125 (some (v125, e35.2.2.2.2.2.2.2.1, e35.2.2.2.2.2.2.2.2))) (fun E9 => none)) (fun E9 => none)) else (some (0, e35.2.2.2.2.2.2.2.1, e35.2.2.2.2.2.2.2.2))) else (some (0, e35.2.2.2.2.2.2.2.1, e35.2.2.2.2.2.2.2.2))) else (some (0, e35.2.2.2.2.2.2.2.1, e35.2.2.2.2.2.2.2.2))) (fun E9 => none)) else (some (0, e35.2.2.2.2.2.2.2.1, e35.2.2.2.2.2.2.2.2))) (fun E9 => none)) else (some (0, e35.2.2.2.2.2.2.2.1, e35.2.2.2.2.2.2.2.2))) else (some (0, e35.2.2.2.2.2.2.2.1, e35.2.2.2.2.2.2.2.2))) (fun E9 => none)) else (some (0, e35.2.2.2.2.2.2.2.1, e35.2.2.2.2.2.2.2.2))) (fun E9 => none)) else (some (0, e35.2.2.2.2.2.2.2.1, e35.2.2.2.2.2.2.2.2))) (fun E9 => none)) else (some (0, e35.2.2.2.2.2.2.2.1, e35.2.2.2.2.2.2.2.2))) (fun E9 => none)) else (some (0, e35.2.2.2.2.2.2.2.1, e35.2.2.2.2.2.2.2.2))) (fun E9 => none)) else (fnn (FP.ddiv (FP.i2d (e35.2.2.2.2.2.1 - e35.2.2.2.2.1)) (FP.i2d e35.2.2.2.2.2.1)) fun v72 => (s_X10_count 0 State_cells History_size).bind fun v73 => fth v73 (fun v74 => if (v74 = e35.1 : Prop) then ((s_X10_count 2 State_cells History_size).bind fun v75 => fth v75 (fun v76 => if (v76 = e35.2.1 : Prop) then ((s_X10_count 3 State_cells History_size).bind fun v77 => fth v77 (fun v78 => if (v78 = e35.2.1 : Prop) then ((s_X10_count 4 State_cells History_size).bind fun v79 => fth v79 (fun v80 => if (v80 = e35.2.1 : Prop) then ((s_X10_count 5 State_cells History_size).bind fun v81 => fth v81 (fun v82 => if (v82 = e35.2.2.2.2.1 : Prop) then (if (e45.1 = e35.2.2.2.2.2.1 : Prop) then ((s_X10_count 7 State_cells History_size).bind fun v83 => fth v83 (fun v84 => if (v84 = e35.2.2.1 : Prop) then ((s_X10_count 8 State_cells History_size).bind fun v85 => fth v85 (fun v86 => if (v86 = e35.2.2.2.1 : Prop) then (flet ((if (12 ≤ e35.2.2.1 : Prop) then 12 else e35.2.2.1) : Int32) fun v87 => if (v47 = v87 : Prop) then ((s_X10_trueShare State_cells).bind fun v89 => if ((Op.cmpValue (FP.dcmp v89 v72) .l) = 0 : Prop) then ((s_X10_stopped 0 State_cells).bind fun v90 => fth v90 (fun v91 => flet ((if (v91 = (-1) : Prop) then 1 else 0) : Int32) fun v92 => (s_X10_stopped 1 State_cells).bind fun v94 => fth v94 (fun v95 => flet ((if (v95 = (-1) : Prop) then 1 else 0) : Int32) fun v96 => flet ((if (v92 = v96 : Prop) then 1 else 0) : Int32) fun v98 => fz v98 (some (v98, e35.2.2.2.2.2.2.2.1, e35.2.2.2.2.2.2.2.2))) (fun E9 => none)) (fun E9 => none)) else (some (0, e35.2.2.2.2.2.2.2.1, e35.2.2.2.2.2.2.2.2))) else (some (0, e35.2.2.2.2.2.2.2.1, e35.2.2.2.2.2.2.2.2))) else (some (0, e35.2.2.2.2.2.2.2.1, e35.2.2.2.2.2.2.2.2))) (fun E9 => none)) else (some (0, e35.2.2.2.2.2.2.2.1, e35.2.2.2.2.2.2.2.2))) (fun E9 => none)) else (some (0, e35.2.2.2.2.2.2.2.1, e35.2.2.2.2.2.2.2.2))) else (some (0, e35.2.2.2.2.2.2.2.1, e35.2.2.2.2.2.2.2.2))) (fun E9 => none)) else (some (0, e35.2.2.2.2.2.2.2.1, e35.2.2.2.2.2.2.2.2))) (fun E9 => none)) else (some (0, e35.2.2.2.2.2.2.2.1, e35.2.2.2.2.2.2.2.2))) (fun E9 => none)) else (some (0, e35.2.2.2.2.2.2.2.1, e35.2.2.2.2.2.2.2.2))) (fun E9 => none)) else (some (0, e35.2.2.2.2.2.2.2.1, e35.2.2.2.2.2.2.2.2))) (fun E9 => none)))) (fun E9 => none)))
set_option maxHeartbeats 4000000 in
set_option maxRecDepth 100000 in
theorem ct_L_holds {State_cells : Nat → Int32} {History_oldest : Int32} {History_size : Int32} {History_snapshotTaken : Int32} {History_saved : Nat → Int32} {History_snapshot : Nat → Int32} {Buffer_size : Int32} {Buffer_codes : Nat → Int32} {Reader_pattern : Nat} {Reader_place : Int32} {Word_size : Int32} {Word_letters : Nat → Int32} {res : Int32 × (Int32) × (Nat → Int32)} (hf : s_L_holds State_cells History_size Word_size Word_letters = some res) : Ct k_L_holds [.ref 0] [.inl (5, [.ref 1, .ref 3, .ref 6, .ref 8, .ref 9]), .inl (3, [.ref 2]), .inr (910, .inl State_cells), .inl (1, [.ref 4, .ref 5, .int History_oldest, .int History_size, .int History_snapshotTaken]), .inr (5460, .inl History_saved), .inr (910, .inl History_snapshot), .inl (0, [.ref 7, .int Buffer_size]), .inr (60, .inl Buffer_codes), .inl (2, [.ref (Reader_pattern + 1000), .int Reader_place]), .inl (4, [.ref 10, .int Word_size]), .inr (8, .inl Word_letters)] (.inl (some (.int res.1))) [.inl (5, [.ref 1, .ref 3, .ref 6, .ref 8, .ref 9]), .inl (3, [.ref 2]), .inr (910, .inl State_cells), .inl (1, [.ref 4, .ref 5, .int History_oldest, .int History_size, .int History_snapshotTaken]), .inr (5460, .inl History_saved), .inr (910, .inl History_snapshot), .inl (0, [.ref 7, .int Buffer_size]), .inr (60, .inl Buffer_codes), .inl (2, [.ref (Reader_pattern + 1000), .int Reader_place]), .inl (4, [.ref 10, .int res.2.1]), .inr (8, .inl res.2.2)] := by
  unfold s_L_holds at hf
  refine Ct.of (L := [some (.ref 0), none, none, none, none, none, none, none, none, none, none]) cal_L_holds (fent_pad (j := 10) rfl) (Nat.le_of_ble_eq_true rfl) ?_
  refine V.iconst (v := 0) dL_holds_0 rfl ?_
  refine V.istore_n (i := 1) (L' := [some (.ref 0), some (.int 0), none, none, none, none, none, none, none, none, none]) dL_holds_1 rfl (Nat.le_of_ble_eq_true rfl) rfl rfl ?_
  refine V.iconst (v := 0) dL_holds_2 rfl ?_
  refine V.istore_n (i := 2) (L' := [some (.ref 0), some (.int 0), some (.int 0), none, none, none, none, none, none, none, none]) dL_holds_3 rfl (Nat.le_of_ble_eq_true rfl) rfl rfl ?_
  refine V.iconst (v := 0) dL_holds_4 rfl ?_
  refine V.istore_n (i := 3) (L' := [some (.ref 0), some (.int 0), some (.int 0), some (.int 0), none, none, none, none, none, none, none]) dL_holds_5 rfl (Nat.le_of_ble_eq_true rfl) rfl rfl ?_
  refine V.iconst (v := 0) dL_holds_6 rfl ?_
  refine V.istore (i := 4) (L' := [some (.ref 0), some (.int 0), some (.int 0), some (.int 0), some (.int 0), none, none, none, none, none, none]) dL_holds_7 (Nat.le_of_ble_eq_true rfl) rfl rfl ?_
  refine V.iconst (v := 0) dL_holds_9 rfl ?_
  refine V.istore (i := 5) (L' := [some (.ref 0), some (.int 0), some (.int 0), some (.int 0), some (.int 0), some (.int 0), none, none, none, none, none]) dL_holds_10 (Nat.le_of_ble_eq_true rfl) rfl rfl ?_
  refine V.iconst (v := 0) dL_holds_12 rfl ?_
  refine V.istore (i := 6) (L' := [some (.ref 0), some (.int 0), some (.int 0), some (.int 0), some (.int 0), some (.int 0), some (.int 0), none, none, none, none]) dL_holds_13 (Nat.le_of_ble_eq_true rfl) rfl rfl ?_
  refine V.iconst (v := 0) dL_holds_15 rfl ?_
  refine V.istore (i := 7) (L' := [some (.ref 0), some (.int 0), some (.int 0), some (.int 0), some (.int 0), some (.int 0), some (.int 0), some (.int 0), none, none, none]) dL_holds_16 (Nat.le_of_ble_eq_true rfl) rfl rfl ?_
  obtain ⟨r34, hr34, hf⟩ := fbind hf
  rcases r34 with r9 | e35
  · obtain rfl := Option.some.inj (show some _ = some res from hf)
    exact v_L_holds_L18 gF hr34 (fun _ h => by cases h; exact ⟨rfl, rfl⟩) (fun _ h => by cases h)
  · replace hf : _ = some res := hf
    dsimp only [fsum] at hf
    refine v_L_holds_L18 gF hr34 (fun _ h => by cases h) (fun _ h => ?_)
    cases h
    refine V.iconst (v := 0) dL_holds_231 rfl ?_
    refine V.istore (i := 7) (L' := [some (.ref 0), some (.int e35.1), some (.int e35.2.1), some (.int e35.2.2.1), some (.int e35.2.2.2.1), some (.int e35.2.2.2.2.1), some (.int e35.2.2.2.2.2.1), some (.int 0), none, none, none]) dL_holds_232 (Nat.le_of_ble_eq_true rfl) rfl rfl ?_
    refine V.iconst (v := 0) dL_holds_234 rfl ?_
    refine V.istore (i := 8) (L' := [some (.ref 0), some (.int e35.1), some (.int e35.2.1), some (.int e35.2.2.1), some (.int e35.2.2.2.1), some (.int e35.2.2.2.2.1), some (.int e35.2.2.2.2.2.1), some (.int 0), some (.int 0), none, none]) dL_holds_235 (Nat.le_of_ble_eq_true rfl) rfl rfl ?_
    obtain ⟨r44, hr44, hf⟩ := fbind hf
    rcases r44 with r9 | e45
    · obtain rfl := Option.some.inj (show some _ = some res from hf)
      exact v_L_holds_L237 gF hr44 (fun _ h => by cases h; exact ⟨rfl, rfl⟩) (fun _ h => by cases h)
    · replace hf : _ = some res := hf
      dsimp only [fsum] at hf
      refine v_L_holds_L237 gF hr44 (fun _ h => by cases h) (fun _ h => ?_)
      cases h
      refine V.aload_n (i := 0) dL_holds_291 rfl rfl ?_
      refine V.bipush (v := 6) dL_holds_292 rfl ?_
      obtain ⟨v46, hv46, hf⟩ := fbind hf
      have hc := ct_X10_count (a1 := 6) (State_cells := State_cells) (History_oldest := History_oldest) (History_size := History_size) (History_snapshotTaken := History_snapshotTaken) (History_saved := History_saved) (History_snapshot := History_snapshot) (Buffer_size := Buffer_size) (Buffer_codes := Buffer_codes) (Reader_pattern := Reader_pattern) (Reader_place := Reader_place) (Word_size := e35.2.2.2.2.2.2.2.1) (Word_letters := e35.2.2.2.2.2.2.2.2) hv46
      rcases hv46b : v46 with v47 | E9
      · rw [hv46b] at hc hf
        dsimp only [fth] at hf
        refine V.callVn (pl := [0, 1, 2, 3, 4, 5, 6, 7, 8, 9, 10]) (σ' := [.inl (5, [.ref 1, .ref 3, .ref 6, .ref 8, .ref 9]), .inl (3, [.ref 2]), .inr (910, .inl State_cells), .inl (1, [.ref 4, .ref 5, .int History_oldest, .int History_size, .int History_snapshotTaken]), .inr (5460, .inl History_saved), .inr (910, .inl History_snapshot), .inl (0, [.ref 7, .int Buffer_size]), .inr (60, .inl Buffer_codes), .inl (2, [.ref (Reader_pattern + 1000), .int Reader_place]), .inl (4, [.ref 10, .int e35.2.2.2.2.2.2.2.1]), .inr (8, .inl e35.2.2.2.2.2.2.2.2)]) (st2 := [.int v47]) (cl2 := 0) (sl2 := 0) hc dL_holds_294 w404 ⟨w405, w406⟩ cal_X10_count rfl ⟨⟨Nat.le_of_ble_eq_true rfl, Nat.le_of_ble_eq_true rfl⟩, Nat.le_of_ble_eq_true rfl, Nat.le_of_ble_eq_true rfl⟩ (Nat.le_of_ble_eq_true rfl) ⟨_, _, _, _, rfl, rfl⟩ rfl ⟨rfl, ⟨by decide, by decide⟩, rfl, (fr_cons (Or.inl (Nat.le_of_ble_eq_true rfl)) (fr_cons (Or.inl (Nat.le_of_ble_eq_true rfl)) (fr_cons (Or.inl (Nat.le_of_ble_eq_true rfl)) (fr_cons (Or.inl (Nat.le_of_ble_eq_true rfl)) (fr_cons (Or.inl (Nat.le_of_ble_eq_true rfl)) (fr_cons (Or.inl (Nat.le_of_ble_eq_true rfl)) (fr_cons (Or.inl (Nat.le_of_ble_eq_true rfl)) (fr_cons (Or.inl (Nat.le_of_ble_eq_true rfl)) (fr_cons (Or.inl (Nat.le_of_ble_eq_true rfl)) (fr_cons (Or.inr (Nat.le_add_left 1000 _)) (fr_cons (Or.inl (Nat.le_of_ble_eq_true rfl)) (fr_nil)))))))))))), rfl⟩ fr_i rfl rfl rfl rfl ?_
        refine V.istore (i := 8) (L' := [some (.ref 0), some (.int e35.1), some (.int e35.2.1), some (.int e35.2.2.1), some (.int e35.2.2.2.1), some (.int e35.2.2.2.2.1), some (.int e35.2.2.2.2.2.1), some (.int e45.1), some (.int v47), none, none]) dL_holds_297 (Nat.le_of_ble_eq_true rfl) rfl rfl ?_
        refine V.iconst (v := 0) dL_holds_299 rfl ?_
        refine V.istore (i := 9) (L' := [some (.ref 0), some (.int e35.1), some (.int e35.2.1), some (.int e35.2.2.1), some (.int e35.2.2.2.1), some (.int e35.2.2.2.2.1), some (.int e35.2.2.2.2.2.1), some (.int e45.1), some (.int v47), some (.int 0), none]) dL_holds_300 (Nat.le_of_ble_eq_true rfl) rfl rfl ?_
        obtain ⟨r70, hr70, hf⟩ := fbind hf
        rcases r70 with r9 | e71
        · obtain rfl := Option.some.inj (show some _ = some res from hf)
          exact v_L_holds_L302 gF hr70 (fun _ h => by cases h; exact ⟨rfl, rfl⟩) (fun _ h => by cases h)
        · replace hf : _ = some res := hf
          dsimp only [fsum] at hf
          refine v_L_holds_L302 gF hr70 (fun _ h => by cases h) (fun _ h => ?_)
          cases h
          refine V.iload (i := 6) dL_holds_401 rfl ?_
          refine V.if_ne (tgt := 410) dL_holds_403 (by decide) (fun h => ?_) (fun h => ?_)
          · have hf := fif_f h hf
            refine V.iload (i := 6) dL_holds_410 rfl ?_
            refine V.iload (i := 5) dL_holds_412 rfl ?_
            refine V.isub dL_holds_414 ?_
            refine V.i2d dL_holds_415 ?_
            refine V.iload (i := 6) dL_holds_416 rfl ?_
            refine V.i2d dL_holds_418 ?_
            obtain ⟨hn, v72, ev72, hf⟩ := fnn_e hf
            refine V.ddiv dL_holds_419 hn ?_
            refine V.cgd ev72 ?_
            refine V.dstore (i := 9) (L' := [some (.ref 0), some (.int e35.1), some (.int e35.2.1), some (.int e35.2.2.1), some (.int e35.2.2.2.1), some (.int e35.2.2.2.2.1), some (.int e35.2.2.2.2.2.1), some (.int e45.1), some (.int v47), some (.double v72), none]) dL_holds_420 (Nat.le_of_ble_eq_true rfl) rfl rfl ?_
            refine V.aload_n (i := 0) dL_holds_422 rfl rfl ?_
            refine V.iconst (v := 0) dL_holds_423 rfl ?_
            obtain ⟨v73, hv73, hf⟩ := fbind hf
            have hc := ct_X10_count (a1 := 0) (State_cells := State_cells) (History_oldest := History_oldest) (History_size := History_size) (History_snapshotTaken := History_snapshotTaken) (History_saved := History_saved) (History_snapshot := History_snapshot) (Buffer_size := Buffer_size) (Buffer_codes := Buffer_codes) (Reader_pattern := Reader_pattern) (Reader_place := Reader_place) (Word_size := e35.2.2.2.2.2.2.2.1) (Word_letters := e35.2.2.2.2.2.2.2.2) hv73
            rcases hv73b : v73 with v74 | E9
            · rw [hv73b] at hc hf
              dsimp only [fth] at hf
              refine V.callVn (pl := [0, 1, 2, 3, 4, 5, 6, 7, 8, 9, 10]) (σ' := [.inl (5, [.ref 1, .ref 3, .ref 6, .ref 8, .ref 9]), .inl (3, [.ref 2]), .inr (910, .inl State_cells), .inl (1, [.ref 4, .ref 5, .int History_oldest, .int History_size, .int History_snapshotTaken]), .inr (5460, .inl History_saved), .inr (910, .inl History_snapshot), .inl (0, [.ref 7, .int Buffer_size]), .inr (60, .inl Buffer_codes), .inl (2, [.ref (Reader_pattern + 1000), .int Reader_place]), .inl (4, [.ref 10, .int e35.2.2.2.2.2.2.2.1]), .inr (8, .inl e35.2.2.2.2.2.2.2.2)]) (st2 := [.int v74]) (cl2 := 0) (sl2 := 0) hc dL_holds_424 w404 ⟨w405, w406⟩ cal_X10_count rfl ⟨⟨Nat.le_of_ble_eq_true rfl, Nat.le_of_ble_eq_true rfl⟩, Nat.le_of_ble_eq_true rfl, Nat.le_of_ble_eq_true rfl⟩ (Nat.le_of_ble_eq_true rfl) ⟨_, _, _, _, rfl, rfl⟩ rfl ⟨rfl, ⟨by decide, by decide⟩, rfl, (fr_cons (Or.inl (Nat.le_of_ble_eq_true rfl)) (fr_cons (Or.inl (Nat.le_of_ble_eq_true rfl)) (fr_cons (Or.inl (Nat.le_of_ble_eq_true rfl)) (fr_cons (Or.inl (Nat.le_of_ble_eq_true rfl)) (fr_cons (Or.inl (Nat.le_of_ble_eq_true rfl)) (fr_cons (Or.inl (Nat.le_of_ble_eq_true rfl)) (fr_cons (Or.inl (Nat.le_of_ble_eq_true rfl)) (fr_cons (Or.inl (Nat.le_of_ble_eq_true rfl)) (fr_cons (Or.inl (Nat.le_of_ble_eq_true rfl)) (fr_cons (Or.inr (Nat.le_add_left 1000 _)) (fr_cons (Or.inl (Nat.le_of_ble_eq_true rfl)) (fr_nil)))))))))))), rfl⟩ fr_i rfl rfl rfl rfl ?_
              refine V.iload_n (i := 1) dL_holds_427 rfl rfl ?_
              refine V.icmp_ne (tgt := 558) dL_holds_428 (by decide) (fun h => ?_) (fun h => ?_)
              · have hf := fif_f h hf
                refine V.iconst (v := 0) dL_holds_558 rfl ?_
                obtain rfl := Option.some.inj hf
                exact V.zret (v := 0) dL_holds_559 rfl (by decide +kernel) (Nat.le_of_ble_eq_true rfl) (Nat.le_of_ble_eq_true rfl) rfl
              · have hf := fif_t h hf
                refine V.aload_n (i := 0) dL_holds_431 rfl rfl ?_
                refine V.iconst (v := 2) dL_holds_432 rfl ?_
                obtain ⟨v75, hv75, hf⟩ := fbind hf
                have hc := ct_X10_count (a1 := 2) (State_cells := State_cells) (History_oldest := History_oldest) (History_size := History_size) (History_snapshotTaken := History_snapshotTaken) (History_saved := History_saved) (History_snapshot := History_snapshot) (Buffer_size := Buffer_size) (Buffer_codes := Buffer_codes) (Reader_pattern := Reader_pattern) (Reader_place := Reader_place) (Word_size := e35.2.2.2.2.2.2.2.1) (Word_letters := e35.2.2.2.2.2.2.2.2) hv75
                rcases hv75b : v75 with v76 | E9
                · rw [hv75b] at hc hf
                  dsimp only [fth] at hf
                  refine V.callVn (pl := [0, 1, 2, 3, 4, 5, 6, 7, 8, 9, 10]) (σ' := [.inl (5, [.ref 1, .ref 3, .ref 6, .ref 8, .ref 9]), .inl (3, [.ref 2]), .inr (910, .inl State_cells), .inl (1, [.ref 4, .ref 5, .int History_oldest, .int History_size, .int History_snapshotTaken]), .inr (5460, .inl History_saved), .inr (910, .inl History_snapshot), .inl (0, [.ref 7, .int Buffer_size]), .inr (60, .inl Buffer_codes), .inl (2, [.ref (Reader_pattern + 1000), .int Reader_place]), .inl (4, [.ref 10, .int e35.2.2.2.2.2.2.2.1]), .inr (8, .inl e35.2.2.2.2.2.2.2.2)]) (st2 := [.int v76]) (cl2 := 0) (sl2 := 0) hc dL_holds_433 w404 ⟨w405, w406⟩ cal_X10_count rfl ⟨⟨Nat.le_of_ble_eq_true rfl, Nat.le_of_ble_eq_true rfl⟩, Nat.le_of_ble_eq_true rfl, Nat.le_of_ble_eq_true rfl⟩ (Nat.le_of_ble_eq_true rfl) ⟨_, _, _, _, rfl, rfl⟩ rfl ⟨rfl, ⟨by decide, by decide⟩, rfl, (fr_cons (Or.inl (Nat.le_of_ble_eq_true rfl)) (fr_cons (Or.inl (Nat.le_of_ble_eq_true rfl)) (fr_cons (Or.inl (Nat.le_of_ble_eq_true rfl)) (fr_cons (Or.inl (Nat.le_of_ble_eq_true rfl)) (fr_cons (Or.inl (Nat.le_of_ble_eq_true rfl)) (fr_cons (Or.inl (Nat.le_of_ble_eq_true rfl)) (fr_cons (Or.inl (Nat.le_of_ble_eq_true rfl)) (fr_cons (Or.inl (Nat.le_of_ble_eq_true rfl)) (fr_cons (Or.inl (Nat.le_of_ble_eq_true rfl)) (fr_cons (Or.inr (Nat.le_add_left 1000 _)) (fr_cons (Or.inl (Nat.le_of_ble_eq_true rfl)) (fr_nil)))))))))))), rfl⟩ fr_i rfl rfl rfl rfl ?_
                  refine V.iload_n (i := 2) dL_holds_436 rfl rfl ?_
                  refine V.icmp_ne (tgt := 558) dL_holds_437 (by decide) (fun h => ?_) (fun h => ?_)
                  · have hf := fif_f h hf
                    refine V.iconst (v := 0) dL_holds_558 rfl ?_
                    obtain rfl := Option.some.inj hf
                    exact V.zret (v := 0) dL_holds_559 rfl (by decide +kernel) (Nat.le_of_ble_eq_true rfl) (Nat.le_of_ble_eq_true rfl) rfl
                  · have hf := fif_t h hf
                    refine V.aload_n (i := 0) dL_holds_440 rfl rfl ?_
                    refine V.iconst (v := 3) dL_holds_441 rfl ?_
                    obtain ⟨v77, hv77, hf⟩ := fbind hf
                    have hc := ct_X10_count (a1 := 3) (State_cells := State_cells) (History_oldest := History_oldest) (History_size := History_size) (History_snapshotTaken := History_snapshotTaken) (History_saved := History_saved) (History_snapshot := History_snapshot) (Buffer_size := Buffer_size) (Buffer_codes := Buffer_codes) (Reader_pattern := Reader_pattern) (Reader_place := Reader_place) (Word_size := e35.2.2.2.2.2.2.2.1) (Word_letters := e35.2.2.2.2.2.2.2.2) hv77
                    rcases hv77b : v77 with v78 | E9
                    · rw [hv77b] at hc hf
                      dsimp only [fth] at hf
                      refine V.callVn (pl := [0, 1, 2, 3, 4, 5, 6, 7, 8, 9, 10]) (σ' := [.inl (5, [.ref 1, .ref 3, .ref 6, .ref 8, .ref 9]), .inl (3, [.ref 2]), .inr (910, .inl State_cells), .inl (1, [.ref 4, .ref 5, .int History_oldest, .int History_size, .int History_snapshotTaken]), .inr (5460, .inl History_saved), .inr (910, .inl History_snapshot), .inl (0, [.ref 7, .int Buffer_size]), .inr (60, .inl Buffer_codes), .inl (2, [.ref (Reader_pattern + 1000), .int Reader_place]), .inl (4, [.ref 10, .int e35.2.2.2.2.2.2.2.1]), .inr (8, .inl e35.2.2.2.2.2.2.2.2)]) (st2 := [.int v78]) (cl2 := 0) (sl2 := 0) hc dL_holds_442 w404 ⟨w405, w406⟩ cal_X10_count rfl ⟨⟨Nat.le_of_ble_eq_true rfl, Nat.le_of_ble_eq_true rfl⟩, Nat.le_of_ble_eq_true rfl, Nat.le_of_ble_eq_true rfl⟩ (Nat.le_of_ble_eq_true rfl) ⟨_, _, _, _, rfl, rfl⟩ rfl ⟨rfl, ⟨by decide, by decide⟩, rfl, (fr_cons (Or.inl (Nat.le_of_ble_eq_true rfl)) (fr_cons (Or.inl (Nat.le_of_ble_eq_true rfl)) (fr_cons (Or.inl (Nat.le_of_ble_eq_true rfl)) (fr_cons (Or.inl (Nat.le_of_ble_eq_true rfl)) (fr_cons (Or.inl (Nat.le_of_ble_eq_true rfl)) (fr_cons (Or.inl (Nat.le_of_ble_eq_true rfl)) (fr_cons (Or.inl (Nat.le_of_ble_eq_true rfl)) (fr_cons (Or.inl (Nat.le_of_ble_eq_true rfl)) (fr_cons (Or.inl (Nat.le_of_ble_eq_true rfl)) (fr_cons (Or.inr (Nat.le_add_left 1000 _)) (fr_cons (Or.inl (Nat.le_of_ble_eq_true rfl)) (fr_nil)))))))))))), rfl⟩ fr_i rfl rfl rfl rfl ?_
                      refine V.iload_n (i := 2) dL_holds_445 rfl rfl ?_
                      refine V.icmp_ne (tgt := 558) dL_holds_446 (by decide) (fun h => ?_) (fun h => ?_)
                      · have hf := fif_f h hf
                        refine V.iconst (v := 0) dL_holds_558 rfl ?_
                        obtain rfl := Option.some.inj hf
                        exact V.zret (v := 0) dL_holds_559 rfl (by decide +kernel) (Nat.le_of_ble_eq_true rfl) (Nat.le_of_ble_eq_true rfl) rfl
                      · have hf := fif_t h hf
                        refine V.aload_n (i := 0) dL_holds_449 rfl rfl ?_
                        refine V.iconst (v := 4) dL_holds_450 rfl ?_
                        obtain ⟨v79, hv79, hf⟩ := fbind hf
                        have hc := ct_X10_count (a1 := 4) (State_cells := State_cells) (History_oldest := History_oldest) (History_size := History_size) (History_snapshotTaken := History_snapshotTaken) (History_saved := History_saved) (History_snapshot := History_snapshot) (Buffer_size := Buffer_size) (Buffer_codes := Buffer_codes) (Reader_pattern := Reader_pattern) (Reader_place := Reader_place) (Word_size := e35.2.2.2.2.2.2.2.1) (Word_letters := e35.2.2.2.2.2.2.2.2) hv79
                        rcases hv79b : v79 with v80 | E9
                        · rw [hv79b] at hc hf
                          dsimp only [fth] at hf
                          refine V.callVn (pl := [0, 1, 2, 3, 4, 5, 6, 7, 8, 9, 10]) (σ' := [.inl (5, [.ref 1, .ref 3, .ref 6, .ref 8, .ref 9]), .inl (3, [.ref 2]), .inr (910, .inl State_cells), .inl (1, [.ref 4, .ref 5, .int History_oldest, .int History_size, .int History_snapshotTaken]), .inr (5460, .inl History_saved), .inr (910, .inl History_snapshot), .inl (0, [.ref 7, .int Buffer_size]), .inr (60, .inl Buffer_codes), .inl (2, [.ref (Reader_pattern + 1000), .int Reader_place]), .inl (4, [.ref 10, .int e35.2.2.2.2.2.2.2.1]), .inr (8, .inl e35.2.2.2.2.2.2.2.2)]) (st2 := [.int v80]) (cl2 := 0) (sl2 := 0) hc dL_holds_451 w404 ⟨w405, w406⟩ cal_X10_count rfl ⟨⟨Nat.le_of_ble_eq_true rfl, Nat.le_of_ble_eq_true rfl⟩, Nat.le_of_ble_eq_true rfl, Nat.le_of_ble_eq_true rfl⟩ (Nat.le_of_ble_eq_true rfl) ⟨_, _, _, _, rfl, rfl⟩ rfl ⟨rfl, ⟨by decide, by decide⟩, rfl, (fr_cons (Or.inl (Nat.le_of_ble_eq_true rfl)) (fr_cons (Or.inl (Nat.le_of_ble_eq_true rfl)) (fr_cons (Or.inl (Nat.le_of_ble_eq_true rfl)) (fr_cons (Or.inl (Nat.le_of_ble_eq_true rfl)) (fr_cons (Or.inl (Nat.le_of_ble_eq_true rfl)) (fr_cons (Or.inl (Nat.le_of_ble_eq_true rfl)) (fr_cons (Or.inl (Nat.le_of_ble_eq_true rfl)) (fr_cons (Or.inl (Nat.le_of_ble_eq_true rfl)) (fr_cons (Or.inl (Nat.le_of_ble_eq_true rfl)) (fr_cons (Or.inr (Nat.le_add_left 1000 _)) (fr_cons (Or.inl (Nat.le_of_ble_eq_true rfl)) (fr_nil)))))))))))), rfl⟩ fr_i rfl rfl rfl rfl ?_
                          refine V.iload_n (i := 2) dL_holds_454 rfl rfl ?_
                          refine V.icmp_ne (tgt := 558) dL_holds_455 (by decide) (fun h => ?_) (fun h => ?_)
                          · have hf := fif_f h hf
                            refine V.iconst (v := 0) dL_holds_558 rfl ?_
                            obtain rfl := Option.some.inj hf
                            exact V.zret (v := 0) dL_holds_559 rfl (by decide +kernel) (Nat.le_of_ble_eq_true rfl) (Nat.le_of_ble_eq_true rfl) rfl
                          · have hf := fif_t h hf
                            refine V.aload_n (i := 0) dL_holds_458 rfl rfl ?_
                            refine V.iconst (v := 5) dL_holds_459 rfl ?_
                            obtain ⟨v81, hv81, hf⟩ := fbind hf
                            have hc := ct_X10_count (a1 := 5) (State_cells := State_cells) (History_oldest := History_oldest) (History_size := History_size) (History_snapshotTaken := History_snapshotTaken) (History_saved := History_saved) (History_snapshot := History_snapshot) (Buffer_size := Buffer_size) (Buffer_codes := Buffer_codes) (Reader_pattern := Reader_pattern) (Reader_place := Reader_place) (Word_size := e35.2.2.2.2.2.2.2.1) (Word_letters := e35.2.2.2.2.2.2.2.2) hv81
                            rcases hv81b : v81 with v82 | E9
                            · rw [hv81b] at hc hf
                              dsimp only [fth] at hf
                              refine V.callVn (pl := [0, 1, 2, 3, 4, 5, 6, 7, 8, 9, 10]) (σ' := [.inl (5, [.ref 1, .ref 3, .ref 6, .ref 8, .ref 9]), .inl (3, [.ref 2]), .inr (910, .inl State_cells), .inl (1, [.ref 4, .ref 5, .int History_oldest, .int History_size, .int History_snapshotTaken]), .inr (5460, .inl History_saved), .inr (910, .inl History_snapshot), .inl (0, [.ref 7, .int Buffer_size]), .inr (60, .inl Buffer_codes), .inl (2, [.ref (Reader_pattern + 1000), .int Reader_place]), .inl (4, [.ref 10, .int e35.2.2.2.2.2.2.2.1]), .inr (8, .inl e35.2.2.2.2.2.2.2.2)]) (st2 := [.int v82]) (cl2 := 0) (sl2 := 0) hc dL_holds_460 w404 ⟨w405, w406⟩ cal_X10_count rfl ⟨⟨Nat.le_of_ble_eq_true rfl, Nat.le_of_ble_eq_true rfl⟩, Nat.le_of_ble_eq_true rfl, Nat.le_of_ble_eq_true rfl⟩ (Nat.le_of_ble_eq_true rfl) ⟨_, _, _, _, rfl, rfl⟩ rfl ⟨rfl, ⟨by decide, by decide⟩, rfl, (fr_cons (Or.inl (Nat.le_of_ble_eq_true rfl)) (fr_cons (Or.inl (Nat.le_of_ble_eq_true rfl)) (fr_cons (Or.inl (Nat.le_of_ble_eq_true rfl)) (fr_cons (Or.inl (Nat.le_of_ble_eq_true rfl)) (fr_cons (Or.inl (Nat.le_of_ble_eq_true rfl)) (fr_cons (Or.inl (Nat.le_of_ble_eq_true rfl)) (fr_cons (Or.inl (Nat.le_of_ble_eq_true rfl)) (fr_cons (Or.inl (Nat.le_of_ble_eq_true rfl)) (fr_cons (Or.inl (Nat.le_of_ble_eq_true rfl)) (fr_cons (Or.inr (Nat.le_add_left 1000 _)) (fr_cons (Or.inl (Nat.le_of_ble_eq_true rfl)) (fr_nil)))))))))))), rfl⟩ fr_i rfl rfl rfl rfl ?_
                              refine V.iload (i := 5) dL_holds_463 rfl ?_
                              refine V.icmp_ne (tgt := 558) dL_holds_465 (by decide) (fun h => ?_) (fun h => ?_)
                              · have hf := fif_f h hf
                                refine V.iconst (v := 0) dL_holds_558 rfl ?_
                                obtain rfl := Option.some.inj hf
                                exact V.zret (v := 0) dL_holds_559 rfl (by decide +kernel) (Nat.le_of_ble_eq_true rfl) (Nat.le_of_ble_eq_true rfl) rfl
                              · have hf := fif_t h hf
                                refine V.iload (i := 7) dL_holds_468 rfl ?_
                                refine V.iload (i := 6) dL_holds_470 rfl ?_
                                refine V.icmp_ne (tgt := 558) dL_holds_472 (by decide) (fun h => ?_) (fun h => ?_)
                                · have hf := fif_f h hf
                                  refine V.iconst (v := 0) dL_holds_558 rfl ?_
                                  obtain rfl := Option.some.inj hf
                                  exact V.zret (v := 0) dL_holds_559 rfl (by decide +kernel) (Nat.le_of_ble_eq_true rfl) (Nat.le_of_ble_eq_true rfl) rfl
                                · have hf := fif_t h hf
                                  refine V.aload_n (i := 0) dL_holds_475 rfl rfl ?_
                                  refine V.bipush (v := 7) dL_holds_476 rfl ?_
                                  obtain ⟨v83, hv83, hf⟩ := fbind hf
                                  have hc := ct_X10_count (a1 := 7) (State_cells := State_cells) (History_oldest := History_oldest) (History_size := History_size) (History_snapshotTaken := History_snapshotTaken) (History_saved := History_saved) (History_snapshot := History_snapshot) (Buffer_size := Buffer_size) (Buffer_codes := Buffer_codes) (Reader_pattern := Reader_pattern) (Reader_place := Reader_place) (Word_size := e35.2.2.2.2.2.2.2.1) (Word_letters := e35.2.2.2.2.2.2.2.2) hv83
                                  rcases hv83b : v83 with v84 | E9
                                  · rw [hv83b] at hc hf
                                    dsimp only [fth] at hf
                                    refine V.callVn (pl := [0, 1, 2, 3, 4, 5, 6, 7, 8, 9, 10]) (σ' := [.inl (5, [.ref 1, .ref 3, .ref 6, .ref 8, .ref 9]), .inl (3, [.ref 2]), .inr (910, .inl State_cells), .inl (1, [.ref 4, .ref 5, .int History_oldest, .int History_size, .int History_snapshotTaken]), .inr (5460, .inl History_saved), .inr (910, .inl History_snapshot), .inl (0, [.ref 7, .int Buffer_size]), .inr (60, .inl Buffer_codes), .inl (2, [.ref (Reader_pattern + 1000), .int Reader_place]), .inl (4, [.ref 10, .int e35.2.2.2.2.2.2.2.1]), .inr (8, .inl e35.2.2.2.2.2.2.2.2)]) (st2 := [.int v84]) (cl2 := 0) (sl2 := 0) hc dL_holds_478 w404 ⟨w405, w406⟩ cal_X10_count rfl ⟨⟨Nat.le_of_ble_eq_true rfl, Nat.le_of_ble_eq_true rfl⟩, Nat.le_of_ble_eq_true rfl, Nat.le_of_ble_eq_true rfl⟩ (Nat.le_of_ble_eq_true rfl) ⟨_, _, _, _, rfl, rfl⟩ rfl ⟨rfl, ⟨by decide, by decide⟩, rfl, (fr_cons (Or.inl (Nat.le_of_ble_eq_true rfl)) (fr_cons (Or.inl (Nat.le_of_ble_eq_true rfl)) (fr_cons (Or.inl (Nat.le_of_ble_eq_true rfl)) (fr_cons (Or.inl (Nat.le_of_ble_eq_true rfl)) (fr_cons (Or.inl (Nat.le_of_ble_eq_true rfl)) (fr_cons (Or.inl (Nat.le_of_ble_eq_true rfl)) (fr_cons (Or.inl (Nat.le_of_ble_eq_true rfl)) (fr_cons (Or.inl (Nat.le_of_ble_eq_true rfl)) (fr_cons (Or.inl (Nat.le_of_ble_eq_true rfl)) (fr_cons (Or.inr (Nat.le_add_left 1000 _)) (fr_cons (Or.inl (Nat.le_of_ble_eq_true rfl)) (fr_nil)))))))))))), rfl⟩ fr_i rfl rfl rfl rfl ?_
                                    refine V.iload_n (i := 3) dL_holds_481 rfl rfl ?_
                                    refine V.icmp_ne (tgt := 558) dL_holds_482 (by decide) (fun h => ?_) (fun h => ?_)
                                    · have hf := fif_f h hf
                                      refine V.iconst (v := 0) dL_holds_558 rfl ?_
                                      obtain rfl := Option.some.inj hf
                                      exact V.zret (v := 0) dL_holds_559 rfl (by decide +kernel) (Nat.le_of_ble_eq_true rfl) (Nat.le_of_ble_eq_true rfl) rfl
                                    · have hf := fif_t h hf
                                      refine V.aload_n (i := 0) dL_holds_485 rfl rfl ?_
                                      refine V.bipush (v := 8) dL_holds_486 rfl ?_
                                      obtain ⟨v85, hv85, hf⟩ := fbind hf
                                      have hc := ct_X10_count (a1 := 8) (State_cells := State_cells) (History_oldest := History_oldest) (History_size := History_size) (History_snapshotTaken := History_snapshotTaken) (History_saved := History_saved) (History_snapshot := History_snapshot) (Buffer_size := Buffer_size) (Buffer_codes := Buffer_codes) (Reader_pattern := Reader_pattern) (Reader_place := Reader_place) (Word_size := e35.2.2.2.2.2.2.2.1) (Word_letters := e35.2.2.2.2.2.2.2.2) hv85
                                      rcases hv85b : v85 with v86 | E9
                                      · rw [hv85b] at hc hf
                                        dsimp only [fth] at hf
                                        refine V.callVn (pl := [0, 1, 2, 3, 4, 5, 6, 7, 8, 9, 10]) (σ' := [.inl (5, [.ref 1, .ref 3, .ref 6, .ref 8, .ref 9]), .inl (3, [.ref 2]), .inr (910, .inl State_cells), .inl (1, [.ref 4, .ref 5, .int History_oldest, .int History_size, .int History_snapshotTaken]), .inr (5460, .inl History_saved), .inr (910, .inl History_snapshot), .inl (0, [.ref 7, .int Buffer_size]), .inr (60, .inl Buffer_codes), .inl (2, [.ref (Reader_pattern + 1000), .int Reader_place]), .inl (4, [.ref 10, .int e35.2.2.2.2.2.2.2.1]), .inr (8, .inl e35.2.2.2.2.2.2.2.2)]) (st2 := [.int v86]) (cl2 := 0) (sl2 := 0) hc dL_holds_488 w404 ⟨w405, w406⟩ cal_X10_count rfl ⟨⟨Nat.le_of_ble_eq_true rfl, Nat.le_of_ble_eq_true rfl⟩, Nat.le_of_ble_eq_true rfl, Nat.le_of_ble_eq_true rfl⟩ (Nat.le_of_ble_eq_true rfl) ⟨_, _, _, _, rfl, rfl⟩ rfl ⟨rfl, ⟨by decide, by decide⟩, rfl, (fr_cons (Or.inl (Nat.le_of_ble_eq_true rfl)) (fr_cons (Or.inl (Nat.le_of_ble_eq_true rfl)) (fr_cons (Or.inl (Nat.le_of_ble_eq_true rfl)) (fr_cons (Or.inl (Nat.le_of_ble_eq_true rfl)) (fr_cons (Or.inl (Nat.le_of_ble_eq_true rfl)) (fr_cons (Or.inl (Nat.le_of_ble_eq_true rfl)) (fr_cons (Or.inl (Nat.le_of_ble_eq_true rfl)) (fr_cons (Or.inl (Nat.le_of_ble_eq_true rfl)) (fr_cons (Or.inl (Nat.le_of_ble_eq_true rfl)) (fr_cons (Or.inr (Nat.le_add_left 1000 _)) (fr_cons (Or.inl (Nat.le_of_ble_eq_true rfl)) (fr_nil)))))))))))), rfl⟩ fr_i rfl rfl rfl rfl ?_
                                        refine V.iload (i := 4) dL_holds_491 rfl ?_
                                        refine V.icmp_ne (tgt := 558) dL_holds_493 (by decide) (fun h => ?_) (fun h => ?_)
                                        · have hf := fif_f h hf
                                          refine V.iconst (v := 0) dL_holds_558 rfl ?_
                                          obtain rfl := Option.some.inj hf
                                          exact V.zret (v := 0) dL_holds_559 rfl (by decide +kernel) (Nat.le_of_ble_eq_true rfl) (Nat.le_of_ble_eq_true rfl) rfl
                                        · have hf := fif_t h hf
                                          refine V.iload (i := 8) dL_holds_496 rfl ?_
                                          refine V.iload_n (i := 3) dL_holds_498 rfl rfl ?_
                                          refine V.bipush (v := 12) dL_holds_499 rfl ?_
                                          obtain ⟨v87, ev87, hf⟩ := flet_e hf
                                          refine V.join (J := 510) (y := v87) (st' := [.int v47]) (fun tlv87 => ?_) ?_
                                          · refine V.icmp_ge (tgt := 508) dL_holds_501 (by decide) (fun h88 => ?_) (fun h88 => ?_)
                                            · refine V.bipush (v := 12) dL_holds_508 rfl ?_
                                              exact V.cgi (by rw [← ev87, if_pos h88]) tlv87
                                            · refine V.iload_n (i := 3) dL_holds_504 rfl rfl ?_
                                              refine V.goto (tgt := 510) dL_holds_505 (by decide) ?_
                                              exact V.cgi (by rw [← ev87, if_neg h88]) tlv87
                                          · refine V.icmp_ne (tgt := 558) dL_holds_510 (by decide) (fun h => ?_) (fun h => ?_)
                                            · have hf := fif_f h hf
                                              refine V.iconst (v := 0) dL_holds_558 rfl ?_
                                              obtain rfl := Option.some.inj hf
                                              exact V.zret (v := 0) dL_holds_559 rfl (by decide +kernel) (Nat.le_of_ble_eq_true rfl) (Nat.le_of_ble_eq_true rfl) rfl
                                            · have hf := fif_t h hf
                                              refine V.aload_n (i := 0) dL_holds_513 rfl rfl ?_
                                              obtain ⟨v89, hv89, hf⟩ := fbind hf
                                              refine V.callVn (pl := [0, 1, 2, 3, 4, 5, 6, 7, 8, 9, 10]) (σ' := [.inl (5, [.ref 1, .ref 3, .ref 6, .ref 8, .ref 9]), .inl (3, [.ref 2]), .inr (910, .inl State_cells), .inl (1, [.ref 4, .ref 5, .int History_oldest, .int History_size, .int History_snapshotTaken]), .inr (5460, .inl History_saved), .inr (910, .inl History_snapshot), .inl (0, [.ref 7, .int Buffer_size]), .inr (60, .inl Buffer_codes), .inl (2, [.ref (Reader_pattern + 1000), .int Reader_place]), .inl (4, [.ref 10, .int e35.2.2.2.2.2.2.2.1]), .inr (8, .inl e35.2.2.2.2.2.2.2.2)]) (st2 := [.double v89]) (cl2 := 0) (sl2 := 0) (ct_X10_trueShare (State_cells := State_cells) (History_oldest := History_oldest) (History_size := History_size) (History_snapshotTaken := History_snapshotTaken) (History_saved := History_saved) (History_snapshot := History_snapshot) (Buffer_size := Buffer_size) (Buffer_codes := Buffer_codes) (Reader_pattern := Reader_pattern) (Reader_place := Reader_place) (Word_size := e35.2.2.2.2.2.2.2.1) (Word_letters := e35.2.2.2.2.2.2.2.2) hv89) dL_holds_514 w128 ⟨w129, w130⟩ cal_X10_trueShare rfl ⟨⟨Nat.le_of_ble_eq_true rfl, Nat.le_of_ble_eq_true rfl⟩, Nat.le_of_ble_eq_true rfl, Nat.le_of_ble_eq_true rfl⟩ (Nat.le_of_ble_eq_true rfl) ⟨_, _, _, _, rfl, rfl⟩ rfl ⟨rfl, ⟨by decide, by decide⟩, rfl, (fr_cons (Or.inl (Nat.le_of_ble_eq_true rfl)) (fr_cons (Or.inl (Nat.le_of_ble_eq_true rfl)) (fr_cons (Or.inl (Nat.le_of_ble_eq_true rfl)) (fr_cons (Or.inl (Nat.le_of_ble_eq_true rfl)) (fr_cons (Or.inl (Nat.le_of_ble_eq_true rfl)) (fr_cons (Or.inl (Nat.le_of_ble_eq_true rfl)) (fr_cons (Or.inl (Nat.le_of_ble_eq_true rfl)) (fr_cons (Or.inl (Nat.le_of_ble_eq_true rfl)) (fr_cons (Or.inl (Nat.le_of_ble_eq_true rfl)) (fr_cons (Or.inr (Nat.le_add_left 1000 _)) (fr_cons (Or.inl (Nat.le_of_ble_eq_true rfl)) (fr_nil)))))))))))), rfl⟩ fr_d rfl rfl rfl rfl ?_
                                              refine V.dload (i := 9) dL_holds_517 rfl ?_
                                              refine V.dcmp dL_holds_519 ?_
                                              refine V.if_ne (tgt := 558) dL_holds_520 (by decide) (fun h => ?_) (fun h => ?_)
                                              · have hf := fif_f h hf
                                                refine V.iconst (v := 0) dL_holds_558 rfl ?_
                                                obtain rfl := Option.some.inj hf
                                                exact V.zret (v := 0) dL_holds_559 rfl (by decide +kernel) (Nat.le_of_ble_eq_true rfl) (Nat.le_of_ble_eq_true rfl) rfl
                                              · have hf := fif_t h hf
                                                refine V.aload_n (i := 0) dL_holds_523 rfl rfl ?_
                                                refine V.iconst (v := 0) dL_holds_524 rfl ?_
                                                obtain ⟨v90, hv90, hf⟩ := fbind hf
                                                have hc := ct_X10_stopped (a1 := 0) (State_cells := State_cells) (History_oldest := History_oldest) (History_size := History_size) (History_snapshotTaken := History_snapshotTaken) (History_saved := History_saved) (History_snapshot := History_snapshot) (Buffer_size := Buffer_size) (Buffer_codes := Buffer_codes) (Reader_pattern := Reader_pattern) (Reader_place := Reader_place) (Word_size := e35.2.2.2.2.2.2.2.1) (Word_letters := e35.2.2.2.2.2.2.2.2) hv90
                                                rcases hv90b : v90 with v91 | E9
                                                · rw [hv90b] at hc hf
                                                  dsimp only [fth] at hf
                                                  refine V.callVn (pl := [0, 1, 2, 3, 4, 5, 6, 7, 8, 9, 10]) (σ' := [.inl (5, [.ref 1, .ref 3, .ref 6, .ref 8, .ref 9]), .inl (3, [.ref 2]), .inr (910, .inl State_cells), .inl (1, [.ref 4, .ref 5, .int History_oldest, .int History_size, .int History_snapshotTaken]), .inr (5460, .inl History_saved), .inr (910, .inl History_snapshot), .inl (0, [.ref 7, .int Buffer_size]), .inr (60, .inl Buffer_codes), .inl (2, [.ref (Reader_pattern + 1000), .int Reader_place]), .inl (4, [.ref 10, .int e35.2.2.2.2.2.2.2.1]), .inr (8, .inl e35.2.2.2.2.2.2.2.2)]) (st2 := [.int v91]) (cl2 := 0) (sl2 := 0) hc dL_holds_525 w447 ⟨w448, w449⟩ cal_X10_stopped rfl ⟨⟨Nat.le_of_ble_eq_true rfl, Nat.le_of_ble_eq_true rfl⟩, Nat.le_of_ble_eq_true rfl, Nat.le_of_ble_eq_true rfl⟩ (Nat.le_of_ble_eq_true rfl) ⟨_, _, _, _, rfl, rfl⟩ rfl ⟨rfl, ⟨by decide, by decide⟩, rfl, (fr_cons (Or.inl (Nat.le_of_ble_eq_true rfl)) (fr_cons (Or.inl (Nat.le_of_ble_eq_true rfl)) (fr_cons (Or.inl (Nat.le_of_ble_eq_true rfl)) (fr_cons (Or.inl (Nat.le_of_ble_eq_true rfl)) (fr_cons (Or.inl (Nat.le_of_ble_eq_true rfl)) (fr_cons (Or.inl (Nat.le_of_ble_eq_true rfl)) (fr_cons (Or.inl (Nat.le_of_ble_eq_true rfl)) (fr_cons (Or.inl (Nat.le_of_ble_eq_true rfl)) (fr_cons (Or.inl (Nat.le_of_ble_eq_true rfl)) (fr_cons (Or.inr (Nat.le_add_left 1000 _)) (fr_cons (Or.inl (Nat.le_of_ble_eq_true rfl)) (fr_nil)))))))))))), rfl⟩ fr_i rfl rfl rfl rfl ?_
                                                  refine V.iconst (v := (-1)) dL_holds_528 rfl ?_
                                                  obtain ⟨v92, ev92, hf⟩ := flet_e hf
                                                  refine V.join (J := 537) (y := v92) (st' := []) (fun tlv92 => ?_) ?_
                                                  · refine V.icmp_ne (tgt := 536) dL_holds_529 (by decide) (fun h93 => ?_) (fun h93 => ?_)
                                                    · refine V.iconst (v := 0) dL_holds_536 rfl ?_
                                                      exact V.cgi (by rw [← ev92, if_neg h93]) tlv92
                                                    · refine V.iconst (v := 1) dL_holds_532 rfl ?_
                                                      refine V.goto (tgt := 537) dL_holds_533 (by decide) ?_
                                                      exact V.cgi (by rw [← ev92, if_pos h93]) tlv92
                                                  · refine V.aload_n (i := 0) dL_holds_537 rfl rfl ?_
                                                    refine V.iconst (v := 1) dL_holds_538 rfl ?_
                                                    obtain ⟨v94, hv94, hf⟩ := fbind hf
                                                    have hc := ct_X10_stopped (a1 := 1) (State_cells := State_cells) (History_oldest := History_oldest) (History_size := History_size) (History_snapshotTaken := History_snapshotTaken) (History_saved := History_saved) (History_snapshot := History_snapshot) (Buffer_size := Buffer_size) (Buffer_codes := Buffer_codes) (Reader_pattern := Reader_pattern) (Reader_place := Reader_place) (Word_size := e35.2.2.2.2.2.2.2.1) (Word_letters := e35.2.2.2.2.2.2.2.2) hv94
                                                    rcases hv94b : v94 with v95 | E9
                                                    · rw [hv94b] at hc hf
                                                      dsimp only [fth] at hf
                                                      refine V.callVn (pl := [0, 1, 2, 3, 4, 5, 6, 7, 8, 9, 10]) (σ' := [.inl (5, [.ref 1, .ref 3, .ref 6, .ref 8, .ref 9]), .inl (3, [.ref 2]), .inr (910, .inl State_cells), .inl (1, [.ref 4, .ref 5, .int History_oldest, .int History_size, .int History_snapshotTaken]), .inr (5460, .inl History_saved), .inr (910, .inl History_snapshot), .inl (0, [.ref 7, .int Buffer_size]), .inr (60, .inl Buffer_codes), .inl (2, [.ref (Reader_pattern + 1000), .int Reader_place]), .inl (4, [.ref 10, .int e35.2.2.2.2.2.2.2.1]), .inr (8, .inl e35.2.2.2.2.2.2.2.2)]) (st2 := [.int v95, .int v92]) (cl2 := 0) (sl2 := 0) hc dL_holds_539 w447 ⟨w448, w449⟩ cal_X10_stopped rfl ⟨⟨Nat.le_of_ble_eq_true rfl, Nat.le_of_ble_eq_true rfl⟩, Nat.le_of_ble_eq_true rfl, Nat.le_of_ble_eq_true rfl⟩ (Nat.le_of_ble_eq_true rfl) ⟨_, _, _, _, rfl, rfl⟩ rfl ⟨rfl, ⟨by decide, by decide⟩, rfl, (fr_cons (Or.inl (Nat.le_of_ble_eq_true rfl)) (fr_cons (Or.inl (Nat.le_of_ble_eq_true rfl)) (fr_cons (Or.inl (Nat.le_of_ble_eq_true rfl)) (fr_cons (Or.inl (Nat.le_of_ble_eq_true rfl)) (fr_cons (Or.inl (Nat.le_of_ble_eq_true rfl)) (fr_cons (Or.inl (Nat.le_of_ble_eq_true rfl)) (fr_cons (Or.inl (Nat.le_of_ble_eq_true rfl)) (fr_cons (Or.inl (Nat.le_of_ble_eq_true rfl)) (fr_cons (Or.inl (Nat.le_of_ble_eq_true rfl)) (fr_cons (Or.inr (Nat.le_add_left 1000 _)) (fr_cons (Or.inl (Nat.le_of_ble_eq_true rfl)) (fr_nil)))))))))))), rfl⟩ fr_i rfl rfl rfl rfl ?_
                                                      refine V.iconst (v := (-1)) dL_holds_542 rfl ?_
                                                      obtain ⟨v96, ev96, hf⟩ := flet_e hf
                                                      refine V.join (J := 551) (y := v96) (st' := [.int v92]) (fun tlv96 => ?_) ?_
                                                      · refine V.icmp_ne (tgt := 550) dL_holds_543 (by decide) (fun h97 => ?_) (fun h97 => ?_)
                                                        · refine V.iconst (v := 0) dL_holds_550 rfl ?_
                                                          exact V.cgi (by rw [← ev96, if_neg h97]) tlv96
                                                        · refine V.iconst (v := 1) dL_holds_546 rfl ?_
                                                          refine V.goto (tgt := 551) dL_holds_547 (by decide) ?_
                                                          exact V.cgi (by rw [← ev96, if_pos h97]) tlv96
                                                      · obtain ⟨v98, ev98, hf⟩ := flet_e hf
                                                        refine V.join (J := 559) (y := v98) (st' := []) (fun tlv98 => ?_) ?_
                                                        · refine V.icmp_ne (tgt := 558) dL_holds_551 (by decide) (fun h99 => ?_) (fun h99 => ?_)
                                                          · refine V.iconst (v := 0) dL_holds_558 rfl ?_
                                                            exact V.cgi (by rw [← ev98, if_neg h99]) tlv98
                                                          · refine V.iconst (v := 1) dL_holds_554 rfl ?_
                                                            refine V.goto (tgt := 559) dL_holds_555 (by decide) ?_
                                                            exact V.cgi (by rw [← ev98, if_pos h99]) tlv98
                                                        · obtain ⟨hz, hf⟩ := fz_e hf
                                                          obtain rfl := Option.some.inj hf
                                                          exact V.zret (v := v98) dL_holds_559 rfl hz (Nat.le_of_ble_eq_true rfl) (Nat.le_of_ble_eq_true rfl) rfl
                                                    · rw [hv94b] at hc hf
                                                      dsimp only [fth] at hf
                                                      cases hf
                                                · rw [hv90b] at hc hf
                                                  dsimp only [fth] at hf
                                                  cases hf
                                      · rw [hv85b] at hc hf
                                        dsimp only [fth] at hf
                                        cases hf
                                  · rw [hv83b] at hc hf
                                    dsimp only [fth] at hf
                                    cases hf
                            · rw [hv81b] at hc hf
                              dsimp only [fth] at hf
                              cases hf
                        · rw [hv79b] at hc hf
                          dsimp only [fth] at hf
                          cases hf
                    · rw [hv77b] at hc hf
                      dsimp only [fth] at hf
                      cases hf
                · rw [hv75b] at hc hf
                  dsimp only [fth] at hf
                  cases hf
            · rw [hv73b] at hc hf
              dsimp only [fth] at hf
              cases hf
          · have hf := fif_t h hf
            refine V.dconst1 dL_holds_406 ?_
            refine V.goto (tgt := 420) dL_holds_407 (by decide) ?_
            refine V.dstore (i := 9) (L' := [some (.ref 0), some (.int e35.1), some (.int e35.2.1), some (.int e35.2.2.1), some (.int e35.2.2.2.1), some (.int e35.2.2.2.2.1), some (.int e35.2.2.2.2.2.1), some (.int e45.1), some (.int v47), some (.double FP.dconst1), none]) dL_holds_420 (Nat.le_of_ble_eq_true rfl) rfl rfl ?_
            refine V.aload_n (i := 0) dL_holds_422 rfl rfl ?_
            refine V.iconst (v := 0) dL_holds_423 rfl ?_
            obtain ⟨v100, hv100, hf⟩ := fbind hf
            have hc := ct_X10_count (a1 := 0) (State_cells := State_cells) (History_oldest := History_oldest) (History_size := History_size) (History_snapshotTaken := History_snapshotTaken) (History_saved := History_saved) (History_snapshot := History_snapshot) (Buffer_size := Buffer_size) (Buffer_codes := Buffer_codes) (Reader_pattern := Reader_pattern) (Reader_place := Reader_place) (Word_size := e35.2.2.2.2.2.2.2.1) (Word_letters := e35.2.2.2.2.2.2.2.2) hv100
            rcases hv100b : v100 with v101 | E9
            · rw [hv100b] at hc hf
              dsimp only [fth] at hf
              refine V.callVn (pl := [0, 1, 2, 3, 4, 5, 6, 7, 8, 9, 10]) (σ' := [.inl (5, [.ref 1, .ref 3, .ref 6, .ref 8, .ref 9]), .inl (3, [.ref 2]), .inr (910, .inl State_cells), .inl (1, [.ref 4, .ref 5, .int History_oldest, .int History_size, .int History_snapshotTaken]), .inr (5460, .inl History_saved), .inr (910, .inl History_snapshot), .inl (0, [.ref 7, .int Buffer_size]), .inr (60, .inl Buffer_codes), .inl (2, [.ref (Reader_pattern + 1000), .int Reader_place]), .inl (4, [.ref 10, .int e35.2.2.2.2.2.2.2.1]), .inr (8, .inl e35.2.2.2.2.2.2.2.2)]) (st2 := [.int v101]) (cl2 := 0) (sl2 := 0) hc dL_holds_424 w404 ⟨w405, w406⟩ cal_X10_count rfl ⟨⟨Nat.le_of_ble_eq_true rfl, Nat.le_of_ble_eq_true rfl⟩, Nat.le_of_ble_eq_true rfl, Nat.le_of_ble_eq_true rfl⟩ (Nat.le_of_ble_eq_true rfl) ⟨_, _, _, _, rfl, rfl⟩ rfl ⟨rfl, ⟨by decide, by decide⟩, rfl, (fr_cons (Or.inl (Nat.le_of_ble_eq_true rfl)) (fr_cons (Or.inl (Nat.le_of_ble_eq_true rfl)) (fr_cons (Or.inl (Nat.le_of_ble_eq_true rfl)) (fr_cons (Or.inl (Nat.le_of_ble_eq_true rfl)) (fr_cons (Or.inl (Nat.le_of_ble_eq_true rfl)) (fr_cons (Or.inl (Nat.le_of_ble_eq_true rfl)) (fr_cons (Or.inl (Nat.le_of_ble_eq_true rfl)) (fr_cons (Or.inl (Nat.le_of_ble_eq_true rfl)) (fr_cons (Or.inl (Nat.le_of_ble_eq_true rfl)) (fr_cons (Or.inr (Nat.le_add_left 1000 _)) (fr_cons (Or.inl (Nat.le_of_ble_eq_true rfl)) (fr_nil)))))))))))), rfl⟩ fr_i rfl rfl rfl rfl ?_
              refine V.iload_n (i := 1) dL_holds_427 rfl rfl ?_
              refine V.icmp_ne (tgt := 558) dL_holds_428 (by decide) (fun h => ?_) (fun h => ?_)
              · have hf := fif_f h hf
                refine V.iconst (v := 0) dL_holds_558 rfl ?_
                obtain rfl := Option.some.inj hf
                exact V.zret (v := 0) dL_holds_559 rfl (by decide +kernel) (Nat.le_of_ble_eq_true rfl) (Nat.le_of_ble_eq_true rfl) rfl
              · have hf := fif_t h hf
                refine V.aload_n (i := 0) dL_holds_431 rfl rfl ?_
                refine V.iconst (v := 2) dL_holds_432 rfl ?_
                obtain ⟨v102, hv102, hf⟩ := fbind hf
                have hc := ct_X10_count (a1 := 2) (State_cells := State_cells) (History_oldest := History_oldest) (History_size := History_size) (History_snapshotTaken := History_snapshotTaken) (History_saved := History_saved) (History_snapshot := History_snapshot) (Buffer_size := Buffer_size) (Buffer_codes := Buffer_codes) (Reader_pattern := Reader_pattern) (Reader_place := Reader_place) (Word_size := e35.2.2.2.2.2.2.2.1) (Word_letters := e35.2.2.2.2.2.2.2.2) hv102
                rcases hv102b : v102 with v103 | E9
                · rw [hv102b] at hc hf
                  dsimp only [fth] at hf
                  refine V.callVn (pl := [0, 1, 2, 3, 4, 5, 6, 7, 8, 9, 10]) (σ' := [.inl (5, [.ref 1, .ref 3, .ref 6, .ref 8, .ref 9]), .inl (3, [.ref 2]), .inr (910, .inl State_cells), .inl (1, [.ref 4, .ref 5, .int History_oldest, .int History_size, .int History_snapshotTaken]), .inr (5460, .inl History_saved), .inr (910, .inl History_snapshot), .inl (0, [.ref 7, .int Buffer_size]), .inr (60, .inl Buffer_codes), .inl (2, [.ref (Reader_pattern + 1000), .int Reader_place]), .inl (4, [.ref 10, .int e35.2.2.2.2.2.2.2.1]), .inr (8, .inl e35.2.2.2.2.2.2.2.2)]) (st2 := [.int v103]) (cl2 := 0) (sl2 := 0) hc dL_holds_433 w404 ⟨w405, w406⟩ cal_X10_count rfl ⟨⟨Nat.le_of_ble_eq_true rfl, Nat.le_of_ble_eq_true rfl⟩, Nat.le_of_ble_eq_true rfl, Nat.le_of_ble_eq_true rfl⟩ (Nat.le_of_ble_eq_true rfl) ⟨_, _, _, _, rfl, rfl⟩ rfl ⟨rfl, ⟨by decide, by decide⟩, rfl, (fr_cons (Or.inl (Nat.le_of_ble_eq_true rfl)) (fr_cons (Or.inl (Nat.le_of_ble_eq_true rfl)) (fr_cons (Or.inl (Nat.le_of_ble_eq_true rfl)) (fr_cons (Or.inl (Nat.le_of_ble_eq_true rfl)) (fr_cons (Or.inl (Nat.le_of_ble_eq_true rfl)) (fr_cons (Or.inl (Nat.le_of_ble_eq_true rfl)) (fr_cons (Or.inl (Nat.le_of_ble_eq_true rfl)) (fr_cons (Or.inl (Nat.le_of_ble_eq_true rfl)) (fr_cons (Or.inl (Nat.le_of_ble_eq_true rfl)) (fr_cons (Or.inr (Nat.le_add_left 1000 _)) (fr_cons (Or.inl (Nat.le_of_ble_eq_true rfl)) (fr_nil)))))))))))), rfl⟩ fr_i rfl rfl rfl rfl ?_
                  refine V.iload_n (i := 2) dL_holds_436 rfl rfl ?_
                  refine V.icmp_ne (tgt := 558) dL_holds_437 (by decide) (fun h => ?_) (fun h => ?_)
                  · have hf := fif_f h hf
                    refine V.iconst (v := 0) dL_holds_558 rfl ?_
                    obtain rfl := Option.some.inj hf
                    exact V.zret (v := 0) dL_holds_559 rfl (by decide +kernel) (Nat.le_of_ble_eq_true rfl) (Nat.le_of_ble_eq_true rfl) rfl
                  · have hf := fif_t h hf
                    refine V.aload_n (i := 0) dL_holds_440 rfl rfl ?_
                    refine V.iconst (v := 3) dL_holds_441 rfl ?_
                    obtain ⟨v104, hv104, hf⟩ := fbind hf
                    have hc := ct_X10_count (a1 := 3) (State_cells := State_cells) (History_oldest := History_oldest) (History_size := History_size) (History_snapshotTaken := History_snapshotTaken) (History_saved := History_saved) (History_snapshot := History_snapshot) (Buffer_size := Buffer_size) (Buffer_codes := Buffer_codes) (Reader_pattern := Reader_pattern) (Reader_place := Reader_place) (Word_size := e35.2.2.2.2.2.2.2.1) (Word_letters := e35.2.2.2.2.2.2.2.2) hv104
                    rcases hv104b : v104 with v105 | E9
                    · rw [hv104b] at hc hf
                      dsimp only [fth] at hf
                      refine V.callVn (pl := [0, 1, 2, 3, 4, 5, 6, 7, 8, 9, 10]) (σ' := [.inl (5, [.ref 1, .ref 3, .ref 6, .ref 8, .ref 9]), .inl (3, [.ref 2]), .inr (910, .inl State_cells), .inl (1, [.ref 4, .ref 5, .int History_oldest, .int History_size, .int History_snapshotTaken]), .inr (5460, .inl History_saved), .inr (910, .inl History_snapshot), .inl (0, [.ref 7, .int Buffer_size]), .inr (60, .inl Buffer_codes), .inl (2, [.ref (Reader_pattern + 1000), .int Reader_place]), .inl (4, [.ref 10, .int e35.2.2.2.2.2.2.2.1]), .inr (8, .inl e35.2.2.2.2.2.2.2.2)]) (st2 := [.int v105]) (cl2 := 0) (sl2 := 0) hc dL_holds_442 w404 ⟨w405, w406⟩ cal_X10_count rfl ⟨⟨Nat.le_of_ble_eq_true rfl, Nat.le_of_ble_eq_true rfl⟩, Nat.le_of_ble_eq_true rfl, Nat.le_of_ble_eq_true rfl⟩ (Nat.le_of_ble_eq_true rfl) ⟨_, _, _, _, rfl, rfl⟩ rfl ⟨rfl, ⟨by decide, by decide⟩, rfl, (fr_cons (Or.inl (Nat.le_of_ble_eq_true rfl)) (fr_cons (Or.inl (Nat.le_of_ble_eq_true rfl)) (fr_cons (Or.inl (Nat.le_of_ble_eq_true rfl)) (fr_cons (Or.inl (Nat.le_of_ble_eq_true rfl)) (fr_cons (Or.inl (Nat.le_of_ble_eq_true rfl)) (fr_cons (Or.inl (Nat.le_of_ble_eq_true rfl)) (fr_cons (Or.inl (Nat.le_of_ble_eq_true rfl)) (fr_cons (Or.inl (Nat.le_of_ble_eq_true rfl)) (fr_cons (Or.inl (Nat.le_of_ble_eq_true rfl)) (fr_cons (Or.inr (Nat.le_add_left 1000 _)) (fr_cons (Or.inl (Nat.le_of_ble_eq_true rfl)) (fr_nil)))))))))))), rfl⟩ fr_i rfl rfl rfl rfl ?_
                      refine V.iload_n (i := 2) dL_holds_445 rfl rfl ?_
                      refine V.icmp_ne (tgt := 558) dL_holds_446 (by decide) (fun h => ?_) (fun h => ?_)
                      · have hf := fif_f h hf
                        refine V.iconst (v := 0) dL_holds_558 rfl ?_
                        obtain rfl := Option.some.inj hf
                        exact V.zret (v := 0) dL_holds_559 rfl (by decide +kernel) (Nat.le_of_ble_eq_true rfl) (Nat.le_of_ble_eq_true rfl) rfl
                      · have hf := fif_t h hf
                        refine V.aload_n (i := 0) dL_holds_449 rfl rfl ?_
                        refine V.iconst (v := 4) dL_holds_450 rfl ?_
                        obtain ⟨v106, hv106, hf⟩ := fbind hf
                        have hc := ct_X10_count (a1 := 4) (State_cells := State_cells) (History_oldest := History_oldest) (History_size := History_size) (History_snapshotTaken := History_snapshotTaken) (History_saved := History_saved) (History_snapshot := History_snapshot) (Buffer_size := Buffer_size) (Buffer_codes := Buffer_codes) (Reader_pattern := Reader_pattern) (Reader_place := Reader_place) (Word_size := e35.2.2.2.2.2.2.2.1) (Word_letters := e35.2.2.2.2.2.2.2.2) hv106
                        rcases hv106b : v106 with v107 | E9
                        · rw [hv106b] at hc hf
                          dsimp only [fth] at hf
                          refine V.callVn (pl := [0, 1, 2, 3, 4, 5, 6, 7, 8, 9, 10]) (σ' := [.inl (5, [.ref 1, .ref 3, .ref 6, .ref 8, .ref 9]), .inl (3, [.ref 2]), .inr (910, .inl State_cells), .inl (1, [.ref 4, .ref 5, .int History_oldest, .int History_size, .int History_snapshotTaken]), .inr (5460, .inl History_saved), .inr (910, .inl History_snapshot), .inl (0, [.ref 7, .int Buffer_size]), .inr (60, .inl Buffer_codes), .inl (2, [.ref (Reader_pattern + 1000), .int Reader_place]), .inl (4, [.ref 10, .int e35.2.2.2.2.2.2.2.1]), .inr (8, .inl e35.2.2.2.2.2.2.2.2)]) (st2 := [.int v107]) (cl2 := 0) (sl2 := 0) hc dL_holds_451 w404 ⟨w405, w406⟩ cal_X10_count rfl ⟨⟨Nat.le_of_ble_eq_true rfl, Nat.le_of_ble_eq_true rfl⟩, Nat.le_of_ble_eq_true rfl, Nat.le_of_ble_eq_true rfl⟩ (Nat.le_of_ble_eq_true rfl) ⟨_, _, _, _, rfl, rfl⟩ rfl ⟨rfl, ⟨by decide, by decide⟩, rfl, (fr_cons (Or.inl (Nat.le_of_ble_eq_true rfl)) (fr_cons (Or.inl (Nat.le_of_ble_eq_true rfl)) (fr_cons (Or.inl (Nat.le_of_ble_eq_true rfl)) (fr_cons (Or.inl (Nat.le_of_ble_eq_true rfl)) (fr_cons (Or.inl (Nat.le_of_ble_eq_true rfl)) (fr_cons (Or.inl (Nat.le_of_ble_eq_true rfl)) (fr_cons (Or.inl (Nat.le_of_ble_eq_true rfl)) (fr_cons (Or.inl (Nat.le_of_ble_eq_true rfl)) (fr_cons (Or.inl (Nat.le_of_ble_eq_true rfl)) (fr_cons (Or.inr (Nat.le_add_left 1000 _)) (fr_cons (Or.inl (Nat.le_of_ble_eq_true rfl)) (fr_nil)))))))))))), rfl⟩ fr_i rfl rfl rfl rfl ?_
                          refine V.iload_n (i := 2) dL_holds_454 rfl rfl ?_
                          refine V.icmp_ne (tgt := 558) dL_holds_455 (by decide) (fun h => ?_) (fun h => ?_)
                          · have hf := fif_f h hf
                            refine V.iconst (v := 0) dL_holds_558 rfl ?_
                            obtain rfl := Option.some.inj hf
                            exact V.zret (v := 0) dL_holds_559 rfl (by decide +kernel) (Nat.le_of_ble_eq_true rfl) (Nat.le_of_ble_eq_true rfl) rfl
                          · have hf := fif_t h hf
                            refine V.aload_n (i := 0) dL_holds_458 rfl rfl ?_
                            refine V.iconst (v := 5) dL_holds_459 rfl ?_
                            obtain ⟨v108, hv108, hf⟩ := fbind hf
                            have hc := ct_X10_count (a1 := 5) (State_cells := State_cells) (History_oldest := History_oldest) (History_size := History_size) (History_snapshotTaken := History_snapshotTaken) (History_saved := History_saved) (History_snapshot := History_snapshot) (Buffer_size := Buffer_size) (Buffer_codes := Buffer_codes) (Reader_pattern := Reader_pattern) (Reader_place := Reader_place) (Word_size := e35.2.2.2.2.2.2.2.1) (Word_letters := e35.2.2.2.2.2.2.2.2) hv108
                            rcases hv108b : v108 with v109 | E9
                            · rw [hv108b] at hc hf
                              dsimp only [fth] at hf
                              refine V.callVn (pl := [0, 1, 2, 3, 4, 5, 6, 7, 8, 9, 10]) (σ' := [.inl (5, [.ref 1, .ref 3, .ref 6, .ref 8, .ref 9]), .inl (3, [.ref 2]), .inr (910, .inl State_cells), .inl (1, [.ref 4, .ref 5, .int History_oldest, .int History_size, .int History_snapshotTaken]), .inr (5460, .inl History_saved), .inr (910, .inl History_snapshot), .inl (0, [.ref 7, .int Buffer_size]), .inr (60, .inl Buffer_codes), .inl (2, [.ref (Reader_pattern + 1000), .int Reader_place]), .inl (4, [.ref 10, .int e35.2.2.2.2.2.2.2.1]), .inr (8, .inl e35.2.2.2.2.2.2.2.2)]) (st2 := [.int v109]) (cl2 := 0) (sl2 := 0) hc dL_holds_460 w404 ⟨w405, w406⟩ cal_X10_count rfl ⟨⟨Nat.le_of_ble_eq_true rfl, Nat.le_of_ble_eq_true rfl⟩, Nat.le_of_ble_eq_true rfl, Nat.le_of_ble_eq_true rfl⟩ (Nat.le_of_ble_eq_true rfl) ⟨_, _, _, _, rfl, rfl⟩ rfl ⟨rfl, ⟨by decide, by decide⟩, rfl, (fr_cons (Or.inl (Nat.le_of_ble_eq_true rfl)) (fr_cons (Or.inl (Nat.le_of_ble_eq_true rfl)) (fr_cons (Or.inl (Nat.le_of_ble_eq_true rfl)) (fr_cons (Or.inl (Nat.le_of_ble_eq_true rfl)) (fr_cons (Or.inl (Nat.le_of_ble_eq_true rfl)) (fr_cons (Or.inl (Nat.le_of_ble_eq_true rfl)) (fr_cons (Or.inl (Nat.le_of_ble_eq_true rfl)) (fr_cons (Or.inl (Nat.le_of_ble_eq_true rfl)) (fr_cons (Or.inl (Nat.le_of_ble_eq_true rfl)) (fr_cons (Or.inr (Nat.le_add_left 1000 _)) (fr_cons (Or.inl (Nat.le_of_ble_eq_true rfl)) (fr_nil)))))))))))), rfl⟩ fr_i rfl rfl rfl rfl ?_
                              refine V.iload (i := 5) dL_holds_463 rfl ?_
                              refine V.icmp_ne (tgt := 558) dL_holds_465 (by decide) (fun h => ?_) (fun h => ?_)
                              · have hf := fif_f h hf
                                refine V.iconst (v := 0) dL_holds_558 rfl ?_
                                obtain rfl := Option.some.inj hf
                                exact V.zret (v := 0) dL_holds_559 rfl (by decide +kernel) (Nat.le_of_ble_eq_true rfl) (Nat.le_of_ble_eq_true rfl) rfl
                              · have hf := fif_t h hf
                                refine V.iload (i := 7) dL_holds_468 rfl ?_
                                refine V.iload (i := 6) dL_holds_470 rfl ?_
                                refine V.icmp_ne (tgt := 558) dL_holds_472 (by decide) (fun h => ?_) (fun h => ?_)
                                · have hf := fif_f h hf
                                  refine V.iconst (v := 0) dL_holds_558 rfl ?_
                                  obtain rfl := Option.some.inj hf
                                  exact V.zret (v := 0) dL_holds_559 rfl (by decide +kernel) (Nat.le_of_ble_eq_true rfl) (Nat.le_of_ble_eq_true rfl) rfl
                                · have hf := fif_t h hf
                                  refine V.aload_n (i := 0) dL_holds_475 rfl rfl ?_
                                  refine V.bipush (v := 7) dL_holds_476 rfl ?_
                                  obtain ⟨v110, hv110, hf⟩ := fbind hf
                                  have hc := ct_X10_count (a1 := 7) (State_cells := State_cells) (History_oldest := History_oldest) (History_size := History_size) (History_snapshotTaken := History_snapshotTaken) (History_saved := History_saved) (History_snapshot := History_snapshot) (Buffer_size := Buffer_size) (Buffer_codes := Buffer_codes) (Reader_pattern := Reader_pattern) (Reader_place := Reader_place) (Word_size := e35.2.2.2.2.2.2.2.1) (Word_letters := e35.2.2.2.2.2.2.2.2) hv110
                                  rcases hv110b : v110 with v111 | E9
                                  · rw [hv110b] at hc hf
                                    dsimp only [fth] at hf
                                    refine V.callVn (pl := [0, 1, 2, 3, 4, 5, 6, 7, 8, 9, 10]) (σ' := [.inl (5, [.ref 1, .ref 3, .ref 6, .ref 8, .ref 9]), .inl (3, [.ref 2]), .inr (910, .inl State_cells), .inl (1, [.ref 4, .ref 5, .int History_oldest, .int History_size, .int History_snapshotTaken]), .inr (5460, .inl History_saved), .inr (910, .inl History_snapshot), .inl (0, [.ref 7, .int Buffer_size]), .inr (60, .inl Buffer_codes), .inl (2, [.ref (Reader_pattern + 1000), .int Reader_place]), .inl (4, [.ref 10, .int e35.2.2.2.2.2.2.2.1]), .inr (8, .inl e35.2.2.2.2.2.2.2.2)]) (st2 := [.int v111]) (cl2 := 0) (sl2 := 0) hc dL_holds_478 w404 ⟨w405, w406⟩ cal_X10_count rfl ⟨⟨Nat.le_of_ble_eq_true rfl, Nat.le_of_ble_eq_true rfl⟩, Nat.le_of_ble_eq_true rfl, Nat.le_of_ble_eq_true rfl⟩ (Nat.le_of_ble_eq_true rfl) ⟨_, _, _, _, rfl, rfl⟩ rfl ⟨rfl, ⟨by decide, by decide⟩, rfl, (fr_cons (Or.inl (Nat.le_of_ble_eq_true rfl)) (fr_cons (Or.inl (Nat.le_of_ble_eq_true rfl)) (fr_cons (Or.inl (Nat.le_of_ble_eq_true rfl)) (fr_cons (Or.inl (Nat.le_of_ble_eq_true rfl)) (fr_cons (Or.inl (Nat.le_of_ble_eq_true rfl)) (fr_cons (Or.inl (Nat.le_of_ble_eq_true rfl)) (fr_cons (Or.inl (Nat.le_of_ble_eq_true rfl)) (fr_cons (Or.inl (Nat.le_of_ble_eq_true rfl)) (fr_cons (Or.inl (Nat.le_of_ble_eq_true rfl)) (fr_cons (Or.inr (Nat.le_add_left 1000 _)) (fr_cons (Or.inl (Nat.le_of_ble_eq_true rfl)) (fr_nil)))))))))))), rfl⟩ fr_i rfl rfl rfl rfl ?_
                                    refine V.iload_n (i := 3) dL_holds_481 rfl rfl ?_
                                    refine V.icmp_ne (tgt := 558) dL_holds_482 (by decide) (fun h => ?_) (fun h => ?_)
                                    · have hf := fif_f h hf
                                      refine V.iconst (v := 0) dL_holds_558 rfl ?_
                                      obtain rfl := Option.some.inj hf
                                      exact V.zret (v := 0) dL_holds_559 rfl (by decide +kernel) (Nat.le_of_ble_eq_true rfl) (Nat.le_of_ble_eq_true rfl) rfl
                                    · have hf := fif_t h hf
                                      refine V.aload_n (i := 0) dL_holds_485 rfl rfl ?_
                                      refine V.bipush (v := 8) dL_holds_486 rfl ?_
                                      obtain ⟨v112, hv112, hf⟩ := fbind hf
                                      have hc := ct_X10_count (a1 := 8) (State_cells := State_cells) (History_oldest := History_oldest) (History_size := History_size) (History_snapshotTaken := History_snapshotTaken) (History_saved := History_saved) (History_snapshot := History_snapshot) (Buffer_size := Buffer_size) (Buffer_codes := Buffer_codes) (Reader_pattern := Reader_pattern) (Reader_place := Reader_place) (Word_size := e35.2.2.2.2.2.2.2.1) (Word_letters := e35.2.2.2.2.2.2.2.2) hv112
                                      rcases hv112b : v112 with v113 | E9
                                      · rw [hv112b] at hc hf
                                        dsimp only [fth] at hf
                                        refine V.callVn (pl := [0, 1, 2, 3, 4, 5, 6, 7, 8, 9, 10]) (σ' := [.inl (5, [.ref 1, .ref 3, .ref 6, .ref 8, .ref 9]), .inl (3, [.ref 2]), .inr (910, .inl State_cells), .inl (1, [.ref 4, .ref 5, .int History_oldest, .int History_size, .int History_snapshotTaken]), .inr (5460, .inl History_saved), .inr (910, .inl History_snapshot), .inl (0, [.ref 7, .int Buffer_size]), .inr (60, .inl Buffer_codes), .inl (2, [.ref (Reader_pattern + 1000), .int Reader_place]), .inl (4, [.ref 10, .int e35.2.2.2.2.2.2.2.1]), .inr (8, .inl e35.2.2.2.2.2.2.2.2)]) (st2 := [.int v113]) (cl2 := 0) (sl2 := 0) hc dL_holds_488 w404 ⟨w405, w406⟩ cal_X10_count rfl ⟨⟨Nat.le_of_ble_eq_true rfl, Nat.le_of_ble_eq_true rfl⟩, Nat.le_of_ble_eq_true rfl, Nat.le_of_ble_eq_true rfl⟩ (Nat.le_of_ble_eq_true rfl) ⟨_, _, _, _, rfl, rfl⟩ rfl ⟨rfl, ⟨by decide, by decide⟩, rfl, (fr_cons (Or.inl (Nat.le_of_ble_eq_true rfl)) (fr_cons (Or.inl (Nat.le_of_ble_eq_true rfl)) (fr_cons (Or.inl (Nat.le_of_ble_eq_true rfl)) (fr_cons (Or.inl (Nat.le_of_ble_eq_true rfl)) (fr_cons (Or.inl (Nat.le_of_ble_eq_true rfl)) (fr_cons (Or.inl (Nat.le_of_ble_eq_true rfl)) (fr_cons (Or.inl (Nat.le_of_ble_eq_true rfl)) (fr_cons (Or.inl (Nat.le_of_ble_eq_true rfl)) (fr_cons (Or.inl (Nat.le_of_ble_eq_true rfl)) (fr_cons (Or.inr (Nat.le_add_left 1000 _)) (fr_cons (Or.inl (Nat.le_of_ble_eq_true rfl)) (fr_nil)))))))))))), rfl⟩ fr_i rfl rfl rfl rfl ?_
                                        refine V.iload (i := 4) dL_holds_491 rfl ?_
                                        refine V.icmp_ne (tgt := 558) dL_holds_493 (by decide) (fun h => ?_) (fun h => ?_)
                                        · have hf := fif_f h hf
                                          refine V.iconst (v := 0) dL_holds_558 rfl ?_
                                          obtain rfl := Option.some.inj hf
                                          exact V.zret (v := 0) dL_holds_559 rfl (by decide +kernel) (Nat.le_of_ble_eq_true rfl) (Nat.le_of_ble_eq_true rfl) rfl
                                        · have hf := fif_t h hf
                                          refine V.iload (i := 8) dL_holds_496 rfl ?_
                                          refine V.iload_n (i := 3) dL_holds_498 rfl rfl ?_
                                          refine V.bipush (v := 12) dL_holds_499 rfl ?_
                                          obtain ⟨v114, ev114, hf⟩ := flet_e hf
                                          refine V.join (J := 510) (y := v114) (st' := [.int v47]) (fun tlv114 => ?_) ?_
                                          · refine V.icmp_ge (tgt := 508) dL_holds_501 (by decide) (fun h115 => ?_) (fun h115 => ?_)
                                            · refine V.bipush (v := 12) dL_holds_508 rfl ?_
                                              exact V.cgi (by rw [← ev114, if_pos h115]) tlv114
                                            · refine V.iload_n (i := 3) dL_holds_504 rfl rfl ?_
                                              refine V.goto (tgt := 510) dL_holds_505 (by decide) ?_
                                              exact V.cgi (by rw [← ev114, if_neg h115]) tlv114
                                          · refine V.icmp_ne (tgt := 558) dL_holds_510 (by decide) (fun h => ?_) (fun h => ?_)
                                            · have hf := fif_f h hf
                                              refine V.iconst (v := 0) dL_holds_558 rfl ?_
                                              obtain rfl := Option.some.inj hf
                                              exact V.zret (v := 0) dL_holds_559 rfl (by decide +kernel) (Nat.le_of_ble_eq_true rfl) (Nat.le_of_ble_eq_true rfl) rfl
                                            · have hf := fif_t h hf
                                              refine V.aload_n (i := 0) dL_holds_513 rfl rfl ?_
                                              obtain ⟨v116, hv116, hf⟩ := fbind hf
                                              refine V.callVn (pl := [0, 1, 2, 3, 4, 5, 6, 7, 8, 9, 10]) (σ' := [.inl (5, [.ref 1, .ref 3, .ref 6, .ref 8, .ref 9]), .inl (3, [.ref 2]), .inr (910, .inl State_cells), .inl (1, [.ref 4, .ref 5, .int History_oldest, .int History_size, .int History_snapshotTaken]), .inr (5460, .inl History_saved), .inr (910, .inl History_snapshot), .inl (0, [.ref 7, .int Buffer_size]), .inr (60, .inl Buffer_codes), .inl (2, [.ref (Reader_pattern + 1000), .int Reader_place]), .inl (4, [.ref 10, .int e35.2.2.2.2.2.2.2.1]), .inr (8, .inl e35.2.2.2.2.2.2.2.2)]) (st2 := [.double v116]) (cl2 := 0) (sl2 := 0) (ct_X10_trueShare (State_cells := State_cells) (History_oldest := History_oldest) (History_size := History_size) (History_snapshotTaken := History_snapshotTaken) (History_saved := History_saved) (History_snapshot := History_snapshot) (Buffer_size := Buffer_size) (Buffer_codes := Buffer_codes) (Reader_pattern := Reader_pattern) (Reader_place := Reader_place) (Word_size := e35.2.2.2.2.2.2.2.1) (Word_letters := e35.2.2.2.2.2.2.2.2) hv116) dL_holds_514 w128 ⟨w129, w130⟩ cal_X10_trueShare rfl ⟨⟨Nat.le_of_ble_eq_true rfl, Nat.le_of_ble_eq_true rfl⟩, Nat.le_of_ble_eq_true rfl, Nat.le_of_ble_eq_true rfl⟩ (Nat.le_of_ble_eq_true rfl) ⟨_, _, _, _, rfl, rfl⟩ rfl ⟨rfl, ⟨by decide, by decide⟩, rfl, (fr_cons (Or.inl (Nat.le_of_ble_eq_true rfl)) (fr_cons (Or.inl (Nat.le_of_ble_eq_true rfl)) (fr_cons (Or.inl (Nat.le_of_ble_eq_true rfl)) (fr_cons (Or.inl (Nat.le_of_ble_eq_true rfl)) (fr_cons (Or.inl (Nat.le_of_ble_eq_true rfl)) (fr_cons (Or.inl (Nat.le_of_ble_eq_true rfl)) (fr_cons (Or.inl (Nat.le_of_ble_eq_true rfl)) (fr_cons (Or.inl (Nat.le_of_ble_eq_true rfl)) (fr_cons (Or.inl (Nat.le_of_ble_eq_true rfl)) (fr_cons (Or.inr (Nat.le_add_left 1000 _)) (fr_cons (Or.inl (Nat.le_of_ble_eq_true rfl)) (fr_nil)))))))))))), rfl⟩ fr_d rfl rfl rfl rfl ?_
                                              refine V.dload (i := 9) dL_holds_517 rfl ?_
                                              refine V.dcmp dL_holds_519 ?_
                                              refine V.if_ne (tgt := 558) dL_holds_520 (by decide) (fun h => ?_) (fun h => ?_)
                                              · have hf := fif_f h hf
                                                refine V.iconst (v := 0) dL_holds_558 rfl ?_
                                                obtain rfl := Option.some.inj hf
                                                exact V.zret (v := 0) dL_holds_559 rfl (by decide +kernel) (Nat.le_of_ble_eq_true rfl) (Nat.le_of_ble_eq_true rfl) rfl
                                              · have hf := fif_t h hf
                                                refine V.aload_n (i := 0) dL_holds_523 rfl rfl ?_
                                                refine V.iconst (v := 0) dL_holds_524 rfl ?_
                                                obtain ⟨v117, hv117, hf⟩ := fbind hf
                                                have hc := ct_X10_stopped (a1 := 0) (State_cells := State_cells) (History_oldest := History_oldest) (History_size := History_size) (History_snapshotTaken := History_snapshotTaken) (History_saved := History_saved) (History_snapshot := History_snapshot) (Buffer_size := Buffer_size) (Buffer_codes := Buffer_codes) (Reader_pattern := Reader_pattern) (Reader_place := Reader_place) (Word_size := e35.2.2.2.2.2.2.2.1) (Word_letters := e35.2.2.2.2.2.2.2.2) hv117
                                                rcases hv117b : v117 with v118 | E9
                                                · rw [hv117b] at hc hf
                                                  dsimp only [fth] at hf
                                                  refine V.callVn (pl := [0, 1, 2, 3, 4, 5, 6, 7, 8, 9, 10]) (σ' := [.inl (5, [.ref 1, .ref 3, .ref 6, .ref 8, .ref 9]), .inl (3, [.ref 2]), .inr (910, .inl State_cells), .inl (1, [.ref 4, .ref 5, .int History_oldest, .int History_size, .int History_snapshotTaken]), .inr (5460, .inl History_saved), .inr (910, .inl History_snapshot), .inl (0, [.ref 7, .int Buffer_size]), .inr (60, .inl Buffer_codes), .inl (2, [.ref (Reader_pattern + 1000), .int Reader_place]), .inl (4, [.ref 10, .int e35.2.2.2.2.2.2.2.1]), .inr (8, .inl e35.2.2.2.2.2.2.2.2)]) (st2 := [.int v118]) (cl2 := 0) (sl2 := 0) hc dL_holds_525 w447 ⟨w448, w449⟩ cal_X10_stopped rfl ⟨⟨Nat.le_of_ble_eq_true rfl, Nat.le_of_ble_eq_true rfl⟩, Nat.le_of_ble_eq_true rfl, Nat.le_of_ble_eq_true rfl⟩ (Nat.le_of_ble_eq_true rfl) ⟨_, _, _, _, rfl, rfl⟩ rfl ⟨rfl, ⟨by decide, by decide⟩, rfl, (fr_cons (Or.inl (Nat.le_of_ble_eq_true rfl)) (fr_cons (Or.inl (Nat.le_of_ble_eq_true rfl)) (fr_cons (Or.inl (Nat.le_of_ble_eq_true rfl)) (fr_cons (Or.inl (Nat.le_of_ble_eq_true rfl)) (fr_cons (Or.inl (Nat.le_of_ble_eq_true rfl)) (fr_cons (Or.inl (Nat.le_of_ble_eq_true rfl)) (fr_cons (Or.inl (Nat.le_of_ble_eq_true rfl)) (fr_cons (Or.inl (Nat.le_of_ble_eq_true rfl)) (fr_cons (Or.inl (Nat.le_of_ble_eq_true rfl)) (fr_cons (Or.inr (Nat.le_add_left 1000 _)) (fr_cons (Or.inl (Nat.le_of_ble_eq_true rfl)) (fr_nil)))))))))))), rfl⟩ fr_i rfl rfl rfl rfl ?_
                                                  refine V.iconst (v := (-1)) dL_holds_528 rfl ?_
                                                  obtain ⟨v119, ev119, hf⟩ := flet_e hf
                                                  refine V.join (J := 537) (y := v119) (st' := []) (fun tlv119 => ?_) ?_
                                                  · refine V.icmp_ne (tgt := 536) dL_holds_529 (by decide) (fun h120 => ?_) (fun h120 => ?_)
                                                    · refine V.iconst (v := 0) dL_holds_536 rfl ?_
                                                      exact V.cgi (by rw [← ev119, if_neg h120]) tlv119
                                                    · refine V.iconst (v := 1) dL_holds_532 rfl ?_
                                                      refine V.goto (tgt := 537) dL_holds_533 (by decide) ?_
                                                      exact V.cgi (by rw [← ev119, if_pos h120]) tlv119
                                                  · refine V.aload_n (i := 0) dL_holds_537 rfl rfl ?_
                                                    refine V.iconst (v := 1) dL_holds_538 rfl ?_
                                                    obtain ⟨v121, hv121, hf⟩ := fbind hf
                                                    have hc := ct_X10_stopped (a1 := 1) (State_cells := State_cells) (History_oldest := History_oldest) (History_size := History_size) (History_snapshotTaken := History_snapshotTaken) (History_saved := History_saved) (History_snapshot := History_snapshot) (Buffer_size := Buffer_size) (Buffer_codes := Buffer_codes) (Reader_pattern := Reader_pattern) (Reader_place := Reader_place) (Word_size := e35.2.2.2.2.2.2.2.1) (Word_letters := e35.2.2.2.2.2.2.2.2) hv121
                                                    rcases hv121b : v121 with v122 | E9
                                                    · rw [hv121b] at hc hf
                                                      dsimp only [fth] at hf
                                                      refine V.callVn (pl := [0, 1, 2, 3, 4, 5, 6, 7, 8, 9, 10]) (σ' := [.inl (5, [.ref 1, .ref 3, .ref 6, .ref 8, .ref 9]), .inl (3, [.ref 2]), .inr (910, .inl State_cells), .inl (1, [.ref 4, .ref 5, .int History_oldest, .int History_size, .int History_snapshotTaken]), .inr (5460, .inl History_saved), .inr (910, .inl History_snapshot), .inl (0, [.ref 7, .int Buffer_size]), .inr (60, .inl Buffer_codes), .inl (2, [.ref (Reader_pattern + 1000), .int Reader_place]), .inl (4, [.ref 10, .int e35.2.2.2.2.2.2.2.1]), .inr (8, .inl e35.2.2.2.2.2.2.2.2)]) (st2 := [.int v122, .int v119]) (cl2 := 0) (sl2 := 0) hc dL_holds_539 w447 ⟨w448, w449⟩ cal_X10_stopped rfl ⟨⟨Nat.le_of_ble_eq_true rfl, Nat.le_of_ble_eq_true rfl⟩, Nat.le_of_ble_eq_true rfl, Nat.le_of_ble_eq_true rfl⟩ (Nat.le_of_ble_eq_true rfl) ⟨_, _, _, _, rfl, rfl⟩ rfl ⟨rfl, ⟨by decide, by decide⟩, rfl, (fr_cons (Or.inl (Nat.le_of_ble_eq_true rfl)) (fr_cons (Or.inl (Nat.le_of_ble_eq_true rfl)) (fr_cons (Or.inl (Nat.le_of_ble_eq_true rfl)) (fr_cons (Or.inl (Nat.le_of_ble_eq_true rfl)) (fr_cons (Or.inl (Nat.le_of_ble_eq_true rfl)) (fr_cons (Or.inl (Nat.le_of_ble_eq_true rfl)) (fr_cons (Or.inl (Nat.le_of_ble_eq_true rfl)) (fr_cons (Or.inl (Nat.le_of_ble_eq_true rfl)) (fr_cons (Or.inl (Nat.le_of_ble_eq_true rfl)) (fr_cons (Or.inr (Nat.le_add_left 1000 _)) (fr_cons (Or.inl (Nat.le_of_ble_eq_true rfl)) (fr_nil)))))))))))), rfl⟩ fr_i rfl rfl rfl rfl ?_
                                                      refine V.iconst (v := (-1)) dL_holds_542 rfl ?_
                                                      obtain ⟨v123, ev123, hf⟩ := flet_e hf
                                                      refine V.join (J := 551) (y := v123) (st' := [.int v119]) (fun tlv123 => ?_) ?_
                                                      · refine V.icmp_ne (tgt := 550) dL_holds_543 (by decide) (fun h124 => ?_) (fun h124 => ?_)
                                                        · refine V.iconst (v := 0) dL_holds_550 rfl ?_
                                                          exact V.cgi (by rw [← ev123, if_neg h124]) tlv123
                                                        · refine V.iconst (v := 1) dL_holds_546 rfl ?_
                                                          refine V.goto (tgt := 551) dL_holds_547 (by decide) ?_
                                                          exact V.cgi (by rw [← ev123, if_pos h124]) tlv123
                                                      · obtain ⟨v125, ev125, hf⟩ := flet_e hf
                                                        refine V.join (J := 559) (y := v125) (st' := []) (fun tlv125 => ?_) ?_
                                                        · refine V.icmp_ne (tgt := 558) dL_holds_551 (by decide) (fun h126 => ?_) (fun h126 => ?_)
                                                          · refine V.iconst (v := 0) dL_holds_558 rfl ?_
                                                            exact V.cgi (by rw [← ev125, if_neg h126]) tlv125
                                                          · refine V.iconst (v := 1) dL_holds_554 rfl ?_
                                                            refine V.goto (tgt := 559) dL_holds_555 (by decide) ?_
                                                            exact V.cgi (by rw [← ev125, if_pos h126]) tlv125
                                                        · obtain ⟨hz, hf⟩ := fz_e hf
                                                          obtain rfl := Option.some.inj hf
                                                          exact V.zret (v := v125) dL_holds_559 rfl hz (Nat.le_of_ble_eq_true rfl) (Nat.le_of_ble_eq_true rfl) rfl
                                                    · rw [hv121b] at hc hf
                                                      dsimp only [fth] at hf
                                                      cases hf
                                                · rw [hv117b] at hc hf
                                                  dsimp only [fth] at hf
                                                  cases hf
                                      · rw [hv112b] at hc hf
                                        dsimp only [fth] at hf
                                        cases hf
                                  · rw [hv110b] at hc hf
                                    dsimp only [fth] at hf
                                    cases hf
                            · rw [hv108b] at hc hf
                              dsimp only [fth] at hf
                              cases hf
                        · rw [hv106b] at hc hf
                          dsimp only [fth] at hf
                          cases hf
                    · rw [hv104b] at hc hf
                      dsimp only [fth] at hf
                      cases hf
                · rw [hv102b] at hc hf
                  dsimp only [fth] at hf
                  cases hf
            · rw [hv100b] at hc hf
              dsimp only [fth] at hf
              cases hf
      · rw [hv46b] at hc hf
        dsimp only [fth] at hf
        cases hf
def k_L_ends : fK := (yL_ends, cL_ends, 7, (some .boolean), [], (9, 148), (0, 0), (1, 6))
theorem cal_L_ends : fCal k_L_ends 3 := ⟨⟨wc575, w5⟩, ⟨by decide +kernel, by decide +kernel⟩, by decide +kernel, by decide +kernel⟩
def s_L_ends_L5 (p1 : Int32) (State_cells : Nat → Int32) : Nat → Int32 → Int32 → Option (Int32 × Int32)
  | 0, _, _ => none
  | n + 1, x3, x4 => (s_X10_fisher p1 1 State_cells).bind fun v1 => fth v1 (fun v2 => if (v2 ≤ x4 : Prop) then (some (x3, x4)) else ((s_X10_name p1 x4 0 State_cells).bind fun v3 => fth v3 (fun v4 => flet ((if (x4 ≤ 0 : Prop) then 0 else 1) : Int32) fun v5 => s_L_ends_L5 p1 State_cells n (x3 + (v4 + v5)) (x4 + 1)) (fun E9 => none))) (fun E9 => none)
set_option maxHeartbeats 4000000 in
set_option maxRecDepth 100000 in
theorem v_L_ends_L5 {out : fO} {σ' : List fE} {p1 : Int32} {p2 : Int32} {State_cells : Nat → Int32} {History_oldest : Int32} {History_size : Int32} {History_snapshotTaken : Int32} {History_saved : Nat → Int32} {History_snapshot : Nat → Int32} {Buffer_size : Int32} {Buffer_codes : Nat → Int32} {Reader_pattern : Nat} {Reader_place : Int32} {Word_size : Int32} {Word_letters : Nat → Int32} : ∀ (n : Nat) {x3 : Int32} {x4 : Int32} {res : Int32 × Int32} (hf : s_L_ends_L5 p1 State_cells n x3 x4 = some res) (hx : V (fXm 11 k_L_ends out σ') (krm k_L_ends) k_L_ends 11 44 [some (.ref 0), some (.int p1), some (.int p2), some (.int res.1), some (.int res.2), none, none] [] [.inl (5, [.ref 1, .ref 3, .ref 6, .ref 8, .ref 9]), .inl (3, [.ref 2]), .inr (910, .inl State_cells), .inl (1, [.ref 4, .ref 5, .int History_oldest, .int History_size, .int History_snapshotTaken]), .inr (5460, .inl History_saved), .inr (910, .inl History_snapshot), .inl (0, [.ref 7, .int Buffer_size]), .inr (60, .inl Buffer_codes), .inl (2, [.ref (Reader_pattern + 1000), .int Reader_place]), .inl (4, [.ref 10, .int Word_size]), .inr (8, .inl Word_letters)] 0 0), V (fXm 11 k_L_ends out σ') (krm k_L_ends) k_L_ends 11 5 [some (.ref 0), some (.int p1), some (.int p2), some (.int x3), some (.int x4), none, none] [] [.inl (5, [.ref 1, .ref 3, .ref 6, .ref 8, .ref 9]), .inl (3, [.ref 2]), .inr (910, .inl State_cells), .inl (1, [.ref 4, .ref 5, .int History_oldest, .int History_size, .int History_snapshotTaken]), .inr (5460, .inl History_saved), .inr (910, .inl History_snapshot), .inl (0, [.ref 7, .int Buffer_size]), .inr (60, .inl Buffer_codes), .inl (2, [.ref (Reader_pattern + 1000), .int Reader_place]), .inl (4, [.ref 10, .int Word_size]), .inr (8, .inl Word_letters)] 0 0 := by
  intro n
  induction n with
  | zero =>
    intro x3 x4 res hf hx
    rw [s_L_ends_L5] at hf
    cases hf
  | succ n ih =>
    intro x3 x4 res hf hx
    rw [s_L_ends_L5] at hf
    refine V.iload (i := 4) dL_ends_5 rfl ?_
    refine V.aload_n (i := 0) dL_ends_7 rfl rfl ?_
    refine V.iload_n (i := 1) dL_ends_8 rfl rfl ?_
    refine V.iconst (v := 1) dL_ends_9 rfl ?_
    obtain ⟨v1, hv1, hf⟩ := fbind hf
    have hc := ct_X10_fisher (a1 := p1) (a2 := 1) (State_cells := State_cells) (History_oldest := History_oldest) (History_size := History_size) (History_snapshotTaken := History_snapshotTaken) (History_saved := History_saved) (History_snapshot := History_snapshot) (Buffer_size := Buffer_size) (Buffer_codes := Buffer_codes) (Reader_pattern := Reader_pattern) (Reader_place := Reader_place) (Word_size := Word_size) (Word_letters := Word_letters) hv1
    rcases hv1b : v1 with v2 | E9
    · rw [hv1b] at hc hf
      dsimp only [fth] at hf
      refine V.callVn (pl := [0, 1, 2, 3, 4, 5, 6, 7, 8, 9, 10]) (σ' := [.inl (5, [.ref 1, .ref 3, .ref 6, .ref 8, .ref 9]), .inl (3, [.ref 2]), .inr (910, .inl State_cells), .inl (1, [.ref 4, .ref 5, .int History_oldest, .int History_size, .int History_snapshotTaken]), .inr (5460, .inl History_saved), .inr (910, .inl History_snapshot), .inl (0, [.ref 7, .int Buffer_size]), .inr (60, .inl Buffer_codes), .inl (2, [.ref (Reader_pattern + 1000), .int Reader_place]), .inl (4, [.ref 10, .int Word_size]), .inr (8, .inl Word_letters)]) (st2 := [.int v2, .int x4]) (cl2 := 0) (sl2 := 0) hc dL_ends_10 w174 ⟨w175, w176⟩ cal_X10_fisher rfl ⟨⟨Nat.le_of_ble_eq_true rfl, Nat.le_of_ble_eq_true rfl⟩, Nat.le_of_ble_eq_true rfl, Nat.le_of_ble_eq_true rfl⟩ (Nat.le_of_ble_eq_true rfl) ⟨_, _, _, _, rfl, rfl⟩ rfl ⟨rfl, ⟨by decide, by decide⟩, rfl, (fr_cons (Or.inl (Nat.le_of_ble_eq_true rfl)) (fr_cons (Or.inl (Nat.le_of_ble_eq_true rfl)) (fr_cons (Or.inl (Nat.le_of_ble_eq_true rfl)) (fr_cons (Or.inl (Nat.le_of_ble_eq_true rfl)) (fr_cons (Or.inl (Nat.le_of_ble_eq_true rfl)) (fr_cons (Or.inl (Nat.le_of_ble_eq_true rfl)) (fr_cons (Or.inl (Nat.le_of_ble_eq_true rfl)) (fr_cons (Or.inl (Nat.le_of_ble_eq_true rfl)) (fr_cons (Or.inl (Nat.le_of_ble_eq_true rfl)) (fr_cons (Or.inr (Nat.le_add_left 1000 _)) (fr_cons (Or.inl (Nat.le_of_ble_eq_true rfl)) (fr_nil)))))))))))), rfl⟩ fr_i rfl rfl rfl rfl ?_
      refine V.icmp_ge (tgt := 44) dL_ends_13 (by decide) (fun h => ?_) (fun h => ?_)
      · have hf := fif_t h hf
        obtain rfl := Option.some.inj hf
        exact hx
      · have hf := fif_f h hf
        refine V.iload_n (i := 3) dL_ends_16 rfl rfl ?_
        refine V.aload_n (i := 0) dL_ends_17 rfl rfl ?_
        refine V.iload_n (i := 1) dL_ends_18 rfl rfl ?_
        refine V.iload (i := 4) dL_ends_19 rfl ?_
        refine V.iconst (v := 0) dL_ends_21 rfl ?_
        obtain ⟨v3, hv3, hf⟩ := fbind hf
        have hc := ct_X10_name (a1 := p1) (a2 := x4) (a3 := 0) (State_cells := State_cells) (History_oldest := History_oldest) (History_size := History_size) (History_snapshotTaken := History_snapshotTaken) (History_saved := History_saved) (History_snapshot := History_snapshot) (Buffer_size := Buffer_size) (Buffer_codes := Buffer_codes) (Reader_pattern := Reader_pattern) (Reader_place := Reader_place) (Word_size := Word_size) (Word_letters := Word_letters) hv3
        rcases hv3b : v3 with v4 | E9
        · rw [hv3b] at hc hf
          dsimp only [fth] at hf
          refine V.callVn (pl := [0, 1, 2, 3, 4, 5, 6, 7, 8, 9, 10]) (σ' := [.inl (5, [.ref 1, .ref 3, .ref 6, .ref 8, .ref 9]), .inl (3, [.ref 2]), .inr (910, .inl State_cells), .inl (1, [.ref 4, .ref 5, .int History_oldest, .int History_size, .int History_snapshotTaken]), .inr (5460, .inl History_saved), .inr (910, .inl History_snapshot), .inl (0, [.ref 7, .int Buffer_size]), .inr (60, .inl Buffer_codes), .inl (2, [.ref (Reader_pattern + 1000), .int Reader_place]), .inl (4, [.ref 10, .int Word_size]), .inr (8, .inl Word_letters)]) (st2 := [.int v4, .int x3]) (cl2 := 0) (sl2 := 0) hc dL_ends_22 w284 ⟨w285, w286⟩ cal_X10_name rfl ⟨⟨Nat.le_of_ble_eq_true rfl, Nat.le_of_ble_eq_true rfl⟩, Nat.le_of_ble_eq_true rfl, Nat.le_of_ble_eq_true rfl⟩ (Nat.le_of_ble_eq_true rfl) ⟨_, _, _, _, rfl, rfl⟩ rfl ⟨rfl, ⟨by decide, by decide⟩, rfl, (fr_cons (Or.inl (Nat.le_of_ble_eq_true rfl)) (fr_cons (Or.inl (Nat.le_of_ble_eq_true rfl)) (fr_cons (Or.inl (Nat.le_of_ble_eq_true rfl)) (fr_cons (Or.inl (Nat.le_of_ble_eq_true rfl)) (fr_cons (Or.inl (Nat.le_of_ble_eq_true rfl)) (fr_cons (Or.inl (Nat.le_of_ble_eq_true rfl)) (fr_cons (Or.inl (Nat.le_of_ble_eq_true rfl)) (fr_cons (Or.inl (Nat.le_of_ble_eq_true rfl)) (fr_cons (Or.inl (Nat.le_of_ble_eq_true rfl)) (fr_cons (Or.inr (Nat.le_add_left 1000 _)) (fr_cons (Or.inl (Nat.le_of_ble_eq_true rfl)) (fr_nil)))))))))))), rfl⟩ fr_i rfl rfl rfl rfl ?_
          refine V.iload (i := 4) dL_ends_25 rfl ?_
          obtain ⟨v5, ev5, hf⟩ := flet_e hf
          refine V.join (J := 35) (y := v5) (st' := [.int v4, .int x3]) (fun tlv5 => ?_) ?_
          · refine V.if_le (tgt := 34) dL_ends_27 (by decide) (fun h6 => ?_) (fun h6 => ?_)
            · refine V.iconst (v := 0) dL_ends_34 rfl ?_
              exact V.cgi (by rw [← ev5, if_pos h6]) tlv5
            · refine V.iconst (v := 1) dL_ends_30 rfl ?_
              refine V.goto (tgt := 35) dL_ends_31 (by decide) ?_
              exact V.cgi (by rw [← ev5, if_neg h6]) tlv5
          · refine V.iadd dL_ends_35 ?_
            refine V.iadd dL_ends_36 ?_
            refine V.istore_n (i := 3) (L' := [some (.ref 0), some (.int p1), some (.int p2), some (.int (x3 + (v4 + v5))), some (.int x4), none, none]) dL_ends_37 rfl (Nat.le_of_ble_eq_true rfl) rfl rfl ?_
            refine V.iinc (i := 4) (v := (x4 + 1)) (L' := [some (.ref 0), some (.int p1), some (.int p2), some (.int (x3 + (v4 + v5))), some (.int (x4 + 1)), none, none]) dL_ends_38 rfl rfl (Nat.le_of_ble_eq_true rfl) rfl rfl ?_
            refine V.goto (tgt := 5) dL_ends_41 (by decide) ?_
            exact ih hf hx
        · rw [hv3b] at hc hf
          dsimp only [fth] at hf
          cases hf
    · rw [hv1b] at hc hf
      dsimp only [fth] at hf
      cases hf
def s_L_ends_L64 (p1 : Int32) (p2 : Int32) (p3 : Int32) (State_cells : Nat → Int32) : Nat → Int32 → Int32 → Option (Int32 × Int32)
  | 0, _, _ => none
  | n + 1, x4, x5 => (s_X10_name p1 p2 0 State_cells).bind fun v12 => fth v12 (fun v13 => if (v13 ≤ x5 : Prop) then (some (x4, x5)) else (if (x4 = 0 : Prop) then (some (x4, x5)) else ((s_X10_knot p1 p2 x5 1 State_cells).bind fun v14 => fth v14 (fun v15 => (s_X10_name p1 p2 0 State_cells).bind fun v16 => fth v16 (fun v17 => (s_X10_told p1 ((p3 - v17) + x5) State_cells).bind fun v18 => fth v18 (fun v19 => flet ((if (v15 = 16 : Prop) then 63 else (97 + v15)) : Int32) fun v20 => flet ((if (v19 = v20 : Prop) then 1 else 0) : Int32) fun v22 => s_L_ends_L64 p1 p2 p3 State_cells n v22 (x5 + 1)) (fun E9 => none)) (fun E9 => none)) (fun E9 => none)))) (fun E9 => none)
set_option maxHeartbeats 4000000 in
set_option maxRecDepth 100000 in
theorem v_L_ends_L64 {out : fO} {σ' : List fE} {p1 : Int32} {p2 : Int32} {p3 : Int32} {State_cells : Nat → Int32} {History_oldest : Int32} {History_size : Int32} {History_snapshotTaken : Int32} {History_saved : Nat → Int32} {History_snapshot : Nat → Int32} {Buffer_size : Int32} {Buffer_codes : Nat → Int32} {Reader_pattern : Nat} {Reader_place : Int32} {Word_size : Int32} {Word_letters : Nat → Int32} : ∀ (n : Nat) {x4 : Int32} {x5 : Int32} {res : Int32 × Int32} (hf : s_L_ends_L64 p1 p2 p3 State_cells n x4 x5 = some res) (hx : V (fXm 11 k_L_ends out σ') (krm k_L_ends) k_L_ends 11 142 [some (.ref 0), some (.int p1), some (.int p2), some (.int p3), some (.int res.1), some (.int res.2), none] [] [.inl (5, [.ref 1, .ref 3, .ref 6, .ref 8, .ref 9]), .inl (3, [.ref 2]), .inr (910, .inl State_cells), .inl (1, [.ref 4, .ref 5, .int History_oldest, .int History_size, .int History_snapshotTaken]), .inr (5460, .inl History_saved), .inr (910, .inl History_snapshot), .inl (0, [.ref 7, .int Buffer_size]), .inr (60, .inl Buffer_codes), .inl (2, [.ref (Reader_pattern + 1000), .int Reader_place]), .inl (4, [.ref 10, .int Word_size]), .inr (8, .inl Word_letters)] 0 0), V (fXm 11 k_L_ends out σ') (krm k_L_ends) k_L_ends 11 64 [some (.ref 0), some (.int p1), some (.int p2), some (.int p3), some (.int x4), some (.int x5), none] [] [.inl (5, [.ref 1, .ref 3, .ref 6, .ref 8, .ref 9]), .inl (3, [.ref 2]), .inr (910, .inl State_cells), .inl (1, [.ref 4, .ref 5, .int History_oldest, .int History_size, .int History_snapshotTaken]), .inr (5460, .inl History_saved), .inr (910, .inl History_snapshot), .inl (0, [.ref 7, .int Buffer_size]), .inr (60, .inl Buffer_codes), .inl (2, [.ref (Reader_pattern + 1000), .int Reader_place]), .inl (4, [.ref 10, .int Word_size]), .inr (8, .inl Word_letters)] 0 0 := by
  intro n
  induction n with
  | zero =>
    intro x4 x5 res hf hx
    rw [s_L_ends_L64] at hf
    cases hf
  | succ n ih =>
    intro x4 x5 res hf hx
    rw [s_L_ends_L64] at hf
    refine V.iload (i := 5) dL_ends_64 rfl ?_
    refine V.aload_n (i := 0) dL_ends_66 rfl rfl ?_
    refine V.iload_n (i := 1) dL_ends_67 rfl rfl ?_
    refine V.iload_n (i := 2) dL_ends_68 rfl rfl ?_
    refine V.iconst (v := 0) dL_ends_69 rfl ?_
    obtain ⟨v12, hv12, hf⟩ := fbind hf
    have hc := ct_X10_name (a1 := p1) (a2 := p2) (a3 := 0) (State_cells := State_cells) (History_oldest := History_oldest) (History_size := History_size) (History_snapshotTaken := History_snapshotTaken) (History_saved := History_saved) (History_snapshot := History_snapshot) (Buffer_size := Buffer_size) (Buffer_codes := Buffer_codes) (Reader_pattern := Reader_pattern) (Reader_place := Reader_place) (Word_size := Word_size) (Word_letters := Word_letters) hv12
    rcases hv12b : v12 with v13 | E9
    · rw [hv12b] at hc hf
      dsimp only [fth] at hf
      refine V.callVn (pl := [0, 1, 2, 3, 4, 5, 6, 7, 8, 9, 10]) (σ' := [.inl (5, [.ref 1, .ref 3, .ref 6, .ref 8, .ref 9]), .inl (3, [.ref 2]), .inr (910, .inl State_cells), .inl (1, [.ref 4, .ref 5, .int History_oldest, .int History_size, .int History_snapshotTaken]), .inr (5460, .inl History_saved), .inr (910, .inl History_snapshot), .inl (0, [.ref 7, .int Buffer_size]), .inr (60, .inl Buffer_codes), .inl (2, [.ref (Reader_pattern + 1000), .int Reader_place]), .inl (4, [.ref 10, .int Word_size]), .inr (8, .inl Word_letters)]) (st2 := [.int v13, .int x5]) (cl2 := 0) (sl2 := 0) hc dL_ends_70 w284 ⟨w285, w286⟩ cal_X10_name rfl ⟨⟨Nat.le_of_ble_eq_true rfl, Nat.le_of_ble_eq_true rfl⟩, Nat.le_of_ble_eq_true rfl, Nat.le_of_ble_eq_true rfl⟩ (Nat.le_of_ble_eq_true rfl) ⟨_, _, _, _, rfl, rfl⟩ rfl ⟨rfl, ⟨by decide, by decide⟩, rfl, (fr_cons (Or.inl (Nat.le_of_ble_eq_true rfl)) (fr_cons (Or.inl (Nat.le_of_ble_eq_true rfl)) (fr_cons (Or.inl (Nat.le_of_ble_eq_true rfl)) (fr_cons (Or.inl (Nat.le_of_ble_eq_true rfl)) (fr_cons (Or.inl (Nat.le_of_ble_eq_true rfl)) (fr_cons (Or.inl (Nat.le_of_ble_eq_true rfl)) (fr_cons (Or.inl (Nat.le_of_ble_eq_true rfl)) (fr_cons (Or.inl (Nat.le_of_ble_eq_true rfl)) (fr_cons (Or.inl (Nat.le_of_ble_eq_true rfl)) (fr_cons (Or.inr (Nat.le_add_left 1000 _)) (fr_cons (Or.inl (Nat.le_of_ble_eq_true rfl)) (fr_nil)))))))))))), rfl⟩ fr_i rfl rfl rfl rfl ?_
      refine V.icmp_ge (tgt := 142) dL_ends_73 (by decide) (fun h => ?_) (fun h => ?_)
      · have hf := fif_t h hf
        obtain rfl := Option.some.inj hf
        exact hx
      · have hf := fif_f h hf
        refine V.iload (i := 4) dL_ends_76 rfl ?_
        refine V.if_eq (tgt := 142) dL_ends_78 (by decide) (fun h => ?_) (fun h => ?_)
        · have hf := fif_t h hf
          obtain rfl := Option.some.inj hf
          exact hx
        · have hf := fif_f h hf
          refine V.aload_n (i := 0) dL_ends_81 rfl rfl ?_
          refine V.iload_n (i := 1) dL_ends_82 rfl rfl ?_
          refine V.iload_n (i := 2) dL_ends_83 rfl rfl ?_
          refine V.iload (i := 5) dL_ends_84 rfl ?_
          refine V.iconst (v := 1) dL_ends_86 rfl ?_
          obtain ⟨v14, hv14, hf⟩ := fbind hf
          have hc := ct_X10_knot (a1 := p1) (a2 := p2) (a3 := x5) (a4 := 1) (State_cells := State_cells) (History_oldest := History_oldest) (History_size := History_size) (History_snapshotTaken := History_snapshotTaken) (History_saved := History_saved) (History_snapshot := History_snapshot) (Buffer_size := Buffer_size) (Buffer_codes := Buffer_codes) (Reader_pattern := Reader_pattern) (Reader_place := Reader_place) (Word_size := Word_size) (Word_letters := Word_letters) hv14
          rcases hv14b : v14 with v15 | E9
          · rw [hv14b] at hc hf
            dsimp only [fth] at hf
            refine V.callVn (pl := [0, 1, 2, 3, 4, 5, 6, 7, 8, 9, 10]) (σ' := [.inl (5, [.ref 1, .ref 3, .ref 6, .ref 8, .ref 9]), .inl (3, [.ref 2]), .inr (910, .inl State_cells), .inl (1, [.ref 4, .ref 5, .int History_oldest, .int History_size, .int History_snapshotTaken]), .inr (5460, .inl History_saved), .inr (910, .inl History_snapshot), .inl (0, [.ref 7, .int Buffer_size]), .inr (60, .inl Buffer_codes), .inl (2, [.ref (Reader_pattern + 1000), .int Reader_place]), .inl (4, [.ref 10, .int Word_size]), .inr (8, .inl Word_letters)]) (st2 := [.int v15]) (cl2 := 0) (sl2 := 0) hc dL_ends_87 w320 ⟨w321, w322⟩ cal_X10_knot rfl ⟨⟨Nat.le_of_ble_eq_true rfl, Nat.le_of_ble_eq_true rfl⟩, Nat.le_of_ble_eq_true rfl, Nat.le_of_ble_eq_true rfl⟩ (Nat.le_of_ble_eq_true rfl) ⟨_, _, _, _, rfl, rfl⟩ rfl ⟨rfl, ⟨by decide, by decide⟩, rfl, (fr_cons (Or.inl (Nat.le_of_ble_eq_true rfl)) (fr_cons (Or.inl (Nat.le_of_ble_eq_true rfl)) (fr_cons (Or.inl (Nat.le_of_ble_eq_true rfl)) (fr_cons (Or.inl (Nat.le_of_ble_eq_true rfl)) (fr_cons (Or.inl (Nat.le_of_ble_eq_true rfl)) (fr_cons (Or.inl (Nat.le_of_ble_eq_true rfl)) (fr_cons (Or.inl (Nat.le_of_ble_eq_true rfl)) (fr_cons (Or.inl (Nat.le_of_ble_eq_true rfl)) (fr_cons (Or.inl (Nat.le_of_ble_eq_true rfl)) (fr_cons (Or.inr (Nat.le_add_left 1000 _)) (fr_cons (Or.inl (Nat.le_of_ble_eq_true rfl)) (fr_nil)))))))))))), rfl⟩ fr_i rfl rfl rfl rfl ?_
            refine V.istore (i := 6) (L' := [some (.ref 0), some (.int p1), some (.int p2), some (.int p3), some (.int x4), some (.int x5), some (.int v15)]) dL_ends_90 (Nat.le_of_ble_eq_true rfl) rfl rfl ?_
            refine V.aload_n (i := 0) dL_ends_92 rfl rfl ?_
            refine V.iload_n (i := 1) dL_ends_93 rfl rfl ?_
            refine V.iload_n (i := 3) dL_ends_94 rfl rfl ?_
            refine V.aload_n (i := 0) dL_ends_95 rfl rfl ?_
            refine V.iload_n (i := 1) dL_ends_96 rfl rfl ?_
            refine V.iload_n (i := 2) dL_ends_97 rfl rfl ?_
            refine V.iconst (v := 0) dL_ends_98 rfl ?_
            obtain ⟨v16, hv16, hf⟩ := fbind hf
            have hc := ct_X10_name (a1 := p1) (a2 := p2) (a3 := 0) (State_cells := State_cells) (History_oldest := History_oldest) (History_size := History_size) (History_snapshotTaken := History_snapshotTaken) (History_saved := History_saved) (History_snapshot := History_snapshot) (Buffer_size := Buffer_size) (Buffer_codes := Buffer_codes) (Reader_pattern := Reader_pattern) (Reader_place := Reader_place) (Word_size := Word_size) (Word_letters := Word_letters) hv16
            rcases hv16b : v16 with v17 | E9
            · rw [hv16b] at hc hf
              dsimp only [fth] at hf
              refine V.callVn (pl := [0, 1, 2, 3, 4, 5, 6, 7, 8, 9, 10]) (σ' := [.inl (5, [.ref 1, .ref 3, .ref 6, .ref 8, .ref 9]), .inl (3, [.ref 2]), .inr (910, .inl State_cells), .inl (1, [.ref 4, .ref 5, .int History_oldest, .int History_size, .int History_snapshotTaken]), .inr (5460, .inl History_saved), .inr (910, .inl History_snapshot), .inl (0, [.ref 7, .int Buffer_size]), .inr (60, .inl Buffer_codes), .inl (2, [.ref (Reader_pattern + 1000), .int Reader_place]), .inl (4, [.ref 10, .int Word_size]), .inr (8, .inl Word_letters)]) (st2 := [.int v17, .int p3, .int p1, .ref 0]) (cl2 := 0) (sl2 := 0) hc dL_ends_99 w284 ⟨w285, w286⟩ cal_X10_name rfl ⟨⟨Nat.le_of_ble_eq_true rfl, Nat.le_of_ble_eq_true rfl⟩, Nat.le_of_ble_eq_true rfl, Nat.le_of_ble_eq_true rfl⟩ (Nat.le_of_ble_eq_true rfl) ⟨_, _, _, _, rfl, rfl⟩ rfl ⟨rfl, ⟨by decide, by decide⟩, rfl, (fr_cons (Or.inl (Nat.le_of_ble_eq_true rfl)) (fr_cons (Or.inl (Nat.le_of_ble_eq_true rfl)) (fr_cons (Or.inl (Nat.le_of_ble_eq_true rfl)) (fr_cons (Or.inl (Nat.le_of_ble_eq_true rfl)) (fr_cons (Or.inl (Nat.le_of_ble_eq_true rfl)) (fr_cons (Or.inl (Nat.le_of_ble_eq_true rfl)) (fr_cons (Or.inl (Nat.le_of_ble_eq_true rfl)) (fr_cons (Or.inl (Nat.le_of_ble_eq_true rfl)) (fr_cons (Or.inl (Nat.le_of_ble_eq_true rfl)) (fr_cons (Or.inr (Nat.le_add_left 1000 _)) (fr_cons (Or.inl (Nat.le_of_ble_eq_true rfl)) (fr_nil)))))))))))), rfl⟩ fr_i rfl rfl rfl rfl ?_
              refine V.isub dL_ends_102 ?_
              refine V.iload (i := 5) dL_ends_103 rfl ?_
              refine V.iadd dL_ends_105 ?_
              obtain ⟨v18, hv18, hf⟩ := fbind hf
              have hc := ct_X10_told (a1 := p1) (a2 := ((p3 - v17) + x5)) (State_cells := State_cells) (History_oldest := History_oldest) (History_size := History_size) (History_snapshotTaken := History_snapshotTaken) (History_saved := History_saved) (History_snapshot := History_snapshot) (Buffer_size := Buffer_size) (Buffer_codes := Buffer_codes) (Reader_pattern := Reader_pattern) (Reader_place := Reader_place) (Word_size := Word_size) (Word_letters := Word_letters) hv18
              rcases hv18b : v18 with v19 | E9
              · rw [hv18b] at hc hf
                dsimp only [fth] at hf
                refine V.callVn (pl := [0, 1, 2, 3, 4, 5, 6, 7, 8, 9, 10]) (σ' := [.inl (5, [.ref 1, .ref 3, .ref 6, .ref 8, .ref 9]), .inl (3, [.ref 2]), .inr (910, .inl State_cells), .inl (1, [.ref 4, .ref 5, .int History_oldest, .int History_size, .int History_snapshotTaken]), .inr (5460, .inl History_saved), .inr (910, .inl History_snapshot), .inl (0, [.ref 7, .int Buffer_size]), .inr (60, .inl Buffer_codes), .inl (2, [.ref (Reader_pattern + 1000), .int Reader_place]), .inl (4, [.ref 10, .int Word_size]), .inr (8, .inl Word_letters)]) (st2 := [.int v19]) (cl2 := 0) (sl2 := 0) hc dL_ends_106 w576 ⟨w577, w578⟩ cal_X10_told rfl ⟨⟨Nat.le_of_ble_eq_true rfl, Nat.le_of_ble_eq_true rfl⟩, Nat.le_of_ble_eq_true rfl, Nat.le_of_ble_eq_true rfl⟩ (Nat.le_of_ble_eq_true rfl) ⟨_, _, _, _, rfl, rfl⟩ rfl ⟨rfl, ⟨by decide, by decide⟩, rfl, (fr_cons (Or.inl (Nat.le_of_ble_eq_true rfl)) (fr_cons (Or.inl (Nat.le_of_ble_eq_true rfl)) (fr_cons (Or.inl (Nat.le_of_ble_eq_true rfl)) (fr_cons (Or.inl (Nat.le_of_ble_eq_true rfl)) (fr_cons (Or.inl (Nat.le_of_ble_eq_true rfl)) (fr_cons (Or.inl (Nat.le_of_ble_eq_true rfl)) (fr_cons (Or.inl (Nat.le_of_ble_eq_true rfl)) (fr_cons (Or.inl (Nat.le_of_ble_eq_true rfl)) (fr_cons (Or.inl (Nat.le_of_ble_eq_true rfl)) (fr_cons (Or.inr (Nat.le_add_left 1000 _)) (fr_cons (Or.inl (Nat.le_of_ble_eq_true rfl)) (fr_nil)))))))))))), rfl⟩ fr_i rfl rfl rfl rfl ?_
                refine V.iload (i := 6) dL_ends_109 rfl ?_
                refine V.bipush (v := 16) dL_ends_111 rfl ?_
                obtain ⟨v20, ev20, hf⟩ := flet_e hf
                refine V.join (J := 126) (y := v20) (st' := [.int v19]) (fun tlv20 => ?_) ?_
                · refine V.icmp_ne (tgt := 121) dL_ends_113 (by decide) (fun h21 => ?_) (fun h21 => ?_)
                  · refine V.bipush (v := 97) dL_ends_121 rfl ?_
                    refine V.iload (i := 6) dL_ends_123 rfl ?_
                    refine V.iadd dL_ends_125 ?_
                    exact V.cgi (by rw [← ev20, if_neg h21]) tlv20
                  · refine V.bipush (v := 63) dL_ends_116 rfl ?_
                    refine V.goto (tgt := 126) dL_ends_118 (by decide) ?_
                    exact V.cgi (by rw [← ev20, if_pos h21]) tlv20
                · obtain ⟨v22, ev22, hf⟩ := flet_e hf
                  refine V.join (J := 134) (y := v22) (st' := []) (fun tlv22 => ?_) ?_
                  · refine V.icmp_ne (tgt := 133) dL_ends_126 (by decide) (fun h23 => ?_) (fun h23 => ?_)
                    · refine V.iconst (v := 0) dL_ends_133 rfl ?_
                      exact V.cgi (by rw [← ev22, if_neg h23]) tlv22
                    · refine V.iconst (v := 1) dL_ends_129 rfl ?_
                      refine V.goto (tgt := 134) dL_ends_130 (by decide) ?_
                      exact V.cgi (by rw [← ev22, if_pos h23]) tlv22
                  · refine V.istore (i := 4) (L' := [some (.ref 0), some (.int p1), some (.int p2), some (.int p3), some (.int v22), some (.int x5), some (.int v15)]) dL_ends_134 (Nat.le_of_ble_eq_true rfl) rfl rfl ?_
                    refine V.iinc (i := 5) (v := (x5 + 1)) (L' := [some (.ref 0), some (.int p1), some (.int p2), some (.int p3), some (.int v22), some (.int (x5 + 1)), some (.int v15)]) dL_ends_136 rfl rfl (Nat.le_of_ble_eq_true rfl) rfl rfl ?_
                    refine V.goto (tgt := 64) dL_ends_139 (by decide) ?_
                    exact V.locs (L' := [some (.ref 0), some (.int p1), some (.int p2), some (.int p3), some (.int v22), some (.int (x5 + 1)), none]) ⟨rfl, ⟨rfl, ⟨rfl, ⟨rfl, ⟨rfl, ⟨rfl, trivial⟩⟩⟩⟩⟩⟩ (ih hf hx)
              · rw [hv18b] at hc hf
                dsimp only [fth] at hf
                cases hf
            · rw [hv16b] at hc hf
              dsimp only [fth] at hf
              cases hf
          · rw [hv14b] at hc hf
            dsimp only [fth] at hf
            cases hf
    · rw [hv12b] at hc hf
      dsimp only [fth] at hf
      cases hf
def s_L_ends (a1 : Int32) (a2 : Int32) (State_cells : Nat → Int32) : Option (Int32) := (s_L_ends_L5 a1 State_cells gF 0 0).bind fun r7 => (s_X10_told a1 r7.1 State_cells).bind fun v8 => fth v8 (fun v9 => flet ((if (v9 = (-1) : Prop) then 1 else 0) : Int32) fun v10 => (s_L_ends_L64 a1 a2 r7.1 State_cells gF v10 0).bind fun r24 => fz r24.1 (some r24.1)) (fun E9 => none)
set_option maxHeartbeats 4000000 in
set_option maxRecDepth 100000 in
theorem ct_L_ends {a1 : Int32} {a2 : Int32} {State_cells : Nat → Int32} {History_oldest : Int32} {History_size : Int32} {History_snapshotTaken : Int32} {History_saved : Nat → Int32} {History_snapshot : Nat → Int32} {Buffer_size : Int32} {Buffer_codes : Nat → Int32} {Reader_pattern : Nat} {Reader_place : Int32} {Word_size : Int32} {Word_letters : Nat → Int32} {res : Int32} (hf : s_L_ends a1 a2 State_cells = some res) : Ct k_L_ends [.ref 0, .int a1, .int a2] [.inl (5, [.ref 1, .ref 3, .ref 6, .ref 8, .ref 9]), .inl (3, [.ref 2]), .inr (910, .inl State_cells), .inl (1, [.ref 4, .ref 5, .int History_oldest, .int History_size, .int History_snapshotTaken]), .inr (5460, .inl History_saved), .inr (910, .inl History_snapshot), .inl (0, [.ref 7, .int Buffer_size]), .inr (60, .inl Buffer_codes), .inl (2, [.ref (Reader_pattern + 1000), .int Reader_place]), .inl (4, [.ref 10, .int Word_size]), .inr (8, .inl Word_letters)] (.inl (some (.int res))) [.inl (5, [.ref 1, .ref 3, .ref 6, .ref 8, .ref 9]), .inl (3, [.ref 2]), .inr (910, .inl State_cells), .inl (1, [.ref 4, .ref 5, .int History_oldest, .int History_size, .int History_snapshotTaken]), .inr (5460, .inl History_saved), .inr (910, .inl History_snapshot), .inl (0, [.ref 7, .int Buffer_size]), .inr (60, .inl Buffer_codes), .inl (2, [.ref (Reader_pattern + 1000), .int Reader_place]), .inl (4, [.ref 10, .int Word_size]), .inr (8, .inl Word_letters)] := by
  unfold s_L_ends at hf
  refine Ct.of (L := [some (.ref 0), some (.int a1), some (.int a2), none, none, none, none]) cal_L_ends (fent_pad (j := 4) rfl) (Nat.le_of_ble_eq_true rfl) ?_
  refine V.iconst (v := 0) dL_ends_0 rfl ?_
  refine V.istore_n (i := 3) (L' := [some (.ref 0), some (.int a1), some (.int a2), some (.int 0), none, none, none]) dL_ends_1 rfl (Nat.le_of_ble_eq_true rfl) rfl rfl ?_
  refine V.iconst (v := 0) dL_ends_2 rfl ?_
  refine V.istore (i := 4) (L' := [some (.ref 0), some (.int a1), some (.int a2), some (.int 0), some (.int 0), none, none]) dL_ends_3 (Nat.le_of_ble_eq_true rfl) rfl rfl ?_
  obtain ⟨r7, hr7, hf⟩ := fbind hf
  refine v_L_ends_L5 gF hr7 ?_
  refine V.aload_n (i := 0) dL_ends_44 rfl rfl ?_
  refine V.iload_n (i := 1) dL_ends_45 rfl rfl ?_
  refine V.iload_n (i := 3) dL_ends_46 rfl rfl ?_
  obtain ⟨v8, hv8, hf⟩ := fbind hf
  have hc := ct_X10_told (a1 := a1) (a2 := r7.1) (State_cells := State_cells) (History_oldest := History_oldest) (History_size := History_size) (History_snapshotTaken := History_snapshotTaken) (History_saved := History_saved) (History_snapshot := History_snapshot) (Buffer_size := Buffer_size) (Buffer_codes := Buffer_codes) (Reader_pattern := Reader_pattern) (Reader_place := Reader_place) (Word_size := Word_size) (Word_letters := Word_letters) hv8
  rcases hv8b : v8 with v9 | E9
  · rw [hv8b] at hc hf
    dsimp only [fth] at hf
    refine V.callVn (pl := [0, 1, 2, 3, 4, 5, 6, 7, 8, 9, 10]) (σ' := [.inl (5, [.ref 1, .ref 3, .ref 6, .ref 8, .ref 9]), .inl (3, [.ref 2]), .inr (910, .inl State_cells), .inl (1, [.ref 4, .ref 5, .int History_oldest, .int History_size, .int History_snapshotTaken]), .inr (5460, .inl History_saved), .inr (910, .inl History_snapshot), .inl (0, [.ref 7, .int Buffer_size]), .inr (60, .inl Buffer_codes), .inl (2, [.ref (Reader_pattern + 1000), .int Reader_place]), .inl (4, [.ref 10, .int Word_size]), .inr (8, .inl Word_letters)]) (st2 := [.int v9]) (cl2 := 0) (sl2 := 0) hc dL_ends_47 w576 ⟨w577, w578⟩ cal_X10_told rfl ⟨⟨Nat.le_of_ble_eq_true rfl, Nat.le_of_ble_eq_true rfl⟩, Nat.le_of_ble_eq_true rfl, Nat.le_of_ble_eq_true rfl⟩ (Nat.le_of_ble_eq_true rfl) ⟨_, _, _, _, rfl, rfl⟩ rfl ⟨rfl, ⟨by decide, by decide⟩, rfl, (fr_cons (Or.inl (Nat.le_of_ble_eq_true rfl)) (fr_cons (Or.inl (Nat.le_of_ble_eq_true rfl)) (fr_cons (Or.inl (Nat.le_of_ble_eq_true rfl)) (fr_cons (Or.inl (Nat.le_of_ble_eq_true rfl)) (fr_cons (Or.inl (Nat.le_of_ble_eq_true rfl)) (fr_cons (Or.inl (Nat.le_of_ble_eq_true rfl)) (fr_cons (Or.inl (Nat.le_of_ble_eq_true rfl)) (fr_cons (Or.inl (Nat.le_of_ble_eq_true rfl)) (fr_cons (Or.inl (Nat.le_of_ble_eq_true rfl)) (fr_cons (Or.inr (Nat.le_add_left 1000 _)) (fr_cons (Or.inl (Nat.le_of_ble_eq_true rfl)) (fr_nil)))))))))))), rfl⟩ fr_i rfl rfl rfl rfl ?_
    refine V.iconst (v := (-1)) dL_ends_50 rfl ?_
    obtain ⟨v10, ev10, hf⟩ := flet_e hf
    refine V.join (J := 59) (y := v10) (st' := []) (fun tlv10 => ?_) ?_
    · refine V.icmp_ne (tgt := 58) dL_ends_51 (by decide) (fun h11 => ?_) (fun h11 => ?_)
      · refine V.iconst (v := 0) dL_ends_58 rfl ?_
        exact V.cgi (by rw [← ev10, if_neg h11]) tlv10
      · refine V.iconst (v := 1) dL_ends_54 rfl ?_
        refine V.goto (tgt := 59) dL_ends_55 (by decide) ?_
        exact V.cgi (by rw [← ev10, if_pos h11]) tlv10
    · refine V.istore (i := 4) (L' := [some (.ref 0), some (.int a1), some (.int a2), some (.int r7.1), some (.int v10), none, none]) dL_ends_59 (Nat.le_of_ble_eq_true rfl) rfl rfl ?_
      refine V.iconst (v := 0) dL_ends_61 rfl ?_
      refine V.istore (i := 5) (L' := [some (.ref 0), some (.int a1), some (.int a2), some (.int r7.1), some (.int v10), some (.int 0), none]) dL_ends_62 (Nat.le_of_ble_eq_true rfl) rfl rfl ?_
      obtain ⟨r24, hr24, hf⟩ := fbind hf
      refine v_L_ends_L64 gF hr24 ?_
      refine V.iload (i := 4) dL_ends_142 rfl ?_
      obtain ⟨hz, hf⟩ := fz_e hf
      obtain rfl := Option.some.inj hf
      exact V.zret (v := r24.1) dL_ends_144 rfl hz (Nat.le_of_ble_eq_true rfl) (Nat.le_of_ble_eq_true rfl) rfl
  · rw [hv8b] at hc hf
    dsimp only [fth] at hf
    cases hf
def k_L_tryTie : fK := (yL_tryTie, cL_tryTie, 3, (some .int), [(0, 5, 6, 59), (0, 5, 11, 61), (0, 5, 16, 63)], (8, 123), (1, 6), (1, 6))
theorem cal_L_tryTie : fCal k_L_tryTie 2 := ⟨⟨wc538, w5⟩, ⟨by decide +kernel, by decide +kernel⟩, by decide +kernel, by decide +kernel⟩
def s_L_tryTie (a1 : Int32) (State_cells : Nat → Int32) (History_oldest : Int32) (History_size : Int32) (History_saved : Nat → Int32) (Buffer_size : Int32) (Buffer_codes : Nat → Int32) (Word_size : Int32) (Word_letters : Nat → Int32) : Option (Int32 × (Nat → Int32) × (Int32) × (Int32) × (Nat → Int32) × (Int32) × (Int32) × (Nat → Int32)) := (s_X10_tie a1 State_cells History_oldest History_size History_saved Buffer_size Buffer_codes Word_size Word_letters).bind fun v1 => fth v1.1 (fun v2 => some (v2, v1.2.1, v1.2.2.1, v1.2.2.2.1, v1.2.2.2.2.1, v1.2.2.2.2.2.1, v1.2.2.2.2.2.2.1, v1.2.2.2.2.2.2.2)) (fun E9 => if (E9 = "java/lang/IndexOutOfBoundsException" : Prop) then (some ((-7001), v1.2.1, v1.2.2.1, v1.2.2.2.1, v1.2.2.2.2.1, v1.2.2.2.2.2.1, v1.2.2.2.2.2.2.1, v1.2.2.2.2.2.2.2)) else (if (E9 = "java/lang/IllegalArgumentException" : Prop) then (some ((-7002), v1.2.1, v1.2.2.1, v1.2.2.2.1, v1.2.2.2.2.1, v1.2.2.2.2.2.1, v1.2.2.2.2.2.2.1, v1.2.2.2.2.2.2.2)) else (if (E9 = "java/lang/IllegalStateException" : Prop) then (some ((-7003), v1.2.1, v1.2.2.1, v1.2.2.2.1, v1.2.2.2.2.1, v1.2.2.2.2.2.1, v1.2.2.2.2.2.2.1, v1.2.2.2.2.2.2.2)) else (none))))
set_option maxHeartbeats 4000000 in
set_option maxRecDepth 100000 in
theorem ct_L_tryTie {a1 : Int32} {State_cells : Nat → Int32} {History_oldest : Int32} {History_size : Int32} {History_snapshotTaken : Int32} {History_saved : Nat → Int32} {History_snapshot : Nat → Int32} {Buffer_size : Int32} {Buffer_codes : Nat → Int32} {Reader_pattern : Nat} {Reader_place : Int32} {Word_size : Int32} {Word_letters : Nat → Int32} {res : Int32 × (Nat → Int32) × (Int32) × (Int32) × (Nat → Int32) × (Int32) × (Int32) × (Nat → Int32)} (hf : s_L_tryTie a1 State_cells History_oldest History_size History_saved Buffer_size Buffer_codes Word_size Word_letters = some res) : Ct k_L_tryTie [.ref 0, .int a1] [.inl (5, [.ref 1, .ref 3, .ref 6, .ref 8, .ref 9]), .inl (3, [.ref 2]), .inr (910, .inl State_cells), .inl (1, [.ref 4, .ref 5, .int History_oldest, .int History_size, .int History_snapshotTaken]), .inr (5460, .inl History_saved), .inr (910, .inl History_snapshot), .inl (0, [.ref 7, .int Buffer_size]), .inr (60, .inl Buffer_codes), .inl (2, [.ref (Reader_pattern + 1000), .int Reader_place]), .inl (4, [.ref 10, .int Word_size]), .inr (8, .inl Word_letters)] (.inl (some (.int res.1))) [.inl (5, [.ref 1, .ref 3, .ref 6, .ref 8, .ref 9]), .inl (3, [.ref 2]), .inr (910, .inl res.2.1), .inl (1, [.ref 4, .ref 5, .int res.2.2.1, .int res.2.2.2.1, .int History_snapshotTaken]), .inr (5460, .inl res.2.2.2.2.1), .inr (910, .inl History_snapshot), .inl (0, [.ref 7, .int res.2.2.2.2.2.1]), .inr (60, .inl Buffer_codes), .inl (2, [.ref (Reader_pattern + 1000), .int Reader_place]), .inl (4, [.ref 10, .int res.2.2.2.2.2.2.1]), .inr (8, .inl res.2.2.2.2.2.2.2)] := by
  unfold s_L_tryTie at hf
  refine Ct.of (L := [some (.ref 0), some (.int a1), none]) cal_L_tryTie (fent_pad (j := 1) rfl) (Nat.le_of_ble_eq_true rfl) ?_
  refine V.aload_n (i := 0) dL_tryTie_0 rfl rfl ?_
  refine V.iload_n (i := 1) dL_tryTie_1 rfl rfl ?_
  obtain ⟨v1, hv1, hf⟩ := fbind hf
  have hc := ct_X10_tie (a1 := a1) (State_cells := State_cells) (History_oldest := History_oldest) (History_size := History_size) (History_snapshotTaken := History_snapshotTaken) (History_saved := History_saved) (History_snapshot := History_snapshot) (Buffer_size := Buffer_size) (Buffer_codes := Buffer_codes) (Reader_pattern := Reader_pattern) (Reader_place := Reader_place) (Word_size := Word_size) (Word_letters := Word_letters) hv1
  rcases hv1b : v1.1 with v2 | E9
  · rw [hv1b] at hc hf
    dsimp only [fth] at hf
    refine V.callVn (pl := [0, 1, 2, 3, 4, 5, 6, 7, 8, 9, 10]) (σ' := [.inl (5, [.ref 1, .ref 3, .ref 6, .ref 8, .ref 9]), .inl (3, [.ref 2]), .inr (910, .inl v1.2.1), .inl (1, [.ref 4, .ref 5, .int v1.2.2.1, .int v1.2.2.2.1, .int History_snapshotTaken]), .inr (5460, .inl v1.2.2.2.2.1), .inr (910, .inl History_snapshot), .inl (0, [.ref 7, .int v1.2.2.2.2.2.1]), .inr (60, .inl Buffer_codes), .inl (2, [.ref (Reader_pattern + 1000), .int Reader_place]), .inl (4, [.ref 10, .int v1.2.2.2.2.2.2.1]), .inr (8, .inl v1.2.2.2.2.2.2.2)]) (st2 := [.int v2]) (cl2 := 0) (sl2 := 0) hc dL_tryTie_2 w542 ⟨w543, w544⟩ cal_X10_tie rfl ⟨⟨Nat.le_of_ble_eq_true rfl, Nat.le_of_ble_eq_true rfl⟩, Nat.le_of_ble_eq_true rfl, Nat.le_of_ble_eq_true rfl⟩ (Nat.le_of_ble_eq_true rfl) ⟨_, _, _, _, rfl, rfl⟩ rfl ⟨rfl, ⟨by decide, by decide⟩, rfl, (fr_cons (Or.inl (Nat.le_of_ble_eq_true rfl)) (fr_cons (Or.inl (Nat.le_of_ble_eq_true rfl)) (fr_cons (Or.inl (Nat.le_of_ble_eq_true rfl)) (fr_cons (Or.inl (Nat.le_of_ble_eq_true rfl)) (fr_cons (Or.inl (Nat.le_of_ble_eq_true rfl)) (fr_cons (Or.inl (Nat.le_of_ble_eq_true rfl)) (fr_cons (Or.inl (Nat.le_of_ble_eq_true rfl)) (fr_cons (Or.inl (Nat.le_of_ble_eq_true rfl)) (fr_cons (Or.inl (Nat.le_of_ble_eq_true rfl)) (fr_cons (Or.inr (Nat.le_add_left 1000 _)) (fr_cons (Or.inl (Nat.le_of_ble_eq_true rfl)) (fr_nil)))))))))))), rfl⟩ fr_i rfl rfl rfl rfl ?_
    obtain rfl := Option.some.inj hf
    exact V.iret dL_tryTie_5 rfl (Nat.le_of_ble_eq_true rfl) (Nat.le_of_ble_eq_true rfl) rfl
  · rw [hv1b] at hc hf
    dsimp only [fth] at hf
    by_cases hE : E9 = "java/lang/IndexOutOfBoundsException"
    · subst hE
      have hf := fif_t rfl hf
      refine V.callVx (pl := [0, 1, 2, 3, 4, 5, 6, 7, 8, 9, 10]) (σ' := [.inl (5, [.ref 1, .ref 3, .ref 6, .ref 8, .ref 9]), .inl (3, [.ref 2]), .inr (910, .inl v1.2.1), .inl (1, [.ref 4, .ref 5, .int v1.2.2.1, .int v1.2.2.2.1, .int History_snapshotTaken]), .inr (5460, .inl v1.2.2.2.2.1), .inr (910, .inl History_snapshot), .inl (0, [.ref 7, .int v1.2.2.2.2.2.1]), .inr (60, .inl Buffer_codes), .inl (2, [.ref (Reader_pattern + 1000), .int Reader_place]), .inl (4, [.ref 10, .int v1.2.2.2.2.2.2.1]), .inr (8, .inl v1.2.2.2.2.2.2.2)]) hc dL_tryTie_2 w542 ⟨w543, w544⟩ cal_X10_tie rfl ⟨⟨Nat.le_of_ble_eq_true rfl, Nat.le_of_ble_eq_true rfl⟩, Nat.le_of_ble_eq_true rfl, Nat.le_of_ble_eq_true rfl⟩ (Nat.le_of_ble_eq_true rfl) ⟨_, _, _, _, rfl, rfl⟩ rfl ⟨rfl, ⟨by decide, by decide⟩, rfl, (fr_cons (Or.inl (Nat.le_of_ble_eq_true rfl)) (fr_cons (Or.inl (Nat.le_of_ble_eq_true rfl)) (fr_cons (Or.inl (Nat.le_of_ble_eq_true rfl)) (fr_cons (Or.inl (Nat.le_of_ble_eq_true rfl)) (fr_cons (Or.inl (Nat.le_of_ble_eq_true rfl)) (fr_cons (Or.inl (Nat.le_of_ble_eq_true rfl)) (fr_cons (Or.inl (Nat.le_of_ble_eq_true rfl)) (fr_cons (Or.inl (Nat.le_of_ble_eq_true rfl)) (fr_cons (Or.inl (Nat.le_of_ble_eq_true rfl)) (fr_cons (Or.inr (Nat.le_add_left 1000 _)) (fr_cons (Or.inl (Nat.le_of_ble_eq_true rfl)) (fr_nil)))))))))))), rfl⟩ ?_
      refine VX.catch (j := 0) (pre := []) (x := (0, 5, 6, 59)) (suf := [(0, 5, 11, 61), (0, 5, 16, 63)]) (i := 2) (L' := [some (.ref 0), some (.int a1), none]) rfl (by decide) (by decide) (fun z hz => nomatch hz) w539 rfl (Or.inl ⟨2, rfl, rfl, rfl⟩) dL_tryTie_6 (Nat.le_of_ble_eq_true rfl) rfl rfl ?_
      refine V.sipush (v := (-7001)) dL_tryTie_7 rfl ?_
      obtain rfl := Option.some.inj hf
      exact V.iret dL_tryTie_10 rfl (Nat.le_of_ble_eq_true rfl) (Nat.le_of_ble_eq_true rfl) rfl
    · have hf := fif_f hE hf
      by_cases hE : E9 = "java/lang/IllegalArgumentException"
      · subst hE
        have hf := fif_t rfl hf
        refine V.callVx (pl := [0, 1, 2, 3, 4, 5, 6, 7, 8, 9, 10]) (σ' := [.inl (5, [.ref 1, .ref 3, .ref 6, .ref 8, .ref 9]), .inl (3, [.ref 2]), .inr (910, .inl v1.2.1), .inl (1, [.ref 4, .ref 5, .int v1.2.2.1, .int v1.2.2.2.1, .int History_snapshotTaken]), .inr (5460, .inl v1.2.2.2.2.1), .inr (910, .inl History_snapshot), .inl (0, [.ref 7, .int v1.2.2.2.2.2.1]), .inr (60, .inl Buffer_codes), .inl (2, [.ref (Reader_pattern + 1000), .int Reader_place]), .inl (4, [.ref 10, .int v1.2.2.2.2.2.2.1]), .inr (8, .inl v1.2.2.2.2.2.2.2)]) hc dL_tryTie_2 w542 ⟨w543, w544⟩ cal_X10_tie rfl ⟨⟨Nat.le_of_ble_eq_true rfl, Nat.le_of_ble_eq_true rfl⟩, Nat.le_of_ble_eq_true rfl, Nat.le_of_ble_eq_true rfl⟩ (Nat.le_of_ble_eq_true rfl) ⟨_, _, _, _, rfl, rfl⟩ rfl ⟨rfl, ⟨by decide, by decide⟩, rfl, (fr_cons (Or.inl (Nat.le_of_ble_eq_true rfl)) (fr_cons (Or.inl (Nat.le_of_ble_eq_true rfl)) (fr_cons (Or.inl (Nat.le_of_ble_eq_true rfl)) (fr_cons (Or.inl (Nat.le_of_ble_eq_true rfl)) (fr_cons (Or.inl (Nat.le_of_ble_eq_true rfl)) (fr_cons (Or.inl (Nat.le_of_ble_eq_true rfl)) (fr_cons (Or.inl (Nat.le_of_ble_eq_true rfl)) (fr_cons (Or.inl (Nat.le_of_ble_eq_true rfl)) (fr_cons (Or.inl (Nat.le_of_ble_eq_true rfl)) (fr_cons (Or.inr (Nat.le_add_left 1000 _)) (fr_cons (Or.inl (Nat.le_of_ble_eq_true rfl)) (fr_nil)))))))))))), rfl⟩ ?_
        refine VX.catch (j := 0) (pre := [(0, 5, 6, 59)]) (x := (0, 5, 11, 61)) (suf := [(0, 5, 16, 63)]) (i := 2) (L' := [some (.ref 0), some (.int a1), none]) rfl (by decide) (by decide) (List.forall_mem_cons.mpr ⟨⟨by decide, "java/lang/IndexOutOfBoundsException", w539, List.mem_of_getElem? (i := 2) rfl⟩, fun z hz => nomatch hz⟩) w540 rfl (Or.inl ⟨2, rfl, rfl, rfl⟩) dL_tryTie_11 (Nat.le_of_ble_eq_true rfl) rfl rfl ?_
        refine V.sipush (v := (-7002)) dL_tryTie_12 rfl ?_
        obtain rfl := Option.some.inj hf
        exact V.iret dL_tryTie_15 rfl (Nat.le_of_ble_eq_true rfl) (Nat.le_of_ble_eq_true rfl) rfl
      · have hf := fif_f hE hf
        by_cases hE : E9 = "java/lang/IllegalStateException"
        · subst hE
          have hf := fif_t rfl hf
          refine V.callVx (pl := [0, 1, 2, 3, 4, 5, 6, 7, 8, 9, 10]) (σ' := [.inl (5, [.ref 1, .ref 3, .ref 6, .ref 8, .ref 9]), .inl (3, [.ref 2]), .inr (910, .inl v1.2.1), .inl (1, [.ref 4, .ref 5, .int v1.2.2.1, .int v1.2.2.2.1, .int History_snapshotTaken]), .inr (5460, .inl v1.2.2.2.2.1), .inr (910, .inl History_snapshot), .inl (0, [.ref 7, .int v1.2.2.2.2.2.1]), .inr (60, .inl Buffer_codes), .inl (2, [.ref (Reader_pattern + 1000), .int Reader_place]), .inl (4, [.ref 10, .int v1.2.2.2.2.2.2.1]), .inr (8, .inl v1.2.2.2.2.2.2.2)]) hc dL_tryTie_2 w542 ⟨w543, w544⟩ cal_X10_tie rfl ⟨⟨Nat.le_of_ble_eq_true rfl, Nat.le_of_ble_eq_true rfl⟩, Nat.le_of_ble_eq_true rfl, Nat.le_of_ble_eq_true rfl⟩ (Nat.le_of_ble_eq_true rfl) ⟨_, _, _, _, rfl, rfl⟩ rfl ⟨rfl, ⟨by decide, by decide⟩, rfl, (fr_cons (Or.inl (Nat.le_of_ble_eq_true rfl)) (fr_cons (Or.inl (Nat.le_of_ble_eq_true rfl)) (fr_cons (Or.inl (Nat.le_of_ble_eq_true rfl)) (fr_cons (Or.inl (Nat.le_of_ble_eq_true rfl)) (fr_cons (Or.inl (Nat.le_of_ble_eq_true rfl)) (fr_cons (Or.inl (Nat.le_of_ble_eq_true rfl)) (fr_cons (Or.inl (Nat.le_of_ble_eq_true rfl)) (fr_cons (Or.inl (Nat.le_of_ble_eq_true rfl)) (fr_cons (Or.inl (Nat.le_of_ble_eq_true rfl)) (fr_cons (Or.inr (Nat.le_add_left 1000 _)) (fr_cons (Or.inl (Nat.le_of_ble_eq_true rfl)) (fr_nil)))))))))))), rfl⟩ ?_
          refine VX.catch (j := 0) (pre := [(0, 5, 6, 59), (0, 5, 11, 61)]) (x := (0, 5, 16, 63)) (suf := []) (i := 2) (L' := [some (.ref 0), some (.int a1), none]) rfl (by decide) (by decide) (List.forall_mem_cons.mpr ⟨⟨by decide, "java/lang/IndexOutOfBoundsException", w539, List.mem_of_getElem? (i := 4) rfl⟩, List.forall_mem_cons.mpr ⟨⟨by decide, "java/lang/IllegalArgumentException", w540, List.mem_of_getElem? (i := 5) rfl⟩, fun z hz => nomatch hz⟩⟩) w541 rfl (Or.inl ⟨2, rfl, rfl, rfl⟩) dL_tryTie_16 (Nat.le_of_ble_eq_true rfl) rfl rfl ?_
          refine V.sipush (v := (-7003)) dL_tryTie_17 rfl ?_
          obtain rfl := Option.some.inj hf
          exact V.iret dL_tryTie_20 rfl (Nat.le_of_ble_eq_true rfl) (Nat.le_of_ble_eq_true rfl) rfl
        · have hf := fif_f hE hf
          cases hf
def k_L_tryFast : fK := (yL_tryFast, cL_tryFast, 4, (some .int), [(0, 6, 7, 59), (0, 6, 12, 63)], (9, 146), (1, 6), (1, 6))
theorem cal_L_tryFast : fCal k_L_tryFast 3 := ⟨⟨wc657, w5⟩, ⟨by decide +kernel, by decide +kernel⟩, by decide +kernel, by decide +kernel⟩
def s_L_tryFast (a1 : Int32) (a2 : Int32) (State_cells : Nat → Int32) (History_oldest : Int32) (History_size : Int32) (History_saved : Nat → Int32) : Option (Int32 × (Nat → Int32) × (Int32) × (Int32) × (Nat → Int32)) := (s_X10_fast a1 a2 State_cells History_oldest History_size History_saved).bind fun v1 => fth v1.1 (fun v2 => some (v2, v1.2.1, v1.2.2.1, v1.2.2.2.1, v1.2.2.2.2)) (fun E9 => if (E9 = "java/lang/IndexOutOfBoundsException" : Prop) then (some ((-7001), v1.2.1, v1.2.2.1, v1.2.2.2.1, v1.2.2.2.2)) else (if (E9 = "java/lang/IllegalStateException" : Prop) then (some ((-7003), v1.2.1, v1.2.2.1, v1.2.2.2.1, v1.2.2.2.2)) else (none)))
set_option maxHeartbeats 4000000 in
set_option maxRecDepth 100000 in
theorem ct_L_tryFast {a1 : Int32} {a2 : Int32} {State_cells : Nat → Int32} {History_oldest : Int32} {History_size : Int32} {History_snapshotTaken : Int32} {History_saved : Nat → Int32} {History_snapshot : Nat → Int32} {Buffer_size : Int32} {Buffer_codes : Nat → Int32} {Reader_pattern : Nat} {Reader_place : Int32} {Word_size : Int32} {Word_letters : Nat → Int32} {res : Int32 × (Nat → Int32) × (Int32) × (Int32) × (Nat → Int32)} (hf : s_L_tryFast a1 a2 State_cells History_oldest History_size History_saved = some res) : Ct k_L_tryFast [.ref 0, .int a1, .int a2] [.inl (5, [.ref 1, .ref 3, .ref 6, .ref 8, .ref 9]), .inl (3, [.ref 2]), .inr (910, .inl State_cells), .inl (1, [.ref 4, .ref 5, .int History_oldest, .int History_size, .int History_snapshotTaken]), .inr (5460, .inl History_saved), .inr (910, .inl History_snapshot), .inl (0, [.ref 7, .int Buffer_size]), .inr (60, .inl Buffer_codes), .inl (2, [.ref (Reader_pattern + 1000), .int Reader_place]), .inl (4, [.ref 10, .int Word_size]), .inr (8, .inl Word_letters)] (.inl (some (.int res.1))) [.inl (5, [.ref 1, .ref 3, .ref 6, .ref 8, .ref 9]), .inl (3, [.ref 2]), .inr (910, .inl res.2.1), .inl (1, [.ref 4, .ref 5, .int res.2.2.1, .int res.2.2.2.1, .int History_snapshotTaken]), .inr (5460, .inl res.2.2.2.2), .inr (910, .inl History_snapshot), .inl (0, [.ref 7, .int Buffer_size]), .inr (60, .inl Buffer_codes), .inl (2, [.ref (Reader_pattern + 1000), .int Reader_place]), .inl (4, [.ref 10, .int Word_size]), .inr (8, .inl Word_letters)] := by
  unfold s_L_tryFast at hf
  refine Ct.of (L := [some (.ref 0), some (.int a1), some (.int a2), none]) cal_L_tryFast (fent_pad (j := 1) rfl) (Nat.le_of_ble_eq_true rfl) ?_
  refine V.aload_n (i := 0) dL_tryFast_0 rfl rfl ?_
  refine V.iload_n (i := 1) dL_tryFast_1 rfl rfl ?_
  refine V.iload_n (i := 2) dL_tryFast_2 rfl rfl ?_
  obtain ⟨v1, hv1, hf⟩ := fbind hf
  have hc := ct_X10_fast (a1 := a1) (a2 := a2) (State_cells := State_cells) (History_oldest := History_oldest) (History_size := History_size) (History_snapshotTaken := History_snapshotTaken) (History_saved := History_saved) (History_snapshot := History_snapshot) (Buffer_size := Buffer_size) (Buffer_codes := Buffer_codes) (Reader_pattern := Reader_pattern) (Reader_place := Reader_place) (Word_size := Word_size) (Word_letters := Word_letters) hv1
  rcases hv1b : v1.1 with v2 | E9
  · rw [hv1b] at hc hf
    dsimp only [fth] at hf
    refine V.callVn (pl := [0, 1, 2, 3, 4, 5, 6, 7, 8, 9, 10]) (σ' := [.inl (5, [.ref 1, .ref 3, .ref 6, .ref 8, .ref 9]), .inl (3, [.ref 2]), .inr (910, .inl v1.2.1), .inl (1, [.ref 4, .ref 5, .int v1.2.2.1, .int v1.2.2.2.1, .int History_snapshotTaken]), .inr (5460, .inl v1.2.2.2.2), .inr (910, .inl History_snapshot), .inl (0, [.ref 7, .int Buffer_size]), .inr (60, .inl Buffer_codes), .inl (2, [.ref (Reader_pattern + 1000), .int Reader_place]), .inl (4, [.ref 10, .int Word_size]), .inr (8, .inl Word_letters)]) (st2 := [.int v2]) (cl2 := 0) (sl2 := 0) hc dL_tryFast_3 w658 ⟨w659, w660⟩ cal_X10_fast rfl ⟨⟨Nat.le_of_ble_eq_true rfl, Nat.le_of_ble_eq_true rfl⟩, Nat.le_of_ble_eq_true rfl, Nat.le_of_ble_eq_true rfl⟩ (Nat.le_of_ble_eq_true rfl) ⟨_, _, _, _, rfl, rfl⟩ rfl ⟨rfl, ⟨by decide, by decide⟩, rfl, (fr_cons (Or.inl (Nat.le_of_ble_eq_true rfl)) (fr_cons (Or.inl (Nat.le_of_ble_eq_true rfl)) (fr_cons (Or.inl (Nat.le_of_ble_eq_true rfl)) (fr_cons (Or.inl (Nat.le_of_ble_eq_true rfl)) (fr_cons (Or.inl (Nat.le_of_ble_eq_true rfl)) (fr_cons (Or.inl (Nat.le_of_ble_eq_true rfl)) (fr_cons (Or.inl (Nat.le_of_ble_eq_true rfl)) (fr_cons (Or.inl (Nat.le_of_ble_eq_true rfl)) (fr_cons (Or.inl (Nat.le_of_ble_eq_true rfl)) (fr_cons (Or.inr (Nat.le_add_left 1000 _)) (fr_cons (Or.inl (Nat.le_of_ble_eq_true rfl)) (fr_nil)))))))))))), rfl⟩ fr_i rfl rfl rfl rfl ?_
    obtain rfl := Option.some.inj hf
    exact V.iret dL_tryFast_6 rfl (Nat.le_of_ble_eq_true rfl) (Nat.le_of_ble_eq_true rfl) rfl
  · rw [hv1b] at hc hf
    dsimp only [fth] at hf
    by_cases hE : E9 = "java/lang/IndexOutOfBoundsException"
    · subst hE
      have hf := fif_t rfl hf
      refine V.callVx (pl := [0, 1, 2, 3, 4, 5, 6, 7, 8, 9, 10]) (σ' := [.inl (5, [.ref 1, .ref 3, .ref 6, .ref 8, .ref 9]), .inl (3, [.ref 2]), .inr (910, .inl v1.2.1), .inl (1, [.ref 4, .ref 5, .int v1.2.2.1, .int v1.2.2.2.1, .int History_snapshotTaken]), .inr (5460, .inl v1.2.2.2.2), .inr (910, .inl History_snapshot), .inl (0, [.ref 7, .int Buffer_size]), .inr (60, .inl Buffer_codes), .inl (2, [.ref (Reader_pattern + 1000), .int Reader_place]), .inl (4, [.ref 10, .int Word_size]), .inr (8, .inl Word_letters)]) hc dL_tryFast_3 w658 ⟨w659, w660⟩ cal_X10_fast rfl ⟨⟨Nat.le_of_ble_eq_true rfl, Nat.le_of_ble_eq_true rfl⟩, Nat.le_of_ble_eq_true rfl, Nat.le_of_ble_eq_true rfl⟩ (Nat.le_of_ble_eq_true rfl) ⟨_, _, _, _, rfl, rfl⟩ rfl ⟨rfl, ⟨by decide, by decide⟩, rfl, (fr_cons (Or.inl (Nat.le_of_ble_eq_true rfl)) (fr_cons (Or.inl (Nat.le_of_ble_eq_true rfl)) (fr_cons (Or.inl (Nat.le_of_ble_eq_true rfl)) (fr_cons (Or.inl (Nat.le_of_ble_eq_true rfl)) (fr_cons (Or.inl (Nat.le_of_ble_eq_true rfl)) (fr_cons (Or.inl (Nat.le_of_ble_eq_true rfl)) (fr_cons (Or.inl (Nat.le_of_ble_eq_true rfl)) (fr_cons (Or.inl (Nat.le_of_ble_eq_true rfl)) (fr_cons (Or.inl (Nat.le_of_ble_eq_true rfl)) (fr_cons (Or.inr (Nat.le_add_left 1000 _)) (fr_cons (Or.inl (Nat.le_of_ble_eq_true rfl)) (fr_nil)))))))))))), rfl⟩ ?_
      refine VX.catch (j := 0) (pre := []) (x := (0, 6, 7, 59)) (suf := [(0, 6, 12, 63)]) (i := 3) (L' := [some (.ref 0), some (.int a1), some (.int a2), none]) rfl (by decide) (by decide) (fun z hz => nomatch hz) w539 rfl (Or.inl ⟨3, rfl, rfl, rfl⟩) dL_tryFast_7 (Nat.le_of_ble_eq_true rfl) rfl rfl ?_
      refine V.sipush (v := (-7001)) dL_tryFast_8 rfl ?_
      obtain rfl := Option.some.inj hf
      exact V.iret dL_tryFast_11 rfl (Nat.le_of_ble_eq_true rfl) (Nat.le_of_ble_eq_true rfl) rfl
    · have hf := fif_f hE hf
      by_cases hE : E9 = "java/lang/IllegalStateException"
      · subst hE
        have hf := fif_t rfl hf
        refine V.callVx (pl := [0, 1, 2, 3, 4, 5, 6, 7, 8, 9, 10]) (σ' := [.inl (5, [.ref 1, .ref 3, .ref 6, .ref 8, .ref 9]), .inl (3, [.ref 2]), .inr (910, .inl v1.2.1), .inl (1, [.ref 4, .ref 5, .int v1.2.2.1, .int v1.2.2.2.1, .int History_snapshotTaken]), .inr (5460, .inl v1.2.2.2.2), .inr (910, .inl History_snapshot), .inl (0, [.ref 7, .int Buffer_size]), .inr (60, .inl Buffer_codes), .inl (2, [.ref (Reader_pattern + 1000), .int Reader_place]), .inl (4, [.ref 10, .int Word_size]), .inr (8, .inl Word_letters)]) hc dL_tryFast_3 w658 ⟨w659, w660⟩ cal_X10_fast rfl ⟨⟨Nat.le_of_ble_eq_true rfl, Nat.le_of_ble_eq_true rfl⟩, Nat.le_of_ble_eq_true rfl, Nat.le_of_ble_eq_true rfl⟩ (Nat.le_of_ble_eq_true rfl) ⟨_, _, _, _, rfl, rfl⟩ rfl ⟨rfl, ⟨by decide, by decide⟩, rfl, (fr_cons (Or.inl (Nat.le_of_ble_eq_true rfl)) (fr_cons (Or.inl (Nat.le_of_ble_eq_true rfl)) (fr_cons (Or.inl (Nat.le_of_ble_eq_true rfl)) (fr_cons (Or.inl (Nat.le_of_ble_eq_true rfl)) (fr_cons (Or.inl (Nat.le_of_ble_eq_true rfl)) (fr_cons (Or.inl (Nat.le_of_ble_eq_true rfl)) (fr_cons (Or.inl (Nat.le_of_ble_eq_true rfl)) (fr_cons (Or.inl (Nat.le_of_ble_eq_true rfl)) (fr_cons (Or.inl (Nat.le_of_ble_eq_true rfl)) (fr_cons (Or.inr (Nat.le_add_left 1000 _)) (fr_cons (Or.inl (Nat.le_of_ble_eq_true rfl)) (fr_nil)))))))))))), rfl⟩ ?_
        refine VX.catch (j := 0) (pre := [(0, 6, 7, 59)]) (x := (0, 6, 12, 63)) (suf := []) (i := 3) (L' := [some (.ref 0), some (.int a1), some (.int a2), none]) rfl (by decide) (by decide) (List.forall_mem_cons.mpr ⟨⟨by decide, "java/lang/IndexOutOfBoundsException", w539, List.mem_of_getElem? (i := 4) rfl⟩, fun z hz => nomatch hz⟩) w541 rfl (Or.inl ⟨3, rfl, rfl, rfl⟩) dL_tryFast_12 (Nat.le_of_ble_eq_true rfl) rfl rfl ?_
        refine V.sipush (v := (-7003)) dL_tryFast_13 rfl ?_
        obtain rfl := Option.some.inj hf
        exact V.iret dL_tryFast_16 rfl (Nat.le_of_ble_eq_true rfl) (Nat.le_of_ble_eq_true rfl) rfl
      · have hf := fif_f hE hf
        cases hf
def k_L_tryGive : fK := (yL_tryGive, cL_tryGive, 5, (some .int), [(0, 7, 8, 59), (0, 7, 14, 63)], (9, 147), (1, 6), (1, 6))
theorem cal_L_tryGive : fCal k_L_tryGive 4 := ⟨⟨wc683, w5⟩, ⟨by decide +kernel, by decide +kernel⟩, by decide +kernel, by decide +kernel⟩
def s_L_tryGive (a1 : Int32) (a2 : Int32) (a3 : Int32) (State_cells : Nat → Int32) (History_oldest : Int32) (History_size : Int32) (History_saved : Nat → Int32) (Word_size : Int32) (Word_letters : Nat → Int32) : Option (Int32 × (Nat → Int32) × (Int32) × (Int32) × (Nat → Int32) × (Int32) × (Nat → Int32)) := (s_X10_give a1 a2 a3 State_cells History_oldest History_size History_saved Word_size Word_letters).bind fun v1 => fth v1.1 (fun v2 => some (v2, v1.2.1, v1.2.2.1, v1.2.2.2.1, v1.2.2.2.2.1, v1.2.2.2.2.2.1, v1.2.2.2.2.2.2)) (fun E9 => if (E9 = "java/lang/IndexOutOfBoundsException" : Prop) then (some ((-7001), v1.2.1, v1.2.2.1, v1.2.2.2.1, v1.2.2.2.2.1, v1.2.2.2.2.2.1, v1.2.2.2.2.2.2)) else (if (E9 = "java/lang/IllegalStateException" : Prop) then (some ((-7003), v1.2.1, v1.2.2.1, v1.2.2.2.1, v1.2.2.2.2.1, v1.2.2.2.2.2.1, v1.2.2.2.2.2.2)) else (none)))
set_option maxHeartbeats 4000000 in
set_option maxRecDepth 100000 in
theorem ct_L_tryGive {a1 : Int32} {a2 : Int32} {a3 : Int32} {State_cells : Nat → Int32} {History_oldest : Int32} {History_size : Int32} {History_snapshotTaken : Int32} {History_saved : Nat → Int32} {History_snapshot : Nat → Int32} {Buffer_size : Int32} {Buffer_codes : Nat → Int32} {Reader_pattern : Nat} {Reader_place : Int32} {Word_size : Int32} {Word_letters : Nat → Int32} {res : Int32 × (Nat → Int32) × (Int32) × (Int32) × (Nat → Int32) × (Int32) × (Nat → Int32)} (hf : s_L_tryGive a1 a2 a3 State_cells History_oldest History_size History_saved Word_size Word_letters = some res) : Ct k_L_tryGive [.ref 0, .int a1, .int a2, .int a3] [.inl (5, [.ref 1, .ref 3, .ref 6, .ref 8, .ref 9]), .inl (3, [.ref 2]), .inr (910, .inl State_cells), .inl (1, [.ref 4, .ref 5, .int History_oldest, .int History_size, .int History_snapshotTaken]), .inr (5460, .inl History_saved), .inr (910, .inl History_snapshot), .inl (0, [.ref 7, .int Buffer_size]), .inr (60, .inl Buffer_codes), .inl (2, [.ref (Reader_pattern + 1000), .int Reader_place]), .inl (4, [.ref 10, .int Word_size]), .inr (8, .inl Word_letters)] (.inl (some (.int res.1))) [.inl (5, [.ref 1, .ref 3, .ref 6, .ref 8, .ref 9]), .inl (3, [.ref 2]), .inr (910, .inl res.2.1), .inl (1, [.ref 4, .ref 5, .int res.2.2.1, .int res.2.2.2.1, .int History_snapshotTaken]), .inr (5460, .inl res.2.2.2.2.1), .inr (910, .inl History_snapshot), .inl (0, [.ref 7, .int Buffer_size]), .inr (60, .inl Buffer_codes), .inl (2, [.ref (Reader_pattern + 1000), .int Reader_place]), .inl (4, [.ref 10, .int res.2.2.2.2.2.1]), .inr (8, .inl res.2.2.2.2.2.2)] := by
  unfold s_L_tryGive at hf
  refine Ct.of (L := [some (.ref 0), some (.int a1), some (.int a2), some (.int a3), none]) cal_L_tryGive (fent_pad (j := 1) rfl) (Nat.le_of_ble_eq_true rfl) ?_
  refine V.aload_n (i := 0) dL_tryGive_0 rfl rfl ?_
  refine V.iload_n (i := 1) dL_tryGive_1 rfl rfl ?_
  refine V.iload_n (i := 2) dL_tryGive_2 rfl rfl ?_
  refine V.iload_n (i := 3) dL_tryGive_3 rfl rfl ?_
  obtain ⟨v1, hv1, hf⟩ := fbind hf
  have hc := ct_X10_give (a1 := a1) (a2 := a2) (a3 := a3) (State_cells := State_cells) (History_oldest := History_oldest) (History_size := History_size) (History_snapshotTaken := History_snapshotTaken) (History_saved := History_saved) (History_snapshot := History_snapshot) (Buffer_size := Buffer_size) (Buffer_codes := Buffer_codes) (Reader_pattern := Reader_pattern) (Reader_place := Reader_place) (Word_size := Word_size) (Word_letters := Word_letters) hv1
  rcases hv1b : v1.1 with v2 | E9
  · rw [hv1b] at hc hf
    dsimp only [fth] at hf
    refine V.callVn (pl := [0, 1, 2, 3, 4, 5, 6, 7, 8, 9, 10]) (σ' := [.inl (5, [.ref 1, .ref 3, .ref 6, .ref 8, .ref 9]), .inl (3, [.ref 2]), .inr (910, .inl v1.2.1), .inl (1, [.ref 4, .ref 5, .int v1.2.2.1, .int v1.2.2.2.1, .int History_snapshotTaken]), .inr (5460, .inl v1.2.2.2.2.1), .inr (910, .inl History_snapshot), .inl (0, [.ref 7, .int Buffer_size]), .inr (60, .inl Buffer_codes), .inl (2, [.ref (Reader_pattern + 1000), .int Reader_place]), .inl (4, [.ref 10, .int v1.2.2.2.2.2.1]), .inr (8, .inl v1.2.2.2.2.2.2)]) (st2 := [.int v2]) (cl2 := 0) (sl2 := 0) hc dL_tryGive_4 w684 ⟨w685, w686⟩ cal_X10_give rfl ⟨⟨Nat.le_of_ble_eq_true rfl, Nat.le_of_ble_eq_true rfl⟩, Nat.le_of_ble_eq_true rfl, Nat.le_of_ble_eq_true rfl⟩ (Nat.le_of_ble_eq_true rfl) ⟨_, _, _, _, rfl, rfl⟩ rfl ⟨rfl, ⟨by decide, by decide⟩, rfl, (fr_cons (Or.inl (Nat.le_of_ble_eq_true rfl)) (fr_cons (Or.inl (Nat.le_of_ble_eq_true rfl)) (fr_cons (Or.inl (Nat.le_of_ble_eq_true rfl)) (fr_cons (Or.inl (Nat.le_of_ble_eq_true rfl)) (fr_cons (Or.inl (Nat.le_of_ble_eq_true rfl)) (fr_cons (Or.inl (Nat.le_of_ble_eq_true rfl)) (fr_cons (Or.inl (Nat.le_of_ble_eq_true rfl)) (fr_cons (Or.inl (Nat.le_of_ble_eq_true rfl)) (fr_cons (Or.inl (Nat.le_of_ble_eq_true rfl)) (fr_cons (Or.inr (Nat.le_add_left 1000 _)) (fr_cons (Or.inl (Nat.le_of_ble_eq_true rfl)) (fr_nil)))))))))))), rfl⟩ fr_i rfl rfl rfl rfl ?_
    obtain rfl := Option.some.inj hf
    exact V.iret dL_tryGive_7 rfl (Nat.le_of_ble_eq_true rfl) (Nat.le_of_ble_eq_true rfl) rfl
  · rw [hv1b] at hc hf
    dsimp only [fth] at hf
    by_cases hE : E9 = "java/lang/IndexOutOfBoundsException"
    · subst hE
      have hf := fif_t rfl hf
      refine V.callVx (pl := [0, 1, 2, 3, 4, 5, 6, 7, 8, 9, 10]) (σ' := [.inl (5, [.ref 1, .ref 3, .ref 6, .ref 8, .ref 9]), .inl (3, [.ref 2]), .inr (910, .inl v1.2.1), .inl (1, [.ref 4, .ref 5, .int v1.2.2.1, .int v1.2.2.2.1, .int History_snapshotTaken]), .inr (5460, .inl v1.2.2.2.2.1), .inr (910, .inl History_snapshot), .inl (0, [.ref 7, .int Buffer_size]), .inr (60, .inl Buffer_codes), .inl (2, [.ref (Reader_pattern + 1000), .int Reader_place]), .inl (4, [.ref 10, .int v1.2.2.2.2.2.1]), .inr (8, .inl v1.2.2.2.2.2.2)]) hc dL_tryGive_4 w684 ⟨w685, w686⟩ cal_X10_give rfl ⟨⟨Nat.le_of_ble_eq_true rfl, Nat.le_of_ble_eq_true rfl⟩, Nat.le_of_ble_eq_true rfl, Nat.le_of_ble_eq_true rfl⟩ (Nat.le_of_ble_eq_true rfl) ⟨_, _, _, _, rfl, rfl⟩ rfl ⟨rfl, ⟨by decide, by decide⟩, rfl, (fr_cons (Or.inl (Nat.le_of_ble_eq_true rfl)) (fr_cons (Or.inl (Nat.le_of_ble_eq_true rfl)) (fr_cons (Or.inl (Nat.le_of_ble_eq_true rfl)) (fr_cons (Or.inl (Nat.le_of_ble_eq_true rfl)) (fr_cons (Or.inl (Nat.le_of_ble_eq_true rfl)) (fr_cons (Or.inl (Nat.le_of_ble_eq_true rfl)) (fr_cons (Or.inl (Nat.le_of_ble_eq_true rfl)) (fr_cons (Or.inl (Nat.le_of_ble_eq_true rfl)) (fr_cons (Or.inl (Nat.le_of_ble_eq_true rfl)) (fr_cons (Or.inr (Nat.le_add_left 1000 _)) (fr_cons (Or.inl (Nat.le_of_ble_eq_true rfl)) (fr_nil)))))))))))), rfl⟩ ?_
      refine VX.catch (j := 0) (pre := []) (x := (0, 7, 8, 59)) (suf := [(0, 7, 14, 63)]) (i := 4) (L' := [some (.ref 0), some (.int a1), some (.int a2), some (.int a3), none]) rfl (by decide) (by decide) (fun z hz => nomatch hz) w539 rfl (Or.inr ⟨rfl, rfl⟩) dL_tryGive_8 (Nat.le_of_ble_eq_true rfl) rfl rfl ?_
      refine V.sipush (v := (-7001)) dL_tryGive_10 rfl ?_
      obtain rfl := Option.some.inj hf
      exact V.iret dL_tryGive_13 rfl (Nat.le_of_ble_eq_true rfl) (Nat.le_of_ble_eq_true rfl) rfl
    · have hf := fif_f hE hf
      by_cases hE : E9 = "java/lang/IllegalStateException"
      · subst hE
        have hf := fif_t rfl hf
        refine V.callVx (pl := [0, 1, 2, 3, 4, 5, 6, 7, 8, 9, 10]) (σ' := [.inl (5, [.ref 1, .ref 3, .ref 6, .ref 8, .ref 9]), .inl (3, [.ref 2]), .inr (910, .inl v1.2.1), .inl (1, [.ref 4, .ref 5, .int v1.2.2.1, .int v1.2.2.2.1, .int History_snapshotTaken]), .inr (5460, .inl v1.2.2.2.2.1), .inr (910, .inl History_snapshot), .inl (0, [.ref 7, .int Buffer_size]), .inr (60, .inl Buffer_codes), .inl (2, [.ref (Reader_pattern + 1000), .int Reader_place]), .inl (4, [.ref 10, .int v1.2.2.2.2.2.1]), .inr (8, .inl v1.2.2.2.2.2.2)]) hc dL_tryGive_4 w684 ⟨w685, w686⟩ cal_X10_give rfl ⟨⟨Nat.le_of_ble_eq_true rfl, Nat.le_of_ble_eq_true rfl⟩, Nat.le_of_ble_eq_true rfl, Nat.le_of_ble_eq_true rfl⟩ (Nat.le_of_ble_eq_true rfl) ⟨_, _, _, _, rfl, rfl⟩ rfl ⟨rfl, ⟨by decide, by decide⟩, rfl, (fr_cons (Or.inl (Nat.le_of_ble_eq_true rfl)) (fr_cons (Or.inl (Nat.le_of_ble_eq_true rfl)) (fr_cons (Or.inl (Nat.le_of_ble_eq_true rfl)) (fr_cons (Or.inl (Nat.le_of_ble_eq_true rfl)) (fr_cons (Or.inl (Nat.le_of_ble_eq_true rfl)) (fr_cons (Or.inl (Nat.le_of_ble_eq_true rfl)) (fr_cons (Or.inl (Nat.le_of_ble_eq_true rfl)) (fr_cons (Or.inl (Nat.le_of_ble_eq_true rfl)) (fr_cons (Or.inl (Nat.le_of_ble_eq_true rfl)) (fr_cons (Or.inr (Nat.le_add_left 1000 _)) (fr_cons (Or.inl (Nat.le_of_ble_eq_true rfl)) (fr_nil)))))))))))), rfl⟩ ?_
        refine VX.catch (j := 0) (pre := [(0, 7, 8, 59)]) (x := (0, 7, 14, 63)) (suf := []) (i := 4) (L' := [some (.ref 0), some (.int a1), some (.int a2), some (.int a3), none]) rfl (by decide) (by decide) (List.forall_mem_cons.mpr ⟨⟨by decide, "java/lang/IndexOutOfBoundsException", w539, List.mem_of_getElem? (i := 4) rfl⟩, fun z hz => nomatch hz⟩) w541 rfl (Or.inr ⟨rfl, rfl⟩) dL_tryGive_14 (Nat.le_of_ble_eq_true rfl) rfl rfl ?_
        refine V.sipush (v := (-7003)) dL_tryGive_16 rfl ?_
        obtain rfl := Option.some.inj hf
        exact V.iret dL_tryGive_19 rfl (Nat.le_of_ble_eq_true rfl) (Nat.le_of_ble_eq_true rfl) rfl
      · have hf := fif_f hE hf
        cases hf
def k_L_ties : fK := (yL_ties, cL_ties, 12, (some .boolean), [], (10, 174), (2, 14), (3, 20))
theorem cal_L_ties : fCal k_L_ties 3 := ⟨⟨wc466, w5⟩, ⟨by decide +kernel, by decide +kernel⟩, by decide +kernel, by decide +kernel⟩
def s_L_ties_L39 (p2 : Int32) (p3 : Int32) : Nat → Int32 → Int32 → (Int32) → (Nat → Int32) → (Nat → Int32) → Option (Int32 × Int32 × (Int32) × (Nat → Int32) × (Nat → Int32))
  | 0, _, _, _, _, _ => none
  | n + 1, x5, x6, Buffer_size, Buffer_codes, arr11 => if (p3 ≤ x6 : Prop) then (some (x5, x6, Buffer_size, Buffer_codes, arr11)) else ((s_L_low (p2 >>> ((3 * x6) &&& 31)) 16).bind fun v6 => (s_L_low (p2 >>> (((2 * x6) + 1) &&& 31)) 3).bind fun v7 => flet ((if (v7 ≤ 0 : Prop) then v6 else (if ((v6 &&& 3) = 3 : Prop) then 14 else (4 * (v6 &&& 3)))) : Int32) fun v8 => fst 8 arr11 x6 v8 fun s11 => fld 8 s11 x6 fun v12 => (s_X10_append (97 + v12) Buffer_size Buffer_codes).bind fun v13 => fth v13.1 (fun v14 => s_L_ties_L39 p2 p3 n v14 (x6 + 1) v13.2.1 v13.2.2 s11) (fun E9 => none))
set_option maxHeartbeats 4000000 in
set_option maxRecDepth 100000 in
theorem v_L_ties_L39 {out : fO} {σ' : List fE} {p1 : Int32} {p2 : Int32} {p3 : Int32} {State_cells : Nat → Int32} {History_oldest : Int32} {History_size : Int32} {History_snapshotTaken : Int32} {History_saved : Nat → Int32} {History_snapshot : Nat → Int32} {Reader_pattern : Nat} {Reader_place : Int32} {Word_size : Int32} {Word_letters : Nat → Int32} : ∀ (n : Nat) {x5 : Int32} {x6 : Int32} {Buffer_size : (Int32)} {Buffer_codes : (Nat → Int32)} {arr11 : (Nat → Int32)} {res : Int32 × Int32 × (Int32) × (Nat → Int32) × (Nat → Int32)} (hf : s_L_ties_L39 p2 p3 n x5 x6 Buffer_size Buffer_codes arr11 = some res) (hx : V (fXm 11 k_L_ties out σ') (krm k_L_ties) k_L_ties 11 122 [some (.ref 0), some (.int p1), some (.int p2), some (.int p3), some (.ref 11), some (.int res.1), some (.int res.2.1), none, none, none, none, none] [] [.inl (5, [.ref 1, .ref 3, .ref 6, .ref 8, .ref 9]), .inl (3, [.ref 2]), .inr (910, .inl State_cells), .inl (1, [.ref 4, .ref 5, .int History_oldest, .int History_size, .int History_snapshotTaken]), .inr (5460, .inl History_saved), .inr (910, .inl History_snapshot), .inl (0, [.ref 7, .int res.2.2.1]), .inr (60, .inl res.2.2.2.1), .inl (2, [.ref (Reader_pattern + 1000), .int Reader_place]), .inl (4, [.ref 10, .int Word_size]), .inr (8, .inl Word_letters), .inr (8, .inl res.2.2.2.2)] 1 8), V (fXm 11 k_L_ties out σ') (krm k_L_ties) k_L_ties 11 39 [some (.ref 0), some (.int p1), some (.int p2), some (.int p3), some (.ref 11), some (.int x5), some (.int x6), none, none, none, none, none] [] [.inl (5, [.ref 1, .ref 3, .ref 6, .ref 8, .ref 9]), .inl (3, [.ref 2]), .inr (910, .inl State_cells), .inl (1, [.ref 4, .ref 5, .int History_oldest, .int History_size, .int History_snapshotTaken]), .inr (5460, .inl History_saved), .inr (910, .inl History_snapshot), .inl (0, [.ref 7, .int Buffer_size]), .inr (60, .inl Buffer_codes), .inl (2, [.ref (Reader_pattern + 1000), .int Reader_place]), .inl (4, [.ref 10, .int Word_size]), .inr (8, .inl Word_letters), .inr (8, .inl arr11)] 1 8 := by
  intro n
  induction n with
  | zero =>
    intro x5 x6 Buffer_size Buffer_codes arr11 res hf hx
    rw [s_L_ties_L39] at hf
    cases hf
  | succ n ih =>
    intro x5 x6 Buffer_size Buffer_codes arr11 res hf hx
    rw [s_L_ties_L39] at hf
    refine V.iload (i := 6) dL_ties_39 rfl ?_
    refine V.iload_n (i := 3) dL_ties_41 rfl rfl ?_
    refine V.icmp_ge (tgt := 122) dL_ties_42 (by decide) (fun h => ?_) (fun h => ?_)
    · have hf := fif_t h hf
      obtain rfl := Option.some.inj hf
      exact hx
    · have hf := fif_f h hf
      refine V.iload_n (i := 2) dL_ties_45 rfl rfl ?_
      refine V.iconst (v := 3) dL_ties_46 rfl ?_
      refine V.iload (i := 6) dL_ties_47 rfl ?_
      refine V.imul dL_ties_49 ?_
      refine V.ishr dL_ties_50 ?_
      refine V.bipush (v := 16) dL_ties_51 rfl ?_
      obtain ⟨v6, hv6, hf⟩ := fbind hf
      refine V.callSn (pl := []) (σ' := [.inl (5, [.ref 1, .ref 3, .ref 6, .ref 8, .ref 9]), .inl (3, [.ref 2]), .inr (910, .inl State_cells), .inl (1, [.ref 4, .ref 5, .int History_oldest, .int History_size, .int History_snapshotTaken]), .inr (5460, .inl History_saved), .inr (910, .inl History_snapshot), .inl (0, [.ref 7, .int Buffer_size]), .inr (60, .inl Buffer_codes), .inl (2, [.ref (Reader_pattern + 1000), .int Reader_place]), .inl (4, [.ref 10, .int Word_size]), .inr (8, .inl Word_letters), .inr (8, .inl arr11)]) (st2 := [.int v6]) (cl2 := 1) (sl2 := 8) (ct_L_low (a0 := (p2 >>> ((3 * x6) &&& 31))) (a1 := 16) hv6) dL_ties_53 w460 w461 cal_L_low ⟨⟨Nat.le_of_ble_eq_true rfl, Nat.le_of_ble_eq_true rfl⟩, Nat.le_of_ble_eq_true rfl, Nat.le_of_ble_eq_true rfl⟩ (Nat.le_of_ble_eq_true rfl) rfl ⟨rfl, ⟨by decide, by decide⟩, rfl, (fr_nil), rfl⟩ fr_i rfl rfl rfl rfl ?_
      refine V.istore (i := 7) (L' := [some (.ref 0), some (.int p1), some (.int p2), some (.int p3), some (.ref 11), some (.int x5), some (.int x6), some (.int v6), none, none, none, none]) dL_ties_56 (Nat.le_of_ble_eq_true rfl) rfl rfl ?_
      refine V.aload (i := 4) dL_ties_58 rfl ?_
      refine V.iload (i := 6) dL_ties_60 rfl ?_
      refine V.iload_n (i := 2) dL_ties_62 rfl rfl ?_
      refine V.iconst (v := 2) dL_ties_63 rfl ?_
      refine V.iload (i := 6) dL_ties_64 rfl ?_
      refine V.imul dL_ties_66 ?_
      refine V.iconst (v := 1) dL_ties_67 rfl ?_
      refine V.iadd dL_ties_68 ?_
      refine V.ishr dL_ties_69 ?_
      refine V.iconst (v := 3) dL_ties_70 rfl ?_
      obtain ⟨v7, hv7, hf⟩ := fbind hf
      refine V.callSn (pl := []) (σ' := [.inl (5, [.ref 1, .ref 3, .ref 6, .ref 8, .ref 9]), .inl (3, [.ref 2]), .inr (910, .inl State_cells), .inl (1, [.ref 4, .ref 5, .int History_oldest, .int History_size, .int History_snapshotTaken]), .inr (5460, .inl History_saved), .inr (910, .inl History_snapshot), .inl (0, [.ref 7, .int Buffer_size]), .inr (60, .inl Buffer_codes), .inl (2, [.ref (Reader_pattern + 1000), .int Reader_place]), .inl (4, [.ref 10, .int Word_size]), .inr (8, .inl Word_letters), .inr (8, .inl arr11)]) (st2 := [.int v7, .int x6, .ref 11]) (cl2 := 1) (sl2 := 8) (ct_L_low (a0 := (p2 >>> (((2 * x6) + 1) &&& 31))) (a1 := 3) hv7) dL_ties_71 w460 w461 cal_L_low ⟨⟨Nat.le_of_ble_eq_true rfl, Nat.le_of_ble_eq_true rfl⟩, Nat.le_of_ble_eq_true rfl, Nat.le_of_ble_eq_true rfl⟩ (Nat.le_of_ble_eq_true rfl) rfl ⟨rfl, ⟨by decide, by decide⟩, rfl, (fr_nil), rfl⟩ fr_i rfl rfl rfl rfl ?_
      obtain ⟨v8, ev8, hf⟩ := flet_e hf
      refine V.join (J := 101) (y := v8) (st' := [.int x6, .ref 11]) (fun tlv8 => ?_) ?_
      · refine V.if_le (tgt := 99) dL_ties_74 (by decide) (fun h9 => ?_) (fun h9 => ?_)
        · refine V.iload (i := 7) dL_ties_99 rfl ?_
          exact V.cgi (by rw [← ev8, if_pos h9]) tlv8
        · refine V.iload (i := 7) dL_ties_77 rfl ?_
          refine V.iconst (v := 3) dL_ties_79 rfl ?_
          refine V.iand dL_ties_80 ?_
          refine V.iconst (v := 3) dL_ties_81 rfl ?_
          refine V.icmp_ne (tgt := 90) dL_ties_82 (by decide) (fun h10 => ?_) (fun h10 => ?_)
          · refine V.iconst (v := 4) dL_ties_90 rfl ?_
            refine V.iload (i := 7) dL_ties_91 rfl ?_
            refine V.iconst (v := 3) dL_ties_93 rfl ?_
            refine V.iand dL_ties_94 ?_
            refine V.imul dL_ties_95 ?_
            refine V.goto (tgt := 101) dL_ties_96 (by decide) ?_
            exact V.cgi (by rw [← ev8, if_neg h9, if_neg h10]) tlv8
          · refine V.bipush (v := 14) dL_ties_85 rfl ?_
            refine V.goto (tgt := 101) dL_ties_87 (by decide) ?_
            exact V.cgi (by rw [← ev8, if_neg h9, if_pos h10]) tlv8
      · obtain ⟨hi, s11, es11, hf⟩ := fst_e hf
        refine V.fst (σ' := [.inl (5, [.ref 1, .ref 3, .ref 6, .ref 8, .ref 9]), .inl (3, [.ref 2]), .inr (910, .inl State_cells), .inl (1, [.ref 4, .ref 5, .int History_oldest, .int History_size, .int History_snapshotTaken]), .inr (5460, .inl History_saved), .inr (910, .inl History_snapshot), .inl (0, [.ref 7, .int Buffer_size]), .inr (60, .inl Buffer_codes), .inl (2, [.ref (Reader_pattern + 1000), .int Reader_place]), .inl (4, [.ref 10, .int Word_size]), .inr (8, .inl Word_letters), .inr (8, .inl s11)]) dL_ties_101 rfl hi es11 rfl ?_
        refine V.aload_n (i := 0) dL_ties_102 rfl rfl ?_
        refine V.bipush (v := 97) dL_ties_103 rfl ?_
        refine V.aload (i := 4) dL_ties_105 rfl ?_
        refine V.iload (i := 6) dL_ties_107 rfl ?_
        obtain ⟨hi, v12, ev12, hf⟩ := fld_e hf
        refine V.fld dL_ties_109 rfl hi ev12 ?_
        refine V.iadd dL_ties_110 ?_
        obtain ⟨v13, hv13, hf⟩ := fbind hf
        have hc := ct_X10_append (a1 := (97 + v12)) (State_cells := State_cells) (History_oldest := History_oldest) (History_size := History_size) (History_snapshotTaken := History_snapshotTaken) (History_saved := History_saved) (History_snapshot := History_snapshot) (Buffer_size := Buffer_size) (Buffer_codes := Buffer_codes) (Reader_pattern := Reader_pattern) (Reader_place := Reader_place) (Word_size := Word_size) (Word_letters := Word_letters) hv13
        rcases hv13b : v13.1 with v14 | E9
        · rw [hv13b] at hc hf
          dsimp only [fth] at hf
          refine V.callVn (pl := [0, 1, 2, 3, 4, 5, 6, 7, 8, 9, 10]) (σ' := [.inl (5, [.ref 1, .ref 3, .ref 6, .ref 8, .ref 9]), .inl (3, [.ref 2]), .inr (910, .inl State_cells), .inl (1, [.ref 4, .ref 5, .int History_oldest, .int History_size, .int History_snapshotTaken]), .inr (5460, .inl History_saved), .inr (910, .inl History_snapshot), .inl (0, [.ref 7, .int v13.2.1]), .inr (60, .inl v13.2.2), .inl (2, [.ref (Reader_pattern + 1000), .int Reader_place]), .inl (4, [.ref 10, .int Word_size]), .inr (8, .inl Word_letters), .inr (8, .inl s11)]) (st2 := [.int v14]) (cl2 := 1) (sl2 := 8) hc dL_ties_111 w475 ⟨w476, w477⟩ cal_X10_append rfl ⟨⟨Nat.le_of_ble_eq_true rfl, Nat.le_of_ble_eq_true rfl⟩, Nat.le_of_ble_eq_true rfl, Nat.le_of_ble_eq_true rfl⟩ (Nat.le_of_ble_eq_true rfl) ⟨_, _, _, _, rfl, rfl⟩ rfl ⟨rfl, ⟨by decide, by decide⟩, rfl, (fr_cons (Or.inl (Nat.le_of_ble_eq_true rfl)) (fr_cons (Or.inl (Nat.le_of_ble_eq_true rfl)) (fr_cons (Or.inl (Nat.le_of_ble_eq_true rfl)) (fr_cons (Or.inl (Nat.le_of_ble_eq_true rfl)) (fr_cons (Or.inl (Nat.le_of_ble_eq_true rfl)) (fr_cons (Or.inl (Nat.le_of_ble_eq_true rfl)) (fr_cons (Or.inl (Nat.le_of_ble_eq_true rfl)) (fr_cons (Or.inl (Nat.le_of_ble_eq_true rfl)) (fr_cons (Or.inl (Nat.le_of_ble_eq_true rfl)) (fr_cons (Or.inr (Nat.le_add_left 1000 _)) (fr_cons (Or.inl (Nat.le_of_ble_eq_true rfl)) (fr_nil)))))))))))), rfl⟩ fr_i rfl rfl rfl rfl ?_
          refine V.istore (i := 5) (L' := [some (.ref 0), some (.int p1), some (.int p2), some (.int p3), some (.ref 11), some (.int v14), some (.int x6), some (.int v6), none, none, none, none]) dL_ties_114 (Nat.le_of_ble_eq_true rfl) rfl rfl ?_
          refine V.iinc (i := 6) (v := (x6 + 1)) (L' := [some (.ref 0), some (.int p1), some (.int p2), some (.int p3), some (.ref 11), some (.int v14), some (.int (x6 + 1)), some (.int v6), none, none, none, none]) dL_ties_116 rfl rfl (Nat.le_of_ble_eq_true rfl) rfl rfl ?_
          refine V.goto (tgt := 39) dL_ties_119 (by decide) ?_
          exact V.locs (L' := [some (.ref 0), some (.int p1), some (.int p2), some (.int p3), some (.ref 11), some (.int v14), some (.int (x6 + 1)), none, none, none, none, none]) ⟨rfl, ⟨rfl, ⟨rfl, ⟨rfl, ⟨rfl, ⟨rfl, ⟨rfl, trivial⟩⟩⟩⟩⟩⟩⟩ (ih hf hx)
        · rw [hv13b] at hc hf
          dsimp only [fth] at hf
          cases hf
def s_L_ties_L170 (p7 : Int32) (State_cells : Nat → Int32) (History_oldest : Int32) (History_size : Int32) (History_saved : Nat → Int32) (Buffer_size : Int32) (Buffer_codes : Nat → Int32) : Nat → Int32 → (Int32) → (Nat → Int32) → Option ((Int32 × (Nat → Int32) × (Int32) × (Int32) × (Nat → Int32) × (Int32) × (Nat → Int32) × (Int32) × (Nat → Int32)) ⊕ (Int32 × (Int32) × (Nat → Int32)))
  | 0, _, _, _ => none
  | n + 1, x10, Word_size, Word_letters => if (5 ≤ x10 : Prop) then (some (.inr (x10, Word_size, Word_letters))) else ((s_X10_whyNot x10 State_cells Buffer_size Buffer_codes Word_size Word_letters).bind fun v24 => fth v24.1 (fun v25 => if (v25 = 0 : Prop) then (if (p7 < 0 : Prop) then (some (.inl (0, State_cells, History_oldest, History_size, History_saved, Buffer_size, Buffer_codes, v24.2.1, v24.2.2))) else ((s_X10_fisher x10 2 State_cells).bind fun v26 => fth v26 (fun v27 => (s_X10_fisher p7 2 State_cells).bind fun v28 => fth v28 (fun v29 => if (v29 < v27 : Prop) then (some (.inl (0, State_cells, History_oldest, History_size, History_saved, Buffer_size, Buffer_codes, v24.2.1, v24.2.2))) else ((s_X10_fisher x10 2 State_cells).bind fun v30 => fth v30 (fun v31 => (s_X10_fisher p7 2 State_cells).bind fun v32 => fth v32 (fun v33 => if (v31 = v33 : Prop) then (if (p7 ≤ x10 : Prop) then (s_L_ties_L170 p7 State_cells History_oldest History_size History_saved Buffer_size Buffer_codes n (x10 + 1) v24.2.1 v24.2.2) else (some (.inl (0, State_cells, History_oldest, History_size, History_saved, Buffer_size, Buffer_codes, v24.2.1, v24.2.2)))) else (s_L_ties_L170 p7 State_cells History_oldest History_size History_saved Buffer_size Buffer_codes n (x10 + 1) v24.2.1 v24.2.2)) (fun E9 => none)) (fun E9 => none))) (fun E9 => none)) (fun E9 => none))) else (s_L_ties_L170 p7 State_cells History_oldest History_size History_saved Buffer_size Buffer_codes n (x10 + 1) v24.2.1 v24.2.2)) (fun E9 => none))
set_option maxHeartbeats 4000000 in
set_option maxRecDepth 100000 in
theorem v_L_ties_L170 {out : fO} {σ' : List fE} {p1 : Int32} {p2 : Int32} {p3 : Int32} {p5 : Int32} {p6 : Int32} {p7 : Int32} {p8 : Int32} {p9 : Int32} {State_cells : Nat → Int32} {History_oldest : Int32} {History_size : Int32} {History_snapshotTaken : Int32} {History_saved : Nat → Int32} {History_snapshot : Nat → Int32} {Buffer_size : Int32} {Buffer_codes : Nat → Int32} {Reader_pattern : Nat} {Reader_place : Int32} {arr11 : Nat → Int32} : ∀ (n : Nat) {x10 : Int32} {Word_size : (Int32)} {Word_letters : (Nat → Int32)} {res : (Int32 × (Nat → Int32) × (Int32) × (Int32) × (Nat → Int32) × (Int32) × (Nat → Int32) × (Int32) × (Nat → Int32)) ⊕ (Int32 × (Int32) × (Nat → Int32))} (hf : s_L_ties_L170 p7 State_cells History_oldest History_size History_saved Buffer_size Buffer_codes n x10 Word_size Word_letters = some res) (hr : ∀ r, res = .inl r → out = (.inl (some (.int r.1))) ∧ σ' = [.inl (5, [.ref 1, .ref 3, .ref 6, .ref 8, .ref 9]), .inl (3, [.ref 2]), .inr (910, .inl r.2.1), .inl (1, [.ref 4, .ref 5, .int r.2.2.1, .int r.2.2.2.1, .int History_snapshotTaken]), .inr (5460, .inl r.2.2.2.2.1), .inr (910, .inl History_snapshot), .inl (0, [.ref 7, .int r.2.2.2.2.2.1]), .inr (60, .inl r.2.2.2.2.2.2.1), .inl (2, [.ref (Reader_pattern + 1000), .int Reader_place]), .inl (4, [.ref 10, .int r.2.2.2.2.2.2.2.1]), .inr (8, .inl r.2.2.2.2.2.2.2.2)]) (hx : ∀ e, res = .inr e → V (fXm 11 k_L_ties out σ') (krm k_L_ties) k_L_ties 11 239 [some (.ref 0), some (.int p1), some (.int p2), some (.int p3), some (.ref 11), some (.int p5), some (.int p6), some (.int p7), some (.int p8), some (.int p9), some (.int e.1), none] [] [.inl (5, [.ref 1, .ref 3, .ref 6, .ref 8, .ref 9]), .inl (3, [.ref 2]), .inr (910, .inl State_cells), .inl (1, [.ref 4, .ref 5, .int History_oldest, .int History_size, .int History_snapshotTaken]), .inr (5460, .inl History_saved), .inr (910, .inl History_snapshot), .inl (0, [.ref 7, .int Buffer_size]), .inr (60, .inl Buffer_codes), .inl (2, [.ref (Reader_pattern + 1000), .int Reader_place]), .inl (4, [.ref 10, .int e.2.1]), .inr (8, .inl e.2.2), .inr (8, .inl arr11)] 1 8), V (fXm 11 k_L_ties out σ') (krm k_L_ties) k_L_ties 11 170 [some (.ref 0), some (.int p1), some (.int p2), some (.int p3), some (.ref 11), some (.int p5), some (.int p6), some (.int p7), some (.int p8), some (.int p9), some (.int x10), none] [] [.inl (5, [.ref 1, .ref 3, .ref 6, .ref 8, .ref 9]), .inl (3, [.ref 2]), .inr (910, .inl State_cells), .inl (1, [.ref 4, .ref 5, .int History_oldest, .int History_size, .int History_snapshotTaken]), .inr (5460, .inl History_saved), .inr (910, .inl History_snapshot), .inl (0, [.ref 7, .int Buffer_size]), .inr (60, .inl Buffer_codes), .inl (2, [.ref (Reader_pattern + 1000), .int Reader_place]), .inl (4, [.ref 10, .int Word_size]), .inr (8, .inl Word_letters), .inr (8, .inl arr11)] 1 8 := by
  intro n
  induction n with
  | zero =>
    intro x10 Word_size Word_letters res hf hr hx
    rw [s_L_ties_L170] at hf
    cases hf
  | succ n ih =>
    intro x10 Word_size Word_letters res hf hr hx
    rw [s_L_ties_L170] at hf
    refine V.iload (i := 10) dL_ties_170 rfl ?_
    refine V.iconst (v := 5) dL_ties_172 rfl ?_
    refine V.icmp_ge (tgt := 239) dL_ties_173 (by decide) (fun h => ?_) (fun h => ?_)
    · have hf := fif_t h hf
      obtain rfl := Option.some.inj hf
      exact hx _ rfl
    · have hf := fif_f h hf
      refine V.aload_n (i := 0) dL_ties_176 rfl rfl ?_
      refine V.iload (i := 10) dL_ties_177 rfl ?_
      obtain ⟨v24, hv24, hf⟩ := fbind hf
      have hc := ct_X10_whyNot (a1 := x10) (State_cells := State_cells) (History_oldest := History_oldest) (History_size := History_size) (History_snapshotTaken := History_snapshotTaken) (History_saved := History_saved) (History_snapshot := History_snapshot) (Buffer_size := Buffer_size) (Buffer_codes := Buffer_codes) (Reader_pattern := Reader_pattern) (Reader_place := Reader_place) (Word_size := Word_size) (Word_letters := Word_letters) hv24
      rcases hv24b : v24.1 with v25 | E9
      · rw [hv24b] at hc hf
        dsimp only [fth] at hf
        refine V.callVn (pl := [0, 1, 2, 3, 4, 5, 6, 7, 8, 9, 10]) (σ' := [.inl (5, [.ref 1, .ref 3, .ref 6, .ref 8, .ref 9]), .inl (3, [.ref 2]), .inr (910, .inl State_cells), .inl (1, [.ref 4, .ref 5, .int History_oldest, .int History_size, .int History_snapshotTaken]), .inr (5460, .inl History_saved), .inr (910, .inl History_snapshot), .inl (0, [.ref 7, .int Buffer_size]), .inr (60, .inl Buffer_codes), .inl (2, [.ref (Reader_pattern + 1000), .int Reader_place]), .inl (4, [.ref 10, .int v24.2.1]), .inr (8, .inl v24.2.2), .inr (8, .inl arr11)]) (st2 := [.int v25]) (cl2 := 1) (sl2 := 8) hc dL_ties_179 w504 ⟨w505, w506⟩ cal_X10_whyNot rfl ⟨⟨Nat.le_of_ble_eq_true rfl, Nat.le_of_ble_eq_true rfl⟩, Nat.le_of_ble_eq_true rfl, Nat.le_of_ble_eq_true rfl⟩ (Nat.le_of_ble_eq_true rfl) ⟨_, _, _, _, rfl, rfl⟩ rfl ⟨rfl, ⟨by decide, by decide⟩, rfl, (fr_cons (Or.inl (Nat.le_of_ble_eq_true rfl)) (fr_cons (Or.inl (Nat.le_of_ble_eq_true rfl)) (fr_cons (Or.inl (Nat.le_of_ble_eq_true rfl)) (fr_cons (Or.inl (Nat.le_of_ble_eq_true rfl)) (fr_cons (Or.inl (Nat.le_of_ble_eq_true rfl)) (fr_cons (Or.inl (Nat.le_of_ble_eq_true rfl)) (fr_cons (Or.inl (Nat.le_of_ble_eq_true rfl)) (fr_cons (Or.inl (Nat.le_of_ble_eq_true rfl)) (fr_cons (Or.inl (Nat.le_of_ble_eq_true rfl)) (fr_cons (Or.inr (Nat.le_add_left 1000 _)) (fr_cons (Or.inl (Nat.le_of_ble_eq_true rfl)) (fr_nil)))))))))))), rfl⟩ fr_i rfl rfl rfl rfl ?_
        refine V.if_ne (tgt := 233) dL_ties_182 (by decide) (fun h => ?_) (fun h => ?_)
        · have hf := fif_f h hf
          refine V.iinc (i := 10) (v := (x10 + 1)) (L' := [some (.ref 0), some (.int p1), some (.int p2), some (.int p3), some (.ref 11), some (.int p5), some (.int p6), some (.int p7), some (.int p8), some (.int p9), some (.int (x10 + 1)), none]) dL_ties_233 rfl rfl (Nat.le_of_ble_eq_true rfl) rfl rfl ?_
          refine V.goto (tgt := 170) dL_ties_236 (by decide) ?_
          exact ih hf hr hx
        · have hf := fif_t h hf
          refine V.iload (i := 7) dL_ties_185 rfl ?_
          refine V.if_lt (tgt := 231) dL_ties_187 (by decide) (fun h => ?_) (fun h => ?_)
          · have hf := fif_t h hf
            refine V.iconst (v := 0) dL_ties_231 rfl ?_
            obtain rfl := Option.some.inj hf
            obtain ⟨e1, e2⟩ := hr _ rfl
            subst e1; subst e2
            exact V.zretD (v := 0) dL_ties_232 rfl (by decide +kernel) (Nat.le_of_ble_eq_true rfl) (Nat.le_of_ble_eq_true rfl) (Nat.le_of_ble_eq_true rfl) (τ := [.inr (8, .inl arr11)]) rfl
          · have hf := fif_f h hf
            refine V.aload_n (i := 0) dL_ties_190 rfl rfl ?_
            refine V.iload (i := 10) dL_ties_191 rfl ?_
            refine V.iconst (v := 2) dL_ties_193 rfl ?_
            obtain ⟨v26, hv26, hf⟩ := fbind hf
            have hc := ct_X10_fisher (a1 := x10) (a2 := 2) (State_cells := State_cells) (History_oldest := History_oldest) (History_size := History_size) (History_snapshotTaken := History_snapshotTaken) (History_saved := History_saved) (History_snapshot := History_snapshot) (Buffer_size := Buffer_size) (Buffer_codes := Buffer_codes) (Reader_pattern := Reader_pattern) (Reader_place := Reader_place) (Word_size := v24.2.1) (Word_letters := v24.2.2) hv26
            rcases hv26b : v26 with v27 | E9
            · rw [hv26b] at hc hf
              dsimp only [fth] at hf
              refine V.callVn (pl := [0, 1, 2, 3, 4, 5, 6, 7, 8, 9, 10]) (σ' := [.inl (5, [.ref 1, .ref 3, .ref 6, .ref 8, .ref 9]), .inl (3, [.ref 2]), .inr (910, .inl State_cells), .inl (1, [.ref 4, .ref 5, .int History_oldest, .int History_size, .int History_snapshotTaken]), .inr (5460, .inl History_saved), .inr (910, .inl History_snapshot), .inl (0, [.ref 7, .int Buffer_size]), .inr (60, .inl Buffer_codes), .inl (2, [.ref (Reader_pattern + 1000), .int Reader_place]), .inl (4, [.ref 10, .int v24.2.1]), .inr (8, .inl v24.2.2), .inr (8, .inl arr11)]) (st2 := [.int v27]) (cl2 := 1) (sl2 := 8) hc dL_ties_194 w174 ⟨w175, w176⟩ cal_X10_fisher rfl ⟨⟨Nat.le_of_ble_eq_true rfl, Nat.le_of_ble_eq_true rfl⟩, Nat.le_of_ble_eq_true rfl, Nat.le_of_ble_eq_true rfl⟩ (Nat.le_of_ble_eq_true rfl) ⟨_, _, _, _, rfl, rfl⟩ rfl ⟨rfl, ⟨by decide, by decide⟩, rfl, (fr_cons (Or.inl (Nat.le_of_ble_eq_true rfl)) (fr_cons (Or.inl (Nat.le_of_ble_eq_true rfl)) (fr_cons (Or.inl (Nat.le_of_ble_eq_true rfl)) (fr_cons (Or.inl (Nat.le_of_ble_eq_true rfl)) (fr_cons (Or.inl (Nat.le_of_ble_eq_true rfl)) (fr_cons (Or.inl (Nat.le_of_ble_eq_true rfl)) (fr_cons (Or.inl (Nat.le_of_ble_eq_true rfl)) (fr_cons (Or.inl (Nat.le_of_ble_eq_true rfl)) (fr_cons (Or.inl (Nat.le_of_ble_eq_true rfl)) (fr_cons (Or.inr (Nat.le_add_left 1000 _)) (fr_cons (Or.inl (Nat.le_of_ble_eq_true rfl)) (fr_nil)))))))))))), rfl⟩ fr_i rfl rfl rfl rfl ?_
              refine V.aload_n (i := 0) dL_ties_197 rfl rfl ?_
              refine V.iload (i := 7) dL_ties_198 rfl ?_
              refine V.iconst (v := 2) dL_ties_200 rfl ?_
              obtain ⟨v28, hv28, hf⟩ := fbind hf
              have hc := ct_X10_fisher (a1 := p7) (a2 := 2) (State_cells := State_cells) (History_oldest := History_oldest) (History_size := History_size) (History_snapshotTaken := History_snapshotTaken) (History_saved := History_saved) (History_snapshot := History_snapshot) (Buffer_size := Buffer_size) (Buffer_codes := Buffer_codes) (Reader_pattern := Reader_pattern) (Reader_place := Reader_place) (Word_size := v24.2.1) (Word_letters := v24.2.2) hv28
              rcases hv28b : v28 with v29 | E9
              · rw [hv28b] at hc hf
                dsimp only [fth] at hf
                refine V.callVn (pl := [0, 1, 2, 3, 4, 5, 6, 7, 8, 9, 10]) (σ' := [.inl (5, [.ref 1, .ref 3, .ref 6, .ref 8, .ref 9]), .inl (3, [.ref 2]), .inr (910, .inl State_cells), .inl (1, [.ref 4, .ref 5, .int History_oldest, .int History_size, .int History_snapshotTaken]), .inr (5460, .inl History_saved), .inr (910, .inl History_snapshot), .inl (0, [.ref 7, .int Buffer_size]), .inr (60, .inl Buffer_codes), .inl (2, [.ref (Reader_pattern + 1000), .int Reader_place]), .inl (4, [.ref 10, .int v24.2.1]), .inr (8, .inl v24.2.2), .inr (8, .inl arr11)]) (st2 := [.int v29, .int v27]) (cl2 := 1) (sl2 := 8) hc dL_ties_201 w174 ⟨w175, w176⟩ cal_X10_fisher rfl ⟨⟨Nat.le_of_ble_eq_true rfl, Nat.le_of_ble_eq_true rfl⟩, Nat.le_of_ble_eq_true rfl, Nat.le_of_ble_eq_true rfl⟩ (Nat.le_of_ble_eq_true rfl) ⟨_, _, _, _, rfl, rfl⟩ rfl ⟨rfl, ⟨by decide, by decide⟩, rfl, (fr_cons (Or.inl (Nat.le_of_ble_eq_true rfl)) (fr_cons (Or.inl (Nat.le_of_ble_eq_true rfl)) (fr_cons (Or.inl (Nat.le_of_ble_eq_true rfl)) (fr_cons (Or.inl (Nat.le_of_ble_eq_true rfl)) (fr_cons (Or.inl (Nat.le_of_ble_eq_true rfl)) (fr_cons (Or.inl (Nat.le_of_ble_eq_true rfl)) (fr_cons (Or.inl (Nat.le_of_ble_eq_true rfl)) (fr_cons (Or.inl (Nat.le_of_ble_eq_true rfl)) (fr_cons (Or.inl (Nat.le_of_ble_eq_true rfl)) (fr_cons (Or.inr (Nat.le_add_left 1000 _)) (fr_cons (Or.inl (Nat.le_of_ble_eq_true rfl)) (fr_nil)))))))))))), rfl⟩ fr_i rfl rfl rfl rfl ?_
                refine V.icmp_gt (tgt := 231) dL_ties_204 (by decide) (fun h => ?_) (fun h => ?_)
                · have hf := fif_t h hf
                  refine V.iconst (v := 0) dL_ties_231 rfl ?_
                  obtain rfl := Option.some.inj hf
                  obtain ⟨e1, e2⟩ := hr _ rfl
                  subst e1; subst e2
                  exact V.zretD (v := 0) dL_ties_232 rfl (by decide +kernel) (Nat.le_of_ble_eq_true rfl) (Nat.le_of_ble_eq_true rfl) (Nat.le_of_ble_eq_true rfl) (τ := [.inr (8, .inl arr11)]) rfl
                · have hf := fif_f h hf
                  refine V.aload_n (i := 0) dL_ties_207 rfl rfl ?_
                  refine V.iload (i := 10) dL_ties_208 rfl ?_
                  refine V.iconst (v := 2) dL_ties_210 rfl ?_
                  obtain ⟨v30, hv30, hf⟩ := fbind hf
                  have hc := ct_X10_fisher (a1 := x10) (a2 := 2) (State_cells := State_cells) (History_oldest := History_oldest) (History_size := History_size) (History_snapshotTaken := History_snapshotTaken) (History_saved := History_saved) (History_snapshot := History_snapshot) (Buffer_size := Buffer_size) (Buffer_codes := Buffer_codes) (Reader_pattern := Reader_pattern) (Reader_place := Reader_place) (Word_size := v24.2.1) (Word_letters := v24.2.2) hv30
                  rcases hv30b : v30 with v31 | E9
                  · rw [hv30b] at hc hf
                    dsimp only [fth] at hf
                    refine V.callVn (pl := [0, 1, 2, 3, 4, 5, 6, 7, 8, 9, 10]) (σ' := [.inl (5, [.ref 1, .ref 3, .ref 6, .ref 8, .ref 9]), .inl (3, [.ref 2]), .inr (910, .inl State_cells), .inl (1, [.ref 4, .ref 5, .int History_oldest, .int History_size, .int History_snapshotTaken]), .inr (5460, .inl History_saved), .inr (910, .inl History_snapshot), .inl (0, [.ref 7, .int Buffer_size]), .inr (60, .inl Buffer_codes), .inl (2, [.ref (Reader_pattern + 1000), .int Reader_place]), .inl (4, [.ref 10, .int v24.2.1]), .inr (8, .inl v24.2.2), .inr (8, .inl arr11)]) (st2 := [.int v31]) (cl2 := 1) (sl2 := 8) hc dL_ties_211 w174 ⟨w175, w176⟩ cal_X10_fisher rfl ⟨⟨Nat.le_of_ble_eq_true rfl, Nat.le_of_ble_eq_true rfl⟩, Nat.le_of_ble_eq_true rfl, Nat.le_of_ble_eq_true rfl⟩ (Nat.le_of_ble_eq_true rfl) ⟨_, _, _, _, rfl, rfl⟩ rfl ⟨rfl, ⟨by decide, by decide⟩, rfl, (fr_cons (Or.inl (Nat.le_of_ble_eq_true rfl)) (fr_cons (Or.inl (Nat.le_of_ble_eq_true rfl)) (fr_cons (Or.inl (Nat.le_of_ble_eq_true rfl)) (fr_cons (Or.inl (Nat.le_of_ble_eq_true rfl)) (fr_cons (Or.inl (Nat.le_of_ble_eq_true rfl)) (fr_cons (Or.inl (Nat.le_of_ble_eq_true rfl)) (fr_cons (Or.inl (Nat.le_of_ble_eq_true rfl)) (fr_cons (Or.inl (Nat.le_of_ble_eq_true rfl)) (fr_cons (Or.inl (Nat.le_of_ble_eq_true rfl)) (fr_cons (Or.inr (Nat.le_add_left 1000 _)) (fr_cons (Or.inl (Nat.le_of_ble_eq_true rfl)) (fr_nil)))))))))))), rfl⟩ fr_i rfl rfl rfl rfl ?_
                    refine V.aload_n (i := 0) dL_ties_214 rfl rfl ?_
                    refine V.iload (i := 7) dL_ties_215 rfl ?_
                    refine V.iconst (v := 2) dL_ties_217 rfl ?_
                    obtain ⟨v32, hv32, hf⟩ := fbind hf
                    have hc := ct_X10_fisher (a1 := p7) (a2 := 2) (State_cells := State_cells) (History_oldest := History_oldest) (History_size := History_size) (History_snapshotTaken := History_snapshotTaken) (History_saved := History_saved) (History_snapshot := History_snapshot) (Buffer_size := Buffer_size) (Buffer_codes := Buffer_codes) (Reader_pattern := Reader_pattern) (Reader_place := Reader_place) (Word_size := v24.2.1) (Word_letters := v24.2.2) hv32
                    rcases hv32b : v32 with v33 | E9
                    · rw [hv32b] at hc hf
                      dsimp only [fth] at hf
                      refine V.callVn (pl := [0, 1, 2, 3, 4, 5, 6, 7, 8, 9, 10]) (σ' := [.inl (5, [.ref 1, .ref 3, .ref 6, .ref 8, .ref 9]), .inl (3, [.ref 2]), .inr (910, .inl State_cells), .inl (1, [.ref 4, .ref 5, .int History_oldest, .int History_size, .int History_snapshotTaken]), .inr (5460, .inl History_saved), .inr (910, .inl History_snapshot), .inl (0, [.ref 7, .int Buffer_size]), .inr (60, .inl Buffer_codes), .inl (2, [.ref (Reader_pattern + 1000), .int Reader_place]), .inl (4, [.ref 10, .int v24.2.1]), .inr (8, .inl v24.2.2), .inr (8, .inl arr11)]) (st2 := [.int v33, .int v31]) (cl2 := 1) (sl2 := 8) hc dL_ties_218 w174 ⟨w175, w176⟩ cal_X10_fisher rfl ⟨⟨Nat.le_of_ble_eq_true rfl, Nat.le_of_ble_eq_true rfl⟩, Nat.le_of_ble_eq_true rfl, Nat.le_of_ble_eq_true rfl⟩ (Nat.le_of_ble_eq_true rfl) ⟨_, _, _, _, rfl, rfl⟩ rfl ⟨rfl, ⟨by decide, by decide⟩, rfl, (fr_cons (Or.inl (Nat.le_of_ble_eq_true rfl)) (fr_cons (Or.inl (Nat.le_of_ble_eq_true rfl)) (fr_cons (Or.inl (Nat.le_of_ble_eq_true rfl)) (fr_cons (Or.inl (Nat.le_of_ble_eq_true rfl)) (fr_cons (Or.inl (Nat.le_of_ble_eq_true rfl)) (fr_cons (Or.inl (Nat.le_of_ble_eq_true rfl)) (fr_cons (Or.inl (Nat.le_of_ble_eq_true rfl)) (fr_cons (Or.inl (Nat.le_of_ble_eq_true rfl)) (fr_cons (Or.inl (Nat.le_of_ble_eq_true rfl)) (fr_cons (Or.inr (Nat.le_add_left 1000 _)) (fr_cons (Or.inl (Nat.le_of_ble_eq_true rfl)) (fr_nil)))))))))))), rfl⟩ fr_i rfl rfl rfl rfl ?_
                      refine V.icmp_ne (tgt := 233) dL_ties_221 (by decide) (fun h => ?_) (fun h => ?_)
                      · have hf := fif_f h hf
                        refine V.iinc (i := 10) (v := (x10 + 1)) (L' := [some (.ref 0), some (.int p1), some (.int p2), some (.int p3), some (.ref 11), some (.int p5), some (.int p6), some (.int p7), some (.int p8), some (.int p9), some (.int (x10 + 1)), none]) dL_ties_233 rfl rfl (Nat.le_of_ble_eq_true rfl) rfl rfl ?_
                        refine V.goto (tgt := 170) dL_ties_236 (by decide) ?_
                        exact ih hf hr hx
                      · have hf := fif_t h hf
                        refine V.iload (i := 10) dL_ties_224 rfl ?_
                        refine V.iload (i := 7) dL_ties_226 rfl ?_
                        refine V.icmp_ge (tgt := 233) dL_ties_228 (by decide) (fun h => ?_) (fun h => ?_)
                        · have hf := fif_t h hf
                          refine V.iinc (i := 10) (v := (x10 + 1)) (L' := [some (.ref 0), some (.int p1), some (.int p2), some (.int p3), some (.ref 11), some (.int p5), some (.int p6), some (.int p7), some (.int p8), some (.int p9), some (.int (x10 + 1)), none]) dL_ties_233 rfl rfl (Nat.le_of_ble_eq_true rfl) rfl rfl ?_
                          refine V.goto (tgt := 170) dL_ties_236 (by decide) ?_
                          exact ih hf hr hx
                        · have hf := fif_f h hf
                          refine V.iconst (v := 0) dL_ties_231 rfl ?_
                          obtain rfl := Option.some.inj hf
                          obtain ⟨e1, e2⟩ := hr _ rfl
                          subst e1; subst e2
                          exact V.zretD (v := 0) dL_ties_232 rfl (by decide +kernel) (Nat.le_of_ble_eq_true rfl) (Nat.le_of_ble_eq_true rfl) (Nat.le_of_ble_eq_true rfl) (τ := [.inr (8, .inl arr11)]) rfl
                    · rw [hv32b] at hc hf
                      dsimp only [fth] at hf
                      cases hf
                  · rw [hv30b] at hc hf
                    dsimp only [fth] at hf
                    cases hf
              · rw [hv28b] at hc hf
                dsimp only [fth] at hf
                cases hf
            · rw [hv26b] at hc hf
              dsimp only [fth] at hf
              cases hf
      · rw [hv24b] at hc hf
        dsimp only [fth] at hf
        cases hf
def s_L_ties_L293 (p1 : Int32) (p3 : Int32) (p9 : Int32) (p10 : Int32) (State_cells : Nat → Int32) (History_oldest : Int32) (History_size : Int32) (History_saved : Nat → Int32) (Buffer_size : Int32) (Buffer_codes : Nat → Int32) (Word_size : Int32) (Word_letters : Nat → Int32) (arr11 : Nat → Int32) : Nat → Int32 → Option ((Int32 × (Nat → Int32) × (Int32) × (Int32) × (Nat → Int32) × (Int32) × (Nat → Int32) × (Int32) × (Nat → Int32)) ⊕ (Int32))
  | 0, _ => none
  | n + 1, x11 => if (p3 ≤ x11 : Prop) then (some (.inr x11)) else (if (p10 = p9 : Prop) then ((s_X10_knot p1 p9 x11 1 State_cells).bind fun v37 => fth v37 (fun v38 => fld 8 arr11 x11 fun v39 => if (v38 = v39 : Prop) then ((s_X10_knot p1 p9 x11 2 State_cells).bind fun v40 => fth v40 (fun v41 => if (v41 = 0 : Prop) then (s_L_ties_L293 p1 p3 p9 p10 State_cells History_oldest History_size History_saved Buffer_size Buffer_codes Word_size Word_letters arr11 n (x11 + 1)) else (some (.inl (0, State_cells, History_oldest, History_size, History_saved, Buffer_size, Buffer_codes, Word_size, Word_letters)))) (fun E9 => none)) else (some (.inl (0, State_cells, History_oldest, History_size, History_saved, Buffer_size, Buffer_codes, Word_size, Word_letters)))) (fun E9 => none)) else (some (.inr x11)))
set_option maxHeartbeats 4000000 in
set_option maxRecDepth 100000 in
theorem v_L_ties_L293 {out : fO} {σ' : List fE} {p1 : Int32} {p2 : Int32} {p3 : Int32} {p5 : Int32} {p6 : Int32} {p7 : Int32} {p8 : Int32} {p9 : Int32} {p10 : Int32} {State_cells : Nat → Int32} {History_oldest : Int32} {History_size : Int32} {History_snapshotTaken : Int32} {History_saved : Nat → Int32} {History_snapshot : Nat → Int32} {Buffer_size : Int32} {Buffer_codes : Nat → Int32} {Reader_pattern : Nat} {Reader_place : Int32} {Word_size : Int32} {Word_letters : Nat → Int32} {arr11 : Nat → Int32} : ∀ (n : Nat) {x11 : Int32} {res : (Int32 × (Nat → Int32) × (Int32) × (Int32) × (Nat → Int32) × (Int32) × (Nat → Int32) × (Int32) × (Nat → Int32)) ⊕ (Int32)} (hf : s_L_ties_L293 p1 p3 p9 p10 State_cells History_oldest History_size History_saved Buffer_size Buffer_codes Word_size Word_letters arr11 n x11 = some res) (hr : ∀ r, res = .inl r → out = (.inl (some (.int r.1))) ∧ σ' = [.inl (5, [.ref 1, .ref 3, .ref 6, .ref 8, .ref 9]), .inl (3, [.ref 2]), .inr (910, .inl r.2.1), .inl (1, [.ref 4, .ref 5, .int r.2.2.1, .int r.2.2.2.1, .int History_snapshotTaken]), .inr (5460, .inl r.2.2.2.2.1), .inr (910, .inl History_snapshot), .inl (0, [.ref 7, .int r.2.2.2.2.2.1]), .inr (60, .inl r.2.2.2.2.2.2.1), .inl (2, [.ref (Reader_pattern + 1000), .int Reader_place]), .inl (4, [.ref 10, .int r.2.2.2.2.2.2.2.1]), .inr (8, .inl r.2.2.2.2.2.2.2.2)]) (hx : ∀ e, res = .inr e → V (fXm 11 k_L_ties out σ') (krm k_L_ties) k_L_ties 11 345 [some (.ref 0), some (.int p1), some (.int p2), some (.int p3), some (.ref 11), some (.int p5), some (.int p6), some (.int p7), some (.int p8), some (.int p9), some (.int p10), some (.int e)] [] [.inl (5, [.ref 1, .ref 3, .ref 6, .ref 8, .ref 9]), .inl (3, [.ref 2]), .inr (910, .inl State_cells), .inl (1, [.ref 4, .ref 5, .int History_oldest, .int History_size, .int History_snapshotTaken]), .inr (5460, .inl History_saved), .inr (910, .inl History_snapshot), .inl (0, [.ref 7, .int Buffer_size]), .inr (60, .inl Buffer_codes), .inl (2, [.ref (Reader_pattern + 1000), .int Reader_place]), .inl (4, [.ref 10, .int Word_size]), .inr (8, .inl Word_letters), .inr (8, .inl arr11)] 2 14), V (fXm 11 k_L_ties out σ') (krm k_L_ties) k_L_ties 11 293 [some (.ref 0), some (.int p1), some (.int p2), some (.int p3), some (.ref 11), some (.int p5), some (.int p6), some (.int p7), some (.int p8), some (.int p9), some (.int p10), some (.int x11)] [] [.inl (5, [.ref 1, .ref 3, .ref 6, .ref 8, .ref 9]), .inl (3, [.ref 2]), .inr (910, .inl State_cells), .inl (1, [.ref 4, .ref 5, .int History_oldest, .int History_size, .int History_snapshotTaken]), .inr (5460, .inl History_saved), .inr (910, .inl History_snapshot), .inl (0, [.ref 7, .int Buffer_size]), .inr (60, .inl Buffer_codes), .inl (2, [.ref (Reader_pattern + 1000), .int Reader_place]), .inl (4, [.ref 10, .int Word_size]), .inr (8, .inl Word_letters), .inr (8, .inl arr11)] 2 14 := by
  intro n
  induction n with
  | zero =>
    intro x11 res hf hr hx
    rw [s_L_ties_L293] at hf
    cases hf
  | succ n ih =>
    intro x11 res hf hr hx
    rw [s_L_ties_L293] at hf
    refine V.iload (i := 11) dL_ties_293 rfl ?_
    refine V.iload_n (i := 3) dL_ties_295 rfl rfl ?_
    refine V.icmp_ge (tgt := 345) dL_ties_296 (by decide) (fun h => ?_) (fun h => ?_)
    · have hf := fif_t h hf
      obtain rfl := Option.some.inj hf
      exact hx _ rfl
    · have hf := fif_f h hf
      refine V.iload (i := 10) dL_ties_299 rfl ?_
      refine V.iload (i := 9) dL_ties_301 rfl ?_
      refine V.icmp_ne (tgt := 345) dL_ties_303 (by decide) (fun h => ?_) (fun h => ?_)
      · have hf := fif_f h hf
        obtain rfl := Option.some.inj hf
        exact hx _ rfl
      · have hf := fif_t h hf
        refine V.aload_n (i := 0) dL_ties_306 rfl rfl ?_
        refine V.iload_n (i := 1) dL_ties_307 rfl rfl ?_
        refine V.iload (i := 9) dL_ties_308 rfl ?_
        refine V.iload (i := 11) dL_ties_310 rfl ?_
        refine V.iconst (v := 1) dL_ties_312 rfl ?_
        obtain ⟨v37, hv37, hf⟩ := fbind hf
        have hc := ct_X10_knot (a1 := p1) (a2 := p9) (a3 := x11) (a4 := 1) (State_cells := State_cells) (History_oldest := History_oldest) (History_size := History_size) (History_snapshotTaken := History_snapshotTaken) (History_saved := History_saved) (History_snapshot := History_snapshot) (Buffer_size := Buffer_size) (Buffer_codes := Buffer_codes) (Reader_pattern := Reader_pattern) (Reader_place := Reader_place) (Word_size := Word_size) (Word_letters := Word_letters) hv37
        rcases hv37b : v37 with v38 | E9
        · rw [hv37b] at hc hf
          dsimp only [fth] at hf
          refine V.callVn (pl := [0, 1, 2, 3, 4, 5, 6, 7, 8, 9, 10]) (σ' := [.inl (5, [.ref 1, .ref 3, .ref 6, .ref 8, .ref 9]), .inl (3, [.ref 2]), .inr (910, .inl State_cells), .inl (1, [.ref 4, .ref 5, .int History_oldest, .int History_size, .int History_snapshotTaken]), .inr (5460, .inl History_saved), .inr (910, .inl History_snapshot), .inl (0, [.ref 7, .int Buffer_size]), .inr (60, .inl Buffer_codes), .inl (2, [.ref (Reader_pattern + 1000), .int Reader_place]), .inl (4, [.ref 10, .int Word_size]), .inr (8, .inl Word_letters), .inr (8, .inl arr11)]) (st2 := [.int v38]) (cl2 := 2) (sl2 := 14) hc dL_ties_313 w320 ⟨w321, w322⟩ cal_X10_knot rfl ⟨⟨Nat.le_of_ble_eq_true rfl, Nat.le_of_ble_eq_true rfl⟩, Nat.le_of_ble_eq_true rfl, Nat.le_of_ble_eq_true rfl⟩ (Nat.le_of_ble_eq_true rfl) ⟨_, _, _, _, rfl, rfl⟩ rfl ⟨rfl, ⟨by decide, by decide⟩, rfl, (fr_cons (Or.inl (Nat.le_of_ble_eq_true rfl)) (fr_cons (Or.inl (Nat.le_of_ble_eq_true rfl)) (fr_cons (Or.inl (Nat.le_of_ble_eq_true rfl)) (fr_cons (Or.inl (Nat.le_of_ble_eq_true rfl)) (fr_cons (Or.inl (Nat.le_of_ble_eq_true rfl)) (fr_cons (Or.inl (Nat.le_of_ble_eq_true rfl)) (fr_cons (Or.inl (Nat.le_of_ble_eq_true rfl)) (fr_cons (Or.inl (Nat.le_of_ble_eq_true rfl)) (fr_cons (Or.inl (Nat.le_of_ble_eq_true rfl)) (fr_cons (Or.inr (Nat.le_add_left 1000 _)) (fr_cons (Or.inl (Nat.le_of_ble_eq_true rfl)) (fr_nil)))))))))))), rfl⟩ fr_i rfl rfl rfl rfl ?_
          refine V.aload (i := 4) dL_ties_316 rfl ?_
          refine V.iload (i := 11) dL_ties_318 rfl ?_
          obtain ⟨hi, v39, ev39, hf⟩ := fld_e hf
          refine V.fld dL_ties_320 rfl hi ev39 ?_
          refine V.icmp_ne (tgt := 337) dL_ties_321 (by decide) (fun h => ?_) (fun h => ?_)
          · have hf := fif_f h hf
            refine V.iconst (v := 0) dL_ties_337 rfl ?_
            obtain rfl := Option.some.inj hf
            obtain ⟨e1, e2⟩ := hr _ rfl
            subst e1; subst e2
            exact V.zretD (v := 0) dL_ties_338 rfl (by decide +kernel) (Nat.le_of_ble_eq_true rfl) (Nat.le_of_ble_eq_true rfl) (Nat.le_of_ble_eq_true rfl) (τ := [.inr (8, .inl arr11)]) rfl
          · have hf := fif_t h hf
            refine V.aload_n (i := 0) dL_ties_324 rfl rfl ?_
            refine V.iload_n (i := 1) dL_ties_325 rfl rfl ?_
            refine V.iload (i := 9) dL_ties_326 rfl ?_
            refine V.iload (i := 11) dL_ties_328 rfl ?_
            refine V.iconst (v := 2) dL_ties_330 rfl ?_
            obtain ⟨v40, hv40, hf⟩ := fbind hf
            have hc := ct_X10_knot (a1 := p1) (a2 := p9) (a3 := x11) (a4 := 2) (State_cells := State_cells) (History_oldest := History_oldest) (History_size := History_size) (History_snapshotTaken := History_snapshotTaken) (History_saved := History_saved) (History_snapshot := History_snapshot) (Buffer_size := Buffer_size) (Buffer_codes := Buffer_codes) (Reader_pattern := Reader_pattern) (Reader_place := Reader_place) (Word_size := Word_size) (Word_letters := Word_letters) hv40
            rcases hv40b : v40 with v41 | E9
            · rw [hv40b] at hc hf
              dsimp only [fth] at hf
              refine V.callVn (pl := [0, 1, 2, 3, 4, 5, 6, 7, 8, 9, 10]) (σ' := [.inl (5, [.ref 1, .ref 3, .ref 6, .ref 8, .ref 9]), .inl (3, [.ref 2]), .inr (910, .inl State_cells), .inl (1, [.ref 4, .ref 5, .int History_oldest, .int History_size, .int History_snapshotTaken]), .inr (5460, .inl History_saved), .inr (910, .inl History_snapshot), .inl (0, [.ref 7, .int Buffer_size]), .inr (60, .inl Buffer_codes), .inl (2, [.ref (Reader_pattern + 1000), .int Reader_place]), .inl (4, [.ref 10, .int Word_size]), .inr (8, .inl Word_letters), .inr (8, .inl arr11)]) (st2 := [.int v41]) (cl2 := 2) (sl2 := 14) hc dL_ties_331 w320 ⟨w321, w322⟩ cal_X10_knot rfl ⟨⟨Nat.le_of_ble_eq_true rfl, Nat.le_of_ble_eq_true rfl⟩, Nat.le_of_ble_eq_true rfl, Nat.le_of_ble_eq_true rfl⟩ (Nat.le_of_ble_eq_true rfl) ⟨_, _, _, _, rfl, rfl⟩ rfl ⟨rfl, ⟨by decide, by decide⟩, rfl, (fr_cons (Or.inl (Nat.le_of_ble_eq_true rfl)) (fr_cons (Or.inl (Nat.le_of_ble_eq_true rfl)) (fr_cons (Or.inl (Nat.le_of_ble_eq_true rfl)) (fr_cons (Or.inl (Nat.le_of_ble_eq_true rfl)) (fr_cons (Or.inl (Nat.le_of_ble_eq_true rfl)) (fr_cons (Or.inl (Nat.le_of_ble_eq_true rfl)) (fr_cons (Or.inl (Nat.le_of_ble_eq_true rfl)) (fr_cons (Or.inl (Nat.le_of_ble_eq_true rfl)) (fr_cons (Or.inl (Nat.le_of_ble_eq_true rfl)) (fr_cons (Or.inr (Nat.le_add_left 1000 _)) (fr_cons (Or.inl (Nat.le_of_ble_eq_true rfl)) (fr_nil)))))))))))), rfl⟩ fr_i rfl rfl rfl rfl ?_
              refine V.if_eq (tgt := 339) dL_ties_334 (by decide) (fun h => ?_) (fun h => ?_)
              · have hf := fif_t h hf
                refine V.iinc (i := 11) (v := (x11 + 1)) (L' := [some (.ref 0), some (.int p1), some (.int p2), some (.int p3), some (.ref 11), some (.int p5), some (.int p6), some (.int p7), some (.int p8), some (.int p9), some (.int p10), some (.int (x11 + 1))]) dL_ties_339 rfl rfl (Nat.le_of_ble_eq_true rfl) rfl rfl ?_
                refine V.goto (tgt := 293) dL_ties_342 (by decide) ?_
                exact ih hf hr hx
              · have hf := fif_f h hf
                refine V.iconst (v := 0) dL_ties_337 rfl ?_
                obtain rfl := Option.some.inj hf
                obtain ⟨e1, e2⟩ := hr _ rfl
                subst e1; subst e2
                exact V.zretD (v := 0) dL_ties_338 rfl (by decide +kernel) (Nat.le_of_ble_eq_true rfl) (Nat.le_of_ble_eq_true rfl) (Nat.le_of_ble_eq_true rfl) (τ := [.inr (8, .inl arr11)]) rfl
            · rw [hv40b] at hc hf
              dsimp only [fth] at hf
              cases hf
        · rw [hv37b] at hc hf
          dsimp only [fth] at hf
          cases hf
def s_L_ties (a1 : Int32) (a2 : Int32) (State_cells : Nat → Int32) (History_oldest : Int32) (History_size : Int32) (History_saved : Nat → Int32) (Buffer_size : Int32) (Buffer_codes : Nat → Int32) (Word_size : Int32) (Word_letters : Nat → Int32) : Option (Int32 × (Nat → Int32) × (Int32) × (Int32) × (Nat → Int32) × (Int32) × (Nat → Int32) × (Int32) × (Nat → Int32)) := (s_L_low (a2 >>> (9 &&& 31)) 3).bind fun v1 => flet ((if (v1 = 0 : Prop) then 8 else 3) : Int32) fun v2 => (s_L_low a2 v2).bind fun v4 => (s_X10_clearBuffer Buffer_size).bind fun v5 => (s_L_ties_L39 a2 (1 + v4) gF v5.1 0 v5.2 Buffer_codes (fun _ => 0)).bind fun r15 => (s_X10_whyNot a1 State_cells r15.2.2.1 r15.2.2.2.1 Word_size Word_letters).bind fun v16 => fth v16.1 (fun v17 => (s_X10_bestBelt State_cells r15.2.2.1 r15.2.2.2.1 v16.2.1 v16.2.2).bind fun v18 => fth v18.1 (fun v19 => (s_X10_count 9 State_cells History_size).bind fun v20 => fth v20 (fun v21 => (s_X10_fisher a1 1 State_cells).bind fun v22 => fth v22 (fun v23 => if (v19 < 0 : Prop) then ((s_L_ties_L170 v19 State_cells History_oldest History_size History_saved r15.2.2.1 r15.2.2.2.1 gF 0 v18.2.1 v18.2.2).bind fun r34 => fsum r34 (fun r9 => some r9) (fun e35 => (s_L_tryTie a1 State_cells History_oldest History_size History_saved r15.2.2.1 r15.2.2.2.1 e35.2.1 e35.2.2).bind fun v36 => if (v17 ≤ 0 : Prop) then ((s_L_ties_L293 a1 (1 + v4) v23 v36.1 v36.2.1 v36.2.2.1 v36.2.2.2.1 v36.2.2.2.2.1 v36.2.2.2.2.2.1 r15.2.2.2.1 v36.2.2.2.2.2.2.1 v36.2.2.2.2.2.2.2 r15.2.2.2.2 gF 0).bind fun r42 => fsum r42 (fun r9 => some r9) (fun e43 => if (v36.1 = v23 : Prop) then ((s_X10_name a1 v23 0 v36.2.1).bind fun v44 => fth v44 (fun v45 => if (v45 = (1 + v4) : Prop) then ((s_X10_count 9 v36.2.1 v36.2.2.2.1).bind fun v46 => fth v46 (fun v47 => if (v47 = (v21 + (1 + v4)) : Prop) then ((s_L_ends a1 v23 v36.2.1).bind fun v48 => flet ((if (v48 = 0 : Prop) then 0 else (if (r15.1 = (1 + v4) : Prop) then 1 else 0)) : Int32) fun v49 => fz v49 (some (v49, v36.2.1, v36.2.2.1, v36.2.2.2.1, v36.2.2.2.2.1, v36.2.2.2.2.2.1, r15.2.2.2.1, v36.2.2.2.2.2.2.1, v36.2.2.2.2.2.2.2))) else (some (0, v36.2.1, v36.2.2.1, v36.2.2.2.1, v36.2.2.2.2.1, v36.2.2.2.2.2.1, r15.2.2.2.1, v36.2.2.2.2.2.2.1, v36.2.2.2.2.2.2.2))) (fun E9 => none)) else (some (0, v36.2.1, v36.2.2.1, v36.2.2.2.1, v36.2.2.2.2.1, v36.2.2.2.2.2.1, r15.2.2.2.1, v36.2.2.2.2.2.2.1, v36.2.2.2.2.2.2.2))) (fun E9 => none)) else (some (0, v36.2.1, v36.2.2.1, v36.2.2.2.1, v36.2.2.2.2.1, v36.2.2.2.2.2.1, r15.2.2.2.1, v36.2.2.2.2.2.2.1, v36.2.2.2.2.2.2.2)))) else (if (v36.1 = (-7003) : Prop) then (if (3 < v17 : Prop) then (some (0, v36.2.1, v36.2.2.1, v36.2.2.2.1, v36.2.2.2.2.1, v36.2.2.2.2.2.1, r15.2.2.2.1, v36.2.2.2.2.2.2.1, v36.2.2.2.2.2.2.2)) else ((s_X10_fisher a1 1 v36.2.1).bind fun v52 => fth v52 (fun v53 => if (v53 = v23 : Prop) then ((s_X10_clearBuffer v36.2.2.2.2.2.1).bind fun v54 => flet ((if (v54.1 = (1 + v4) : Prop) then 1 else 0) : Int32) fun v55 => fz v55 (some (v55, v36.2.1, v36.2.2.1, v36.2.2.2.1, v36.2.2.2.2.1, v54.2, r15.2.2.2.1, v36.2.2.2.2.2.2.1, v36.2.2.2.2.2.2.2))) else (some (0, v36.2.1, v36.2.2.1, v36.2.2.2.1, v36.2.2.2.2.1, v36.2.2.2.2.2.1, r15.2.2.2.1, v36.2.2.2.2.2.2.1, v36.2.2.2.2.2.2.2))) (fun E9 => none))) else (some (0, v36.2.1, v36.2.2.1, v36.2.2.2.1, v36.2.2.2.2.1, v36.2.2.2.2.2.1, r15.2.2.2.1, v36.2.2.2.2.2.2.1, v36.2.2.2.2.2.2.2))))) else ((s_X10_whyNot v19 State_cells r15.2.2.1 r15.2.2.2.1 v18.2.1 v18.2.2).bind fun v57 => fth v57.1 (fun v58 => if (v58 = 0 : Prop) then ((s_L_ties_L170 v19 State_cells History_oldest History_size History_saved r15.2.2.1 r15.2.2.2.1 gF 0 v57.2.1 v57.2.2).bind fun r59 => fsum r59 (fun r9 => some r9) (fun e60 => (s_L_tryTie a1 State_cells History_oldest History_size History_saved r15.2.2.1 r15.2.2.2.1 e60.2.1 e60.2.2).bind fun v61 => if (v17 ≤ 0 : Prop) then ((s_L_ties_L293 a1 (1 + v4) v23 v61.1 v61.2.1 v61.2.2.1 v61.2.2.2.1 v61.2.2.2.2.1 v61.2.2.2.2.2.1 r15.2.2.2.1 v61.2.2.2.2.2.2.1 v61.2.2.2.2.2.2.2 r15.2.2.2.2 gF 0).bind fun r62 => fsum r62 (fun r9 => some r9) (fun e63 => if (v61.1 = v23 : Prop) then ((s_X10_name a1 v23 0 v61.2.1).bind fun v64 => fth v64 (fun v65 => if (v65 = (1 + v4) : Prop) then ((s_X10_count 9 v61.2.1 v61.2.2.2.1).bind fun v66 => fth v66 (fun v67 => if (v67 = (v21 + (1 + v4)) : Prop) then ((s_L_ends a1 v23 v61.2.1).bind fun v68 => flet ((if (v68 = 0 : Prop) then 0 else (if (r15.1 = (1 + v4) : Prop) then 1 else 0)) : Int32) fun v69 => fz v69 (some (v69, v61.2.1, v61.2.2.1, v61.2.2.2.1, v61.2.2.2.2.1, v61.2.2.2.2.2.1, r15.2.2.2.1, v61.2.2.2.2.2.2.1, v61.2.2.2.2.2.2.2))) else (some (0, v61.2.1, v61.2.2.1, v61.2.2.2.1, v61.2.2.2.2.1, v61.2.2.2.2.2.1, r15.2.2.2.1, v61.2.2.2.2.2.2.1, v61.2.2.2.2.2.2.2))) (fun E9 => none)) else (some (0, v61.2.1, v61.2.2.1, v61.2.2.2.1, v61.2.2.2.2.1, v61.2.2.2.2.2.1, r15.2.2.2.1, v61.2.2.2.2.2.2.1, v61.2.2.2.2.2.2.2))) (fun E9 => none)) else (some (0, v61.2.1, v61.2.2.1, v61.2.2.2.1, v61.2.2.2.2.1, v61.2.2.2.2.2.1, r15.2.2.2.1, v61.2.2.2.2.2.2.1, v61.2.2.2.2.2.2.2)))) else (if (v61.1 = (-7003) : Prop) then (if (3 < v17 : Prop) then (some (0, v61.2.1, v61.2.2.1, v61.2.2.2.1, v61.2.2.2.2.1, v61.2.2.2.2.2.1, r15.2.2.2.1, v61.2.2.2.2.2.2.1, v61.2.2.2.2.2.2.2)) else ((s_X10_fisher a1 1 v61.2.1).bind fun v72 => fth v72 (fun v73 => if (v73 = v23 : Prop) then ((s_X10_clearBuffer v61.2.2.2.2.2.1).bind fun v74 => flet ((if (v74.1 = (1 + v4) : Prop) then 1 else 0) : Int32) fun v75 => fz v75 (some (v75, v61.2.1, v61.2.2.1, v61.2.2.2.1, v61.2.2.2.2.1, v74.2, r15.2.2.2.1, v61.2.2.2.2.2.2.1, v61.2.2.2.2.2.2.2))) else (some (0, v61.2.1, v61.2.2.1, v61.2.2.2.1, v61.2.2.2.2.1, v61.2.2.2.2.2.1, r15.2.2.2.1, v61.2.2.2.2.2.2.1, v61.2.2.2.2.2.2.2))) (fun E9 => none))) else (some (0, v61.2.1, v61.2.2.1, v61.2.2.2.1, v61.2.2.2.2.1, v61.2.2.2.2.2.1, r15.2.2.2.1, v61.2.2.2.2.2.2.1, v61.2.2.2.2.2.2.2))))) else (some (0, State_cells, History_oldest, History_size, History_saved, r15.2.2.1, r15.2.2.2.1, v57.2.1, v57.2.2))) (fun E9 => none))) (fun E9 => none)) (fun E9 => none)) (fun E9 => none)) (fun E9 => none)
set_option maxHeartbeats 4000000 in
set_option maxRecDepth 100000 in
theorem ct_L_ties {a1 : Int32} {a2 : Int32} {State_cells : Nat → Int32} {History_oldest : Int32} {History_size : Int32} {History_snapshotTaken : Int32} {History_saved : Nat → Int32} {History_snapshot : Nat → Int32} {Buffer_size : Int32} {Buffer_codes : Nat → Int32} {Reader_pattern : Nat} {Reader_place : Int32} {Word_size : Int32} {Word_letters : Nat → Int32} {res : Int32 × (Nat → Int32) × (Int32) × (Int32) × (Nat → Int32) × (Int32) × (Nat → Int32) × (Int32) × (Nat → Int32)} (hf : s_L_ties a1 a2 State_cells History_oldest History_size History_saved Buffer_size Buffer_codes Word_size Word_letters = some res) : Ct k_L_ties [.ref 0, .int a1, .int a2] [.inl (5, [.ref 1, .ref 3, .ref 6, .ref 8, .ref 9]), .inl (3, [.ref 2]), .inr (910, .inl State_cells), .inl (1, [.ref 4, .ref 5, .int History_oldest, .int History_size, .int History_snapshotTaken]), .inr (5460, .inl History_saved), .inr (910, .inl History_snapshot), .inl (0, [.ref 7, .int Buffer_size]), .inr (60, .inl Buffer_codes), .inl (2, [.ref (Reader_pattern + 1000), .int Reader_place]), .inl (4, [.ref 10, .int Word_size]), .inr (8, .inl Word_letters)] (.inl (some (.int res.1))) [.inl (5, [.ref 1, .ref 3, .ref 6, .ref 8, .ref 9]), .inl (3, [.ref 2]), .inr (910, .inl res.2.1), .inl (1, [.ref 4, .ref 5, .int res.2.2.1, .int res.2.2.2.1, .int History_snapshotTaken]), .inr (5460, .inl res.2.2.2.2.1), .inr (910, .inl History_snapshot), .inl (0, [.ref 7, .int res.2.2.2.2.2.1]), .inr (60, .inl res.2.2.2.2.2.2.1), .inl (2, [.ref (Reader_pattern + 1000), .int Reader_place]), .inl (4, [.ref 10, .int res.2.2.2.2.2.2.2.1]), .inr (8, .inl res.2.2.2.2.2.2.2.2)] := by
  unfold s_L_ties at hf
  refine Ct.of (L := [some (.ref 0), some (.int a1), some (.int a2), none, none, none, none, none, none, none, none, none]) cal_L_ties (fent_pad (j := 9) rfl) (Nat.le_of_ble_eq_true rfl) ?_
  refine V.iconst (v := 1) dL_ties_0 rfl ?_
  refine V.iload_n (i := 2) dL_ties_1 rfl rfl ?_
  refine V.iload_n (i := 2) dL_ties_2 rfl rfl ?_
  refine V.bipush (v := 9) dL_ties_3 rfl ?_
  refine V.ishr dL_ties_5 ?_
  refine V.iconst (v := 3) dL_ties_6 rfl ?_
  obtain ⟨v1, hv1, hf⟩ := fbind hf
  refine V.callSn (pl := []) (σ' := [.inl (5, [.ref 1, .ref 3, .ref 6, .ref 8, .ref 9]), .inl (3, [.ref 2]), .inr (910, .inl State_cells), .inl (1, [.ref 4, .ref 5, .int History_oldest, .int History_size, .int History_snapshotTaken]), .inr (5460, .inl History_saved), .inr (910, .inl History_snapshot), .inl (0, [.ref 7, .int Buffer_size]), .inr (60, .inl Buffer_codes), .inl (2, [.ref (Reader_pattern + 1000), .int Reader_place]), .inl (4, [.ref 10, .int Word_size]), .inr (8, .inl Word_letters)]) (st2 := [.int v1, .int a2, .int 1]) (cl2 := 0) (sl2 := 0) (ct_L_low (a0 := (a2 >>> (9 &&& 31))) (a1 := 3) hv1) dL_ties_7 w460 w461 cal_L_low ⟨⟨Nat.le_of_ble_eq_true rfl, Nat.le_of_ble_eq_true rfl⟩, Nat.le_of_ble_eq_true rfl, Nat.le_of_ble_eq_true rfl⟩ (Nat.le_of_ble_eq_true rfl) rfl ⟨rfl, ⟨by decide, by decide⟩, rfl, (fr_nil), rfl⟩ fr_i rfl rfl rfl rfl ?_
  obtain ⟨v2, ev2, hf⟩ := flet_e hf
  refine V.join (J := 19) (y := v2) (st' := [.int a2, .int 1]) (fun tlv2 => ?_) ?_
  · refine V.if_ne (tgt := 18) dL_ties_10 (by decide) (fun h3 => ?_) (fun h3 => ?_)
    · refine V.iconst (v := 3) dL_ties_18 rfl ?_
      exact V.cgi (by rw [← ev2, if_neg h3]) tlv2
    · refine V.bipush (v := 8) dL_ties_13 rfl ?_
      refine V.goto (tgt := 19) dL_ties_15 (by decide) ?_
      exact V.cgi (by rw [← ev2, if_pos h3]) tlv2
  · obtain ⟨v4, hv4, hf⟩ := fbind hf
    refine V.callSn (pl := []) (σ' := [.inl (5, [.ref 1, .ref 3, .ref 6, .ref 8, .ref 9]), .inl (3, [.ref 2]), .inr (910, .inl State_cells), .inl (1, [.ref 4, .ref 5, .int History_oldest, .int History_size, .int History_snapshotTaken]), .inr (5460, .inl History_saved), .inr (910, .inl History_snapshot), .inl (0, [.ref 7, .int Buffer_size]), .inr (60, .inl Buffer_codes), .inl (2, [.ref (Reader_pattern + 1000), .int Reader_place]), .inl (4, [.ref 10, .int Word_size]), .inr (8, .inl Word_letters)]) (st2 := [.int v4, .int 1]) (cl2 := 0) (sl2 := 0) (ct_L_low (a0 := a2) (a1 := v2) hv4) dL_ties_19 w460 w461 cal_L_low ⟨⟨Nat.le_of_ble_eq_true rfl, Nat.le_of_ble_eq_true rfl⟩, Nat.le_of_ble_eq_true rfl, Nat.le_of_ble_eq_true rfl⟩ (Nat.le_of_ble_eq_true rfl) rfl ⟨rfl, ⟨by decide, by decide⟩, rfl, (fr_nil), rfl⟩ fr_i rfl rfl rfl rfl ?_
    refine V.iadd dL_ties_22 ?_
    refine V.istore_n (i := 3) (L' := [some (.ref 0), some (.int a1), some (.int a2), some (.int (1 + v4)), none, none, none, none, none, none, none, none]) dL_ties_23 rfl (Nat.le_of_ble_eq_true rfl) rfl rfl ?_
    refine V.bipush (v := 8) dL_ties_24 rfl ?_
    refine V.newI (N := 8) (f := fun _ => 0) rfl dL_ties_26 w48 (by decide) rfl (Nat.le_of_ble_eq_true rfl) rfl (Nat.le_of_ble_eq_true rfl) (Nat.le_of_ble_eq_true rfl) ?_
    refine V.astore (i := 4) (L' := [some (.ref 0), some (.int a1), some (.int a2), some (.int (1 + v4)), some (.ref 11), none, none, none, none, none, none, none]) dL_ties_28 (Nat.le_of_ble_eq_true rfl) rfl rfl ?_
    refine V.aload_n (i := 0) dL_ties_30 rfl rfl ?_
    obtain ⟨v5, hv5, hf⟩ := fbind hf
    refine V.callVn (pl := [0, 1, 2, 3, 4, 5, 6, 7, 8, 9, 10]) (σ' := [.inl (5, [.ref 1, .ref 3, .ref 6, .ref 8, .ref 9]), .inl (3, [.ref 2]), .inr (910, .inl State_cells), .inl (1, [.ref 4, .ref 5, .int History_oldest, .int History_size, .int History_snapshotTaken]), .inr (5460, .inl History_saved), .inr (910, .inl History_snapshot), .inl (0, [.ref 7, .int v5.2]), .inr (60, .inl Buffer_codes), .inl (2, [.ref (Reader_pattern + 1000), .int Reader_place]), .inl (4, [.ref 10, .int Word_size]), .inr (8, .inl Word_letters), .inr (8, .inl (fun _ => 0))]) (st2 := [.int v5.1]) (cl2 := 1) (sl2 := 8) (ct_X10_clearBuffer (State_cells := State_cells) (History_oldest := History_oldest) (History_size := History_size) (History_snapshotTaken := History_snapshotTaken) (History_saved := History_saved) (History_snapshot := History_snapshot) (Buffer_size := Buffer_size) (Buffer_codes := Buffer_codes) (Reader_pattern := Reader_pattern) (Reader_place := Reader_place) (Word_size := Word_size) (Word_letters := Word_letters) hv5) dL_ties_31 w467 ⟨w468, w469⟩ cal_X10_clearBuffer rfl ⟨⟨Nat.le_of_ble_eq_true rfl, Nat.le_of_ble_eq_true rfl⟩, Nat.le_of_ble_eq_true rfl, Nat.le_of_ble_eq_true rfl⟩ (Nat.le_of_ble_eq_true rfl) ⟨_, _, _, _, rfl, rfl⟩ rfl ⟨rfl, ⟨by decide, by decide⟩, rfl, (fr_cons (Or.inl (Nat.le_of_ble_eq_true rfl)) (fr_cons (Or.inl (Nat.le_of_ble_eq_true rfl)) (fr_cons (Or.inl (Nat.le_of_ble_eq_true rfl)) (fr_cons (Or.inl (Nat.le_of_ble_eq_true rfl)) (fr_cons (Or.inl (Nat.le_of_ble_eq_true rfl)) (fr_cons (Or.inl (Nat.le_of_ble_eq_true rfl)) (fr_cons (Or.inl (Nat.le_of_ble_eq_true rfl)) (fr_cons (Or.inl (Nat.le_of_ble_eq_true rfl)) (fr_cons (Or.inl (Nat.le_of_ble_eq_true rfl)) (fr_cons (Or.inr (Nat.le_add_left 1000 _)) (fr_cons (Or.inl (Nat.le_of_ble_eq_true rfl)) (fr_nil)))))))))))), rfl⟩ fr_i rfl rfl rfl rfl ?_
    refine V.istore (i := 5) (L' := [some (.ref 0), some (.int a1), some (.int a2), some (.int (1 + v4)), some (.ref 11), some (.int v5.1), none, none, none, none, none, none]) dL_ties_34 (Nat.le_of_ble_eq_true rfl) rfl rfl ?_
    refine V.iconst (v := 0) dL_ties_36 rfl ?_
    refine V.istore (i := 6) (L' := [some (.ref 0), some (.int a1), some (.int a2), some (.int (1 + v4)), some (.ref 11), some (.int v5.1), some (.int 0), none, none, none, none, none]) dL_ties_37 (Nat.le_of_ble_eq_true rfl) rfl rfl ?_
    obtain ⟨r15, hr15, hf⟩ := fbind hf
    refine v_L_ties_L39 gF hr15 ?_
    refine V.aload_n (i := 0) dL_ties_122 rfl rfl ?_
    refine V.iload_n (i := 1) dL_ties_123 rfl rfl ?_
    obtain ⟨v16, hv16, hf⟩ := fbind hf
    have hc := ct_X10_whyNot (a1 := a1) (State_cells := State_cells) (History_oldest := History_oldest) (History_size := History_size) (History_snapshotTaken := History_snapshotTaken) (History_saved := History_saved) (History_snapshot := History_snapshot) (Buffer_size := r15.2.2.1) (Buffer_codes := r15.2.2.2.1) (Reader_pattern := Reader_pattern) (Reader_place := Reader_place) (Word_size := Word_size) (Word_letters := Word_letters) hv16
    rcases hv16b : v16.1 with v17 | E9
    · rw [hv16b] at hc hf
      dsimp only [fth] at hf
      refine V.callVn (pl := [0, 1, 2, 3, 4, 5, 6, 7, 8, 9, 10]) (σ' := [.inl (5, [.ref 1, .ref 3, .ref 6, .ref 8, .ref 9]), .inl (3, [.ref 2]), .inr (910, .inl State_cells), .inl (1, [.ref 4, .ref 5, .int History_oldest, .int History_size, .int History_snapshotTaken]), .inr (5460, .inl History_saved), .inr (910, .inl History_snapshot), .inl (0, [.ref 7, .int r15.2.2.1]), .inr (60, .inl r15.2.2.2.1), .inl (2, [.ref (Reader_pattern + 1000), .int Reader_place]), .inl (4, [.ref 10, .int v16.2.1]), .inr (8, .inl v16.2.2), .inr (8, .inl r15.2.2.2.2)]) (st2 := [.int v17]) (cl2 := 1) (sl2 := 8) hc dL_ties_124 w504 ⟨w505, w506⟩ cal_X10_whyNot rfl ⟨⟨Nat.le_of_ble_eq_true rfl, Nat.le_of_ble_eq_true rfl⟩, Nat.le_of_ble_eq_true rfl, Nat.le_of_ble_eq_true rfl⟩ (Nat.le_of_ble_eq_true rfl) ⟨_, _, _, _, rfl, rfl⟩ rfl ⟨rfl, ⟨by decide, by decide⟩, rfl, (fr_cons (Or.inl (Nat.le_of_ble_eq_true rfl)) (fr_cons (Or.inl (Nat.le_of_ble_eq_true rfl)) (fr_cons (Or.inl (Nat.le_of_ble_eq_true rfl)) (fr_cons (Or.inl (Nat.le_of_ble_eq_true rfl)) (fr_cons (Or.inl (Nat.le_of_ble_eq_true rfl)) (fr_cons (Or.inl (Nat.le_of_ble_eq_true rfl)) (fr_cons (Or.inl (Nat.le_of_ble_eq_true rfl)) (fr_cons (Or.inl (Nat.le_of_ble_eq_true rfl)) (fr_cons (Or.inl (Nat.le_of_ble_eq_true rfl)) (fr_cons (Or.inr (Nat.le_add_left 1000 _)) (fr_cons (Or.inl (Nat.le_of_ble_eq_true rfl)) (fr_nil)))))))))))), rfl⟩ fr_i rfl rfl rfl rfl ?_
      refine V.istore (i := 6) (L' := [some (.ref 0), some (.int a1), some (.int a2), some (.int (1 + v4)), some (.ref 11), some (.int r15.1), some (.int v17), none, none, none, none, none]) dL_ties_127 (Nat.le_of_ble_eq_true rfl) rfl rfl ?_
      refine V.aload_n (i := 0) dL_ties_129 rfl rfl ?_
      obtain ⟨v18, hv18, hf⟩ := fbind hf
      have hc := ct_X10_bestBelt (State_cells := State_cells) (History_oldest := History_oldest) (History_size := History_size) (History_snapshotTaken := History_snapshotTaken) (History_saved := History_saved) (History_snapshot := History_snapshot) (Buffer_size := r15.2.2.1) (Buffer_codes := r15.2.2.2.1) (Reader_pattern := Reader_pattern) (Reader_place := Reader_place) (Word_size := v16.2.1) (Word_letters := v16.2.2) hv18
      rcases hv18b : v18.1 with v19 | E9
      · rw [hv18b] at hc hf
        dsimp only [fth] at hf
        refine V.callVn (pl := [0, 1, 2, 3, 4, 5, 6, 7, 8, 9, 10]) (σ' := [.inl (5, [.ref 1, .ref 3, .ref 6, .ref 8, .ref 9]), .inl (3, [.ref 2]), .inr (910, .inl State_cells), .inl (1, [.ref 4, .ref 5, .int History_oldest, .int History_size, .int History_snapshotTaken]), .inr (5460, .inl History_saved), .inr (910, .inl History_snapshot), .inl (0, [.ref 7, .int r15.2.2.1]), .inr (60, .inl r15.2.2.2.1), .inl (2, [.ref (Reader_pattern + 1000), .int Reader_place]), .inl (4, [.ref 10, .int v18.2.1]), .inr (8, .inl v18.2.2), .inr (8, .inl r15.2.2.2.2)]) (st2 := [.int v19]) (cl2 := 1) (sl2 := 8) hc dL_ties_130 w531 ⟨w532, w533⟩ cal_X10_bestBelt rfl ⟨⟨Nat.le_of_ble_eq_true rfl, Nat.le_of_ble_eq_true rfl⟩, Nat.le_of_ble_eq_true rfl, Nat.le_of_ble_eq_true rfl⟩ (Nat.le_of_ble_eq_true rfl) ⟨_, _, _, _, rfl, rfl⟩ rfl ⟨rfl, ⟨by decide, by decide⟩, rfl, (fr_cons (Or.inl (Nat.le_of_ble_eq_true rfl)) (fr_cons (Or.inl (Nat.le_of_ble_eq_true rfl)) (fr_cons (Or.inl (Nat.le_of_ble_eq_true rfl)) (fr_cons (Or.inl (Nat.le_of_ble_eq_true rfl)) (fr_cons (Or.inl (Nat.le_of_ble_eq_true rfl)) (fr_cons (Or.inl (Nat.le_of_ble_eq_true rfl)) (fr_cons (Or.inl (Nat.le_of_ble_eq_true rfl)) (fr_cons (Or.inl (Nat.le_of_ble_eq_true rfl)) (fr_cons (Or.inl (Nat.le_of_ble_eq_true rfl)) (fr_cons (Or.inr (Nat.le_add_left 1000 _)) (fr_cons (Or.inl (Nat.le_of_ble_eq_true rfl)) (fr_nil)))))))))))), rfl⟩ fr_i rfl rfl rfl rfl ?_
        refine V.istore (i := 7) (L' := [some (.ref 0), some (.int a1), some (.int a2), some (.int (1 + v4)), some (.ref 11), some (.int r15.1), some (.int v17), some (.int v19), none, none, none, none]) dL_ties_133 (Nat.le_of_ble_eq_true rfl) rfl rfl ?_
        refine V.aload_n (i := 0) dL_ties_135 rfl rfl ?_
        refine V.bipush (v := 9) dL_ties_136 rfl ?_
        obtain ⟨v20, hv20, hf⟩ := fbind hf
        have hc := ct_X10_count (a1 := 9) (State_cells := State_cells) (History_oldest := History_oldest) (History_size := History_size) (History_snapshotTaken := History_snapshotTaken) (History_saved := History_saved) (History_snapshot := History_snapshot) (Buffer_size := r15.2.2.1) (Buffer_codes := r15.2.2.2.1) (Reader_pattern := Reader_pattern) (Reader_place := Reader_place) (Word_size := v18.2.1) (Word_letters := v18.2.2) hv20
        rcases hv20b : v20 with v21 | E9
        · rw [hv20b] at hc hf
          dsimp only [fth] at hf
          refine V.callVn (pl := [0, 1, 2, 3, 4, 5, 6, 7, 8, 9, 10]) (σ' := [.inl (5, [.ref 1, .ref 3, .ref 6, .ref 8, .ref 9]), .inl (3, [.ref 2]), .inr (910, .inl State_cells), .inl (1, [.ref 4, .ref 5, .int History_oldest, .int History_size, .int History_snapshotTaken]), .inr (5460, .inl History_saved), .inr (910, .inl History_snapshot), .inl (0, [.ref 7, .int r15.2.2.1]), .inr (60, .inl r15.2.2.2.1), .inl (2, [.ref (Reader_pattern + 1000), .int Reader_place]), .inl (4, [.ref 10, .int v18.2.1]), .inr (8, .inl v18.2.2), .inr (8, .inl r15.2.2.2.2)]) (st2 := [.int v21]) (cl2 := 1) (sl2 := 8) hc dL_ties_138 w404 ⟨w405, w406⟩ cal_X10_count rfl ⟨⟨Nat.le_of_ble_eq_true rfl, Nat.le_of_ble_eq_true rfl⟩, Nat.le_of_ble_eq_true rfl, Nat.le_of_ble_eq_true rfl⟩ (Nat.le_of_ble_eq_true rfl) ⟨_, _, _, _, rfl, rfl⟩ rfl ⟨rfl, ⟨by decide, by decide⟩, rfl, (fr_cons (Or.inl (Nat.le_of_ble_eq_true rfl)) (fr_cons (Or.inl (Nat.le_of_ble_eq_true rfl)) (fr_cons (Or.inl (Nat.le_of_ble_eq_true rfl)) (fr_cons (Or.inl (Nat.le_of_ble_eq_true rfl)) (fr_cons (Or.inl (Nat.le_of_ble_eq_true rfl)) (fr_cons (Or.inl (Nat.le_of_ble_eq_true rfl)) (fr_cons (Or.inl (Nat.le_of_ble_eq_true rfl)) (fr_cons (Or.inl (Nat.le_of_ble_eq_true rfl)) (fr_cons (Or.inl (Nat.le_of_ble_eq_true rfl)) (fr_cons (Or.inr (Nat.le_add_left 1000 _)) (fr_cons (Or.inl (Nat.le_of_ble_eq_true rfl)) (fr_nil)))))))))))), rfl⟩ fr_i rfl rfl rfl rfl ?_
          refine V.istore (i := 8) (L' := [some (.ref 0), some (.int a1), some (.int a2), some (.int (1 + v4)), some (.ref 11), some (.int r15.1), some (.int v17), some (.int v19), some (.int v21), none, none, none]) dL_ties_141 (Nat.le_of_ble_eq_true rfl) rfl rfl ?_
          refine V.aload_n (i := 0) dL_ties_143 rfl rfl ?_
          refine V.iload_n (i := 1) dL_ties_144 rfl rfl ?_
          refine V.iconst (v := 1) dL_ties_145 rfl ?_
          obtain ⟨v22, hv22, hf⟩ := fbind hf
          have hc := ct_X10_fisher (a1 := a1) (a2 := 1) (State_cells := State_cells) (History_oldest := History_oldest) (History_size := History_size) (History_snapshotTaken := History_snapshotTaken) (History_saved := History_saved) (History_snapshot := History_snapshot) (Buffer_size := r15.2.2.1) (Buffer_codes := r15.2.2.2.1) (Reader_pattern := Reader_pattern) (Reader_place := Reader_place) (Word_size := v18.2.1) (Word_letters := v18.2.2) hv22
          rcases hv22b : v22 with v23 | E9
          · rw [hv22b] at hc hf
            dsimp only [fth] at hf
            refine V.callVn (pl := [0, 1, 2, 3, 4, 5, 6, 7, 8, 9, 10]) (σ' := [.inl (5, [.ref 1, .ref 3, .ref 6, .ref 8, .ref 9]), .inl (3, [.ref 2]), .inr (910, .inl State_cells), .inl (1, [.ref 4, .ref 5, .int History_oldest, .int History_size, .int History_snapshotTaken]), .inr (5460, .inl History_saved), .inr (910, .inl History_snapshot), .inl (0, [.ref 7, .int r15.2.2.1]), .inr (60, .inl r15.2.2.2.1), .inl (2, [.ref (Reader_pattern + 1000), .int Reader_place]), .inl (4, [.ref 10, .int v18.2.1]), .inr (8, .inl v18.2.2), .inr (8, .inl r15.2.2.2.2)]) (st2 := [.int v23]) (cl2 := 1) (sl2 := 8) hc dL_ties_146 w174 ⟨w175, w176⟩ cal_X10_fisher rfl ⟨⟨Nat.le_of_ble_eq_true rfl, Nat.le_of_ble_eq_true rfl⟩, Nat.le_of_ble_eq_true rfl, Nat.le_of_ble_eq_true rfl⟩ (Nat.le_of_ble_eq_true rfl) ⟨_, _, _, _, rfl, rfl⟩ rfl ⟨rfl, ⟨by decide, by decide⟩, rfl, (fr_cons (Or.inl (Nat.le_of_ble_eq_true rfl)) (fr_cons (Or.inl (Nat.le_of_ble_eq_true rfl)) (fr_cons (Or.inl (Nat.le_of_ble_eq_true rfl)) (fr_cons (Or.inl (Nat.le_of_ble_eq_true rfl)) (fr_cons (Or.inl (Nat.le_of_ble_eq_true rfl)) (fr_cons (Or.inl (Nat.le_of_ble_eq_true rfl)) (fr_cons (Or.inl (Nat.le_of_ble_eq_true rfl)) (fr_cons (Or.inl (Nat.le_of_ble_eq_true rfl)) (fr_cons (Or.inl (Nat.le_of_ble_eq_true rfl)) (fr_cons (Or.inr (Nat.le_add_left 1000 _)) (fr_cons (Or.inl (Nat.le_of_ble_eq_true rfl)) (fr_nil)))))))))))), rfl⟩ fr_i rfl rfl rfl rfl ?_
            refine V.istore (i := 9) (L' := [some (.ref 0), some (.int a1), some (.int a2), some (.int (1 + v4)), some (.ref 11), some (.int r15.1), some (.int v17), some (.int v19), some (.int v21), some (.int v23), none, none]) dL_ties_149 (Nat.le_of_ble_eq_true rfl) rfl rfl ?_
            refine V.iload (i := 7) dL_ties_151 rfl ?_
            refine V.if_lt (tgt := 167) dL_ties_153 (by decide) (fun h => ?_) (fun h => ?_)
            · have hf := fif_t h hf
              refine V.iconst (v := 0) dL_ties_167 rfl ?_
              refine V.istore (i := 10) (L' := [some (.ref 0), some (.int a1), some (.int a2), some (.int (1 + v4)), some (.ref 11), some (.int r15.1), some (.int v17), some (.int v19), some (.int v21), some (.int v23), some (.int 0), none]) dL_ties_168 (Nat.le_of_ble_eq_true rfl) rfl rfl ?_
              obtain ⟨r34, hr34, hf⟩ := fbind hf
              rcases r34 with r9 | e35
              · obtain rfl := Option.some.inj (show some _ = some res from hf)
                exact v_L_ties_L170 gF hr34 (fun _ h => by cases h; exact ⟨rfl, rfl⟩) (fun _ h => by cases h)
              · replace hf : _ = some res := hf
                dsimp only [fsum] at hf
                refine v_L_ties_L170 gF hr34 (fun _ h => by cases h) (fun _ h => ?_)
                cases h
                refine V.aload_n (i := 0) dL_ties_239 rfl rfl ?_
                refine V.iload_n (i := 1) dL_ties_240 rfl rfl ?_
                obtain ⟨v36, hv36, hf⟩ := fbind hf
                refine V.callSn (pl := [0, 1, 2, 3, 4, 5, 6, 7, 8, 9, 10]) (σ' := [.inl (5, [.ref 1, .ref 3, .ref 6, .ref 8, .ref 9]), .inl (3, [.ref 2]), .inr (910, .inl v36.2.1), .inl (1, [.ref 4, .ref 5, .int v36.2.2.1, .int v36.2.2.2.1, .int History_snapshotTaken]), .inr (5460, .inl v36.2.2.2.2.1), .inr (910, .inl History_snapshot), .inl (0, [.ref 7, .int v36.2.2.2.2.2.1]), .inr (60, .inl r15.2.2.2.1), .inl (2, [.ref (Reader_pattern + 1000), .int Reader_place]), .inl (4, [.ref 10, .int v36.2.2.2.2.2.2.1]), .inr (8, .inl v36.2.2.2.2.2.2.2), .inr (8, .inl r15.2.2.2.2)]) (st2 := [.int v36.1]) (cl2 := 2) (sl2 := 14) (ct_L_tryTie (a1 := a1) (State_cells := State_cells) (History_oldest := History_oldest) (History_size := History_size) (History_snapshotTaken := History_snapshotTaken) (History_saved := History_saved) (History_snapshot := History_snapshot) (Buffer_size := r15.2.2.1) (Buffer_codes := r15.2.2.2.1) (Reader_pattern := Reader_pattern) (Reader_place := Reader_place) (Word_size := e35.2.1) (Word_letters := e35.2.2) hv36) dL_ties_241 w536 w537 cal_L_tryTie ⟨⟨Nat.le_of_ble_eq_true rfl, Nat.le_of_ble_eq_true rfl⟩, Nat.le_of_ble_eq_true rfl, Nat.le_of_ble_eq_true rfl⟩ (Nat.le_of_ble_eq_true rfl) rfl ⟨rfl, ⟨by decide, by decide⟩, rfl, (fr_cons (Or.inl (Nat.le_of_ble_eq_true rfl)) (fr_cons (Or.inl (Nat.le_of_ble_eq_true rfl)) (fr_cons (Or.inl (Nat.le_of_ble_eq_true rfl)) (fr_cons (Or.inl (Nat.le_of_ble_eq_true rfl)) (fr_cons (Or.inl (Nat.le_of_ble_eq_true rfl)) (fr_cons (Or.inl (Nat.le_of_ble_eq_true rfl)) (fr_cons (Or.inl (Nat.le_of_ble_eq_true rfl)) (fr_cons (Or.inl (Nat.le_of_ble_eq_true rfl)) (fr_cons (Or.inl (Nat.le_of_ble_eq_true rfl)) (fr_cons (Or.inr (Nat.le_add_left 1000 _)) (fr_cons (Or.inl (Nat.le_of_ble_eq_true rfl)) (fr_nil)))))))))))), rfl⟩ fr_i rfl rfl rfl rfl ?_
                refine V.istore (i := 10) (L' := [some (.ref 0), some (.int a1), some (.int a2), some (.int (1 + v4)), some (.ref 11), some (.int r15.1), some (.int v17), some (.int v19), some (.int v21), some (.int v23), some (.int v36.1), none]) dL_ties_244 (Nat.le_of_ble_eq_true rfl) rfl rfl ?_
                refine V.iload (i := 6) dL_ties_246 rfl ?_
                refine V.if_le (tgt := 290) dL_ties_248 (by decide) (fun h => ?_) (fun h => ?_)
                · have hf := fif_t h hf
                  refine V.iconst (v := 0) dL_ties_290 rfl ?_
                  refine V.istore (i := 11) (L' := [some (.ref 0), some (.int a1), some (.int a2), some (.int (1 + v4)), some (.ref 11), some (.int r15.1), some (.int v17), some (.int v19), some (.int v21), some (.int v23), some (.int v36.1), some (.int 0)]) dL_ties_291 (Nat.le_of_ble_eq_true rfl) rfl rfl ?_
                  obtain ⟨r42, hr42, hf⟩ := fbind hf
                  rcases r42 with r9 | e43
                  · obtain rfl := Option.some.inj (show some _ = some res from hf)
                    exact v_L_ties_L293 gF hr42 (fun _ h => by cases h; exact ⟨rfl, rfl⟩) (fun _ h => by cases h)
                  · replace hf : _ = some res := hf
                    dsimp only [fsum] at hf
                    refine v_L_ties_L293 gF hr42 (fun _ h => by cases h) (fun _ h => ?_)
                    cases h
                    refine V.iload (i := 10) dL_ties_345 rfl ?_
                    refine V.iload (i := 9) dL_ties_347 rfl ?_
                    refine V.icmp_ne (tgt := 397) dL_ties_349 (by decide) (fun h => ?_) (fun h => ?_)
                    · have hf := fif_f h hf
                      refine V.iconst (v := 0) dL_ties_397 rfl ?_
                      obtain rfl := Option.some.inj hf
                      exact V.zretD (v := 0) dL_ties_398 rfl (by decide +kernel) (Nat.le_of_ble_eq_true rfl) (Nat.le_of_ble_eq_true rfl) (Nat.le_of_ble_eq_true rfl) (τ := [.inr (8, .inl r15.2.2.2.2)]) rfl
                    · have hf := fif_t h hf
                      refine V.aload_n (i := 0) dL_ties_352 rfl rfl ?_
                      refine V.iload_n (i := 1) dL_ties_353 rfl rfl ?_
                      refine V.iload (i := 9) dL_ties_354 rfl ?_
                      refine V.iconst (v := 0) dL_ties_356 rfl ?_
                      obtain ⟨v44, hv44, hf⟩ := fbind hf
                      have hc := ct_X10_name (a1 := a1) (a2 := v23) (a3 := 0) (State_cells := v36.2.1) (History_oldest := v36.2.2.1) (History_size := v36.2.2.2.1) (History_snapshotTaken := History_snapshotTaken) (History_saved := v36.2.2.2.2.1) (History_snapshot := History_snapshot) (Buffer_size := v36.2.2.2.2.2.1) (Buffer_codes := r15.2.2.2.1) (Reader_pattern := Reader_pattern) (Reader_place := Reader_place) (Word_size := v36.2.2.2.2.2.2.1) (Word_letters := v36.2.2.2.2.2.2.2) hv44
                      rcases hv44b : v44 with v45 | E9
                      · rw [hv44b] at hc hf
                        dsimp only [fth] at hf
                        refine V.callVn (pl := [0, 1, 2, 3, 4, 5, 6, 7, 8, 9, 10]) (σ' := [.inl (5, [.ref 1, .ref 3, .ref 6, .ref 8, .ref 9]), .inl (3, [.ref 2]), .inr (910, .inl v36.2.1), .inl (1, [.ref 4, .ref 5, .int v36.2.2.1, .int v36.2.2.2.1, .int History_snapshotTaken]), .inr (5460, .inl v36.2.2.2.2.1), .inr (910, .inl History_snapshot), .inl (0, [.ref 7, .int v36.2.2.2.2.2.1]), .inr (60, .inl r15.2.2.2.1), .inl (2, [.ref (Reader_pattern + 1000), .int Reader_place]), .inl (4, [.ref 10, .int v36.2.2.2.2.2.2.1]), .inr (8, .inl v36.2.2.2.2.2.2.2), .inr (8, .inl r15.2.2.2.2)]) (st2 := [.int v45]) (cl2 := 2) (sl2 := 14) hc dL_ties_357 w284 ⟨w285, w286⟩ cal_X10_name rfl ⟨⟨Nat.le_of_ble_eq_true rfl, Nat.le_of_ble_eq_true rfl⟩, Nat.le_of_ble_eq_true rfl, Nat.le_of_ble_eq_true rfl⟩ (Nat.le_of_ble_eq_true rfl) ⟨_, _, _, _, rfl, rfl⟩ rfl ⟨rfl, ⟨by decide, by decide⟩, rfl, (fr_cons (Or.inl (Nat.le_of_ble_eq_true rfl)) (fr_cons (Or.inl (Nat.le_of_ble_eq_true rfl)) (fr_cons (Or.inl (Nat.le_of_ble_eq_true rfl)) (fr_cons (Or.inl (Nat.le_of_ble_eq_true rfl)) (fr_cons (Or.inl (Nat.le_of_ble_eq_true rfl)) (fr_cons (Or.inl (Nat.le_of_ble_eq_true rfl)) (fr_cons (Or.inl (Nat.le_of_ble_eq_true rfl)) (fr_cons (Or.inl (Nat.le_of_ble_eq_true rfl)) (fr_cons (Or.inl (Nat.le_of_ble_eq_true rfl)) (fr_cons (Or.inr (Nat.le_add_left 1000 _)) (fr_cons (Or.inl (Nat.le_of_ble_eq_true rfl)) (fr_nil)))))))))))), rfl⟩ fr_i rfl rfl rfl rfl ?_
                        refine V.iload_n (i := 3) dL_ties_360 rfl rfl ?_
                        refine V.icmp_ne (tgt := 397) dL_ties_361 (by decide) (fun h => ?_) (fun h => ?_)
                        · have hf := fif_f h hf
                          refine V.iconst (v := 0) dL_ties_397 rfl ?_
                          obtain rfl := Option.some.inj hf
                          exact V.zretD (v := 0) dL_ties_398 rfl (by decide +kernel) (Nat.le_of_ble_eq_true rfl) (Nat.le_of_ble_eq_true rfl) (Nat.le_of_ble_eq_true rfl) (τ := [.inr (8, .inl r15.2.2.2.2)]) rfl
                        · have hf := fif_t h hf
                          refine V.aload_n (i := 0) dL_ties_364 rfl rfl ?_
                          refine V.bipush (v := 9) dL_ties_365 rfl ?_
                          obtain ⟨v46, hv46, hf⟩ := fbind hf
                          have hc := ct_X10_count (a1 := 9) (State_cells := v36.2.1) (History_oldest := v36.2.2.1) (History_size := v36.2.2.2.1) (History_snapshotTaken := History_snapshotTaken) (History_saved := v36.2.2.2.2.1) (History_snapshot := History_snapshot) (Buffer_size := v36.2.2.2.2.2.1) (Buffer_codes := r15.2.2.2.1) (Reader_pattern := Reader_pattern) (Reader_place := Reader_place) (Word_size := v36.2.2.2.2.2.2.1) (Word_letters := v36.2.2.2.2.2.2.2) hv46
                          rcases hv46b : v46 with v47 | E9
                          · rw [hv46b] at hc hf
                            dsimp only [fth] at hf
                            refine V.callVn (pl := [0, 1, 2, 3, 4, 5, 6, 7, 8, 9, 10]) (σ' := [.inl (5, [.ref 1, .ref 3, .ref 6, .ref 8, .ref 9]), .inl (3, [.ref 2]), .inr (910, .inl v36.2.1), .inl (1, [.ref 4, .ref 5, .int v36.2.2.1, .int v36.2.2.2.1, .int History_snapshotTaken]), .inr (5460, .inl v36.2.2.2.2.1), .inr (910, .inl History_snapshot), .inl (0, [.ref 7, .int v36.2.2.2.2.2.1]), .inr (60, .inl r15.2.2.2.1), .inl (2, [.ref (Reader_pattern + 1000), .int Reader_place]), .inl (4, [.ref 10, .int v36.2.2.2.2.2.2.1]), .inr (8, .inl v36.2.2.2.2.2.2.2), .inr (8, .inl r15.2.2.2.2)]) (st2 := [.int v47]) (cl2 := 2) (sl2 := 14) hc dL_ties_367 w404 ⟨w405, w406⟩ cal_X10_count rfl ⟨⟨Nat.le_of_ble_eq_true rfl, Nat.le_of_ble_eq_true rfl⟩, Nat.le_of_ble_eq_true rfl, Nat.le_of_ble_eq_true rfl⟩ (Nat.le_of_ble_eq_true rfl) ⟨_, _, _, _, rfl, rfl⟩ rfl ⟨rfl, ⟨by decide, by decide⟩, rfl, (fr_cons (Or.inl (Nat.le_of_ble_eq_true rfl)) (fr_cons (Or.inl (Nat.le_of_ble_eq_true rfl)) (fr_cons (Or.inl (Nat.le_of_ble_eq_true rfl)) (fr_cons (Or.inl (Nat.le_of_ble_eq_true rfl)) (fr_cons (Or.inl (Nat.le_of_ble_eq_true rfl)) (fr_cons (Or.inl (Nat.le_of_ble_eq_true rfl)) (fr_cons (Or.inl (Nat.le_of_ble_eq_true rfl)) (fr_cons (Or.inl (Nat.le_of_ble_eq_true rfl)) (fr_cons (Or.inl (Nat.le_of_ble_eq_true rfl)) (fr_cons (Or.inr (Nat.le_add_left 1000 _)) (fr_cons (Or.inl (Nat.le_of_ble_eq_true rfl)) (fr_nil)))))))))))), rfl⟩ fr_i rfl rfl rfl rfl ?_
                            refine V.iload (i := 8) dL_ties_370 rfl ?_
                            refine V.iload_n (i := 3) dL_ties_372 rfl rfl ?_
                            refine V.iadd dL_ties_373 ?_
                            refine V.icmp_ne (tgt := 397) dL_ties_374 (by decide) (fun h => ?_) (fun h => ?_)
                            · have hf := fif_f h hf
                              refine V.iconst (v := 0) dL_ties_397 rfl ?_
                              obtain rfl := Option.some.inj hf
                              exact V.zretD (v := 0) dL_ties_398 rfl (by decide +kernel) (Nat.le_of_ble_eq_true rfl) (Nat.le_of_ble_eq_true rfl) (Nat.le_of_ble_eq_true rfl) (τ := [.inr (8, .inl r15.2.2.2.2)]) rfl
                            · have hf := fif_t h hf
                              refine V.aload_n (i := 0) dL_ties_377 rfl rfl ?_
                              refine V.iload_n (i := 1) dL_ties_378 rfl rfl ?_
                              refine V.iload (i := 9) dL_ties_379 rfl ?_
                              obtain ⟨v48, hv48, hf⟩ := fbind hf
                              refine V.callSn (pl := [0, 1, 2, 3, 4, 5, 6, 7, 8, 9, 10]) (σ' := [.inl (5, [.ref 1, .ref 3, .ref 6, .ref 8, .ref 9]), .inl (3, [.ref 2]), .inr (910, .inl v36.2.1), .inl (1, [.ref 4, .ref 5, .int v36.2.2.1, .int v36.2.2.2.1, .int History_snapshotTaken]), .inr (5460, .inl v36.2.2.2.2.1), .inr (910, .inl History_snapshot), .inl (0, [.ref 7, .int v36.2.2.2.2.2.1]), .inr (60, .inl r15.2.2.2.1), .inl (2, [.ref (Reader_pattern + 1000), .int Reader_place]), .inl (4, [.ref 10, .int v36.2.2.2.2.2.2.1]), .inr (8, .inl v36.2.2.2.2.2.2.2), .inr (8, .inl r15.2.2.2.2)]) (st2 := [.int v48]) (cl2 := 2) (sl2 := 14) (ct_L_ends (a1 := a1) (a2 := v23) (State_cells := v36.2.1) (History_oldest := v36.2.2.1) (History_size := v36.2.2.2.1) (History_snapshotTaken := History_snapshotTaken) (History_saved := v36.2.2.2.2.1) (History_snapshot := History_snapshot) (Buffer_size := v36.2.2.2.2.2.1) (Buffer_codes := r15.2.2.2.1) (Reader_pattern := Reader_pattern) (Reader_place := Reader_place) (Word_size := v36.2.2.2.2.2.2.1) (Word_letters := v36.2.2.2.2.2.2.2) hv48) dL_ties_381 w573 w574 cal_L_ends ⟨⟨Nat.le_of_ble_eq_true rfl, Nat.le_of_ble_eq_true rfl⟩, Nat.le_of_ble_eq_true rfl, Nat.le_of_ble_eq_true rfl⟩ (Nat.le_of_ble_eq_true rfl) rfl ⟨rfl, ⟨by decide, by decide⟩, rfl, (fr_cons (Or.inl (Nat.le_of_ble_eq_true rfl)) (fr_cons (Or.inl (Nat.le_of_ble_eq_true rfl)) (fr_cons (Or.inl (Nat.le_of_ble_eq_true rfl)) (fr_cons (Or.inl (Nat.le_of_ble_eq_true rfl)) (fr_cons (Or.inl (Nat.le_of_ble_eq_true rfl)) (fr_cons (Or.inl (Nat.le_of_ble_eq_true rfl)) (fr_cons (Or.inl (Nat.le_of_ble_eq_true rfl)) (fr_cons (Or.inl (Nat.le_of_ble_eq_true rfl)) (fr_cons (Or.inl (Nat.le_of_ble_eq_true rfl)) (fr_cons (Or.inr (Nat.le_add_left 1000 _)) (fr_cons (Or.inl (Nat.le_of_ble_eq_true rfl)) (fr_nil)))))))))))), rfl⟩ fr_i rfl rfl rfl rfl ?_
                              obtain ⟨v49, ev49, hf⟩ := flet_e hf
                              refine V.join (J := 398) (y := v49) (st' := []) (fun tlv49 => ?_) ?_
                              · refine V.if_eq (tgt := 397) dL_ties_384 (by decide) (fun h50 => ?_) (fun h50 => ?_)
                                · refine V.iconst (v := 0) dL_ties_397 rfl ?_
                                  exact V.cgi (by rw [← ev49, if_pos h50]) tlv49
                                · refine V.iload (i := 5) dL_ties_387 rfl ?_
                                  refine V.iload_n (i := 3) dL_ties_389 rfl rfl ?_
                                  refine V.icmp_ne (tgt := 397) dL_ties_390 (by decide) (fun h51 => ?_) (fun h51 => ?_)
                                  · refine V.iconst (v := 0) dL_ties_397 rfl ?_
                                    exact V.cgi (by rw [← ev49, if_neg h50, if_neg h51]) tlv49
                                  · refine V.iconst (v := 1) dL_ties_393 rfl ?_
                                    refine V.goto (tgt := 398) dL_ties_394 (by decide) ?_
                                    exact V.cgi (by rw [← ev49, if_neg h50, if_pos h51]) tlv49
                              · obtain ⟨hz, hf⟩ := fz_e hf
                                obtain rfl := Option.some.inj hf
                                exact V.zretD (v := v49) dL_ties_398 rfl hz (Nat.le_of_ble_eq_true rfl) (Nat.le_of_ble_eq_true rfl) (Nat.le_of_ble_eq_true rfl) (τ := [.inr (8, .inl r15.2.2.2.2)]) rfl
                          · rw [hv46b] at hc hf
                            dsimp only [fth] at hf
                            cases hf
                      · rw [hv44b] at hc hf
                        dsimp only [fth] at hf
                        cases hf
                · have hf := fif_f h hf
                  refine V.iload (i := 10) dL_ties_251 rfl ?_
                  refine V.sipush (v := (-7003)) dL_ties_253 rfl ?_
                  refine V.icmp_ne (tgt := 288) dL_ties_256 (by decide) (fun h => ?_) (fun h => ?_)
                  · have hf := fif_f h hf
                    refine V.iconst (v := 0) dL_ties_288 rfl ?_
                    obtain rfl := Option.some.inj hf
                    exact V.zretD (v := 0) dL_ties_289 rfl (by decide +kernel) (Nat.le_of_ble_eq_true rfl) (Nat.le_of_ble_eq_true rfl) (Nat.le_of_ble_eq_true rfl) (τ := [.inr (8, .inl r15.2.2.2.2)]) rfl
                  · have hf := fif_t h hf
                    refine V.iload (i := 6) dL_ties_259 rfl ?_
                    refine V.iconst (v := 3) dL_ties_261 rfl ?_
                    refine V.icmp_gt (tgt := 288) dL_ties_262 (by decide) (fun h => ?_) (fun h => ?_)
                    · have hf := fif_t h hf
                      refine V.iconst (v := 0) dL_ties_288 rfl ?_
                      obtain rfl := Option.some.inj hf
                      exact V.zretD (v := 0) dL_ties_289 rfl (by decide +kernel) (Nat.le_of_ble_eq_true rfl) (Nat.le_of_ble_eq_true rfl) (Nat.le_of_ble_eq_true rfl) (τ := [.inr (8, .inl r15.2.2.2.2)]) rfl
                    · have hf := fif_f h hf
                      refine V.aload_n (i := 0) dL_ties_265 rfl rfl ?_
                      refine V.iload_n (i := 1) dL_ties_266 rfl rfl ?_
                      refine V.iconst (v := 1) dL_ties_267 rfl ?_
                      obtain ⟨v52, hv52, hf⟩ := fbind hf
                      have hc := ct_X10_fisher (a1 := a1) (a2 := 1) (State_cells := v36.2.1) (History_oldest := v36.2.2.1) (History_size := v36.2.2.2.1) (History_snapshotTaken := History_snapshotTaken) (History_saved := v36.2.2.2.2.1) (History_snapshot := History_snapshot) (Buffer_size := v36.2.2.2.2.2.1) (Buffer_codes := r15.2.2.2.1) (Reader_pattern := Reader_pattern) (Reader_place := Reader_place) (Word_size := v36.2.2.2.2.2.2.1) (Word_letters := v36.2.2.2.2.2.2.2) hv52
                      rcases hv52b : v52 with v53 | E9
                      · rw [hv52b] at hc hf
                        dsimp only [fth] at hf
                        refine V.callVn (pl := [0, 1, 2, 3, 4, 5, 6, 7, 8, 9, 10]) (σ' := [.inl (5, [.ref 1, .ref 3, .ref 6, .ref 8, .ref 9]), .inl (3, [.ref 2]), .inr (910, .inl v36.2.1), .inl (1, [.ref 4, .ref 5, .int v36.2.2.1, .int v36.2.2.2.1, .int History_snapshotTaken]), .inr (5460, .inl v36.2.2.2.2.1), .inr (910, .inl History_snapshot), .inl (0, [.ref 7, .int v36.2.2.2.2.2.1]), .inr (60, .inl r15.2.2.2.1), .inl (2, [.ref (Reader_pattern + 1000), .int Reader_place]), .inl (4, [.ref 10, .int v36.2.2.2.2.2.2.1]), .inr (8, .inl v36.2.2.2.2.2.2.2), .inr (8, .inl r15.2.2.2.2)]) (st2 := [.int v53]) (cl2 := 2) (sl2 := 14) hc dL_ties_268 w174 ⟨w175, w176⟩ cal_X10_fisher rfl ⟨⟨Nat.le_of_ble_eq_true rfl, Nat.le_of_ble_eq_true rfl⟩, Nat.le_of_ble_eq_true rfl, Nat.le_of_ble_eq_true rfl⟩ (Nat.le_of_ble_eq_true rfl) ⟨_, _, _, _, rfl, rfl⟩ rfl ⟨rfl, ⟨by decide, by decide⟩, rfl, (fr_cons (Or.inl (Nat.le_of_ble_eq_true rfl)) (fr_cons (Or.inl (Nat.le_of_ble_eq_true rfl)) (fr_cons (Or.inl (Nat.le_of_ble_eq_true rfl)) (fr_cons (Or.inl (Nat.le_of_ble_eq_true rfl)) (fr_cons (Or.inl (Nat.le_of_ble_eq_true rfl)) (fr_cons (Or.inl (Nat.le_of_ble_eq_true rfl)) (fr_cons (Or.inl (Nat.le_of_ble_eq_true rfl)) (fr_cons (Or.inl (Nat.le_of_ble_eq_true rfl)) (fr_cons (Or.inl (Nat.le_of_ble_eq_true rfl)) (fr_cons (Or.inr (Nat.le_add_left 1000 _)) (fr_cons (Or.inl (Nat.le_of_ble_eq_true rfl)) (fr_nil)))))))))))), rfl⟩ fr_i rfl rfl rfl rfl ?_
                        refine V.iload (i := 9) dL_ties_271 rfl ?_
                        refine V.icmp_ne (tgt := 288) dL_ties_273 (by decide) (fun h => ?_) (fun h => ?_)
                        · have hf := fif_f h hf
                          refine V.iconst (v := 0) dL_ties_288 rfl ?_
                          obtain rfl := Option.some.inj hf
                          exact V.zretD (v := 0) dL_ties_289 rfl (by decide +kernel) (Nat.le_of_ble_eq_true rfl) (Nat.le_of_ble_eq_true rfl) (Nat.le_of_ble_eq_true rfl) (τ := [.inr (8, .inl r15.2.2.2.2)]) rfl
                        · have hf := fif_t h hf
                          refine V.aload_n (i := 0) dL_ties_276 rfl rfl ?_
                          obtain ⟨v54, hv54, hf⟩ := fbind hf
                          refine V.callVn (pl := [0, 1, 2, 3, 4, 5, 6, 7, 8, 9, 10]) (σ' := [.inl (5, [.ref 1, .ref 3, .ref 6, .ref 8, .ref 9]), .inl (3, [.ref 2]), .inr (910, .inl v36.2.1), .inl (1, [.ref 4, .ref 5, .int v36.2.2.1, .int v36.2.2.2.1, .int History_snapshotTaken]), .inr (5460, .inl v36.2.2.2.2.1), .inr (910, .inl History_snapshot), .inl (0, [.ref 7, .int v54.2]), .inr (60, .inl r15.2.2.2.1), .inl (2, [.ref (Reader_pattern + 1000), .int Reader_place]), .inl (4, [.ref 10, .int v36.2.2.2.2.2.2.1]), .inr (8, .inl v36.2.2.2.2.2.2.2), .inr (8, .inl r15.2.2.2.2)]) (st2 := [.int v54.1]) (cl2 := 2) (sl2 := 14) (ct_X10_clearBuffer (State_cells := v36.2.1) (History_oldest := v36.2.2.1) (History_size := v36.2.2.2.1) (History_snapshotTaken := History_snapshotTaken) (History_saved := v36.2.2.2.2.1) (History_snapshot := History_snapshot) (Buffer_size := v36.2.2.2.2.2.1) (Buffer_codes := r15.2.2.2.1) (Reader_pattern := Reader_pattern) (Reader_place := Reader_place) (Word_size := v36.2.2.2.2.2.2.1) (Word_letters := v36.2.2.2.2.2.2.2) hv54) dL_ties_277 w467 ⟨w468, w469⟩ cal_X10_clearBuffer rfl ⟨⟨Nat.le_of_ble_eq_true rfl, Nat.le_of_ble_eq_true rfl⟩, Nat.le_of_ble_eq_true rfl, Nat.le_of_ble_eq_true rfl⟩ (Nat.le_of_ble_eq_true rfl) ⟨_, _, _, _, rfl, rfl⟩ rfl ⟨rfl, ⟨by decide, by decide⟩, rfl, (fr_cons (Or.inl (Nat.le_of_ble_eq_true rfl)) (fr_cons (Or.inl (Nat.le_of_ble_eq_true rfl)) (fr_cons (Or.inl (Nat.le_of_ble_eq_true rfl)) (fr_cons (Or.inl (Nat.le_of_ble_eq_true rfl)) (fr_cons (Or.inl (Nat.le_of_ble_eq_true rfl)) (fr_cons (Or.inl (Nat.le_of_ble_eq_true rfl)) (fr_cons (Or.inl (Nat.le_of_ble_eq_true rfl)) (fr_cons (Or.inl (Nat.le_of_ble_eq_true rfl)) (fr_cons (Or.inl (Nat.le_of_ble_eq_true rfl)) (fr_cons (Or.inr (Nat.le_add_left 1000 _)) (fr_cons (Or.inl (Nat.le_of_ble_eq_true rfl)) (fr_nil)))))))))))), rfl⟩ fr_i rfl rfl rfl rfl ?_
                          refine V.iload_n (i := 3) dL_ties_280 rfl rfl ?_
                          obtain ⟨v55, ev55, hf⟩ := flet_e hf
                          refine V.join (J := 289) (y := v55) (st' := []) (fun tlv55 => ?_) ?_
                          · refine V.icmp_ne (tgt := 288) dL_ties_281 (by decide) (fun h56 => ?_) (fun h56 => ?_)
                            · refine V.iconst (v := 0) dL_ties_288 rfl ?_
                              exact V.cgi (by rw [← ev55, if_neg h56]) tlv55
                            · refine V.iconst (v := 1) dL_ties_284 rfl ?_
                              refine V.goto (tgt := 289) dL_ties_285 (by decide) ?_
                              exact V.cgi (by rw [← ev55, if_pos h56]) tlv55
                          · obtain ⟨hz, hf⟩ := fz_e hf
                            obtain rfl := Option.some.inj hf
                            exact V.zretD (v := v55) dL_ties_289 rfl hz (Nat.le_of_ble_eq_true rfl) (Nat.le_of_ble_eq_true rfl) (Nat.le_of_ble_eq_true rfl) (τ := [.inr (8, .inl r15.2.2.2.2)]) rfl
                      · rw [hv52b] at hc hf
                        dsimp only [fth] at hf
                        cases hf
            · have hf := fif_f h hf
              refine V.aload_n (i := 0) dL_ties_156 rfl rfl ?_
              refine V.iload (i := 7) dL_ties_157 rfl ?_
              obtain ⟨v57, hv57, hf⟩ := fbind hf
              have hc := ct_X10_whyNot (a1 := v19) (State_cells := State_cells) (History_oldest := History_oldest) (History_size := History_size) (History_snapshotTaken := History_snapshotTaken) (History_saved := History_saved) (History_snapshot := History_snapshot) (Buffer_size := r15.2.2.1) (Buffer_codes := r15.2.2.2.1) (Reader_pattern := Reader_pattern) (Reader_place := Reader_place) (Word_size := v18.2.1) (Word_letters := v18.2.2) hv57
              rcases hv57b : v57.1 with v58 | E9
              · rw [hv57b] at hc hf
                dsimp only [fth] at hf
                refine V.callVn (pl := [0, 1, 2, 3, 4, 5, 6, 7, 8, 9, 10]) (σ' := [.inl (5, [.ref 1, .ref 3, .ref 6, .ref 8, .ref 9]), .inl (3, [.ref 2]), .inr (910, .inl State_cells), .inl (1, [.ref 4, .ref 5, .int History_oldest, .int History_size, .int History_snapshotTaken]), .inr (5460, .inl History_saved), .inr (910, .inl History_snapshot), .inl (0, [.ref 7, .int r15.2.2.1]), .inr (60, .inl r15.2.2.2.1), .inl (2, [.ref (Reader_pattern + 1000), .int Reader_place]), .inl (4, [.ref 10, .int v57.2.1]), .inr (8, .inl v57.2.2), .inr (8, .inl r15.2.2.2.2)]) (st2 := [.int v58]) (cl2 := 1) (sl2 := 8) hc dL_ties_159 w504 ⟨w505, w506⟩ cal_X10_whyNot rfl ⟨⟨Nat.le_of_ble_eq_true rfl, Nat.le_of_ble_eq_true rfl⟩, Nat.le_of_ble_eq_true rfl, Nat.le_of_ble_eq_true rfl⟩ (Nat.le_of_ble_eq_true rfl) ⟨_, _, _, _, rfl, rfl⟩ rfl ⟨rfl, ⟨by decide, by decide⟩, rfl, (fr_cons (Or.inl (Nat.le_of_ble_eq_true rfl)) (fr_cons (Or.inl (Nat.le_of_ble_eq_true rfl)) (fr_cons (Or.inl (Nat.le_of_ble_eq_true rfl)) (fr_cons (Or.inl (Nat.le_of_ble_eq_true rfl)) (fr_cons (Or.inl (Nat.le_of_ble_eq_true rfl)) (fr_cons (Or.inl (Nat.le_of_ble_eq_true rfl)) (fr_cons (Or.inl (Nat.le_of_ble_eq_true rfl)) (fr_cons (Or.inl (Nat.le_of_ble_eq_true rfl)) (fr_cons (Or.inl (Nat.le_of_ble_eq_true rfl)) (fr_cons (Or.inr (Nat.le_add_left 1000 _)) (fr_cons (Or.inl (Nat.le_of_ble_eq_true rfl)) (fr_nil)))))))))))), rfl⟩ fr_i rfl rfl rfl rfl ?_
                refine V.if_eq (tgt := 167) dL_ties_162 (by decide) (fun h => ?_) (fun h => ?_)
                · have hf := fif_t h hf
                  refine V.iconst (v := 0) dL_ties_167 rfl ?_
                  refine V.istore (i := 10) (L' := [some (.ref 0), some (.int a1), some (.int a2), some (.int (1 + v4)), some (.ref 11), some (.int r15.1), some (.int v17), some (.int v19), some (.int v21), some (.int v23), some (.int 0), none]) dL_ties_168 (Nat.le_of_ble_eq_true rfl) rfl rfl ?_
                  obtain ⟨r59, hr59, hf⟩ := fbind hf
                  rcases r59 with r9 | e60
                  · obtain rfl := Option.some.inj (show some _ = some res from hf)
                    exact v_L_ties_L170 gF hr59 (fun _ h => by cases h; exact ⟨rfl, rfl⟩) (fun _ h => by cases h)
                  · replace hf : _ = some res := hf
                    dsimp only [fsum] at hf
                    refine v_L_ties_L170 gF hr59 (fun _ h => by cases h) (fun _ h => ?_)
                    cases h
                    refine V.aload_n (i := 0) dL_ties_239 rfl rfl ?_
                    refine V.iload_n (i := 1) dL_ties_240 rfl rfl ?_
                    obtain ⟨v61, hv61, hf⟩ := fbind hf
                    refine V.callSn (pl := [0, 1, 2, 3, 4, 5, 6, 7, 8, 9, 10]) (σ' := [.inl (5, [.ref 1, .ref 3, .ref 6, .ref 8, .ref 9]), .inl (3, [.ref 2]), .inr (910, .inl v61.2.1), .inl (1, [.ref 4, .ref 5, .int v61.2.2.1, .int v61.2.2.2.1, .int History_snapshotTaken]), .inr (5460, .inl v61.2.2.2.2.1), .inr (910, .inl History_snapshot), .inl (0, [.ref 7, .int v61.2.2.2.2.2.1]), .inr (60, .inl r15.2.2.2.1), .inl (2, [.ref (Reader_pattern + 1000), .int Reader_place]), .inl (4, [.ref 10, .int v61.2.2.2.2.2.2.1]), .inr (8, .inl v61.2.2.2.2.2.2.2), .inr (8, .inl r15.2.2.2.2)]) (st2 := [.int v61.1]) (cl2 := 2) (sl2 := 14) (ct_L_tryTie (a1 := a1) (State_cells := State_cells) (History_oldest := History_oldest) (History_size := History_size) (History_snapshotTaken := History_snapshotTaken) (History_saved := History_saved) (History_snapshot := History_snapshot) (Buffer_size := r15.2.2.1) (Buffer_codes := r15.2.2.2.1) (Reader_pattern := Reader_pattern) (Reader_place := Reader_place) (Word_size := e60.2.1) (Word_letters := e60.2.2) hv61) dL_ties_241 w536 w537 cal_L_tryTie ⟨⟨Nat.le_of_ble_eq_true rfl, Nat.le_of_ble_eq_true rfl⟩, Nat.le_of_ble_eq_true rfl, Nat.le_of_ble_eq_true rfl⟩ (Nat.le_of_ble_eq_true rfl) rfl ⟨rfl, ⟨by decide, by decide⟩, rfl, (fr_cons (Or.inl (Nat.le_of_ble_eq_true rfl)) (fr_cons (Or.inl (Nat.le_of_ble_eq_true rfl)) (fr_cons (Or.inl (Nat.le_of_ble_eq_true rfl)) (fr_cons (Or.inl (Nat.le_of_ble_eq_true rfl)) (fr_cons (Or.inl (Nat.le_of_ble_eq_true rfl)) (fr_cons (Or.inl (Nat.le_of_ble_eq_true rfl)) (fr_cons (Or.inl (Nat.le_of_ble_eq_true rfl)) (fr_cons (Or.inl (Nat.le_of_ble_eq_true rfl)) (fr_cons (Or.inl (Nat.le_of_ble_eq_true rfl)) (fr_cons (Or.inr (Nat.le_add_left 1000 _)) (fr_cons (Or.inl (Nat.le_of_ble_eq_true rfl)) (fr_nil)))))))))))), rfl⟩ fr_i rfl rfl rfl rfl ?_
                    refine V.istore (i := 10) (L' := [some (.ref 0), some (.int a1), some (.int a2), some (.int (1 + v4)), some (.ref 11), some (.int r15.1), some (.int v17), some (.int v19), some (.int v21), some (.int v23), some (.int v61.1), none]) dL_ties_244 (Nat.le_of_ble_eq_true rfl) rfl rfl ?_
                    refine V.iload (i := 6) dL_ties_246 rfl ?_
                    refine V.if_le (tgt := 290) dL_ties_248 (by decide) (fun h => ?_) (fun h => ?_)
                    · have hf := fif_t h hf
                      refine V.iconst (v := 0) dL_ties_290 rfl ?_
                      refine V.istore (i := 11) (L' := [some (.ref 0), some (.int a1), some (.int a2), some (.int (1 + v4)), some (.ref 11), some (.int r15.1), some (.int v17), some (.int v19), some (.int v21), some (.int v23), some (.int v61.1), some (.int 0)]) dL_ties_291 (Nat.le_of_ble_eq_true rfl) rfl rfl ?_
                      obtain ⟨r62, hr62, hf⟩ := fbind hf
                      rcases r62 with r9 | e63
                      · obtain rfl := Option.some.inj (show some _ = some res from hf)
                        exact v_L_ties_L293 gF hr62 (fun _ h => by cases h; exact ⟨rfl, rfl⟩) (fun _ h => by cases h)
                      · replace hf : _ = some res := hf
                        dsimp only [fsum] at hf
                        refine v_L_ties_L293 gF hr62 (fun _ h => by cases h) (fun _ h => ?_)
                        cases h
                        refine V.iload (i := 10) dL_ties_345 rfl ?_
                        refine V.iload (i := 9) dL_ties_347 rfl ?_
                        refine V.icmp_ne (tgt := 397) dL_ties_349 (by decide) (fun h => ?_) (fun h => ?_)
                        · have hf := fif_f h hf
                          refine V.iconst (v := 0) dL_ties_397 rfl ?_
                          obtain rfl := Option.some.inj hf
                          exact V.zretD (v := 0) dL_ties_398 rfl (by decide +kernel) (Nat.le_of_ble_eq_true rfl) (Nat.le_of_ble_eq_true rfl) (Nat.le_of_ble_eq_true rfl) (τ := [.inr (8, .inl r15.2.2.2.2)]) rfl
                        · have hf := fif_t h hf
                          refine V.aload_n (i := 0) dL_ties_352 rfl rfl ?_
                          refine V.iload_n (i := 1) dL_ties_353 rfl rfl ?_
                          refine V.iload (i := 9) dL_ties_354 rfl ?_
                          refine V.iconst (v := 0) dL_ties_356 rfl ?_
                          obtain ⟨v64, hv64, hf⟩ := fbind hf
                          have hc := ct_X10_name (a1 := a1) (a2 := v23) (a3 := 0) (State_cells := v61.2.1) (History_oldest := v61.2.2.1) (History_size := v61.2.2.2.1) (History_snapshotTaken := History_snapshotTaken) (History_saved := v61.2.2.2.2.1) (History_snapshot := History_snapshot) (Buffer_size := v61.2.2.2.2.2.1) (Buffer_codes := r15.2.2.2.1) (Reader_pattern := Reader_pattern) (Reader_place := Reader_place) (Word_size := v61.2.2.2.2.2.2.1) (Word_letters := v61.2.2.2.2.2.2.2) hv64
                          rcases hv64b : v64 with v65 | E9
                          · rw [hv64b] at hc hf
                            dsimp only [fth] at hf
                            refine V.callVn (pl := [0, 1, 2, 3, 4, 5, 6, 7, 8, 9, 10]) (σ' := [.inl (5, [.ref 1, .ref 3, .ref 6, .ref 8, .ref 9]), .inl (3, [.ref 2]), .inr (910, .inl v61.2.1), .inl (1, [.ref 4, .ref 5, .int v61.2.2.1, .int v61.2.2.2.1, .int History_snapshotTaken]), .inr (5460, .inl v61.2.2.2.2.1), .inr (910, .inl History_snapshot), .inl (0, [.ref 7, .int v61.2.2.2.2.2.1]), .inr (60, .inl r15.2.2.2.1), .inl (2, [.ref (Reader_pattern + 1000), .int Reader_place]), .inl (4, [.ref 10, .int v61.2.2.2.2.2.2.1]), .inr (8, .inl v61.2.2.2.2.2.2.2), .inr (8, .inl r15.2.2.2.2)]) (st2 := [.int v65]) (cl2 := 2) (sl2 := 14) hc dL_ties_357 w284 ⟨w285, w286⟩ cal_X10_name rfl ⟨⟨Nat.le_of_ble_eq_true rfl, Nat.le_of_ble_eq_true rfl⟩, Nat.le_of_ble_eq_true rfl, Nat.le_of_ble_eq_true rfl⟩ (Nat.le_of_ble_eq_true rfl) ⟨_, _, _, _, rfl, rfl⟩ rfl ⟨rfl, ⟨by decide, by decide⟩, rfl, (fr_cons (Or.inl (Nat.le_of_ble_eq_true rfl)) (fr_cons (Or.inl (Nat.le_of_ble_eq_true rfl)) (fr_cons (Or.inl (Nat.le_of_ble_eq_true rfl)) (fr_cons (Or.inl (Nat.le_of_ble_eq_true rfl)) (fr_cons (Or.inl (Nat.le_of_ble_eq_true rfl)) (fr_cons (Or.inl (Nat.le_of_ble_eq_true rfl)) (fr_cons (Or.inl (Nat.le_of_ble_eq_true rfl)) (fr_cons (Or.inl (Nat.le_of_ble_eq_true rfl)) (fr_cons (Or.inl (Nat.le_of_ble_eq_true rfl)) (fr_cons (Or.inr (Nat.le_add_left 1000 _)) (fr_cons (Or.inl (Nat.le_of_ble_eq_true rfl)) (fr_nil)))))))))))), rfl⟩ fr_i rfl rfl rfl rfl ?_
                            refine V.iload_n (i := 3) dL_ties_360 rfl rfl ?_
                            refine V.icmp_ne (tgt := 397) dL_ties_361 (by decide) (fun h => ?_) (fun h => ?_)
                            · have hf := fif_f h hf
                              refine V.iconst (v := 0) dL_ties_397 rfl ?_
                              obtain rfl := Option.some.inj hf
                              exact V.zretD (v := 0) dL_ties_398 rfl (by decide +kernel) (Nat.le_of_ble_eq_true rfl) (Nat.le_of_ble_eq_true rfl) (Nat.le_of_ble_eq_true rfl) (τ := [.inr (8, .inl r15.2.2.2.2)]) rfl
                            · have hf := fif_t h hf
                              refine V.aload_n (i := 0) dL_ties_364 rfl rfl ?_
                              refine V.bipush (v := 9) dL_ties_365 rfl ?_
                              obtain ⟨v66, hv66, hf⟩ := fbind hf
                              have hc := ct_X10_count (a1 := 9) (State_cells := v61.2.1) (History_oldest := v61.2.2.1) (History_size := v61.2.2.2.1) (History_snapshotTaken := History_snapshotTaken) (History_saved := v61.2.2.2.2.1) (History_snapshot := History_snapshot) (Buffer_size := v61.2.2.2.2.2.1) (Buffer_codes := r15.2.2.2.1) (Reader_pattern := Reader_pattern) (Reader_place := Reader_place) (Word_size := v61.2.2.2.2.2.2.1) (Word_letters := v61.2.2.2.2.2.2.2) hv66
                              rcases hv66b : v66 with v67 | E9
                              · rw [hv66b] at hc hf
                                dsimp only [fth] at hf
                                refine V.callVn (pl := [0, 1, 2, 3, 4, 5, 6, 7, 8, 9, 10]) (σ' := [.inl (5, [.ref 1, .ref 3, .ref 6, .ref 8, .ref 9]), .inl (3, [.ref 2]), .inr (910, .inl v61.2.1), .inl (1, [.ref 4, .ref 5, .int v61.2.2.1, .int v61.2.2.2.1, .int History_snapshotTaken]), .inr (5460, .inl v61.2.2.2.2.1), .inr (910, .inl History_snapshot), .inl (0, [.ref 7, .int v61.2.2.2.2.2.1]), .inr (60, .inl r15.2.2.2.1), .inl (2, [.ref (Reader_pattern + 1000), .int Reader_place]), .inl (4, [.ref 10, .int v61.2.2.2.2.2.2.1]), .inr (8, .inl v61.2.2.2.2.2.2.2), .inr (8, .inl r15.2.2.2.2)]) (st2 := [.int v67]) (cl2 := 2) (sl2 := 14) hc dL_ties_367 w404 ⟨w405, w406⟩ cal_X10_count rfl ⟨⟨Nat.le_of_ble_eq_true rfl, Nat.le_of_ble_eq_true rfl⟩, Nat.le_of_ble_eq_true rfl, Nat.le_of_ble_eq_true rfl⟩ (Nat.le_of_ble_eq_true rfl) ⟨_, _, _, _, rfl, rfl⟩ rfl ⟨rfl, ⟨by decide, by decide⟩, rfl, (fr_cons (Or.inl (Nat.le_of_ble_eq_true rfl)) (fr_cons (Or.inl (Nat.le_of_ble_eq_true rfl)) (fr_cons (Or.inl (Nat.le_of_ble_eq_true rfl)) (fr_cons (Or.inl (Nat.le_of_ble_eq_true rfl)) (fr_cons (Or.inl (Nat.le_of_ble_eq_true rfl)) (fr_cons (Or.inl (Nat.le_of_ble_eq_true rfl)) (fr_cons (Or.inl (Nat.le_of_ble_eq_true rfl)) (fr_cons (Or.inl (Nat.le_of_ble_eq_true rfl)) (fr_cons (Or.inl (Nat.le_of_ble_eq_true rfl)) (fr_cons (Or.inr (Nat.le_add_left 1000 _)) (fr_cons (Or.inl (Nat.le_of_ble_eq_true rfl)) (fr_nil)))))))))))), rfl⟩ fr_i rfl rfl rfl rfl ?_
                                refine V.iload (i := 8) dL_ties_370 rfl ?_
                                refine V.iload_n (i := 3) dL_ties_372 rfl rfl ?_
                                refine V.iadd dL_ties_373 ?_
                                refine V.icmp_ne (tgt := 397) dL_ties_374 (by decide) (fun h => ?_) (fun h => ?_)
                                · have hf := fif_f h hf
                                  refine V.iconst (v := 0) dL_ties_397 rfl ?_
                                  obtain rfl := Option.some.inj hf
                                  exact V.zretD (v := 0) dL_ties_398 rfl (by decide +kernel) (Nat.le_of_ble_eq_true rfl) (Nat.le_of_ble_eq_true rfl) (Nat.le_of_ble_eq_true rfl) (τ := [.inr (8, .inl r15.2.2.2.2)]) rfl
                                · have hf := fif_t h hf
                                  refine V.aload_n (i := 0) dL_ties_377 rfl rfl ?_
                                  refine V.iload_n (i := 1) dL_ties_378 rfl rfl ?_
                                  refine V.iload (i := 9) dL_ties_379 rfl ?_
                                  obtain ⟨v68, hv68, hf⟩ := fbind hf
                                  refine V.callSn (pl := [0, 1, 2, 3, 4, 5, 6, 7, 8, 9, 10]) (σ' := [.inl (5, [.ref 1, .ref 3, .ref 6, .ref 8, .ref 9]), .inl (3, [.ref 2]), .inr (910, .inl v61.2.1), .inl (1, [.ref 4, .ref 5, .int v61.2.2.1, .int v61.2.2.2.1, .int History_snapshotTaken]), .inr (5460, .inl v61.2.2.2.2.1), .inr (910, .inl History_snapshot), .inl (0, [.ref 7, .int v61.2.2.2.2.2.1]), .inr (60, .inl r15.2.2.2.1), .inl (2, [.ref (Reader_pattern + 1000), .int Reader_place]), .inl (4, [.ref 10, .int v61.2.2.2.2.2.2.1]), .inr (8, .inl v61.2.2.2.2.2.2.2), .inr (8, .inl r15.2.2.2.2)]) (st2 := [.int v68]) (cl2 := 2) (sl2 := 14) (ct_L_ends (a1 := a1) (a2 := v23) (State_cells := v61.2.1) (History_oldest := v61.2.2.1) (History_size := v61.2.2.2.1) (History_snapshotTaken := History_snapshotTaken) (History_saved := v61.2.2.2.2.1) (History_snapshot := History_snapshot) (Buffer_size := v61.2.2.2.2.2.1) (Buffer_codes := r15.2.2.2.1) (Reader_pattern := Reader_pattern) (Reader_place := Reader_place) (Word_size := v61.2.2.2.2.2.2.1) (Word_letters := v61.2.2.2.2.2.2.2) hv68) dL_ties_381 w573 w574 cal_L_ends ⟨⟨Nat.le_of_ble_eq_true rfl, Nat.le_of_ble_eq_true rfl⟩, Nat.le_of_ble_eq_true rfl, Nat.le_of_ble_eq_true rfl⟩ (Nat.le_of_ble_eq_true rfl) rfl ⟨rfl, ⟨by decide, by decide⟩, rfl, (fr_cons (Or.inl (Nat.le_of_ble_eq_true rfl)) (fr_cons (Or.inl (Nat.le_of_ble_eq_true rfl)) (fr_cons (Or.inl (Nat.le_of_ble_eq_true rfl)) (fr_cons (Or.inl (Nat.le_of_ble_eq_true rfl)) (fr_cons (Or.inl (Nat.le_of_ble_eq_true rfl)) (fr_cons (Or.inl (Nat.le_of_ble_eq_true rfl)) (fr_cons (Or.inl (Nat.le_of_ble_eq_true rfl)) (fr_cons (Or.inl (Nat.le_of_ble_eq_true rfl)) (fr_cons (Or.inl (Nat.le_of_ble_eq_true rfl)) (fr_cons (Or.inr (Nat.le_add_left 1000 _)) (fr_cons (Or.inl (Nat.le_of_ble_eq_true rfl)) (fr_nil)))))))))))), rfl⟩ fr_i rfl rfl rfl rfl ?_
                                  obtain ⟨v69, ev69, hf⟩ := flet_e hf
                                  refine V.join (J := 398) (y := v69) (st' := []) (fun tlv69 => ?_) ?_
                                  · refine V.if_eq (tgt := 397) dL_ties_384 (by decide) (fun h70 => ?_) (fun h70 => ?_)
                                    · refine V.iconst (v := 0) dL_ties_397 rfl ?_
                                      exact V.cgi (by rw [← ev69, if_pos h70]) tlv69
                                    · refine V.iload (i := 5) dL_ties_387 rfl ?_
                                      refine V.iload_n (i := 3) dL_ties_389 rfl rfl ?_
                                      refine V.icmp_ne (tgt := 397) dL_ties_390 (by decide) (fun h71 => ?_) (fun h71 => ?_)
                                      · refine V.iconst (v := 0) dL_ties_397 rfl ?_
                                        exact V.cgi (by rw [← ev69, if_neg h70, if_neg h71]) tlv69
                                      · refine V.iconst (v := 1) dL_ties_393 rfl ?_
                                        refine V.goto (tgt := 398) dL_ties_394 (by decide) ?_
                                        exact V.cgi (by rw [← ev69, if_neg h70, if_pos h71]) tlv69
                                  · obtain ⟨hz, hf⟩ := fz_e hf
                                    obtain rfl := Option.some.inj hf
                                    exact V.zretD (v := v69) dL_ties_398 rfl hz (Nat.le_of_ble_eq_true rfl) (Nat.le_of_ble_eq_true rfl) (Nat.le_of_ble_eq_true rfl) (τ := [.inr (8, .inl r15.2.2.2.2)]) rfl
                              · rw [hv66b] at hc hf
                                dsimp only [fth] at hf
                                cases hf
                          · rw [hv64b] at hc hf
                            dsimp only [fth] at hf
                            cases hf
                    · have hf := fif_f h hf
                      refine V.iload (i := 10) dL_ties_251 rfl ?_
                      refine V.sipush (v := (-7003)) dL_ties_253 rfl ?_
                      refine V.icmp_ne (tgt := 288) dL_ties_256 (by decide) (fun h => ?_) (fun h => ?_)
                      · have hf := fif_f h hf
                        refine V.iconst (v := 0) dL_ties_288 rfl ?_
                        obtain rfl := Option.some.inj hf
                        exact V.zretD (v := 0) dL_ties_289 rfl (by decide +kernel) (Nat.le_of_ble_eq_true rfl) (Nat.le_of_ble_eq_true rfl) (Nat.le_of_ble_eq_true rfl) (τ := [.inr (8, .inl r15.2.2.2.2)]) rfl
                      · have hf := fif_t h hf
                        refine V.iload (i := 6) dL_ties_259 rfl ?_
                        refine V.iconst (v := 3) dL_ties_261 rfl ?_
                        refine V.icmp_gt (tgt := 288) dL_ties_262 (by decide) (fun h => ?_) (fun h => ?_)
                        · have hf := fif_t h hf
                          refine V.iconst (v := 0) dL_ties_288 rfl ?_
                          obtain rfl := Option.some.inj hf
                          exact V.zretD (v := 0) dL_ties_289 rfl (by decide +kernel) (Nat.le_of_ble_eq_true rfl) (Nat.le_of_ble_eq_true rfl) (Nat.le_of_ble_eq_true rfl) (τ := [.inr (8, .inl r15.2.2.2.2)]) rfl
                        · have hf := fif_f h hf
                          refine V.aload_n (i := 0) dL_ties_265 rfl rfl ?_
                          refine V.iload_n (i := 1) dL_ties_266 rfl rfl ?_
                          refine V.iconst (v := 1) dL_ties_267 rfl ?_
                          obtain ⟨v72, hv72, hf⟩ := fbind hf
                          have hc := ct_X10_fisher (a1 := a1) (a2 := 1) (State_cells := v61.2.1) (History_oldest := v61.2.2.1) (History_size := v61.2.2.2.1) (History_snapshotTaken := History_snapshotTaken) (History_saved := v61.2.2.2.2.1) (History_snapshot := History_snapshot) (Buffer_size := v61.2.2.2.2.2.1) (Buffer_codes := r15.2.2.2.1) (Reader_pattern := Reader_pattern) (Reader_place := Reader_place) (Word_size := v61.2.2.2.2.2.2.1) (Word_letters := v61.2.2.2.2.2.2.2) hv72
                          rcases hv72b : v72 with v73 | E9
                          · rw [hv72b] at hc hf
                            dsimp only [fth] at hf
                            refine V.callVn (pl := [0, 1, 2, 3, 4, 5, 6, 7, 8, 9, 10]) (σ' := [.inl (5, [.ref 1, .ref 3, .ref 6, .ref 8, .ref 9]), .inl (3, [.ref 2]), .inr (910, .inl v61.2.1), .inl (1, [.ref 4, .ref 5, .int v61.2.2.1, .int v61.2.2.2.1, .int History_snapshotTaken]), .inr (5460, .inl v61.2.2.2.2.1), .inr (910, .inl History_snapshot), .inl (0, [.ref 7, .int v61.2.2.2.2.2.1]), .inr (60, .inl r15.2.2.2.1), .inl (2, [.ref (Reader_pattern + 1000), .int Reader_place]), .inl (4, [.ref 10, .int v61.2.2.2.2.2.2.1]), .inr (8, .inl v61.2.2.2.2.2.2.2), .inr (8, .inl r15.2.2.2.2)]) (st2 := [.int v73]) (cl2 := 2) (sl2 := 14) hc dL_ties_268 w174 ⟨w175, w176⟩ cal_X10_fisher rfl ⟨⟨Nat.le_of_ble_eq_true rfl, Nat.le_of_ble_eq_true rfl⟩, Nat.le_of_ble_eq_true rfl, Nat.le_of_ble_eq_true rfl⟩ (Nat.le_of_ble_eq_true rfl) ⟨_, _, _, _, rfl, rfl⟩ rfl ⟨rfl, ⟨by decide, by decide⟩, rfl, (fr_cons (Or.inl (Nat.le_of_ble_eq_true rfl)) (fr_cons (Or.inl (Nat.le_of_ble_eq_true rfl)) (fr_cons (Or.inl (Nat.le_of_ble_eq_true rfl)) (fr_cons (Or.inl (Nat.le_of_ble_eq_true rfl)) (fr_cons (Or.inl (Nat.le_of_ble_eq_true rfl)) (fr_cons (Or.inl (Nat.le_of_ble_eq_true rfl)) (fr_cons (Or.inl (Nat.le_of_ble_eq_true rfl)) (fr_cons (Or.inl (Nat.le_of_ble_eq_true rfl)) (fr_cons (Or.inl (Nat.le_of_ble_eq_true rfl)) (fr_cons (Or.inr (Nat.le_add_left 1000 _)) (fr_cons (Or.inl (Nat.le_of_ble_eq_true rfl)) (fr_nil)))))))))))), rfl⟩ fr_i rfl rfl rfl rfl ?_
                            refine V.iload (i := 9) dL_ties_271 rfl ?_
                            refine V.icmp_ne (tgt := 288) dL_ties_273 (by decide) (fun h => ?_) (fun h => ?_)
                            · have hf := fif_f h hf
                              refine V.iconst (v := 0) dL_ties_288 rfl ?_
                              obtain rfl := Option.some.inj hf
                              exact V.zretD (v := 0) dL_ties_289 rfl (by decide +kernel) (Nat.le_of_ble_eq_true rfl) (Nat.le_of_ble_eq_true rfl) (Nat.le_of_ble_eq_true rfl) (τ := [.inr (8, .inl r15.2.2.2.2)]) rfl
                            · have hf := fif_t h hf
                              refine V.aload_n (i := 0) dL_ties_276 rfl rfl ?_
                              obtain ⟨v74, hv74, hf⟩ := fbind hf
                              refine V.callVn (pl := [0, 1, 2, 3, 4, 5, 6, 7, 8, 9, 10]) (σ' := [.inl (5, [.ref 1, .ref 3, .ref 6, .ref 8, .ref 9]), .inl (3, [.ref 2]), .inr (910, .inl v61.2.1), .inl (1, [.ref 4, .ref 5, .int v61.2.2.1, .int v61.2.2.2.1, .int History_snapshotTaken]), .inr (5460, .inl v61.2.2.2.2.1), .inr (910, .inl History_snapshot), .inl (0, [.ref 7, .int v74.2]), .inr (60, .inl r15.2.2.2.1), .inl (2, [.ref (Reader_pattern + 1000), .int Reader_place]), .inl (4, [.ref 10, .int v61.2.2.2.2.2.2.1]), .inr (8, .inl v61.2.2.2.2.2.2.2), .inr (8, .inl r15.2.2.2.2)]) (st2 := [.int v74.1]) (cl2 := 2) (sl2 := 14) (ct_X10_clearBuffer (State_cells := v61.2.1) (History_oldest := v61.2.2.1) (History_size := v61.2.2.2.1) (History_snapshotTaken := History_snapshotTaken) (History_saved := v61.2.2.2.2.1) (History_snapshot := History_snapshot) (Buffer_size := v61.2.2.2.2.2.1) (Buffer_codes := r15.2.2.2.1) (Reader_pattern := Reader_pattern) (Reader_place := Reader_place) (Word_size := v61.2.2.2.2.2.2.1) (Word_letters := v61.2.2.2.2.2.2.2) hv74) dL_ties_277 w467 ⟨w468, w469⟩ cal_X10_clearBuffer rfl ⟨⟨Nat.le_of_ble_eq_true rfl, Nat.le_of_ble_eq_true rfl⟩, Nat.le_of_ble_eq_true rfl, Nat.le_of_ble_eq_true rfl⟩ (Nat.le_of_ble_eq_true rfl) ⟨_, _, _, _, rfl, rfl⟩ rfl ⟨rfl, ⟨by decide, by decide⟩, rfl, (fr_cons (Or.inl (Nat.le_of_ble_eq_true rfl)) (fr_cons (Or.inl (Nat.le_of_ble_eq_true rfl)) (fr_cons (Or.inl (Nat.le_of_ble_eq_true rfl)) (fr_cons (Or.inl (Nat.le_of_ble_eq_true rfl)) (fr_cons (Or.inl (Nat.le_of_ble_eq_true rfl)) (fr_cons (Or.inl (Nat.le_of_ble_eq_true rfl)) (fr_cons (Or.inl (Nat.le_of_ble_eq_true rfl)) (fr_cons (Or.inl (Nat.le_of_ble_eq_true rfl)) (fr_cons (Or.inl (Nat.le_of_ble_eq_true rfl)) (fr_cons (Or.inr (Nat.le_add_left 1000 _)) (fr_cons (Or.inl (Nat.le_of_ble_eq_true rfl)) (fr_nil)))))))))))), rfl⟩ fr_i rfl rfl rfl rfl ?_
                              refine V.iload_n (i := 3) dL_ties_280 rfl rfl ?_
                              obtain ⟨v75, ev75, hf⟩ := flet_e hf
                              refine V.join (J := 289) (y := v75) (st' := []) (fun tlv75 => ?_) ?_
                              · refine V.icmp_ne (tgt := 288) dL_ties_281 (by decide) (fun h76 => ?_) (fun h76 => ?_)
                                · refine V.iconst (v := 0) dL_ties_288 rfl ?_
                                  exact V.cgi (by rw [← ev75, if_neg h76]) tlv75
                                · refine V.iconst (v := 1) dL_ties_284 rfl ?_
                                  refine V.goto (tgt := 289) dL_ties_285 (by decide) ?_
                                  exact V.cgi (by rw [← ev75, if_pos h76]) tlv75
                              · obtain ⟨hz, hf⟩ := fz_e hf
                                obtain rfl := Option.some.inj hf
                                exact V.zretD (v := v75) dL_ties_289 rfl hz (Nat.le_of_ble_eq_true rfl) (Nat.le_of_ble_eq_true rfl) (Nat.le_of_ble_eq_true rfl) (τ := [.inr (8, .inl r15.2.2.2.2)]) rfl
                          · rw [hv72b] at hc hf
                            dsimp only [fth] at hf
                            cases hf
                · have hf := fif_f h hf
                  refine V.iconst (v := 0) dL_ties_165 rfl ?_
                  obtain rfl := Option.some.inj hf
                  exact V.zretD (v := 0) dL_ties_166 rfl (by decide +kernel) (Nat.le_of_ble_eq_true rfl) (Nat.le_of_ble_eq_true rfl) (Nat.le_of_ble_eq_true rfl) (τ := [.inr (8, .inl r15.2.2.2.2)]) rfl
              · rw [hv57b] at hc hf
                dsimp only [fth] at hf
                cases hf
          · rw [hv22b] at hc hf
            dsimp only [fth] at hf
            cases hf
        · rw [hv20b] at hc hf
          dsimp only [fth] at hf
          cases hf
      · rw [hv18b] at hc hf
        dsimp only [fth] at hf
        cases hf
    · rw [hv16b] at hc hf
      dsimp only [fth] at hf
      cases hf
def k_L_storms : fK := (yL_storms, cL_storms, 9, (some .boolean), [], (9, 164), (0, 0), (1, 6))
theorem cal_L_storms : fCal k_L_storms 2 := ⟨⟨wc589, w5⟩, ⟨by decide +kernel, by decide +kernel⟩, by decide +kernel, by decide +kernel⟩
def s_L_storms_L37 (p1 : Int32) (State_cells : Nat → Int32) : Nat → Int32 → Int32 → Int32 → Option (Int32 × Int32 × Int32)
  | 0, _, _, _ => none
  | n + 1, x6, x7, x8 => (s_X10_fisher p1 1 State_cells).bind fun v9 => fth v9 (fun v10 => if (v10 ≤ x8 : Prop) then (some (x6, x7, x8)) else (if (x7 = 0 : Prop) then ((s_X10_name p1 x8 4 State_cells).bind fun v15 => fth v15 (fun v16 => flet ((if (v16 = 1 : Prop) then 1 else 0) : Int32) fun v17 => (s_X10_name p1 x8 4 State_cells).bind fun v19 => fth v19 (fun v20 => flet ((if (v20 = 1 : Prop) then 1 else 0) : Int32) fun v21 => s_L_storms_L37 p1 State_cells n (x6 + v21) v17 (x8 + 1)) (fun E9 => none)) (fun E9 => none)) else ((s_X10_name p1 x8 4 State_cells).bind fun v11 => fth v11 (fun v12 => flet ((if (v12 = 1 : Prop) then 1 else 0) : Int32) fun v13 => s_L_storms_L37 p1 State_cells n (x6 + v13) 1 (x8 + 1)) (fun E9 => none)))) (fun E9 => none)
set_option maxHeartbeats 4000000 in
set_option maxRecDepth 100000 in
theorem v_L_storms_L37 {out : fO} {σ' : List fE} {p1 : Int32} {p2 : Int32} {p3 : Int32} {p4 : Int32} {p5 : Int32} {State_cells : Nat → Int32} {History_oldest : Int32} {History_size : Int32} {History_snapshotTaken : Int32} {History_saved : Nat → Int32} {History_snapshot : Nat → Int32} {Buffer_size : Int32} {Buffer_codes : Nat → Int32} {Reader_pattern : Nat} {Reader_place : Int32} {Word_size : Int32} {Word_letters : Nat → Int32} : ∀ (n : Nat) {x6 : Int32} {x7 : Int32} {x8 : Int32} {res : Int32 × Int32 × Int32} (hf : s_L_storms_L37 p1 State_cells n x6 x7 x8 = some res) (hx : V (fXm 11 k_L_storms out σ') (krm k_L_storms) k_L_storms 11 100 [some (.ref 0), some (.int p1), some (.int p2), some (.int p3), some (.int p4), some (.int p5), some (.int res.1), some (.int res.2.1), some (.int res.2.2)] [] [.inl (5, [.ref 1, .ref 3, .ref 6, .ref 8, .ref 9]), .inl (3, [.ref 2]), .inr (910, .inl State_cells), .inl (1, [.ref 4, .ref 5, .int History_oldest, .int History_size, .int History_snapshotTaken]), .inr (5460, .inl History_saved), .inr (910, .inl History_snapshot), .inl (0, [.ref 7, .int Buffer_size]), .inr (60, .inl Buffer_codes), .inl (2, [.ref (Reader_pattern + 1000), .int Reader_place]), .inl (4, [.ref 10, .int Word_size]), .inr (8, .inl Word_letters)] 0 0), V (fXm 11 k_L_storms out σ') (krm k_L_storms) k_L_storms 11 37 [some (.ref 0), some (.int p1), some (.int p2), some (.int p3), some (.int p4), some (.int p5), some (.int x6), some (.int x7), some (.int x8)] [] [.inl (5, [.ref 1, .ref 3, .ref 6, .ref 8, .ref 9]), .inl (3, [.ref 2]), .inr (910, .inl State_cells), .inl (1, [.ref 4, .ref 5, .int History_oldest, .int History_size, .int History_snapshotTaken]), .inr (5460, .inl History_saved), .inr (910, .inl History_snapshot), .inl (0, [.ref 7, .int Buffer_size]), .inr (60, .inl Buffer_codes), .inl (2, [.ref (Reader_pattern + 1000), .int Reader_place]), .inl (4, [.ref 10, .int Word_size]), .inr (8, .inl Word_letters)] 0 0 := by
  intro n
  induction n with
  | zero =>
    intro x6 x7 x8 res hf hx
    rw [s_L_storms_L37] at hf
    cases hf
  | succ n ih =>
    intro x6 x7 x8 res hf hx
    rw [s_L_storms_L37] at hf
    refine V.iload (i := 8) dL_storms_37 rfl ?_
    refine V.aload_n (i := 0) dL_storms_39 rfl rfl ?_
    refine V.iload_n (i := 1) dL_storms_40 rfl rfl ?_
    refine V.iconst (v := 1) dL_storms_41 rfl ?_
    obtain ⟨v9, hv9, hf⟩ := fbind hf
    have hc := ct_X10_fisher (a1 := p1) (a2 := 1) (State_cells := State_cells) (History_oldest := History_oldest) (History_size := History_size) (History_snapshotTaken := History_snapshotTaken) (History_saved := History_saved) (History_snapshot := History_snapshot) (Buffer_size := Buffer_size) (Buffer_codes := Buffer_codes) (Reader_pattern := Reader_pattern) (Reader_place := Reader_place) (Word_size := Word_size) (Word_letters := Word_letters) hv9
    rcases hv9b : v9 with v10 | E9
    · rw [hv9b] at hc hf
      dsimp only [fth] at hf
      refine V.callVn (pl := [0, 1, 2, 3, 4, 5, 6, 7, 8, 9, 10]) (σ' := [.inl (5, [.ref 1, .ref 3, .ref 6, .ref 8, .ref 9]), .inl (3, [.ref 2]), .inr (910, .inl State_cells), .inl (1, [.ref 4, .ref 5, .int History_oldest, .int History_size, .int History_snapshotTaken]), .inr (5460, .inl History_saved), .inr (910, .inl History_snapshot), .inl (0, [.ref 7, .int Buffer_size]), .inr (60, .inl Buffer_codes), .inl (2, [.ref (Reader_pattern + 1000), .int Reader_place]), .inl (4, [.ref 10, .int Word_size]), .inr (8, .inl Word_letters)]) (st2 := [.int v10, .int x8]) (cl2 := 0) (sl2 := 0) hc dL_storms_42 w174 ⟨w175, w176⟩ cal_X10_fisher rfl ⟨⟨Nat.le_of_ble_eq_true rfl, Nat.le_of_ble_eq_true rfl⟩, Nat.le_of_ble_eq_true rfl, Nat.le_of_ble_eq_true rfl⟩ (Nat.le_of_ble_eq_true rfl) ⟨_, _, _, _, rfl, rfl⟩ rfl ⟨rfl, ⟨by decide, by decide⟩, rfl, (fr_cons (Or.inl (Nat.le_of_ble_eq_true rfl)) (fr_cons (Or.inl (Nat.le_of_ble_eq_true rfl)) (fr_cons (Or.inl (Nat.le_of_ble_eq_true rfl)) (fr_cons (Or.inl (Nat.le_of_ble_eq_true rfl)) (fr_cons (Or.inl (Nat.le_of_ble_eq_true rfl)) (fr_cons (Or.inl (Nat.le_of_ble_eq_true rfl)) (fr_cons (Or.inl (Nat.le_of_ble_eq_true rfl)) (fr_cons (Or.inl (Nat.le_of_ble_eq_true rfl)) (fr_cons (Or.inl (Nat.le_of_ble_eq_true rfl)) (fr_cons (Or.inr (Nat.le_add_left 1000 _)) (fr_cons (Or.inl (Nat.le_of_ble_eq_true rfl)) (fr_nil)))))))))))), rfl⟩ fr_i rfl rfl rfl rfl ?_
      refine V.icmp_ge (tgt := 100) dL_storms_45 (by decide) (fun h => ?_) (fun h => ?_)
      · have hf := fif_t h hf
        obtain rfl := Option.some.inj hf
        exact hx
      · have hf := fif_f h hf
        refine V.iload (i := 7) dL_storms_48 rfl ?_
        refine V.if_ne (tgt := 65) dL_storms_50 (by decide) (fun h => ?_) (fun h => ?_)
        · have hf := fif_f h hf
          refine V.iconst (v := 1) dL_storms_65 rfl ?_
          refine V.goto (tgt := 70) dL_storms_66 (by decide) ?_
          refine V.istore (i := 7) (L' := [some (.ref 0), some (.int p1), some (.int p2), some (.int p3), some (.int p4), some (.int p5), some (.int x6), some (.int 1), some (.int x8)]) dL_storms_70 (Nat.le_of_ble_eq_true rfl) rfl rfl ?_
          refine V.iload (i := 6) dL_storms_72 rfl ?_
          refine V.aload_n (i := 0) dL_storms_74 rfl rfl ?_
          refine V.iload_n (i := 1) dL_storms_75 rfl rfl ?_
          refine V.iload (i := 8) dL_storms_76 rfl ?_
          refine V.iconst (v := 4) dL_storms_78 rfl ?_
          obtain ⟨v11, hv11, hf⟩ := fbind hf
          have hc := ct_X10_name (a1 := p1) (a2 := x8) (a3 := 4) (State_cells := State_cells) (History_oldest := History_oldest) (History_size := History_size) (History_snapshotTaken := History_snapshotTaken) (History_saved := History_saved) (History_snapshot := History_snapshot) (Buffer_size := Buffer_size) (Buffer_codes := Buffer_codes) (Reader_pattern := Reader_pattern) (Reader_place := Reader_place) (Word_size := Word_size) (Word_letters := Word_letters) hv11
          rcases hv11b : v11 with v12 | E9
          · rw [hv11b] at hc hf
            dsimp only [fth] at hf
            refine V.callVn (pl := [0, 1, 2, 3, 4, 5, 6, 7, 8, 9, 10]) (σ' := [.inl (5, [.ref 1, .ref 3, .ref 6, .ref 8, .ref 9]), .inl (3, [.ref 2]), .inr (910, .inl State_cells), .inl (1, [.ref 4, .ref 5, .int History_oldest, .int History_size, .int History_snapshotTaken]), .inr (5460, .inl History_saved), .inr (910, .inl History_snapshot), .inl (0, [.ref 7, .int Buffer_size]), .inr (60, .inl Buffer_codes), .inl (2, [.ref (Reader_pattern + 1000), .int Reader_place]), .inl (4, [.ref 10, .int Word_size]), .inr (8, .inl Word_letters)]) (st2 := [.int v12, .int x6]) (cl2 := 0) (sl2 := 0) hc dL_storms_79 w284 ⟨w285, w286⟩ cal_X10_name rfl ⟨⟨Nat.le_of_ble_eq_true rfl, Nat.le_of_ble_eq_true rfl⟩, Nat.le_of_ble_eq_true rfl, Nat.le_of_ble_eq_true rfl⟩ (Nat.le_of_ble_eq_true rfl) ⟨_, _, _, _, rfl, rfl⟩ rfl ⟨rfl, ⟨by decide, by decide⟩, rfl, (fr_cons (Or.inl (Nat.le_of_ble_eq_true rfl)) (fr_cons (Or.inl (Nat.le_of_ble_eq_true rfl)) (fr_cons (Or.inl (Nat.le_of_ble_eq_true rfl)) (fr_cons (Or.inl (Nat.le_of_ble_eq_true rfl)) (fr_cons (Or.inl (Nat.le_of_ble_eq_true rfl)) (fr_cons (Or.inl (Nat.le_of_ble_eq_true rfl)) (fr_cons (Or.inl (Nat.le_of_ble_eq_true rfl)) (fr_cons (Or.inl (Nat.le_of_ble_eq_true rfl)) (fr_cons (Or.inl (Nat.le_of_ble_eq_true rfl)) (fr_cons (Or.inr (Nat.le_add_left 1000 _)) (fr_cons (Or.inl (Nat.le_of_ble_eq_true rfl)) (fr_nil)))))))))))), rfl⟩ fr_i rfl rfl rfl rfl ?_
            refine V.iconst (v := 1) dL_storms_82 rfl ?_
            obtain ⟨v13, ev13, hf⟩ := flet_e hf
            refine V.join (J := 91) (y := v13) (st' := [.int x6]) (fun tlv13 => ?_) ?_
            · refine V.icmp_ne (tgt := 90) dL_storms_83 (by decide) (fun h14 => ?_) (fun h14 => ?_)
              · refine V.iconst (v := 0) dL_storms_90 rfl ?_
                exact V.cgi (by rw [← ev13, if_neg h14]) tlv13
              · refine V.iconst (v := 1) dL_storms_86 rfl ?_
                refine V.goto (tgt := 91) dL_storms_87 (by decide) ?_
                exact V.cgi (by rw [← ev13, if_pos h14]) tlv13
            · refine V.iadd dL_storms_91 ?_
              refine V.istore (i := 6) (L' := [some (.ref 0), some (.int p1), some (.int p2), some (.int p3), some (.int p4), some (.int p5), some (.int (x6 + v13)), some (.int 1), some (.int x8)]) dL_storms_92 (Nat.le_of_ble_eq_true rfl) rfl rfl ?_
              refine V.iinc (i := 8) (v := (x8 + 1)) (L' := [some (.ref 0), some (.int p1), some (.int p2), some (.int p3), some (.int p4), some (.int p5), some (.int (x6 + v13)), some (.int 1), some (.int (x8 + 1))]) dL_storms_94 rfl rfl (Nat.le_of_ble_eq_true rfl) rfl rfl ?_
              refine V.goto (tgt := 37) dL_storms_97 (by decide) ?_
              exact ih hf hx
          · rw [hv11b] at hc hf
            dsimp only [fth] at hf
            cases hf
        · have hf := fif_t h hf
          refine V.aload_n (i := 0) dL_storms_53 rfl rfl ?_
          refine V.iload_n (i := 1) dL_storms_54 rfl rfl ?_
          refine V.iload (i := 8) dL_storms_55 rfl ?_
          refine V.iconst (v := 4) dL_storms_57 rfl ?_
          obtain ⟨v15, hv15, hf⟩ := fbind hf
          have hc := ct_X10_name (a1 := p1) (a2 := x8) (a3 := 4) (State_cells := State_cells) (History_oldest := History_oldest) (History_size := History_size) (History_snapshotTaken := History_snapshotTaken) (History_saved := History_saved) (History_snapshot := History_snapshot) (Buffer_size := Buffer_size) (Buffer_codes := Buffer_codes) (Reader_pattern := Reader_pattern) (Reader_place := Reader_place) (Word_size := Word_size) (Word_letters := Word_letters) hv15
          rcases hv15b : v15 with v16 | E9
          · rw [hv15b] at hc hf
            dsimp only [fth] at hf
            refine V.callVn (pl := [0, 1, 2, 3, 4, 5, 6, 7, 8, 9, 10]) (σ' := [.inl (5, [.ref 1, .ref 3, .ref 6, .ref 8, .ref 9]), .inl (3, [.ref 2]), .inr (910, .inl State_cells), .inl (1, [.ref 4, .ref 5, .int History_oldest, .int History_size, .int History_snapshotTaken]), .inr (5460, .inl History_saved), .inr (910, .inl History_snapshot), .inl (0, [.ref 7, .int Buffer_size]), .inr (60, .inl Buffer_codes), .inl (2, [.ref (Reader_pattern + 1000), .int Reader_place]), .inl (4, [.ref 10, .int Word_size]), .inr (8, .inl Word_letters)]) (st2 := [.int v16]) (cl2 := 0) (sl2 := 0) hc dL_storms_58 w284 ⟨w285, w286⟩ cal_X10_name rfl ⟨⟨Nat.le_of_ble_eq_true rfl, Nat.le_of_ble_eq_true rfl⟩, Nat.le_of_ble_eq_true rfl, Nat.le_of_ble_eq_true rfl⟩ (Nat.le_of_ble_eq_true rfl) ⟨_, _, _, _, rfl, rfl⟩ rfl ⟨rfl, ⟨by decide, by decide⟩, rfl, (fr_cons (Or.inl (Nat.le_of_ble_eq_true rfl)) (fr_cons (Or.inl (Nat.le_of_ble_eq_true rfl)) (fr_cons (Or.inl (Nat.le_of_ble_eq_true rfl)) (fr_cons (Or.inl (Nat.le_of_ble_eq_true rfl)) (fr_cons (Or.inl (Nat.le_of_ble_eq_true rfl)) (fr_cons (Or.inl (Nat.le_of_ble_eq_true rfl)) (fr_cons (Or.inl (Nat.le_of_ble_eq_true rfl)) (fr_cons (Or.inl (Nat.le_of_ble_eq_true rfl)) (fr_cons (Or.inl (Nat.le_of_ble_eq_true rfl)) (fr_cons (Or.inr (Nat.le_add_left 1000 _)) (fr_cons (Or.inl (Nat.le_of_ble_eq_true rfl)) (fr_nil)))))))))))), rfl⟩ fr_i rfl rfl rfl rfl ?_
            refine V.iconst (v := 1) dL_storms_61 rfl ?_
            obtain ⟨v17, ev17, hf⟩ := flet_e hf
            refine V.join (J := 70) (y := v17) (st' := []) (fun tlv17 => ?_) ?_
            · refine V.icmp_ne (tgt := 69) dL_storms_62 (by decide) (fun h18 => ?_) (fun h18 => ?_)
              · refine V.iconst (v := 0) dL_storms_69 rfl ?_
                exact V.cgi (by rw [← ev17, if_neg h18]) tlv17
              · refine V.iconst (v := 1) dL_storms_65 rfl ?_
                refine V.goto (tgt := 70) dL_storms_66 (by decide) ?_
                exact V.cgi (by rw [← ev17, if_pos h18]) tlv17
            · refine V.istore (i := 7) (L' := [some (.ref 0), some (.int p1), some (.int p2), some (.int p3), some (.int p4), some (.int p5), some (.int x6), some (.int v17), some (.int x8)]) dL_storms_70 (Nat.le_of_ble_eq_true rfl) rfl rfl ?_
              refine V.iload (i := 6) dL_storms_72 rfl ?_
              refine V.aload_n (i := 0) dL_storms_74 rfl rfl ?_
              refine V.iload_n (i := 1) dL_storms_75 rfl rfl ?_
              refine V.iload (i := 8) dL_storms_76 rfl ?_
              refine V.iconst (v := 4) dL_storms_78 rfl ?_
              obtain ⟨v19, hv19, hf⟩ := fbind hf
              have hc := ct_X10_name (a1 := p1) (a2 := x8) (a3 := 4) (State_cells := State_cells) (History_oldest := History_oldest) (History_size := History_size) (History_snapshotTaken := History_snapshotTaken) (History_saved := History_saved) (History_snapshot := History_snapshot) (Buffer_size := Buffer_size) (Buffer_codes := Buffer_codes) (Reader_pattern := Reader_pattern) (Reader_place := Reader_place) (Word_size := Word_size) (Word_letters := Word_letters) hv19
              rcases hv19b : v19 with v20 | E9
              · rw [hv19b] at hc hf
                dsimp only [fth] at hf
                refine V.callVn (pl := [0, 1, 2, 3, 4, 5, 6, 7, 8, 9, 10]) (σ' := [.inl (5, [.ref 1, .ref 3, .ref 6, .ref 8, .ref 9]), .inl (3, [.ref 2]), .inr (910, .inl State_cells), .inl (1, [.ref 4, .ref 5, .int History_oldest, .int History_size, .int History_snapshotTaken]), .inr (5460, .inl History_saved), .inr (910, .inl History_snapshot), .inl (0, [.ref 7, .int Buffer_size]), .inr (60, .inl Buffer_codes), .inl (2, [.ref (Reader_pattern + 1000), .int Reader_place]), .inl (4, [.ref 10, .int Word_size]), .inr (8, .inl Word_letters)]) (st2 := [.int v20, .int x6]) (cl2 := 0) (sl2 := 0) hc dL_storms_79 w284 ⟨w285, w286⟩ cal_X10_name rfl ⟨⟨Nat.le_of_ble_eq_true rfl, Nat.le_of_ble_eq_true rfl⟩, Nat.le_of_ble_eq_true rfl, Nat.le_of_ble_eq_true rfl⟩ (Nat.le_of_ble_eq_true rfl) ⟨_, _, _, _, rfl, rfl⟩ rfl ⟨rfl, ⟨by decide, by decide⟩, rfl, (fr_cons (Or.inl (Nat.le_of_ble_eq_true rfl)) (fr_cons (Or.inl (Nat.le_of_ble_eq_true rfl)) (fr_cons (Or.inl (Nat.le_of_ble_eq_true rfl)) (fr_cons (Or.inl (Nat.le_of_ble_eq_true rfl)) (fr_cons (Or.inl (Nat.le_of_ble_eq_true rfl)) (fr_cons (Or.inl (Nat.le_of_ble_eq_true rfl)) (fr_cons (Or.inl (Nat.le_of_ble_eq_true rfl)) (fr_cons (Or.inl (Nat.le_of_ble_eq_true rfl)) (fr_cons (Or.inl (Nat.le_of_ble_eq_true rfl)) (fr_cons (Or.inr (Nat.le_add_left 1000 _)) (fr_cons (Or.inl (Nat.le_of_ble_eq_true rfl)) (fr_nil)))))))))))), rfl⟩ fr_i rfl rfl rfl rfl ?_
                refine V.iconst (v := 1) dL_storms_82 rfl ?_
                obtain ⟨v21, ev21, hf⟩ := flet_e hf
                refine V.join (J := 91) (y := v21) (st' := [.int x6]) (fun tlv21 => ?_) ?_
                · refine V.icmp_ne (tgt := 90) dL_storms_83 (by decide) (fun h22 => ?_) (fun h22 => ?_)
                  · refine V.iconst (v := 0) dL_storms_90 rfl ?_
                    exact V.cgi (by rw [← ev21, if_neg h22]) tlv21
                  · refine V.iconst (v := 1) dL_storms_86 rfl ?_
                    refine V.goto (tgt := 91) dL_storms_87 (by decide) ?_
                    exact V.cgi (by rw [← ev21, if_pos h22]) tlv21
                · refine V.iadd dL_storms_91 ?_
                  refine V.istore (i := 6) (L' := [some (.ref 0), some (.int p1), some (.int p2), some (.int p3), some (.int p4), some (.int p5), some (.int (x6 + v21)), some (.int v17), some (.int x8)]) dL_storms_92 (Nat.le_of_ble_eq_true rfl) rfl rfl ?_
                  refine V.iinc (i := 8) (v := (x8 + 1)) (L' := [some (.ref 0), some (.int p1), some (.int p2), some (.int p3), some (.int p4), some (.int p5), some (.int (x6 + v21)), some (.int v17), some (.int (x8 + 1))]) dL_storms_94 rfl rfl (Nat.le_of_ble_eq_true rfl) rfl rfl ?_
                  refine V.goto (tgt := 37) dL_storms_97 (by decide) ?_
                  exact ih hf hx
              · rw [hv19b] at hc hf
                dsimp only [fth] at hf
                cases hf
          · rw [hv15b] at hc hf
            dsimp only [fth] at hf
            cases hf
    · rw [hv9b] at hc hf
      dsimp only [fth] at hf
      cases hf
def s_L_storms (a1 : Int32) (State_cells : Nat → Int32) (History_oldest : Int32) (History_size : Int32) (History_saved : Nat → Int32) : Option (Int32 × (Nat → Int32) × (Int32) × (Int32) × (Nat → Int32)) := (s_X10_ifStorm a1 0 State_cells).bind fun v1 => fth v1 (fun v2 => (s_X10_count 0 State_cells History_size).bind fun v3 => fth v3 (fun v4 => (s_X10_count 1 State_cells History_size).bind fun v5 => fth v5 (fun v6 => (s_X10_count 7 State_cells History_size).bind fun v7 => fth v7 (fun v8 => (s_L_storms_L37 a1 State_cells gF 0 0 0).bind fun r23 => (s_X10_storm a1 State_cells History_oldest History_size History_saved).bind fun v24 => fth v24.1 (fun v25 => if (v25 = v2 : Prop) then (if (r23.1 = v2 : Prop) then (flet ((if (v2 ≤ 0 : Prop) then 0 else 1) : Int32) fun v26 => if (r23.2.1 = v26 : Prop) then ((s_X10_count 1 v24.2.1 v24.2.2.2.1).bind fun v28 => fth v28 (fun v29 => if (v29 = (v6 + 1) : Prop) then ((s_X10_count 7 v24.2.1 v24.2.2.2.1).bind fun v30 => fth v30 (fun v31 => if (v31 = (v8 + v2) : Prop) then ((s_X10_count 0 v24.2.1 v24.2.2.2.1).bind fun v32 => fth v32 (fun v33 => if (v33 = (v4 - v2) : Prop) then (if (v2 = 0 : Prop) then (some (1, v24.2.1, v24.2.2.1, v24.2.2.2.1, v24.2.2.2.2)) else ((s_X10_count 6 v24.2.1 v24.2.2.2.1).bind fun v34 => fth v34 (fun v35 => (s_X10_drowned (v35 - 1) 1 v24.2.1).bind fun v36 => fth v36 (fun v37 => if (v37 = a1 : Prop) then ((s_X10_count 6 v24.2.1 v24.2.2.2.1).bind fun v38 => fth v38 (fun v39 => (s_X10_drowned (v39 - 1) 2 v24.2.1).bind fun v40 => fth v40 (fun v41 => flet ((if (v41 = (v6 + 1) : Prop) then 1 else 0) : Int32) fun v42 => fz v42 (some (v42, v24.2.1, v24.2.2.1, v24.2.2.2.1, v24.2.2.2.2))) (fun E9 => none)) (fun E9 => none)) else (some (0, v24.2.1, v24.2.2.1, v24.2.2.2.1, v24.2.2.2.2))) (fun E9 => none)) (fun E9 => none))) else (some (0, v24.2.1, v24.2.2.1, v24.2.2.2.1, v24.2.2.2.2))) (fun E9 => none)) else (some (0, v24.2.1, v24.2.2.1, v24.2.2.2.1, v24.2.2.2.2))) (fun E9 => none)) else (some (0, v24.2.1, v24.2.2.1, v24.2.2.2.1, v24.2.2.2.2))) (fun E9 => none)) else (some (0, v24.2.1, v24.2.2.1, v24.2.2.2.1, v24.2.2.2.2))) else (some (0, v24.2.1, v24.2.2.1, v24.2.2.2.1, v24.2.2.2.2))) else (some (0, v24.2.1, v24.2.2.1, v24.2.2.2.1, v24.2.2.2.2))) (fun E9 => none)) (fun E9 => none)) (fun E9 => none)) (fun E9 => none)) (fun E9 => none)
set_option maxHeartbeats 4000000 in
set_option maxRecDepth 100000 in
theorem ct_L_storms {a1 : Int32} {State_cells : Nat → Int32} {History_oldest : Int32} {History_size : Int32} {History_snapshotTaken : Int32} {History_saved : Nat → Int32} {History_snapshot : Nat → Int32} {Buffer_size : Int32} {Buffer_codes : Nat → Int32} {Reader_pattern : Nat} {Reader_place : Int32} {Word_size : Int32} {Word_letters : Nat → Int32} {res : Int32 × (Nat → Int32) × (Int32) × (Int32) × (Nat → Int32)} (hf : s_L_storms a1 State_cells History_oldest History_size History_saved = some res) : Ct k_L_storms [.ref 0, .int a1] [.inl (5, [.ref 1, .ref 3, .ref 6, .ref 8, .ref 9]), .inl (3, [.ref 2]), .inr (910, .inl State_cells), .inl (1, [.ref 4, .ref 5, .int History_oldest, .int History_size, .int History_snapshotTaken]), .inr (5460, .inl History_saved), .inr (910, .inl History_snapshot), .inl (0, [.ref 7, .int Buffer_size]), .inr (60, .inl Buffer_codes), .inl (2, [.ref (Reader_pattern + 1000), .int Reader_place]), .inl (4, [.ref 10, .int Word_size]), .inr (8, .inl Word_letters)] (.inl (some (.int res.1))) [.inl (5, [.ref 1, .ref 3, .ref 6, .ref 8, .ref 9]), .inl (3, [.ref 2]), .inr (910, .inl res.2.1), .inl (1, [.ref 4, .ref 5, .int res.2.2.1, .int res.2.2.2.1, .int History_snapshotTaken]), .inr (5460, .inl res.2.2.2.2), .inr (910, .inl History_snapshot), .inl (0, [.ref 7, .int Buffer_size]), .inr (60, .inl Buffer_codes), .inl (2, [.ref (Reader_pattern + 1000), .int Reader_place]), .inl (4, [.ref 10, .int Word_size]), .inr (8, .inl Word_letters)] := by
  unfold s_L_storms at hf
  refine Ct.of (L := [some (.ref 0), some (.int a1), none, none, none, none, none, none, none]) cal_L_storms (fent_pad (j := 7) rfl) (Nat.le_of_ble_eq_true rfl) ?_
  refine V.aload_n (i := 0) dL_storms_0 rfl rfl ?_
  refine V.iload_n (i := 1) dL_storms_1 rfl rfl ?_
  refine V.iconst (v := 0) dL_storms_2 rfl ?_
  obtain ⟨v1, hv1, hf⟩ := fbind hf
  have hc := ct_X10_ifStorm (a1 := a1) (a2 := 0) (State_cells := State_cells) (History_oldest := History_oldest) (History_size := History_size) (History_snapshotTaken := History_snapshotTaken) (History_saved := History_saved) (History_snapshot := History_snapshot) (Buffer_size := Buffer_size) (Buffer_codes := Buffer_codes) (Reader_pattern := Reader_pattern) (Reader_place := Reader_place) (Word_size := Word_size) (Word_letters := Word_letters) hv1
  rcases hv1b : v1 with v2 | E9
  · rw [hv1b] at hc hf
    dsimp only [fth] at hf
    refine V.callVn (pl := [0, 1, 2, 3, 4, 5, 6, 7, 8, 9, 10]) (σ' := [.inl (5, [.ref 1, .ref 3, .ref 6, .ref 8, .ref 9]), .inl (3, [.ref 2]), .inr (910, .inl State_cells), .inl (1, [.ref 4, .ref 5, .int History_oldest, .int History_size, .int History_snapshotTaken]), .inr (5460, .inl History_saved), .inr (910, .inl History_snapshot), .inl (0, [.ref 7, .int Buffer_size]), .inr (60, .inl Buffer_codes), .inl (2, [.ref (Reader_pattern + 1000), .int Reader_place]), .inl (4, [.ref 10, .int Word_size]), .inr (8, .inl Word_letters)]) (st2 := [.int v2]) (cl2 := 0) (sl2 := 0) hc dL_storms_3 w392 ⟨w393, w394⟩ cal_X10_ifStorm rfl ⟨⟨Nat.le_of_ble_eq_true rfl, Nat.le_of_ble_eq_true rfl⟩, Nat.le_of_ble_eq_true rfl, Nat.le_of_ble_eq_true rfl⟩ (Nat.le_of_ble_eq_true rfl) ⟨_, _, _, _, rfl, rfl⟩ rfl ⟨rfl, ⟨by decide, by decide⟩, rfl, (fr_cons (Or.inl (Nat.le_of_ble_eq_true rfl)) (fr_cons (Or.inl (Nat.le_of_ble_eq_true rfl)) (fr_cons (Or.inl (Nat.le_of_ble_eq_true rfl)) (fr_cons (Or.inl (Nat.le_of_ble_eq_true rfl)) (fr_cons (Or.inl (Nat.le_of_ble_eq_true rfl)) (fr_cons (Or.inl (Nat.le_of_ble_eq_true rfl)) (fr_cons (Or.inl (Nat.le_of_ble_eq_true rfl)) (fr_cons (Or.inl (Nat.le_of_ble_eq_true rfl)) (fr_cons (Or.inl (Nat.le_of_ble_eq_true rfl)) (fr_cons (Or.inr (Nat.le_add_left 1000 _)) (fr_cons (Or.inl (Nat.le_of_ble_eq_true rfl)) (fr_nil)))))))))))), rfl⟩ fr_i rfl rfl rfl rfl ?_
    refine V.istore_n (i := 2) (L' := [some (.ref 0), some (.int a1), some (.int v2), none, none, none, none, none, none]) dL_storms_6 rfl (Nat.le_of_ble_eq_true rfl) rfl rfl ?_
    refine V.aload_n (i := 0) dL_storms_7 rfl rfl ?_
    refine V.iconst (v := 0) dL_storms_8 rfl ?_
    obtain ⟨v3, hv3, hf⟩ := fbind hf
    have hc := ct_X10_count (a1 := 0) (State_cells := State_cells) (History_oldest := History_oldest) (History_size := History_size) (History_snapshotTaken := History_snapshotTaken) (History_saved := History_saved) (History_snapshot := History_snapshot) (Buffer_size := Buffer_size) (Buffer_codes := Buffer_codes) (Reader_pattern := Reader_pattern) (Reader_place := Reader_place) (Word_size := Word_size) (Word_letters := Word_letters) hv3
    rcases hv3b : v3 with v4 | E9
    · rw [hv3b] at hc hf
      dsimp only [fth] at hf
      refine V.callVn (pl := [0, 1, 2, 3, 4, 5, 6, 7, 8, 9, 10]) (σ' := [.inl (5, [.ref 1, .ref 3, .ref 6, .ref 8, .ref 9]), .inl (3, [.ref 2]), .inr (910, .inl State_cells), .inl (1, [.ref 4, .ref 5, .int History_oldest, .int History_size, .int History_snapshotTaken]), .inr (5460, .inl History_saved), .inr (910, .inl History_snapshot), .inl (0, [.ref 7, .int Buffer_size]), .inr (60, .inl Buffer_codes), .inl (2, [.ref (Reader_pattern + 1000), .int Reader_place]), .inl (4, [.ref 10, .int Word_size]), .inr (8, .inl Word_letters)]) (st2 := [.int v4]) (cl2 := 0) (sl2 := 0) hc dL_storms_9 w404 ⟨w405, w406⟩ cal_X10_count rfl ⟨⟨Nat.le_of_ble_eq_true rfl, Nat.le_of_ble_eq_true rfl⟩, Nat.le_of_ble_eq_true rfl, Nat.le_of_ble_eq_true rfl⟩ (Nat.le_of_ble_eq_true rfl) ⟨_, _, _, _, rfl, rfl⟩ rfl ⟨rfl, ⟨by decide, by decide⟩, rfl, (fr_cons (Or.inl (Nat.le_of_ble_eq_true rfl)) (fr_cons (Or.inl (Nat.le_of_ble_eq_true rfl)) (fr_cons (Or.inl (Nat.le_of_ble_eq_true rfl)) (fr_cons (Or.inl (Nat.le_of_ble_eq_true rfl)) (fr_cons (Or.inl (Nat.le_of_ble_eq_true rfl)) (fr_cons (Or.inl (Nat.le_of_ble_eq_true rfl)) (fr_cons (Or.inl (Nat.le_of_ble_eq_true rfl)) (fr_cons (Or.inl (Nat.le_of_ble_eq_true rfl)) (fr_cons (Or.inl (Nat.le_of_ble_eq_true rfl)) (fr_cons (Or.inr (Nat.le_add_left 1000 _)) (fr_cons (Or.inl (Nat.le_of_ble_eq_true rfl)) (fr_nil)))))))))))), rfl⟩ fr_i rfl rfl rfl rfl ?_
      refine V.istore_n (i := 3) (L' := [some (.ref 0), some (.int a1), some (.int v2), some (.int v4), none, none, none, none, none]) dL_storms_12 rfl (Nat.le_of_ble_eq_true rfl) rfl rfl ?_
      refine V.aload_n (i := 0) dL_storms_13 rfl rfl ?_
      refine V.iconst (v := 1) dL_storms_14 rfl ?_
      obtain ⟨v5, hv5, hf⟩ := fbind hf
      have hc := ct_X10_count (a1 := 1) (State_cells := State_cells) (History_oldest := History_oldest) (History_size := History_size) (History_snapshotTaken := History_snapshotTaken) (History_saved := History_saved) (History_snapshot := History_snapshot) (Buffer_size := Buffer_size) (Buffer_codes := Buffer_codes) (Reader_pattern := Reader_pattern) (Reader_place := Reader_place) (Word_size := Word_size) (Word_letters := Word_letters) hv5
      rcases hv5b : v5 with v6 | E9
      · rw [hv5b] at hc hf
        dsimp only [fth] at hf
        refine V.callVn (pl := [0, 1, 2, 3, 4, 5, 6, 7, 8, 9, 10]) (σ' := [.inl (5, [.ref 1, .ref 3, .ref 6, .ref 8, .ref 9]), .inl (3, [.ref 2]), .inr (910, .inl State_cells), .inl (1, [.ref 4, .ref 5, .int History_oldest, .int History_size, .int History_snapshotTaken]), .inr (5460, .inl History_saved), .inr (910, .inl History_snapshot), .inl (0, [.ref 7, .int Buffer_size]), .inr (60, .inl Buffer_codes), .inl (2, [.ref (Reader_pattern + 1000), .int Reader_place]), .inl (4, [.ref 10, .int Word_size]), .inr (8, .inl Word_letters)]) (st2 := [.int v6]) (cl2 := 0) (sl2 := 0) hc dL_storms_15 w404 ⟨w405, w406⟩ cal_X10_count rfl ⟨⟨Nat.le_of_ble_eq_true rfl, Nat.le_of_ble_eq_true rfl⟩, Nat.le_of_ble_eq_true rfl, Nat.le_of_ble_eq_true rfl⟩ (Nat.le_of_ble_eq_true rfl) ⟨_, _, _, _, rfl, rfl⟩ rfl ⟨rfl, ⟨by decide, by decide⟩, rfl, (fr_cons (Or.inl (Nat.le_of_ble_eq_true rfl)) (fr_cons (Or.inl (Nat.le_of_ble_eq_true rfl)) (fr_cons (Or.inl (Nat.le_of_ble_eq_true rfl)) (fr_cons (Or.inl (Nat.le_of_ble_eq_true rfl)) (fr_cons (Or.inl (Nat.le_of_ble_eq_true rfl)) (fr_cons (Or.inl (Nat.le_of_ble_eq_true rfl)) (fr_cons (Or.inl (Nat.le_of_ble_eq_true rfl)) (fr_cons (Or.inl (Nat.le_of_ble_eq_true rfl)) (fr_cons (Or.inl (Nat.le_of_ble_eq_true rfl)) (fr_cons (Or.inr (Nat.le_add_left 1000 _)) (fr_cons (Or.inl (Nat.le_of_ble_eq_true rfl)) (fr_nil)))))))))))), rfl⟩ fr_i rfl rfl rfl rfl ?_
        refine V.istore (i := 4) (L' := [some (.ref 0), some (.int a1), some (.int v2), some (.int v4), some (.int v6), none, none, none, none]) dL_storms_18 (Nat.le_of_ble_eq_true rfl) rfl rfl ?_
        refine V.aload_n (i := 0) dL_storms_20 rfl rfl ?_
        refine V.bipush (v := 7) dL_storms_21 rfl ?_
        obtain ⟨v7, hv7, hf⟩ := fbind hf
        have hc := ct_X10_count (a1 := 7) (State_cells := State_cells) (History_oldest := History_oldest) (History_size := History_size) (History_snapshotTaken := History_snapshotTaken) (History_saved := History_saved) (History_snapshot := History_snapshot) (Buffer_size := Buffer_size) (Buffer_codes := Buffer_codes) (Reader_pattern := Reader_pattern) (Reader_place := Reader_place) (Word_size := Word_size) (Word_letters := Word_letters) hv7
        rcases hv7b : v7 with v8 | E9
        · rw [hv7b] at hc hf
          dsimp only [fth] at hf
          refine V.callVn (pl := [0, 1, 2, 3, 4, 5, 6, 7, 8, 9, 10]) (σ' := [.inl (5, [.ref 1, .ref 3, .ref 6, .ref 8, .ref 9]), .inl (3, [.ref 2]), .inr (910, .inl State_cells), .inl (1, [.ref 4, .ref 5, .int History_oldest, .int History_size, .int History_snapshotTaken]), .inr (5460, .inl History_saved), .inr (910, .inl History_snapshot), .inl (0, [.ref 7, .int Buffer_size]), .inr (60, .inl Buffer_codes), .inl (2, [.ref (Reader_pattern + 1000), .int Reader_place]), .inl (4, [.ref 10, .int Word_size]), .inr (8, .inl Word_letters)]) (st2 := [.int v8]) (cl2 := 0) (sl2 := 0) hc dL_storms_23 w404 ⟨w405, w406⟩ cal_X10_count rfl ⟨⟨Nat.le_of_ble_eq_true rfl, Nat.le_of_ble_eq_true rfl⟩, Nat.le_of_ble_eq_true rfl, Nat.le_of_ble_eq_true rfl⟩ (Nat.le_of_ble_eq_true rfl) ⟨_, _, _, _, rfl, rfl⟩ rfl ⟨rfl, ⟨by decide, by decide⟩, rfl, (fr_cons (Or.inl (Nat.le_of_ble_eq_true rfl)) (fr_cons (Or.inl (Nat.le_of_ble_eq_true rfl)) (fr_cons (Or.inl (Nat.le_of_ble_eq_true rfl)) (fr_cons (Or.inl (Nat.le_of_ble_eq_true rfl)) (fr_cons (Or.inl (Nat.le_of_ble_eq_true rfl)) (fr_cons (Or.inl (Nat.le_of_ble_eq_true rfl)) (fr_cons (Or.inl (Nat.le_of_ble_eq_true rfl)) (fr_cons (Or.inl (Nat.le_of_ble_eq_true rfl)) (fr_cons (Or.inl (Nat.le_of_ble_eq_true rfl)) (fr_cons (Or.inr (Nat.le_add_left 1000 _)) (fr_cons (Or.inl (Nat.le_of_ble_eq_true rfl)) (fr_nil)))))))))))), rfl⟩ fr_i rfl rfl rfl rfl ?_
          refine V.istore (i := 5) (L' := [some (.ref 0), some (.int a1), some (.int v2), some (.int v4), some (.int v6), some (.int v8), none, none, none]) dL_storms_26 (Nat.le_of_ble_eq_true rfl) rfl rfl ?_
          refine V.iconst (v := 0) dL_storms_28 rfl ?_
          refine V.istore (i := 6) (L' := [some (.ref 0), some (.int a1), some (.int v2), some (.int v4), some (.int v6), some (.int v8), some (.int 0), none, none]) dL_storms_29 (Nat.le_of_ble_eq_true rfl) rfl rfl ?_
          refine V.iconst (v := 0) dL_storms_31 rfl ?_
          refine V.istore (i := 7) (L' := [some (.ref 0), some (.int a1), some (.int v2), some (.int v4), some (.int v6), some (.int v8), some (.int 0), some (.int 0), none]) dL_storms_32 (Nat.le_of_ble_eq_true rfl) rfl rfl ?_
          refine V.iconst (v := 0) dL_storms_34 rfl ?_
          refine V.istore (i := 8) (L' := [some (.ref 0), some (.int a1), some (.int v2), some (.int v4), some (.int v6), some (.int v8), some (.int 0), some (.int 0), some (.int 0)]) dL_storms_35 (Nat.le_of_ble_eq_true rfl) rfl rfl ?_
          obtain ⟨r23, hr23, hf⟩ := fbind hf
          refine v_L_storms_L37 gF hr23 ?_
          refine V.aload_n (i := 0) dL_storms_100 rfl rfl ?_
          refine V.iload_n (i := 1) dL_storms_101 rfl rfl ?_
          obtain ⟨v24, hv24, hf⟩ := fbind hf
          have hc := ct_X10_storm (a1 := a1) (State_cells := State_cells) (History_oldest := History_oldest) (History_size := History_size) (History_snapshotTaken := History_snapshotTaken) (History_saved := History_saved) (History_snapshot := History_snapshot) (Buffer_size := Buffer_size) (Buffer_codes := Buffer_codes) (Reader_pattern := Reader_pattern) (Reader_place := Reader_place) (Word_size := Word_size) (Word_letters := Word_letters) hv24
          rcases hv24b : v24.1 with v25 | E9
          · rw [hv24b] at hc hf
            dsimp only [fth] at hf
            refine V.callVn (pl := [0, 1, 2, 3, 4, 5, 6, 7, 8, 9, 10]) (σ' := [.inl (5, [.ref 1, .ref 3, .ref 6, .ref 8, .ref 9]), .inl (3, [.ref 2]), .inr (910, .inl v24.2.1), .inl (1, [.ref 4, .ref 5, .int v24.2.2.1, .int v24.2.2.2.1, .int History_snapshotTaken]), .inr (5460, .inl v24.2.2.2.2), .inr (910, .inl History_snapshot), .inl (0, [.ref 7, .int Buffer_size]), .inr (60, .inl Buffer_codes), .inl (2, [.ref (Reader_pattern + 1000), .int Reader_place]), .inl (4, [.ref 10, .int Word_size]), .inr (8, .inl Word_letters)]) (st2 := [.int v25]) (cl2 := 0) (sl2 := 0) hc dL_storms_102 w590 ⟨w591, w592⟩ cal_X10_storm rfl ⟨⟨Nat.le_of_ble_eq_true rfl, Nat.le_of_ble_eq_true rfl⟩, Nat.le_of_ble_eq_true rfl, Nat.le_of_ble_eq_true rfl⟩ (Nat.le_of_ble_eq_true rfl) ⟨_, _, _, _, rfl, rfl⟩ rfl ⟨rfl, ⟨by decide, by decide⟩, rfl, (fr_cons (Or.inl (Nat.le_of_ble_eq_true rfl)) (fr_cons (Or.inl (Nat.le_of_ble_eq_true rfl)) (fr_cons (Or.inl (Nat.le_of_ble_eq_true rfl)) (fr_cons (Or.inl (Nat.le_of_ble_eq_true rfl)) (fr_cons (Or.inl (Nat.le_of_ble_eq_true rfl)) (fr_cons (Or.inl (Nat.le_of_ble_eq_true rfl)) (fr_cons (Or.inl (Nat.le_of_ble_eq_true rfl)) (fr_cons (Or.inl (Nat.le_of_ble_eq_true rfl)) (fr_cons (Or.inl (Nat.le_of_ble_eq_true rfl)) (fr_cons (Or.inr (Nat.le_add_left 1000 _)) (fr_cons (Or.inl (Nat.le_of_ble_eq_true rfl)) (fr_nil)))))))))))), rfl⟩ fr_i rfl rfl rfl rfl ?_
            refine V.iload_n (i := 2) dL_storms_105 rfl rfl ?_
            refine V.icmp_ne (tgt := 210) dL_storms_106 (by decide) (fun h => ?_) (fun h => ?_)
            · have hf := fif_f h hf
              refine V.iconst (v := 0) dL_storms_210 rfl ?_
              obtain rfl := Option.some.inj hf
              exact V.zret (v := 0) dL_storms_211 rfl (by decide +kernel) (Nat.le_of_ble_eq_true rfl) (Nat.le_of_ble_eq_true rfl) rfl
            · have hf := fif_t h hf
              refine V.iload (i := 6) dL_storms_109 rfl ?_
              refine V.iload_n (i := 2) dL_storms_111 rfl rfl ?_
              refine V.icmp_ne (tgt := 210) dL_storms_112 (by decide) (fun h => ?_) (fun h => ?_)
              · have hf := fif_f h hf
                refine V.iconst (v := 0) dL_storms_210 rfl ?_
                obtain rfl := Option.some.inj hf
                exact V.zret (v := 0) dL_storms_211 rfl (by decide +kernel) (Nat.le_of_ble_eq_true rfl) (Nat.le_of_ble_eq_true rfl) rfl
              · have hf := fif_t h hf
                refine V.iload (i := 7) dL_storms_115 rfl ?_
                refine V.iload_n (i := 2) dL_storms_117 rfl rfl ?_
                obtain ⟨v26, ev26, hf⟩ := flet_e hf
                refine V.join (J := 126) (y := v26) (st' := [.int r23.2.1]) (fun tlv26 => ?_) ?_
                · refine V.if_le (tgt := 125) dL_storms_118 (by decide) (fun h27 => ?_) (fun h27 => ?_)
                  · refine V.iconst (v := 0) dL_storms_125 rfl ?_
                    exact V.cgi (by rw [← ev26, if_pos h27]) tlv26
                  · refine V.iconst (v := 1) dL_storms_121 rfl ?_
                    refine V.goto (tgt := 126) dL_storms_122 (by decide) ?_
                    exact V.cgi (by rw [← ev26, if_neg h27]) tlv26
                · refine V.icmp_ne (tgt := 210) dL_storms_126 (by decide) (fun h => ?_) (fun h => ?_)
                  · have hf := fif_f h hf
                    refine V.iconst (v := 0) dL_storms_210 rfl ?_
                    obtain rfl := Option.some.inj hf
                    exact V.zret (v := 0) dL_storms_211 rfl (by decide +kernel) (Nat.le_of_ble_eq_true rfl) (Nat.le_of_ble_eq_true rfl) rfl
                  · have hf := fif_t h hf
                    refine V.aload_n (i := 0) dL_storms_129 rfl rfl ?_
                    refine V.iconst (v := 1) dL_storms_130 rfl ?_
                    obtain ⟨v28, hv28, hf⟩ := fbind hf
                    have hc := ct_X10_count (a1 := 1) (State_cells := v24.2.1) (History_oldest := v24.2.2.1) (History_size := v24.2.2.2.1) (History_snapshotTaken := History_snapshotTaken) (History_saved := v24.2.2.2.2) (History_snapshot := History_snapshot) (Buffer_size := Buffer_size) (Buffer_codes := Buffer_codes) (Reader_pattern := Reader_pattern) (Reader_place := Reader_place) (Word_size := Word_size) (Word_letters := Word_letters) hv28
                    rcases hv28b : v28 with v29 | E9
                    · rw [hv28b] at hc hf
                      dsimp only [fth] at hf
                      refine V.callVn (pl := [0, 1, 2, 3, 4, 5, 6, 7, 8, 9, 10]) (σ' := [.inl (5, [.ref 1, .ref 3, .ref 6, .ref 8, .ref 9]), .inl (3, [.ref 2]), .inr (910, .inl v24.2.1), .inl (1, [.ref 4, .ref 5, .int v24.2.2.1, .int v24.2.2.2.1, .int History_snapshotTaken]), .inr (5460, .inl v24.2.2.2.2), .inr (910, .inl History_snapshot), .inl (0, [.ref 7, .int Buffer_size]), .inr (60, .inl Buffer_codes), .inl (2, [.ref (Reader_pattern + 1000), .int Reader_place]), .inl (4, [.ref 10, .int Word_size]), .inr (8, .inl Word_letters)]) (st2 := [.int v29]) (cl2 := 0) (sl2 := 0) hc dL_storms_131 w404 ⟨w405, w406⟩ cal_X10_count rfl ⟨⟨Nat.le_of_ble_eq_true rfl, Nat.le_of_ble_eq_true rfl⟩, Nat.le_of_ble_eq_true rfl, Nat.le_of_ble_eq_true rfl⟩ (Nat.le_of_ble_eq_true rfl) ⟨_, _, _, _, rfl, rfl⟩ rfl ⟨rfl, ⟨by decide, by decide⟩, rfl, (fr_cons (Or.inl (Nat.le_of_ble_eq_true rfl)) (fr_cons (Or.inl (Nat.le_of_ble_eq_true rfl)) (fr_cons (Or.inl (Nat.le_of_ble_eq_true rfl)) (fr_cons (Or.inl (Nat.le_of_ble_eq_true rfl)) (fr_cons (Or.inl (Nat.le_of_ble_eq_true rfl)) (fr_cons (Or.inl (Nat.le_of_ble_eq_true rfl)) (fr_cons (Or.inl (Nat.le_of_ble_eq_true rfl)) (fr_cons (Or.inl (Nat.le_of_ble_eq_true rfl)) (fr_cons (Or.inl (Nat.le_of_ble_eq_true rfl)) (fr_cons (Or.inr (Nat.le_add_left 1000 _)) (fr_cons (Or.inl (Nat.le_of_ble_eq_true rfl)) (fr_nil)))))))))))), rfl⟩ fr_i rfl rfl rfl rfl ?_
                      refine V.iload (i := 4) dL_storms_134 rfl ?_
                      refine V.iconst (v := 1) dL_storms_136 rfl ?_
                      refine V.iadd dL_storms_137 ?_
                      refine V.icmp_ne (tgt := 210) dL_storms_138 (by decide) (fun h => ?_) (fun h => ?_)
                      · have hf := fif_f h hf
                        refine V.iconst (v := 0) dL_storms_210 rfl ?_
                        obtain rfl := Option.some.inj hf
                        exact V.zret (v := 0) dL_storms_211 rfl (by decide +kernel) (Nat.le_of_ble_eq_true rfl) (Nat.le_of_ble_eq_true rfl) rfl
                      · have hf := fif_t h hf
                        refine V.aload_n (i := 0) dL_storms_141 rfl rfl ?_
                        refine V.bipush (v := 7) dL_storms_142 rfl ?_
                        obtain ⟨v30, hv30, hf⟩ := fbind hf
                        have hc := ct_X10_count (a1 := 7) (State_cells := v24.2.1) (History_oldest := v24.2.2.1) (History_size := v24.2.2.2.1) (History_snapshotTaken := History_snapshotTaken) (History_saved := v24.2.2.2.2) (History_snapshot := History_snapshot) (Buffer_size := Buffer_size) (Buffer_codes := Buffer_codes) (Reader_pattern := Reader_pattern) (Reader_place := Reader_place) (Word_size := Word_size) (Word_letters := Word_letters) hv30
                        rcases hv30b : v30 with v31 | E9
                        · rw [hv30b] at hc hf
                          dsimp only [fth] at hf
                          refine V.callVn (pl := [0, 1, 2, 3, 4, 5, 6, 7, 8, 9, 10]) (σ' := [.inl (5, [.ref 1, .ref 3, .ref 6, .ref 8, .ref 9]), .inl (3, [.ref 2]), .inr (910, .inl v24.2.1), .inl (1, [.ref 4, .ref 5, .int v24.2.2.1, .int v24.2.2.2.1, .int History_snapshotTaken]), .inr (5460, .inl v24.2.2.2.2), .inr (910, .inl History_snapshot), .inl (0, [.ref 7, .int Buffer_size]), .inr (60, .inl Buffer_codes), .inl (2, [.ref (Reader_pattern + 1000), .int Reader_place]), .inl (4, [.ref 10, .int Word_size]), .inr (8, .inl Word_letters)]) (st2 := [.int v31]) (cl2 := 0) (sl2 := 0) hc dL_storms_144 w404 ⟨w405, w406⟩ cal_X10_count rfl ⟨⟨Nat.le_of_ble_eq_true rfl, Nat.le_of_ble_eq_true rfl⟩, Nat.le_of_ble_eq_true rfl, Nat.le_of_ble_eq_true rfl⟩ (Nat.le_of_ble_eq_true rfl) ⟨_, _, _, _, rfl, rfl⟩ rfl ⟨rfl, ⟨by decide, by decide⟩, rfl, (fr_cons (Or.inl (Nat.le_of_ble_eq_true rfl)) (fr_cons (Or.inl (Nat.le_of_ble_eq_true rfl)) (fr_cons (Or.inl (Nat.le_of_ble_eq_true rfl)) (fr_cons (Or.inl (Nat.le_of_ble_eq_true rfl)) (fr_cons (Or.inl (Nat.le_of_ble_eq_true rfl)) (fr_cons (Or.inl (Nat.le_of_ble_eq_true rfl)) (fr_cons (Or.inl (Nat.le_of_ble_eq_true rfl)) (fr_cons (Or.inl (Nat.le_of_ble_eq_true rfl)) (fr_cons (Or.inl (Nat.le_of_ble_eq_true rfl)) (fr_cons (Or.inr (Nat.le_add_left 1000 _)) (fr_cons (Or.inl (Nat.le_of_ble_eq_true rfl)) (fr_nil)))))))))))), rfl⟩ fr_i rfl rfl rfl rfl ?_
                          refine V.iload (i := 5) dL_storms_147 rfl ?_
                          refine V.iload_n (i := 2) dL_storms_149 rfl rfl ?_
                          refine V.iadd dL_storms_150 ?_
                          refine V.icmp_ne (tgt := 210) dL_storms_151 (by decide) (fun h => ?_) (fun h => ?_)
                          · have hf := fif_f h hf
                            refine V.iconst (v := 0) dL_storms_210 rfl ?_
                            obtain rfl := Option.some.inj hf
                            exact V.zret (v := 0) dL_storms_211 rfl (by decide +kernel) (Nat.le_of_ble_eq_true rfl) (Nat.le_of_ble_eq_true rfl) rfl
                          · have hf := fif_t h hf
                            refine V.aload_n (i := 0) dL_storms_154 rfl rfl ?_
                            refine V.iconst (v := 0) dL_storms_155 rfl ?_
                            obtain ⟨v32, hv32, hf⟩ := fbind hf
                            have hc := ct_X10_count (a1 := 0) (State_cells := v24.2.1) (History_oldest := v24.2.2.1) (History_size := v24.2.2.2.1) (History_snapshotTaken := History_snapshotTaken) (History_saved := v24.2.2.2.2) (History_snapshot := History_snapshot) (Buffer_size := Buffer_size) (Buffer_codes := Buffer_codes) (Reader_pattern := Reader_pattern) (Reader_place := Reader_place) (Word_size := Word_size) (Word_letters := Word_letters) hv32
                            rcases hv32b : v32 with v33 | E9
                            · rw [hv32b] at hc hf
                              dsimp only [fth] at hf
                              refine V.callVn (pl := [0, 1, 2, 3, 4, 5, 6, 7, 8, 9, 10]) (σ' := [.inl (5, [.ref 1, .ref 3, .ref 6, .ref 8, .ref 9]), .inl (3, [.ref 2]), .inr (910, .inl v24.2.1), .inl (1, [.ref 4, .ref 5, .int v24.2.2.1, .int v24.2.2.2.1, .int History_snapshotTaken]), .inr (5460, .inl v24.2.2.2.2), .inr (910, .inl History_snapshot), .inl (0, [.ref 7, .int Buffer_size]), .inr (60, .inl Buffer_codes), .inl (2, [.ref (Reader_pattern + 1000), .int Reader_place]), .inl (4, [.ref 10, .int Word_size]), .inr (8, .inl Word_letters)]) (st2 := [.int v33]) (cl2 := 0) (sl2 := 0) hc dL_storms_156 w404 ⟨w405, w406⟩ cal_X10_count rfl ⟨⟨Nat.le_of_ble_eq_true rfl, Nat.le_of_ble_eq_true rfl⟩, Nat.le_of_ble_eq_true rfl, Nat.le_of_ble_eq_true rfl⟩ (Nat.le_of_ble_eq_true rfl) ⟨_, _, _, _, rfl, rfl⟩ rfl ⟨rfl, ⟨by decide, by decide⟩, rfl, (fr_cons (Or.inl (Nat.le_of_ble_eq_true rfl)) (fr_cons (Or.inl (Nat.le_of_ble_eq_true rfl)) (fr_cons (Or.inl (Nat.le_of_ble_eq_true rfl)) (fr_cons (Or.inl (Nat.le_of_ble_eq_true rfl)) (fr_cons (Or.inl (Nat.le_of_ble_eq_true rfl)) (fr_cons (Or.inl (Nat.le_of_ble_eq_true rfl)) (fr_cons (Or.inl (Nat.le_of_ble_eq_true rfl)) (fr_cons (Or.inl (Nat.le_of_ble_eq_true rfl)) (fr_cons (Or.inl (Nat.le_of_ble_eq_true rfl)) (fr_cons (Or.inr (Nat.le_add_left 1000 _)) (fr_cons (Or.inl (Nat.le_of_ble_eq_true rfl)) (fr_nil)))))))))))), rfl⟩ fr_i rfl rfl rfl rfl ?_
                              refine V.iload_n (i := 3) dL_storms_159 rfl rfl ?_
                              refine V.iload_n (i := 2) dL_storms_160 rfl rfl ?_
                              refine V.isub dL_storms_161 ?_
                              refine V.icmp_ne (tgt := 210) dL_storms_162 (by decide) (fun h => ?_) (fun h => ?_)
                              · have hf := fif_f h hf
                                refine V.iconst (v := 0) dL_storms_210 rfl ?_
                                obtain rfl := Option.some.inj hf
                                exact V.zret (v := 0) dL_storms_211 rfl (by decide +kernel) (Nat.le_of_ble_eq_true rfl) (Nat.le_of_ble_eq_true rfl) rfl
                              · have hf := fif_t h hf
                                refine V.iload_n (i := 2) dL_storms_165 rfl rfl ?_
                                refine V.if_eq (tgt := 206) dL_storms_166 (by decide) (fun h => ?_) (fun h => ?_)
                                · have hf := fif_t h hf
                                  refine V.iconst (v := 1) dL_storms_206 rfl ?_
                                  refine V.goto (tgt := 211) dL_storms_207 (by decide) ?_
                                  obtain rfl := Option.some.inj hf
                                  exact V.zret (v := 1) dL_storms_211 rfl (by decide +kernel) (Nat.le_of_ble_eq_true rfl) (Nat.le_of_ble_eq_true rfl) rfl
                                · have hf := fif_f h hf
                                  refine V.aload_n (i := 0) dL_storms_169 rfl rfl ?_
                                  refine V.aload_n (i := 0) dL_storms_170 rfl rfl ?_
                                  refine V.bipush (v := 6) dL_storms_171 rfl ?_
                                  obtain ⟨v34, hv34, hf⟩ := fbind hf
                                  have hc := ct_X10_count (a1 := 6) (State_cells := v24.2.1) (History_oldest := v24.2.2.1) (History_size := v24.2.2.2.1) (History_snapshotTaken := History_snapshotTaken) (History_saved := v24.2.2.2.2) (History_snapshot := History_snapshot) (Buffer_size := Buffer_size) (Buffer_codes := Buffer_codes) (Reader_pattern := Reader_pattern) (Reader_place := Reader_place) (Word_size := Word_size) (Word_letters := Word_letters) hv34
                                  rcases hv34b : v34 with v35 | E9
                                  · rw [hv34b] at hc hf
                                    dsimp only [fth] at hf
                                    refine V.callVn (pl := [0, 1, 2, 3, 4, 5, 6, 7, 8, 9, 10]) (σ' := [.inl (5, [.ref 1, .ref 3, .ref 6, .ref 8, .ref 9]), .inl (3, [.ref 2]), .inr (910, .inl v24.2.1), .inl (1, [.ref 4, .ref 5, .int v24.2.2.1, .int v24.2.2.2.1, .int History_snapshotTaken]), .inr (5460, .inl v24.2.2.2.2), .inr (910, .inl History_snapshot), .inl (0, [.ref 7, .int Buffer_size]), .inr (60, .inl Buffer_codes), .inl (2, [.ref (Reader_pattern + 1000), .int Reader_place]), .inl (4, [.ref 10, .int Word_size]), .inr (8, .inl Word_letters)]) (st2 := [.int v35, .ref 0]) (cl2 := 0) (sl2 := 0) hc dL_storms_173 w404 ⟨w405, w406⟩ cal_X10_count rfl ⟨⟨Nat.le_of_ble_eq_true rfl, Nat.le_of_ble_eq_true rfl⟩, Nat.le_of_ble_eq_true rfl, Nat.le_of_ble_eq_true rfl⟩ (Nat.le_of_ble_eq_true rfl) ⟨_, _, _, _, rfl, rfl⟩ rfl ⟨rfl, ⟨by decide, by decide⟩, rfl, (fr_cons (Or.inl (Nat.le_of_ble_eq_true rfl)) (fr_cons (Or.inl (Nat.le_of_ble_eq_true rfl)) (fr_cons (Or.inl (Nat.le_of_ble_eq_true rfl)) (fr_cons (Or.inl (Nat.le_of_ble_eq_true rfl)) (fr_cons (Or.inl (Nat.le_of_ble_eq_true rfl)) (fr_cons (Or.inl (Nat.le_of_ble_eq_true rfl)) (fr_cons (Or.inl (Nat.le_of_ble_eq_true rfl)) (fr_cons (Or.inl (Nat.le_of_ble_eq_true rfl)) (fr_cons (Or.inl (Nat.le_of_ble_eq_true rfl)) (fr_cons (Or.inr (Nat.le_add_left 1000 _)) (fr_cons (Or.inl (Nat.le_of_ble_eq_true rfl)) (fr_nil)))))))))))), rfl⟩ fr_i rfl rfl rfl rfl ?_
                                    refine V.iconst (v := 1) dL_storms_176 rfl ?_
                                    refine V.isub dL_storms_177 ?_
                                    refine V.iconst (v := 1) dL_storms_178 rfl ?_
                                    obtain ⟨v36, hv36, hf⟩ := fbind hf
                                    have hc := ct_X10_drowned (a1 := (v35 - 1)) (a2 := 1) (State_cells := v24.2.1) (History_oldest := v24.2.2.1) (History_size := v24.2.2.2.1) (History_snapshotTaken := History_snapshotTaken) (History_saved := v24.2.2.2.2) (History_snapshot := History_snapshot) (Buffer_size := Buffer_size) (Buffer_codes := Buffer_codes) (Reader_pattern := Reader_pattern) (Reader_place := Reader_place) (Word_size := Word_size) (Word_letters := Word_letters) hv36
                                    rcases hv36b : v36 with v37 | E9
                                    · rw [hv36b] at hc hf
                                      dsimp only [fth] at hf
                                      refine V.callVn (pl := [0, 1, 2, 3, 4, 5, 6, 7, 8, 9, 10]) (σ' := [.inl (5, [.ref 1, .ref 3, .ref 6, .ref 8, .ref 9]), .inl (3, [.ref 2]), .inr (910, .inl v24.2.1), .inl (1, [.ref 4, .ref 5, .int v24.2.2.1, .int v24.2.2.2.1, .int History_snapshotTaken]), .inr (5460, .inl v24.2.2.2.2), .inr (910, .inl History_snapshot), .inl (0, [.ref 7, .int Buffer_size]), .inr (60, .inl Buffer_codes), .inl (2, [.ref (Reader_pattern + 1000), .int Reader_place]), .inl (4, [.ref 10, .int Word_size]), .inr (8, .inl Word_letters)]) (st2 := [.int v37]) (cl2 := 0) (sl2 := 0) hc dL_storms_179 w436 ⟨w437, w438⟩ cal_X10_drowned rfl ⟨⟨Nat.le_of_ble_eq_true rfl, Nat.le_of_ble_eq_true rfl⟩, Nat.le_of_ble_eq_true rfl, Nat.le_of_ble_eq_true rfl⟩ (Nat.le_of_ble_eq_true rfl) ⟨_, _, _, _, rfl, rfl⟩ rfl ⟨rfl, ⟨by decide, by decide⟩, rfl, (fr_cons (Or.inl (Nat.le_of_ble_eq_true rfl)) (fr_cons (Or.inl (Nat.le_of_ble_eq_true rfl)) (fr_cons (Or.inl (Nat.le_of_ble_eq_true rfl)) (fr_cons (Or.inl (Nat.le_of_ble_eq_true rfl)) (fr_cons (Or.inl (Nat.le_of_ble_eq_true rfl)) (fr_cons (Or.inl (Nat.le_of_ble_eq_true rfl)) (fr_cons (Or.inl (Nat.le_of_ble_eq_true rfl)) (fr_cons (Or.inl (Nat.le_of_ble_eq_true rfl)) (fr_cons (Or.inl (Nat.le_of_ble_eq_true rfl)) (fr_cons (Or.inr (Nat.le_add_left 1000 _)) (fr_cons (Or.inl (Nat.le_of_ble_eq_true rfl)) (fr_nil)))))))))))), rfl⟩ fr_i rfl rfl rfl rfl ?_
                                      refine V.iload_n (i := 1) dL_storms_182 rfl rfl ?_
                                      refine V.icmp_ne (tgt := 210) dL_storms_183 (by decide) (fun h => ?_) (fun h => ?_)
                                      · have hf := fif_f h hf
                                        refine V.iconst (v := 0) dL_storms_210 rfl ?_
                                        obtain rfl := Option.some.inj hf
                                        exact V.zret (v := 0) dL_storms_211 rfl (by decide +kernel) (Nat.le_of_ble_eq_true rfl) (Nat.le_of_ble_eq_true rfl) rfl
                                      · have hf := fif_t h hf
                                        refine V.aload_n (i := 0) dL_storms_186 rfl rfl ?_
                                        refine V.aload_n (i := 0) dL_storms_187 rfl rfl ?_
                                        refine V.bipush (v := 6) dL_storms_188 rfl ?_
                                        obtain ⟨v38, hv38, hf⟩ := fbind hf
                                        have hc := ct_X10_count (a1 := 6) (State_cells := v24.2.1) (History_oldest := v24.2.2.1) (History_size := v24.2.2.2.1) (History_snapshotTaken := History_snapshotTaken) (History_saved := v24.2.2.2.2) (History_snapshot := History_snapshot) (Buffer_size := Buffer_size) (Buffer_codes := Buffer_codes) (Reader_pattern := Reader_pattern) (Reader_place := Reader_place) (Word_size := Word_size) (Word_letters := Word_letters) hv38
                                        rcases hv38b : v38 with v39 | E9
                                        · rw [hv38b] at hc hf
                                          dsimp only [fth] at hf
                                          refine V.callVn (pl := [0, 1, 2, 3, 4, 5, 6, 7, 8, 9, 10]) (σ' := [.inl (5, [.ref 1, .ref 3, .ref 6, .ref 8, .ref 9]), .inl (3, [.ref 2]), .inr (910, .inl v24.2.1), .inl (1, [.ref 4, .ref 5, .int v24.2.2.1, .int v24.2.2.2.1, .int History_snapshotTaken]), .inr (5460, .inl v24.2.2.2.2), .inr (910, .inl History_snapshot), .inl (0, [.ref 7, .int Buffer_size]), .inr (60, .inl Buffer_codes), .inl (2, [.ref (Reader_pattern + 1000), .int Reader_place]), .inl (4, [.ref 10, .int Word_size]), .inr (8, .inl Word_letters)]) (st2 := [.int v39, .ref 0]) (cl2 := 0) (sl2 := 0) hc dL_storms_190 w404 ⟨w405, w406⟩ cal_X10_count rfl ⟨⟨Nat.le_of_ble_eq_true rfl, Nat.le_of_ble_eq_true rfl⟩, Nat.le_of_ble_eq_true rfl, Nat.le_of_ble_eq_true rfl⟩ (Nat.le_of_ble_eq_true rfl) ⟨_, _, _, _, rfl, rfl⟩ rfl ⟨rfl, ⟨by decide, by decide⟩, rfl, (fr_cons (Or.inl (Nat.le_of_ble_eq_true rfl)) (fr_cons (Or.inl (Nat.le_of_ble_eq_true rfl)) (fr_cons (Or.inl (Nat.le_of_ble_eq_true rfl)) (fr_cons (Or.inl (Nat.le_of_ble_eq_true rfl)) (fr_cons (Or.inl (Nat.le_of_ble_eq_true rfl)) (fr_cons (Or.inl (Nat.le_of_ble_eq_true rfl)) (fr_cons (Or.inl (Nat.le_of_ble_eq_true rfl)) (fr_cons (Or.inl (Nat.le_of_ble_eq_true rfl)) (fr_cons (Or.inl (Nat.le_of_ble_eq_true rfl)) (fr_cons (Or.inr (Nat.le_add_left 1000 _)) (fr_cons (Or.inl (Nat.le_of_ble_eq_true rfl)) (fr_nil)))))))))))), rfl⟩ fr_i rfl rfl rfl rfl ?_
                                          refine V.iconst (v := 1) dL_storms_193 rfl ?_
                                          refine V.isub dL_storms_194 ?_
                                          refine V.iconst (v := 2) dL_storms_195 rfl ?_
                                          obtain ⟨v40, hv40, hf⟩ := fbind hf
                                          have hc := ct_X10_drowned (a1 := (v39 - 1)) (a2 := 2) (State_cells := v24.2.1) (History_oldest := v24.2.2.1) (History_size := v24.2.2.2.1) (History_snapshotTaken := History_snapshotTaken) (History_saved := v24.2.2.2.2) (History_snapshot := History_snapshot) (Buffer_size := Buffer_size) (Buffer_codes := Buffer_codes) (Reader_pattern := Reader_pattern) (Reader_place := Reader_place) (Word_size := Word_size) (Word_letters := Word_letters) hv40
                                          rcases hv40b : v40 with v41 | E9
                                          · rw [hv40b] at hc hf
                                            dsimp only [fth] at hf
                                            refine V.callVn (pl := [0, 1, 2, 3, 4, 5, 6, 7, 8, 9, 10]) (σ' := [.inl (5, [.ref 1, .ref 3, .ref 6, .ref 8, .ref 9]), .inl (3, [.ref 2]), .inr (910, .inl v24.2.1), .inl (1, [.ref 4, .ref 5, .int v24.2.2.1, .int v24.2.2.2.1, .int History_snapshotTaken]), .inr (5460, .inl v24.2.2.2.2), .inr (910, .inl History_snapshot), .inl (0, [.ref 7, .int Buffer_size]), .inr (60, .inl Buffer_codes), .inl (2, [.ref (Reader_pattern + 1000), .int Reader_place]), .inl (4, [.ref 10, .int Word_size]), .inr (8, .inl Word_letters)]) (st2 := [.int v41]) (cl2 := 0) (sl2 := 0) hc dL_storms_196 w436 ⟨w437, w438⟩ cal_X10_drowned rfl ⟨⟨Nat.le_of_ble_eq_true rfl, Nat.le_of_ble_eq_true rfl⟩, Nat.le_of_ble_eq_true rfl, Nat.le_of_ble_eq_true rfl⟩ (Nat.le_of_ble_eq_true rfl) ⟨_, _, _, _, rfl, rfl⟩ rfl ⟨rfl, ⟨by decide, by decide⟩, rfl, (fr_cons (Or.inl (Nat.le_of_ble_eq_true rfl)) (fr_cons (Or.inl (Nat.le_of_ble_eq_true rfl)) (fr_cons (Or.inl (Nat.le_of_ble_eq_true rfl)) (fr_cons (Or.inl (Nat.le_of_ble_eq_true rfl)) (fr_cons (Or.inl (Nat.le_of_ble_eq_true rfl)) (fr_cons (Or.inl (Nat.le_of_ble_eq_true rfl)) (fr_cons (Or.inl (Nat.le_of_ble_eq_true rfl)) (fr_cons (Or.inl (Nat.le_of_ble_eq_true rfl)) (fr_cons (Or.inl (Nat.le_of_ble_eq_true rfl)) (fr_cons (Or.inr (Nat.le_add_left 1000 _)) (fr_cons (Or.inl (Nat.le_of_ble_eq_true rfl)) (fr_nil)))))))))))), rfl⟩ fr_i rfl rfl rfl rfl ?_
                                            refine V.iload (i := 4) dL_storms_199 rfl ?_
                                            refine V.iconst (v := 1) dL_storms_201 rfl ?_
                                            refine V.iadd dL_storms_202 ?_
                                            obtain ⟨v42, ev42, hf⟩ := flet_e hf
                                            refine V.join (J := 211) (y := v42) (st' := []) (fun tlv42 => ?_) ?_
                                            · refine V.icmp_ne (tgt := 210) dL_storms_203 (by decide) (fun h43 => ?_) (fun h43 => ?_)
                                              · refine V.iconst (v := 0) dL_storms_210 rfl ?_
                                                exact V.cgi (by rw [← ev42, if_neg h43]) tlv42
                                              · refine V.iconst (v := 1) dL_storms_206 rfl ?_
                                                refine V.goto (tgt := 211) dL_storms_207 (by decide) ?_
                                                exact V.cgi (by rw [← ev42, if_pos h43]) tlv42
                                            · obtain ⟨hz, hf⟩ := fz_e hf
                                              obtain rfl := Option.some.inj hf
                                              exact V.zret (v := v42) dL_storms_211 rfl hz (Nat.le_of_ble_eq_true rfl) (Nat.le_of_ble_eq_true rfl) rfl
                                          · rw [hv40b] at hc hf
                                            dsimp only [fth] at hf
                                            cases hf
                                        · rw [hv38b] at hc hf
                                          dsimp only [fth] at hf
                                          cases hf
                                    · rw [hv36b] at hc hf
                                      dsimp only [fth] at hf
                                      cases hf
                                  · rw [hv34b] at hc hf
                                    dsimp only [fth] at hf
                                    cases hf
                            · rw [hv32b] at hc hf
                              dsimp only [fth] at hf
                              cases hf
                        · rw [hv30b] at hc hf
                          dsimp only [fth] at hf
                          cases hf
                    · rw [hv28b] at hc hf
                      dsimp only [fth] at hf
                      cases hf
          · rw [hv24b] at hc hf
            dsimp only [fth] at hf
            cases hf
        · rw [hv7b] at hc hf
          dsimp only [fth] at hf
          cases hf
      · rw [hv5b] at hc hf
        dsimp only [fth] at hf
        cases hf
    · rw [hv3b] at hc hf
      dsimp only [fth] at hf
      cases hf
  · rw [hv1b] at hc hf
    dsimp only [fth] at hf
    cases hf
def k_L_bears : fK := (yL_bears, cL_bears, 11, (some .boolean), [], (9, 147), (0, 0), (1, 6))
theorem cal_L_bears : fCal k_L_bears 3 := ⟨⟨wc620, w5⟩, ⟨by decide +kernel, by decide +kernel⟩, by decide +kernel, by decide +kernel⟩
def s_L_bears_L68 (p1 : Int32) (p5 : Int32) (State_cells : Nat → Int32) : Nat → Int32 → Int32 → Option (Int32 × Int32)
  | 0, _, _ => none
  | n + 1, x8, x10 => if (p5 ≤ x10 : Prop) then (some (x8, x10)) else ((s_X10_name p1 x10 4 State_cells).bind fun v10 => fth v10 (fun v11 => flet ((if (v11 = 1 : Prop) then 1 else 0) : Int32) fun v12 => s_L_bears_L68 p1 p5 State_cells n (x8 + v12) (x10 + 1)) (fun E9 => none))
set_option maxHeartbeats 4000000 in
set_option maxRecDepth 100000 in
theorem v_L_bears_L68 {out : fO} {σ' : List fE} {p1 : Int32} {p2 : Int32} {p3 : Int32} {p4 : Int32} {p5 : Int32} {p6 : Int32} {p7 : Int32} {p9 : Int32} {State_cells : Nat → Int32} {History_oldest : Int32} {History_size : Int32} {History_snapshotTaken : Int32} {History_saved : Nat → Int32} {History_snapshot : Nat → Int32} {Buffer_size : Int32} {Buffer_codes : Nat → Int32} {Reader_pattern : Nat} {Reader_place : Int32} {Word_size : Int32} {Word_letters : Nat → Int32} : ∀ (n : Nat) {x8 : Int32} {x10 : Int32} {res : Int32 × Int32} (hf : s_L_bears_L68 p1 p5 State_cells n x8 x10 = some res) (hx : V (fXm 11 k_L_bears out σ') (krm k_L_bears) k_L_bears 11 103 [some (.ref 0), some (.int p1), some (.int p2), some (.int p3), some (.int p4), some (.int p5), some (.int p6), some (.int p7), some (.int res.1), some (.int p9), some (.int res.2)] [] [.inl (5, [.ref 1, .ref 3, .ref 6, .ref 8, .ref 9]), .inl (3, [.ref 2]), .inr (910, .inl State_cells), .inl (1, [.ref 4, .ref 5, .int History_oldest, .int History_size, .int History_snapshotTaken]), .inr (5460, .inl History_saved), .inr (910, .inl History_snapshot), .inl (0, [.ref 7, .int Buffer_size]), .inr (60, .inl Buffer_codes), .inl (2, [.ref (Reader_pattern + 1000), .int Reader_place]), .inl (4, [.ref 10, .int Word_size]), .inr (8, .inl Word_letters)] 0 0), V (fXm 11 k_L_bears out σ') (krm k_L_bears) k_L_bears 11 68 [some (.ref 0), some (.int p1), some (.int p2), some (.int p3), some (.int p4), some (.int p5), some (.int p6), some (.int p7), some (.int x8), some (.int p9), some (.int x10)] [] [.inl (5, [.ref 1, .ref 3, .ref 6, .ref 8, .ref 9]), .inl (3, [.ref 2]), .inr (910, .inl State_cells), .inl (1, [.ref 4, .ref 5, .int History_oldest, .int History_size, .int History_snapshotTaken]), .inr (5460, .inl History_saved), .inr (910, .inl History_snapshot), .inl (0, [.ref 7, .int Buffer_size]), .inr (60, .inl Buffer_codes), .inl (2, [.ref (Reader_pattern + 1000), .int Reader_place]), .inl (4, [.ref 10, .int Word_size]), .inr (8, .inl Word_letters)] 0 0 := by
  intro n
  induction n with
  | zero =>
    intro x8 x10 res hf hx
    rw [s_L_bears_L68] at hf
    cases hf
  | succ n ih =>
    intro x8 x10 res hf hx
    rw [s_L_bears_L68] at hf
    refine V.iload (i := 10) dL_bears_68 rfl ?_
    refine V.iload (i := 5) dL_bears_70 rfl ?_
    refine V.icmp_ge (tgt := 103) dL_bears_72 (by decide) (fun h => ?_) (fun h => ?_)
    · have hf := fif_t h hf
      obtain rfl := Option.some.inj hf
      exact hx
    · have hf := fif_f h hf
      refine V.iload (i := 8) dL_bears_75 rfl ?_
      refine V.aload_n (i := 0) dL_bears_77 rfl rfl ?_
      refine V.iload_n (i := 1) dL_bears_78 rfl rfl ?_
      refine V.iload (i := 10) dL_bears_79 rfl ?_
      refine V.iconst (v := 4) dL_bears_81 rfl ?_
      obtain ⟨v10, hv10, hf⟩ := fbind hf
      have hc := ct_X10_name (a1 := p1) (a2 := x10) (a3 := 4) (State_cells := State_cells) (History_oldest := History_oldest) (History_size := History_size) (History_snapshotTaken := History_snapshotTaken) (History_saved := History_saved) (History_snapshot := History_snapshot) (Buffer_size := Buffer_size) (Buffer_codes := Buffer_codes) (Reader_pattern := Reader_pattern) (Reader_place := Reader_place) (Word_size := Word_size) (Word_letters := Word_letters) hv10
      rcases hv10b : v10 with v11 | E9
      · rw [hv10b] at hc hf
        dsimp only [fth] at hf
        refine V.callVn (pl := [0, 1, 2, 3, 4, 5, 6, 7, 8, 9, 10]) (σ' := [.inl (5, [.ref 1, .ref 3, .ref 6, .ref 8, .ref 9]), .inl (3, [.ref 2]), .inr (910, .inl State_cells), .inl (1, [.ref 4, .ref 5, .int History_oldest, .int History_size, .int History_snapshotTaken]), .inr (5460, .inl History_saved), .inr (910, .inl History_snapshot), .inl (0, [.ref 7, .int Buffer_size]), .inr (60, .inl Buffer_codes), .inl (2, [.ref (Reader_pattern + 1000), .int Reader_place]), .inl (4, [.ref 10, .int Word_size]), .inr (8, .inl Word_letters)]) (st2 := [.int v11, .int x8]) (cl2 := 0) (sl2 := 0) hc dL_bears_82 w284 ⟨w285, w286⟩ cal_X10_name rfl ⟨⟨Nat.le_of_ble_eq_true rfl, Nat.le_of_ble_eq_true rfl⟩, Nat.le_of_ble_eq_true rfl, Nat.le_of_ble_eq_true rfl⟩ (Nat.le_of_ble_eq_true rfl) ⟨_, _, _, _, rfl, rfl⟩ rfl ⟨rfl, ⟨by decide, by decide⟩, rfl, (fr_cons (Or.inl (Nat.le_of_ble_eq_true rfl)) (fr_cons (Or.inl (Nat.le_of_ble_eq_true rfl)) (fr_cons (Or.inl (Nat.le_of_ble_eq_true rfl)) (fr_cons (Or.inl (Nat.le_of_ble_eq_true rfl)) (fr_cons (Or.inl (Nat.le_of_ble_eq_true rfl)) (fr_cons (Or.inl (Nat.le_of_ble_eq_true rfl)) (fr_cons (Or.inl (Nat.le_of_ble_eq_true rfl)) (fr_cons (Or.inl (Nat.le_of_ble_eq_true rfl)) (fr_cons (Or.inl (Nat.le_of_ble_eq_true rfl)) (fr_cons (Or.inr (Nat.le_add_left 1000 _)) (fr_cons (Or.inl (Nat.le_of_ble_eq_true rfl)) (fr_nil)))))))))))), rfl⟩ fr_i rfl rfl rfl rfl ?_
        refine V.iconst (v := 1) dL_bears_85 rfl ?_
        obtain ⟨v12, ev12, hf⟩ := flet_e hf
        refine V.join (J := 94) (y := v12) (st' := [.int x8]) (fun tlv12 => ?_) ?_
        · refine V.icmp_ne (tgt := 93) dL_bears_86 (by decide) (fun h13 => ?_) (fun h13 => ?_)
          · refine V.iconst (v := 0) dL_bears_93 rfl ?_
            exact V.cgi (by rw [← ev12, if_neg h13]) tlv12
          · refine V.iconst (v := 1) dL_bears_89 rfl ?_
            refine V.goto (tgt := 94) dL_bears_90 (by decide) ?_
            exact V.cgi (by rw [← ev12, if_pos h13]) tlv12
        · refine V.iadd dL_bears_94 ?_
          refine V.istore (i := 8) (L' := [some (.ref 0), some (.int p1), some (.int p2), some (.int p3), some (.int p4), some (.int p5), some (.int p6), some (.int p7), some (.int (x8 + v12)), some (.int p9), some (.int x10)]) dL_bears_95 (Nat.le_of_ble_eq_true rfl) rfl rfl ?_
          refine V.iinc (i := 10) (v := (x10 + 1)) (L' := [some (.ref 0), some (.int p1), some (.int p2), some (.int p3), some (.int p4), some (.int p5), some (.int p6), some (.int p7), some (.int (x8 + v12)), some (.int p9), some (.int (x10 + 1))]) dL_bears_97 rfl rfl (Nat.le_of_ble_eq_true rfl) rfl rfl ?_
          refine V.goto (tgt := 68) dL_bears_100 (by decide) ?_
          exact ih hf hx
      · rw [hv10b] at hc hf
        dsimp only [fth] at hf
        cases hf
def s_L_bears_L23 (p1 : Int32) (p3 : Int32) : Nat → Int32 → Int32 → Int32 → (Nat → Int32) → (Int32) → (Int32) → (Nat → Int32) → Option (Int32 × Int32 × Int32 × (Nat → Int32) × (Int32) × (Int32) × (Nat → Int32))
  | 0, _, _, _, _, _, _, _ => none
  | n + 1, x5, x6, x7, State_cells, History_oldest, History_size, History_saved => flet ((if (0 ≤ p3 : Prop) then p3 else 60) : Int32) fun v4 => if (v4 < x7 : Prop) then (some (x5, x6, x7, State_cells, History_oldest, History_size, History_saved)) else (if (x6 = 0 : Prop) then (some (x5, x6, x7, State_cells, History_oldest, History_size, History_saved)) else ((s_X10_name p1 x5 4 State_cells).bind fun v6 => fth v6 (fun v7 => flet ((if (v7 = 1 : Prop) then 1 else 0) : Int32) fun v8 => (s_L_bears_L68 p1 x5 State_cells gF 0 0).bind fun r14 => (s_X10_storm p1 State_cells History_oldest History_size History_saved).bind fun v15 => fth v15.1 (fun v16 => flet ((if (v16 < 0 : Prop) then 0 else (if (x7 = p3 : Prop) then (if (v8 = 1 : Prop) then 1 else 0) else (if (v8 = 0 : Prop) then 1 else 0))) : Int32) fun v17 => s_L_bears_L23 p1 p3 n (x5 - r14.1) v17 (x7 + 1) v15.2.1 v15.2.2.1 v15.2.2.2.1 v15.2.2.2.2) (fun E9 => none)) (fun E9 => none)))
set_option maxHeartbeats 4000000 in
set_option maxRecDepth 100000 in
theorem v_L_bears_L23 {out : fO} {σ' : List fE} {p1 : Int32} {p2 : Int32} {p3 : Int32} {p4 : Int32} {History_snapshotTaken : Int32} {History_snapshot : Nat → Int32} {Buffer_size : Int32} {Buffer_codes : Nat → Int32} {Reader_pattern : Nat} {Reader_place : Int32} {Word_size : Int32} {Word_letters : Nat → Int32} : ∀ (n : Nat) {x5 : Int32} {x6 : Int32} {x7 : Int32} {State_cells : (Nat → Int32)} {History_oldest : (Int32)} {History_size : (Int32)} {History_saved : (Nat → Int32)} {res : Int32 × Int32 × Int32 × (Nat → Int32) × (Int32) × (Int32) × (Nat → Int32)} (hf : s_L_bears_L23 p1 p3 n x5 x6 x7 State_cells History_oldest History_size History_saved = some res) (hx : V (fXm 11 k_L_bears out σ') (krm k_L_bears) k_L_bears 11 147 [some (.ref 0), some (.int p1), some (.int p2), some (.int p3), some (.int p4), some (.int res.1), some (.int res.2.1), some (.int res.2.2.1), none, none, none] [] [.inl (5, [.ref 1, .ref 3, .ref 6, .ref 8, .ref 9]), .inl (3, [.ref 2]), .inr (910, .inl res.2.2.2.1), .inl (1, [.ref 4, .ref 5, .int res.2.2.2.2.1, .int res.2.2.2.2.2.1, .int History_snapshotTaken]), .inr (5460, .inl res.2.2.2.2.2.2), .inr (910, .inl History_snapshot), .inl (0, [.ref 7, .int Buffer_size]), .inr (60, .inl Buffer_codes), .inl (2, [.ref (Reader_pattern + 1000), .int Reader_place]), .inl (4, [.ref 10, .int Word_size]), .inr (8, .inl Word_letters)] 0 0), V (fXm 11 k_L_bears out σ') (krm k_L_bears) k_L_bears 11 23 [some (.ref 0), some (.int p1), some (.int p2), some (.int p3), some (.int p4), some (.int x5), some (.int x6), some (.int x7), none, none, none] [] [.inl (5, [.ref 1, .ref 3, .ref 6, .ref 8, .ref 9]), .inl (3, [.ref 2]), .inr (910, .inl State_cells), .inl (1, [.ref 4, .ref 5, .int History_oldest, .int History_size, .int History_snapshotTaken]), .inr (5460, .inl History_saved), .inr (910, .inl History_snapshot), .inl (0, [.ref 7, .int Buffer_size]), .inr (60, .inl Buffer_codes), .inl (2, [.ref (Reader_pattern + 1000), .int Reader_place]), .inl (4, [.ref 10, .int Word_size]), .inr (8, .inl Word_letters)] 0 0 := by
  intro n
  induction n with
  | zero =>
    intro x5 x6 x7 State_cells History_oldest History_size History_saved res hf hx
    rw [s_L_bears_L23] at hf
    cases hf
  | succ n ih =>
    intro x5 x6 x7 State_cells History_oldest History_size History_saved res hf hx
    rw [s_L_bears_L23] at hf
    refine V.iload (i := 7) dL_bears_23 rfl ?_
    refine V.iload_n (i := 3) dL_bears_25 rfl rfl ?_
    obtain ⟨v4, ev4, hf⟩ := flet_e hf
    refine V.join (J := 35) (y := v4) (st' := [.int x7]) (fun tlv4 => ?_) ?_
    · refine V.if_ge (tgt := 34) dL_bears_26 (by decide) (fun h5 => ?_) (fun h5 => ?_)
      · refine V.iload_n (i := 3) dL_bears_34 rfl rfl ?_
        exact V.cgi (by rw [← ev4, if_pos h5]) tlv4
      · refine V.bipush (v := 60) dL_bears_29 rfl ?_
        refine V.goto (tgt := 35) dL_bears_31 (by decide) ?_
        exact V.cgi (by rw [← ev4, if_neg h5]) tlv4
    · refine V.icmp_gt (tgt := 147) dL_bears_35 (by decide) (fun h => ?_) (fun h => ?_)
      · have hf := fif_t h hf
        obtain rfl := Option.some.inj hf
        exact hx
      · have hf := fif_f h hf
        refine V.iload (i := 6) dL_bears_38 rfl ?_
        refine V.if_eq (tgt := 147) dL_bears_40 (by decide) (fun h => ?_) (fun h => ?_)
        · have hf := fif_t h hf
          obtain rfl := Option.some.inj hf
          exact hx
        · have hf := fif_f h hf
          refine V.iconst (v := 0) dL_bears_43 rfl ?_
          refine V.istore (i := 8) (L' := [some (.ref 0), some (.int p1), some (.int p2), some (.int p3), some (.int p4), some (.int x5), some (.int x6), some (.int x7), some (.int 0), none, none]) dL_bears_44 (Nat.le_of_ble_eq_true rfl) rfl rfl ?_
          refine V.aload_n (i := 0) dL_bears_46 rfl rfl ?_
          refine V.iload_n (i := 1) dL_bears_47 rfl rfl ?_
          refine V.iload (i := 5) dL_bears_48 rfl ?_
          refine V.iconst (v := 4) dL_bears_50 rfl ?_
          obtain ⟨v6, hv6, hf⟩ := fbind hf
          have hc := ct_X10_name (a1 := p1) (a2 := x5) (a3 := 4) (State_cells := State_cells) (History_oldest := History_oldest) (History_size := History_size) (History_snapshotTaken := History_snapshotTaken) (History_saved := History_saved) (History_snapshot := History_snapshot) (Buffer_size := Buffer_size) (Buffer_codes := Buffer_codes) (Reader_pattern := Reader_pattern) (Reader_place := Reader_place) (Word_size := Word_size) (Word_letters := Word_letters) hv6
          rcases hv6b : v6 with v7 | E9
          · rw [hv6b] at hc hf
            dsimp only [fth] at hf
            refine V.callVn (pl := [0, 1, 2, 3, 4, 5, 6, 7, 8, 9, 10]) (σ' := [.inl (5, [.ref 1, .ref 3, .ref 6, .ref 8, .ref 9]), .inl (3, [.ref 2]), .inr (910, .inl State_cells), .inl (1, [.ref 4, .ref 5, .int History_oldest, .int History_size, .int History_snapshotTaken]), .inr (5460, .inl History_saved), .inr (910, .inl History_snapshot), .inl (0, [.ref 7, .int Buffer_size]), .inr (60, .inl Buffer_codes), .inl (2, [.ref (Reader_pattern + 1000), .int Reader_place]), .inl (4, [.ref 10, .int Word_size]), .inr (8, .inl Word_letters)]) (st2 := [.int v7]) (cl2 := 0) (sl2 := 0) hc dL_bears_51 w284 ⟨w285, w286⟩ cal_X10_name rfl ⟨⟨Nat.le_of_ble_eq_true rfl, Nat.le_of_ble_eq_true rfl⟩, Nat.le_of_ble_eq_true rfl, Nat.le_of_ble_eq_true rfl⟩ (Nat.le_of_ble_eq_true rfl) ⟨_, _, _, _, rfl, rfl⟩ rfl ⟨rfl, ⟨by decide, by decide⟩, rfl, (fr_cons (Or.inl (Nat.le_of_ble_eq_true rfl)) (fr_cons (Or.inl (Nat.le_of_ble_eq_true rfl)) (fr_cons (Or.inl (Nat.le_of_ble_eq_true rfl)) (fr_cons (Or.inl (Nat.le_of_ble_eq_true rfl)) (fr_cons (Or.inl (Nat.le_of_ble_eq_true rfl)) (fr_cons (Or.inl (Nat.le_of_ble_eq_true rfl)) (fr_cons (Or.inl (Nat.le_of_ble_eq_true rfl)) (fr_cons (Or.inl (Nat.le_of_ble_eq_true rfl)) (fr_cons (Or.inl (Nat.le_of_ble_eq_true rfl)) (fr_cons (Or.inr (Nat.le_add_left 1000 _)) (fr_cons (Or.inl (Nat.le_of_ble_eq_true rfl)) (fr_nil)))))))))))), rfl⟩ fr_i rfl rfl rfl rfl ?_
            refine V.iconst (v := 1) dL_bears_54 rfl ?_
            obtain ⟨v8, ev8, hf⟩ := flet_e hf
            refine V.join (J := 63) (y := v8) (st' := []) (fun tlv8 => ?_) ?_
            · refine V.icmp_ne (tgt := 62) dL_bears_55 (by decide) (fun h9 => ?_) (fun h9 => ?_)
              · refine V.iconst (v := 0) dL_bears_62 rfl ?_
                exact V.cgi (by rw [← ev8, if_neg h9]) tlv8
              · refine V.iconst (v := 1) dL_bears_58 rfl ?_
                refine V.goto (tgt := 63) dL_bears_59 (by decide) ?_
                exact V.cgi (by rw [← ev8, if_pos h9]) tlv8
            · refine V.istore (i := 9) (L' := [some (.ref 0), some (.int p1), some (.int p2), some (.int p3), some (.int p4), some (.int x5), some (.int x6), some (.int x7), some (.int 0), some (.int v8), none]) dL_bears_63 (Nat.le_of_ble_eq_true rfl) rfl rfl ?_
              refine V.iconst (v := 0) dL_bears_65 rfl ?_
              refine V.istore (i := 10) (L' := [some (.ref 0), some (.int p1), some (.int p2), some (.int p3), some (.int p4), some (.int x5), some (.int x6), some (.int x7), some (.int 0), some (.int v8), some (.int 0)]) dL_bears_66 (Nat.le_of_ble_eq_true rfl) rfl rfl ?_
              obtain ⟨r14, hr14, hf⟩ := fbind hf
              refine v_L_bears_L68 gF hr14 ?_
              refine V.aload_n (i := 0) dL_bears_103 rfl rfl ?_
              refine V.iload_n (i := 1) dL_bears_104 rfl rfl ?_
              obtain ⟨v15, hv15, hf⟩ := fbind hf
              have hc := ct_X10_storm (a1 := p1) (State_cells := State_cells) (History_oldest := History_oldest) (History_size := History_size) (History_snapshotTaken := History_snapshotTaken) (History_saved := History_saved) (History_snapshot := History_snapshot) (Buffer_size := Buffer_size) (Buffer_codes := Buffer_codes) (Reader_pattern := Reader_pattern) (Reader_place := Reader_place) (Word_size := Word_size) (Word_letters := Word_letters) hv15
              rcases hv15b : v15.1 with v16 | E9
              · rw [hv15b] at hc hf
                dsimp only [fth] at hf
                refine V.callVn (pl := [0, 1, 2, 3, 4, 5, 6, 7, 8, 9, 10]) (σ' := [.inl (5, [.ref 1, .ref 3, .ref 6, .ref 8, .ref 9]), .inl (3, [.ref 2]), .inr (910, .inl v15.2.1), .inl (1, [.ref 4, .ref 5, .int v15.2.2.1, .int v15.2.2.2.1, .int History_snapshotTaken]), .inr (5460, .inl v15.2.2.2.2), .inr (910, .inl History_snapshot), .inl (0, [.ref 7, .int Buffer_size]), .inr (60, .inl Buffer_codes), .inl (2, [.ref (Reader_pattern + 1000), .int Reader_place]), .inl (4, [.ref 10, .int Word_size]), .inr (8, .inl Word_letters)]) (st2 := [.int v16]) (cl2 := 0) (sl2 := 0) hc dL_bears_105 w590 ⟨w591, w592⟩ cal_X10_storm rfl ⟨⟨Nat.le_of_ble_eq_true rfl, Nat.le_of_ble_eq_true rfl⟩, Nat.le_of_ble_eq_true rfl, Nat.le_of_ble_eq_true rfl⟩ (Nat.le_of_ble_eq_true rfl) ⟨_, _, _, _, rfl, rfl⟩ rfl ⟨rfl, ⟨by decide, by decide⟩, rfl, (fr_cons (Or.inl (Nat.le_of_ble_eq_true rfl)) (fr_cons (Or.inl (Nat.le_of_ble_eq_true rfl)) (fr_cons (Or.inl (Nat.le_of_ble_eq_true rfl)) (fr_cons (Or.inl (Nat.le_of_ble_eq_true rfl)) (fr_cons (Or.inl (Nat.le_of_ble_eq_true rfl)) (fr_cons (Or.inl (Nat.le_of_ble_eq_true rfl)) (fr_cons (Or.inl (Nat.le_of_ble_eq_true rfl)) (fr_cons (Or.inl (Nat.le_of_ble_eq_true rfl)) (fr_cons (Or.inl (Nat.le_of_ble_eq_true rfl)) (fr_cons (Or.inr (Nat.le_add_left 1000 _)) (fr_cons (Or.inl (Nat.le_of_ble_eq_true rfl)) (fr_nil)))))))))))), rfl⟩ fr_i rfl rfl rfl rfl ?_
                obtain ⟨v17, ev17, hf⟩ := flet_e hf
                refine V.join (J := 132) (y := v17) (st' := []) (fun tlv17 => ?_) ?_
                · refine V.if_lt (tgt := 131) dL_bears_108 (by decide) (fun h18 => ?_) (fun h18 => ?_)
                  · refine V.iconst (v := 0) dL_bears_131 rfl ?_
                    exact V.cgi (by rw [← ev17, if_pos h18]) tlv17
                  · refine V.iload (i := 9) dL_bears_111 rfl ?_
                    refine V.iload (i := 7) dL_bears_113 rfl ?_
                    refine V.iload_n (i := 3) dL_bears_115 rfl rfl ?_
                    refine V.icmp_ne (tgt := 123) dL_bears_116 (by decide) (fun h19 => ?_) (fun h19 => ?_)
                    · refine V.iconst (v := 0) dL_bears_123 rfl ?_
                      refine V.icmp_ne (tgt := 131) dL_bears_124 (by decide) (fun h20 => ?_) (fun h20 => ?_)
                      · refine V.iconst (v := 0) dL_bears_131 rfl ?_
                        exact V.cgi (by rw [← ev17, if_neg h18, if_neg h19, if_neg h20]) tlv17
                      · refine V.iconst (v := 1) dL_bears_127 rfl ?_
                        refine V.goto (tgt := 132) dL_bears_128 (by decide) ?_
                        exact V.cgi (by rw [← ev17, if_neg h18, if_neg h19, if_pos h20]) tlv17
                    · refine V.iconst (v := 1) dL_bears_119 rfl ?_
                      refine V.goto (tgt := 124) dL_bears_120 (by decide) ?_
                      refine V.icmp_ne (tgt := 131) dL_bears_124 (by decide) (fun h21 => ?_) (fun h21 => ?_)
                      · refine V.iconst (v := 0) dL_bears_131 rfl ?_
                        exact V.cgi (by rw [← ev17, if_neg h18, if_pos h19, if_neg h21]) tlv17
                      · refine V.iconst (v := 1) dL_bears_127 rfl ?_
                        refine V.goto (tgt := 132) dL_bears_128 (by decide) ?_
                        exact V.cgi (by rw [← ev17, if_neg h18, if_pos h19, if_pos h21]) tlv17
                · refine V.istore (i := 6) (L' := [some (.ref 0), some (.int p1), some (.int p2), some (.int p3), some (.int p4), some (.int x5), some (.int v17), some (.int x7), some (.int r14.1), some (.int v8), some (.int r14.2)]) dL_bears_132 (Nat.le_of_ble_eq_true rfl) rfl rfl ?_
                  refine V.iload (i := 5) dL_bears_134 rfl ?_
                  refine V.iload (i := 8) dL_bears_136 rfl ?_
                  refine V.isub dL_bears_138 ?_
                  refine V.istore (i := 5) (L' := [some (.ref 0), some (.int p1), some (.int p2), some (.int p3), some (.int p4), some (.int (x5 - r14.1)), some (.int v17), some (.int x7), some (.int r14.1), some (.int v8), some (.int r14.2)]) dL_bears_139 (Nat.le_of_ble_eq_true rfl) rfl rfl ?_
                  refine V.iinc (i := 7) (v := (x7 + 1)) (L' := [some (.ref 0), some (.int p1), some (.int p2), some (.int p3), some (.int p4), some (.int (x5 - r14.1)), some (.int v17), some (.int (x7 + 1)), some (.int r14.1), some (.int v8), some (.int r14.2)]) dL_bears_141 rfl rfl (Nat.le_of_ble_eq_true rfl) rfl rfl ?_
                  refine V.goto (tgt := 23) dL_bears_144 (by decide) ?_
                  exact V.locs (L' := [some (.ref 0), some (.int p1), some (.int p2), some (.int p3), some (.int p4), some (.int (x5 - r14.1)), some (.int v17), some (.int (x7 + 1)), none, none, none]) ⟨rfl, ⟨rfl, ⟨rfl, ⟨rfl, ⟨rfl, ⟨rfl, ⟨rfl, ⟨rfl, trivial⟩⟩⟩⟩⟩⟩⟩⟩ (ih hf hx)
              · rw [hv15b] at hc hf
                dsimp only [fth] at hf
                cases hf
          · rw [hv6b] at hc hf
            dsimp only [fth] at hf
            cases hf
def s_L_bears (a1 : Int32) (a2 : Int32) (State_cells : Nat → Int32) (History_oldest : Int32) (History_size : Int32) (History_snapshotTaken : Int32) (History_saved : Nat → Int32) (History_snapshot : Nat → Int32) : Option (Int32 × (Nat → Int32) × (Int32) × (Int32) × (Int32) × (Nat → Int32) × (Nat → Int32)) := (s_X10_name a1 a2 4 State_cells).bind fun v1 => fth v1 (fun v2 => (s_X10_keep State_cells History_snapshotTaken History_snapshot).bind fun v3 => (s_L_bears_L23 a1 v2 gF a2 1 1 State_cells History_oldest History_size History_saved).bind fun r22 => if (r22.2.1 = 0 : Prop) then (some (0, r22.2.2.2.1, r22.2.2.2.2.1, r22.2.2.2.2.2.1, v3.2.1, r22.2.2.2.2.2.2, v3.2.2)) else ((s_X10_restore r22.2.2.2.1 r22.2.2.2.2.1 r22.2.2.2.2.2.1 v3.2.1 r22.2.2.2.2.2.2 v3.2.2).bind fun v23 => fth v23.1 (fun v24 => flet ((if (v24 = v3.1 : Prop) then 1 else 0) : Int32) fun v25 => fz v25 (some (v25, v23.2.1, v23.2.2.1, v23.2.2.2.1, v3.2.1, v23.2.2.2.2, v3.2.2))) (fun E9 => none))) (fun E9 => none)
set_option maxHeartbeats 4000000 in
set_option maxRecDepth 100000 in
theorem ct_L_bears {a1 : Int32} {a2 : Int32} {State_cells : Nat → Int32} {History_oldest : Int32} {History_size : Int32} {History_snapshotTaken : Int32} {History_saved : Nat → Int32} {History_snapshot : Nat → Int32} {Buffer_size : Int32} {Buffer_codes : Nat → Int32} {Reader_pattern : Nat} {Reader_place : Int32} {Word_size : Int32} {Word_letters : Nat → Int32} {res : Int32 × (Nat → Int32) × (Int32) × (Int32) × (Int32) × (Nat → Int32) × (Nat → Int32)} (hf : s_L_bears a1 a2 State_cells History_oldest History_size History_snapshotTaken History_saved History_snapshot = some res) : Ct k_L_bears [.ref 0, .int a1, .int a2] [.inl (5, [.ref 1, .ref 3, .ref 6, .ref 8, .ref 9]), .inl (3, [.ref 2]), .inr (910, .inl State_cells), .inl (1, [.ref 4, .ref 5, .int History_oldest, .int History_size, .int History_snapshotTaken]), .inr (5460, .inl History_saved), .inr (910, .inl History_snapshot), .inl (0, [.ref 7, .int Buffer_size]), .inr (60, .inl Buffer_codes), .inl (2, [.ref (Reader_pattern + 1000), .int Reader_place]), .inl (4, [.ref 10, .int Word_size]), .inr (8, .inl Word_letters)] (.inl (some (.int res.1))) [.inl (5, [.ref 1, .ref 3, .ref 6, .ref 8, .ref 9]), .inl (3, [.ref 2]), .inr (910, .inl res.2.1), .inl (1, [.ref 4, .ref 5, .int res.2.2.1, .int res.2.2.2.1, .int res.2.2.2.2.1]), .inr (5460, .inl res.2.2.2.2.2.1), .inr (910, .inl res.2.2.2.2.2.2), .inl (0, [.ref 7, .int Buffer_size]), .inr (60, .inl Buffer_codes), .inl (2, [.ref (Reader_pattern + 1000), .int Reader_place]), .inl (4, [.ref 10, .int Word_size]), .inr (8, .inl Word_letters)] := by
  unfold s_L_bears at hf
  refine Ct.of (L := [some (.ref 0), some (.int a1), some (.int a2), none, none, none, none, none, none, none, none]) cal_L_bears (fent_pad (j := 8) rfl) (Nat.le_of_ble_eq_true rfl) ?_
  refine V.aload_n (i := 0) dL_bears_0 rfl rfl ?_
  refine V.iload_n (i := 1) dL_bears_1 rfl rfl ?_
  refine V.iload_n (i := 2) dL_bears_2 rfl rfl ?_
  refine V.iconst (v := 4) dL_bears_3 rfl ?_
  obtain ⟨v1, hv1, hf⟩ := fbind hf
  have hc := ct_X10_name (a1 := a1) (a2 := a2) (a3 := 4) (State_cells := State_cells) (History_oldest := History_oldest) (History_size := History_size) (History_snapshotTaken := History_snapshotTaken) (History_saved := History_saved) (History_snapshot := History_snapshot) (Buffer_size := Buffer_size) (Buffer_codes := Buffer_codes) (Reader_pattern := Reader_pattern) (Reader_place := Reader_place) (Word_size := Word_size) (Word_letters := Word_letters) hv1
  rcases hv1b : v1 with v2 | E9
  · rw [hv1b] at hc hf
    dsimp only [fth] at hf
    refine V.callVn (pl := [0, 1, 2, 3, 4, 5, 6, 7, 8, 9, 10]) (σ' := [.inl (5, [.ref 1, .ref 3, .ref 6, .ref 8, .ref 9]), .inl (3, [.ref 2]), .inr (910, .inl State_cells), .inl (1, [.ref 4, .ref 5, .int History_oldest, .int History_size, .int History_snapshotTaken]), .inr (5460, .inl History_saved), .inr (910, .inl History_snapshot), .inl (0, [.ref 7, .int Buffer_size]), .inr (60, .inl Buffer_codes), .inl (2, [.ref (Reader_pattern + 1000), .int Reader_place]), .inl (4, [.ref 10, .int Word_size]), .inr (8, .inl Word_letters)]) (st2 := [.int v2]) (cl2 := 0) (sl2 := 0) hc dL_bears_4 w284 ⟨w285, w286⟩ cal_X10_name rfl ⟨⟨Nat.le_of_ble_eq_true rfl, Nat.le_of_ble_eq_true rfl⟩, Nat.le_of_ble_eq_true rfl, Nat.le_of_ble_eq_true rfl⟩ (Nat.le_of_ble_eq_true rfl) ⟨_, _, _, _, rfl, rfl⟩ rfl ⟨rfl, ⟨by decide, by decide⟩, rfl, (fr_cons (Or.inl (Nat.le_of_ble_eq_true rfl)) (fr_cons (Or.inl (Nat.le_of_ble_eq_true rfl)) (fr_cons (Or.inl (Nat.le_of_ble_eq_true rfl)) (fr_cons (Or.inl (Nat.le_of_ble_eq_true rfl)) (fr_cons (Or.inl (Nat.le_of_ble_eq_true rfl)) (fr_cons (Or.inl (Nat.le_of_ble_eq_true rfl)) (fr_cons (Or.inl (Nat.le_of_ble_eq_true rfl)) (fr_cons (Or.inl (Nat.le_of_ble_eq_true rfl)) (fr_cons (Or.inl (Nat.le_of_ble_eq_true rfl)) (fr_cons (Or.inr (Nat.le_add_left 1000 _)) (fr_cons (Or.inl (Nat.le_of_ble_eq_true rfl)) (fr_nil)))))))))))), rfl⟩ fr_i rfl rfl rfl rfl ?_
    refine V.istore_n (i := 3) (L' := [some (.ref 0), some (.int a1), some (.int a2), some (.int v2), none, none, none, none, none, none, none]) dL_bears_7 rfl (Nat.le_of_ble_eq_true rfl) rfl rfl ?_
    refine V.aload_n (i := 0) dL_bears_8 rfl rfl ?_
    obtain ⟨v3, hv3, hf⟩ := fbind hf
    refine V.callVn (pl := [0, 1, 2, 3, 4, 5, 6, 7, 8, 9, 10]) (σ' := [.inl (5, [.ref 1, .ref 3, .ref 6, .ref 8, .ref 9]), .inl (3, [.ref 2]), .inr (910, .inl State_cells), .inl (1, [.ref 4, .ref 5, .int History_oldest, .int History_size, .int v3.2.1]), .inr (5460, .inl History_saved), .inr (910, .inl v3.2.2), .inl (0, [.ref 7, .int Buffer_size]), .inr (60, .inl Buffer_codes), .inl (2, [.ref (Reader_pattern + 1000), .int Reader_place]), .inl (4, [.ref 10, .int Word_size]), .inr (8, .inl Word_letters)]) (st2 := [.int v3.1]) (cl2 := 0) (sl2 := 0) (ct_X10_keep (State_cells := State_cells) (History_oldest := History_oldest) (History_size := History_size) (History_snapshotTaken := History_snapshotTaken) (History_saved := History_saved) (History_snapshot := History_snapshot) (Buffer_size := Buffer_size) (Buffer_codes := Buffer_codes) (Reader_pattern := Reader_pattern) (Reader_place := Reader_place) (Word_size := Word_size) (Word_letters := Word_letters) hv3) dL_bears_9 w621 ⟨w622, w623⟩ cal_X10_keep rfl ⟨⟨Nat.le_of_ble_eq_true rfl, Nat.le_of_ble_eq_true rfl⟩, Nat.le_of_ble_eq_true rfl, Nat.le_of_ble_eq_true rfl⟩ (Nat.le_of_ble_eq_true rfl) ⟨_, _, _, _, rfl, rfl⟩ rfl ⟨rfl, ⟨by decide, by decide⟩, rfl, (fr_cons (Or.inl (Nat.le_of_ble_eq_true rfl)) (fr_cons (Or.inl (Nat.le_of_ble_eq_true rfl)) (fr_cons (Or.inl (Nat.le_of_ble_eq_true rfl)) (fr_cons (Or.inl (Nat.le_of_ble_eq_true rfl)) (fr_cons (Or.inl (Nat.le_of_ble_eq_true rfl)) (fr_cons (Or.inl (Nat.le_of_ble_eq_true rfl)) (fr_cons (Or.inl (Nat.le_of_ble_eq_true rfl)) (fr_cons (Or.inl (Nat.le_of_ble_eq_true rfl)) (fr_cons (Or.inl (Nat.le_of_ble_eq_true rfl)) (fr_cons (Or.inr (Nat.le_add_left 1000 _)) (fr_cons (Or.inl (Nat.le_of_ble_eq_true rfl)) (fr_nil)))))))))))), rfl⟩ fr_i rfl rfl rfl rfl ?_
    refine V.istore (i := 4) (L' := [some (.ref 0), some (.int a1), some (.int a2), some (.int v2), some (.int v3.1), none, none, none, none, none, none]) dL_bears_12 (Nat.le_of_ble_eq_true rfl) rfl rfl ?_
    refine V.iload_n (i := 2) dL_bears_14 rfl rfl ?_
    refine V.istore (i := 5) (L' := [some (.ref 0), some (.int a1), some (.int a2), some (.int v2), some (.int v3.1), some (.int a2), none, none, none, none, none]) dL_bears_15 (Nat.le_of_ble_eq_true rfl) rfl rfl ?_
    refine V.iconst (v := 1) dL_bears_17 rfl ?_
    refine V.istore (i := 6) (L' := [some (.ref 0), some (.int a1), some (.int a2), some (.int v2), some (.int v3.1), some (.int a2), some (.int 1), none, none, none, none]) dL_bears_18 (Nat.le_of_ble_eq_true rfl) rfl rfl ?_
    refine V.iconst (v := 1) dL_bears_20 rfl ?_
    refine V.istore (i := 7) (L' := [some (.ref 0), some (.int a1), some (.int a2), some (.int v2), some (.int v3.1), some (.int a2), some (.int 1), some (.int 1), none, none, none]) dL_bears_21 (Nat.le_of_ble_eq_true rfl) rfl rfl ?_
    obtain ⟨r22, hr22, hf⟩ := fbind hf
    refine v_L_bears_L23 gF hr22 ?_
    refine V.iload (i := 6) dL_bears_147 rfl ?_
    refine V.if_eq (tgt := 165) dL_bears_149 (by decide) (fun h => ?_) (fun h => ?_)
    · have hf := fif_t h hf
      refine V.iconst (v := 0) dL_bears_165 rfl ?_
      obtain rfl := Option.some.inj hf
      exact V.zret (v := 0) dL_bears_166 rfl (by decide +kernel) (Nat.le_of_ble_eq_true rfl) (Nat.le_of_ble_eq_true rfl) rfl
    · have hf := fif_f h hf
      refine V.aload_n (i := 0) dL_bears_152 rfl rfl ?_
      obtain ⟨v23, hv23, hf⟩ := fbind hf
      have hc := ct_X10_restore (State_cells := r22.2.2.2.1) (History_oldest := r22.2.2.2.2.1) (History_size := r22.2.2.2.2.2.1) (History_snapshotTaken := v3.2.1) (History_saved := r22.2.2.2.2.2.2) (History_snapshot := v3.2.2) (Buffer_size := Buffer_size) (Buffer_codes := Buffer_codes) (Reader_pattern := Reader_pattern) (Reader_place := Reader_place) (Word_size := Word_size) (Word_letters := Word_letters) hv23
      rcases hv23b : v23.1 with v24 | E9
      · rw [hv23b] at hc hf
        dsimp only [fth] at hf
        refine V.callVn (pl := [0, 1, 2, 3, 4, 5, 6, 7, 8, 9, 10]) (σ' := [.inl (5, [.ref 1, .ref 3, .ref 6, .ref 8, .ref 9]), .inl (3, [.ref 2]), .inr (910, .inl v23.2.1), .inl (1, [.ref 4, .ref 5, .int v23.2.2.1, .int v23.2.2.2.1, .int v3.2.1]), .inr (5460, .inl v23.2.2.2.2), .inr (910, .inl v3.2.2), .inl (0, [.ref 7, .int Buffer_size]), .inr (60, .inl Buffer_codes), .inl (2, [.ref (Reader_pattern + 1000), .int Reader_place]), .inl (4, [.ref 10, .int Word_size]), .inr (8, .inl Word_letters)]) (st2 := [.int v24]) (cl2 := 0) (sl2 := 0) hc dL_bears_153 w630 ⟨w631, w632⟩ cal_X10_restore rfl ⟨⟨Nat.le_of_ble_eq_true rfl, Nat.le_of_ble_eq_true rfl⟩, Nat.le_of_ble_eq_true rfl, Nat.le_of_ble_eq_true rfl⟩ (Nat.le_of_ble_eq_true rfl) ⟨_, _, _, _, rfl, rfl⟩ rfl ⟨rfl, ⟨by decide, by decide⟩, rfl, (fr_cons (Or.inl (Nat.le_of_ble_eq_true rfl)) (fr_cons (Or.inl (Nat.le_of_ble_eq_true rfl)) (fr_cons (Or.inl (Nat.le_of_ble_eq_true rfl)) (fr_cons (Or.inl (Nat.le_of_ble_eq_true rfl)) (fr_cons (Or.inl (Nat.le_of_ble_eq_true rfl)) (fr_cons (Or.inl (Nat.le_of_ble_eq_true rfl)) (fr_cons (Or.inl (Nat.le_of_ble_eq_true rfl)) (fr_cons (Or.inl (Nat.le_of_ble_eq_true rfl)) (fr_cons (Or.inl (Nat.le_of_ble_eq_true rfl)) (fr_cons (Or.inr (Nat.le_add_left 1000 _)) (fr_cons (Or.inl (Nat.le_of_ble_eq_true rfl)) (fr_nil)))))))))))), rfl⟩ fr_i rfl rfl rfl rfl ?_
        refine V.iload (i := 4) dL_bears_156 rfl ?_
        obtain ⟨v25, ev25, hf⟩ := flet_e hf
        refine V.join (J := 166) (y := v25) (st' := []) (fun tlv25 => ?_) ?_
        · refine V.icmp_ne (tgt := 165) dL_bears_158 (by decide) (fun h26 => ?_) (fun h26 => ?_)
          · refine V.iconst (v := 0) dL_bears_165 rfl ?_
            exact V.cgi (by rw [← ev25, if_neg h26]) tlv25
          · refine V.iconst (v := 1) dL_bears_161 rfl ?_
            refine V.goto (tgt := 166) dL_bears_162 (by decide) ?_
            exact V.cgi (by rw [← ev25, if_pos h26]) tlv25
        · obtain ⟨hz, hf⟩ := fz_e hf
          obtain rfl := Option.some.inj hf
          exact V.zret (v := v25) dL_bears_166 rfl hz (Nat.le_of_ble_eq_true rfl) (Nat.le_of_ble_eq_true rfl) rfl
      · rw [hv23b] at hc hf
        dsimp only [fth] at hf
        cases hf
  · rw [hv1b] at hc hf
    dsimp only [fth] at hf
    cases hf
def k_L_fastens : fK := (yL_fastens, cL_fastens, 9, (some .boolean), [], (10, 169), (2, 14), (3, 20))
theorem cal_L_fastens : fCal k_L_fastens 3 := ⟨⟨wc654, w5⟩, ⟨by decide +kernel, by decide +kernel⟩, by decide +kernel, by decide +kernel⟩
def s_L_fastens_L33 (p1 : Int32) (p2 : Int32) (State_cells : Nat → Int32) : Nat → Int32 → (Nat → Int32) → Option (Int32 × (Nat → Int32))
  | 0, _, _ => none
  | n + 1, x7, arr11 => if (8 ≤ x7 : Prop) then (some (x7, arr11)) else ((s_X10_knot p1 p2 x7 1 State_cells).bind fun v7 => fth v7 (fun v8 => fst 8 arr11 x7 v8 fun s9 => s_L_fastens_L33 p1 p2 State_cells n (x7 + 1) s9) (fun E9 => none))
set_option maxHeartbeats 4000000 in
set_option maxRecDepth 100000 in
theorem v_L_fastens_L33 {out : fO} {σ' : List fE} {p1 : Int32} {p2 : Int32} {p3 : Int32} {p4 : Int32} {p6 : Int32} {State_cells : Nat → Int32} {History_oldest : Int32} {History_size : Int32} {History_snapshotTaken : Int32} {History_saved : Nat → Int32} {History_snapshot : Nat → Int32} {Buffer_size : Int32} {Buffer_codes : Nat → Int32} {Reader_pattern : Nat} {Reader_place : Int32} {Word_size : Int32} {Word_letters : Nat → Int32} : ∀ (n : Nat) {x7 : Int32} {arr11 : (Nat → Int32)} {res : Int32 × (Nat → Int32)} (hf : s_L_fastens_L33 p1 p2 State_cells n x7 arr11 = some res) (hx : V (fXm 11 k_L_fastens out σ') (krm k_L_fastens) k_L_fastens 11 60 [some (.ref 0), some (.int p1), some (.int p2), some (.int p3), some (.int p4), some (.ref 11), some (.int p6), some (.int res.1), none] [] [.inl (5, [.ref 1, .ref 3, .ref 6, .ref 8, .ref 9]), .inl (3, [.ref 2]), .inr (910, .inl State_cells), .inl (1, [.ref 4, .ref 5, .int History_oldest, .int History_size, .int History_snapshotTaken]), .inr (5460, .inl History_saved), .inr (910, .inl History_snapshot), .inl (0, [.ref 7, .int Buffer_size]), .inr (60, .inl Buffer_codes), .inl (2, [.ref (Reader_pattern + 1000), .int Reader_place]), .inl (4, [.ref 10, .int Word_size]), .inr (8, .inl Word_letters), .inr (8, .inl res.2)] 1 8), V (fXm 11 k_L_fastens out σ') (krm k_L_fastens) k_L_fastens 11 33 [some (.ref 0), some (.int p1), some (.int p2), some (.int p3), some (.int p4), some (.ref 11), some (.int p6), some (.int x7), none] [] [.inl (5, [.ref 1, .ref 3, .ref 6, .ref 8, .ref 9]), .inl (3, [.ref 2]), .inr (910, .inl State_cells), .inl (1, [.ref 4, .ref 5, .int History_oldest, .int History_size, .int History_snapshotTaken]), .inr (5460, .inl History_saved), .inr (910, .inl History_snapshot), .inl (0, [.ref 7, .int Buffer_size]), .inr (60, .inl Buffer_codes), .inl (2, [.ref (Reader_pattern + 1000), .int Reader_place]), .inl (4, [.ref 10, .int Word_size]), .inr (8, .inl Word_letters), .inr (8, .inl arr11)] 1 8 := by
  intro n
  induction n with
  | zero =>
    intro x7 arr11 res hf hx
    rw [s_L_fastens_L33] at hf
    cases hf
  | succ n ih =>
    intro x7 arr11 res hf hx
    rw [s_L_fastens_L33] at hf
    refine V.iload (i := 7) dL_fastens_33 rfl ?_
    refine V.bipush (v := 8) dL_fastens_35 rfl ?_
    refine V.icmp_ge (tgt := 60) dL_fastens_37 (by decide) (fun h => ?_) (fun h => ?_)
    · have hf := fif_t h hf
      obtain rfl := Option.some.inj hf
      exact hx
    · have hf := fif_f h hf
      refine V.aload (i := 5) dL_fastens_40 rfl ?_
      refine V.iload (i := 7) dL_fastens_42 rfl ?_
      refine V.aload_n (i := 0) dL_fastens_44 rfl rfl ?_
      refine V.iload_n (i := 1) dL_fastens_45 rfl rfl ?_
      refine V.iload_n (i := 2) dL_fastens_46 rfl rfl ?_
      refine V.iload (i := 7) dL_fastens_47 rfl ?_
      refine V.iconst (v := 1) dL_fastens_49 rfl ?_
      obtain ⟨v7, hv7, hf⟩ := fbind hf
      have hc := ct_X10_knot (a1 := p1) (a2 := p2) (a3 := x7) (a4 := 1) (State_cells := State_cells) (History_oldest := History_oldest) (History_size := History_size) (History_snapshotTaken := History_snapshotTaken) (History_saved := History_saved) (History_snapshot := History_snapshot) (Buffer_size := Buffer_size) (Buffer_codes := Buffer_codes) (Reader_pattern := Reader_pattern) (Reader_place := Reader_place) (Word_size := Word_size) (Word_letters := Word_letters) hv7
      rcases hv7b : v7 with v8 | E9
      · rw [hv7b] at hc hf
        dsimp only [fth] at hf
        refine V.callVn (pl := [0, 1, 2, 3, 4, 5, 6, 7, 8, 9, 10]) (σ' := [.inl (5, [.ref 1, .ref 3, .ref 6, .ref 8, .ref 9]), .inl (3, [.ref 2]), .inr (910, .inl State_cells), .inl (1, [.ref 4, .ref 5, .int History_oldest, .int History_size, .int History_snapshotTaken]), .inr (5460, .inl History_saved), .inr (910, .inl History_snapshot), .inl (0, [.ref 7, .int Buffer_size]), .inr (60, .inl Buffer_codes), .inl (2, [.ref (Reader_pattern + 1000), .int Reader_place]), .inl (4, [.ref 10, .int Word_size]), .inr (8, .inl Word_letters), .inr (8, .inl arr11)]) (st2 := [.int v8, .int x7, .ref 11]) (cl2 := 1) (sl2 := 8) hc dL_fastens_50 w320 ⟨w321, w322⟩ cal_X10_knot rfl ⟨⟨Nat.le_of_ble_eq_true rfl, Nat.le_of_ble_eq_true rfl⟩, Nat.le_of_ble_eq_true rfl, Nat.le_of_ble_eq_true rfl⟩ (Nat.le_of_ble_eq_true rfl) ⟨_, _, _, _, rfl, rfl⟩ rfl ⟨rfl, ⟨by decide, by decide⟩, rfl, (fr_cons (Or.inl (Nat.le_of_ble_eq_true rfl)) (fr_cons (Or.inl (Nat.le_of_ble_eq_true rfl)) (fr_cons (Or.inl (Nat.le_of_ble_eq_true rfl)) (fr_cons (Or.inl (Nat.le_of_ble_eq_true rfl)) (fr_cons (Or.inl (Nat.le_of_ble_eq_true rfl)) (fr_cons (Or.inl (Nat.le_of_ble_eq_true rfl)) (fr_cons (Or.inl (Nat.le_of_ble_eq_true rfl)) (fr_cons (Or.inl (Nat.le_of_ble_eq_true rfl)) (fr_cons (Or.inl (Nat.le_of_ble_eq_true rfl)) (fr_cons (Or.inr (Nat.le_add_left 1000 _)) (fr_cons (Or.inl (Nat.le_of_ble_eq_true rfl)) (fr_nil)))))))))))), rfl⟩ fr_i rfl rfl rfl rfl ?_
        obtain ⟨hi, s9, es9, hf⟩ := fst_e hf
        refine V.fst (σ' := [.inl (5, [.ref 1, .ref 3, .ref 6, .ref 8, .ref 9]), .inl (3, [.ref 2]), .inr (910, .inl State_cells), .inl (1, [.ref 4, .ref 5, .int History_oldest, .int History_size, .int History_snapshotTaken]), .inr (5460, .inl History_saved), .inr (910, .inl History_snapshot), .inl (0, [.ref 7, .int Buffer_size]), .inr (60, .inl Buffer_codes), .inl (2, [.ref (Reader_pattern + 1000), .int Reader_place]), .inl (4, [.ref 10, .int Word_size]), .inr (8, .inl Word_letters), .inr (8, .inl s9)]) dL_fastens_53 rfl hi es9 rfl ?_
        refine V.iinc (i := 7) (v := (x7 + 1)) (L' := [some (.ref 0), some (.int p1), some (.int p2), some (.int p3), some (.int p4), some (.ref 11), some (.int p6), some (.int (x7 + 1)), none]) dL_fastens_54 rfl rfl (Nat.le_of_ble_eq_true rfl) rfl rfl ?_
        refine V.goto (tgt := 33) dL_fastens_57 (by decide) ?_
        exact ih hf hx
      · rw [hv7b] at hc hf
        dsimp only [fth] at hf
        cases hf
def s_L_fastens_L119 (p1 : Int32) (p2 : Int32) (State_cells : Nat → Int32) (History_oldest : Int32) (History_size : Int32) (History_saved : Nat → Int32) (arr11 : Nat → Int32) : Nat → Int32 → Option ((Int32 × (Nat → Int32) × (Int32) × (Int32) × (Nat → Int32)) ⊕ (Int32))
  | 0, _ => none
  | n + 1, x8 => if (8 ≤ x8 : Prop) then (some (.inr x8)) else ((s_X10_knot p1 p2 x8 1 State_cells).bind fun v12 => fth v12 (fun v13 => fld 8 arr11 x8 fun v14 => if (v13 = v14 : Prop) then (s_L_fastens_L119 p1 p2 State_cells History_oldest History_size History_saved arr11 n (x8 + 1)) else (some (.inl (0, State_cells, History_oldest, History_size, History_saved)))) (fun E9 => none))
set_option maxHeartbeats 4000000 in
set_option maxRecDepth 100000 in
theorem v_L_fastens_L119 {out : fO} {σ' : List fE} {p1 : Int32} {p2 : Int32} {p3 : Int32} {p4 : Int32} {p6 : Int32} {p7 : Int32} {State_cells : Nat → Int32} {History_oldest : Int32} {History_size : Int32} {History_snapshotTaken : Int32} {History_saved : Nat → Int32} {History_snapshot : Nat → Int32} {Buffer_size : Int32} {Buffer_codes : Nat → Int32} {Reader_pattern : Nat} {Reader_place : Int32} {Word_size : Int32} {Word_letters : Nat → Int32} {arr11 : Nat → Int32} : ∀ (n : Nat) {x8 : Int32} {res : (Int32 × (Nat → Int32) × (Int32) × (Int32) × (Nat → Int32)) ⊕ (Int32)} (hf : s_L_fastens_L119 p1 p2 State_cells History_oldest History_size History_saved arr11 n x8 = some res) (hr : ∀ r, res = .inl r → out = (.inl (some (.int r.1))) ∧ σ' = [.inl (5, [.ref 1, .ref 3, .ref 6, .ref 8, .ref 9]), .inl (3, [.ref 2]), .inr (910, .inl r.2.1), .inl (1, [.ref 4, .ref 5, .int r.2.2.1, .int r.2.2.2.1, .int History_snapshotTaken]), .inr (5460, .inl r.2.2.2.2), .inr (910, .inl History_snapshot), .inl (0, [.ref 7, .int Buffer_size]), .inr (60, .inl Buffer_codes), .inl (2, [.ref (Reader_pattern + 1000), .int Reader_place]), .inl (4, [.ref 10, .int Word_size]), .inr (8, .inl Word_letters)]) (hx : ∀ e, res = .inr e → V (fXm 11 k_L_fastens out σ') (krm k_L_fastens) k_L_fastens 11 151 [some (.ref 0), some (.int p1), some (.int p2), some (.int p3), some (.int p4), some (.ref 11), some (.int p6), some (.int p7), some (.int e)] [] [.inl (5, [.ref 1, .ref 3, .ref 6, .ref 8, .ref 9]), .inl (3, [.ref 2]), .inr (910, .inl State_cells), .inl (1, [.ref 4, .ref 5, .int History_oldest, .int History_size, .int History_snapshotTaken]), .inr (5460, .inl History_saved), .inr (910, .inl History_snapshot), .inl (0, [.ref 7, .int Buffer_size]), .inr (60, .inl Buffer_codes), .inl (2, [.ref (Reader_pattern + 1000), .int Reader_place]), .inl (4, [.ref 10, .int Word_size]), .inr (8, .inl Word_letters), .inr (8, .inl arr11)] 2 14), V (fXm 11 k_L_fastens out σ') (krm k_L_fastens) k_L_fastens 11 119 [some (.ref 0), some (.int p1), some (.int p2), some (.int p3), some (.int p4), some (.ref 11), some (.int p6), some (.int p7), some (.int x8)] [] [.inl (5, [.ref 1, .ref 3, .ref 6, .ref 8, .ref 9]), .inl (3, [.ref 2]), .inr (910, .inl State_cells), .inl (1, [.ref 4, .ref 5, .int History_oldest, .int History_size, .int History_snapshotTaken]), .inr (5460, .inl History_saved), .inr (910, .inl History_snapshot), .inl (0, [.ref 7, .int Buffer_size]), .inr (60, .inl Buffer_codes), .inl (2, [.ref (Reader_pattern + 1000), .int Reader_place]), .inl (4, [.ref 10, .int Word_size]), .inr (8, .inl Word_letters), .inr (8, .inl arr11)] 2 14 := by
  intro n
  induction n with
  | zero =>
    intro x8 res hf hr hx
    rw [s_L_fastens_L119] at hf
    cases hf
  | succ n ih =>
    intro x8 res hf hr hx
    rw [s_L_fastens_L119] at hf
    refine V.iload (i := 8) dL_fastens_119 rfl ?_
    refine V.bipush (v := 8) dL_fastens_121 rfl ?_
    refine V.icmp_ge (tgt := 151) dL_fastens_123 (by decide) (fun h => ?_) (fun h => ?_)
    · have hf := fif_t h hf
      obtain rfl := Option.some.inj hf
      exact hx _ rfl
    · have hf := fif_f h hf
      refine V.aload_n (i := 0) dL_fastens_126 rfl rfl ?_
      refine V.iload_n (i := 1) dL_fastens_127 rfl rfl ?_
      refine V.iload_n (i := 2) dL_fastens_128 rfl rfl ?_
      refine V.iload (i := 8) dL_fastens_129 rfl ?_
      refine V.iconst (v := 1) dL_fastens_131 rfl ?_
      obtain ⟨v12, hv12, hf⟩ := fbind hf
      have hc := ct_X10_knot (a1 := p1) (a2 := p2) (a3 := x8) (a4 := 1) (State_cells := State_cells) (History_oldest := History_oldest) (History_size := History_size) (History_snapshotTaken := History_snapshotTaken) (History_saved := History_saved) (History_snapshot := History_snapshot) (Buffer_size := Buffer_size) (Buffer_codes := Buffer_codes) (Reader_pattern := Reader_pattern) (Reader_place := Reader_place) (Word_size := Word_size) (Word_letters := Word_letters) hv12
      rcases hv12b : v12 with v13 | E9
      · rw [hv12b] at hc hf
        dsimp only [fth] at hf
        refine V.callVn (pl := [0, 1, 2, 3, 4, 5, 6, 7, 8, 9, 10]) (σ' := [.inl (5, [.ref 1, .ref 3, .ref 6, .ref 8, .ref 9]), .inl (3, [.ref 2]), .inr (910, .inl State_cells), .inl (1, [.ref 4, .ref 5, .int History_oldest, .int History_size, .int History_snapshotTaken]), .inr (5460, .inl History_saved), .inr (910, .inl History_snapshot), .inl (0, [.ref 7, .int Buffer_size]), .inr (60, .inl Buffer_codes), .inl (2, [.ref (Reader_pattern + 1000), .int Reader_place]), .inl (4, [.ref 10, .int Word_size]), .inr (8, .inl Word_letters), .inr (8, .inl arr11)]) (st2 := [.int v13]) (cl2 := 2) (sl2 := 14) hc dL_fastens_132 w320 ⟨w321, w322⟩ cal_X10_knot rfl ⟨⟨Nat.le_of_ble_eq_true rfl, Nat.le_of_ble_eq_true rfl⟩, Nat.le_of_ble_eq_true rfl, Nat.le_of_ble_eq_true rfl⟩ (Nat.le_of_ble_eq_true rfl) ⟨_, _, _, _, rfl, rfl⟩ rfl ⟨rfl, ⟨by decide, by decide⟩, rfl, (fr_cons (Or.inl (Nat.le_of_ble_eq_true rfl)) (fr_cons (Or.inl (Nat.le_of_ble_eq_true rfl)) (fr_cons (Or.inl (Nat.le_of_ble_eq_true rfl)) (fr_cons (Or.inl (Nat.le_of_ble_eq_true rfl)) (fr_cons (Or.inl (Nat.le_of_ble_eq_true rfl)) (fr_cons (Or.inl (Nat.le_of_ble_eq_true rfl)) (fr_cons (Or.inl (Nat.le_of_ble_eq_true rfl)) (fr_cons (Or.inl (Nat.le_of_ble_eq_true rfl)) (fr_cons (Or.inl (Nat.le_of_ble_eq_true rfl)) (fr_cons (Or.inr (Nat.le_add_left 1000 _)) (fr_cons (Or.inl (Nat.le_of_ble_eq_true rfl)) (fr_nil)))))))))))), rfl⟩ fr_i rfl rfl rfl rfl ?_
        refine V.aload (i := 5) dL_fastens_135 rfl ?_
        refine V.iload (i := 8) dL_fastens_137 rfl ?_
        obtain ⟨hi, v14, ev14, hf⟩ := fld_e hf
        refine V.fld dL_fastens_139 rfl hi ev14 ?_
        refine V.icmp_eq (tgt := 145) dL_fastens_140 (by decide) (fun h => ?_) (fun h => ?_)
        · have hf := fif_t h hf
          refine V.iinc (i := 8) (v := (x8 + 1)) (L' := [some (.ref 0), some (.int p1), some (.int p2), some (.int p3), some (.int p4), some (.ref 11), some (.int p6), some (.int p7), some (.int (x8 + 1))]) dL_fastens_145 rfl rfl (Nat.le_of_ble_eq_true rfl) rfl rfl ?_
          refine V.goto (tgt := 119) dL_fastens_148 (by decide) ?_
          exact ih hf hr hx
        · have hf := fif_f h hf
          refine V.iconst (v := 0) dL_fastens_143 rfl ?_
          obtain rfl := Option.some.inj hf
          obtain ⟨e1, e2⟩ := hr _ rfl
          subst e1; subst e2
          exact V.zretD (v := 0) dL_fastens_144 rfl (by decide +kernel) (Nat.le_of_ble_eq_true rfl) (Nat.le_of_ble_eq_true rfl) (Nat.le_of_ble_eq_true rfl) (τ := [.inr (8, .inl arr11)]) rfl
      · rw [hv12b] at hc hf
        dsimp only [fth] at hf
        cases hf
def s_L_fastens (a1 : Int32) (a2 : Int32) (State_cells : Nat → Int32) (History_oldest : Int32) (History_size : Int32) (History_saved : Nat → Int32) : Option (Int32 × (Nat → Int32) × (Int32) × (Int32) × (Nat → Int32)) := (s_X10_name a1 a2 2 State_cells).bind fun v1 => fth v1 (fun v2 => (s_X10_name a1 a2 3 State_cells).bind fun v3 => fth v3 (fun v4 => (s_X10_count 2 State_cells History_size).bind fun v5 => fth v5 (fun v6 => (s_L_fastens_L33 a1 a2 State_cells gF 0 (fun _ => 0)).bind fun r10 => (s_L_tryFast a1 a2 State_cells History_oldest History_size History_saved).bind fun v11 => if (v11.1 = (-7003) : Prop) then ((s_X10_name a1 a2 2 v11.2.1).bind fun v25 => fth v25 (fun v26 => if (v26 = v2 : Prop) then ((s_X10_count 2 v11.2.1 v11.2.2.2.1).bind fun v27 => fth v27 (fun v28 => if (v28 = v6 : Prop) then ((s_X10_fisher a1 2 v11.2.1).bind fun v29 => fth v29 (fun v30 => flet ((if ((v2 - v4) ≤ v30 : Prop) then 0 else 1) : Int32) fun v31 => fz v31 (some (v31, v11.2.1, v11.2.2.1, v11.2.2.2.1, v11.2.2.2.2))) (fun E9 => none)) else (some (0, v11.2.1, v11.2.2.1, v11.2.2.2.1, v11.2.2.2.2))) (fun E9 => none)) else (some (0, v11.2.1, v11.2.2.1, v11.2.2.2.1, v11.2.2.2.2))) (fun E9 => none)) else ((s_L_fastens_L119 a1 a2 v11.2.1 v11.2.2.1 v11.2.2.2.1 v11.2.2.2.2 r10.2 gF 0).bind fun r15 => fsum r15 (fun r9 => some r9) (fun e16 => if (v11.1 = (v2 - v4) : Prop) then ((s_X10_name a1 a2 2 v11.2.1).bind fun v17 => fth v17 (fun v18 => if (v18 = v4 : Prop) then ((s_X10_name a1 a2 3 v11.2.1).bind fun v19 => fth v19 (fun v20 => if (v20 = v4 : Prop) then ((s_X10_count 2 v11.2.1 v11.2.2.2.1).bind fun v21 => fth v21 (fun v22 => flet ((if (v22 = (v6 + v11.1) : Prop) then 1 else 0) : Int32) fun v23 => fz v23 (some (v23, v11.2.1, v11.2.2.1, v11.2.2.2.1, v11.2.2.2.2))) (fun E9 => none)) else (some (0, v11.2.1, v11.2.2.1, v11.2.2.2.1, v11.2.2.2.2))) (fun E9 => none)) else (some (0, v11.2.1, v11.2.2.1, v11.2.2.2.1, v11.2.2.2.2))) (fun E9 => none)) else (some (0, v11.2.1, v11.2.2.1, v11.2.2.2.1, v11.2.2.2.2))))) (fun E9 => none)) (fun E9 => none)) (fun E9 => none)
set_option maxHeartbeats 4000000 in
set_option maxRecDepth 100000 in
theorem ct_L_fastens {a1 : Int32} {a2 : Int32} {State_cells : Nat → Int32} {History_oldest : Int32} {History_size : Int32} {History_snapshotTaken : Int32} {History_saved : Nat → Int32} {History_snapshot : Nat → Int32} {Buffer_size : Int32} {Buffer_codes : Nat → Int32} {Reader_pattern : Nat} {Reader_place : Int32} {Word_size : Int32} {Word_letters : Nat → Int32} {res : Int32 × (Nat → Int32) × (Int32) × (Int32) × (Nat → Int32)} (hf : s_L_fastens a1 a2 State_cells History_oldest History_size History_saved = some res) : Ct k_L_fastens [.ref 0, .int a1, .int a2] [.inl (5, [.ref 1, .ref 3, .ref 6, .ref 8, .ref 9]), .inl (3, [.ref 2]), .inr (910, .inl State_cells), .inl (1, [.ref 4, .ref 5, .int History_oldest, .int History_size, .int History_snapshotTaken]), .inr (5460, .inl History_saved), .inr (910, .inl History_snapshot), .inl (0, [.ref 7, .int Buffer_size]), .inr (60, .inl Buffer_codes), .inl (2, [.ref (Reader_pattern + 1000), .int Reader_place]), .inl (4, [.ref 10, .int Word_size]), .inr (8, .inl Word_letters)] (.inl (some (.int res.1))) [.inl (5, [.ref 1, .ref 3, .ref 6, .ref 8, .ref 9]), .inl (3, [.ref 2]), .inr (910, .inl res.2.1), .inl (1, [.ref 4, .ref 5, .int res.2.2.1, .int res.2.2.2.1, .int History_snapshotTaken]), .inr (5460, .inl res.2.2.2.2), .inr (910, .inl History_snapshot), .inl (0, [.ref 7, .int Buffer_size]), .inr (60, .inl Buffer_codes), .inl (2, [.ref (Reader_pattern + 1000), .int Reader_place]), .inl (4, [.ref 10, .int Word_size]), .inr (8, .inl Word_letters)] := by
  unfold s_L_fastens at hf
  refine Ct.of (L := [some (.ref 0), some (.int a1), some (.int a2), none, none, none, none, none, none]) cal_L_fastens (fent_pad (j := 6) rfl) (Nat.le_of_ble_eq_true rfl) ?_
  refine V.aload_n (i := 0) dL_fastens_0 rfl rfl ?_
  refine V.iload_n (i := 1) dL_fastens_1 rfl rfl ?_
  refine V.iload_n (i := 2) dL_fastens_2 rfl rfl ?_
  refine V.iconst (v := 2) dL_fastens_3 rfl ?_
  obtain ⟨v1, hv1, hf⟩ := fbind hf
  have hc := ct_X10_name (a1 := a1) (a2 := a2) (a3 := 2) (State_cells := State_cells) (History_oldest := History_oldest) (History_size := History_size) (History_snapshotTaken := History_snapshotTaken) (History_saved := History_saved) (History_snapshot := History_snapshot) (Buffer_size := Buffer_size) (Buffer_codes := Buffer_codes) (Reader_pattern := Reader_pattern) (Reader_place := Reader_place) (Word_size := Word_size) (Word_letters := Word_letters) hv1
  rcases hv1b : v1 with v2 | E9
  · rw [hv1b] at hc hf
    dsimp only [fth] at hf
    refine V.callVn (pl := [0, 1, 2, 3, 4, 5, 6, 7, 8, 9, 10]) (σ' := [.inl (5, [.ref 1, .ref 3, .ref 6, .ref 8, .ref 9]), .inl (3, [.ref 2]), .inr (910, .inl State_cells), .inl (1, [.ref 4, .ref 5, .int History_oldest, .int History_size, .int History_snapshotTaken]), .inr (5460, .inl History_saved), .inr (910, .inl History_snapshot), .inl (0, [.ref 7, .int Buffer_size]), .inr (60, .inl Buffer_codes), .inl (2, [.ref (Reader_pattern + 1000), .int Reader_place]), .inl (4, [.ref 10, .int Word_size]), .inr (8, .inl Word_letters)]) (st2 := [.int v2]) (cl2 := 0) (sl2 := 0) hc dL_fastens_4 w284 ⟨w285, w286⟩ cal_X10_name rfl ⟨⟨Nat.le_of_ble_eq_true rfl, Nat.le_of_ble_eq_true rfl⟩, Nat.le_of_ble_eq_true rfl, Nat.le_of_ble_eq_true rfl⟩ (Nat.le_of_ble_eq_true rfl) ⟨_, _, _, _, rfl, rfl⟩ rfl ⟨rfl, ⟨by decide, by decide⟩, rfl, (fr_cons (Or.inl (Nat.le_of_ble_eq_true rfl)) (fr_cons (Or.inl (Nat.le_of_ble_eq_true rfl)) (fr_cons (Or.inl (Nat.le_of_ble_eq_true rfl)) (fr_cons (Or.inl (Nat.le_of_ble_eq_true rfl)) (fr_cons (Or.inl (Nat.le_of_ble_eq_true rfl)) (fr_cons (Or.inl (Nat.le_of_ble_eq_true rfl)) (fr_cons (Or.inl (Nat.le_of_ble_eq_true rfl)) (fr_cons (Or.inl (Nat.le_of_ble_eq_true rfl)) (fr_cons (Or.inl (Nat.le_of_ble_eq_true rfl)) (fr_cons (Or.inr (Nat.le_add_left 1000 _)) (fr_cons (Or.inl (Nat.le_of_ble_eq_true rfl)) (fr_nil)))))))))))), rfl⟩ fr_i rfl rfl rfl rfl ?_
    refine V.istore_n (i := 3) (L' := [some (.ref 0), some (.int a1), some (.int a2), some (.int v2), none, none, none, none, none]) dL_fastens_7 rfl (Nat.le_of_ble_eq_true rfl) rfl rfl ?_
    refine V.aload_n (i := 0) dL_fastens_8 rfl rfl ?_
    refine V.iload_n (i := 1) dL_fastens_9 rfl rfl ?_
    refine V.iload_n (i := 2) dL_fastens_10 rfl rfl ?_
    refine V.iconst (v := 3) dL_fastens_11 rfl ?_
    obtain ⟨v3, hv3, hf⟩ := fbind hf
    have hc := ct_X10_name (a1 := a1) (a2 := a2) (a3 := 3) (State_cells := State_cells) (History_oldest := History_oldest) (History_size := History_size) (History_snapshotTaken := History_snapshotTaken) (History_saved := History_saved) (History_snapshot := History_snapshot) (Buffer_size := Buffer_size) (Buffer_codes := Buffer_codes) (Reader_pattern := Reader_pattern) (Reader_place := Reader_place) (Word_size := Word_size) (Word_letters := Word_letters) hv3
    rcases hv3b : v3 with v4 | E9
    · rw [hv3b] at hc hf
      dsimp only [fth] at hf
      refine V.callVn (pl := [0, 1, 2, 3, 4, 5, 6, 7, 8, 9, 10]) (σ' := [.inl (5, [.ref 1, .ref 3, .ref 6, .ref 8, .ref 9]), .inl (3, [.ref 2]), .inr (910, .inl State_cells), .inl (1, [.ref 4, .ref 5, .int History_oldest, .int History_size, .int History_snapshotTaken]), .inr (5460, .inl History_saved), .inr (910, .inl History_snapshot), .inl (0, [.ref 7, .int Buffer_size]), .inr (60, .inl Buffer_codes), .inl (2, [.ref (Reader_pattern + 1000), .int Reader_place]), .inl (4, [.ref 10, .int Word_size]), .inr (8, .inl Word_letters)]) (st2 := [.int v4]) (cl2 := 0) (sl2 := 0) hc dL_fastens_12 w284 ⟨w285, w286⟩ cal_X10_name rfl ⟨⟨Nat.le_of_ble_eq_true rfl, Nat.le_of_ble_eq_true rfl⟩, Nat.le_of_ble_eq_true rfl, Nat.le_of_ble_eq_true rfl⟩ (Nat.le_of_ble_eq_true rfl) ⟨_, _, _, _, rfl, rfl⟩ rfl ⟨rfl, ⟨by decide, by decide⟩, rfl, (fr_cons (Or.inl (Nat.le_of_ble_eq_true rfl)) (fr_cons (Or.inl (Nat.le_of_ble_eq_true rfl)) (fr_cons (Or.inl (Nat.le_of_ble_eq_true rfl)) (fr_cons (Or.inl (Nat.le_of_ble_eq_true rfl)) (fr_cons (Or.inl (Nat.le_of_ble_eq_true rfl)) (fr_cons (Or.inl (Nat.le_of_ble_eq_true rfl)) (fr_cons (Or.inl (Nat.le_of_ble_eq_true rfl)) (fr_cons (Or.inl (Nat.le_of_ble_eq_true rfl)) (fr_cons (Or.inl (Nat.le_of_ble_eq_true rfl)) (fr_cons (Or.inr (Nat.le_add_left 1000 _)) (fr_cons (Or.inl (Nat.le_of_ble_eq_true rfl)) (fr_nil)))))))))))), rfl⟩ fr_i rfl rfl rfl rfl ?_
      refine V.istore (i := 4) (L' := [some (.ref 0), some (.int a1), some (.int a2), some (.int v2), some (.int v4), none, none, none, none]) dL_fastens_15 (Nat.le_of_ble_eq_true rfl) rfl rfl ?_
      refine V.bipush (v := 8) dL_fastens_17 rfl ?_
      refine V.newI (N := 8) (f := fun _ => 0) rfl dL_fastens_19 w48 (by decide) rfl (Nat.le_of_ble_eq_true rfl) rfl (Nat.le_of_ble_eq_true rfl) (Nat.le_of_ble_eq_true rfl) ?_
      refine V.astore (i := 5) (L' := [some (.ref 0), some (.int a1), some (.int a2), some (.int v2), some (.int v4), some (.ref 11), none, none, none]) dL_fastens_21 (Nat.le_of_ble_eq_true rfl) rfl rfl ?_
      refine V.aload_n (i := 0) dL_fastens_23 rfl rfl ?_
      refine V.iconst (v := 2) dL_fastens_24 rfl ?_
      obtain ⟨v5, hv5, hf⟩ := fbind hf
      have hc := ct_X10_count (a1 := 2) (State_cells := State_cells) (History_oldest := History_oldest) (History_size := History_size) (History_snapshotTaken := History_snapshotTaken) (History_saved := History_saved) (History_snapshot := History_snapshot) (Buffer_size := Buffer_size) (Buffer_codes := Buffer_codes) (Reader_pattern := Reader_pattern) (Reader_place := Reader_place) (Word_size := Word_size) (Word_letters := Word_letters) hv5
      rcases hv5b : v5 with v6 | E9
      · rw [hv5b] at hc hf
        dsimp only [fth] at hf
        refine V.callVn (pl := [0, 1, 2, 3, 4, 5, 6, 7, 8, 9, 10]) (σ' := [.inl (5, [.ref 1, .ref 3, .ref 6, .ref 8, .ref 9]), .inl (3, [.ref 2]), .inr (910, .inl State_cells), .inl (1, [.ref 4, .ref 5, .int History_oldest, .int History_size, .int History_snapshotTaken]), .inr (5460, .inl History_saved), .inr (910, .inl History_snapshot), .inl (0, [.ref 7, .int Buffer_size]), .inr (60, .inl Buffer_codes), .inl (2, [.ref (Reader_pattern + 1000), .int Reader_place]), .inl (4, [.ref 10, .int Word_size]), .inr (8, .inl Word_letters), .inr (8, .inl (fun _ => 0))]) (st2 := [.int v6]) (cl2 := 1) (sl2 := 8) hc dL_fastens_25 w404 ⟨w405, w406⟩ cal_X10_count rfl ⟨⟨Nat.le_of_ble_eq_true rfl, Nat.le_of_ble_eq_true rfl⟩, Nat.le_of_ble_eq_true rfl, Nat.le_of_ble_eq_true rfl⟩ (Nat.le_of_ble_eq_true rfl) ⟨_, _, _, _, rfl, rfl⟩ rfl ⟨rfl, ⟨by decide, by decide⟩, rfl, (fr_cons (Or.inl (Nat.le_of_ble_eq_true rfl)) (fr_cons (Or.inl (Nat.le_of_ble_eq_true rfl)) (fr_cons (Or.inl (Nat.le_of_ble_eq_true rfl)) (fr_cons (Or.inl (Nat.le_of_ble_eq_true rfl)) (fr_cons (Or.inl (Nat.le_of_ble_eq_true rfl)) (fr_cons (Or.inl (Nat.le_of_ble_eq_true rfl)) (fr_cons (Or.inl (Nat.le_of_ble_eq_true rfl)) (fr_cons (Or.inl (Nat.le_of_ble_eq_true rfl)) (fr_cons (Or.inl (Nat.le_of_ble_eq_true rfl)) (fr_cons (Or.inr (Nat.le_add_left 1000 _)) (fr_cons (Or.inl (Nat.le_of_ble_eq_true rfl)) (fr_nil)))))))))))), rfl⟩ fr_i rfl rfl rfl rfl ?_
        refine V.istore (i := 6) (L' := [some (.ref 0), some (.int a1), some (.int a2), some (.int v2), some (.int v4), some (.ref 11), some (.int v6), none, none]) dL_fastens_28 (Nat.le_of_ble_eq_true rfl) rfl rfl ?_
        refine V.iconst (v := 0) dL_fastens_30 rfl ?_
        refine V.istore (i := 7) (L' := [some (.ref 0), some (.int a1), some (.int a2), some (.int v2), some (.int v4), some (.ref 11), some (.int v6), some (.int 0), none]) dL_fastens_31 (Nat.le_of_ble_eq_true rfl) rfl rfl ?_
        obtain ⟨r10, hr10, hf⟩ := fbind hf
        refine v_L_fastens_L33 gF hr10 ?_
        refine V.aload_n (i := 0) dL_fastens_60 rfl rfl ?_
        refine V.iload_n (i := 1) dL_fastens_61 rfl rfl ?_
        refine V.iload_n (i := 2) dL_fastens_62 rfl rfl ?_
        obtain ⟨v11, hv11, hf⟩ := fbind hf
        refine V.callSn (pl := [0, 1, 2, 3, 4, 5, 6, 7, 8, 9, 10]) (σ' := [.inl (5, [.ref 1, .ref 3, .ref 6, .ref 8, .ref 9]), .inl (3, [.ref 2]), .inr (910, .inl v11.2.1), .inl (1, [.ref 4, .ref 5, .int v11.2.2.1, .int v11.2.2.2.1, .int History_snapshotTaken]), .inr (5460, .inl v11.2.2.2.2), .inr (910, .inl History_snapshot), .inl (0, [.ref 7, .int Buffer_size]), .inr (60, .inl Buffer_codes), .inl (2, [.ref (Reader_pattern + 1000), .int Reader_place]), .inl (4, [.ref 10, .int Word_size]), .inr (8, .inl Word_letters), .inr (8, .inl r10.2)]) (st2 := [.int v11.1]) (cl2 := 2) (sl2 := 14) (ct_L_tryFast (a1 := a1) (a2 := a2) (State_cells := State_cells) (History_oldest := History_oldest) (History_size := History_size) (History_snapshotTaken := History_snapshotTaken) (History_saved := History_saved) (History_snapshot := History_snapshot) (Buffer_size := Buffer_size) (Buffer_codes := Buffer_codes) (Reader_pattern := Reader_pattern) (Reader_place := Reader_place) (Word_size := Word_size) (Word_letters := Word_letters) hv11) dL_fastens_63 w655 w656 cal_L_tryFast ⟨⟨Nat.le_of_ble_eq_true rfl, Nat.le_of_ble_eq_true rfl⟩, Nat.le_of_ble_eq_true rfl, Nat.le_of_ble_eq_true rfl⟩ (Nat.le_of_ble_eq_true rfl) rfl ⟨rfl, ⟨by decide, by decide⟩, rfl, (fr_cons (Or.inl (Nat.le_of_ble_eq_true rfl)) (fr_cons (Or.inl (Nat.le_of_ble_eq_true rfl)) (fr_cons (Or.inl (Nat.le_of_ble_eq_true rfl)) (fr_cons (Or.inl (Nat.le_of_ble_eq_true rfl)) (fr_cons (Or.inl (Nat.le_of_ble_eq_true rfl)) (fr_cons (Or.inl (Nat.le_of_ble_eq_true rfl)) (fr_cons (Or.inl (Nat.le_of_ble_eq_true rfl)) (fr_cons (Or.inl (Nat.le_of_ble_eq_true rfl)) (fr_cons (Or.inl (Nat.le_of_ble_eq_true rfl)) (fr_cons (Or.inr (Nat.le_add_left 1000 _)) (fr_cons (Or.inl (Nat.le_of_ble_eq_true rfl)) (fr_nil)))))))))))), rfl⟩ fr_i rfl rfl rfl rfl ?_
        refine V.istore (i := 7) (L' := [some (.ref 0), some (.int a1), some (.int a2), some (.int v2), some (.int v4), some (.ref 11), some (.int v6), some (.int v11.1), none]) dL_fastens_66 (Nat.le_of_ble_eq_true rfl) rfl rfl ?_
        refine V.iload (i := 7) dL_fastens_68 rfl ?_
        refine V.sipush (v := (-7003)) dL_fastens_70 rfl ?_
        refine V.icmp_ne (tgt := 116) dL_fastens_73 (by decide) (fun h => ?_) (fun h => ?_)
        · have hf := fif_f h hf
          refine V.iconst (v := 0) dL_fastens_116 rfl ?_
          refine V.istore (i := 8) (L' := [some (.ref 0), some (.int a1), some (.int a2), some (.int v2), some (.int v4), some (.ref 11), some (.int v6), some (.int v11.1), some (.int 0)]) dL_fastens_117 (Nat.le_of_ble_eq_true rfl) rfl rfl ?_
          obtain ⟨r15, hr15, hf⟩ := fbind hf
          rcases r15 with r9 | e16
          · obtain rfl := Option.some.inj (show some _ = some res from hf)
            exact v_L_fastens_L119 gF hr15 (fun _ h => by cases h; exact ⟨rfl, rfl⟩) (fun _ h => by cases h)
          · replace hf : _ = some res := hf
            dsimp only [fsum] at hf
            refine v_L_fastens_L119 gF hr15 (fun _ h => by cases h) (fun _ h => ?_)
            cases h
            refine V.iload (i := 7) dL_fastens_151 rfl ?_
            refine V.iload_n (i := 3) dL_fastens_153 rfl rfl ?_
            refine V.iload (i := 4) dL_fastens_154 rfl ?_
            refine V.isub dL_fastens_156 ?_
            refine V.icmp_ne (tgt := 201) dL_fastens_157 (by decide) (fun h => ?_) (fun h => ?_)
            · have hf := fif_f h hf
              refine V.iconst (v := 0) dL_fastens_201 rfl ?_
              obtain rfl := Option.some.inj hf
              exact V.zretD (v := 0) dL_fastens_202 rfl (by decide +kernel) (Nat.le_of_ble_eq_true rfl) (Nat.le_of_ble_eq_true rfl) (Nat.le_of_ble_eq_true rfl) (τ := [.inr (8, .inl r10.2)]) rfl
            · have hf := fif_t h hf
              refine V.aload_n (i := 0) dL_fastens_160 rfl rfl ?_
              refine V.iload_n (i := 1) dL_fastens_161 rfl rfl ?_
              refine V.iload_n (i := 2) dL_fastens_162 rfl rfl ?_
              refine V.iconst (v := 2) dL_fastens_163 rfl ?_
              obtain ⟨v17, hv17, hf⟩ := fbind hf
              have hc := ct_X10_name (a1 := a1) (a2 := a2) (a3 := 2) (State_cells := v11.2.1) (History_oldest := v11.2.2.1) (History_size := v11.2.2.2.1) (History_snapshotTaken := History_snapshotTaken) (History_saved := v11.2.2.2.2) (History_snapshot := History_snapshot) (Buffer_size := Buffer_size) (Buffer_codes := Buffer_codes) (Reader_pattern := Reader_pattern) (Reader_place := Reader_place) (Word_size := Word_size) (Word_letters := Word_letters) hv17
              rcases hv17b : v17 with v18 | E9
              · rw [hv17b] at hc hf
                dsimp only [fth] at hf
                refine V.callVn (pl := [0, 1, 2, 3, 4, 5, 6, 7, 8, 9, 10]) (σ' := [.inl (5, [.ref 1, .ref 3, .ref 6, .ref 8, .ref 9]), .inl (3, [.ref 2]), .inr (910, .inl v11.2.1), .inl (1, [.ref 4, .ref 5, .int v11.2.2.1, .int v11.2.2.2.1, .int History_snapshotTaken]), .inr (5460, .inl v11.2.2.2.2), .inr (910, .inl History_snapshot), .inl (0, [.ref 7, .int Buffer_size]), .inr (60, .inl Buffer_codes), .inl (2, [.ref (Reader_pattern + 1000), .int Reader_place]), .inl (4, [.ref 10, .int Word_size]), .inr (8, .inl Word_letters), .inr (8, .inl r10.2)]) (st2 := [.int v18]) (cl2 := 2) (sl2 := 14) hc dL_fastens_164 w284 ⟨w285, w286⟩ cal_X10_name rfl ⟨⟨Nat.le_of_ble_eq_true rfl, Nat.le_of_ble_eq_true rfl⟩, Nat.le_of_ble_eq_true rfl, Nat.le_of_ble_eq_true rfl⟩ (Nat.le_of_ble_eq_true rfl) ⟨_, _, _, _, rfl, rfl⟩ rfl ⟨rfl, ⟨by decide, by decide⟩, rfl, (fr_cons (Or.inl (Nat.le_of_ble_eq_true rfl)) (fr_cons (Or.inl (Nat.le_of_ble_eq_true rfl)) (fr_cons (Or.inl (Nat.le_of_ble_eq_true rfl)) (fr_cons (Or.inl (Nat.le_of_ble_eq_true rfl)) (fr_cons (Or.inl (Nat.le_of_ble_eq_true rfl)) (fr_cons (Or.inl (Nat.le_of_ble_eq_true rfl)) (fr_cons (Or.inl (Nat.le_of_ble_eq_true rfl)) (fr_cons (Or.inl (Nat.le_of_ble_eq_true rfl)) (fr_cons (Or.inl (Nat.le_of_ble_eq_true rfl)) (fr_cons (Or.inr (Nat.le_add_left 1000 _)) (fr_cons (Or.inl (Nat.le_of_ble_eq_true rfl)) (fr_nil)))))))))))), rfl⟩ fr_i rfl rfl rfl rfl ?_
                refine V.iload (i := 4) dL_fastens_167 rfl ?_
                refine V.icmp_ne (tgt := 201) dL_fastens_169 (by decide) (fun h => ?_) (fun h => ?_)
                · have hf := fif_f h hf
                  refine V.iconst (v := 0) dL_fastens_201 rfl ?_
                  obtain rfl := Option.some.inj hf
                  exact V.zretD (v := 0) dL_fastens_202 rfl (by decide +kernel) (Nat.le_of_ble_eq_true rfl) (Nat.le_of_ble_eq_true rfl) (Nat.le_of_ble_eq_true rfl) (τ := [.inr (8, .inl r10.2)]) rfl
                · have hf := fif_t h hf
                  refine V.aload_n (i := 0) dL_fastens_172 rfl rfl ?_
                  refine V.iload_n (i := 1) dL_fastens_173 rfl rfl ?_
                  refine V.iload_n (i := 2) dL_fastens_174 rfl rfl ?_
                  refine V.iconst (v := 3) dL_fastens_175 rfl ?_
                  obtain ⟨v19, hv19, hf⟩ := fbind hf
                  have hc := ct_X10_name (a1 := a1) (a2 := a2) (a3 := 3) (State_cells := v11.2.1) (History_oldest := v11.2.2.1) (History_size := v11.2.2.2.1) (History_snapshotTaken := History_snapshotTaken) (History_saved := v11.2.2.2.2) (History_snapshot := History_snapshot) (Buffer_size := Buffer_size) (Buffer_codes := Buffer_codes) (Reader_pattern := Reader_pattern) (Reader_place := Reader_place) (Word_size := Word_size) (Word_letters := Word_letters) hv19
                  rcases hv19b : v19 with v20 | E9
                  · rw [hv19b] at hc hf
                    dsimp only [fth] at hf
                    refine V.callVn (pl := [0, 1, 2, 3, 4, 5, 6, 7, 8, 9, 10]) (σ' := [.inl (5, [.ref 1, .ref 3, .ref 6, .ref 8, .ref 9]), .inl (3, [.ref 2]), .inr (910, .inl v11.2.1), .inl (1, [.ref 4, .ref 5, .int v11.2.2.1, .int v11.2.2.2.1, .int History_snapshotTaken]), .inr (5460, .inl v11.2.2.2.2), .inr (910, .inl History_snapshot), .inl (0, [.ref 7, .int Buffer_size]), .inr (60, .inl Buffer_codes), .inl (2, [.ref (Reader_pattern + 1000), .int Reader_place]), .inl (4, [.ref 10, .int Word_size]), .inr (8, .inl Word_letters), .inr (8, .inl r10.2)]) (st2 := [.int v20]) (cl2 := 2) (sl2 := 14) hc dL_fastens_176 w284 ⟨w285, w286⟩ cal_X10_name rfl ⟨⟨Nat.le_of_ble_eq_true rfl, Nat.le_of_ble_eq_true rfl⟩, Nat.le_of_ble_eq_true rfl, Nat.le_of_ble_eq_true rfl⟩ (Nat.le_of_ble_eq_true rfl) ⟨_, _, _, _, rfl, rfl⟩ rfl ⟨rfl, ⟨by decide, by decide⟩, rfl, (fr_cons (Or.inl (Nat.le_of_ble_eq_true rfl)) (fr_cons (Or.inl (Nat.le_of_ble_eq_true rfl)) (fr_cons (Or.inl (Nat.le_of_ble_eq_true rfl)) (fr_cons (Or.inl (Nat.le_of_ble_eq_true rfl)) (fr_cons (Or.inl (Nat.le_of_ble_eq_true rfl)) (fr_cons (Or.inl (Nat.le_of_ble_eq_true rfl)) (fr_cons (Or.inl (Nat.le_of_ble_eq_true rfl)) (fr_cons (Or.inl (Nat.le_of_ble_eq_true rfl)) (fr_cons (Or.inl (Nat.le_of_ble_eq_true rfl)) (fr_cons (Or.inr (Nat.le_add_left 1000 _)) (fr_cons (Or.inl (Nat.le_of_ble_eq_true rfl)) (fr_nil)))))))))))), rfl⟩ fr_i rfl rfl rfl rfl ?_
                    refine V.iload (i := 4) dL_fastens_179 rfl ?_
                    refine V.icmp_ne (tgt := 201) dL_fastens_181 (by decide) (fun h => ?_) (fun h => ?_)
                    · have hf := fif_f h hf
                      refine V.iconst (v := 0) dL_fastens_201 rfl ?_
                      obtain rfl := Option.some.inj hf
                      exact V.zretD (v := 0) dL_fastens_202 rfl (by decide +kernel) (Nat.le_of_ble_eq_true rfl) (Nat.le_of_ble_eq_true rfl) (Nat.le_of_ble_eq_true rfl) (τ := [.inr (8, .inl r10.2)]) rfl
                    · have hf := fif_t h hf
                      refine V.aload_n (i := 0) dL_fastens_184 rfl rfl ?_
                      refine V.iconst (v := 2) dL_fastens_185 rfl ?_
                      obtain ⟨v21, hv21, hf⟩ := fbind hf
                      have hc := ct_X10_count (a1 := 2) (State_cells := v11.2.1) (History_oldest := v11.2.2.1) (History_size := v11.2.2.2.1) (History_snapshotTaken := History_snapshotTaken) (History_saved := v11.2.2.2.2) (History_snapshot := History_snapshot) (Buffer_size := Buffer_size) (Buffer_codes := Buffer_codes) (Reader_pattern := Reader_pattern) (Reader_place := Reader_place) (Word_size := Word_size) (Word_letters := Word_letters) hv21
                      rcases hv21b : v21 with v22 | E9
                      · rw [hv21b] at hc hf
                        dsimp only [fth] at hf
                        refine V.callVn (pl := [0, 1, 2, 3, 4, 5, 6, 7, 8, 9, 10]) (σ' := [.inl (5, [.ref 1, .ref 3, .ref 6, .ref 8, .ref 9]), .inl (3, [.ref 2]), .inr (910, .inl v11.2.1), .inl (1, [.ref 4, .ref 5, .int v11.2.2.1, .int v11.2.2.2.1, .int History_snapshotTaken]), .inr (5460, .inl v11.2.2.2.2), .inr (910, .inl History_snapshot), .inl (0, [.ref 7, .int Buffer_size]), .inr (60, .inl Buffer_codes), .inl (2, [.ref (Reader_pattern + 1000), .int Reader_place]), .inl (4, [.ref 10, .int Word_size]), .inr (8, .inl Word_letters), .inr (8, .inl r10.2)]) (st2 := [.int v22]) (cl2 := 2) (sl2 := 14) hc dL_fastens_186 w404 ⟨w405, w406⟩ cal_X10_count rfl ⟨⟨Nat.le_of_ble_eq_true rfl, Nat.le_of_ble_eq_true rfl⟩, Nat.le_of_ble_eq_true rfl, Nat.le_of_ble_eq_true rfl⟩ (Nat.le_of_ble_eq_true rfl) ⟨_, _, _, _, rfl, rfl⟩ rfl ⟨rfl, ⟨by decide, by decide⟩, rfl, (fr_cons (Or.inl (Nat.le_of_ble_eq_true rfl)) (fr_cons (Or.inl (Nat.le_of_ble_eq_true rfl)) (fr_cons (Or.inl (Nat.le_of_ble_eq_true rfl)) (fr_cons (Or.inl (Nat.le_of_ble_eq_true rfl)) (fr_cons (Or.inl (Nat.le_of_ble_eq_true rfl)) (fr_cons (Or.inl (Nat.le_of_ble_eq_true rfl)) (fr_cons (Or.inl (Nat.le_of_ble_eq_true rfl)) (fr_cons (Or.inl (Nat.le_of_ble_eq_true rfl)) (fr_cons (Or.inl (Nat.le_of_ble_eq_true rfl)) (fr_cons (Or.inr (Nat.le_add_left 1000 _)) (fr_cons (Or.inl (Nat.le_of_ble_eq_true rfl)) (fr_nil)))))))))))), rfl⟩ fr_i rfl rfl rfl rfl ?_
                        refine V.iload (i := 6) dL_fastens_189 rfl ?_
                        refine V.iload (i := 7) dL_fastens_191 rfl ?_
                        refine V.iadd dL_fastens_193 ?_
                        obtain ⟨v23, ev23, hf⟩ := flet_e hf
                        refine V.join (J := 202) (y := v23) (st' := []) (fun tlv23 => ?_) ?_
                        · refine V.icmp_ne (tgt := 201) dL_fastens_194 (by decide) (fun h24 => ?_) (fun h24 => ?_)
                          · refine V.iconst (v := 0) dL_fastens_201 rfl ?_
                            exact V.cgi (by rw [← ev23, if_neg h24]) tlv23
                          · refine V.iconst (v := 1) dL_fastens_197 rfl ?_
                            refine V.goto (tgt := 202) dL_fastens_198 (by decide) ?_
                            exact V.cgi (by rw [← ev23, if_pos h24]) tlv23
                        · obtain ⟨hz, hf⟩ := fz_e hf
                          obtain rfl := Option.some.inj hf
                          exact V.zretD (v := v23) dL_fastens_202 rfl hz (Nat.le_of_ble_eq_true rfl) (Nat.le_of_ble_eq_true rfl) (Nat.le_of_ble_eq_true rfl) (τ := [.inr (8, .inl r10.2)]) rfl
                      · rw [hv21b] at hc hf
                        dsimp only [fth] at hf
                        cases hf
                  · rw [hv19b] at hc hf
                    dsimp only [fth] at hf
                    cases hf
              · rw [hv17b] at hc hf
                dsimp only [fth] at hf
                cases hf
        · have hf := fif_t h hf
          refine V.aload_n (i := 0) dL_fastens_76 rfl rfl ?_
          refine V.iload_n (i := 1) dL_fastens_77 rfl rfl ?_
          refine V.iload_n (i := 2) dL_fastens_78 rfl rfl ?_
          refine V.iconst (v := 2) dL_fastens_79 rfl ?_
          obtain ⟨v25, hv25, hf⟩ := fbind hf
          have hc := ct_X10_name (a1 := a1) (a2 := a2) (a3 := 2) (State_cells := v11.2.1) (History_oldest := v11.2.2.1) (History_size := v11.2.2.2.1) (History_snapshotTaken := History_snapshotTaken) (History_saved := v11.2.2.2.2) (History_snapshot := History_snapshot) (Buffer_size := Buffer_size) (Buffer_codes := Buffer_codes) (Reader_pattern := Reader_pattern) (Reader_place := Reader_place) (Word_size := Word_size) (Word_letters := Word_letters) hv25
          rcases hv25b : v25 with v26 | E9
          · rw [hv25b] at hc hf
            dsimp only [fth] at hf
            refine V.callVn (pl := [0, 1, 2, 3, 4, 5, 6, 7, 8, 9, 10]) (σ' := [.inl (5, [.ref 1, .ref 3, .ref 6, .ref 8, .ref 9]), .inl (3, [.ref 2]), .inr (910, .inl v11.2.1), .inl (1, [.ref 4, .ref 5, .int v11.2.2.1, .int v11.2.2.2.1, .int History_snapshotTaken]), .inr (5460, .inl v11.2.2.2.2), .inr (910, .inl History_snapshot), .inl (0, [.ref 7, .int Buffer_size]), .inr (60, .inl Buffer_codes), .inl (2, [.ref (Reader_pattern + 1000), .int Reader_place]), .inl (4, [.ref 10, .int Word_size]), .inr (8, .inl Word_letters), .inr (8, .inl r10.2)]) (st2 := [.int v26]) (cl2 := 2) (sl2 := 14) hc dL_fastens_80 w284 ⟨w285, w286⟩ cal_X10_name rfl ⟨⟨Nat.le_of_ble_eq_true rfl, Nat.le_of_ble_eq_true rfl⟩, Nat.le_of_ble_eq_true rfl, Nat.le_of_ble_eq_true rfl⟩ (Nat.le_of_ble_eq_true rfl) ⟨_, _, _, _, rfl, rfl⟩ rfl ⟨rfl, ⟨by decide, by decide⟩, rfl, (fr_cons (Or.inl (Nat.le_of_ble_eq_true rfl)) (fr_cons (Or.inl (Nat.le_of_ble_eq_true rfl)) (fr_cons (Or.inl (Nat.le_of_ble_eq_true rfl)) (fr_cons (Or.inl (Nat.le_of_ble_eq_true rfl)) (fr_cons (Or.inl (Nat.le_of_ble_eq_true rfl)) (fr_cons (Or.inl (Nat.le_of_ble_eq_true rfl)) (fr_cons (Or.inl (Nat.le_of_ble_eq_true rfl)) (fr_cons (Or.inl (Nat.le_of_ble_eq_true rfl)) (fr_cons (Or.inl (Nat.le_of_ble_eq_true rfl)) (fr_cons (Or.inr (Nat.le_add_left 1000 _)) (fr_cons (Or.inl (Nat.le_of_ble_eq_true rfl)) (fr_nil)))))))))))), rfl⟩ fr_i rfl rfl rfl rfl ?_
            refine V.iload_n (i := 3) dL_fastens_83 rfl rfl ?_
            refine V.icmp_ne (tgt := 114) dL_fastens_84 (by decide) (fun h => ?_) (fun h => ?_)
            · have hf := fif_f h hf
              refine V.iconst (v := 0) dL_fastens_114 rfl ?_
              obtain rfl := Option.some.inj hf
              exact V.zretD (v := 0) dL_fastens_115 rfl (by decide +kernel) (Nat.le_of_ble_eq_true rfl) (Nat.le_of_ble_eq_true rfl) (Nat.le_of_ble_eq_true rfl) (τ := [.inr (8, .inl r10.2)]) rfl
            · have hf := fif_t h hf
              refine V.aload_n (i := 0) dL_fastens_87 rfl rfl ?_
              refine V.iconst (v := 2) dL_fastens_88 rfl ?_
              obtain ⟨v27, hv27, hf⟩ := fbind hf
              have hc := ct_X10_count (a1 := 2) (State_cells := v11.2.1) (History_oldest := v11.2.2.1) (History_size := v11.2.2.2.1) (History_snapshotTaken := History_snapshotTaken) (History_saved := v11.2.2.2.2) (History_snapshot := History_snapshot) (Buffer_size := Buffer_size) (Buffer_codes := Buffer_codes) (Reader_pattern := Reader_pattern) (Reader_place := Reader_place) (Word_size := Word_size) (Word_letters := Word_letters) hv27
              rcases hv27b : v27 with v28 | E9
              · rw [hv27b] at hc hf
                dsimp only [fth] at hf
                refine V.callVn (pl := [0, 1, 2, 3, 4, 5, 6, 7, 8, 9, 10]) (σ' := [.inl (5, [.ref 1, .ref 3, .ref 6, .ref 8, .ref 9]), .inl (3, [.ref 2]), .inr (910, .inl v11.2.1), .inl (1, [.ref 4, .ref 5, .int v11.2.2.1, .int v11.2.2.2.1, .int History_snapshotTaken]), .inr (5460, .inl v11.2.2.2.2), .inr (910, .inl History_snapshot), .inl (0, [.ref 7, .int Buffer_size]), .inr (60, .inl Buffer_codes), .inl (2, [.ref (Reader_pattern + 1000), .int Reader_place]), .inl (4, [.ref 10, .int Word_size]), .inr (8, .inl Word_letters), .inr (8, .inl r10.2)]) (st2 := [.int v28]) (cl2 := 2) (sl2 := 14) hc dL_fastens_89 w404 ⟨w405, w406⟩ cal_X10_count rfl ⟨⟨Nat.le_of_ble_eq_true rfl, Nat.le_of_ble_eq_true rfl⟩, Nat.le_of_ble_eq_true rfl, Nat.le_of_ble_eq_true rfl⟩ (Nat.le_of_ble_eq_true rfl) ⟨_, _, _, _, rfl, rfl⟩ rfl ⟨rfl, ⟨by decide, by decide⟩, rfl, (fr_cons (Or.inl (Nat.le_of_ble_eq_true rfl)) (fr_cons (Or.inl (Nat.le_of_ble_eq_true rfl)) (fr_cons (Or.inl (Nat.le_of_ble_eq_true rfl)) (fr_cons (Or.inl (Nat.le_of_ble_eq_true rfl)) (fr_cons (Or.inl (Nat.le_of_ble_eq_true rfl)) (fr_cons (Or.inl (Nat.le_of_ble_eq_true rfl)) (fr_cons (Or.inl (Nat.le_of_ble_eq_true rfl)) (fr_cons (Or.inl (Nat.le_of_ble_eq_true rfl)) (fr_cons (Or.inl (Nat.le_of_ble_eq_true rfl)) (fr_cons (Or.inr (Nat.le_add_left 1000 _)) (fr_cons (Or.inl (Nat.le_of_ble_eq_true rfl)) (fr_nil)))))))))))), rfl⟩ fr_i rfl rfl rfl rfl ?_
                refine V.iload (i := 6) dL_fastens_92 rfl ?_
                refine V.icmp_ne (tgt := 114) dL_fastens_94 (by decide) (fun h => ?_) (fun h => ?_)
                · have hf := fif_f h hf
                  refine V.iconst (v := 0) dL_fastens_114 rfl ?_
                  obtain rfl := Option.some.inj hf
                  exact V.zretD (v := 0) dL_fastens_115 rfl (by decide +kernel) (Nat.le_of_ble_eq_true rfl) (Nat.le_of_ble_eq_true rfl) (Nat.le_of_ble_eq_true rfl) (τ := [.inr (8, .inl r10.2)]) rfl
                · have hf := fif_t h hf
                  refine V.aload_n (i := 0) dL_fastens_97 rfl rfl ?_
                  refine V.iload_n (i := 1) dL_fastens_98 rfl rfl ?_
                  refine V.iconst (v := 2) dL_fastens_99 rfl ?_
                  obtain ⟨v29, hv29, hf⟩ := fbind hf
                  have hc := ct_X10_fisher (a1 := a1) (a2 := 2) (State_cells := v11.2.1) (History_oldest := v11.2.2.1) (History_size := v11.2.2.2.1) (History_snapshotTaken := History_snapshotTaken) (History_saved := v11.2.2.2.2) (History_snapshot := History_snapshot) (Buffer_size := Buffer_size) (Buffer_codes := Buffer_codes) (Reader_pattern := Reader_pattern) (Reader_place := Reader_place) (Word_size := Word_size) (Word_letters := Word_letters) hv29
                  rcases hv29b : v29 with v30 | E9
                  · rw [hv29b] at hc hf
                    dsimp only [fth] at hf
                    refine V.callVn (pl := [0, 1, 2, 3, 4, 5, 6, 7, 8, 9, 10]) (σ' := [.inl (5, [.ref 1, .ref 3, .ref 6, .ref 8, .ref 9]), .inl (3, [.ref 2]), .inr (910, .inl v11.2.1), .inl (1, [.ref 4, .ref 5, .int v11.2.2.1, .int v11.2.2.2.1, .int History_snapshotTaken]), .inr (5460, .inl v11.2.2.2.2), .inr (910, .inl History_snapshot), .inl (0, [.ref 7, .int Buffer_size]), .inr (60, .inl Buffer_codes), .inl (2, [.ref (Reader_pattern + 1000), .int Reader_place]), .inl (4, [.ref 10, .int Word_size]), .inr (8, .inl Word_letters), .inr (8, .inl r10.2)]) (st2 := [.int v30]) (cl2 := 2) (sl2 := 14) hc dL_fastens_100 w174 ⟨w175, w176⟩ cal_X10_fisher rfl ⟨⟨Nat.le_of_ble_eq_true rfl, Nat.le_of_ble_eq_true rfl⟩, Nat.le_of_ble_eq_true rfl, Nat.le_of_ble_eq_true rfl⟩ (Nat.le_of_ble_eq_true rfl) ⟨_, _, _, _, rfl, rfl⟩ rfl ⟨rfl, ⟨by decide, by decide⟩, rfl, (fr_cons (Or.inl (Nat.le_of_ble_eq_true rfl)) (fr_cons (Or.inl (Nat.le_of_ble_eq_true rfl)) (fr_cons (Or.inl (Nat.le_of_ble_eq_true rfl)) (fr_cons (Or.inl (Nat.le_of_ble_eq_true rfl)) (fr_cons (Or.inl (Nat.le_of_ble_eq_true rfl)) (fr_cons (Or.inl (Nat.le_of_ble_eq_true rfl)) (fr_cons (Or.inl (Nat.le_of_ble_eq_true rfl)) (fr_cons (Or.inl (Nat.le_of_ble_eq_true rfl)) (fr_cons (Or.inl (Nat.le_of_ble_eq_true rfl)) (fr_cons (Or.inr (Nat.le_add_left 1000 _)) (fr_cons (Or.inl (Nat.le_of_ble_eq_true rfl)) (fr_nil)))))))))))), rfl⟩ fr_i rfl rfl rfl rfl ?_
                    refine V.iload_n (i := 3) dL_fastens_103 rfl rfl ?_
                    refine V.iload (i := 4) dL_fastens_104 rfl ?_
                    refine V.isub dL_fastens_106 ?_
                    obtain ⟨v31, ev31, hf⟩ := flet_e hf
                    refine V.join (J := 115) (y := v31) (st' := []) (fun tlv31 => ?_) ?_
                    · refine V.icmp_ge (tgt := 114) dL_fastens_107 (by decide) (fun h32 => ?_) (fun h32 => ?_)
                      · refine V.iconst (v := 0) dL_fastens_114 rfl ?_
                        exact V.cgi (by rw [← ev31, if_pos h32]) tlv31
                      · refine V.iconst (v := 1) dL_fastens_110 rfl ?_
                        refine V.goto (tgt := 115) dL_fastens_111 (by decide) ?_
                        exact V.cgi (by rw [← ev31, if_neg h32]) tlv31
                    · obtain ⟨hz, hf⟩ := fz_e hf
                      obtain rfl := Option.some.inj hf
                      exact V.zretD (v := v31) dL_fastens_115 rfl hz (Nat.le_of_ble_eq_true rfl) (Nat.le_of_ble_eq_true rfl) (Nat.le_of_ble_eq_true rfl) (τ := [.inr (8, .inl r10.2)]) rfl
                  · rw [hv29b] at hc hf
                    dsimp only [fth] at hf
                    cases hf
              · rw [hv27b] at hc hf
                dsimp only [fth] at hf
                cases hf
          · rw [hv25b] at hc hf
            dsimp only [fth] at hf
            cases hf
      · rw [hv5b] at hc hf
        dsimp only [fth] at hf
        cases hf
    · rw [hv3b] at hc hf
      dsimp only [fth] at hf
      cases hf
  · rw [hv1b] at hc hf
    dsimp only [fth] at hf
    cases hf
def k_L_loose : fK := (yL_loose, cL_loose, 4, (some .int), [], (9, 147), (0, 0), (1, 6))
theorem cal_L_loose : fCal k_L_loose 2 := ⟨⟨wc680, w5⟩, ⟨by decide +kernel, by decide +kernel⟩, by decide +kernel, by decide +kernel⟩
def s_L_loose_L4 (p1 : Int32) (State_cells : Nat → Int32) : Nat → Int32 → Int32 → Option (Int32 × Int32)
  | 0, _, _ => none
  | n + 1, x2, x3 => (s_X10_fisher p1 1 State_cells).bind fun v1 => fth v1 (fun v2 => if (v2 ≤ x3 : Prop) then (some (x2, x3)) else ((s_X10_name p1 x3 2 State_cells).bind fun v3 => fth v3 (fun v4 => s_L_loose_L4 p1 State_cells n (x2 + v4) (x3 + 1)) (fun E9 => none))) (fun E9 => none)
set_option maxHeartbeats 4000000 in
set_option maxRecDepth 100000 in
theorem v_L_loose_L4 {out : fO} {σ' : List fE} {p1 : Int32} {State_cells : Nat → Int32} {History_oldest : Int32} {History_size : Int32} {History_snapshotTaken : Int32} {History_saved : Nat → Int32} {History_snapshot : Nat → Int32} {Buffer_size : Int32} {Buffer_codes : Nat → Int32} {Reader_pattern : Nat} {Reader_place : Int32} {Word_size : Int32} {Word_letters : Nat → Int32} : ∀ (n : Nat) {x2 : Int32} {x3 : Int32} {res : Int32 × Int32} (hf : s_L_loose_L4 p1 State_cells n x2 x3 = some res) (hx : V (fXm 11 k_L_loose out σ') (krm k_L_loose) k_L_loose 11 30 [some (.ref 0), some (.int p1), some (.int res.1), some (.int res.2)] [] [.inl (5, [.ref 1, .ref 3, .ref 6, .ref 8, .ref 9]), .inl (3, [.ref 2]), .inr (910, .inl State_cells), .inl (1, [.ref 4, .ref 5, .int History_oldest, .int History_size, .int History_snapshotTaken]), .inr (5460, .inl History_saved), .inr (910, .inl History_snapshot), .inl (0, [.ref 7, .int Buffer_size]), .inr (60, .inl Buffer_codes), .inl (2, [.ref (Reader_pattern + 1000), .int Reader_place]), .inl (4, [.ref 10, .int Word_size]), .inr (8, .inl Word_letters)] 0 0), V (fXm 11 k_L_loose out σ') (krm k_L_loose) k_L_loose 11 4 [some (.ref 0), some (.int p1), some (.int x2), some (.int x3)] [] [.inl (5, [.ref 1, .ref 3, .ref 6, .ref 8, .ref 9]), .inl (3, [.ref 2]), .inr (910, .inl State_cells), .inl (1, [.ref 4, .ref 5, .int History_oldest, .int History_size, .int History_snapshotTaken]), .inr (5460, .inl History_saved), .inr (910, .inl History_snapshot), .inl (0, [.ref 7, .int Buffer_size]), .inr (60, .inl Buffer_codes), .inl (2, [.ref (Reader_pattern + 1000), .int Reader_place]), .inl (4, [.ref 10, .int Word_size]), .inr (8, .inl Word_letters)] 0 0 := by
  intro n
  induction n with
  | zero =>
    intro x2 x3 res hf hx
    rw [s_L_loose_L4] at hf
    cases hf
  | succ n ih =>
    intro x2 x3 res hf hx
    rw [s_L_loose_L4] at hf
    refine V.iload_n (i := 3) dL_loose_4 rfl rfl ?_
    refine V.aload_n (i := 0) dL_loose_5 rfl rfl ?_
    refine V.iload_n (i := 1) dL_loose_6 rfl rfl ?_
    refine V.iconst (v := 1) dL_loose_7 rfl ?_
    obtain ⟨v1, hv1, hf⟩ := fbind hf
    have hc := ct_X10_fisher (a1 := p1) (a2 := 1) (State_cells := State_cells) (History_oldest := History_oldest) (History_size := History_size) (History_snapshotTaken := History_snapshotTaken) (History_saved := History_saved) (History_snapshot := History_snapshot) (Buffer_size := Buffer_size) (Buffer_codes := Buffer_codes) (Reader_pattern := Reader_pattern) (Reader_place := Reader_place) (Word_size := Word_size) (Word_letters := Word_letters) hv1
    rcases hv1b : v1 with v2 | E9
    · rw [hv1b] at hc hf
      dsimp only [fth] at hf
      refine V.callVn (pl := [0, 1, 2, 3, 4, 5, 6, 7, 8, 9, 10]) (σ' := [.inl (5, [.ref 1, .ref 3, .ref 6, .ref 8, .ref 9]), .inl (3, [.ref 2]), .inr (910, .inl State_cells), .inl (1, [.ref 4, .ref 5, .int History_oldest, .int History_size, .int History_snapshotTaken]), .inr (5460, .inl History_saved), .inr (910, .inl History_snapshot), .inl (0, [.ref 7, .int Buffer_size]), .inr (60, .inl Buffer_codes), .inl (2, [.ref (Reader_pattern + 1000), .int Reader_place]), .inl (4, [.ref 10, .int Word_size]), .inr (8, .inl Word_letters)]) (st2 := [.int v2, .int x3]) (cl2 := 0) (sl2 := 0) hc dL_loose_8 w174 ⟨w175, w176⟩ cal_X10_fisher rfl ⟨⟨Nat.le_of_ble_eq_true rfl, Nat.le_of_ble_eq_true rfl⟩, Nat.le_of_ble_eq_true rfl, Nat.le_of_ble_eq_true rfl⟩ (Nat.le_of_ble_eq_true rfl) ⟨_, _, _, _, rfl, rfl⟩ rfl ⟨rfl, ⟨by decide, by decide⟩, rfl, (fr_cons (Or.inl (Nat.le_of_ble_eq_true rfl)) (fr_cons (Or.inl (Nat.le_of_ble_eq_true rfl)) (fr_cons (Or.inl (Nat.le_of_ble_eq_true rfl)) (fr_cons (Or.inl (Nat.le_of_ble_eq_true rfl)) (fr_cons (Or.inl (Nat.le_of_ble_eq_true rfl)) (fr_cons (Or.inl (Nat.le_of_ble_eq_true rfl)) (fr_cons (Or.inl (Nat.le_of_ble_eq_true rfl)) (fr_cons (Or.inl (Nat.le_of_ble_eq_true rfl)) (fr_cons (Or.inl (Nat.le_of_ble_eq_true rfl)) (fr_cons (Or.inr (Nat.le_add_left 1000 _)) (fr_cons (Or.inl (Nat.le_of_ble_eq_true rfl)) (fr_nil)))))))))))), rfl⟩ fr_i rfl rfl rfl rfl ?_
      refine V.icmp_ge (tgt := 30) dL_loose_11 (by decide) (fun h => ?_) (fun h => ?_)
      · have hf := fif_t h hf
        obtain rfl := Option.some.inj hf
        exact hx
      · have hf := fif_f h hf
        refine V.iload_n (i := 2) dL_loose_14 rfl rfl ?_
        refine V.aload_n (i := 0) dL_loose_15 rfl rfl ?_
        refine V.iload_n (i := 1) dL_loose_16 rfl rfl ?_
        refine V.iload_n (i := 3) dL_loose_17 rfl rfl ?_
        refine V.iconst (v := 2) dL_loose_18 rfl ?_
        obtain ⟨v3, hv3, hf⟩ := fbind hf
        have hc := ct_X10_name (a1 := p1) (a2 := x3) (a3 := 2) (State_cells := State_cells) (History_oldest := History_oldest) (History_size := History_size) (History_snapshotTaken := History_snapshotTaken) (History_saved := History_saved) (History_snapshot := History_snapshot) (Buffer_size := Buffer_size) (Buffer_codes := Buffer_codes) (Reader_pattern := Reader_pattern) (Reader_place := Reader_place) (Word_size := Word_size) (Word_letters := Word_letters) hv3
        rcases hv3b : v3 with v4 | E9
        · rw [hv3b] at hc hf
          dsimp only [fth] at hf
          refine V.callVn (pl := [0, 1, 2, 3, 4, 5, 6, 7, 8, 9, 10]) (σ' := [.inl (5, [.ref 1, .ref 3, .ref 6, .ref 8, .ref 9]), .inl (3, [.ref 2]), .inr (910, .inl State_cells), .inl (1, [.ref 4, .ref 5, .int History_oldest, .int History_size, .int History_snapshotTaken]), .inr (5460, .inl History_saved), .inr (910, .inl History_snapshot), .inl (0, [.ref 7, .int Buffer_size]), .inr (60, .inl Buffer_codes), .inl (2, [.ref (Reader_pattern + 1000), .int Reader_place]), .inl (4, [.ref 10, .int Word_size]), .inr (8, .inl Word_letters)]) (st2 := [.int v4, .int x2]) (cl2 := 0) (sl2 := 0) hc dL_loose_19 w284 ⟨w285, w286⟩ cal_X10_name rfl ⟨⟨Nat.le_of_ble_eq_true rfl, Nat.le_of_ble_eq_true rfl⟩, Nat.le_of_ble_eq_true rfl, Nat.le_of_ble_eq_true rfl⟩ (Nat.le_of_ble_eq_true rfl) ⟨_, _, _, _, rfl, rfl⟩ rfl ⟨rfl, ⟨by decide, by decide⟩, rfl, (fr_cons (Or.inl (Nat.le_of_ble_eq_true rfl)) (fr_cons (Or.inl (Nat.le_of_ble_eq_true rfl)) (fr_cons (Or.inl (Nat.le_of_ble_eq_true rfl)) (fr_cons (Or.inl (Nat.le_of_ble_eq_true rfl)) (fr_cons (Or.inl (Nat.le_of_ble_eq_true rfl)) (fr_cons (Or.inl (Nat.le_of_ble_eq_true rfl)) (fr_cons (Or.inl (Nat.le_of_ble_eq_true rfl)) (fr_cons (Or.inl (Nat.le_of_ble_eq_true rfl)) (fr_cons (Or.inl (Nat.le_of_ble_eq_true rfl)) (fr_cons (Or.inr (Nat.le_add_left 1000 _)) (fr_cons (Or.inl (Nat.le_of_ble_eq_true rfl)) (fr_nil)))))))))))), rfl⟩ fr_i rfl rfl rfl rfl ?_
          refine V.iadd dL_loose_22 ?_
          refine V.istore_n (i := 2) (L' := [some (.ref 0), some (.int p1), some (.int (x2 + v4)), some (.int x3)]) dL_loose_23 rfl (Nat.le_of_ble_eq_true rfl) rfl rfl ?_
          refine V.iinc (i := 3) (v := (x3 + 1)) (L' := [some (.ref 0), some (.int p1), some (.int (x2 + v4)), some (.int (x3 + 1))]) dL_loose_24 rfl rfl (Nat.le_of_ble_eq_true rfl) rfl rfl ?_
          refine V.goto (tgt := 4) dL_loose_27 (by decide) ?_
          exact ih hf hx
        · rw [hv3b] at hc hf
          dsimp only [fth] at hf
          cases hf
    · rw [hv1b] at hc hf
      dsimp only [fth] at hf
      cases hf
def s_L_loose (a1 : Int32) (State_cells : Nat → Int32) : Option (Int32) := (s_L_loose_L4 a1 State_cells gF 0 0).bind fun r5 => some r5.1
set_option maxHeartbeats 4000000 in
set_option maxRecDepth 100000 in
theorem ct_L_loose {a1 : Int32} {State_cells : Nat → Int32} {History_oldest : Int32} {History_size : Int32} {History_snapshotTaken : Int32} {History_saved : Nat → Int32} {History_snapshot : Nat → Int32} {Buffer_size : Int32} {Buffer_codes : Nat → Int32} {Reader_pattern : Nat} {Reader_place : Int32} {Word_size : Int32} {Word_letters : Nat → Int32} {res : Int32} (hf : s_L_loose a1 State_cells = some res) : Ct k_L_loose [.ref 0, .int a1] [.inl (5, [.ref 1, .ref 3, .ref 6, .ref 8, .ref 9]), .inl (3, [.ref 2]), .inr (910, .inl State_cells), .inl (1, [.ref 4, .ref 5, .int History_oldest, .int History_size, .int History_snapshotTaken]), .inr (5460, .inl History_saved), .inr (910, .inl History_snapshot), .inl (0, [.ref 7, .int Buffer_size]), .inr (60, .inl Buffer_codes), .inl (2, [.ref (Reader_pattern + 1000), .int Reader_place]), .inl (4, [.ref 10, .int Word_size]), .inr (8, .inl Word_letters)] (.inl (some (.int res))) [.inl (5, [.ref 1, .ref 3, .ref 6, .ref 8, .ref 9]), .inl (3, [.ref 2]), .inr (910, .inl State_cells), .inl (1, [.ref 4, .ref 5, .int History_oldest, .int History_size, .int History_snapshotTaken]), .inr (5460, .inl History_saved), .inr (910, .inl History_snapshot), .inl (0, [.ref 7, .int Buffer_size]), .inr (60, .inl Buffer_codes), .inl (2, [.ref (Reader_pattern + 1000), .int Reader_place]), .inl (4, [.ref 10, .int Word_size]), .inr (8, .inl Word_letters)] := by
  unfold s_L_loose at hf
  refine Ct.of (L := [some (.ref 0), some (.int a1), none, none]) cal_L_loose (fent_pad (j := 2) rfl) (Nat.le_of_ble_eq_true rfl) ?_
  refine V.iconst (v := 0) dL_loose_0 rfl ?_
  refine V.istore_n (i := 2) (L' := [some (.ref 0), some (.int a1), some (.int 0), none]) dL_loose_1 rfl (Nat.le_of_ble_eq_true rfl) rfl rfl ?_
  refine V.iconst (v := 0) dL_loose_2 rfl ?_
  refine V.istore_n (i := 3) (L' := [some (.ref 0), some (.int a1), some (.int 0), some (.int 0)]) dL_loose_3 rfl (Nat.le_of_ble_eq_true rfl) rfl rfl ?_
  obtain ⟨r5, hr5, hf⟩ := fbind hf
  refine v_L_loose_L4 gF hr5 ?_
  refine V.iload_n (i := 2) dL_loose_30 rfl rfl ?_
  obtain rfl := Option.some.inj hf
  exact V.iret dL_loose_31 rfl (Nat.le_of_ble_eq_true rfl) (Nat.le_of_ble_eq_true rfl) rfl
def k_L_gives : fK := (yL_gives, cL_gives, 14, (some .boolean), [], (10, 171), (2, 14), (3, 20))
theorem cal_L_gives : fCal k_L_gives 4 := ⟨⟨wc677, w5⟩, ⟨by decide +kernel, by decide +kernel⟩, by decide +kernel, by decide +kernel⟩
def s_L_gives_L66 (p1 : Int32) (p2 : Int32) (State_cells : Nat → Int32) : Nat → Int32 → (Nat → Int32) → Option (Int32 × (Nat → Int32))
  | 0, _, _ => none
  | n + 1, x12, arr11 => if (8 ≤ x12 : Prop) then (some (x12, arr11)) else ((s_X10_knot p1 p2 x12 1 State_cells).bind fun v14 => fth v14 (fun v15 => fst 8 arr11 x12 v15 fun s16 => s_L_gives_L66 p1 p2 State_cells n (x12 + 1) s16) (fun E9 => none))
set_option maxHeartbeats 4000000 in
set_option maxRecDepth 100000 in
theorem v_L_gives_L66 {out : fO} {σ' : List fE} {p1 : Int32} {p2 : Int32} {p3 : Int32} {p4 : Int32} {p5 : Int32} {p6 : Int32} {p7 : Int32} {p8 : Int32} {p9 : Int32} {p10 : Int32} {State_cells : Nat → Int32} {History_oldest : Int32} {History_size : Int32} {History_snapshotTaken : Int32} {History_saved : Nat → Int32} {History_snapshot : Nat → Int32} {Buffer_size : Int32} {Buffer_codes : Nat → Int32} {Reader_pattern : Nat} {Reader_place : Int32} {Word_size : Int32} {Word_letters : Nat → Int32} : ∀ (n : Nat) {x12 : Int32} {arr11 : (Nat → Int32)} {res : Int32 × (Nat → Int32)} (hf : s_L_gives_L66 p1 p2 State_cells n x12 arr11 = some res) (hx : V (fXm 11 k_L_gives out σ') (krm k_L_gives) k_L_gives 11 93 [some (.ref 0), some (.int p1), some (.int p2), some (.int p3), some (.int p4), some (.int p5), some (.int p6), some (.int p7), some (.int p8), some (.int p9), some (.int p10), some (.ref 11), some (.int res.1), none] [] [.inl (5, [.ref 1, .ref 3, .ref 6, .ref 8, .ref 9]), .inl (3, [.ref 2]), .inr (910, .inl State_cells), .inl (1, [.ref 4, .ref 5, .int History_oldest, .int History_size, .int History_snapshotTaken]), .inr (5460, .inl History_saved), .inr (910, .inl History_snapshot), .inl (0, [.ref 7, .int Buffer_size]), .inr (60, .inl Buffer_codes), .inl (2, [.ref (Reader_pattern + 1000), .int Reader_place]), .inl (4, [.ref 10, .int Word_size]), .inr (8, .inl Word_letters), .inr (8, .inl res.2)] 1 8), V (fXm 11 k_L_gives out σ') (krm k_L_gives) k_L_gives 11 66 [some (.ref 0), some (.int p1), some (.int p2), some (.int p3), some (.int p4), some (.int p5), some (.int p6), some (.int p7), some (.int p8), some (.int p9), some (.int p10), some (.ref 11), some (.int x12), none] [] [.inl (5, [.ref 1, .ref 3, .ref 6, .ref 8, .ref 9]), .inl (3, [.ref 2]), .inr (910, .inl State_cells), .inl (1, [.ref 4, .ref 5, .int History_oldest, .int History_size, .int History_snapshotTaken]), .inr (5460, .inl History_saved), .inr (910, .inl History_snapshot), .inl (0, [.ref 7, .int Buffer_size]), .inr (60, .inl Buffer_codes), .inl (2, [.ref (Reader_pattern + 1000), .int Reader_place]), .inl (4, [.ref 10, .int Word_size]), .inr (8, .inl Word_letters), .inr (8, .inl arr11)] 1 8 := by
  intro n
  induction n with
  | zero =>
    intro x12 arr11 res hf hx
    rw [s_L_gives_L66] at hf
    cases hf
  | succ n ih =>
    intro x12 arr11 res hf hx
    rw [s_L_gives_L66] at hf
    refine V.iload (i := 12) dL_gives_66 rfl ?_
    refine V.bipush (v := 8) dL_gives_68 rfl ?_
    refine V.icmp_ge (tgt := 93) dL_gives_70 (by decide) (fun h => ?_) (fun h => ?_)
    · have hf := fif_t h hf
      obtain rfl := Option.some.inj hf
      exact hx
    · have hf := fif_f h hf
      refine V.aload (i := 11) dL_gives_73 rfl ?_
      refine V.iload (i := 12) dL_gives_75 rfl ?_
      refine V.aload_n (i := 0) dL_gives_77 rfl rfl ?_
      refine V.iload_n (i := 1) dL_gives_78 rfl rfl ?_
      refine V.iload_n (i := 2) dL_gives_79 rfl rfl ?_
      refine V.iload (i := 12) dL_gives_80 rfl ?_
      refine V.iconst (v := 1) dL_gives_82 rfl ?_
      obtain ⟨v14, hv14, hf⟩ := fbind hf
      have hc := ct_X10_knot (a1 := p1) (a2 := p2) (a3 := x12) (a4 := 1) (State_cells := State_cells) (History_oldest := History_oldest) (History_size := History_size) (History_snapshotTaken := History_snapshotTaken) (History_saved := History_saved) (History_snapshot := History_snapshot) (Buffer_size := Buffer_size) (Buffer_codes := Buffer_codes) (Reader_pattern := Reader_pattern) (Reader_place := Reader_place) (Word_size := Word_size) (Word_letters := Word_letters) hv14
      rcases hv14b : v14 with v15 | E9
      · rw [hv14b] at hc hf
        dsimp only [fth] at hf
        refine V.callVn (pl := [0, 1, 2, 3, 4, 5, 6, 7, 8, 9, 10]) (σ' := [.inl (5, [.ref 1, .ref 3, .ref 6, .ref 8, .ref 9]), .inl (3, [.ref 2]), .inr (910, .inl State_cells), .inl (1, [.ref 4, .ref 5, .int History_oldest, .int History_size, .int History_snapshotTaken]), .inr (5460, .inl History_saved), .inr (910, .inl History_snapshot), .inl (0, [.ref 7, .int Buffer_size]), .inr (60, .inl Buffer_codes), .inl (2, [.ref (Reader_pattern + 1000), .int Reader_place]), .inl (4, [.ref 10, .int Word_size]), .inr (8, .inl Word_letters), .inr (8, .inl arr11)]) (st2 := [.int v15, .int x12, .ref 11]) (cl2 := 1) (sl2 := 8) hc dL_gives_83 w320 ⟨w321, w322⟩ cal_X10_knot rfl ⟨⟨Nat.le_of_ble_eq_true rfl, Nat.le_of_ble_eq_true rfl⟩, Nat.le_of_ble_eq_true rfl, Nat.le_of_ble_eq_true rfl⟩ (Nat.le_of_ble_eq_true rfl) ⟨_, _, _, _, rfl, rfl⟩ rfl ⟨rfl, ⟨by decide, by decide⟩, rfl, (fr_cons (Or.inl (Nat.le_of_ble_eq_true rfl)) (fr_cons (Or.inl (Nat.le_of_ble_eq_true rfl)) (fr_cons (Or.inl (Nat.le_of_ble_eq_true rfl)) (fr_cons (Or.inl (Nat.le_of_ble_eq_true rfl)) (fr_cons (Or.inl (Nat.le_of_ble_eq_true rfl)) (fr_cons (Or.inl (Nat.le_of_ble_eq_true rfl)) (fr_cons (Or.inl (Nat.le_of_ble_eq_true rfl)) (fr_cons (Or.inl (Nat.le_of_ble_eq_true rfl)) (fr_cons (Or.inl (Nat.le_of_ble_eq_true rfl)) (fr_cons (Or.inr (Nat.le_add_left 1000 _)) (fr_cons (Or.inl (Nat.le_of_ble_eq_true rfl)) (fr_nil)))))))))))), rfl⟩ fr_i rfl rfl rfl rfl ?_
        obtain ⟨hi, s16, es16, hf⟩ := fst_e hf
        refine V.fst (σ' := [.inl (5, [.ref 1, .ref 3, .ref 6, .ref 8, .ref 9]), .inl (3, [.ref 2]), .inr (910, .inl State_cells), .inl (1, [.ref 4, .ref 5, .int History_oldest, .int History_size, .int History_snapshotTaken]), .inr (5460, .inl History_saved), .inr (910, .inl History_snapshot), .inl (0, [.ref 7, .int Buffer_size]), .inr (60, .inl Buffer_codes), .inl (2, [.ref (Reader_pattern + 1000), .int Reader_place]), .inl (4, [.ref 10, .int Word_size]), .inr (8, .inl Word_letters), .inr (8, .inl s16)]) dL_gives_86 rfl hi es16 rfl ?_
        refine V.iinc (i := 12) (v := (x12 + 1)) (L' := [some (.ref 0), some (.int p1), some (.int p2), some (.int p3), some (.int p4), some (.int p5), some (.int p6), some (.int p7), some (.int p8), some (.int p9), some (.int p10), some (.ref 11), some (.int (x12 + 1)), none]) dL_gives_87 rfl rfl (Nat.le_of_ble_eq_true rfl) rfl rfl ?_
        refine V.goto (tgt := 66) dL_gives_90 (by decide) ?_
        exact ih hf hx
      · rw [hv14b] at hc hf
        dsimp only [fth] at hf
        cases hf
def s_L_gives_L190 (p3 : Int32) (p10 : Int32) (State_cells : Nat → Int32) (History_oldest : Int32) (History_size : Int32) (History_saved : Nat → Int32) (Word_size : Int32) (Word_letters : Nat → Int32) (arr11 : Nat → Int32) : Nat → Int32 → Option ((Int32 × (Nat → Int32) × (Int32) × (Int32) × (Nat → Int32) × (Int32) × (Nat → Int32)) ⊕ (Int32))
  | 0, _ => none
  | n + 1, x13 => if (8 ≤ x13 : Prop) then (some (.inr x13)) else ((s_X10_knot p3 p10 x13 0 State_cells).bind fun v28 => fth v28 (fun v29 => fld 8 arr11 x13 fun v30 => if (v29 = v30 : Prop) then ((s_X10_knot p3 p10 x13 1 State_cells).bind fun v31 => fth v31 (fun v32 => fld 8 arr11 x13 fun v33 => if (v32 = v33 : Prop) then (s_L_gives_L190 p3 p10 State_cells History_oldest History_size History_saved Word_size Word_letters arr11 n (x13 + 1)) else (some (.inl (0, State_cells, History_oldest, History_size, History_saved, Word_size, Word_letters)))) (fun E9 => none)) else (some (.inl (0, State_cells, History_oldest, History_size, History_saved, Word_size, Word_letters)))) (fun E9 => none))
set_option maxHeartbeats 4000000 in
set_option maxRecDepth 100000 in
theorem v_L_gives_L190 {out : fO} {σ' : List fE} {p1 : Int32} {p2 : Int32} {p3 : Int32} {p4 : Int32} {p5 : Int32} {p6 : Int32} {p7 : Int32} {p8 : Int32} {p9 : Int32} {p10 : Int32} {p12 : Int32} {State_cells : Nat → Int32} {History_oldest : Int32} {History_size : Int32} {History_snapshotTaken : Int32} {History_saved : Nat → Int32} {History_snapshot : Nat → Int32} {Buffer_size : Int32} {Buffer_codes : Nat → Int32} {Reader_pattern : Nat} {Reader_place : Int32} {Word_size : Int32} {Word_letters : Nat → Int32} {arr11 : Nat → Int32} : ∀ (n : Nat) {x13 : Int32} {res : (Int32 × (Nat → Int32) × (Int32) × (Int32) × (Nat → Int32) × (Int32) × (Nat → Int32)) ⊕ (Int32)} (hf : s_L_gives_L190 p3 p10 State_cells History_oldest History_size History_saved Word_size Word_letters arr11 n x13 = some res) (hr : ∀ r, res = .inl r → out = (.inl (some (.int r.1))) ∧ σ' = [.inl (5, [.ref 1, .ref 3, .ref 6, .ref 8, .ref 9]), .inl (3, [.ref 2]), .inr (910, .inl r.2.1), .inl (1, [.ref 4, .ref 5, .int r.2.2.1, .int r.2.2.2.1, .int History_snapshotTaken]), .inr (5460, .inl r.2.2.2.2.1), .inr (910, .inl History_snapshot), .inl (0, [.ref 7, .int Buffer_size]), .inr (60, .inl Buffer_codes), .inl (2, [.ref (Reader_pattern + 1000), .int Reader_place]), .inl (4, [.ref 10, .int r.2.2.2.2.2.1]), .inr (8, .inl r.2.2.2.2.2.2)]) (hx : ∀ e, res = .inr e → V (fXm 11 k_L_gives out σ') (krm k_L_gives) k_L_gives 11 241 [some (.ref 0), some (.int p1), some (.int p2), some (.int p3), some (.int p4), some (.int p5), some (.int p6), some (.int p7), some (.int p8), some (.int p9), some (.int p10), some (.ref 11), some (.int p12), some (.int e)] [] [.inl (5, [.ref 1, .ref 3, .ref 6, .ref 8, .ref 9]), .inl (3, [.ref 2]), .inr (910, .inl State_cells), .inl (1, [.ref 4, .ref 5, .int History_oldest, .int History_size, .int History_snapshotTaken]), .inr (5460, .inl History_saved), .inr (910, .inl History_snapshot), .inl (0, [.ref 7, .int Buffer_size]), .inr (60, .inl Buffer_codes), .inl (2, [.ref (Reader_pattern + 1000), .int Reader_place]), .inl (4, [.ref 10, .int Word_size]), .inr (8, .inl Word_letters), .inr (8, .inl arr11)] 2 14), V (fXm 11 k_L_gives out σ') (krm k_L_gives) k_L_gives 11 190 [some (.ref 0), some (.int p1), some (.int p2), some (.int p3), some (.int p4), some (.int p5), some (.int p6), some (.int p7), some (.int p8), some (.int p9), some (.int p10), some (.ref 11), some (.int p12), some (.int x13)] [] [.inl (5, [.ref 1, .ref 3, .ref 6, .ref 8, .ref 9]), .inl (3, [.ref 2]), .inr (910, .inl State_cells), .inl (1, [.ref 4, .ref 5, .int History_oldest, .int History_size, .int History_snapshotTaken]), .inr (5460, .inl History_saved), .inr (910, .inl History_snapshot), .inl (0, [.ref 7, .int Buffer_size]), .inr (60, .inl Buffer_codes), .inl (2, [.ref (Reader_pattern + 1000), .int Reader_place]), .inl (4, [.ref 10, .int Word_size]), .inr (8, .inl Word_letters), .inr (8, .inl arr11)] 2 14 := by
  intro n
  induction n with
  | zero =>
    intro x13 res hf hr hx
    rw [s_L_gives_L190] at hf
    cases hf
  | succ n ih =>
    intro x13 res hf hr hx
    rw [s_L_gives_L190] at hf
    refine V.iload (i := 13) dL_gives_190 rfl ?_
    refine V.bipush (v := 8) dL_gives_192 rfl ?_
    refine V.icmp_ge (tgt := 241) dL_gives_194 (by decide) (fun h => ?_) (fun h => ?_)
    · have hf := fif_t h hf
      obtain rfl := Option.some.inj hf
      exact hx _ rfl
    · have hf := fif_f h hf
      refine V.aload_n (i := 0) dL_gives_197 rfl rfl ?_
      refine V.iload_n (i := 3) dL_gives_198 rfl rfl ?_
      refine V.iload (i := 10) dL_gives_199 rfl ?_
      refine V.iload (i := 13) dL_gives_201 rfl ?_
      refine V.iconst (v := 0) dL_gives_203 rfl ?_
      obtain ⟨v28, hv28, hf⟩ := fbind hf
      have hc := ct_X10_knot (a1 := p3) (a2 := p10) (a3 := x13) (a4 := 0) (State_cells := State_cells) (History_oldest := History_oldest) (History_size := History_size) (History_snapshotTaken := History_snapshotTaken) (History_saved := History_saved) (History_snapshot := History_snapshot) (Buffer_size := Buffer_size) (Buffer_codes := Buffer_codes) (Reader_pattern := Reader_pattern) (Reader_place := Reader_place) (Word_size := Word_size) (Word_letters := Word_letters) hv28
      rcases hv28b : v28 with v29 | E9
      · rw [hv28b] at hc hf
        dsimp only [fth] at hf
        refine V.callVn (pl := [0, 1, 2, 3, 4, 5, 6, 7, 8, 9, 10]) (σ' := [.inl (5, [.ref 1, .ref 3, .ref 6, .ref 8, .ref 9]), .inl (3, [.ref 2]), .inr (910, .inl State_cells), .inl (1, [.ref 4, .ref 5, .int History_oldest, .int History_size, .int History_snapshotTaken]), .inr (5460, .inl History_saved), .inr (910, .inl History_snapshot), .inl (0, [.ref 7, .int Buffer_size]), .inr (60, .inl Buffer_codes), .inl (2, [.ref (Reader_pattern + 1000), .int Reader_place]), .inl (4, [.ref 10, .int Word_size]), .inr (8, .inl Word_letters), .inr (8, .inl arr11)]) (st2 := [.int v29]) (cl2 := 2) (sl2 := 14) hc dL_gives_204 w320 ⟨w321, w322⟩ cal_X10_knot rfl ⟨⟨Nat.le_of_ble_eq_true rfl, Nat.le_of_ble_eq_true rfl⟩, Nat.le_of_ble_eq_true rfl, Nat.le_of_ble_eq_true rfl⟩ (Nat.le_of_ble_eq_true rfl) ⟨_, _, _, _, rfl, rfl⟩ rfl ⟨rfl, ⟨by decide, by decide⟩, rfl, (fr_cons (Or.inl (Nat.le_of_ble_eq_true rfl)) (fr_cons (Or.inl (Nat.le_of_ble_eq_true rfl)) (fr_cons (Or.inl (Nat.le_of_ble_eq_true rfl)) (fr_cons (Or.inl (Nat.le_of_ble_eq_true rfl)) (fr_cons (Or.inl (Nat.le_of_ble_eq_true rfl)) (fr_cons (Or.inl (Nat.le_of_ble_eq_true rfl)) (fr_cons (Or.inl (Nat.le_of_ble_eq_true rfl)) (fr_cons (Or.inl (Nat.le_of_ble_eq_true rfl)) (fr_cons (Or.inl (Nat.le_of_ble_eq_true rfl)) (fr_cons (Or.inr (Nat.le_add_left 1000 _)) (fr_cons (Or.inl (Nat.le_of_ble_eq_true rfl)) (fr_nil)))))))))))), rfl⟩ fr_i rfl rfl rfl rfl ?_
        refine V.aload (i := 11) dL_gives_207 rfl ?_
        refine V.iload (i := 13) dL_gives_209 rfl ?_
        obtain ⟨hi, v30, ev30, hf⟩ := fld_e hf
        refine V.fld dL_gives_211 rfl hi ev30 ?_
        refine V.icmp_ne (tgt := 233) dL_gives_212 (by decide) (fun h => ?_) (fun h => ?_)
        · have hf := fif_f h hf
          refine V.iconst (v := 0) dL_gives_233 rfl ?_
          obtain rfl := Option.some.inj hf
          obtain ⟨e1, e2⟩ := hr _ rfl
          subst e1; subst e2
          exact V.zretD (v := 0) dL_gives_234 rfl (by decide +kernel) (Nat.le_of_ble_eq_true rfl) (Nat.le_of_ble_eq_true rfl) (Nat.le_of_ble_eq_true rfl) (τ := [.inr (8, .inl arr11)]) rfl
        · have hf := fif_t h hf
          refine V.aload_n (i := 0) dL_gives_215 rfl rfl ?_
          refine V.iload_n (i := 3) dL_gives_216 rfl rfl ?_
          refine V.iload (i := 10) dL_gives_217 rfl ?_
          refine V.iload (i := 13) dL_gives_219 rfl ?_
          refine V.iconst (v := 1) dL_gives_221 rfl ?_
          obtain ⟨v31, hv31, hf⟩ := fbind hf
          have hc := ct_X10_knot (a1 := p3) (a2 := p10) (a3 := x13) (a4 := 1) (State_cells := State_cells) (History_oldest := History_oldest) (History_size := History_size) (History_snapshotTaken := History_snapshotTaken) (History_saved := History_saved) (History_snapshot := History_snapshot) (Buffer_size := Buffer_size) (Buffer_codes := Buffer_codes) (Reader_pattern := Reader_pattern) (Reader_place := Reader_place) (Word_size := Word_size) (Word_letters := Word_letters) hv31
          rcases hv31b : v31 with v32 | E9
          · rw [hv31b] at hc hf
            dsimp only [fth] at hf
            refine V.callVn (pl := [0, 1, 2, 3, 4, 5, 6, 7, 8, 9, 10]) (σ' := [.inl (5, [.ref 1, .ref 3, .ref 6, .ref 8, .ref 9]), .inl (3, [.ref 2]), .inr (910, .inl State_cells), .inl (1, [.ref 4, .ref 5, .int History_oldest, .int History_size, .int History_snapshotTaken]), .inr (5460, .inl History_saved), .inr (910, .inl History_snapshot), .inl (0, [.ref 7, .int Buffer_size]), .inr (60, .inl Buffer_codes), .inl (2, [.ref (Reader_pattern + 1000), .int Reader_place]), .inl (4, [.ref 10, .int Word_size]), .inr (8, .inl Word_letters), .inr (8, .inl arr11)]) (st2 := [.int v32]) (cl2 := 2) (sl2 := 14) hc dL_gives_222 w320 ⟨w321, w322⟩ cal_X10_knot rfl ⟨⟨Nat.le_of_ble_eq_true rfl, Nat.le_of_ble_eq_true rfl⟩, Nat.le_of_ble_eq_true rfl, Nat.le_of_ble_eq_true rfl⟩ (Nat.le_of_ble_eq_true rfl) ⟨_, _, _, _, rfl, rfl⟩ rfl ⟨rfl, ⟨by decide, by decide⟩, rfl, (fr_cons (Or.inl (Nat.le_of_ble_eq_true rfl)) (fr_cons (Or.inl (Nat.le_of_ble_eq_true rfl)) (fr_cons (Or.inl (Nat.le_of_ble_eq_true rfl)) (fr_cons (Or.inl (Nat.le_of_ble_eq_true rfl)) (fr_cons (Or.inl (Nat.le_of_ble_eq_true rfl)) (fr_cons (Or.inl (Nat.le_of_ble_eq_true rfl)) (fr_cons (Or.inl (Nat.le_of_ble_eq_true rfl)) (fr_cons (Or.inl (Nat.le_of_ble_eq_true rfl)) (fr_cons (Or.inl (Nat.le_of_ble_eq_true rfl)) (fr_cons (Or.inr (Nat.le_add_left 1000 _)) (fr_cons (Or.inl (Nat.le_of_ble_eq_true rfl)) (fr_nil)))))))))))), rfl⟩ fr_i rfl rfl rfl rfl ?_
            refine V.aload (i := 11) dL_gives_225 rfl ?_
            refine V.iload (i := 13) dL_gives_227 rfl ?_
            obtain ⟨hi, v33, ev33, hf⟩ := fld_e hf
            refine V.fld dL_gives_229 rfl hi ev33 ?_
            refine V.icmp_eq (tgt := 235) dL_gives_230 (by decide) (fun h => ?_) (fun h => ?_)
            · have hf := fif_t h hf
              refine V.iinc (i := 13) (v := (x13 + 1)) (L' := [some (.ref 0), some (.int p1), some (.int p2), some (.int p3), some (.int p4), some (.int p5), some (.int p6), some (.int p7), some (.int p8), some (.int p9), some (.int p10), some (.ref 11), some (.int p12), some (.int (x13 + 1))]) dL_gives_235 rfl rfl (Nat.le_of_ble_eq_true rfl) rfl rfl ?_
              refine V.goto (tgt := 190) dL_gives_238 (by decide) ?_
              exact ih hf hr hx
            · have hf := fif_f h hf
              refine V.iconst (v := 0) dL_gives_233 rfl ?_
              obtain rfl := Option.some.inj hf
              obtain ⟨e1, e2⟩ := hr _ rfl
              subst e1; subst e2
              exact V.zretD (v := 0) dL_gives_234 rfl (by decide +kernel) (Nat.le_of_ble_eq_true rfl) (Nat.le_of_ble_eq_true rfl) (Nat.le_of_ble_eq_true rfl) (τ := [.inr (8, .inl arr11)]) rfl
          · rw [hv31b] at hc hf
            dsimp only [fth] at hf
            cases hf
      · rw [hv28b] at hc hf
        dsimp only [fth] at hf
        cases hf
def s_L_gives (a1 : Int32) (a2 : Int32) (a3 : Int32) (State_cells : Nat → Int32) (History_oldest : Int32) (History_size : Int32) (History_saved : Nat → Int32) (Word_size : Int32) (Word_letters : Nat → Int32) : Option (Int32 × (Nat → Int32) × (Int32) × (Int32) × (Nat → Int32) × (Int32) × (Nat → Int32)) := (s_X10_noGift a1 a2 a3 State_cells Word_size Word_letters).bind fun v1 => fth v1.1 (fun v2 => (s_X10_name a1 a2 3 State_cells).bind fun v3 => fth v3 (fun v4 => (s_X10_name a1 a2 0 State_cells).bind fun v5 => fth v5 (fun v6 => (s_X10_count 0 State_cells History_size).bind fun v7 => fth v7 (fun v8 => (s_X10_count 8 State_cells History_size).bind fun v9 => fth v9 (fun v10 => (s_L_loose a3 State_cells).bind fun v11 => (s_X10_fisher a3 1 State_cells).bind fun v12 => fth v12 (fun v13 => (s_L_gives_L66 a1 a2 State_cells gF 0 (fun _ => 0)).bind fun r17 => (s_L_tryGive a1 a2 a3 State_cells History_oldest History_size History_saved v1.2.1 v1.2.2).bind fun v18 => flet ((if (v2 = 5 : Prop) then 1 else 0) : Int32) fun v19 => flet ((if (a1 = a3 : Prop) then 1 else 0) : Int32) fun v21 => if (v19 = v21 : Prop) then (flet ((if (v2 = 4 : Prop) then 1 else 0) : Int32) fun v23 => flet ((if (a1 = a3 : Prop) then 0 else (if (v4 ≤ 0 : Prop) then 0 else 1)) : Int32) fun v25 => if (v23 = v25 : Prop) then (if (v2 ≤ 0 : Prop) then ((s_L_gives_L190 a3 v13 v18.2.1 v18.2.2.1 v18.2.2.2.1 v18.2.2.2.2.1 v18.2.2.2.2.2.1 v18.2.2.2.2.2.2 r17.2 gF 0).bind fun r34 => fsum r34 (fun r9 => some r9) (fun e35 => if (v18.1 = v13 : Prop) then ((s_X10_name a3 v13 0 v18.2.1).bind fun v36 => fth v36 (fun v37 => if (v37 = v6 : Prop) then ((s_X10_count 0 v18.2.1 v18.2.2.2.1).bind fun v38 => fth v38 (fun v39 => if (v39 = v8 : Prop) then ((s_X10_count 8 v18.2.1 v18.2.2.2.1).bind fun v40 => fth v40 (fun v41 => if (v41 = (v10 + 1) : Prop) then ((s_L_loose a3 v18.2.1).bind fun v42 => flet ((if (v42 = v11 : Prop) then 1 else 0) : Int32) fun v43 => fz v43 (some (v43, v18.2.1, v18.2.2.1, v18.2.2.2.1, v18.2.2.2.2.1, v18.2.2.2.2.2.1, v18.2.2.2.2.2.2))) else (some (0, v18.2.1, v18.2.2.1, v18.2.2.2.1, v18.2.2.2.2.1, v18.2.2.2.2.2.1, v18.2.2.2.2.2.2))) (fun E9 => none)) else (some (0, v18.2.1, v18.2.2.1, v18.2.2.2.1, v18.2.2.2.2.1, v18.2.2.2.2.2.1, v18.2.2.2.2.2.2))) (fun E9 => none)) else (some (0, v18.2.1, v18.2.2.1, v18.2.2.2.1, v18.2.2.2.2.1, v18.2.2.2.2.2.1, v18.2.2.2.2.2.2))) (fun E9 => none)) else (some (0, v18.2.1, v18.2.2.1, v18.2.2.2.1, v18.2.2.2.2.1, v18.2.2.2.2.2.1, v18.2.2.2.2.2.2)))) else (if (v18.1 = (-7003) : Prop) then ((s_X10_count 8 v18.2.1 v18.2.2.2.1).bind fun v45 => fth v45 (fun v46 => flet ((if (v46 = v10 : Prop) then 1 else 0) : Int32) fun v47 => fz v47 (some (v47, v18.2.1, v18.2.2.1, v18.2.2.2.1, v18.2.2.2.2.1, v18.2.2.2.2.2.1, v18.2.2.2.2.2.2))) (fun E9 => none)) else (some (0, v18.2.1, v18.2.2.1, v18.2.2.2.1, v18.2.2.2.2.1, v18.2.2.2.2.2.1, v18.2.2.2.2.2.2)))) else (some (0, v18.2.1, v18.2.2.1, v18.2.2.2.1, v18.2.2.2.2.1, v18.2.2.2.2.2.1, v18.2.2.2.2.2.2))) else (some (0, v18.2.1, v18.2.2.1, v18.2.2.2.1, v18.2.2.2.2.1, v18.2.2.2.2.2.1, v18.2.2.2.2.2.2))) (fun E9 => none)) (fun E9 => none)) (fun E9 => none)) (fun E9 => none)) (fun E9 => none)) (fun E9 => none)
set_option maxHeartbeats 4000000 in
set_option maxRecDepth 100000 in
theorem ct_L_gives {a1 : Int32} {a2 : Int32} {a3 : Int32} {State_cells : Nat → Int32} {History_oldest : Int32} {History_size : Int32} {History_snapshotTaken : Int32} {History_saved : Nat → Int32} {History_snapshot : Nat → Int32} {Buffer_size : Int32} {Buffer_codes : Nat → Int32} {Reader_pattern : Nat} {Reader_place : Int32} {Word_size : Int32} {Word_letters : Nat → Int32} {res : Int32 × (Nat → Int32) × (Int32) × (Int32) × (Nat → Int32) × (Int32) × (Nat → Int32)} (hf : s_L_gives a1 a2 a3 State_cells History_oldest History_size History_saved Word_size Word_letters = some res) : Ct k_L_gives [.ref 0, .int a1, .int a2, .int a3] [.inl (5, [.ref 1, .ref 3, .ref 6, .ref 8, .ref 9]), .inl (3, [.ref 2]), .inr (910, .inl State_cells), .inl (1, [.ref 4, .ref 5, .int History_oldest, .int History_size, .int History_snapshotTaken]), .inr (5460, .inl History_saved), .inr (910, .inl History_snapshot), .inl (0, [.ref 7, .int Buffer_size]), .inr (60, .inl Buffer_codes), .inl (2, [.ref (Reader_pattern + 1000), .int Reader_place]), .inl (4, [.ref 10, .int Word_size]), .inr (8, .inl Word_letters)] (.inl (some (.int res.1))) [.inl (5, [.ref 1, .ref 3, .ref 6, .ref 8, .ref 9]), .inl (3, [.ref 2]), .inr (910, .inl res.2.1), .inl (1, [.ref 4, .ref 5, .int res.2.2.1, .int res.2.2.2.1, .int History_snapshotTaken]), .inr (5460, .inl res.2.2.2.2.1), .inr (910, .inl History_snapshot), .inl (0, [.ref 7, .int Buffer_size]), .inr (60, .inl Buffer_codes), .inl (2, [.ref (Reader_pattern + 1000), .int Reader_place]), .inl (4, [.ref 10, .int res.2.2.2.2.2.1]), .inr (8, .inl res.2.2.2.2.2.2)] := by
  unfold s_L_gives at hf
  refine Ct.of (L := [some (.ref 0), some (.int a1), some (.int a2), some (.int a3), none, none, none, none, none, none, none, none, none, none]) cal_L_gives (fent_pad (j := 10) rfl) (Nat.le_of_ble_eq_true rfl) ?_
  refine V.aload_n (i := 0) dL_gives_0 rfl rfl ?_
  refine V.iload_n (i := 1) dL_gives_1 rfl rfl ?_
  refine V.iload_n (i := 2) dL_gives_2 rfl rfl ?_
  refine V.iload_n (i := 3) dL_gives_3 rfl rfl ?_
  obtain ⟨v1, hv1, hf⟩ := fbind hf
  have hc := ct_X10_noGift (a1 := a1) (a2 := a2) (a3 := a3) (State_cells := State_cells) (History_oldest := History_oldest) (History_size := History_size) (History_snapshotTaken := History_snapshotTaken) (History_saved := History_saved) (History_snapshot := History_snapshot) (Buffer_size := Buffer_size) (Buffer_codes := Buffer_codes) (Reader_pattern := Reader_pattern) (Reader_place := Reader_place) (Word_size := Word_size) (Word_letters := Word_letters) hv1
  rcases hv1b : v1.1 with v2 | E9
  · rw [hv1b] at hc hf
    dsimp only [fth] at hf
    refine V.callVn (pl := [0, 1, 2, 3, 4, 5, 6, 7, 8, 9, 10]) (σ' := [.inl (5, [.ref 1, .ref 3, .ref 6, .ref 8, .ref 9]), .inl (3, [.ref 2]), .inr (910, .inl State_cells), .inl (1, [.ref 4, .ref 5, .int History_oldest, .int History_size, .int History_snapshotTaken]), .inr (5460, .inl History_saved), .inr (910, .inl History_snapshot), .inl (0, [.ref 7, .int Buffer_size]), .inr (60, .inl Buffer_codes), .inl (2, [.ref (Reader_pattern + 1000), .int Reader_place]), .inl (4, [.ref 10, .int v1.2.1]), .inr (8, .inl v1.2.2)]) (st2 := [.int v2]) (cl2 := 0) (sl2 := 0) hc dL_gives_4 w353 ⟨w354, w355⟩ cal_X10_noGift rfl ⟨⟨Nat.le_of_ble_eq_true rfl, Nat.le_of_ble_eq_true rfl⟩, Nat.le_of_ble_eq_true rfl, Nat.le_of_ble_eq_true rfl⟩ (Nat.le_of_ble_eq_true rfl) ⟨_, _, _, _, rfl, rfl⟩ rfl ⟨rfl, ⟨by decide, by decide⟩, rfl, (fr_cons (Or.inl (Nat.le_of_ble_eq_true rfl)) (fr_cons (Or.inl (Nat.le_of_ble_eq_true rfl)) (fr_cons (Or.inl (Nat.le_of_ble_eq_true rfl)) (fr_cons (Or.inl (Nat.le_of_ble_eq_true rfl)) (fr_cons (Or.inl (Nat.le_of_ble_eq_true rfl)) (fr_cons (Or.inl (Nat.le_of_ble_eq_true rfl)) (fr_cons (Or.inl (Nat.le_of_ble_eq_true rfl)) (fr_cons (Or.inl (Nat.le_of_ble_eq_true rfl)) (fr_cons (Or.inl (Nat.le_of_ble_eq_true rfl)) (fr_cons (Or.inr (Nat.le_add_left 1000 _)) (fr_cons (Or.inl (Nat.le_of_ble_eq_true rfl)) (fr_nil)))))))))))), rfl⟩ fr_i rfl rfl rfl rfl ?_
    refine V.istore (i := 4) (L' := [some (.ref 0), some (.int a1), some (.int a2), some (.int a3), some (.int v2), none, none, none, none, none, none, none, none, none]) dL_gives_7 (Nat.le_of_ble_eq_true rfl) rfl rfl ?_
    refine V.aload_n (i := 0) dL_gives_9 rfl rfl ?_
    refine V.iload_n (i := 1) dL_gives_10 rfl rfl ?_
    refine V.iload_n (i := 2) dL_gives_11 rfl rfl ?_
    refine V.iconst (v := 3) dL_gives_12 rfl ?_
    obtain ⟨v3, hv3, hf⟩ := fbind hf
    have hc := ct_X10_name (a1 := a1) (a2 := a2) (a3 := 3) (State_cells := State_cells) (History_oldest := History_oldest) (History_size := History_size) (History_snapshotTaken := History_snapshotTaken) (History_saved := History_saved) (History_snapshot := History_snapshot) (Buffer_size := Buffer_size) (Buffer_codes := Buffer_codes) (Reader_pattern := Reader_pattern) (Reader_place := Reader_place) (Word_size := v1.2.1) (Word_letters := v1.2.2) hv3
    rcases hv3b : v3 with v4 | E9
    · rw [hv3b] at hc hf
      dsimp only [fth] at hf
      refine V.callVn (pl := [0, 1, 2, 3, 4, 5, 6, 7, 8, 9, 10]) (σ' := [.inl (5, [.ref 1, .ref 3, .ref 6, .ref 8, .ref 9]), .inl (3, [.ref 2]), .inr (910, .inl State_cells), .inl (1, [.ref 4, .ref 5, .int History_oldest, .int History_size, .int History_snapshotTaken]), .inr (5460, .inl History_saved), .inr (910, .inl History_snapshot), .inl (0, [.ref 7, .int Buffer_size]), .inr (60, .inl Buffer_codes), .inl (2, [.ref (Reader_pattern + 1000), .int Reader_place]), .inl (4, [.ref 10, .int v1.2.1]), .inr (8, .inl v1.2.2)]) (st2 := [.int v4]) (cl2 := 0) (sl2 := 0) hc dL_gives_13 w284 ⟨w285, w286⟩ cal_X10_name rfl ⟨⟨Nat.le_of_ble_eq_true rfl, Nat.le_of_ble_eq_true rfl⟩, Nat.le_of_ble_eq_true rfl, Nat.le_of_ble_eq_true rfl⟩ (Nat.le_of_ble_eq_true rfl) ⟨_, _, _, _, rfl, rfl⟩ rfl ⟨rfl, ⟨by decide, by decide⟩, rfl, (fr_cons (Or.inl (Nat.le_of_ble_eq_true rfl)) (fr_cons (Or.inl (Nat.le_of_ble_eq_true rfl)) (fr_cons (Or.inl (Nat.le_of_ble_eq_true rfl)) (fr_cons (Or.inl (Nat.le_of_ble_eq_true rfl)) (fr_cons (Or.inl (Nat.le_of_ble_eq_true rfl)) (fr_cons (Or.inl (Nat.le_of_ble_eq_true rfl)) (fr_cons (Or.inl (Nat.le_of_ble_eq_true rfl)) (fr_cons (Or.inl (Nat.le_of_ble_eq_true rfl)) (fr_cons (Or.inl (Nat.le_of_ble_eq_true rfl)) (fr_cons (Or.inr (Nat.le_add_left 1000 _)) (fr_cons (Or.inl (Nat.le_of_ble_eq_true rfl)) (fr_nil)))))))))))), rfl⟩ fr_i rfl rfl rfl rfl ?_
      refine V.istore (i := 5) (L' := [some (.ref 0), some (.int a1), some (.int a2), some (.int a3), some (.int v2), some (.int v4), none, none, none, none, none, none, none, none]) dL_gives_16 (Nat.le_of_ble_eq_true rfl) rfl rfl ?_
      refine V.aload_n (i := 0) dL_gives_18 rfl rfl ?_
      refine V.iload_n (i := 1) dL_gives_19 rfl rfl ?_
      refine V.iload_n (i := 2) dL_gives_20 rfl rfl ?_
      refine V.iconst (v := 0) dL_gives_21 rfl ?_
      obtain ⟨v5, hv5, hf⟩ := fbind hf
      have hc := ct_X10_name (a1 := a1) (a2 := a2) (a3 := 0) (State_cells := State_cells) (History_oldest := History_oldest) (History_size := History_size) (History_snapshotTaken := History_snapshotTaken) (History_saved := History_saved) (History_snapshot := History_snapshot) (Buffer_size := Buffer_size) (Buffer_codes := Buffer_codes) (Reader_pattern := Reader_pattern) (Reader_place := Reader_place) (Word_size := v1.2.1) (Word_letters := v1.2.2) hv5
      rcases hv5b : v5 with v6 | E9
      · rw [hv5b] at hc hf
        dsimp only [fth] at hf
        refine V.callVn (pl := [0, 1, 2, 3, 4, 5, 6, 7, 8, 9, 10]) (σ' := [.inl (5, [.ref 1, .ref 3, .ref 6, .ref 8, .ref 9]), .inl (3, [.ref 2]), .inr (910, .inl State_cells), .inl (1, [.ref 4, .ref 5, .int History_oldest, .int History_size, .int History_snapshotTaken]), .inr (5460, .inl History_saved), .inr (910, .inl History_snapshot), .inl (0, [.ref 7, .int Buffer_size]), .inr (60, .inl Buffer_codes), .inl (2, [.ref (Reader_pattern + 1000), .int Reader_place]), .inl (4, [.ref 10, .int v1.2.1]), .inr (8, .inl v1.2.2)]) (st2 := [.int v6]) (cl2 := 0) (sl2 := 0) hc dL_gives_22 w284 ⟨w285, w286⟩ cal_X10_name rfl ⟨⟨Nat.le_of_ble_eq_true rfl, Nat.le_of_ble_eq_true rfl⟩, Nat.le_of_ble_eq_true rfl, Nat.le_of_ble_eq_true rfl⟩ (Nat.le_of_ble_eq_true rfl) ⟨_, _, _, _, rfl, rfl⟩ rfl ⟨rfl, ⟨by decide, by decide⟩, rfl, (fr_cons (Or.inl (Nat.le_of_ble_eq_true rfl)) (fr_cons (Or.inl (Nat.le_of_ble_eq_true rfl)) (fr_cons (Or.inl (Nat.le_of_ble_eq_true rfl)) (fr_cons (Or.inl (Nat.le_of_ble_eq_true rfl)) (fr_cons (Or.inl (Nat.le_of_ble_eq_true rfl)) (fr_cons (Or.inl (Nat.le_of_ble_eq_true rfl)) (fr_cons (Or.inl (Nat.le_of_ble_eq_true rfl)) (fr_cons (Or.inl (Nat.le_of_ble_eq_true rfl)) (fr_cons (Or.inl (Nat.le_of_ble_eq_true rfl)) (fr_cons (Or.inr (Nat.le_add_left 1000 _)) (fr_cons (Or.inl (Nat.le_of_ble_eq_true rfl)) (fr_nil)))))))))))), rfl⟩ fr_i rfl rfl rfl rfl ?_
        refine V.istore (i := 6) (L' := [some (.ref 0), some (.int a1), some (.int a2), some (.int a3), some (.int v2), some (.int v4), some (.int v6), none, none, none, none, none, none, none]) dL_gives_25 (Nat.le_of_ble_eq_true rfl) rfl rfl ?_
        refine V.aload_n (i := 0) dL_gives_27 rfl rfl ?_
        refine V.iconst (v := 0) dL_gives_28 rfl ?_
        obtain ⟨v7, hv7, hf⟩ := fbind hf
        have hc := ct_X10_count (a1 := 0) (State_cells := State_cells) (History_oldest := History_oldest) (History_size := History_size) (History_snapshotTaken := History_snapshotTaken) (History_saved := History_saved) (History_snapshot := History_snapshot) (Buffer_size := Buffer_size) (Buffer_codes := Buffer_codes) (Reader_pattern := Reader_pattern) (Reader_place := Reader_place) (Word_size := v1.2.1) (Word_letters := v1.2.2) hv7
        rcases hv7b : v7 with v8 | E9
        · rw [hv7b] at hc hf
          dsimp only [fth] at hf
          refine V.callVn (pl := [0, 1, 2, 3, 4, 5, 6, 7, 8, 9, 10]) (σ' := [.inl (5, [.ref 1, .ref 3, .ref 6, .ref 8, .ref 9]), .inl (3, [.ref 2]), .inr (910, .inl State_cells), .inl (1, [.ref 4, .ref 5, .int History_oldest, .int History_size, .int History_snapshotTaken]), .inr (5460, .inl History_saved), .inr (910, .inl History_snapshot), .inl (0, [.ref 7, .int Buffer_size]), .inr (60, .inl Buffer_codes), .inl (2, [.ref (Reader_pattern + 1000), .int Reader_place]), .inl (4, [.ref 10, .int v1.2.1]), .inr (8, .inl v1.2.2)]) (st2 := [.int v8]) (cl2 := 0) (sl2 := 0) hc dL_gives_29 w404 ⟨w405, w406⟩ cal_X10_count rfl ⟨⟨Nat.le_of_ble_eq_true rfl, Nat.le_of_ble_eq_true rfl⟩, Nat.le_of_ble_eq_true rfl, Nat.le_of_ble_eq_true rfl⟩ (Nat.le_of_ble_eq_true rfl) ⟨_, _, _, _, rfl, rfl⟩ rfl ⟨rfl, ⟨by decide, by decide⟩, rfl, (fr_cons (Or.inl (Nat.le_of_ble_eq_true rfl)) (fr_cons (Or.inl (Nat.le_of_ble_eq_true rfl)) (fr_cons (Or.inl (Nat.le_of_ble_eq_true rfl)) (fr_cons (Or.inl (Nat.le_of_ble_eq_true rfl)) (fr_cons (Or.inl (Nat.le_of_ble_eq_true rfl)) (fr_cons (Or.inl (Nat.le_of_ble_eq_true rfl)) (fr_cons (Or.inl (Nat.le_of_ble_eq_true rfl)) (fr_cons (Or.inl (Nat.le_of_ble_eq_true rfl)) (fr_cons (Or.inl (Nat.le_of_ble_eq_true rfl)) (fr_cons (Or.inr (Nat.le_add_left 1000 _)) (fr_cons (Or.inl (Nat.le_of_ble_eq_true rfl)) (fr_nil)))))))))))), rfl⟩ fr_i rfl rfl rfl rfl ?_
          refine V.istore (i := 7) (L' := [some (.ref 0), some (.int a1), some (.int a2), some (.int a3), some (.int v2), some (.int v4), some (.int v6), some (.int v8), none, none, none, none, none, none]) dL_gives_32 (Nat.le_of_ble_eq_true rfl) rfl rfl ?_
          refine V.aload_n (i := 0) dL_gives_34 rfl rfl ?_
          refine V.bipush (v := 8) dL_gives_35 rfl ?_
          obtain ⟨v9, hv9, hf⟩ := fbind hf
          have hc := ct_X10_count (a1 := 8) (State_cells := State_cells) (History_oldest := History_oldest) (History_size := History_size) (History_snapshotTaken := History_snapshotTaken) (History_saved := History_saved) (History_snapshot := History_snapshot) (Buffer_size := Buffer_size) (Buffer_codes := Buffer_codes) (Reader_pattern := Reader_pattern) (Reader_place := Reader_place) (Word_size := v1.2.1) (Word_letters := v1.2.2) hv9
          rcases hv9b : v9 with v10 | E9
          · rw [hv9b] at hc hf
            dsimp only [fth] at hf
            refine V.callVn (pl := [0, 1, 2, 3, 4, 5, 6, 7, 8, 9, 10]) (σ' := [.inl (5, [.ref 1, .ref 3, .ref 6, .ref 8, .ref 9]), .inl (3, [.ref 2]), .inr (910, .inl State_cells), .inl (1, [.ref 4, .ref 5, .int History_oldest, .int History_size, .int History_snapshotTaken]), .inr (5460, .inl History_saved), .inr (910, .inl History_snapshot), .inl (0, [.ref 7, .int Buffer_size]), .inr (60, .inl Buffer_codes), .inl (2, [.ref (Reader_pattern + 1000), .int Reader_place]), .inl (4, [.ref 10, .int v1.2.1]), .inr (8, .inl v1.2.2)]) (st2 := [.int v10]) (cl2 := 0) (sl2 := 0) hc dL_gives_37 w404 ⟨w405, w406⟩ cal_X10_count rfl ⟨⟨Nat.le_of_ble_eq_true rfl, Nat.le_of_ble_eq_true rfl⟩, Nat.le_of_ble_eq_true rfl, Nat.le_of_ble_eq_true rfl⟩ (Nat.le_of_ble_eq_true rfl) ⟨_, _, _, _, rfl, rfl⟩ rfl ⟨rfl, ⟨by decide, by decide⟩, rfl, (fr_cons (Or.inl (Nat.le_of_ble_eq_true rfl)) (fr_cons (Or.inl (Nat.le_of_ble_eq_true rfl)) (fr_cons (Or.inl (Nat.le_of_ble_eq_true rfl)) (fr_cons (Or.inl (Nat.le_of_ble_eq_true rfl)) (fr_cons (Or.inl (Nat.le_of_ble_eq_true rfl)) (fr_cons (Or.inl (Nat.le_of_ble_eq_true rfl)) (fr_cons (Or.inl (Nat.le_of_ble_eq_true rfl)) (fr_cons (Or.inl (Nat.le_of_ble_eq_true rfl)) (fr_cons (Or.inl (Nat.le_of_ble_eq_true rfl)) (fr_cons (Or.inr (Nat.le_add_left 1000 _)) (fr_cons (Or.inl (Nat.le_of_ble_eq_true rfl)) (fr_nil)))))))))))), rfl⟩ fr_i rfl rfl rfl rfl ?_
            refine V.istore (i := 8) (L' := [some (.ref 0), some (.int a1), some (.int a2), some (.int a3), some (.int v2), some (.int v4), some (.int v6), some (.int v8), some (.int v10), none, none, none, none, none]) dL_gives_40 (Nat.le_of_ble_eq_true rfl) rfl rfl ?_
            refine V.aload_n (i := 0) dL_gives_42 rfl rfl ?_
            refine V.iload_n (i := 3) dL_gives_43 rfl rfl ?_
            obtain ⟨v11, hv11, hf⟩ := fbind hf
            refine V.callSn (pl := [0, 1, 2, 3, 4, 5, 6, 7, 8, 9, 10]) (σ' := [.inl (5, [.ref 1, .ref 3, .ref 6, .ref 8, .ref 9]), .inl (3, [.ref 2]), .inr (910, .inl State_cells), .inl (1, [.ref 4, .ref 5, .int History_oldest, .int History_size, .int History_snapshotTaken]), .inr (5460, .inl History_saved), .inr (910, .inl History_snapshot), .inl (0, [.ref 7, .int Buffer_size]), .inr (60, .inl Buffer_codes), .inl (2, [.ref (Reader_pattern + 1000), .int Reader_place]), .inl (4, [.ref 10, .int v1.2.1]), .inr (8, .inl v1.2.2)]) (st2 := [.int v11]) (cl2 := 0) (sl2 := 0) (ct_L_loose (a1 := a3) (State_cells := State_cells) (History_oldest := History_oldest) (History_size := History_size) (History_snapshotTaken := History_snapshotTaken) (History_saved := History_saved) (History_snapshot := History_snapshot) (Buffer_size := Buffer_size) (Buffer_codes := Buffer_codes) (Reader_pattern := Reader_pattern) (Reader_place := Reader_place) (Word_size := v1.2.1) (Word_letters := v1.2.2) hv11) dL_gives_44 w678 w679 cal_L_loose ⟨⟨Nat.le_of_ble_eq_true rfl, Nat.le_of_ble_eq_true rfl⟩, Nat.le_of_ble_eq_true rfl, Nat.le_of_ble_eq_true rfl⟩ (Nat.le_of_ble_eq_true rfl) rfl ⟨rfl, ⟨by decide, by decide⟩, rfl, (fr_cons (Or.inl (Nat.le_of_ble_eq_true rfl)) (fr_cons (Or.inl (Nat.le_of_ble_eq_true rfl)) (fr_cons (Or.inl (Nat.le_of_ble_eq_true rfl)) (fr_cons (Or.inl (Nat.le_of_ble_eq_true rfl)) (fr_cons (Or.inl (Nat.le_of_ble_eq_true rfl)) (fr_cons (Or.inl (Nat.le_of_ble_eq_true rfl)) (fr_cons (Or.inl (Nat.le_of_ble_eq_true rfl)) (fr_cons (Or.inl (Nat.le_of_ble_eq_true rfl)) (fr_cons (Or.inl (Nat.le_of_ble_eq_true rfl)) (fr_cons (Or.inr (Nat.le_add_left 1000 _)) (fr_cons (Or.inl (Nat.le_of_ble_eq_true rfl)) (fr_nil)))))))))))), rfl⟩ fr_i rfl rfl rfl rfl ?_
            refine V.istore (i := 9) (L' := [some (.ref 0), some (.int a1), some (.int a2), some (.int a3), some (.int v2), some (.int v4), some (.int v6), some (.int v8), some (.int v10), some (.int v11), none, none, none, none]) dL_gives_47 (Nat.le_of_ble_eq_true rfl) rfl rfl ?_
            refine V.aload_n (i := 0) dL_gives_49 rfl rfl ?_
            refine V.iload_n (i := 3) dL_gives_50 rfl rfl ?_
            refine V.iconst (v := 1) dL_gives_51 rfl ?_
            obtain ⟨v12, hv12, hf⟩ := fbind hf
            have hc := ct_X10_fisher (a1 := a3) (a2 := 1) (State_cells := State_cells) (History_oldest := History_oldest) (History_size := History_size) (History_snapshotTaken := History_snapshotTaken) (History_saved := History_saved) (History_snapshot := History_snapshot) (Buffer_size := Buffer_size) (Buffer_codes := Buffer_codes) (Reader_pattern := Reader_pattern) (Reader_place := Reader_place) (Word_size := v1.2.1) (Word_letters := v1.2.2) hv12
            rcases hv12b : v12 with v13 | E9
            · rw [hv12b] at hc hf
              dsimp only [fth] at hf
              refine V.callVn (pl := [0, 1, 2, 3, 4, 5, 6, 7, 8, 9, 10]) (σ' := [.inl (5, [.ref 1, .ref 3, .ref 6, .ref 8, .ref 9]), .inl (3, [.ref 2]), .inr (910, .inl State_cells), .inl (1, [.ref 4, .ref 5, .int History_oldest, .int History_size, .int History_snapshotTaken]), .inr (5460, .inl History_saved), .inr (910, .inl History_snapshot), .inl (0, [.ref 7, .int Buffer_size]), .inr (60, .inl Buffer_codes), .inl (2, [.ref (Reader_pattern + 1000), .int Reader_place]), .inl (4, [.ref 10, .int v1.2.1]), .inr (8, .inl v1.2.2)]) (st2 := [.int v13]) (cl2 := 0) (sl2 := 0) hc dL_gives_52 w174 ⟨w175, w176⟩ cal_X10_fisher rfl ⟨⟨Nat.le_of_ble_eq_true rfl, Nat.le_of_ble_eq_true rfl⟩, Nat.le_of_ble_eq_true rfl, Nat.le_of_ble_eq_true rfl⟩ (Nat.le_of_ble_eq_true rfl) ⟨_, _, _, _, rfl, rfl⟩ rfl ⟨rfl, ⟨by decide, by decide⟩, rfl, (fr_cons (Or.inl (Nat.le_of_ble_eq_true rfl)) (fr_cons (Or.inl (Nat.le_of_ble_eq_true rfl)) (fr_cons (Or.inl (Nat.le_of_ble_eq_true rfl)) (fr_cons (Or.inl (Nat.le_of_ble_eq_true rfl)) (fr_cons (Or.inl (Nat.le_of_ble_eq_true rfl)) (fr_cons (Or.inl (Nat.le_of_ble_eq_true rfl)) (fr_cons (Or.inl (Nat.le_of_ble_eq_true rfl)) (fr_cons (Or.inl (Nat.le_of_ble_eq_true rfl)) (fr_cons (Or.inl (Nat.le_of_ble_eq_true rfl)) (fr_cons (Or.inr (Nat.le_add_left 1000 _)) (fr_cons (Or.inl (Nat.le_of_ble_eq_true rfl)) (fr_nil)))))))))))), rfl⟩ fr_i rfl rfl rfl rfl ?_
              refine V.istore (i := 10) (L' := [some (.ref 0), some (.int a1), some (.int a2), some (.int a3), some (.int v2), some (.int v4), some (.int v6), some (.int v8), some (.int v10), some (.int v11), some (.int v13), none, none, none]) dL_gives_55 (Nat.le_of_ble_eq_true rfl) rfl rfl ?_
              refine V.bipush (v := 8) dL_gives_57 rfl ?_
              refine V.newI (N := 8) (f := fun _ => 0) rfl dL_gives_59 w48 (by decide) rfl (Nat.le_of_ble_eq_true rfl) rfl (Nat.le_of_ble_eq_true rfl) (Nat.le_of_ble_eq_true rfl) ?_
              refine V.astore (i := 11) (L' := [some (.ref 0), some (.int a1), some (.int a2), some (.int a3), some (.int v2), some (.int v4), some (.int v6), some (.int v8), some (.int v10), some (.int v11), some (.int v13), some (.ref 11), none, none]) dL_gives_61 (Nat.le_of_ble_eq_true rfl) rfl rfl ?_
              refine V.iconst (v := 0) dL_gives_63 rfl ?_
              refine V.istore (i := 12) (L' := [some (.ref 0), some (.int a1), some (.int a2), some (.int a3), some (.int v2), some (.int v4), some (.int v6), some (.int v8), some (.int v10), some (.int v11), some (.int v13), some (.ref 11), some (.int 0), none]) dL_gives_64 (Nat.le_of_ble_eq_true rfl) rfl rfl ?_
              obtain ⟨r17, hr17, hf⟩ := fbind hf
              refine v_L_gives_L66 gF hr17 ?_
              refine V.aload_n (i := 0) dL_gives_93 rfl rfl ?_
              refine V.iload_n (i := 1) dL_gives_94 rfl rfl ?_
              refine V.iload_n (i := 2) dL_gives_95 rfl rfl ?_
              refine V.iload_n (i := 3) dL_gives_96 rfl rfl ?_
              obtain ⟨v18, hv18, hf⟩ := fbind hf
              refine V.callSn (pl := [0, 1, 2, 3, 4, 5, 6, 7, 8, 9, 10]) (σ' := [.inl (5, [.ref 1, .ref 3, .ref 6, .ref 8, .ref 9]), .inl (3, [.ref 2]), .inr (910, .inl v18.2.1), .inl (1, [.ref 4, .ref 5, .int v18.2.2.1, .int v18.2.2.2.1, .int History_snapshotTaken]), .inr (5460, .inl v18.2.2.2.2.1), .inr (910, .inl History_snapshot), .inl (0, [.ref 7, .int Buffer_size]), .inr (60, .inl Buffer_codes), .inl (2, [.ref (Reader_pattern + 1000), .int Reader_place]), .inl (4, [.ref 10, .int v18.2.2.2.2.2.1]), .inr (8, .inl v18.2.2.2.2.2.2), .inr (8, .inl r17.2)]) (st2 := [.int v18.1]) (cl2 := 2) (sl2 := 14) (ct_L_tryGive (a1 := a1) (a2 := a2) (a3 := a3) (State_cells := State_cells) (History_oldest := History_oldest) (History_size := History_size) (History_snapshotTaken := History_snapshotTaken) (History_saved := History_saved) (History_snapshot := History_snapshot) (Buffer_size := Buffer_size) (Buffer_codes := Buffer_codes) (Reader_pattern := Reader_pattern) (Reader_place := Reader_place) (Word_size := v1.2.1) (Word_letters := v1.2.2) hv18) dL_gives_97 w681 w682 cal_L_tryGive ⟨⟨Nat.le_of_ble_eq_true rfl, Nat.le_of_ble_eq_true rfl⟩, Nat.le_of_ble_eq_true rfl, Nat.le_of_ble_eq_true rfl⟩ (Nat.le_of_ble_eq_true rfl) rfl ⟨rfl, ⟨by decide, by decide⟩, rfl, (fr_cons (Or.inl (Nat.le_of_ble_eq_true rfl)) (fr_cons (Or.inl (Nat.le_of_ble_eq_true rfl)) (fr_cons (Or.inl (Nat.le_of_ble_eq_true rfl)) (fr_cons (Or.inl (Nat.le_of_ble_eq_true rfl)) (fr_cons (Or.inl (Nat.le_of_ble_eq_true rfl)) (fr_cons (Or.inl (Nat.le_of_ble_eq_true rfl)) (fr_cons (Or.inl (Nat.le_of_ble_eq_true rfl)) (fr_cons (Or.inl (Nat.le_of_ble_eq_true rfl)) (fr_cons (Or.inl (Nat.le_of_ble_eq_true rfl)) (fr_cons (Or.inr (Nat.le_add_left 1000 _)) (fr_cons (Or.inl (Nat.le_of_ble_eq_true rfl)) (fr_nil)))))))))))), rfl⟩ fr_i rfl rfl rfl rfl ?_
              refine V.istore (i := 12) (L' := [some (.ref 0), some (.int a1), some (.int a2), some (.int a3), some (.int v2), some (.int v4), some (.int v6), some (.int v8), some (.int v10), some (.int v11), some (.int v13), some (.ref 11), some (.int v18.1), none]) dL_gives_100 (Nat.le_of_ble_eq_true rfl) rfl rfl ?_
              refine V.iload (i := 4) dL_gives_102 rfl ?_
              refine V.iconst (v := 5) dL_gives_104 rfl ?_
              obtain ⟨v19, ev19, hf⟩ := flet_e hf
              refine V.join (J := 113) (y := v19) (st' := []) (fun tlv19 => ?_) ?_
              · refine V.icmp_ne (tgt := 112) dL_gives_105 (by decide) (fun h20 => ?_) (fun h20 => ?_)
                · refine V.iconst (v := 0) dL_gives_112 rfl ?_
                  exact V.cgi (by rw [← ev19, if_neg h20]) tlv19
                · refine V.iconst (v := 1) dL_gives_108 rfl ?_
                  refine V.goto (tgt := 113) dL_gives_109 (by decide) ?_
                  exact V.cgi (by rw [← ev19, if_pos h20]) tlv19
              · refine V.iload_n (i := 1) dL_gives_113 rfl rfl ?_
                refine V.iload_n (i := 3) dL_gives_114 rfl rfl ?_
                obtain ⟨v21, ev21, hf⟩ := flet_e hf
                refine V.join (J := 123) (y := v21) (st' := [.int v19]) (fun tlv21 => ?_) ?_
                · refine V.icmp_ne (tgt := 122) dL_gives_115 (by decide) (fun h22 => ?_) (fun h22 => ?_)
                  · refine V.iconst (v := 0) dL_gives_122 rfl ?_
                    exact V.cgi (by rw [← ev21, if_neg h22]) tlv21
                  · refine V.iconst (v := 1) dL_gives_118 rfl ?_
                    refine V.goto (tgt := 123) dL_gives_119 (by decide) ?_
                    exact V.cgi (by rw [← ev21, if_pos h22]) tlv21
                · refine V.icmp_ne (tgt := 155) dL_gives_123 (by decide) (fun h => ?_) (fun h => ?_)
                  · have hf := fif_f h hf
                    refine V.iconst (v := 0) dL_gives_155 rfl ?_
                    obtain rfl := Option.some.inj hf
                    exact V.zretD (v := 0) dL_gives_156 rfl (by decide +kernel) (Nat.le_of_ble_eq_true rfl) (Nat.le_of_ble_eq_true rfl) (Nat.le_of_ble_eq_true rfl) (τ := [.inr (8, .inl r17.2)]) rfl
                  · have hf := fif_t h hf
                    refine V.iload (i := 4) dL_gives_126 rfl ?_
                    refine V.iconst (v := 4) dL_gives_128 rfl ?_
                    obtain ⟨v23, ev23, hf⟩ := flet_e hf
                    refine V.join (J := 137) (y := v23) (st' := []) (fun tlv23 => ?_) ?_
                    · refine V.icmp_ne (tgt := 136) dL_gives_129 (by decide) (fun h24 => ?_) (fun h24 => ?_)
                      · refine V.iconst (v := 0) dL_gives_136 rfl ?_
                        exact V.cgi (by rw [← ev23, if_neg h24]) tlv23
                      · refine V.iconst (v := 1) dL_gives_132 rfl ?_
                        refine V.goto (tgt := 137) dL_gives_133 (by decide) ?_
                        exact V.cgi (by rw [← ev23, if_pos h24]) tlv23
                    · refine V.iload_n (i := 1) dL_gives_137 rfl rfl ?_
                      refine V.iload_n (i := 3) dL_gives_138 rfl rfl ?_
                      obtain ⟨v25, ev25, hf⟩ := flet_e hf
                      refine V.join (J := 152) (y := v25) (st' := [.int v23]) (fun tlv25 => ?_) ?_
                      · refine V.icmp_eq (tgt := 151) dL_gives_139 (by decide) (fun h26 => ?_) (fun h26 => ?_)
                        · refine V.iconst (v := 0) dL_gives_151 rfl ?_
                          exact V.cgi (by rw [← ev25, if_pos h26]) tlv25
                        · refine V.iload (i := 5) dL_gives_142 rfl ?_
                          refine V.if_le (tgt := 151) dL_gives_144 (by decide) (fun h27 => ?_) (fun h27 => ?_)
                          · refine V.iconst (v := 0) dL_gives_151 rfl ?_
                            exact V.cgi (by rw [← ev25, if_neg h26, if_pos h27]) tlv25
                          · refine V.iconst (v := 1) dL_gives_147 rfl ?_
                            refine V.goto (tgt := 152) dL_gives_148 (by decide) ?_
                            exact V.cgi (by rw [← ev25, if_neg h26, if_neg h27]) tlv25
                      · refine V.icmp_eq (tgt := 157) dL_gives_152 (by decide) (fun h => ?_) (fun h => ?_)
                        · have hf := fif_t h hf
                          refine V.iload (i := 4) dL_gives_157 rfl ?_
                          refine V.if_le (tgt := 187) dL_gives_159 (by decide) (fun h => ?_) (fun h => ?_)
                          · have hf := fif_t h hf
                            refine V.iconst (v := 0) dL_gives_187 rfl ?_
                            refine V.istore (i := 13) (L' := [some (.ref 0), some (.int a1), some (.int a2), some (.int a3), some (.int v2), some (.int v4), some (.int v6), some (.int v8), some (.int v10), some (.int v11), some (.int v13), some (.ref 11), some (.int v18.1), some (.int 0)]) dL_gives_188 (Nat.le_of_ble_eq_true rfl) rfl rfl ?_
                            obtain ⟨r34, hr34, hf⟩ := fbind hf
                            rcases r34 with r9 | e35
                            · obtain rfl := Option.some.inj (show some _ = some res from hf)
                              exact v_L_gives_L190 gF hr34 (fun _ h => by cases h; exact ⟨rfl, rfl⟩) (fun _ h => by cases h)
                            · replace hf : _ = some res := hf
                              dsimp only [fsum] at hf
                              refine v_L_gives_L190 gF hr34 (fun _ h => by cases h) (fun _ h => ?_)
                              cases h
                              refine V.iload (i := 12) dL_gives_241 rfl ?_
                              refine V.iload (i := 10) dL_gives_243 rfl ?_
                              refine V.icmp_ne (tgt := 298) dL_gives_245 (by decide) (fun h => ?_) (fun h => ?_)
                              · have hf := fif_f h hf
                                refine V.iconst (v := 0) dL_gives_298 rfl ?_
                                obtain rfl := Option.some.inj hf
                                exact V.zretD (v := 0) dL_gives_299 rfl (by decide +kernel) (Nat.le_of_ble_eq_true rfl) (Nat.le_of_ble_eq_true rfl) (Nat.le_of_ble_eq_true rfl) (τ := [.inr (8, .inl r17.2)]) rfl
                              · have hf := fif_t h hf
                                refine V.aload_n (i := 0) dL_gives_248 rfl rfl ?_
                                refine V.iload_n (i := 3) dL_gives_249 rfl rfl ?_
                                refine V.iload (i := 10) dL_gives_250 rfl ?_
                                refine V.iconst (v := 0) dL_gives_252 rfl ?_
                                obtain ⟨v36, hv36, hf⟩ := fbind hf
                                have hc := ct_X10_name (a1 := a3) (a2 := v13) (a3 := 0) (State_cells := v18.2.1) (History_oldest := v18.2.2.1) (History_size := v18.2.2.2.1) (History_snapshotTaken := History_snapshotTaken) (History_saved := v18.2.2.2.2.1) (History_snapshot := History_snapshot) (Buffer_size := Buffer_size) (Buffer_codes := Buffer_codes) (Reader_pattern := Reader_pattern) (Reader_place := Reader_place) (Word_size := v18.2.2.2.2.2.1) (Word_letters := v18.2.2.2.2.2.2) hv36
                                rcases hv36b : v36 with v37 | E9
                                · rw [hv36b] at hc hf
                                  dsimp only [fth] at hf
                                  refine V.callVn (pl := [0, 1, 2, 3, 4, 5, 6, 7, 8, 9, 10]) (σ' := [.inl (5, [.ref 1, .ref 3, .ref 6, .ref 8, .ref 9]), .inl (3, [.ref 2]), .inr (910, .inl v18.2.1), .inl (1, [.ref 4, .ref 5, .int v18.2.2.1, .int v18.2.2.2.1, .int History_snapshotTaken]), .inr (5460, .inl v18.2.2.2.2.1), .inr (910, .inl History_snapshot), .inl (0, [.ref 7, .int Buffer_size]), .inr (60, .inl Buffer_codes), .inl (2, [.ref (Reader_pattern + 1000), .int Reader_place]), .inl (4, [.ref 10, .int v18.2.2.2.2.2.1]), .inr (8, .inl v18.2.2.2.2.2.2), .inr (8, .inl r17.2)]) (st2 := [.int v37]) (cl2 := 2) (sl2 := 14) hc dL_gives_253 w284 ⟨w285, w286⟩ cal_X10_name rfl ⟨⟨Nat.le_of_ble_eq_true rfl, Nat.le_of_ble_eq_true rfl⟩, Nat.le_of_ble_eq_true rfl, Nat.le_of_ble_eq_true rfl⟩ (Nat.le_of_ble_eq_true rfl) ⟨_, _, _, _, rfl, rfl⟩ rfl ⟨rfl, ⟨by decide, by decide⟩, rfl, (fr_cons (Or.inl (Nat.le_of_ble_eq_true rfl)) (fr_cons (Or.inl (Nat.le_of_ble_eq_true rfl)) (fr_cons (Or.inl (Nat.le_of_ble_eq_true rfl)) (fr_cons (Or.inl (Nat.le_of_ble_eq_true rfl)) (fr_cons (Or.inl (Nat.le_of_ble_eq_true rfl)) (fr_cons (Or.inl (Nat.le_of_ble_eq_true rfl)) (fr_cons (Or.inl (Nat.le_of_ble_eq_true rfl)) (fr_cons (Or.inl (Nat.le_of_ble_eq_true rfl)) (fr_cons (Or.inl (Nat.le_of_ble_eq_true rfl)) (fr_cons (Or.inr (Nat.le_add_left 1000 _)) (fr_cons (Or.inl (Nat.le_of_ble_eq_true rfl)) (fr_nil)))))))))))), rfl⟩ fr_i rfl rfl rfl rfl ?_
                                  refine V.iload (i := 6) dL_gives_256 rfl ?_
                                  refine V.icmp_ne (tgt := 298) dL_gives_258 (by decide) (fun h => ?_) (fun h => ?_)
                                  · have hf := fif_f h hf
                                    refine V.iconst (v := 0) dL_gives_298 rfl ?_
                                    obtain rfl := Option.some.inj hf
                                    exact V.zretD (v := 0) dL_gives_299 rfl (by decide +kernel) (Nat.le_of_ble_eq_true rfl) (Nat.le_of_ble_eq_true rfl) (Nat.le_of_ble_eq_true rfl) (τ := [.inr (8, .inl r17.2)]) rfl
                                  · have hf := fif_t h hf
                                    refine V.aload_n (i := 0) dL_gives_261 rfl rfl ?_
                                    refine V.iconst (v := 0) dL_gives_262 rfl ?_
                                    obtain ⟨v38, hv38, hf⟩ := fbind hf
                                    have hc := ct_X10_count (a1 := 0) (State_cells := v18.2.1) (History_oldest := v18.2.2.1) (History_size := v18.2.2.2.1) (History_snapshotTaken := History_snapshotTaken) (History_saved := v18.2.2.2.2.1) (History_snapshot := History_snapshot) (Buffer_size := Buffer_size) (Buffer_codes := Buffer_codes) (Reader_pattern := Reader_pattern) (Reader_place := Reader_place) (Word_size := v18.2.2.2.2.2.1) (Word_letters := v18.2.2.2.2.2.2) hv38
                                    rcases hv38b : v38 with v39 | E9
                                    · rw [hv38b] at hc hf
                                      dsimp only [fth] at hf
                                      refine V.callVn (pl := [0, 1, 2, 3, 4, 5, 6, 7, 8, 9, 10]) (σ' := [.inl (5, [.ref 1, .ref 3, .ref 6, .ref 8, .ref 9]), .inl (3, [.ref 2]), .inr (910, .inl v18.2.1), .inl (1, [.ref 4, .ref 5, .int v18.2.2.1, .int v18.2.2.2.1, .int History_snapshotTaken]), .inr (5460, .inl v18.2.2.2.2.1), .inr (910, .inl History_snapshot), .inl (0, [.ref 7, .int Buffer_size]), .inr (60, .inl Buffer_codes), .inl (2, [.ref (Reader_pattern + 1000), .int Reader_place]), .inl (4, [.ref 10, .int v18.2.2.2.2.2.1]), .inr (8, .inl v18.2.2.2.2.2.2), .inr (8, .inl r17.2)]) (st2 := [.int v39]) (cl2 := 2) (sl2 := 14) hc dL_gives_263 w404 ⟨w405, w406⟩ cal_X10_count rfl ⟨⟨Nat.le_of_ble_eq_true rfl, Nat.le_of_ble_eq_true rfl⟩, Nat.le_of_ble_eq_true rfl, Nat.le_of_ble_eq_true rfl⟩ (Nat.le_of_ble_eq_true rfl) ⟨_, _, _, _, rfl, rfl⟩ rfl ⟨rfl, ⟨by decide, by decide⟩, rfl, (fr_cons (Or.inl (Nat.le_of_ble_eq_true rfl)) (fr_cons (Or.inl (Nat.le_of_ble_eq_true rfl)) (fr_cons (Or.inl (Nat.le_of_ble_eq_true rfl)) (fr_cons (Or.inl (Nat.le_of_ble_eq_true rfl)) (fr_cons (Or.inl (Nat.le_of_ble_eq_true rfl)) (fr_cons (Or.inl (Nat.le_of_ble_eq_true rfl)) (fr_cons (Or.inl (Nat.le_of_ble_eq_true rfl)) (fr_cons (Or.inl (Nat.le_of_ble_eq_true rfl)) (fr_cons (Or.inl (Nat.le_of_ble_eq_true rfl)) (fr_cons (Or.inr (Nat.le_add_left 1000 _)) (fr_cons (Or.inl (Nat.le_of_ble_eq_true rfl)) (fr_nil)))))))))))), rfl⟩ fr_i rfl rfl rfl rfl ?_
                                      refine V.iload (i := 7) dL_gives_266 rfl ?_
                                      refine V.icmp_ne (tgt := 298) dL_gives_268 (by decide) (fun h => ?_) (fun h => ?_)
                                      · have hf := fif_f h hf
                                        refine V.iconst (v := 0) dL_gives_298 rfl ?_
                                        obtain rfl := Option.some.inj hf
                                        exact V.zretD (v := 0) dL_gives_299 rfl (by decide +kernel) (Nat.le_of_ble_eq_true rfl) (Nat.le_of_ble_eq_true rfl) (Nat.le_of_ble_eq_true rfl) (τ := [.inr (8, .inl r17.2)]) rfl
                                      · have hf := fif_t h hf
                                        refine V.aload_n (i := 0) dL_gives_271 rfl rfl ?_
                                        refine V.bipush (v := 8) dL_gives_272 rfl ?_
                                        obtain ⟨v40, hv40, hf⟩ := fbind hf
                                        have hc := ct_X10_count (a1 := 8) (State_cells := v18.2.1) (History_oldest := v18.2.2.1) (History_size := v18.2.2.2.1) (History_snapshotTaken := History_snapshotTaken) (History_saved := v18.2.2.2.2.1) (History_snapshot := History_snapshot) (Buffer_size := Buffer_size) (Buffer_codes := Buffer_codes) (Reader_pattern := Reader_pattern) (Reader_place := Reader_place) (Word_size := v18.2.2.2.2.2.1) (Word_letters := v18.2.2.2.2.2.2) hv40
                                        rcases hv40b : v40 with v41 | E9
                                        · rw [hv40b] at hc hf
                                          dsimp only [fth] at hf
                                          refine V.callVn (pl := [0, 1, 2, 3, 4, 5, 6, 7, 8, 9, 10]) (σ' := [.inl (5, [.ref 1, .ref 3, .ref 6, .ref 8, .ref 9]), .inl (3, [.ref 2]), .inr (910, .inl v18.2.1), .inl (1, [.ref 4, .ref 5, .int v18.2.2.1, .int v18.2.2.2.1, .int History_snapshotTaken]), .inr (5460, .inl v18.2.2.2.2.1), .inr (910, .inl History_snapshot), .inl (0, [.ref 7, .int Buffer_size]), .inr (60, .inl Buffer_codes), .inl (2, [.ref (Reader_pattern + 1000), .int Reader_place]), .inl (4, [.ref 10, .int v18.2.2.2.2.2.1]), .inr (8, .inl v18.2.2.2.2.2.2), .inr (8, .inl r17.2)]) (st2 := [.int v41]) (cl2 := 2) (sl2 := 14) hc dL_gives_274 w404 ⟨w405, w406⟩ cal_X10_count rfl ⟨⟨Nat.le_of_ble_eq_true rfl, Nat.le_of_ble_eq_true rfl⟩, Nat.le_of_ble_eq_true rfl, Nat.le_of_ble_eq_true rfl⟩ (Nat.le_of_ble_eq_true rfl) ⟨_, _, _, _, rfl, rfl⟩ rfl ⟨rfl, ⟨by decide, by decide⟩, rfl, (fr_cons (Or.inl (Nat.le_of_ble_eq_true rfl)) (fr_cons (Or.inl (Nat.le_of_ble_eq_true rfl)) (fr_cons (Or.inl (Nat.le_of_ble_eq_true rfl)) (fr_cons (Or.inl (Nat.le_of_ble_eq_true rfl)) (fr_cons (Or.inl (Nat.le_of_ble_eq_true rfl)) (fr_cons (Or.inl (Nat.le_of_ble_eq_true rfl)) (fr_cons (Or.inl (Nat.le_of_ble_eq_true rfl)) (fr_cons (Or.inl (Nat.le_of_ble_eq_true rfl)) (fr_cons (Or.inl (Nat.le_of_ble_eq_true rfl)) (fr_cons (Or.inr (Nat.le_add_left 1000 _)) (fr_cons (Or.inl (Nat.le_of_ble_eq_true rfl)) (fr_nil)))))))))))), rfl⟩ fr_i rfl rfl rfl rfl ?_
                                          refine V.iload (i := 8) dL_gives_277 rfl ?_
                                          refine V.iconst (v := 1) dL_gives_279 rfl ?_
                                          refine V.iadd dL_gives_280 ?_
                                          refine V.icmp_ne (tgt := 298) dL_gives_281 (by decide) (fun h => ?_) (fun h => ?_)
                                          · have hf := fif_f h hf
                                            refine V.iconst (v := 0) dL_gives_298 rfl ?_
                                            obtain rfl := Option.some.inj hf
                                            exact V.zretD (v := 0) dL_gives_299 rfl (by decide +kernel) (Nat.le_of_ble_eq_true rfl) (Nat.le_of_ble_eq_true rfl) (Nat.le_of_ble_eq_true rfl) (τ := [.inr (8, .inl r17.2)]) rfl
                                          · have hf := fif_t h hf
                                            refine V.aload_n (i := 0) dL_gives_284 rfl rfl ?_
                                            refine V.iload_n (i := 3) dL_gives_285 rfl rfl ?_
                                            obtain ⟨v42, hv42, hf⟩ := fbind hf
                                            refine V.callSn (pl := [0, 1, 2, 3, 4, 5, 6, 7, 8, 9, 10]) (σ' := [.inl (5, [.ref 1, .ref 3, .ref 6, .ref 8, .ref 9]), .inl (3, [.ref 2]), .inr (910, .inl v18.2.1), .inl (1, [.ref 4, .ref 5, .int v18.2.2.1, .int v18.2.2.2.1, .int History_snapshotTaken]), .inr (5460, .inl v18.2.2.2.2.1), .inr (910, .inl History_snapshot), .inl (0, [.ref 7, .int Buffer_size]), .inr (60, .inl Buffer_codes), .inl (2, [.ref (Reader_pattern + 1000), .int Reader_place]), .inl (4, [.ref 10, .int v18.2.2.2.2.2.1]), .inr (8, .inl v18.2.2.2.2.2.2), .inr (8, .inl r17.2)]) (st2 := [.int v42]) (cl2 := 2) (sl2 := 14) (ct_L_loose (a1 := a3) (State_cells := v18.2.1) (History_oldest := v18.2.2.1) (History_size := v18.2.2.2.1) (History_snapshotTaken := History_snapshotTaken) (History_saved := v18.2.2.2.2.1) (History_snapshot := History_snapshot) (Buffer_size := Buffer_size) (Buffer_codes := Buffer_codes) (Reader_pattern := Reader_pattern) (Reader_place := Reader_place) (Word_size := v18.2.2.2.2.2.1) (Word_letters := v18.2.2.2.2.2.2) hv42) dL_gives_286 w678 w679 cal_L_loose ⟨⟨Nat.le_of_ble_eq_true rfl, Nat.le_of_ble_eq_true rfl⟩, Nat.le_of_ble_eq_true rfl, Nat.le_of_ble_eq_true rfl⟩ (Nat.le_of_ble_eq_true rfl) rfl ⟨rfl, ⟨by decide, by decide⟩, rfl, (fr_cons (Or.inl (Nat.le_of_ble_eq_true rfl)) (fr_cons (Or.inl (Nat.le_of_ble_eq_true rfl)) (fr_cons (Or.inl (Nat.le_of_ble_eq_true rfl)) (fr_cons (Or.inl (Nat.le_of_ble_eq_true rfl)) (fr_cons (Or.inl (Nat.le_of_ble_eq_true rfl)) (fr_cons (Or.inl (Nat.le_of_ble_eq_true rfl)) (fr_cons (Or.inl (Nat.le_of_ble_eq_true rfl)) (fr_cons (Or.inl (Nat.le_of_ble_eq_true rfl)) (fr_cons (Or.inl (Nat.le_of_ble_eq_true rfl)) (fr_cons (Or.inr (Nat.le_add_left 1000 _)) (fr_cons (Or.inl (Nat.le_of_ble_eq_true rfl)) (fr_nil)))))))))))), rfl⟩ fr_i rfl rfl rfl rfl ?_
                                            refine V.iload (i := 9) dL_gives_289 rfl ?_
                                            obtain ⟨v43, ev43, hf⟩ := flet_e hf
                                            refine V.join (J := 299) (y := v43) (st' := []) (fun tlv43 => ?_) ?_
                                            · refine V.icmp_ne (tgt := 298) dL_gives_291 (by decide) (fun h44 => ?_) (fun h44 => ?_)
                                              · refine V.iconst (v := 0) dL_gives_298 rfl ?_
                                                exact V.cgi (by rw [← ev43, if_neg h44]) tlv43
                                              · refine V.iconst (v := 1) dL_gives_294 rfl ?_
                                                refine V.goto (tgt := 299) dL_gives_295 (by decide) ?_
                                                exact V.cgi (by rw [← ev43, if_pos h44]) tlv43
                                            · obtain ⟨hz, hf⟩ := fz_e hf
                                              obtain rfl := Option.some.inj hf
                                              exact V.zretD (v := v43) dL_gives_299 rfl hz (Nat.le_of_ble_eq_true rfl) (Nat.le_of_ble_eq_true rfl) (Nat.le_of_ble_eq_true rfl) (τ := [.inr (8, .inl r17.2)]) rfl
                                        · rw [hv40b] at hc hf
                                          dsimp only [fth] at hf
                                          cases hf
                                    · rw [hv38b] at hc hf
                                      dsimp only [fth] at hf
                                      cases hf
                                · rw [hv36b] at hc hf
                                  dsimp only [fth] at hf
                                  cases hf
                          · have hf := fif_f h hf
                            refine V.iload (i := 12) dL_gives_162 rfl ?_
                            refine V.sipush (v := (-7003)) dL_gives_164 rfl ?_
                            refine V.icmp_ne (tgt := 185) dL_gives_167 (by decide) (fun h => ?_) (fun h => ?_)
                            · have hf := fif_f h hf
                              refine V.iconst (v := 0) dL_gives_185 rfl ?_
                              obtain rfl := Option.some.inj hf
                              exact V.zretD (v := 0) dL_gives_186 rfl (by decide +kernel) (Nat.le_of_ble_eq_true rfl) (Nat.le_of_ble_eq_true rfl) (Nat.le_of_ble_eq_true rfl) (τ := [.inr (8, .inl r17.2)]) rfl
                            · have hf := fif_t h hf
                              refine V.aload_n (i := 0) dL_gives_170 rfl rfl ?_
                              refine V.bipush (v := 8) dL_gives_171 rfl ?_
                              obtain ⟨v45, hv45, hf⟩ := fbind hf
                              have hc := ct_X10_count (a1 := 8) (State_cells := v18.2.1) (History_oldest := v18.2.2.1) (History_size := v18.2.2.2.1) (History_snapshotTaken := History_snapshotTaken) (History_saved := v18.2.2.2.2.1) (History_snapshot := History_snapshot) (Buffer_size := Buffer_size) (Buffer_codes := Buffer_codes) (Reader_pattern := Reader_pattern) (Reader_place := Reader_place) (Word_size := v18.2.2.2.2.2.1) (Word_letters := v18.2.2.2.2.2.2) hv45
                              rcases hv45b : v45 with v46 | E9
                              · rw [hv45b] at hc hf
                                dsimp only [fth] at hf
                                refine V.callVn (pl := [0, 1, 2, 3, 4, 5, 6, 7, 8, 9, 10]) (σ' := [.inl (5, [.ref 1, .ref 3, .ref 6, .ref 8, .ref 9]), .inl (3, [.ref 2]), .inr (910, .inl v18.2.1), .inl (1, [.ref 4, .ref 5, .int v18.2.2.1, .int v18.2.2.2.1, .int History_snapshotTaken]), .inr (5460, .inl v18.2.2.2.2.1), .inr (910, .inl History_snapshot), .inl (0, [.ref 7, .int Buffer_size]), .inr (60, .inl Buffer_codes), .inl (2, [.ref (Reader_pattern + 1000), .int Reader_place]), .inl (4, [.ref 10, .int v18.2.2.2.2.2.1]), .inr (8, .inl v18.2.2.2.2.2.2), .inr (8, .inl r17.2)]) (st2 := [.int v46]) (cl2 := 2) (sl2 := 14) hc dL_gives_173 w404 ⟨w405, w406⟩ cal_X10_count rfl ⟨⟨Nat.le_of_ble_eq_true rfl, Nat.le_of_ble_eq_true rfl⟩, Nat.le_of_ble_eq_true rfl, Nat.le_of_ble_eq_true rfl⟩ (Nat.le_of_ble_eq_true rfl) ⟨_, _, _, _, rfl, rfl⟩ rfl ⟨rfl, ⟨by decide, by decide⟩, rfl, (fr_cons (Or.inl (Nat.le_of_ble_eq_true rfl)) (fr_cons (Or.inl (Nat.le_of_ble_eq_true rfl)) (fr_cons (Or.inl (Nat.le_of_ble_eq_true rfl)) (fr_cons (Or.inl (Nat.le_of_ble_eq_true rfl)) (fr_cons (Or.inl (Nat.le_of_ble_eq_true rfl)) (fr_cons (Or.inl (Nat.le_of_ble_eq_true rfl)) (fr_cons (Or.inl (Nat.le_of_ble_eq_true rfl)) (fr_cons (Or.inl (Nat.le_of_ble_eq_true rfl)) (fr_cons (Or.inl (Nat.le_of_ble_eq_true rfl)) (fr_cons (Or.inr (Nat.le_add_left 1000 _)) (fr_cons (Or.inl (Nat.le_of_ble_eq_true rfl)) (fr_nil)))))))))))), rfl⟩ fr_i rfl rfl rfl rfl ?_
                                refine V.iload (i := 8) dL_gives_176 rfl ?_
                                obtain ⟨v47, ev47, hf⟩ := flet_e hf
                                refine V.join (J := 186) (y := v47) (st' := []) (fun tlv47 => ?_) ?_
                                · refine V.icmp_ne (tgt := 185) dL_gives_178 (by decide) (fun h48 => ?_) (fun h48 => ?_)
                                  · refine V.iconst (v := 0) dL_gives_185 rfl ?_
                                    exact V.cgi (by rw [← ev47, if_neg h48]) tlv47
                                  · refine V.iconst (v := 1) dL_gives_181 rfl ?_
                                    refine V.goto (tgt := 186) dL_gives_182 (by decide) ?_
                                    exact V.cgi (by rw [← ev47, if_pos h48]) tlv47
                                · obtain ⟨hz, hf⟩ := fz_e hf
                                  obtain rfl := Option.some.inj hf
                                  exact V.zretD (v := v47) dL_gives_186 rfl hz (Nat.le_of_ble_eq_true rfl) (Nat.le_of_ble_eq_true rfl) (Nat.le_of_ble_eq_true rfl) (τ := [.inr (8, .inl r17.2)]) rfl
                              · rw [hv45b] at hc hf
                                dsimp only [fth] at hf
                                cases hf
                        · have hf := fif_f h hf
                          refine V.iconst (v := 0) dL_gives_155 rfl ?_
                          obtain rfl := Option.some.inj hf
                          exact V.zretD (v := 0) dL_gives_156 rfl (by decide +kernel) (Nat.le_of_ble_eq_true rfl) (Nat.le_of_ble_eq_true rfl) (Nat.le_of_ble_eq_true rfl) (τ := [.inr (8, .inl r17.2)]) rfl
            · rw [hv12b] at hc hf
              dsimp only [fth] at hf
              cases hf
          · rw [hv9b] at hc hf
            dsimp only [fth] at hf
            cases hf
        · rw [hv7b] at hc hf
          dsimp only [fth] at hf
          cases hf
      · rw [hv5b] at hc hf
        dsimp only [fth] at hf
        cases hf
    · rw [hv3b] at hc hf
      dsimp only [fth] at hf
      cases hf
  · rw [hv1b] at hc hf
    dsimp only [fth] at hf
    cases hf
def k_L_act : fK := (yL_act, cL_act, 10, (some .boolean), [], (11, 205), (2, 14), (3, 20))
theorem cal_L_act : fCal k_L_act 3 := ⟨⟨wc459, w5⟩, ⟨by decide +kernel, by decide +kernel⟩, by decide +kernel, by decide +kernel⟩
def s_L_act (a1 : Int32) (a2 : Int32) (State_cells : Nat → Int32) (History_oldest : Int32) (History_size : Int32) (History_snapshotTaken : Int32) (History_saved : Nat → Int32) (History_snapshot : Nat → Int32) (Buffer_size : Int32) (Buffer_codes : Nat → Int32) (Word_size : Int32) (Word_letters : Nat → Int32) : Option (Int32 × (Nat → Int32) × (Int32) × (Int32) × (Int32) × (Nat → Int32) × (Nat → Int32) × (Int32) × (Nat → Int32) × (Int32) × (Nat → Int32)) := (s_L_low a1 20).bind fun v1 => (s_L_low (a2 >>> (20 &&& 31)) 2).bind fun v2 => flet ((if (v2 = 0 : Prop) then 5 else 2) : Int32) fun v3 => (s_L_low a2 v3).bind fun v5 => (s_X10_fisher v5 1 State_cells).bind fun v6 => fth v6 (fun v7 => if (v1 < 6 : Prop) then ((s_L_ties v5 (a2 >>> (2 &&& 31)) State_cells History_oldest History_size History_saved Buffer_size Buffer_codes Word_size Word_letters).bind fun v8 => fz v8.1 (some (v8.1, v8.2.1, v8.2.2.1, v8.2.2.2.1, History_snapshotTaken, v8.2.2.2.2.1, History_snapshot, v8.2.2.2.2.2.1, v8.2.2.2.2.2.2.1, v8.2.2.2.2.2.2.2.1, v8.2.2.2.2.2.2.2.2))) else (if (v7 = 0 : Prop) then ((s_L_ties v5 (a2 >>> (2 &&& 31)) State_cells History_oldest History_size History_saved Buffer_size Buffer_codes Word_size Word_letters).bind fun v61 => fz v61.1 (some (v61.1, v61.2.1, v61.2.2.1, v61.2.2.2.1, History_snapshotTaken, v61.2.2.2.2.1, History_snapshot, v61.2.2.2.2.2.1, v61.2.2.2.2.2.2.1, v61.2.2.2.2.2.2.2.1, v61.2.2.2.2.2.2.2.2))) else ((s_L_low (a2 >>> (3 &&& 31)) v7).bind fun v9 => if (11 ≤ v1 : Prop) then (if (v1 = 11 : Prop) then ((s_L_bears v5 v9 State_cells History_oldest History_size History_snapshotTaken History_saved History_snapshot).bind fun v59 => fz v59.1 (some (v59.1, v59.2.1, v59.2.2.1, v59.2.2.2.1, v59.2.2.2.2.1, v59.2.2.2.2.2.1, v59.2.2.2.2.2.2, Buffer_size, Buffer_codes, Word_size, Word_letters))) else (if (v1 = 12 : Prop) then ((s_X10_name v5 v9 1 State_cells).bind fun v47 => fth v47 (fun v48 => (s_X10_count 4 State_cells History_size).bind fun v49 => fth v49 (fun v50 => (s_X10_cut v5 v9 State_cells History_oldest History_size History_saved).bind fun v51 => fth v51.1 (fun v52 => if (v52 = v48 : Prop) then ((s_X10_count 4 v51.2.1 v51.2.2.2.1).bind fun v53 => fth v53 (fun v54 => if (v54 = (v50 - v48) : Prop) then ((s_X10_fisher v5 1 v51.2.1).bind fun v55 => fth v55 (fun v56 => flet ((if (v56 = (v7 - 1) : Prop) then 1 else 0) : Int32) fun v57 => fz v57 (some (v57, v51.2.1, v51.2.2.1, v51.2.2.2.1, History_snapshotTaken, v51.2.2.2.2, History_snapshot, Buffer_size, Buffer_codes, Word_size, Word_letters))) (fun E9 => none)) else (some (0, v51.2.1, v51.2.2.1, v51.2.2.2.1, History_snapshotTaken, v51.2.2.2.2, History_snapshot, Buffer_size, Buffer_codes, Word_size, Word_letters))) (fun E9 => none)) else (some (0, v51.2.1, v51.2.2.1, v51.2.2.2.1, History_snapshotTaken, v51.2.2.2.2, History_snapshot, Buffer_size, Buffer_codes, Word_size, Word_letters))) (fun E9 => none)) (fun E9 => none)) (fun E9 => none)) else (if (15 ≤ v1 : Prop) then (if (18 ≤ v1 : Prop) then (if (v1 = 18 : Prop) then ((s_X10_fisher v5 0 State_cells).bind fun v33 => fth v33 (fun v34 => (s_X10_fisher v5 2 State_cells).bind fun v35 => fth v35 (fun v36 => (s_L_low (a2 >>> (6 &&& 31)) 30).bind fun v37 => if (((v34 - v36) + v37) < 20 : Prop) then (some (1, State_cells, History_oldest, History_size, History_snapshotTaken, History_saved, History_snapshot, Buffer_size, Buffer_codes, Word_size, Word_letters)) else (if (120 < ((v34 - v36) + v37) : Prop) then (some (1, State_cells, History_oldest, History_size, History_snapshotTaken, History_saved, History_snapshot, Buffer_size, Buffer_codes, Word_size, Word_letters)) else ((s_X10_belt v5 ((v34 - v36) + v37) State_cells History_oldest History_size History_saved).bind fun v38 => fth v38.1 (fun v39 => if (v39 = v34 : Prop) then ((s_X10_fisher v5 0 v38.2.1).bind fun v40 => fth v40 (fun v41 => flet ((if (v41 = ((v34 - v36) + v37) : Prop) then 1 else 0) : Int32) fun v42 => fz v42 (some (v42, v38.2.1, v38.2.2.1, v38.2.2.2.1, History_snapshotTaken, v38.2.2.2.2, History_snapshot, Buffer_size, Buffer_codes, Word_size, Word_letters))) (fun E9 => none)) else (some (0, v38.2.1, v38.2.2.1, v38.2.2.2.1, History_snapshotTaken, v38.2.2.2.2, History_snapshot, Buffer_size, Buffer_codes, Word_size, Word_letters))) (fun E9 => none)))) (fun E9 => none)) (fun E9 => none)) else ((s_L_low a2 2).bind fun v10 => (s_X10_count (11 + v10) State_cells History_size).bind fun v11 => fth v11 (fun v12 => if (v10 = 0 : Prop) then ((s_L_low (a2 >>> (7 &&& 31)) 2).bind fun v23 => flet ((if (v23 = 0 : Prop) then 9 else 2) : Int32) fun v24 => (s_L_low (a2 >>> (1 &&& 31)) v24).bind fun v26 => (s_X10_set v10 (1 + v26) State_cells History_oldest History_size History_saved).bind fun v27 => fth v27.1 (fun v28 => if (v28 = v12 : Prop) then ((s_X10_count (11 + v10) v27.2.1 v27.2.2.2.1).bind fun v29 => fth v29 (fun v30 => flet ((if (v30 = (1 + v26) : Prop) then 1 else 0) : Int32) fun v31 => fz v31 (some (v31, v27.2.1, v27.2.2.1, v27.2.2.2.1, History_snapshotTaken, v27.2.2.2.2, History_snapshot, Buffer_size, Buffer_codes, Word_size, Word_letters))) (fun E9 => none)) else (some (0, v27.2.1, v27.2.2.1, v27.2.2.2.1, History_snapshotTaken, v27.2.2.2.2, History_snapshot, Buffer_size, Buffer_codes, Word_size, Word_letters))) (fun E9 => none)) else ((s_L_low (a2 >>> (7 &&& 31)) 2).bind fun v13 => flet ((if (v13 = 0 : Prop) then 9 else 3) : Int32) fun v14 => (s_L_low (a2 >>> (1 &&& 31)) v14).bind fun v16 => (s_X10_set v10 v16 State_cells History_oldest History_size History_saved).bind fun v17 => fth v17.1 (fun v18 => if (v18 = v12 : Prop) then ((s_X10_count (11 + v10) v17.2.1 v17.2.2.2.1).bind fun v19 => fth v19 (fun v20 => flet ((if (v20 = v16 : Prop) then 1 else 0) : Int32) fun v21 => fz v21 (some (v21, v17.2.1, v17.2.2.1, v17.2.2.2.1, History_snapshotTaken, v17.2.2.2.2, History_snapshot, Buffer_size, Buffer_codes, Word_size, Word_letters))) (fun E9 => none)) else (some (0, v17.2.1, v17.2.2.1, v17.2.2.2.1, History_snapshotTaken, v17.2.2.2.2, History_snapshot, Buffer_size, Buffer_codes, Word_size, Word_letters))) (fun E9 => none))) (fun E9 => none))) else ((s_L_low (a2 >>> (6 &&& 31)) 5).bind fun v44 => (s_L_gives v5 v9 v44 State_cells History_oldest History_size History_saved Word_size Word_letters).bind fun v45 => fz v45.1 (some (v45.1, v45.2.1, v45.2.2.1, v45.2.2.2.1, History_snapshotTaken, v45.2.2.2.2.1, History_snapshot, Buffer_size, Buffer_codes, v45.2.2.2.2.2.1, v45.2.2.2.2.2.2)))) else ((s_L_fastens v5 v9 State_cells History_oldest History_size History_saved).bind fun v46 => fz v46.1 (some (v46.1, v46.2.1, v46.2.2.1, v46.2.2.2.1, History_snapshotTaken, v46.2.2.2.2, History_snapshot, Buffer_size, Buffer_codes, Word_size, Word_letters)))))) else ((s_L_storms v5 State_cells History_oldest History_size History_saved).bind fun v60 => fz v60.1 (some (v60.1, v60.2.1, v60.2.2.1, v60.2.2.2.1, History_snapshotTaken, v60.2.2.2.2, History_snapshot, Buffer_size, Buffer_codes, Word_size, Word_letters)))))) (fun E9 => none)
set_option maxHeartbeats 4000000 in
set_option maxRecDepth 100000 in
theorem ct_L_act {a1 : Int32} {a2 : Int32} {State_cells : Nat → Int32} {History_oldest : Int32} {History_size : Int32} {History_snapshotTaken : Int32} {History_saved : Nat → Int32} {History_snapshot : Nat → Int32} {Buffer_size : Int32} {Buffer_codes : Nat → Int32} {Reader_pattern : Nat} {Reader_place : Int32} {Word_size : Int32} {Word_letters : Nat → Int32} {res : Int32 × (Nat → Int32) × (Int32) × (Int32) × (Int32) × (Nat → Int32) × (Nat → Int32) × (Int32) × (Nat → Int32) × (Int32) × (Nat → Int32)} (hf : s_L_act a1 a2 State_cells History_oldest History_size History_snapshotTaken History_saved History_snapshot Buffer_size Buffer_codes Word_size Word_letters = some res) : Ct k_L_act [.ref 0, .int a1, .int a2] [.inl (5, [.ref 1, .ref 3, .ref 6, .ref 8, .ref 9]), .inl (3, [.ref 2]), .inr (910, .inl State_cells), .inl (1, [.ref 4, .ref 5, .int History_oldest, .int History_size, .int History_snapshotTaken]), .inr (5460, .inl History_saved), .inr (910, .inl History_snapshot), .inl (0, [.ref 7, .int Buffer_size]), .inr (60, .inl Buffer_codes), .inl (2, [.ref (Reader_pattern + 1000), .int Reader_place]), .inl (4, [.ref 10, .int Word_size]), .inr (8, .inl Word_letters)] (.inl (some (.int res.1))) [.inl (5, [.ref 1, .ref 3, .ref 6, .ref 8, .ref 9]), .inl (3, [.ref 2]), .inr (910, .inl res.2.1), .inl (1, [.ref 4, .ref 5, .int res.2.2.1, .int res.2.2.2.1, .int res.2.2.2.2.1]), .inr (5460, .inl res.2.2.2.2.2.1), .inr (910, .inl res.2.2.2.2.2.2.1), .inl (0, [.ref 7, .int res.2.2.2.2.2.2.2.1]), .inr (60, .inl res.2.2.2.2.2.2.2.2.1), .inl (2, [.ref (Reader_pattern + 1000), .int Reader_place]), .inl (4, [.ref 10, .int res.2.2.2.2.2.2.2.2.2.1]), .inr (8, .inl res.2.2.2.2.2.2.2.2.2.2)] := by
  unfold s_L_act at hf
  refine Ct.of (L := [some (.ref 0), some (.int a1), some (.int a2), none, none, none, none, none, none, none]) cal_L_act (fent_pad (j := 7) rfl) (Nat.le_of_ble_eq_true rfl) ?_
  refine V.iload_n (i := 1) dL_act_0 rfl rfl ?_
  refine V.bipush (v := 20) dL_act_1 rfl ?_
  obtain ⟨v1, hv1, hf⟩ := fbind hf
  refine V.callSn (pl := []) (σ' := [.inl (5, [.ref 1, .ref 3, .ref 6, .ref 8, .ref 9]), .inl (3, [.ref 2]), .inr (910, .inl State_cells), .inl (1, [.ref 4, .ref 5, .int History_oldest, .int History_size, .int History_snapshotTaken]), .inr (5460, .inl History_saved), .inr (910, .inl History_snapshot), .inl (0, [.ref 7, .int Buffer_size]), .inr (60, .inl Buffer_codes), .inl (2, [.ref (Reader_pattern + 1000), .int Reader_place]), .inl (4, [.ref 10, .int Word_size]), .inr (8, .inl Word_letters)]) (st2 := [.int v1]) (cl2 := 0) (sl2 := 0) (ct_L_low (a0 := a1) (a1 := 20) hv1) dL_act_3 w460 w461 cal_L_low ⟨⟨Nat.le_of_ble_eq_true rfl, Nat.le_of_ble_eq_true rfl⟩, Nat.le_of_ble_eq_true rfl, Nat.le_of_ble_eq_true rfl⟩ (Nat.le_of_ble_eq_true rfl) rfl ⟨rfl, ⟨by decide, by decide⟩, rfl, (fr_nil), rfl⟩ fr_i rfl rfl rfl rfl ?_
  refine V.istore_n (i := 3) (L' := [some (.ref 0), some (.int a1), some (.int a2), some (.int v1), none, none, none, none, none, none]) dL_act_6 rfl (Nat.le_of_ble_eq_true rfl) rfl rfl ?_
  refine V.iload_n (i := 2) dL_act_7 rfl rfl ?_
  refine V.iload_n (i := 2) dL_act_8 rfl rfl ?_
  refine V.bipush (v := 20) dL_act_9 rfl ?_
  refine V.ishr dL_act_11 ?_
  refine V.iconst (v := 2) dL_act_12 rfl ?_
  obtain ⟨v2, hv2, hf⟩ := fbind hf
  refine V.callSn (pl := []) (σ' := [.inl (5, [.ref 1, .ref 3, .ref 6, .ref 8, .ref 9]), .inl (3, [.ref 2]), .inr (910, .inl State_cells), .inl (1, [.ref 4, .ref 5, .int History_oldest, .int History_size, .int History_snapshotTaken]), .inr (5460, .inl History_saved), .inr (910, .inl History_snapshot), .inl (0, [.ref 7, .int Buffer_size]), .inr (60, .inl Buffer_codes), .inl (2, [.ref (Reader_pattern + 1000), .int Reader_place]), .inl (4, [.ref 10, .int Word_size]), .inr (8, .inl Word_letters)]) (st2 := [.int v2, .int a2]) (cl2 := 0) (sl2 := 0) (ct_L_low (a0 := (a2 >>> (20 &&& 31))) (a1 := 2) hv2) dL_act_13 w460 w461 cal_L_low ⟨⟨Nat.le_of_ble_eq_true rfl, Nat.le_of_ble_eq_true rfl⟩, Nat.le_of_ble_eq_true rfl, Nat.le_of_ble_eq_true rfl⟩ (Nat.le_of_ble_eq_true rfl) rfl ⟨rfl, ⟨by decide, by decide⟩, rfl, (fr_nil), rfl⟩ fr_i rfl rfl rfl rfl ?_
  obtain ⟨v3, ev3, hf⟩ := flet_e hf
  refine V.join (J := 24) (y := v3) (st' := [.int a2]) (fun tlv3 => ?_) ?_
  · refine V.if_ne (tgt := 23) dL_act_16 (by decide) (fun h4 => ?_) (fun h4 => ?_)
    · refine V.iconst (v := 2) dL_act_23 rfl ?_
      exact V.cgi (by rw [← ev3, if_neg h4]) tlv3
    · refine V.iconst (v := 5) dL_act_19 rfl ?_
      refine V.goto (tgt := 24) dL_act_20 (by decide) ?_
      exact V.cgi (by rw [← ev3, if_pos h4]) tlv3
  · obtain ⟨v5, hv5, hf⟩ := fbind hf
    refine V.callSn (pl := []) (σ' := [.inl (5, [.ref 1, .ref 3, .ref 6, .ref 8, .ref 9]), .inl (3, [.ref 2]), .inr (910, .inl State_cells), .inl (1, [.ref 4, .ref 5, .int History_oldest, .int History_size, .int History_snapshotTaken]), .inr (5460, .inl History_saved), .inr (910, .inl History_snapshot), .inl (0, [.ref 7, .int Buffer_size]), .inr (60, .inl Buffer_codes), .inl (2, [.ref (Reader_pattern + 1000), .int Reader_place]), .inl (4, [.ref 10, .int Word_size]), .inr (8, .inl Word_letters)]) (st2 := [.int v5]) (cl2 := 0) (sl2 := 0) (ct_L_low (a0 := a2) (a1 := v3) hv5) dL_act_24 w460 w461 cal_L_low ⟨⟨Nat.le_of_ble_eq_true rfl, Nat.le_of_ble_eq_true rfl⟩, Nat.le_of_ble_eq_true rfl, Nat.le_of_ble_eq_true rfl⟩ (Nat.le_of_ble_eq_true rfl) rfl ⟨rfl, ⟨by decide, by decide⟩, rfl, (fr_nil), rfl⟩ fr_i rfl rfl rfl rfl ?_
    refine V.istore (i := 4) (L' := [some (.ref 0), some (.int a1), some (.int a2), some (.int v1), some (.int v5), none, none, none, none, none]) dL_act_27 (Nat.le_of_ble_eq_true rfl) rfl rfl ?_
    refine V.aload_n (i := 0) dL_act_29 rfl rfl ?_
    refine V.iload (i := 4) dL_act_30 rfl ?_
    refine V.iconst (v := 1) dL_act_32 rfl ?_
    obtain ⟨v6, hv6, hf⟩ := fbind hf
    have hc := ct_X10_fisher (a1 := v5) (a2 := 1) (State_cells := State_cells) (History_oldest := History_oldest) (History_size := History_size) (History_snapshotTaken := History_snapshotTaken) (History_saved := History_saved) (History_snapshot := History_snapshot) (Buffer_size := Buffer_size) (Buffer_codes := Buffer_codes) (Reader_pattern := Reader_pattern) (Reader_place := Reader_place) (Word_size := Word_size) (Word_letters := Word_letters) hv6
    rcases hv6b : v6 with v7 | E9
    · rw [hv6b] at hc hf
      dsimp only [fth] at hf
      refine V.callVn (pl := [0, 1, 2, 3, 4, 5, 6, 7, 8, 9, 10]) (σ' := [.inl (5, [.ref 1, .ref 3, .ref 6, .ref 8, .ref 9]), .inl (3, [.ref 2]), .inr (910, .inl State_cells), .inl (1, [.ref 4, .ref 5, .int History_oldest, .int History_size, .int History_snapshotTaken]), .inr (5460, .inl History_saved), .inr (910, .inl History_snapshot), .inl (0, [.ref 7, .int Buffer_size]), .inr (60, .inl Buffer_codes), .inl (2, [.ref (Reader_pattern + 1000), .int Reader_place]), .inl (4, [.ref 10, .int Word_size]), .inr (8, .inl Word_letters)]) (st2 := [.int v7]) (cl2 := 0) (sl2 := 0) hc dL_act_33 w174 ⟨w175, w176⟩ cal_X10_fisher rfl ⟨⟨Nat.le_of_ble_eq_true rfl, Nat.le_of_ble_eq_true rfl⟩, Nat.le_of_ble_eq_true rfl, Nat.le_of_ble_eq_true rfl⟩ (Nat.le_of_ble_eq_true rfl) ⟨_, _, _, _, rfl, rfl⟩ rfl ⟨rfl, ⟨by decide, by decide⟩, rfl, (fr_cons (Or.inl (Nat.le_of_ble_eq_true rfl)) (fr_cons (Or.inl (Nat.le_of_ble_eq_true rfl)) (fr_cons (Or.inl (Nat.le_of_ble_eq_true rfl)) (fr_cons (Or.inl (Nat.le_of_ble_eq_true rfl)) (fr_cons (Or.inl (Nat.le_of_ble_eq_true rfl)) (fr_cons (Or.inl (Nat.le_of_ble_eq_true rfl)) (fr_cons (Or.inl (Nat.le_of_ble_eq_true rfl)) (fr_cons (Or.inl (Nat.le_of_ble_eq_true rfl)) (fr_cons (Or.inl (Nat.le_of_ble_eq_true rfl)) (fr_cons (Or.inr (Nat.le_add_left 1000 _)) (fr_cons (Or.inl (Nat.le_of_ble_eq_true rfl)) (fr_nil)))))))))))), rfl⟩ fr_i rfl rfl rfl rfl ?_
      refine V.istore (i := 5) (L' := [some (.ref 0), some (.int a1), some (.int a2), some (.int v1), some (.int v5), some (.int v7), none, none, none, none]) dL_act_36 (Nat.le_of_ble_eq_true rfl) rfl rfl ?_
      refine V.iload_n (i := 3) dL_act_38 rfl rfl ?_
      refine V.bipush (v := 6) dL_act_39 rfl ?_
      refine V.icmp_lt (tgt := 49) dL_act_41 (by decide) (fun h => ?_) (fun h => ?_)
      · have hf := fif_t h hf
        refine V.aload_n (i := 0) dL_act_49 rfl rfl ?_
        refine V.iload (i := 4) dL_act_50 rfl ?_
        refine V.iload_n (i := 2) dL_act_52 rfl rfl ?_
        refine V.iconst (v := 2) dL_act_53 rfl ?_
        refine V.ishr dL_act_54 ?_
        obtain ⟨v8, hv8, hf⟩ := fbind hf
        refine V.callSn (pl := [0, 1, 2, 3, 4, 5, 6, 7, 8, 9, 10]) (σ' := [.inl (5, [.ref 1, .ref 3, .ref 6, .ref 8, .ref 9]), .inl (3, [.ref 2]), .inr (910, .inl v8.2.1), .inl (1, [.ref 4, .ref 5, .int v8.2.2.1, .int v8.2.2.2.1, .int History_snapshotTaken]), .inr (5460, .inl v8.2.2.2.2.1), .inr (910, .inl History_snapshot), .inl (0, [.ref 7, .int v8.2.2.2.2.2.1]), .inr (60, .inl v8.2.2.2.2.2.2.1), .inl (2, [.ref (Reader_pattern + 1000), .int Reader_place]), .inl (4, [.ref 10, .int v8.2.2.2.2.2.2.2.1]), .inr (8, .inl v8.2.2.2.2.2.2.2.2)]) (st2 := [.int v8.1]) (cl2 := 2) (sl2 := 14) (ct_L_ties (a1 := v5) (a2 := (a2 >>> (2 &&& 31))) (State_cells := State_cells) (History_oldest := History_oldest) (History_size := History_size) (History_snapshotTaken := History_snapshotTaken) (History_saved := History_saved) (History_snapshot := History_snapshot) (Buffer_size := Buffer_size) (Buffer_codes := Buffer_codes) (Reader_pattern := Reader_pattern) (Reader_place := Reader_place) (Word_size := Word_size) (Word_letters := Word_letters) hv8) dL_act_55 w464 w465 cal_L_ties ⟨⟨Nat.le_of_ble_eq_true rfl, Nat.le_of_ble_eq_true rfl⟩, Nat.le_of_ble_eq_true rfl, Nat.le_of_ble_eq_true rfl⟩ (Nat.le_of_ble_eq_true rfl) rfl ⟨rfl, ⟨by decide, by decide⟩, rfl, (fr_cons (Or.inl (Nat.le_of_ble_eq_true rfl)) (fr_cons (Or.inl (Nat.le_of_ble_eq_true rfl)) (fr_cons (Or.inl (Nat.le_of_ble_eq_true rfl)) (fr_cons (Or.inl (Nat.le_of_ble_eq_true rfl)) (fr_cons (Or.inl (Nat.le_of_ble_eq_true rfl)) (fr_cons (Or.inl (Nat.le_of_ble_eq_true rfl)) (fr_cons (Or.inl (Nat.le_of_ble_eq_true rfl)) (fr_cons (Or.inl (Nat.le_of_ble_eq_true rfl)) (fr_cons (Or.inl (Nat.le_of_ble_eq_true rfl)) (fr_cons (Or.inr (Nat.le_add_left 1000 _)) (fr_cons (Or.inl (Nat.le_of_ble_eq_true rfl)) (fr_nil)))))))))))), rfl⟩ fr_i rfl rfl rfl rfl ?_
        obtain ⟨hz, hf⟩ := fz_e hf
        obtain rfl := Option.some.inj hf
        exact V.zret (v := v8.1) dL_act_58 rfl hz (Nat.le_of_ble_eq_true rfl) (Nat.le_of_ble_eq_true rfl) rfl
      · have hf := fif_f h hf
        refine V.iload (i := 5) dL_act_44 rfl ?_
        refine V.if_ne (tgt := 59) dL_act_46 (by decide) (fun h => ?_) (fun h => ?_)
        · have hf := fif_f h hf
          refine V.iload_n (i := 2) dL_act_59 rfl rfl ?_
          refine V.iconst (v := 3) dL_act_60 rfl ?_
          refine V.ishr dL_act_61 ?_
          refine V.iload (i := 5) dL_act_62 rfl ?_
          obtain ⟨v9, hv9, hf⟩ := fbind hf
          refine V.callSn (pl := []) (σ' := [.inl (5, [.ref 1, .ref 3, .ref 6, .ref 8, .ref 9]), .inl (3, [.ref 2]), .inr (910, .inl State_cells), .inl (1, [.ref 4, .ref 5, .int History_oldest, .int History_size, .int History_snapshotTaken]), .inr (5460, .inl History_saved), .inr (910, .inl History_snapshot), .inl (0, [.ref 7, .int Buffer_size]), .inr (60, .inl Buffer_codes), .inl (2, [.ref (Reader_pattern + 1000), .int Reader_place]), .inl (4, [.ref 10, .int Word_size]), .inr (8, .inl Word_letters)]) (st2 := [.int v9]) (cl2 := 0) (sl2 := 0) (ct_L_low (a0 := (a2 >>> (3 &&& 31))) (a1 := v7) hv9) dL_act_64 w460 w461 cal_L_low ⟨⟨Nat.le_of_ble_eq_true rfl, Nat.le_of_ble_eq_true rfl⟩, Nat.le_of_ble_eq_true rfl, Nat.le_of_ble_eq_true rfl⟩ (Nat.le_of_ble_eq_true rfl) rfl ⟨rfl, ⟨by decide, by decide⟩, rfl, (fr_nil), rfl⟩ fr_i rfl rfl rfl rfl ?_
          refine V.istore (i := 6) (L' := [some (.ref 0), some (.int a1), some (.int a2), some (.int v1), some (.int v5), some (.int v7), some (.int v9), none, none, none]) dL_act_67 (Nat.le_of_ble_eq_true rfl) rfl rfl ?_
          refine V.iload_n (i := 3) dL_act_69 rfl rfl ?_
          refine V.bipush (v := 11) dL_act_70 rfl ?_
          refine V.icmp_ge (tgt := 82) dL_act_72 (by decide) (fun h => ?_) (fun h => ?_)
          · have hf := fif_t h hf
            refine V.iload_n (i := 3) dL_act_82 rfl rfl ?_
            refine V.bipush (v := 11) dL_act_83 rfl ?_
            refine V.icmp_ne (tgt := 97) dL_act_85 (by decide) (fun h => ?_) (fun h => ?_)
            · have hf := fif_f h hf
              refine V.iload_n (i := 3) dL_act_97 rfl rfl ?_
              refine V.bipush (v := 12) dL_act_98 rfl ?_
              refine V.icmp_ne (tgt := 167) dL_act_100 (by decide) (fun h => ?_) (fun h => ?_)
              · have hf := fif_f h hf
                refine V.iload_n (i := 3) dL_act_167 rfl rfl ?_
                refine V.bipush (v := 15) dL_act_168 rfl ?_
                refine V.icmp_ge (tgt := 182) dL_act_170 (by decide) (fun h => ?_) (fun h => ?_)
                · have hf := fif_t h hf
                  refine V.iload_n (i := 3) dL_act_182 rfl rfl ?_
                  refine V.bipush (v := 18) dL_act_183 rfl ?_
                  refine V.icmp_ge (tgt := 205) dL_act_185 (by decide) (fun h => ?_) (fun h => ?_)
                  · have hf := fif_t h hf
                    refine V.iload_n (i := 3) dL_act_205 rfl rfl ?_
                    refine V.bipush (v := 18) dL_act_206 rfl ?_
                    refine V.icmp_ne (tgt := 287) dL_act_208 (by decide) (fun h => ?_) (fun h => ?_)
                    · have hf := fif_f h hf
                      refine V.iload_n (i := 2) dL_act_287 rfl rfl ?_
                      refine V.iconst (v := 2) dL_act_288 rfl ?_
                      obtain ⟨v10, hv10, hf⟩ := fbind hf
                      refine V.callSn (pl := []) (σ' := [.inl (5, [.ref 1, .ref 3, .ref 6, .ref 8, .ref 9]), .inl (3, [.ref 2]), .inr (910, .inl State_cells), .inl (1, [.ref 4, .ref 5, .int History_oldest, .int History_size, .int History_snapshotTaken]), .inr (5460, .inl History_saved), .inr (910, .inl History_snapshot), .inl (0, [.ref 7, .int Buffer_size]), .inr (60, .inl Buffer_codes), .inl (2, [.ref (Reader_pattern + 1000), .int Reader_place]), .inl (4, [.ref 10, .int Word_size]), .inr (8, .inl Word_letters)]) (st2 := [.int v10]) (cl2 := 0) (sl2 := 0) (ct_L_low (a0 := a2) (a1 := 2) hv10) dL_act_289 w460 w461 cal_L_low ⟨⟨Nat.le_of_ble_eq_true rfl, Nat.le_of_ble_eq_true rfl⟩, Nat.le_of_ble_eq_true rfl, Nat.le_of_ble_eq_true rfl⟩ (Nat.le_of_ble_eq_true rfl) rfl ⟨rfl, ⟨by decide, by decide⟩, rfl, (fr_nil), rfl⟩ fr_i rfl rfl rfl rfl ?_
                      refine V.istore (i := 7) (L' := [some (.ref 0), some (.int a1), some (.int a2), some (.int v1), some (.int v5), some (.int v7), some (.int v9), some (.int v10), none, none]) dL_act_292 (Nat.le_of_ble_eq_true rfl) rfl rfl ?_
                      refine V.aload_n (i := 0) dL_act_294 rfl rfl ?_
                      refine V.bipush (v := 11) dL_act_295 rfl ?_
                      refine V.iload (i := 7) dL_act_297 rfl ?_
                      refine V.iadd dL_act_299 ?_
                      obtain ⟨v11, hv11, hf⟩ := fbind hf
                      have hc := ct_X10_count (a1 := (11 + v10)) (State_cells := State_cells) (History_oldest := History_oldest) (History_size := History_size) (History_snapshotTaken := History_snapshotTaken) (History_saved := History_saved) (History_snapshot := History_snapshot) (Buffer_size := Buffer_size) (Buffer_codes := Buffer_codes) (Reader_pattern := Reader_pattern) (Reader_place := Reader_place) (Word_size := Word_size) (Word_letters := Word_letters) hv11
                      rcases hv11b : v11 with v12 | E9
                      · rw [hv11b] at hc hf
                        dsimp only [fth] at hf
                        refine V.callVn (pl := [0, 1, 2, 3, 4, 5, 6, 7, 8, 9, 10]) (σ' := [.inl (5, [.ref 1, .ref 3, .ref 6, .ref 8, .ref 9]), .inl (3, [.ref 2]), .inr (910, .inl State_cells), .inl (1, [.ref 4, .ref 5, .int History_oldest, .int History_size, .int History_snapshotTaken]), .inr (5460, .inl History_saved), .inr (910, .inl History_snapshot), .inl (0, [.ref 7, .int Buffer_size]), .inr (60, .inl Buffer_codes), .inl (2, [.ref (Reader_pattern + 1000), .int Reader_place]), .inl (4, [.ref 10, .int Word_size]), .inr (8, .inl Word_letters)]) (st2 := [.int v12]) (cl2 := 0) (sl2 := 0) hc dL_act_300 w404 ⟨w405, w406⟩ cal_X10_count rfl ⟨⟨Nat.le_of_ble_eq_true rfl, Nat.le_of_ble_eq_true rfl⟩, Nat.le_of_ble_eq_true rfl, Nat.le_of_ble_eq_true rfl⟩ (Nat.le_of_ble_eq_true rfl) ⟨_, _, _, _, rfl, rfl⟩ rfl ⟨rfl, ⟨by decide, by decide⟩, rfl, (fr_cons (Or.inl (Nat.le_of_ble_eq_true rfl)) (fr_cons (Or.inl (Nat.le_of_ble_eq_true rfl)) (fr_cons (Or.inl (Nat.le_of_ble_eq_true rfl)) (fr_cons (Or.inl (Nat.le_of_ble_eq_true rfl)) (fr_cons (Or.inl (Nat.le_of_ble_eq_true rfl)) (fr_cons (Or.inl (Nat.le_of_ble_eq_true rfl)) (fr_cons (Or.inl (Nat.le_of_ble_eq_true rfl)) (fr_cons (Or.inl (Nat.le_of_ble_eq_true rfl)) (fr_cons (Or.inl (Nat.le_of_ble_eq_true rfl)) (fr_cons (Or.inr (Nat.le_add_left 1000 _)) (fr_cons (Or.inl (Nat.le_of_ble_eq_true rfl)) (fr_nil)))))))))))), rfl⟩ fr_i rfl rfl rfl rfl ?_
                        refine V.istore (i := 8) (L' := [some (.ref 0), some (.int a1), some (.int a2), some (.int v1), some (.int v5), some (.int v7), some (.int v9), some (.int v10), some (.int v12), none]) dL_act_303 (Nat.le_of_ble_eq_true rfl) rfl rfl ?_
                        refine V.iload (i := 7) dL_act_305 rfl ?_
                        refine V.if_ne (tgt := 338) dL_act_307 (by decide) (fun h => ?_) (fun h => ?_)
                        · have hf := fif_f h hf
                          refine V.iload_n (i := 2) dL_act_338 rfl rfl ?_
                          refine V.iconst (v := 1) dL_act_339 rfl ?_
                          refine V.ishr dL_act_340 ?_
                          refine V.iload_n (i := 2) dL_act_341 rfl rfl ?_
                          refine V.bipush (v := 7) dL_act_342 rfl ?_
                          refine V.ishr dL_act_344 ?_
                          refine V.iconst (v := 2) dL_act_345 rfl ?_
                          obtain ⟨v13, hv13, hf⟩ := fbind hf
                          refine V.callSn (pl := []) (σ' := [.inl (5, [.ref 1, .ref 3, .ref 6, .ref 8, .ref 9]), .inl (3, [.ref 2]), .inr (910, .inl State_cells), .inl (1, [.ref 4, .ref 5, .int History_oldest, .int History_size, .int History_snapshotTaken]), .inr (5460, .inl History_saved), .inr (910, .inl History_snapshot), .inl (0, [.ref 7, .int Buffer_size]), .inr (60, .inl Buffer_codes), .inl (2, [.ref (Reader_pattern + 1000), .int Reader_place]), .inl (4, [.ref 10, .int Word_size]), .inr (8, .inl Word_letters)]) (st2 := [.int v13, .int (a2 >>> (1 &&& 31))]) (cl2 := 0) (sl2 := 0) (ct_L_low (a0 := (a2 >>> (7 &&& 31))) (a1 := 2) hv13) dL_act_346 w460 w461 cal_L_low ⟨⟨Nat.le_of_ble_eq_true rfl, Nat.le_of_ble_eq_true rfl⟩, Nat.le_of_ble_eq_true rfl, Nat.le_of_ble_eq_true rfl⟩ (Nat.le_of_ble_eq_true rfl) rfl ⟨rfl, ⟨by decide, by decide⟩, rfl, (fr_nil), rfl⟩ fr_i rfl rfl rfl rfl ?_
                          obtain ⟨v14, ev14, hf⟩ := flet_e hf
                          refine V.join (J := 358) (y := v14) (st' := [.int (a2 >>> (1 &&& 31))]) (fun tlv14 => ?_) ?_
                          · refine V.if_ne (tgt := 357) dL_act_349 (by decide) (fun h15 => ?_) (fun h15 => ?_)
                            · refine V.iconst (v := 3) dL_act_357 rfl ?_
                              exact V.cgi (by rw [← ev14, if_neg h15]) tlv14
                            · refine V.bipush (v := 9) dL_act_352 rfl ?_
                              refine V.goto (tgt := 358) dL_act_354 (by decide) ?_
                              exact V.cgi (by rw [← ev14, if_pos h15]) tlv14
                          · obtain ⟨v16, hv16, hf⟩ := fbind hf
                            refine V.callSn (pl := []) (σ' := [.inl (5, [.ref 1, .ref 3, .ref 6, .ref 8, .ref 9]), .inl (3, [.ref 2]), .inr (910, .inl State_cells), .inl (1, [.ref 4, .ref 5, .int History_oldest, .int History_size, .int History_snapshotTaken]), .inr (5460, .inl History_saved), .inr (910, .inl History_snapshot), .inl (0, [.ref 7, .int Buffer_size]), .inr (60, .inl Buffer_codes), .inl (2, [.ref (Reader_pattern + 1000), .int Reader_place]), .inl (4, [.ref 10, .int Word_size]), .inr (8, .inl Word_letters)]) (st2 := [.int v16]) (cl2 := 0) (sl2 := 0) (ct_L_low (a0 := (a2 >>> (1 &&& 31))) (a1 := v14) hv16) dL_act_358 w460 w461 cal_L_low ⟨⟨Nat.le_of_ble_eq_true rfl, Nat.le_of_ble_eq_true rfl⟩, Nat.le_of_ble_eq_true rfl, Nat.le_of_ble_eq_true rfl⟩ (Nat.le_of_ble_eq_true rfl) rfl ⟨rfl, ⟨by decide, by decide⟩, rfl, (fr_nil), rfl⟩ fr_i rfl rfl rfl rfl ?_
                            refine V.istore (i := 9) (L' := [some (.ref 0), some (.int a1), some (.int a2), some (.int v1), some (.int v5), some (.int v7), some (.int v9), some (.int v10), some (.int v12), some (.int v16)]) dL_act_361 (Nat.le_of_ble_eq_true rfl) rfl rfl ?_
                            refine V.aload_n (i := 0) dL_act_363 rfl rfl ?_
                            refine V.iload (i := 7) dL_act_364 rfl ?_
                            refine V.iload (i := 9) dL_act_366 rfl ?_
                            obtain ⟨v17, hv17, hf⟩ := fbind hf
                            have hc := ct_X10_set (a1 := v10) (a2 := v16) (State_cells := State_cells) (History_oldest := History_oldest) (History_size := History_size) (History_snapshotTaken := History_snapshotTaken) (History_saved := History_saved) (History_snapshot := History_snapshot) (Buffer_size := Buffer_size) (Buffer_codes := Buffer_codes) (Reader_pattern := Reader_pattern) (Reader_place := Reader_place) (Word_size := Word_size) (Word_letters := Word_letters) hv17
                            rcases hv17b : v17.1 with v18 | E9
                            · rw [hv17b] at hc hf
                              dsimp only [fth] at hf
                              refine V.callVn (pl := [0, 1, 2, 3, 4, 5, 6, 7, 8, 9, 10]) (σ' := [.inl (5, [.ref 1, .ref 3, .ref 6, .ref 8, .ref 9]), .inl (3, [.ref 2]), .inr (910, .inl v17.2.1), .inl (1, [.ref 4, .ref 5, .int v17.2.2.1, .int v17.2.2.2.1, .int History_snapshotTaken]), .inr (5460, .inl v17.2.2.2.2), .inr (910, .inl History_snapshot), .inl (0, [.ref 7, .int Buffer_size]), .inr (60, .inl Buffer_codes), .inl (2, [.ref (Reader_pattern + 1000), .int Reader_place]), .inl (4, [.ref 10, .int Word_size]), .inr (8, .inl Word_letters)]) (st2 := [.int v18]) (cl2 := 0) (sl2 := 0) hc dL_act_368 w702 ⟨w703, w704⟩ cal_X10_set rfl ⟨⟨Nat.le_of_ble_eq_true rfl, Nat.le_of_ble_eq_true rfl⟩, Nat.le_of_ble_eq_true rfl, Nat.le_of_ble_eq_true rfl⟩ (Nat.le_of_ble_eq_true rfl) ⟨_, _, _, _, rfl, rfl⟩ rfl ⟨rfl, ⟨by decide, by decide⟩, rfl, (fr_cons (Or.inl (Nat.le_of_ble_eq_true rfl)) (fr_cons (Or.inl (Nat.le_of_ble_eq_true rfl)) (fr_cons (Or.inl (Nat.le_of_ble_eq_true rfl)) (fr_cons (Or.inl (Nat.le_of_ble_eq_true rfl)) (fr_cons (Or.inl (Nat.le_of_ble_eq_true rfl)) (fr_cons (Or.inl (Nat.le_of_ble_eq_true rfl)) (fr_cons (Or.inl (Nat.le_of_ble_eq_true rfl)) (fr_cons (Or.inl (Nat.le_of_ble_eq_true rfl)) (fr_cons (Or.inl (Nat.le_of_ble_eq_true rfl)) (fr_cons (Or.inr (Nat.le_add_left 1000 _)) (fr_cons (Or.inl (Nat.le_of_ble_eq_true rfl)) (fr_nil)))))))))))), rfl⟩ fr_i rfl rfl rfl rfl ?_
                              refine V.iload (i := 8) dL_act_371 rfl ?_
                              refine V.icmp_ne (tgt := 394) dL_act_373 (by decide) (fun h => ?_) (fun h => ?_)
                              · have hf := fif_f h hf
                                refine V.iconst (v := 0) dL_act_394 rfl ?_
                                obtain rfl := Option.some.inj hf
                                exact V.zret (v := 0) dL_act_395 rfl (by decide +kernel) (Nat.le_of_ble_eq_true rfl) (Nat.le_of_ble_eq_true rfl) rfl
                              · have hf := fif_t h hf
                                refine V.aload_n (i := 0) dL_act_376 rfl rfl ?_
                                refine V.bipush (v := 11) dL_act_377 rfl ?_
                                refine V.iload (i := 7) dL_act_379 rfl ?_
                                refine V.iadd dL_act_381 ?_
                                obtain ⟨v19, hv19, hf⟩ := fbind hf
                                have hc := ct_X10_count (a1 := (11 + v10)) (State_cells := v17.2.1) (History_oldest := v17.2.2.1) (History_size := v17.2.2.2.1) (History_snapshotTaken := History_snapshotTaken) (History_saved := v17.2.2.2.2) (History_snapshot := History_snapshot) (Buffer_size := Buffer_size) (Buffer_codes := Buffer_codes) (Reader_pattern := Reader_pattern) (Reader_place := Reader_place) (Word_size := Word_size) (Word_letters := Word_letters) hv19
                                rcases hv19b : v19 with v20 | E9
                                · rw [hv19b] at hc hf
                                  dsimp only [fth] at hf
                                  refine V.callVn (pl := [0, 1, 2, 3, 4, 5, 6, 7, 8, 9, 10]) (σ' := [.inl (5, [.ref 1, .ref 3, .ref 6, .ref 8, .ref 9]), .inl (3, [.ref 2]), .inr (910, .inl v17.2.1), .inl (1, [.ref 4, .ref 5, .int v17.2.2.1, .int v17.2.2.2.1, .int History_snapshotTaken]), .inr (5460, .inl v17.2.2.2.2), .inr (910, .inl History_snapshot), .inl (0, [.ref 7, .int Buffer_size]), .inr (60, .inl Buffer_codes), .inl (2, [.ref (Reader_pattern + 1000), .int Reader_place]), .inl (4, [.ref 10, .int Word_size]), .inr (8, .inl Word_letters)]) (st2 := [.int v20]) (cl2 := 0) (sl2 := 0) hc dL_act_382 w404 ⟨w405, w406⟩ cal_X10_count rfl ⟨⟨Nat.le_of_ble_eq_true rfl, Nat.le_of_ble_eq_true rfl⟩, Nat.le_of_ble_eq_true rfl, Nat.le_of_ble_eq_true rfl⟩ (Nat.le_of_ble_eq_true rfl) ⟨_, _, _, _, rfl, rfl⟩ rfl ⟨rfl, ⟨by decide, by decide⟩, rfl, (fr_cons (Or.inl (Nat.le_of_ble_eq_true rfl)) (fr_cons (Or.inl (Nat.le_of_ble_eq_true rfl)) (fr_cons (Or.inl (Nat.le_of_ble_eq_true rfl)) (fr_cons (Or.inl (Nat.le_of_ble_eq_true rfl)) (fr_cons (Or.inl (Nat.le_of_ble_eq_true rfl)) (fr_cons (Or.inl (Nat.le_of_ble_eq_true rfl)) (fr_cons (Or.inl (Nat.le_of_ble_eq_true rfl)) (fr_cons (Or.inl (Nat.le_of_ble_eq_true rfl)) (fr_cons (Or.inl (Nat.le_of_ble_eq_true rfl)) (fr_cons (Or.inr (Nat.le_add_left 1000 _)) (fr_cons (Or.inl (Nat.le_of_ble_eq_true rfl)) (fr_nil)))))))))))), rfl⟩ fr_i rfl rfl rfl rfl ?_
                                  refine V.iload (i := 9) dL_act_385 rfl ?_
                                  obtain ⟨v21, ev21, hf⟩ := flet_e hf
                                  refine V.join (J := 395) (y := v21) (st' := []) (fun tlv21 => ?_) ?_
                                  · refine V.icmp_ne (tgt := 394) dL_act_387 (by decide) (fun h22 => ?_) (fun h22 => ?_)
                                    · refine V.iconst (v := 0) dL_act_394 rfl ?_
                                      exact V.cgi (by rw [← ev21, if_neg h22]) tlv21
                                    · refine V.iconst (v := 1) dL_act_390 rfl ?_
                                      refine V.goto (tgt := 395) dL_act_391 (by decide) ?_
                                      exact V.cgi (by rw [← ev21, if_pos h22]) tlv21
                                  · obtain ⟨hz, hf⟩ := fz_e hf
                                    obtain rfl := Option.some.inj hf
                                    exact V.zret (v := v21) dL_act_395 rfl hz (Nat.le_of_ble_eq_true rfl) (Nat.le_of_ble_eq_true rfl) rfl
                                · rw [hv19b] at hc hf
                                  dsimp only [fth] at hf
                                  cases hf
                            · rw [hv17b] at hc hf
                              dsimp only [fth] at hf
                              cases hf
                        · have hf := fif_t h hf
                          refine V.iconst (v := 1) dL_act_310 rfl ?_
                          refine V.iload_n (i := 2) dL_act_311 rfl rfl ?_
                          refine V.iconst (v := 1) dL_act_312 rfl ?_
                          refine V.ishr dL_act_313 ?_
                          refine V.iload_n (i := 2) dL_act_314 rfl rfl ?_
                          refine V.bipush (v := 7) dL_act_315 rfl ?_
                          refine V.ishr dL_act_317 ?_
                          refine V.iconst (v := 2) dL_act_318 rfl ?_
                          obtain ⟨v23, hv23, hf⟩ := fbind hf
                          refine V.callSn (pl := []) (σ' := [.inl (5, [.ref 1, .ref 3, .ref 6, .ref 8, .ref 9]), .inl (3, [.ref 2]), .inr (910, .inl State_cells), .inl (1, [.ref 4, .ref 5, .int History_oldest, .int History_size, .int History_snapshotTaken]), .inr (5460, .inl History_saved), .inr (910, .inl History_snapshot), .inl (0, [.ref 7, .int Buffer_size]), .inr (60, .inl Buffer_codes), .inl (2, [.ref (Reader_pattern + 1000), .int Reader_place]), .inl (4, [.ref 10, .int Word_size]), .inr (8, .inl Word_letters)]) (st2 := [.int v23, .int (a2 >>> (1 &&& 31)), .int 1]) (cl2 := 0) (sl2 := 0) (ct_L_low (a0 := (a2 >>> (7 &&& 31))) (a1 := 2) hv23) dL_act_319 w460 w461 cal_L_low ⟨⟨Nat.le_of_ble_eq_true rfl, Nat.le_of_ble_eq_true rfl⟩, Nat.le_of_ble_eq_true rfl, Nat.le_of_ble_eq_true rfl⟩ (Nat.le_of_ble_eq_true rfl) rfl ⟨rfl, ⟨by decide, by decide⟩, rfl, (fr_nil), rfl⟩ fr_i rfl rfl rfl rfl ?_
                          obtain ⟨v24, ev24, hf⟩ := flet_e hf
                          refine V.join (J := 331) (y := v24) (st' := [.int (a2 >>> (1 &&& 31)), .int 1]) (fun tlv24 => ?_) ?_
                          · refine V.if_ne (tgt := 330) dL_act_322 (by decide) (fun h25 => ?_) (fun h25 => ?_)
                            · refine V.iconst (v := 2) dL_act_330 rfl ?_
                              exact V.cgi (by rw [← ev24, if_neg h25]) tlv24
                            · refine V.bipush (v := 9) dL_act_325 rfl ?_
                              refine V.goto (tgt := 331) dL_act_327 (by decide) ?_
                              exact V.cgi (by rw [← ev24, if_pos h25]) tlv24
                          · obtain ⟨v26, hv26, hf⟩ := fbind hf
                            refine V.callSn (pl := []) (σ' := [.inl (5, [.ref 1, .ref 3, .ref 6, .ref 8, .ref 9]), .inl (3, [.ref 2]), .inr (910, .inl State_cells), .inl (1, [.ref 4, .ref 5, .int History_oldest, .int History_size, .int History_snapshotTaken]), .inr (5460, .inl History_saved), .inr (910, .inl History_snapshot), .inl (0, [.ref 7, .int Buffer_size]), .inr (60, .inl Buffer_codes), .inl (2, [.ref (Reader_pattern + 1000), .int Reader_place]), .inl (4, [.ref 10, .int Word_size]), .inr (8, .inl Word_letters)]) (st2 := [.int v26, .int 1]) (cl2 := 0) (sl2 := 0) (ct_L_low (a0 := (a2 >>> (1 &&& 31))) (a1 := v24) hv26) dL_act_331 w460 w461 cal_L_low ⟨⟨Nat.le_of_ble_eq_true rfl, Nat.le_of_ble_eq_true rfl⟩, Nat.le_of_ble_eq_true rfl, Nat.le_of_ble_eq_true rfl⟩ (Nat.le_of_ble_eq_true rfl) rfl ⟨rfl, ⟨by decide, by decide⟩, rfl, (fr_nil), rfl⟩ fr_i rfl rfl rfl rfl ?_
                            refine V.iadd dL_act_334 ?_
                            refine V.goto (tgt := 361) dL_act_335 (by decide) ?_
                            refine V.istore (i := 9) (L' := [some (.ref 0), some (.int a1), some (.int a2), some (.int v1), some (.int v5), some (.int v7), some (.int v9), some (.int v10), some (.int v12), some (.int (1 + v26))]) dL_act_361 (Nat.le_of_ble_eq_true rfl) rfl rfl ?_
                            refine V.aload_n (i := 0) dL_act_363 rfl rfl ?_
                            refine V.iload (i := 7) dL_act_364 rfl ?_
                            refine V.iload (i := 9) dL_act_366 rfl ?_
                            obtain ⟨v27, hv27, hf⟩ := fbind hf
                            have hc := ct_X10_set (a1 := v10) (a2 := (1 + v26)) (State_cells := State_cells) (History_oldest := History_oldest) (History_size := History_size) (History_snapshotTaken := History_snapshotTaken) (History_saved := History_saved) (History_snapshot := History_snapshot) (Buffer_size := Buffer_size) (Buffer_codes := Buffer_codes) (Reader_pattern := Reader_pattern) (Reader_place := Reader_place) (Word_size := Word_size) (Word_letters := Word_letters) hv27
                            rcases hv27b : v27.1 with v28 | E9
                            · rw [hv27b] at hc hf
                              dsimp only [fth] at hf
                              refine V.callVn (pl := [0, 1, 2, 3, 4, 5, 6, 7, 8, 9, 10]) (σ' := [.inl (5, [.ref 1, .ref 3, .ref 6, .ref 8, .ref 9]), .inl (3, [.ref 2]), .inr (910, .inl v27.2.1), .inl (1, [.ref 4, .ref 5, .int v27.2.2.1, .int v27.2.2.2.1, .int History_snapshotTaken]), .inr (5460, .inl v27.2.2.2.2), .inr (910, .inl History_snapshot), .inl (0, [.ref 7, .int Buffer_size]), .inr (60, .inl Buffer_codes), .inl (2, [.ref (Reader_pattern + 1000), .int Reader_place]), .inl (4, [.ref 10, .int Word_size]), .inr (8, .inl Word_letters)]) (st2 := [.int v28]) (cl2 := 0) (sl2 := 0) hc dL_act_368 w702 ⟨w703, w704⟩ cal_X10_set rfl ⟨⟨Nat.le_of_ble_eq_true rfl, Nat.le_of_ble_eq_true rfl⟩, Nat.le_of_ble_eq_true rfl, Nat.le_of_ble_eq_true rfl⟩ (Nat.le_of_ble_eq_true rfl) ⟨_, _, _, _, rfl, rfl⟩ rfl ⟨rfl, ⟨by decide, by decide⟩, rfl, (fr_cons (Or.inl (Nat.le_of_ble_eq_true rfl)) (fr_cons (Or.inl (Nat.le_of_ble_eq_true rfl)) (fr_cons (Or.inl (Nat.le_of_ble_eq_true rfl)) (fr_cons (Or.inl (Nat.le_of_ble_eq_true rfl)) (fr_cons (Or.inl (Nat.le_of_ble_eq_true rfl)) (fr_cons (Or.inl (Nat.le_of_ble_eq_true rfl)) (fr_cons (Or.inl (Nat.le_of_ble_eq_true rfl)) (fr_cons (Or.inl (Nat.le_of_ble_eq_true rfl)) (fr_cons (Or.inl (Nat.le_of_ble_eq_true rfl)) (fr_cons (Or.inr (Nat.le_add_left 1000 _)) (fr_cons (Or.inl (Nat.le_of_ble_eq_true rfl)) (fr_nil)))))))))))), rfl⟩ fr_i rfl rfl rfl rfl ?_
                              refine V.iload (i := 8) dL_act_371 rfl ?_
                              refine V.icmp_ne (tgt := 394) dL_act_373 (by decide) (fun h => ?_) (fun h => ?_)
                              · have hf := fif_f h hf
                                refine V.iconst (v := 0) dL_act_394 rfl ?_
                                obtain rfl := Option.some.inj hf
                                exact V.zret (v := 0) dL_act_395 rfl (by decide +kernel) (Nat.le_of_ble_eq_true rfl) (Nat.le_of_ble_eq_true rfl) rfl
                              · have hf := fif_t h hf
                                refine V.aload_n (i := 0) dL_act_376 rfl rfl ?_
                                refine V.bipush (v := 11) dL_act_377 rfl ?_
                                refine V.iload (i := 7) dL_act_379 rfl ?_
                                refine V.iadd dL_act_381 ?_
                                obtain ⟨v29, hv29, hf⟩ := fbind hf
                                have hc := ct_X10_count (a1 := (11 + v10)) (State_cells := v27.2.1) (History_oldest := v27.2.2.1) (History_size := v27.2.2.2.1) (History_snapshotTaken := History_snapshotTaken) (History_saved := v27.2.2.2.2) (History_snapshot := History_snapshot) (Buffer_size := Buffer_size) (Buffer_codes := Buffer_codes) (Reader_pattern := Reader_pattern) (Reader_place := Reader_place) (Word_size := Word_size) (Word_letters := Word_letters) hv29
                                rcases hv29b : v29 with v30 | E9
                                · rw [hv29b] at hc hf
                                  dsimp only [fth] at hf
                                  refine V.callVn (pl := [0, 1, 2, 3, 4, 5, 6, 7, 8, 9, 10]) (σ' := [.inl (5, [.ref 1, .ref 3, .ref 6, .ref 8, .ref 9]), .inl (3, [.ref 2]), .inr (910, .inl v27.2.1), .inl (1, [.ref 4, .ref 5, .int v27.2.2.1, .int v27.2.2.2.1, .int History_snapshotTaken]), .inr (5460, .inl v27.2.2.2.2), .inr (910, .inl History_snapshot), .inl (0, [.ref 7, .int Buffer_size]), .inr (60, .inl Buffer_codes), .inl (2, [.ref (Reader_pattern + 1000), .int Reader_place]), .inl (4, [.ref 10, .int Word_size]), .inr (8, .inl Word_letters)]) (st2 := [.int v30]) (cl2 := 0) (sl2 := 0) hc dL_act_382 w404 ⟨w405, w406⟩ cal_X10_count rfl ⟨⟨Nat.le_of_ble_eq_true rfl, Nat.le_of_ble_eq_true rfl⟩, Nat.le_of_ble_eq_true rfl, Nat.le_of_ble_eq_true rfl⟩ (Nat.le_of_ble_eq_true rfl) ⟨_, _, _, _, rfl, rfl⟩ rfl ⟨rfl, ⟨by decide, by decide⟩, rfl, (fr_cons (Or.inl (Nat.le_of_ble_eq_true rfl)) (fr_cons (Or.inl (Nat.le_of_ble_eq_true rfl)) (fr_cons (Or.inl (Nat.le_of_ble_eq_true rfl)) (fr_cons (Or.inl (Nat.le_of_ble_eq_true rfl)) (fr_cons (Or.inl (Nat.le_of_ble_eq_true rfl)) (fr_cons (Or.inl (Nat.le_of_ble_eq_true rfl)) (fr_cons (Or.inl (Nat.le_of_ble_eq_true rfl)) (fr_cons (Or.inl (Nat.le_of_ble_eq_true rfl)) (fr_cons (Or.inl (Nat.le_of_ble_eq_true rfl)) (fr_cons (Or.inr (Nat.le_add_left 1000 _)) (fr_cons (Or.inl (Nat.le_of_ble_eq_true rfl)) (fr_nil)))))))))))), rfl⟩ fr_i rfl rfl rfl rfl ?_
                                  refine V.iload (i := 9) dL_act_385 rfl ?_
                                  obtain ⟨v31, ev31, hf⟩ := flet_e hf
                                  refine V.join (J := 395) (y := v31) (st' := []) (fun tlv31 => ?_) ?_
                                  · refine V.icmp_ne (tgt := 394) dL_act_387 (by decide) (fun h32 => ?_) (fun h32 => ?_)
                                    · refine V.iconst (v := 0) dL_act_394 rfl ?_
                                      exact V.cgi (by rw [← ev31, if_neg h32]) tlv31
                                    · refine V.iconst (v := 1) dL_act_390 rfl ?_
                                      refine V.goto (tgt := 395) dL_act_391 (by decide) ?_
                                      exact V.cgi (by rw [← ev31, if_pos h32]) tlv31
                                  · obtain ⟨hz, hf⟩ := fz_e hf
                                    obtain rfl := Option.some.inj hf
                                    exact V.zret (v := v31) dL_act_395 rfl hz (Nat.le_of_ble_eq_true rfl) (Nat.le_of_ble_eq_true rfl) rfl
                                · rw [hv29b] at hc hf
                                  dsimp only [fth] at hf
                                  cases hf
                            · rw [hv27b] at hc hf
                              dsimp only [fth] at hf
                              cases hf
                      · rw [hv11b] at hc hf
                        dsimp only [fth] at hf
                        cases hf
                    · have hf := fif_t h hf
                      refine V.aload_n (i := 0) dL_act_211 rfl rfl ?_
                      refine V.iload (i := 4) dL_act_212 rfl ?_
                      refine V.iconst (v := 0) dL_act_214 rfl ?_
                      obtain ⟨v33, hv33, hf⟩ := fbind hf
                      have hc := ct_X10_fisher (a1 := v5) (a2 := 0) (State_cells := State_cells) (History_oldest := History_oldest) (History_size := History_size) (History_snapshotTaken := History_snapshotTaken) (History_saved := History_saved) (History_snapshot := History_snapshot) (Buffer_size := Buffer_size) (Buffer_codes := Buffer_codes) (Reader_pattern := Reader_pattern) (Reader_place := Reader_place) (Word_size := Word_size) (Word_letters := Word_letters) hv33
                      rcases hv33b : v33 with v34 | E9
                      · rw [hv33b] at hc hf
                        dsimp only [fth] at hf
                        refine V.callVn (pl := [0, 1, 2, 3, 4, 5, 6, 7, 8, 9, 10]) (σ' := [.inl (5, [.ref 1, .ref 3, .ref 6, .ref 8, .ref 9]), .inl (3, [.ref 2]), .inr (910, .inl State_cells), .inl (1, [.ref 4, .ref 5, .int History_oldest, .int History_size, .int History_snapshotTaken]), .inr (5460, .inl History_saved), .inr (910, .inl History_snapshot), .inl (0, [.ref 7, .int Buffer_size]), .inr (60, .inl Buffer_codes), .inl (2, [.ref (Reader_pattern + 1000), .int Reader_place]), .inl (4, [.ref 10, .int Word_size]), .inr (8, .inl Word_letters)]) (st2 := [.int v34]) (cl2 := 0) (sl2 := 0) hc dL_act_215 w174 ⟨w175, w176⟩ cal_X10_fisher rfl ⟨⟨Nat.le_of_ble_eq_true rfl, Nat.le_of_ble_eq_true rfl⟩, Nat.le_of_ble_eq_true rfl, Nat.le_of_ble_eq_true rfl⟩ (Nat.le_of_ble_eq_true rfl) ⟨_, _, _, _, rfl, rfl⟩ rfl ⟨rfl, ⟨by decide, by decide⟩, rfl, (fr_cons (Or.inl (Nat.le_of_ble_eq_true rfl)) (fr_cons (Or.inl (Nat.le_of_ble_eq_true rfl)) (fr_cons (Or.inl (Nat.le_of_ble_eq_true rfl)) (fr_cons (Or.inl (Nat.le_of_ble_eq_true rfl)) (fr_cons (Or.inl (Nat.le_of_ble_eq_true rfl)) (fr_cons (Or.inl (Nat.le_of_ble_eq_true rfl)) (fr_cons (Or.inl (Nat.le_of_ble_eq_true rfl)) (fr_cons (Or.inl (Nat.le_of_ble_eq_true rfl)) (fr_cons (Or.inl (Nat.le_of_ble_eq_true rfl)) (fr_cons (Or.inr (Nat.le_add_left 1000 _)) (fr_cons (Or.inl (Nat.le_of_ble_eq_true rfl)) (fr_nil)))))))))))), rfl⟩ fr_i rfl rfl rfl rfl ?_
                        refine V.istore (i := 7) (L' := [some (.ref 0), some (.int a1), some (.int a2), some (.int v1), some (.int v5), some (.int v7), some (.int v9), some (.int v34), none, none]) dL_act_218 (Nat.le_of_ble_eq_true rfl) rfl rfl ?_
                        refine V.iload (i := 7) dL_act_220 rfl ?_
                        refine V.aload_n (i := 0) dL_act_222 rfl rfl ?_
                        refine V.iload (i := 4) dL_act_223 rfl ?_
                        refine V.iconst (v := 2) dL_act_225 rfl ?_
                        obtain ⟨v35, hv35, hf⟩ := fbind hf
                        have hc := ct_X10_fisher (a1 := v5) (a2 := 2) (State_cells := State_cells) (History_oldest := History_oldest) (History_size := History_size) (History_snapshotTaken := History_snapshotTaken) (History_saved := History_saved) (History_snapshot := History_snapshot) (Buffer_size := Buffer_size) (Buffer_codes := Buffer_codes) (Reader_pattern := Reader_pattern) (Reader_place := Reader_place) (Word_size := Word_size) (Word_letters := Word_letters) hv35
                        rcases hv35b : v35 with v36 | E9
                        · rw [hv35b] at hc hf
                          dsimp only [fth] at hf
                          refine V.callVn (pl := [0, 1, 2, 3, 4, 5, 6, 7, 8, 9, 10]) (σ' := [.inl (5, [.ref 1, .ref 3, .ref 6, .ref 8, .ref 9]), .inl (3, [.ref 2]), .inr (910, .inl State_cells), .inl (1, [.ref 4, .ref 5, .int History_oldest, .int History_size, .int History_snapshotTaken]), .inr (5460, .inl History_saved), .inr (910, .inl History_snapshot), .inl (0, [.ref 7, .int Buffer_size]), .inr (60, .inl Buffer_codes), .inl (2, [.ref (Reader_pattern + 1000), .int Reader_place]), .inl (4, [.ref 10, .int Word_size]), .inr (8, .inl Word_letters)]) (st2 := [.int v36, .int v34]) (cl2 := 0) (sl2 := 0) hc dL_act_226 w174 ⟨w175, w176⟩ cal_X10_fisher rfl ⟨⟨Nat.le_of_ble_eq_true rfl, Nat.le_of_ble_eq_true rfl⟩, Nat.le_of_ble_eq_true rfl, Nat.le_of_ble_eq_true rfl⟩ (Nat.le_of_ble_eq_true rfl) ⟨_, _, _, _, rfl, rfl⟩ rfl ⟨rfl, ⟨by decide, by decide⟩, rfl, (fr_cons (Or.inl (Nat.le_of_ble_eq_true rfl)) (fr_cons (Or.inl (Nat.le_of_ble_eq_true rfl)) (fr_cons (Or.inl (Nat.le_of_ble_eq_true rfl)) (fr_cons (Or.inl (Nat.le_of_ble_eq_true rfl)) (fr_cons (Or.inl (Nat.le_of_ble_eq_true rfl)) (fr_cons (Or.inl (Nat.le_of_ble_eq_true rfl)) (fr_cons (Or.inl (Nat.le_of_ble_eq_true rfl)) (fr_cons (Or.inl (Nat.le_of_ble_eq_true rfl)) (fr_cons (Or.inl (Nat.le_of_ble_eq_true rfl)) (fr_cons (Or.inr (Nat.le_add_left 1000 _)) (fr_cons (Or.inl (Nat.le_of_ble_eq_true rfl)) (fr_nil)))))))))))), rfl⟩ fr_i rfl rfl rfl rfl ?_
                          refine V.isub dL_act_229 ?_
                          refine V.iload_n (i := 2) dL_act_230 rfl rfl ?_
                          refine V.bipush (v := 6) dL_act_231 rfl ?_
                          refine V.ishr dL_act_233 ?_
                          refine V.bipush (v := 30) dL_act_234 rfl ?_
                          obtain ⟨v37, hv37, hf⟩ := fbind hf
                          refine V.callSn (pl := []) (σ' := [.inl (5, [.ref 1, .ref 3, .ref 6, .ref 8, .ref 9]), .inl (3, [.ref 2]), .inr (910, .inl State_cells), .inl (1, [.ref 4, .ref 5, .int History_oldest, .int History_size, .int History_snapshotTaken]), .inr (5460, .inl History_saved), .inr (910, .inl History_snapshot), .inl (0, [.ref 7, .int Buffer_size]), .inr (60, .inl Buffer_codes), .inl (2, [.ref (Reader_pattern + 1000), .int Reader_place]), .inl (4, [.ref 10, .int Word_size]), .inr (8, .inl Word_letters)]) (st2 := [.int v37, .int (v34 - v36)]) (cl2 := 0) (sl2 := 0) (ct_L_low (a0 := (a2 >>> (6 &&& 31))) (a1 := 30) hv37) dL_act_236 w460 w461 cal_L_low ⟨⟨Nat.le_of_ble_eq_true rfl, Nat.le_of_ble_eq_true rfl⟩, Nat.le_of_ble_eq_true rfl, Nat.le_of_ble_eq_true rfl⟩ (Nat.le_of_ble_eq_true rfl) rfl ⟨rfl, ⟨by decide, by decide⟩, rfl, (fr_nil), rfl⟩ fr_i rfl rfl rfl rfl ?_
                          refine V.iadd dL_act_239 ?_
                          refine V.istore (i := 8) (L' := [some (.ref 0), some (.int a1), some (.int a2), some (.int v1), some (.int v5), some (.int v7), some (.int v9), some (.int v34), some (.int ((v34 - v36) + v37)), none]) dL_act_240 (Nat.le_of_ble_eq_true rfl) rfl rfl ?_
                          refine V.iload (i := 8) dL_act_242 rfl ?_
                          refine V.bipush (v := 20) dL_act_244 rfl ?_
                          refine V.icmp_lt (tgt := 281) dL_act_246 (by decide) (fun h => ?_) (fun h => ?_)
                          · have hf := fif_t h hf
                            refine V.iconst (v := 1) dL_act_281 rfl ?_
                            refine V.goto (tgt := 286) dL_act_282 (by decide) ?_
                            obtain rfl := Option.some.inj hf
                            exact V.zret (v := 1) dL_act_286 rfl (by decide +kernel) (Nat.le_of_ble_eq_true rfl) (Nat.le_of_ble_eq_true rfl) rfl
                          · have hf := fif_f h hf
                            refine V.iload (i := 8) dL_act_249 rfl ?_
                            refine V.bipush (v := 120) dL_act_251 rfl ?_
                            refine V.icmp_gt (tgt := 281) dL_act_253 (by decide) (fun h => ?_) (fun h => ?_)
                            · have hf := fif_t h hf
                              refine V.iconst (v := 1) dL_act_281 rfl ?_
                              refine V.goto (tgt := 286) dL_act_282 (by decide) ?_
                              obtain rfl := Option.some.inj hf
                              exact V.zret (v := 1) dL_act_286 rfl (by decide +kernel) (Nat.le_of_ble_eq_true rfl) (Nat.le_of_ble_eq_true rfl) rfl
                            · have hf := fif_f h hf
                              refine V.aload_n (i := 0) dL_act_256 rfl rfl ?_
                              refine V.iload (i := 4) dL_act_257 rfl ?_
                              refine V.iload (i := 8) dL_act_259 rfl ?_
                              obtain ⟨v38, hv38, hf⟩ := fbind hf
                              have hc := ct_X10_belt (a1 := v5) (a2 := ((v34 - v36) + v37)) (State_cells := State_cells) (History_oldest := History_oldest) (History_size := History_size) (History_snapshotTaken := History_snapshotTaken) (History_saved := History_saved) (History_snapshot := History_snapshot) (Buffer_size := Buffer_size) (Buffer_codes := Buffer_codes) (Reader_pattern := Reader_pattern) (Reader_place := Reader_place) (Word_size := Word_size) (Word_letters := Word_letters) hv38
                              rcases hv38b : v38.1 with v39 | E9
                              · rw [hv38b] at hc hf
                                dsimp only [fth] at hf
                                refine V.callVn (pl := [0, 1, 2, 3, 4, 5, 6, 7, 8, 9, 10]) (σ' := [.inl (5, [.ref 1, .ref 3, .ref 6, .ref 8, .ref 9]), .inl (3, [.ref 2]), .inr (910, .inl v38.2.1), .inl (1, [.ref 4, .ref 5, .int v38.2.2.1, .int v38.2.2.2.1, .int History_snapshotTaken]), .inr (5460, .inl v38.2.2.2.2), .inr (910, .inl History_snapshot), .inl (0, [.ref 7, .int Buffer_size]), .inr (60, .inl Buffer_codes), .inl (2, [.ref (Reader_pattern + 1000), .int Reader_place]), .inl (4, [.ref 10, .int Word_size]), .inr (8, .inl Word_letters)]) (st2 := [.int v39]) (cl2 := 0) (sl2 := 0) hc dL_act_261 w694 ⟨w695, w696⟩ cal_X10_belt rfl ⟨⟨Nat.le_of_ble_eq_true rfl, Nat.le_of_ble_eq_true rfl⟩, Nat.le_of_ble_eq_true rfl, Nat.le_of_ble_eq_true rfl⟩ (Nat.le_of_ble_eq_true rfl) ⟨_, _, _, _, rfl, rfl⟩ rfl ⟨rfl, ⟨by decide, by decide⟩, rfl, (fr_cons (Or.inl (Nat.le_of_ble_eq_true rfl)) (fr_cons (Or.inl (Nat.le_of_ble_eq_true rfl)) (fr_cons (Or.inl (Nat.le_of_ble_eq_true rfl)) (fr_cons (Or.inl (Nat.le_of_ble_eq_true rfl)) (fr_cons (Or.inl (Nat.le_of_ble_eq_true rfl)) (fr_cons (Or.inl (Nat.le_of_ble_eq_true rfl)) (fr_cons (Or.inl (Nat.le_of_ble_eq_true rfl)) (fr_cons (Or.inl (Nat.le_of_ble_eq_true rfl)) (fr_cons (Or.inl (Nat.le_of_ble_eq_true rfl)) (fr_cons (Or.inr (Nat.le_add_left 1000 _)) (fr_cons (Or.inl (Nat.le_of_ble_eq_true rfl)) (fr_nil)))))))))))), rfl⟩ fr_i rfl rfl rfl rfl ?_
                                refine V.iload (i := 7) dL_act_264 rfl ?_
                                refine V.icmp_ne (tgt := 285) dL_act_266 (by decide) (fun h => ?_) (fun h => ?_)
                                · have hf := fif_f h hf
                                  refine V.iconst (v := 0) dL_act_285 rfl ?_
                                  obtain rfl := Option.some.inj hf
                                  exact V.zret (v := 0) dL_act_286 rfl (by decide +kernel) (Nat.le_of_ble_eq_true rfl) (Nat.le_of_ble_eq_true rfl) rfl
                                · have hf := fif_t h hf
                                  refine V.aload_n (i := 0) dL_act_269 rfl rfl ?_
                                  refine V.iload (i := 4) dL_act_270 rfl ?_
                                  refine V.iconst (v := 0) dL_act_272 rfl ?_
                                  obtain ⟨v40, hv40, hf⟩ := fbind hf
                                  have hc := ct_X10_fisher (a1 := v5) (a2 := 0) (State_cells := v38.2.1) (History_oldest := v38.2.2.1) (History_size := v38.2.2.2.1) (History_snapshotTaken := History_snapshotTaken) (History_saved := v38.2.2.2.2) (History_snapshot := History_snapshot) (Buffer_size := Buffer_size) (Buffer_codes := Buffer_codes) (Reader_pattern := Reader_pattern) (Reader_place := Reader_place) (Word_size := Word_size) (Word_letters := Word_letters) hv40
                                  rcases hv40b : v40 with v41 | E9
                                  · rw [hv40b] at hc hf
                                    dsimp only [fth] at hf
                                    refine V.callVn (pl := [0, 1, 2, 3, 4, 5, 6, 7, 8, 9, 10]) (σ' := [.inl (5, [.ref 1, .ref 3, .ref 6, .ref 8, .ref 9]), .inl (3, [.ref 2]), .inr (910, .inl v38.2.1), .inl (1, [.ref 4, .ref 5, .int v38.2.2.1, .int v38.2.2.2.1, .int History_snapshotTaken]), .inr (5460, .inl v38.2.2.2.2), .inr (910, .inl History_snapshot), .inl (0, [.ref 7, .int Buffer_size]), .inr (60, .inl Buffer_codes), .inl (2, [.ref (Reader_pattern + 1000), .int Reader_place]), .inl (4, [.ref 10, .int Word_size]), .inr (8, .inl Word_letters)]) (st2 := [.int v41]) (cl2 := 0) (sl2 := 0) hc dL_act_273 w174 ⟨w175, w176⟩ cal_X10_fisher rfl ⟨⟨Nat.le_of_ble_eq_true rfl, Nat.le_of_ble_eq_true rfl⟩, Nat.le_of_ble_eq_true rfl, Nat.le_of_ble_eq_true rfl⟩ (Nat.le_of_ble_eq_true rfl) ⟨_, _, _, _, rfl, rfl⟩ rfl ⟨rfl, ⟨by decide, by decide⟩, rfl, (fr_cons (Or.inl (Nat.le_of_ble_eq_true rfl)) (fr_cons (Or.inl (Nat.le_of_ble_eq_true rfl)) (fr_cons (Or.inl (Nat.le_of_ble_eq_true rfl)) (fr_cons (Or.inl (Nat.le_of_ble_eq_true rfl)) (fr_cons (Or.inl (Nat.le_of_ble_eq_true rfl)) (fr_cons (Or.inl (Nat.le_of_ble_eq_true rfl)) (fr_cons (Or.inl (Nat.le_of_ble_eq_true rfl)) (fr_cons (Or.inl (Nat.le_of_ble_eq_true rfl)) (fr_cons (Or.inl (Nat.le_of_ble_eq_true rfl)) (fr_cons (Or.inr (Nat.le_add_left 1000 _)) (fr_cons (Or.inl (Nat.le_of_ble_eq_true rfl)) (fr_nil)))))))))))), rfl⟩ fr_i rfl rfl rfl rfl ?_
                                    refine V.iload (i := 8) dL_act_276 rfl ?_
                                    obtain ⟨v42, ev42, hf⟩ := flet_e hf
                                    refine V.join (J := 286) (y := v42) (st' := []) (fun tlv42 => ?_) ?_
                                    · refine V.icmp_ne (tgt := 285) dL_act_278 (by decide) (fun h43 => ?_) (fun h43 => ?_)
                                      · refine V.iconst (v := 0) dL_act_285 rfl ?_
                                        exact V.cgi (by rw [← ev42, if_neg h43]) tlv42
                                      · refine V.iconst (v := 1) dL_act_281 rfl ?_
                                        refine V.goto (tgt := 286) dL_act_282 (by decide) ?_
                                        exact V.cgi (by rw [← ev42, if_pos h43]) tlv42
                                    · obtain ⟨hz, hf⟩ := fz_e hf
                                      obtain rfl := Option.some.inj hf
                                      exact V.zret (v := v42) dL_act_286 rfl hz (Nat.le_of_ble_eq_true rfl) (Nat.le_of_ble_eq_true rfl) rfl
                                  · rw [hv40b] at hc hf
                                    dsimp only [fth] at hf
                                    cases hf
                              · rw [hv38b] at hc hf
                                dsimp only [fth] at hf
                                cases hf
                        · rw [hv35b] at hc hf
                          dsimp only [fth] at hf
                          cases hf
                      · rw [hv33b] at hc hf
                        dsimp only [fth] at hf
                        cases hf
                  · have hf := fif_f h hf
                    refine V.aload_n (i := 0) dL_act_188 rfl rfl ?_
                    refine V.iload (i := 4) dL_act_189 rfl ?_
                    refine V.iload (i := 6) dL_act_191 rfl ?_
                    refine V.iload_n (i := 2) dL_act_193 rfl rfl ?_
                    refine V.bipush (v := 6) dL_act_194 rfl ?_
                    refine V.ishr dL_act_196 ?_
                    refine V.iconst (v := 5) dL_act_197 rfl ?_
                    obtain ⟨v44, hv44, hf⟩ := fbind hf
                    refine V.callSn (pl := []) (σ' := [.inl (5, [.ref 1, .ref 3, .ref 6, .ref 8, .ref 9]), .inl (3, [.ref 2]), .inr (910, .inl State_cells), .inl (1, [.ref 4, .ref 5, .int History_oldest, .int History_size, .int History_snapshotTaken]), .inr (5460, .inl History_saved), .inr (910, .inl History_snapshot), .inl (0, [.ref 7, .int Buffer_size]), .inr (60, .inl Buffer_codes), .inl (2, [.ref (Reader_pattern + 1000), .int Reader_place]), .inl (4, [.ref 10, .int Word_size]), .inr (8, .inl Word_letters)]) (st2 := [.int v44, .int v9, .int v5, .ref 0]) (cl2 := 0) (sl2 := 0) (ct_L_low (a0 := (a2 >>> (6 &&& 31))) (a1 := 5) hv44) dL_act_198 w460 w461 cal_L_low ⟨⟨Nat.le_of_ble_eq_true rfl, Nat.le_of_ble_eq_true rfl⟩, Nat.le_of_ble_eq_true rfl, Nat.le_of_ble_eq_true rfl⟩ (Nat.le_of_ble_eq_true rfl) rfl ⟨rfl, ⟨by decide, by decide⟩, rfl, (fr_nil), rfl⟩ fr_i rfl rfl rfl rfl ?_
                    obtain ⟨v45, hv45, hf⟩ := fbind hf
                    refine V.callSn (pl := [0, 1, 2, 3, 4, 5, 6, 7, 8, 9, 10]) (σ' := [.inl (5, [.ref 1, .ref 3, .ref 6, .ref 8, .ref 9]), .inl (3, [.ref 2]), .inr (910, .inl v45.2.1), .inl (1, [.ref 4, .ref 5, .int v45.2.2.1, .int v45.2.2.2.1, .int History_snapshotTaken]), .inr (5460, .inl v45.2.2.2.2.1), .inr (910, .inl History_snapshot), .inl (0, [.ref 7, .int Buffer_size]), .inr (60, .inl Buffer_codes), .inl (2, [.ref (Reader_pattern + 1000), .int Reader_place]), .inl (4, [.ref 10, .int v45.2.2.2.2.2.1]), .inr (8, .inl v45.2.2.2.2.2.2)]) (st2 := [.int v45.1]) (cl2 := 2) (sl2 := 14) (ct_L_gives (a1 := v5) (a2 := v9) (a3 := v44) (State_cells := State_cells) (History_oldest := History_oldest) (History_size := History_size) (History_snapshotTaken := History_snapshotTaken) (History_saved := History_saved) (History_snapshot := History_snapshot) (Buffer_size := Buffer_size) (Buffer_codes := Buffer_codes) (Reader_pattern := Reader_pattern) (Reader_place := Reader_place) (Word_size := Word_size) (Word_letters := Word_letters) hv45) dL_act_201 w675 w676 cal_L_gives ⟨⟨Nat.le_of_ble_eq_true rfl, Nat.le_of_ble_eq_true rfl⟩, Nat.le_of_ble_eq_true rfl, Nat.le_of_ble_eq_true rfl⟩ (Nat.le_of_ble_eq_true rfl) rfl ⟨rfl, ⟨by decide, by decide⟩, rfl, (fr_cons (Or.inl (Nat.le_of_ble_eq_true rfl)) (fr_cons (Or.inl (Nat.le_of_ble_eq_true rfl)) (fr_cons (Or.inl (Nat.le_of_ble_eq_true rfl)) (fr_cons (Or.inl (Nat.le_of_ble_eq_true rfl)) (fr_cons (Or.inl (Nat.le_of_ble_eq_true rfl)) (fr_cons (Or.inl (Nat.le_of_ble_eq_true rfl)) (fr_cons (Or.inl (Nat.le_of_ble_eq_true rfl)) (fr_cons (Or.inl (Nat.le_of_ble_eq_true rfl)) (fr_cons (Or.inl (Nat.le_of_ble_eq_true rfl)) (fr_cons (Or.inr (Nat.le_add_left 1000 _)) (fr_cons (Or.inl (Nat.le_of_ble_eq_true rfl)) (fr_nil)))))))))))), rfl⟩ fr_i rfl rfl rfl rfl ?_
                    obtain ⟨hz, hf⟩ := fz_e hf
                    obtain rfl := Option.some.inj hf
                    exact V.zret (v := v45.1) dL_act_204 rfl hz (Nat.le_of_ble_eq_true rfl) (Nat.le_of_ble_eq_true rfl) rfl
                · have hf := fif_f h hf
                  refine V.aload_n (i := 0) dL_act_173 rfl rfl ?_
                  refine V.iload (i := 4) dL_act_174 rfl ?_
                  refine V.iload (i := 6) dL_act_176 rfl ?_
                  obtain ⟨v46, hv46, hf⟩ := fbind hf
                  refine V.callSn (pl := [0, 1, 2, 3, 4, 5, 6, 7, 8, 9, 10]) (σ' := [.inl (5, [.ref 1, .ref 3, .ref 6, .ref 8, .ref 9]), .inl (3, [.ref 2]), .inr (910, .inl v46.2.1), .inl (1, [.ref 4, .ref 5, .int v46.2.2.1, .int v46.2.2.2.1, .int History_snapshotTaken]), .inr (5460, .inl v46.2.2.2.2), .inr (910, .inl History_snapshot), .inl (0, [.ref 7, .int Buffer_size]), .inr (60, .inl Buffer_codes), .inl (2, [.ref (Reader_pattern + 1000), .int Reader_place]), .inl (4, [.ref 10, .int Word_size]), .inr (8, .inl Word_letters)]) (st2 := [.int v46.1]) (cl2 := 2) (sl2 := 14) (ct_L_fastens (a1 := v5) (a2 := v9) (State_cells := State_cells) (History_oldest := History_oldest) (History_size := History_size) (History_snapshotTaken := History_snapshotTaken) (History_saved := History_saved) (History_snapshot := History_snapshot) (Buffer_size := Buffer_size) (Buffer_codes := Buffer_codes) (Reader_pattern := Reader_pattern) (Reader_place := Reader_place) (Word_size := Word_size) (Word_letters := Word_letters) hv46) dL_act_178 w652 w653 cal_L_fastens ⟨⟨Nat.le_of_ble_eq_true rfl, Nat.le_of_ble_eq_true rfl⟩, Nat.le_of_ble_eq_true rfl, Nat.le_of_ble_eq_true rfl⟩ (Nat.le_of_ble_eq_true rfl) rfl ⟨rfl, ⟨by decide, by decide⟩, rfl, (fr_cons (Or.inl (Nat.le_of_ble_eq_true rfl)) (fr_cons (Or.inl (Nat.le_of_ble_eq_true rfl)) (fr_cons (Or.inl (Nat.le_of_ble_eq_true rfl)) (fr_cons (Or.inl (Nat.le_of_ble_eq_true rfl)) (fr_cons (Or.inl (Nat.le_of_ble_eq_true rfl)) (fr_cons (Or.inl (Nat.le_of_ble_eq_true rfl)) (fr_cons (Or.inl (Nat.le_of_ble_eq_true rfl)) (fr_cons (Or.inl (Nat.le_of_ble_eq_true rfl)) (fr_cons (Or.inl (Nat.le_of_ble_eq_true rfl)) (fr_cons (Or.inr (Nat.le_add_left 1000 _)) (fr_cons (Or.inl (Nat.le_of_ble_eq_true rfl)) (fr_nil)))))))))))), rfl⟩ fr_i rfl rfl rfl rfl ?_
                  obtain ⟨hz, hf⟩ := fz_e hf
                  obtain rfl := Option.some.inj hf
                  exact V.zret (v := v46.1) dL_act_181 rfl hz (Nat.le_of_ble_eq_true rfl) (Nat.le_of_ble_eq_true rfl) rfl
              · have hf := fif_t h hf
                refine V.aload_n (i := 0) dL_act_103 rfl rfl ?_
                refine V.iload (i := 4) dL_act_104 rfl ?_
                refine V.iload (i := 6) dL_act_106 rfl ?_
                refine V.iconst (v := 1) dL_act_108 rfl ?_
                obtain ⟨v47, hv47, hf⟩ := fbind hf
                have hc := ct_X10_name (a1 := v5) (a2 := v9) (a3 := 1) (State_cells := State_cells) (History_oldest := History_oldest) (History_size := History_size) (History_snapshotTaken := History_snapshotTaken) (History_saved := History_saved) (History_snapshot := History_snapshot) (Buffer_size := Buffer_size) (Buffer_codes := Buffer_codes) (Reader_pattern := Reader_pattern) (Reader_place := Reader_place) (Word_size := Word_size) (Word_letters := Word_letters) hv47
                rcases hv47b : v47 with v48 | E9
                · rw [hv47b] at hc hf
                  dsimp only [fth] at hf
                  refine V.callVn (pl := [0, 1, 2, 3, 4, 5, 6, 7, 8, 9, 10]) (σ' := [.inl (5, [.ref 1, .ref 3, .ref 6, .ref 8, .ref 9]), .inl (3, [.ref 2]), .inr (910, .inl State_cells), .inl (1, [.ref 4, .ref 5, .int History_oldest, .int History_size, .int History_snapshotTaken]), .inr (5460, .inl History_saved), .inr (910, .inl History_snapshot), .inl (0, [.ref 7, .int Buffer_size]), .inr (60, .inl Buffer_codes), .inl (2, [.ref (Reader_pattern + 1000), .int Reader_place]), .inl (4, [.ref 10, .int Word_size]), .inr (8, .inl Word_letters)]) (st2 := [.int v48]) (cl2 := 0) (sl2 := 0) hc dL_act_109 w284 ⟨w285, w286⟩ cal_X10_name rfl ⟨⟨Nat.le_of_ble_eq_true rfl, Nat.le_of_ble_eq_true rfl⟩, Nat.le_of_ble_eq_true rfl, Nat.le_of_ble_eq_true rfl⟩ (Nat.le_of_ble_eq_true rfl) ⟨_, _, _, _, rfl, rfl⟩ rfl ⟨rfl, ⟨by decide, by decide⟩, rfl, (fr_cons (Or.inl (Nat.le_of_ble_eq_true rfl)) (fr_cons (Or.inl (Nat.le_of_ble_eq_true rfl)) (fr_cons (Or.inl (Nat.le_of_ble_eq_true rfl)) (fr_cons (Or.inl (Nat.le_of_ble_eq_true rfl)) (fr_cons (Or.inl (Nat.le_of_ble_eq_true rfl)) (fr_cons (Or.inl (Nat.le_of_ble_eq_true rfl)) (fr_cons (Or.inl (Nat.le_of_ble_eq_true rfl)) (fr_cons (Or.inl (Nat.le_of_ble_eq_true rfl)) (fr_cons (Or.inl (Nat.le_of_ble_eq_true rfl)) (fr_cons (Or.inr (Nat.le_add_left 1000 _)) (fr_cons (Or.inl (Nat.le_of_ble_eq_true rfl)) (fr_nil)))))))))))), rfl⟩ fr_i rfl rfl rfl rfl ?_
                  refine V.istore (i := 7) (L' := [some (.ref 0), some (.int a1), some (.int a2), some (.int v1), some (.int v5), some (.int v7), some (.int v9), some (.int v48), none, none]) dL_act_112 (Nat.le_of_ble_eq_true rfl) rfl rfl ?_
                  refine V.aload_n (i := 0) dL_act_114 rfl rfl ?_
                  refine V.iconst (v := 4) dL_act_115 rfl ?_
                  obtain ⟨v49, hv49, hf⟩ := fbind hf
                  have hc := ct_X10_count (a1 := 4) (State_cells := State_cells) (History_oldest := History_oldest) (History_size := History_size) (History_snapshotTaken := History_snapshotTaken) (History_saved := History_saved) (History_snapshot := History_snapshot) (Buffer_size := Buffer_size) (Buffer_codes := Buffer_codes) (Reader_pattern := Reader_pattern) (Reader_place := Reader_place) (Word_size := Word_size) (Word_letters := Word_letters) hv49
                  rcases hv49b : v49 with v50 | E9
                  · rw [hv49b] at hc hf
                    dsimp only [fth] at hf
                    refine V.callVn (pl := [0, 1, 2, 3, 4, 5, 6, 7, 8, 9, 10]) (σ' := [.inl (5, [.ref 1, .ref 3, .ref 6, .ref 8, .ref 9]), .inl (3, [.ref 2]), .inr (910, .inl State_cells), .inl (1, [.ref 4, .ref 5, .int History_oldest, .int History_size, .int History_snapshotTaken]), .inr (5460, .inl History_saved), .inr (910, .inl History_snapshot), .inl (0, [.ref 7, .int Buffer_size]), .inr (60, .inl Buffer_codes), .inl (2, [.ref (Reader_pattern + 1000), .int Reader_place]), .inl (4, [.ref 10, .int Word_size]), .inr (8, .inl Word_letters)]) (st2 := [.int v50]) (cl2 := 0) (sl2 := 0) hc dL_act_116 w404 ⟨w405, w406⟩ cal_X10_count rfl ⟨⟨Nat.le_of_ble_eq_true rfl, Nat.le_of_ble_eq_true rfl⟩, Nat.le_of_ble_eq_true rfl, Nat.le_of_ble_eq_true rfl⟩ (Nat.le_of_ble_eq_true rfl) ⟨_, _, _, _, rfl, rfl⟩ rfl ⟨rfl, ⟨by decide, by decide⟩, rfl, (fr_cons (Or.inl (Nat.le_of_ble_eq_true rfl)) (fr_cons (Or.inl (Nat.le_of_ble_eq_true rfl)) (fr_cons (Or.inl (Nat.le_of_ble_eq_true rfl)) (fr_cons (Or.inl (Nat.le_of_ble_eq_true rfl)) (fr_cons (Or.inl (Nat.le_of_ble_eq_true rfl)) (fr_cons (Or.inl (Nat.le_of_ble_eq_true rfl)) (fr_cons (Or.inl (Nat.le_of_ble_eq_true rfl)) (fr_cons (Or.inl (Nat.le_of_ble_eq_true rfl)) (fr_cons (Or.inl (Nat.le_of_ble_eq_true rfl)) (fr_cons (Or.inr (Nat.le_add_left 1000 _)) (fr_cons (Or.inl (Nat.le_of_ble_eq_true rfl)) (fr_nil)))))))))))), rfl⟩ fr_i rfl rfl rfl rfl ?_
                    refine V.istore (i := 8) (L' := [some (.ref 0), some (.int a1), some (.int a2), some (.int v1), some (.int v5), some (.int v7), some (.int v9), some (.int v48), some (.int v50), none]) dL_act_119 (Nat.le_of_ble_eq_true rfl) rfl rfl ?_
                    refine V.aload_n (i := 0) dL_act_121 rfl rfl ?_
                    refine V.iload (i := 4) dL_act_122 rfl ?_
                    refine V.iload (i := 6) dL_act_124 rfl ?_
                    obtain ⟨v51, hv51, hf⟩ := fbind hf
                    have hc := ct_X10_cut (a1 := v5) (a2 := v9) (State_cells := State_cells) (History_oldest := History_oldest) (History_size := History_size) (History_snapshotTaken := History_snapshotTaken) (History_saved := History_saved) (History_snapshot := History_snapshot) (Buffer_size := Buffer_size) (Buffer_codes := Buffer_codes) (Reader_pattern := Reader_pattern) (Reader_place := Reader_place) (Word_size := Word_size) (Word_letters := Word_letters) hv51
                    rcases hv51b : v51.1 with v52 | E9
                    · rw [hv51b] at hc hf
                      dsimp only [fth] at hf
                      refine V.callVn (pl := [0, 1, 2, 3, 4, 5, 6, 7, 8, 9, 10]) (σ' := [.inl (5, [.ref 1, .ref 3, .ref 6, .ref 8, .ref 9]), .inl (3, [.ref 2]), .inr (910, .inl v51.2.1), .inl (1, [.ref 4, .ref 5, .int v51.2.2.1, .int v51.2.2.2.1, .int History_snapshotTaken]), .inr (5460, .inl v51.2.2.2.2), .inr (910, .inl History_snapshot), .inl (0, [.ref 7, .int Buffer_size]), .inr (60, .inl Buffer_codes), .inl (2, [.ref (Reader_pattern + 1000), .int Reader_place]), .inl (4, [.ref 10, .int Word_size]), .inr (8, .inl Word_letters)]) (st2 := [.int v52]) (cl2 := 0) (sl2 := 0) hc dL_act_126 w647 ⟨w648, w649⟩ cal_X10_cut rfl ⟨⟨Nat.le_of_ble_eq_true rfl, Nat.le_of_ble_eq_true rfl⟩, Nat.le_of_ble_eq_true rfl, Nat.le_of_ble_eq_true rfl⟩ (Nat.le_of_ble_eq_true rfl) ⟨_, _, _, _, rfl, rfl⟩ rfl ⟨rfl, ⟨by decide, by decide⟩, rfl, (fr_cons (Or.inl (Nat.le_of_ble_eq_true rfl)) (fr_cons (Or.inl (Nat.le_of_ble_eq_true rfl)) (fr_cons (Or.inl (Nat.le_of_ble_eq_true rfl)) (fr_cons (Or.inl (Nat.le_of_ble_eq_true rfl)) (fr_cons (Or.inl (Nat.le_of_ble_eq_true rfl)) (fr_cons (Or.inl (Nat.le_of_ble_eq_true rfl)) (fr_cons (Or.inl (Nat.le_of_ble_eq_true rfl)) (fr_cons (Or.inl (Nat.le_of_ble_eq_true rfl)) (fr_cons (Or.inl (Nat.le_of_ble_eq_true rfl)) (fr_cons (Or.inr (Nat.le_add_left 1000 _)) (fr_cons (Or.inl (Nat.le_of_ble_eq_true rfl)) (fr_nil)))))))))))), rfl⟩ fr_i rfl rfl rfl rfl ?_
                      refine V.iload (i := 7) dL_act_129 rfl ?_
                      refine V.icmp_ne (tgt := 165) dL_act_131 (by decide) (fun h => ?_) (fun h => ?_)
                      · have hf := fif_f h hf
                        refine V.iconst (v := 0) dL_act_165 rfl ?_
                        obtain rfl := Option.some.inj hf
                        exact V.zret (v := 0) dL_act_166 rfl (by decide +kernel) (Nat.le_of_ble_eq_true rfl) (Nat.le_of_ble_eq_true rfl) rfl
                      · have hf := fif_t h hf
                        refine V.aload_n (i := 0) dL_act_134 rfl rfl ?_
                        refine V.iconst (v := 4) dL_act_135 rfl ?_
                        obtain ⟨v53, hv53, hf⟩ := fbind hf
                        have hc := ct_X10_count (a1 := 4) (State_cells := v51.2.1) (History_oldest := v51.2.2.1) (History_size := v51.2.2.2.1) (History_snapshotTaken := History_snapshotTaken) (History_saved := v51.2.2.2.2) (History_snapshot := History_snapshot) (Buffer_size := Buffer_size) (Buffer_codes := Buffer_codes) (Reader_pattern := Reader_pattern) (Reader_place := Reader_place) (Word_size := Word_size) (Word_letters := Word_letters) hv53
                        rcases hv53b : v53 with v54 | E9
                        · rw [hv53b] at hc hf
                          dsimp only [fth] at hf
                          refine V.callVn (pl := [0, 1, 2, 3, 4, 5, 6, 7, 8, 9, 10]) (σ' := [.inl (5, [.ref 1, .ref 3, .ref 6, .ref 8, .ref 9]), .inl (3, [.ref 2]), .inr (910, .inl v51.2.1), .inl (1, [.ref 4, .ref 5, .int v51.2.2.1, .int v51.2.2.2.1, .int History_snapshotTaken]), .inr (5460, .inl v51.2.2.2.2), .inr (910, .inl History_snapshot), .inl (0, [.ref 7, .int Buffer_size]), .inr (60, .inl Buffer_codes), .inl (2, [.ref (Reader_pattern + 1000), .int Reader_place]), .inl (4, [.ref 10, .int Word_size]), .inr (8, .inl Word_letters)]) (st2 := [.int v54]) (cl2 := 0) (sl2 := 0) hc dL_act_136 w404 ⟨w405, w406⟩ cal_X10_count rfl ⟨⟨Nat.le_of_ble_eq_true rfl, Nat.le_of_ble_eq_true rfl⟩, Nat.le_of_ble_eq_true rfl, Nat.le_of_ble_eq_true rfl⟩ (Nat.le_of_ble_eq_true rfl) ⟨_, _, _, _, rfl, rfl⟩ rfl ⟨rfl, ⟨by decide, by decide⟩, rfl, (fr_cons (Or.inl (Nat.le_of_ble_eq_true rfl)) (fr_cons (Or.inl (Nat.le_of_ble_eq_true rfl)) (fr_cons (Or.inl (Nat.le_of_ble_eq_true rfl)) (fr_cons (Or.inl (Nat.le_of_ble_eq_true rfl)) (fr_cons (Or.inl (Nat.le_of_ble_eq_true rfl)) (fr_cons (Or.inl (Nat.le_of_ble_eq_true rfl)) (fr_cons (Or.inl (Nat.le_of_ble_eq_true rfl)) (fr_cons (Or.inl (Nat.le_of_ble_eq_true rfl)) (fr_cons (Or.inl (Nat.le_of_ble_eq_true rfl)) (fr_cons (Or.inr (Nat.le_add_left 1000 _)) (fr_cons (Or.inl (Nat.le_of_ble_eq_true rfl)) (fr_nil)))))))))))), rfl⟩ fr_i rfl rfl rfl rfl ?_
                          refine V.iload (i := 8) dL_act_139 rfl ?_
                          refine V.iload (i := 7) dL_act_141 rfl ?_
                          refine V.isub dL_act_143 ?_
                          refine V.icmp_ne (tgt := 165) dL_act_144 (by decide) (fun h => ?_) (fun h => ?_)
                          · have hf := fif_f h hf
                            refine V.iconst (v := 0) dL_act_165 rfl ?_
                            obtain rfl := Option.some.inj hf
                            exact V.zret (v := 0) dL_act_166 rfl (by decide +kernel) (Nat.le_of_ble_eq_true rfl) (Nat.le_of_ble_eq_true rfl) rfl
                          · have hf := fif_t h hf
                            refine V.aload_n (i := 0) dL_act_147 rfl rfl ?_
                            refine V.iload (i := 4) dL_act_148 rfl ?_
                            refine V.iconst (v := 1) dL_act_150 rfl ?_
                            obtain ⟨v55, hv55, hf⟩ := fbind hf
                            have hc := ct_X10_fisher (a1 := v5) (a2 := 1) (State_cells := v51.2.1) (History_oldest := v51.2.2.1) (History_size := v51.2.2.2.1) (History_snapshotTaken := History_snapshotTaken) (History_saved := v51.2.2.2.2) (History_snapshot := History_snapshot) (Buffer_size := Buffer_size) (Buffer_codes := Buffer_codes) (Reader_pattern := Reader_pattern) (Reader_place := Reader_place) (Word_size := Word_size) (Word_letters := Word_letters) hv55
                            rcases hv55b : v55 with v56 | E9
                            · rw [hv55b] at hc hf
                              dsimp only [fth] at hf
                              refine V.callVn (pl := [0, 1, 2, 3, 4, 5, 6, 7, 8, 9, 10]) (σ' := [.inl (5, [.ref 1, .ref 3, .ref 6, .ref 8, .ref 9]), .inl (3, [.ref 2]), .inr (910, .inl v51.2.1), .inl (1, [.ref 4, .ref 5, .int v51.2.2.1, .int v51.2.2.2.1, .int History_snapshotTaken]), .inr (5460, .inl v51.2.2.2.2), .inr (910, .inl History_snapshot), .inl (0, [.ref 7, .int Buffer_size]), .inr (60, .inl Buffer_codes), .inl (2, [.ref (Reader_pattern + 1000), .int Reader_place]), .inl (4, [.ref 10, .int Word_size]), .inr (8, .inl Word_letters)]) (st2 := [.int v56]) (cl2 := 0) (sl2 := 0) hc dL_act_151 w174 ⟨w175, w176⟩ cal_X10_fisher rfl ⟨⟨Nat.le_of_ble_eq_true rfl, Nat.le_of_ble_eq_true rfl⟩, Nat.le_of_ble_eq_true rfl, Nat.le_of_ble_eq_true rfl⟩ (Nat.le_of_ble_eq_true rfl) ⟨_, _, _, _, rfl, rfl⟩ rfl ⟨rfl, ⟨by decide, by decide⟩, rfl, (fr_cons (Or.inl (Nat.le_of_ble_eq_true rfl)) (fr_cons (Or.inl (Nat.le_of_ble_eq_true rfl)) (fr_cons (Or.inl (Nat.le_of_ble_eq_true rfl)) (fr_cons (Or.inl (Nat.le_of_ble_eq_true rfl)) (fr_cons (Or.inl (Nat.le_of_ble_eq_true rfl)) (fr_cons (Or.inl (Nat.le_of_ble_eq_true rfl)) (fr_cons (Or.inl (Nat.le_of_ble_eq_true rfl)) (fr_cons (Or.inl (Nat.le_of_ble_eq_true rfl)) (fr_cons (Or.inl (Nat.le_of_ble_eq_true rfl)) (fr_cons (Or.inr (Nat.le_add_left 1000 _)) (fr_cons (Or.inl (Nat.le_of_ble_eq_true rfl)) (fr_nil)))))))))))), rfl⟩ fr_i rfl rfl rfl rfl ?_
                              refine V.iload (i := 5) dL_act_154 rfl ?_
                              refine V.iconst (v := 1) dL_act_156 rfl ?_
                              refine V.isub dL_act_157 ?_
                              obtain ⟨v57, ev57, hf⟩ := flet_e hf
                              refine V.join (J := 166) (y := v57) (st' := []) (fun tlv57 => ?_) ?_
                              · refine V.icmp_ne (tgt := 165) dL_act_158 (by decide) (fun h58 => ?_) (fun h58 => ?_)
                                · refine V.iconst (v := 0) dL_act_165 rfl ?_
                                  exact V.cgi (by rw [← ev57, if_neg h58]) tlv57
                                · refine V.iconst (v := 1) dL_act_161 rfl ?_
                                  refine V.goto (tgt := 166) dL_act_162 (by decide) ?_
                                  exact V.cgi (by rw [← ev57, if_pos h58]) tlv57
                              · obtain ⟨hz, hf⟩ := fz_e hf
                                obtain rfl := Option.some.inj hf
                                exact V.zret (v := v57) dL_act_166 rfl hz (Nat.le_of_ble_eq_true rfl) (Nat.le_of_ble_eq_true rfl) rfl
                            · rw [hv55b] at hc hf
                              dsimp only [fth] at hf
                              cases hf
                        · rw [hv53b] at hc hf
                          dsimp only [fth] at hf
                          cases hf
                    · rw [hv51b] at hc hf
                      dsimp only [fth] at hf
                      cases hf
                  · rw [hv49b] at hc hf
                    dsimp only [fth] at hf
                    cases hf
                · rw [hv47b] at hc hf
                  dsimp only [fth] at hf
                  cases hf
            · have hf := fif_t h hf
              refine V.aload_n (i := 0) dL_act_88 rfl rfl ?_
              refine V.iload (i := 4) dL_act_89 rfl ?_
              refine V.iload (i := 6) dL_act_91 rfl ?_
              obtain ⟨v59, hv59, hf⟩ := fbind hf
              refine V.callSn (pl := [0, 1, 2, 3, 4, 5, 6, 7, 8, 9, 10]) (σ' := [.inl (5, [.ref 1, .ref 3, .ref 6, .ref 8, .ref 9]), .inl (3, [.ref 2]), .inr (910, .inl v59.2.1), .inl (1, [.ref 4, .ref 5, .int v59.2.2.1, .int v59.2.2.2.1, .int v59.2.2.2.2.1]), .inr (5460, .inl v59.2.2.2.2.2.1), .inr (910, .inl v59.2.2.2.2.2.2), .inl (0, [.ref 7, .int Buffer_size]), .inr (60, .inl Buffer_codes), .inl (2, [.ref (Reader_pattern + 1000), .int Reader_place]), .inl (4, [.ref 10, .int Word_size]), .inr (8, .inl Word_letters)]) (st2 := [.int v59.1]) (cl2 := 0) (sl2 := 0) (ct_L_bears (a1 := v5) (a2 := v9) (State_cells := State_cells) (History_oldest := History_oldest) (History_size := History_size) (History_snapshotTaken := History_snapshotTaken) (History_saved := History_saved) (History_snapshot := History_snapshot) (Buffer_size := Buffer_size) (Buffer_codes := Buffer_codes) (Reader_pattern := Reader_pattern) (Reader_place := Reader_place) (Word_size := Word_size) (Word_letters := Word_letters) hv59) dL_act_93 w618 w619 cal_L_bears ⟨⟨Nat.le_of_ble_eq_true rfl, Nat.le_of_ble_eq_true rfl⟩, Nat.le_of_ble_eq_true rfl, Nat.le_of_ble_eq_true rfl⟩ (Nat.le_of_ble_eq_true rfl) rfl ⟨rfl, ⟨by decide, by decide⟩, rfl, (fr_cons (Or.inl (Nat.le_of_ble_eq_true rfl)) (fr_cons (Or.inl (Nat.le_of_ble_eq_true rfl)) (fr_cons (Or.inl (Nat.le_of_ble_eq_true rfl)) (fr_cons (Or.inl (Nat.le_of_ble_eq_true rfl)) (fr_cons (Or.inl (Nat.le_of_ble_eq_true rfl)) (fr_cons (Or.inl (Nat.le_of_ble_eq_true rfl)) (fr_cons (Or.inl (Nat.le_of_ble_eq_true rfl)) (fr_cons (Or.inl (Nat.le_of_ble_eq_true rfl)) (fr_cons (Or.inl (Nat.le_of_ble_eq_true rfl)) (fr_cons (Or.inr (Nat.le_add_left 1000 _)) (fr_cons (Or.inl (Nat.le_of_ble_eq_true rfl)) (fr_nil)))))))))))), rfl⟩ fr_i rfl rfl rfl rfl ?_
              obtain ⟨hz, hf⟩ := fz_e hf
              obtain rfl := Option.some.inj hf
              exact V.zret (v := v59.1) dL_act_96 rfl hz (Nat.le_of_ble_eq_true rfl) (Nat.le_of_ble_eq_true rfl) rfl
          · have hf := fif_f h hf
            refine V.aload_n (i := 0) dL_act_75 rfl rfl ?_
            refine V.iload (i := 4) dL_act_76 rfl ?_
            obtain ⟨v60, hv60, hf⟩ := fbind hf
            refine V.callSn (pl := [0, 1, 2, 3, 4, 5, 6, 7, 8, 9, 10]) (σ' := [.inl (5, [.ref 1, .ref 3, .ref 6, .ref 8, .ref 9]), .inl (3, [.ref 2]), .inr (910, .inl v60.2.1), .inl (1, [.ref 4, .ref 5, .int v60.2.2.1, .int v60.2.2.2.1, .int History_snapshotTaken]), .inr (5460, .inl v60.2.2.2.2), .inr (910, .inl History_snapshot), .inl (0, [.ref 7, .int Buffer_size]), .inr (60, .inl Buffer_codes), .inl (2, [.ref (Reader_pattern + 1000), .int Reader_place]), .inl (4, [.ref 10, .int Word_size]), .inr (8, .inl Word_letters)]) (st2 := [.int v60.1]) (cl2 := 0) (sl2 := 0) (ct_L_storms (a1 := v5) (State_cells := State_cells) (History_oldest := History_oldest) (History_size := History_size) (History_snapshotTaken := History_snapshotTaken) (History_saved := History_saved) (History_snapshot := History_snapshot) (Buffer_size := Buffer_size) (Buffer_codes := Buffer_codes) (Reader_pattern := Reader_pattern) (Reader_place := Reader_place) (Word_size := Word_size) (Word_letters := Word_letters) hv60) dL_act_78 w587 w588 cal_L_storms ⟨⟨Nat.le_of_ble_eq_true rfl, Nat.le_of_ble_eq_true rfl⟩, Nat.le_of_ble_eq_true rfl, Nat.le_of_ble_eq_true rfl⟩ (Nat.le_of_ble_eq_true rfl) rfl ⟨rfl, ⟨by decide, by decide⟩, rfl, (fr_cons (Or.inl (Nat.le_of_ble_eq_true rfl)) (fr_cons (Or.inl (Nat.le_of_ble_eq_true rfl)) (fr_cons (Or.inl (Nat.le_of_ble_eq_true rfl)) (fr_cons (Or.inl (Nat.le_of_ble_eq_true rfl)) (fr_cons (Or.inl (Nat.le_of_ble_eq_true rfl)) (fr_cons (Or.inl (Nat.le_of_ble_eq_true rfl)) (fr_cons (Or.inl (Nat.le_of_ble_eq_true rfl)) (fr_cons (Or.inl (Nat.le_of_ble_eq_true rfl)) (fr_cons (Or.inl (Nat.le_of_ble_eq_true rfl)) (fr_cons (Or.inr (Nat.le_add_left 1000 _)) (fr_cons (Or.inl (Nat.le_of_ble_eq_true rfl)) (fr_nil)))))))))))), rfl⟩ fr_i rfl rfl rfl rfl ?_
            obtain ⟨hz, hf⟩ := fz_e hf
            obtain rfl := Option.some.inj hf
            exact V.zret (v := v60.1) dL_act_81 rfl hz (Nat.le_of_ble_eq_true rfl) (Nat.le_of_ble_eq_true rfl) rfl
        · have hf := fif_t h hf
          refine V.aload_n (i := 0) dL_act_49 rfl rfl ?_
          refine V.iload (i := 4) dL_act_50 rfl ?_
          refine V.iload_n (i := 2) dL_act_52 rfl rfl ?_
          refine V.iconst (v := 2) dL_act_53 rfl ?_
          refine V.ishr dL_act_54 ?_
          obtain ⟨v61, hv61, hf⟩ := fbind hf
          refine V.callSn (pl := [0, 1, 2, 3, 4, 5, 6, 7, 8, 9, 10]) (σ' := [.inl (5, [.ref 1, .ref 3, .ref 6, .ref 8, .ref 9]), .inl (3, [.ref 2]), .inr (910, .inl v61.2.1), .inl (1, [.ref 4, .ref 5, .int v61.2.2.1, .int v61.2.2.2.1, .int History_snapshotTaken]), .inr (5460, .inl v61.2.2.2.2.1), .inr (910, .inl History_snapshot), .inl (0, [.ref 7, .int v61.2.2.2.2.2.1]), .inr (60, .inl v61.2.2.2.2.2.2.1), .inl (2, [.ref (Reader_pattern + 1000), .int Reader_place]), .inl (4, [.ref 10, .int v61.2.2.2.2.2.2.2.1]), .inr (8, .inl v61.2.2.2.2.2.2.2.2)]) (st2 := [.int v61.1]) (cl2 := 2) (sl2 := 14) (ct_L_ties (a1 := v5) (a2 := (a2 >>> (2 &&& 31))) (State_cells := State_cells) (History_oldest := History_oldest) (History_size := History_size) (History_snapshotTaken := History_snapshotTaken) (History_saved := History_saved) (History_snapshot := History_snapshot) (Buffer_size := Buffer_size) (Buffer_codes := Buffer_codes) (Reader_pattern := Reader_pattern) (Reader_place := Reader_place) (Word_size := Word_size) (Word_letters := Word_letters) hv61) dL_act_55 w464 w465 cal_L_ties ⟨⟨Nat.le_of_ble_eq_true rfl, Nat.le_of_ble_eq_true rfl⟩, Nat.le_of_ble_eq_true rfl, Nat.le_of_ble_eq_true rfl⟩ (Nat.le_of_ble_eq_true rfl) rfl ⟨rfl, ⟨by decide, by decide⟩, rfl, (fr_cons (Or.inl (Nat.le_of_ble_eq_true rfl)) (fr_cons (Or.inl (Nat.le_of_ble_eq_true rfl)) (fr_cons (Or.inl (Nat.le_of_ble_eq_true rfl)) (fr_cons (Or.inl (Nat.le_of_ble_eq_true rfl)) (fr_cons (Or.inl (Nat.le_of_ble_eq_true rfl)) (fr_cons (Or.inl (Nat.le_of_ble_eq_true rfl)) (fr_cons (Or.inl (Nat.le_of_ble_eq_true rfl)) (fr_cons (Or.inl (Nat.le_of_ble_eq_true rfl)) (fr_cons (Or.inl (Nat.le_of_ble_eq_true rfl)) (fr_cons (Or.inr (Nat.le_add_left 1000 _)) (fr_cons (Or.inl (Nat.le_of_ble_eq_true rfl)) (fr_nil)))))))))))), rfl⟩ fr_i rfl rfl rfl rfl ?_
          obtain ⟨hz, hf⟩ := fz_e hf
          obtain rfl := Option.some.inj hf
          exact V.zret (v := v61.1) dL_act_58 rfl hz (Nat.le_of_ble_eq_true rfl) (Nat.le_of_ble_eq_true rfl) rfl
    · rw [hv6b] at hc hf
      dsimp only [fth] at hf
      cases hf
