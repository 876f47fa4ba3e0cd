/-! laid by program: shallow functions and contracts -/
def k_X7_copyTo : fK := (yX7_copyTo, cX7_copyTo, 3, none, [], (1, 40), (0, 0), (0, 0))
theorem cal_X7_copyTo : fCal k_X7_copyTo 2 := ⟨⟨wc558, w7⟩, ⟨by decide +kernel, by decide +kernel⟩, by decide +kernel, by decide +kernel⟩
def s_X7_copyTo (n1 : Nat) (a2 : Int32) (State_cells : Nat → Int32) (row1 : Nat → Int32) : Option ((Nat → Int32)) := if (a2 < 0 : Prop) then (some row1) else (if (((Int32.ofNat n1) - 910) < a2 : Prop) then (some row1) else (fcp 910 State_cells n1 row1 0 a2 910 fun s1 => some s1))
set_option maxHeartbeats 4000000 in
set_option maxRecDepth 100000 in
theorem ct_X7_copyTo {n1 : Nat} {a2 : Int32} {State_cells : Nat → Int32} {row1 : Nat → Int32} {res : (Nat → Int32)} (hf : s_X7_copyTo n1 a2 State_cells row1 = some res) : Ct k_X7_copyTo [.ref 0, .ref 2, .int a2] [.inl (3, [.ref 1]), .inr (910, .inl State_cells), .inr (n1, .inl row1)] (.inl none) [.inl (3, [.ref 1]), .inr (910, .inl State_cells), .inr (n1, .inl res)] := by
  unfold s_X7_copyTo at hf
  refine Ct.of (L := [some (.ref 0), some (.ref 2), some (.int a2)]) cal_X7_copyTo (fent_pad (j := 0) rfl) (Nat.le_of_ble_eq_true rfl) ?_
  refine V.iload_n (i := 2) dX7_copyTo_0 rfl rfl ?_
  refine V.if_lt (tgt := 27) dX7_copyTo_1 (by decide) (fun h => ?_) (fun h => ?_)
  · have hf := fif_t h hf
    obtain rfl := Option.some.inj hf
    exact V.vret dX7_copyTo_27 rfl (Nat.le_of_ble_eq_true rfl) (Nat.le_of_ble_eq_true rfl) rfl
  · have hf := fif_f h hf
    refine V.iload_n (i := 2) dX7_copyTo_4 rfl rfl ?_
    refine V.aload_n (i := 1) dX7_copyTo_5 rfl rfl ?_
    refine V.alen (v := (Int32.ofNat n1)) dX7_copyTo_6 rfl rfl ?_
    refine V.sipush (v := 910) dX7_copyTo_7 rfl ?_
    refine V.isub dX7_copyTo_10 ?_
    refine V.icmp_gt (tgt := 27) dX7_copyTo_11 (by decide) (fun h => ?_) (fun h => ?_)
    · have hf := fif_t h hf
      obtain rfl := Option.some.inj hf
      exact V.vret dX7_copyTo_27 rfl (Nat.le_of_ble_eq_true rfl) (Nat.le_of_ble_eq_true rfl) rfl
    · have hf := fif_f h hf
      refine V.aload_n (i := 0) dX7_copyTo_14 rfl rfl ?_
      refine V.getfield (kf := 0) (v := .ref 1) fl_RX7 dX7_copyTo_15 w44 (Nat.le_of_ble_eq_true rfl) rfl rfl ?_
      refine V.iconst (v := 0) dX7_copyTo_18 rfl ?_
      refine V.aload_n (i := 1) dX7_copyTo_19 rfl rfl ?_
      refine V.iload_n (i := 2) dX7_copyTo_20 rfl rfl ?_
      refine V.sipush (v := 910) dX7_copyTo_21 rfl ?_
      obtain ⟨g1, g2, g3, g4, g5, s1, es1, hf⟩ := fcp_e hf
      refine V.copy (σ' := [.inl (3, [.ref 1]), .inr (910, .inl State_cells), .inr (n1, .inl s1)]) dX7_copyTo_24 w559 w561 w560 w22 rfl rfl g1 g2 g3 g4 g5 (Nat.le_of_ble_eq_true rfl) (Nat.le_of_ble_eq_true rfl) (by rw [es1]; rfl) ?_
      obtain rfl := Option.some.inj hf
      exact V.vret dX7_copyTo_27 rfl (Nat.le_of_ble_eq_true rfl) (Nat.le_of_ble_eq_true rfl) rfl
def k_X7_copyFrom : fK := (yX7_copyFrom, cX7_copyFrom, 3, none, [], (1, 40), (0, 0), (0, 0))
theorem cal_X7_copyFrom : fCal k_X7_copyFrom 2 := ⟨⟨wc646, w7⟩, ⟨by decide +kernel, by decide +kernel⟩, by decide +kernel, by decide +kernel⟩
def s_X7_copyFrom (n1 : Nat) (a2 : Int32) (State_cells : Nat → Int32) (row1 : Nat → Int32) : Option ((Nat → Int32)) := if (a2 < 0 : Prop) then (some State_cells) else (if (((Int32.ofNat n1) - 910) < a2 : Prop) then (some State_cells) else (fcp n1 row1 910 State_cells a2 0 910 fun s1 => some s1))
set_option maxHeartbeats 4000000 in
set_option maxRecDepth 100000 in
theorem ct_X7_copyFrom {n1 : Nat} {a2 : Int32} {State_cells : Nat → Int32} {row1 : Nat → Int32} {res : (Nat → Int32)} (hf : s_X7_copyFrom n1 a2 State_cells row1 = some res) : Ct k_X7_copyFrom [.ref 0, .ref 2, .int a2] [.inl (3, [.ref 1]), .inr (910, .inl State_cells), .inr (n1, .inl row1)] (.inl none) [.inl (3, [.ref 1]), .inr (910, .inl res), .inr (n1, .inl row1)] := by
  unfold s_X7_copyFrom at hf
  refine Ct.of (L := [some (.ref 0), some (.ref 2), some (.int a2)]) cal_X7_copyFrom (fent_pad (j := 0) rfl) (Nat.le_of_ble_eq_true rfl) ?_
  refine V.iload_n (i := 2) dX7_copyFrom_0 rfl rfl ?_
  refine V.if_lt (tgt := 27) dX7_copyFrom_1 (by decide) (fun h => ?_) (fun h => ?_)
  · have hf := fif_t h hf
    obtain rfl := Option.some.inj hf
    exact V.vret dX7_copyFrom_27 rfl (Nat.le_of_ble_eq_true rfl) (Nat.le_of_ble_eq_true rfl) rfl
  · have hf := fif_f h hf
    refine V.iload_n (i := 2) dX7_copyFrom_4 rfl rfl ?_
    refine V.aload_n (i := 1) dX7_copyFrom_5 rfl rfl ?_
    refine V.alen (v := (Int32.ofNat n1)) dX7_copyFrom_6 rfl rfl ?_
    refine V.sipush (v := 910) dX7_copyFrom_7 rfl ?_
    refine V.isub dX7_copyFrom_10 ?_
    refine V.icmp_gt (tgt := 27) dX7_copyFrom_11 (by decide) (fun h => ?_) (fun h => ?_)
    · have hf := fif_t h hf
      obtain rfl := Option.some.inj hf
      exact V.vret dX7_copyFrom_27 rfl (Nat.le_of_ble_eq_true rfl) (Nat.le_of_ble_eq_true rfl) rfl
    · have hf := fif_f h hf
      refine V.aload_n (i := 1) dX7_copyFrom_14 rfl rfl ?_
      refine V.iload_n (i := 2) dX7_copyFrom_15 rfl rfl ?_
      refine V.aload_n (i := 0) dX7_copyFrom_16 rfl rfl ?_
      refine V.getfield (kf := 0) (v := .ref 1) fl_RX7 dX7_copyFrom_17 w44 (Nat.le_of_ble_eq_true rfl) rfl rfl ?_
      refine V.iconst (v := 0) dX7_copyFrom_20 rfl ?_
      refine V.sipush (v := 910) dX7_copyFrom_21 rfl ?_
      obtain ⟨g1, g2, g3, g4, g5, s1, es1, hf⟩ := fcp_e hf
      refine V.copy (σ' := [.inl (3, [.ref 1]), .inr (910, .inl s1), .inr (n1, .inl row1)]) dX7_copyFrom_24 w559 w561 w560 w22 rfl rfl g1 g2 g3 g4 g5 (Nat.le_of_ble_eq_true rfl) (Nat.le_of_ble_eq_true rfl) (by rw [es1]; rfl) ?_
      obtain rfl := Option.some.inj hf
      exact V.vret dX7_copyFrom_27 rfl (Nat.le_of_ble_eq_true rfl) (Nat.le_of_ble_eq_true rfl) rfl
def k_X7_fisherCell : fK := (yX7_fisherCell, cX7_fisherCell, 2, (some .int), [], (0, 0), (0, 0), (0, 0))
theorem cal_X7_fisherCell : fCal k_X7_fisherCell 2 := ⟨⟨wc43, w7⟩, ⟨by decide +kernel, by decide +kernel⟩, by decide +kernel, by decide +kernel⟩
def s_X7_fisherCell (a0 : Int32) (a1 : Int32) : Option (Int32) := some ((8 + (a0 * 154)) + a1)
set_option maxHeartbeats 4000000 in
set_option maxRecDepth 100000 in
theorem ct_X7_fisherCell {a0 : Int32} {a1 : Int32} {res : Int32} (hf : s_X7_fisherCell a0 a1 = some res) : Ct k_X7_fisherCell [.int a0, .int a1] [] (.inl (some (.int res))) [] := by
  unfold s_X7_fisherCell at hf
  refine Ct.of (L := [some (.int a0), some (.int a1)]) cal_X7_fisherCell (fent_pad (j := 0) rfl) (Nat.le_of_ble_eq_true rfl) ?_
  refine V.bipush (v := 8) dX7_fisherCell_0 rfl ?_
  refine V.iload_n (i := 0) dX7_fisherCell_2 rfl rfl ?_
  refine V.sipush (v := 154) dX7_fisherCell_3 rfl ?_
  refine V.imul dX7_fisherCell_6 ?_
  refine V.iadd dX7_fisherCell_7 ?_
  refine V.iload_n (i := 1) dX7_fisherCell_8 rfl rfl ?_
  refine V.iadd dX7_fisherCell_9 ?_
  obtain rfl := Option.some.inj hf
  exact V.iret dX7_fisherCell_10 rfl (Nat.le_of_ble_eq_true rfl) (Nat.le_of_ble_eq_true rfl) rfl
def k_X7_at : fK := (yX7_at, cX7_at, 2, (some .int), [], (0, 0), (0, 0), (0, 0))
theorem cal_X7_at : fCal k_X7_at 1 := ⟨⟨wc145, w7⟩, ⟨by decide +kernel, by decide +kernel⟩, by decide +kernel, by decide +kernel⟩
def s_X7_at (a1 : Int32) (State_cells : Nat → Int32) : Option (Int32) := if (a1 < 0 : Prop) then (some 0) else (if (910 ≤ a1 : Prop) then (some 0) else (fld 910 State_cells a1 fun v1 => some v1))
set_option maxHeartbeats 4000000 in
set_option maxRecDepth 100000 in
theorem ct_X7_at {a1 : Int32} {State_cells : Nat → Int32} {res : Int32} (hf : s_X7_at a1 State_cells = some res) : Ct k_X7_at [.ref 0, .int a1] [.inl (3, [.ref 1]), .inr (910, .inl State_cells)] (.inl (some (.int res))) [.inl (3, [.ref 1]), .inr (910, .inl State_cells)] := by
  unfold s_X7_at at hf
  refine Ct.of (L := [some (.ref 0), some (.int a1)]) cal_X7_at (fent_pad (j := 0) rfl) (Nat.le_of_ble_eq_true rfl) ?_
  refine V.iload_n (i := 1) dX7_at_0 rfl rfl ?_
  refine V.if_lt (tgt := 22) dX7_at_1 (by decide) (fun h => ?_) (fun h => ?_)
  · have hf := fif_t h hf
    refine V.iconst (v := 0) dX7_at_22 rfl ?_
    obtain rfl := Option.some.inj hf
    exact V.iret dX7_at_23 rfl (Nat.le_of_ble_eq_true rfl) (Nat.le_of_ble_eq_true rfl) rfl
  · have hf := fif_f h hf
    refine V.iload_n (i := 1) dX7_at_4 rfl rfl ?_
    refine V.aload_n (i := 0) dX7_at_5 rfl rfl ?_
    refine V.getfield (kf := 0) (v := .ref 1) fl_RX7 dX7_at_6 w44 (Nat.le_of_ble_eq_true rfl) rfl rfl ?_
    refine V.alen (v := 910) dX7_at_9 rfl rfl ?_
    refine V.icmp_ge (tgt := 22) dX7_at_10 (by decide) (fun h => ?_) (fun h => ?_)
    · have hf := fif_t h hf
      refine V.iconst (v := 0) dX7_at_22 rfl ?_
      obtain rfl := Option.some.inj hf
      exact V.iret dX7_at_23 rfl (Nat.le_of_ble_eq_true rfl) (Nat.le_of_ble_eq_true rfl) rfl
    · have hf := fif_f h hf
      refine V.aload_n (i := 0) dX7_at_13 rfl rfl ?_
      refine V.getfield (kf := 0) (v := .ref 1) fl_RX7 dX7_at_14 w44 (Nat.le_of_ble_eq_true rfl) rfl rfl ?_
      refine V.iload_n (i := 1) dX7_at_17 rfl rfl ?_
      obtain ⟨hi, v1, ev1, hf⟩ := fld_e hf
      refine V.fld dX7_at_18 rfl hi ev1 ?_
      refine V.goto (tgt := 23) dX7_at_19 (by decide) ?_
      obtain rfl := Option.some.inj hf
      exact V.iret dX7_at_23 rfl (Nat.le_of_ble_eq_true rfl) (Nat.le_of_ble_eq_true rfl) rfl
def k_X7_names : fK := (yX7_names, cX7_names, 2, (some .int), [], (1, 21), (0, 0), (0, 0))
theorem cal_X7_names : fCal k_X7_names 1 := ⟨⟨wc141, w7⟩, ⟨by decide +kernel, by decide +kernel⟩, by decide +kernel, by decide +kernel⟩
def s_X7_names (a1 : Int32) (State_cells : Nat → Int32) : Option (Int32) := (s_X7_fisherCell a1 1).bind fun v1 => (s_X7_at v1 State_cells).bind fun v2 => some v2
set_option maxHeartbeats 4000000 in
set_option maxRecDepth 100000 in
theorem ct_X7_names {a1 : Int32} {State_cells : Nat → Int32} {res : Int32} (hf : s_X7_names a1 State_cells = some res) : Ct k_X7_names [.ref 0, .int a1] [.inl (3, [.ref 1]), .inr (910, .inl State_cells)] (.inl (some (.int res))) [.inl (3, [.ref 1]), .inr (910, .inl State_cells)] := by
  unfold s_X7_names at hf
  refine Ct.of (L := [some (.ref 0), some (.int a1)]) cal_X7_names (fent_pad (j := 0) rfl) (Nat.le_of_ble_eq_true rfl) ?_
  refine V.aload_n (i := 0) dX7_names_0 rfl rfl ?_
  refine V.iload_n (i := 1) dX7_names_1 rfl rfl ?_
  refine V.iconst (v := 1) dX7_names_2 rfl ?_
  obtain ⟨v1, hv1, hf⟩ := fbind hf
  refine V.callSn (pl := []) (σ' := [.inl (3, [.ref 1]), .inr (910, .inl State_cells)]) (st2 := [.int v1, .ref 0]) (cl2 := 0) (sl2 := 0) (ct_X7_fisherCell (a0 := a1) (a1 := 1) hv1) dX7_names_3 w41 w42 cal_X7_fisherCell ⟨⟨Nat.le_of_ble_eq_true rfl, Nat.le_of_ble_eq_true rfl⟩, Nat.le_of_ble_eq_true rfl, Nat.le_of_ble_eq_true rfl⟩ (Nat.le_of_ble_eq_true rfl) rfl ⟨rfl, ⟨by decide, by decide⟩, rfl, (fr_nil), rfl⟩ fr_i rfl rfl rfl rfl ?_
  obtain ⟨v2, hv2, hf⟩ := fbind hf
  refine V.callVn (pl := [0, 1]) (σ' := [.inl (3, [.ref 1]), .inr (910, .inl State_cells)]) (st2 := [.int v2]) (cl2 := 0) (sl2 := 0) (ct_X7_at (a1 := v1) (State_cells := State_cells) hv2) dX7_names_6 w142 ⟨w143, w144⟩ cal_X7_at rfl ⟨⟨Nat.le_of_ble_eq_true rfl, Nat.le_of_ble_eq_true rfl⟩, Nat.le_of_ble_eq_true rfl, Nat.le_of_ble_eq_true rfl⟩ (Nat.le_of_ble_eq_true rfl) ⟨_, _, _, _, rfl, rfl⟩ rfl ⟨rfl, ⟨by decide, by decide⟩, rfl, (fr_cons (Or.inl (Nat.le_of_ble_eq_true rfl)) (fr_nil)), rfl⟩ fr_i rfl rfl rfl rfl ?_
  obtain rfl := Option.some.inj hf
  exact V.iret dX7_names_9 rfl (Nat.le_of_ble_eq_true rfl) (Nat.le_of_ble_eq_true rfl) rfl
def k_X7_nameCell : fK := (yX7_nameCell, cX7_nameCell, 2, (some .int), [], (0, 0), (0, 0), (0, 0))
theorem cal_X7_nameCell : fCal k_X7_nameCell 2 := ⟨⟨wc155, w7⟩, ⟨by decide +kernel, by decide +kernel⟩, by decide +kernel, by decide +kernel⟩
def s_X7_nameCell (a0 : Int32) (a1 : Int32) : Option (Int32) := some (((8 + (a0 * 154)) + 4) + (a1 * 25))
set_option maxHeartbeats 4000000 in
set_option maxRecDepth 100000 in
theorem ct_X7_nameCell {a0 : Int32} {a1 : Int32} {res : Int32} (hf : s_X7_nameCell a0 a1 = some res) : Ct k_X7_nameCell [.int a0, .int a1] [] (.inl (some (.int res))) [] := by
  unfold s_X7_nameCell at hf
  refine Ct.of (L := [some (.int a0), some (.int a1)]) cal_X7_nameCell (fent_pad (j := 0) rfl) (Nat.le_of_ble_eq_true rfl) ?_
  refine V.bipush (v := 8) dX7_nameCell_0 rfl ?_
  refine V.iload_n (i := 0) dX7_nameCell_2 rfl rfl ?_
  refine V.sipush (v := 154) dX7_nameCell_3 rfl ?_
  refine V.imul dX7_nameCell_6 ?_
  refine V.iadd dX7_nameCell_7 ?_
  refine V.iconst (v := 4) dX7_nameCell_8 rfl ?_
  refine V.iadd dX7_nameCell_9 ?_
  refine V.iload_n (i := 1) dX7_nameCell_10 rfl rfl ?_
  refine V.bipush (v := 25) dX7_nameCell_11 rfl ?_
  refine V.imul dX7_nameCell_13 ?_
  refine V.iadd dX7_nameCell_14 ?_
  obtain rfl := Option.some.inj hf
  exact V.iret dX7_nameCell_15 rfl (Nat.le_of_ble_eq_true rfl) (Nat.le_of_ble_eq_true rfl) rfl
def k_X7_knotCell : fK := (yX7_knotCell, cX7_knotCell, 4, (some .int), [], (0, 0), (0, 0), (0, 0))
theorem cal_X7_knotCell : fCal k_X7_knotCell 3 := ⟨⟨wc158, w7⟩, ⟨by decide +kernel, by decide +kernel⟩, by decide +kernel, by decide +kernel⟩
def s_X7_knotCell (a0 : Int32) (a1 : Int32) (a2 : Int32) : Option (Int32) := some (((((8 + (a0 * 154)) + 4) + (a1 * 25)) + 1) + (a2 * 3))
set_option maxHeartbeats 4000000 in
set_option maxRecDepth 100000 in
theorem ct_X7_knotCell {a0 : Int32} {a1 : Int32} {a2 : Int32} {res : Int32} (hf : s_X7_knotCell a0 a1 a2 = some res) : Ct k_X7_knotCell [.int a0, .int a1, .int a2] [] (.inl (some (.int res))) [] := by
  unfold s_X7_knotCell at hf
  refine Ct.of (L := [some (.int a0), some (.int a1), some (.int a2), none]) cal_X7_knotCell (fent_pad (j := 1) rfl) (Nat.le_of_ble_eq_true rfl) ?_
  refine V.bipush (v := 8) dX7_knotCell_0 rfl ?_
  refine V.iload_n (i := 0) dX7_knotCell_2 rfl rfl ?_
  refine V.sipush (v := 154) dX7_knotCell_3 rfl ?_
  refine V.imul dX7_knotCell_6 ?_
  refine V.iadd dX7_knotCell_7 ?_
  refine V.istore_n (i := 3) (L' := [some (.int a0), some (.int a1), some (.int a2), some (.int (8 + (a0 * 154)))]) dX7_knotCell_8 rfl (Nat.le_of_ble_eq_true rfl) rfl rfl ?_
  refine V.iload_n (i := 3) dX7_knotCell_9 rfl rfl ?_
  refine V.iconst (v := 4) dX7_knotCell_10 rfl ?_
  refine V.iadd dX7_knotCell_11 ?_
  refine V.iload_n (i := 1) dX7_knotCell_12 rfl rfl ?_
  refine V.bipush (v := 25) dX7_knotCell_13 rfl ?_
  refine V.imul dX7_knotCell_15 ?_
  refine V.iadd dX7_knotCell_16 ?_
  refine V.iconst (v := 1) dX7_knotCell_17 rfl ?_
  refine V.iadd dX7_knotCell_18 ?_
  refine V.iload_n (i := 2) dX7_knotCell_19 rfl rfl ?_
  refine V.iconst (v := 3) dX7_knotCell_20 rfl ?_
  refine V.imul dX7_knotCell_21 ?_
  refine V.iadd dX7_knotCell_22 ?_
  obtain rfl := Option.some.inj hf
  exact V.iret dX7_knotCell_23 rfl (Nat.le_of_ble_eq_true rfl) (Nat.le_of_ble_eq_true rfl) rfl
def k_X7_cordOf : fK := (yX7_cordOf, cX7_cordOf, 7, (some .int), [], (1, 23), (0, 0), (0, 0))
theorem cal_X7_cordOf : fCal k_X7_cordOf 2 := ⟨⟨wc279, w7⟩, ⟨by decide +kernel, by decide +kernel⟩, by decide +kernel, by decide +kernel⟩
def s_X7_cordOf_L18 (p1 : Int32) (p2 : Int32) (p4 : Int32) (State_cells : Nat → Int32) : Nat → Int32 → Int32 → Option (Int32 × Int32)
  | 0, _, _ => none
  | n + 1, x3, x5 => if (p4 ≤ x5 : Prop) then (some (x3, x5)) else ((s_X7_knotCell p1 p2 x5).bind fun v3 => (s_X7_at (v3 + 0) State_cells).bind fun v4 => (s_X0_cordOfKnot v4).bind fun v5 => s_X7_cordOf_L18 p1 p2 p4 State_cells n (x3 + (v5 + 1)) (x5 + 1))
set_option maxHeartbeats 4000000 in
set_option maxRecDepth 100000 in
theorem v_X7_cordOf_L18 {out : fO} {σ' : List fE} {p1 : Int32} {p2 : Int32} {p4 : Int32} {State_cells : Nat → Int32} : ∀ (n : Nat) {x3 : Int32} {x5 : Int32} {res : Int32 × Int32} (hf : s_X7_cordOf_L18 p1 p2 p4 State_cells n x3 x5 = some res) (hx : V (fXm 2 k_X7_cordOf out σ') (krm k_X7_cordOf) k_X7_cordOf 2 56 [some (.ref 0), some (.int p1), some (.int p2), some (.int res.1), some (.int p4), some (.int res.2), none] [] [.inl (3, [.ref 1]), .inr (910, .inl State_cells)] 0 0), V (fXm 2 k_X7_cordOf out σ') (krm k_X7_cordOf) k_X7_cordOf 2 18 [some (.ref 0), some (.int p1), some (.int p2), some (.int x3), some (.int p4), some (.int x5), none] [] [.inl (3, [.ref 1]), .inr (910, .inl State_cells)] 0 0 := by
  intro n
  induction n with
  | zero =>
    intro x3 x5 res hf hx
    rw [s_X7_cordOf_L18] at hf
    cases hf
  | succ n ih =>
    intro x3 x5 res hf hx
    rw [s_X7_cordOf_L18] at hf
    refine V.iload (i := 5) dX7_cordOf_18 rfl ?_
    refine V.iload (i := 4) dX7_cordOf_20 rfl ?_
    refine V.icmp_ge (tgt := 56) dX7_cordOf_22 (by decide) (fun h => ?_) (fun h => ?_)
    · have hf := fif_t h hf
      obtain rfl := Option.some.inj hf
      exact hx
    · have hf := fif_f h hf
      refine V.aload_n (i := 0) dX7_cordOf_25 rfl rfl ?_
      refine V.iload_n (i := 1) dX7_cordOf_26 rfl rfl ?_
      refine V.iload_n (i := 2) dX7_cordOf_27 rfl rfl ?_
      refine V.iload (i := 5) dX7_cordOf_28 rfl ?_
      obtain ⟨v3, hv3, hf⟩ := fbind hf
      refine V.callSn (pl := []) (σ' := [.inl (3, [.ref 1]), .inr (910, .inl State_cells)]) (st2 := [.int v3, .ref 0]) (cl2 := 0) (sl2 := 0) (ct_X7_knotCell (a0 := p1) (a1 := p2) (a2 := x5) hv3) dX7_cordOf_30 w280 w157 cal_X7_knotCell ⟨⟨Nat.le_of_ble_eq_true rfl, Nat.le_of_ble_eq_true rfl⟩, Nat.le_of_ble_eq_true rfl, Nat.le_of_ble_eq_true rfl⟩ (Nat.le_of_ble_eq_true rfl) rfl ⟨rfl, ⟨by decide, by decide⟩, rfl, (fr_nil), rfl⟩ fr_i rfl rfl rfl rfl ?_
      refine V.iconst (v := 0) dX7_cordOf_33 rfl ?_
      refine V.iadd dX7_cordOf_34 ?_
      obtain ⟨v4, hv4, hf⟩ := fbind hf
      refine V.callVn (pl := [0, 1]) (σ' := [.inl (3, [.ref 1]), .inr (910, .inl State_cells)]) (st2 := [.int v4]) (cl2 := 0) (sl2 := 0) (ct_X7_at (a1 := (v3 + 0)) (State_cells := State_cells) hv4) dX7_cordOf_35 w142 ⟨w143, w144⟩ cal_X7_at rfl ⟨⟨Nat.le_of_ble_eq_true rfl, Nat.le_of_ble_eq_true rfl⟩, Nat.le_of_ble_eq_true rfl, Nat.le_of_ble_eq_true rfl⟩ (Nat.le_of_ble_eq_true rfl) ⟨_, _, _, _, rfl, rfl⟩ rfl ⟨rfl, ⟨by decide, by decide⟩, rfl, (fr_cons (Or.inl (Nat.le_of_ble_eq_true rfl)) (fr_nil)), rfl⟩ fr_i rfl rfl rfl rfl ?_
      refine V.istore (i := 6) (L' := [some (.ref 0), some (.int p1), some (.int p2), some (.int x3), some (.int p4), some (.int x5), some (.int v4)]) dX7_cordOf_38 (Nat.le_of_ble_eq_true rfl) rfl rfl ?_
      refine V.iload_n (i := 3) dX7_cordOf_40 rfl rfl ?_
      refine V.iload (i := 6) dX7_cordOf_41 rfl ?_
      obtain ⟨v5, hv5, hf⟩ := fbind hf
      refine V.callSn (pl := []) (σ' := [.inl (3, [.ref 1]), .inr (910, .inl State_cells)]) (st2 := [.int v5, .int x3]) (cl2 := 0) (sl2 := 0) (ct_X0_cordOfKnot (a0 := v4) hv5) dX7_cordOf_43 w281 w282 cal_X0_cordOfKnot ⟨⟨Nat.le_of_ble_eq_true rfl, Nat.le_of_ble_eq_true rfl⟩, Nat.le_of_ble_eq_true rfl, Nat.le_of_ble_eq_true rfl⟩ (Nat.le_of_ble_eq_true rfl) rfl ⟨rfl, ⟨by decide, by decide⟩, rfl, (fr_nil), rfl⟩ fr_i rfl rfl rfl rfl ?_
      refine V.iconst (v := 1) dX7_cordOf_46 rfl ?_
      refine V.iadd dX7_cordOf_47 ?_
      refine V.iadd dX7_cordOf_48 ?_
      refine V.istore_n (i := 3) (L' := [some (.ref 0), some (.int p1), some (.int p2), some (.int (x3 + (v5 + 1))), some (.int p4), some (.int x5), some (.int v4)]) dX7_cordOf_49 rfl (Nat.le_of_ble_eq_true rfl) rfl rfl ?_
      refine V.iinc (i := 5) (v := (x5 + 1)) (L' := [some (.ref 0), some (.int p1), some (.int p2), some (.int (x3 + (v5 + 1))), some (.int p4), some (.int (x5 + 1)), some (.int v4)]) dX7_cordOf_50 rfl rfl (Nat.le_of_ble_eq_true rfl) rfl rfl ?_
      refine V.goto (tgt := 18) dX7_cordOf_53 (by decide) ?_
      exact V.locs (L' := [some (.ref 0), some (.int p1), some (.int p2), some (.int (x3 + (v5 + 1))), some (.int p4), some (.int (x5 + 1)), none]) ⟨rfl, ⟨rfl, ⟨rfl, ⟨rfl, ⟨rfl, ⟨rfl, trivial⟩⟩⟩⟩⟩⟩ (ih hf hx)
def s_X7_cordOf (a1 : Int32) (a2 : Int32) (State_cells : Nat → Int32) : Option (Int32) := (s_X7_nameCell a1 a2).bind fun v1 => (s_X7_at (v1 + 0) State_cells).bind fun v2 => (s_X7_cordOf_L18 a1 a2 v2 State_cells gF 2 0).bind fun r6 => some r6.1
set_option maxHeartbeats 4000000 in
set_option maxRecDepth 100000 in
theorem ct_X7_cordOf {a1 : Int32} {a2 : Int32} {State_cells : Nat → Int32} {res : Int32} (hf : s_X7_cordOf a1 a2 State_cells = some res) : Ct k_X7_cordOf [.ref 0, .int a1, .int a2] [.inl (3, [.ref 1]), .inr (910, .inl State_cells)] (.inl (some (.int res))) [.inl (3, [.ref 1]), .inr (910, .inl State_cells)] := by
  unfold s_X7_cordOf at hf
  refine Ct.of (L := [some (.ref 0), some (.int a1), some (.int a2), none, none, none, none]) cal_X7_cordOf (fent_pad (j := 4) rfl) (Nat.le_of_ble_eq_true rfl) ?_
  refine V.iconst (v := 2) dX7_cordOf_0 rfl ?_
  refine V.istore_n (i := 3) (L' := [some (.ref 0), some (.int a1), some (.int a2), some (.int 2), none, none, none]) dX7_cordOf_1 rfl (Nat.le_of_ble_eq_true rfl) rfl rfl ?_
  refine V.aload_n (i := 0) dX7_cordOf_2 rfl rfl ?_
  refine V.iload_n (i := 1) dX7_cordOf_3 rfl rfl ?_
  refine V.iload_n (i := 2) dX7_cordOf_4 rfl rfl ?_
  obtain ⟨v1, hv1, hf⟩ := fbind hf
  refine V.callSn (pl := []) (σ' := [.inl (3, [.ref 1]), .inr (910, .inl State_cells)]) (st2 := [.int v1, .ref 0]) (cl2 := 0) (sl2 := 0) (ct_X7_nameCell (a0 := a1) (a1 := a2) hv1) dX7_cordOf_5 w153 w154 cal_X7_nameCell ⟨⟨Nat.le_of_ble_eq_true rfl, Nat.le_of_ble_eq_true rfl⟩, Nat.le_of_ble_eq_true rfl, Nat.le_of_ble_eq_true rfl⟩ (Nat.le_of_ble_eq_true rfl) rfl ⟨rfl, ⟨by decide, by decide⟩, rfl, (fr_nil), rfl⟩ fr_i rfl rfl rfl rfl ?_
  refine V.iconst (v := 0) dX7_cordOf_8 rfl ?_
  refine V.iadd dX7_cordOf_9 ?_
  obtain ⟨v2, hv2, hf⟩ := fbind hf
  refine V.callVn (pl := [0, 1]) (σ' := [.inl (3, [.ref 1]), .inr (910, .inl State_cells)]) (st2 := [.int v2]) (cl2 := 0) (sl2 := 0) (ct_X7_at (a1 := (v1 + 0)) (State_cells := State_cells) hv2) dX7_cordOf_10 w142 ⟨w143, w144⟩ cal_X7_at rfl ⟨⟨Nat.le_of_ble_eq_true rfl, Nat.le_of_ble_eq_true rfl⟩, Nat.le_of_ble_eq_true rfl, Nat.le_of_ble_eq_true rfl⟩ (Nat.le_of_ble_eq_true rfl) ⟨_, _, _, _, rfl, rfl⟩ rfl ⟨rfl, ⟨by decide, by decide⟩, rfl, (fr_cons (Or.inl (Nat.le_of_ble_eq_true rfl)) (fr_nil)), rfl⟩ fr_i rfl rfl rfl rfl ?_
  refine V.istore (i := 4) (L' := [some (.ref 0), some (.int a1), some (.int a2), some (.int 2), some (.int v2), none, none]) dX7_cordOf_13 (Nat.le_of_ble_eq_true rfl) rfl rfl ?_
  refine V.iconst (v := 0) dX7_cordOf_15 rfl ?_
  refine V.istore (i := 5) (L' := [some (.ref 0), some (.int a1), some (.int a2), some (.int 2), some (.int v2), some (.int 0), none]) dX7_cordOf_16 (Nat.le_of_ble_eq_true rfl) rfl rfl ?_
  obtain ⟨r6, hr6, hf⟩ := fbind hf
  refine v_X7_cordOf_L18 gF hr6 ?_
  refine V.iload_n (i := 3) dX7_cordOf_56 rfl rfl ?_
  obtain rfl := Option.some.inj hf
  exact V.iret dX7_cordOf_57 rfl (Nat.le_of_ble_eq_true rfl) (Nat.le_of_ble_eq_true rfl) rfl
def k_X7_left : fK := (yX7_left, cX7_left, 5, (some .int), [], (2, 49), (0, 0), (0, 0))
theorem cal_X7_left : fCal k_X7_left 1 := ⟨⟨wc274, w7⟩, ⟨by decide +kernel, by decide +kernel⟩, by decide +kernel, by decide +kernel⟩
def s_X7_left_L19 (p1 : Int32) (p3 : Int32) (State_cells : Nat → Int32) : Nat → Int32 → Int32 → Option (Int32 × Int32)
  | 0, _, _ => none
  | n + 1, x2, x4 => if (p3 ≤ x4 : Prop) then (some (x2, x4)) else ((s_X7_cordOf p1 x4 State_cells).bind fun v4 => s_X7_left_L19 p1 p3 State_cells n (x2 - v4) (x4 + 1))
set_option maxHeartbeats 4000000 in
set_option maxRecDepth 100000 in
theorem v_X7_left_L19 {out : fO} {σ' : List fE} {p1 : Int32} {p3 : Int32} {State_cells : Nat → Int32} : ∀ (n : Nat) {x2 : Int32} {x4 : Int32} {res : Int32 × Int32} (hf : s_X7_left_L19 p1 p3 State_cells n x2 x4 = some res) (hx : V (fXm 2 k_X7_left out σ') (krm k_X7_left) k_X7_left 2 41 [some (.ref 0), some (.int p1), some (.int res.1), some (.int p3), some (.int res.2)] [] [.inl (3, [.ref 1]), .inr (910, .inl State_cells)] 0 0), V (fXm 2 k_X7_left out σ') (krm k_X7_left) k_X7_left 2 19 [some (.ref 0), some (.int p1), some (.int x2), some (.int p3), some (.int x4)] [] [.inl (3, [.ref 1]), .inr (910, .inl State_cells)] 0 0 := by
  intro n
  induction n with
  | zero =>
    intro x2 x4 res hf hx
    rw [s_X7_left_L19] at hf
    cases hf
  | succ n ih =>
    intro x2 x4 res hf hx
    rw [s_X7_left_L19] at hf
    refine V.iload (i := 4) dX7_left_19 rfl ?_
    refine V.iload_n (i := 3) dX7_left_21 rfl rfl ?_
    refine V.icmp_ge (tgt := 41) dX7_left_22 (by decide) (fun h => ?_) (fun h => ?_)
    · have hf := fif_t h hf
      obtain rfl := Option.some.inj hf
      exact hx
    · have hf := fif_f h hf
      refine V.iload_n (i := 2) dX7_left_25 rfl rfl ?_
      refine V.aload_n (i := 0) dX7_left_26 rfl rfl ?_
      refine V.iload_n (i := 1) dX7_left_27 rfl rfl ?_
      refine V.iload (i := 4) dX7_left_28 rfl ?_
      obtain ⟨v4, hv4, hf⟩ := fbind hf
      refine V.callVn (pl := [0, 1]) (σ' := [.inl (3, [.ref 1]), .inr (910, .inl State_cells)]) (st2 := [.int v4, .int x2]) (cl2 := 0) (sl2 := 0) (ct_X7_cordOf (a1 := p1) (a2 := x4) (State_cells := State_cells) hv4) dX7_left_30 w276 ⟨w277, w278⟩ cal_X7_cordOf rfl ⟨⟨Nat.le_of_ble_eq_true rfl, Nat.le_of_ble_eq_true rfl⟩, Nat.le_of_ble_eq_true rfl, Nat.le_of_ble_eq_true rfl⟩ (Nat.le_of_ble_eq_true rfl) ⟨_, _, _, _, rfl, rfl⟩ rfl ⟨rfl, ⟨by decide, by decide⟩, rfl, (fr_cons (Or.inl (Nat.le_of_ble_eq_true rfl)) (fr_nil)), rfl⟩ fr_i rfl rfl rfl rfl ?_
      refine V.isub dX7_left_33 ?_
      refine V.istore_n (i := 2) (L' := [some (.ref 0), some (.int p1), some (.int (x2 - v4)), some (.int p3), some (.int x4)]) dX7_left_34 rfl (Nat.le_of_ble_eq_true rfl) rfl rfl ?_
      refine V.iinc (i := 4) (v := (x4 + 1)) (L' := [some (.ref 0), some (.int p1), some (.int (x2 - v4)), some (.int p3), some (.int (x4 + 1))]) dX7_left_35 rfl rfl (Nat.le_of_ble_eq_true rfl) rfl rfl ?_
      refine V.goto (tgt := 19) dX7_left_38 (by decide) ?_
      exact ih hf hx
def s_X7_left (a1 : Int32) (State_cells : Nat → Int32) : Option (Int32) := (s_X7_fisherCell a1 0).bind fun v1 => (s_X7_at v1 State_cells).bind fun v2 => (s_X7_names a1 State_cells).bind fun v3 => (s_X7_left_L19 a1 v3 State_cells gF v2 0).bind fun r5 => some r5.1
set_option maxHeartbeats 4000000 in
set_option maxRecDepth 100000 in
theorem ct_X7_left {a1 : Int32} {State_cells : Nat → Int32} {res : Int32} (hf : s_X7_left a1 State_cells = some res) : Ct k_X7_left [.ref 0, .int a1] [.inl (3, [.ref 1]), .inr (910, .inl State_cells)] (.inl (some (.int res))) [.inl (3, [.ref 1]), .inr (910, .inl State_cells)] := by
  unfold s_X7_left at hf
  refine Ct.of (L := [some (.ref 0), some (.int a1), none, none, none]) cal_X7_left (fent_pad (j := 3) rfl) (Nat.le_of_ble_eq_true rfl) ?_
  refine V.aload_n (i := 0) dX7_left_0 rfl rfl ?_
  refine V.iload_n (i := 1) dX7_left_1 rfl rfl ?_
  refine V.iconst (v := 0) dX7_left_2 rfl ?_
  obtain ⟨v1, hv1, hf⟩ := fbind hf
  refine V.callSn (pl := []) (σ' := [.inl (3, [.ref 1]), .inr (910, .inl State_cells)]) (st2 := [.int v1, .ref 0]) (cl2 := 0) (sl2 := 0) (ct_X7_fisherCell (a0 := a1) (a1 := 0) hv1) dX7_left_3 w41 w42 cal_X7_fisherCell ⟨⟨Nat.le_of_ble_eq_true rfl, Nat.le_of_ble_eq_true rfl⟩, Nat.le_of_ble_eq_true rfl, Nat.le_of_ble_eq_true rfl⟩ (Nat.le_of_ble_eq_true rfl) rfl ⟨rfl, ⟨by decide, by decide⟩, rfl, (fr_nil), rfl⟩ fr_i rfl rfl rfl rfl ?_
  obtain ⟨v2, hv2, hf⟩ := fbind hf
  refine V.callVn (pl := [0, 1]) (σ' := [.inl (3, [.ref 1]), .inr (910, .inl State_cells)]) (st2 := [.int v2]) (cl2 := 0) (sl2 := 0) (ct_X7_at (a1 := v1) (State_cells := State_cells) hv2) dX7_left_6 w142 ⟨w143, w144⟩ cal_X7_at rfl ⟨⟨Nat.le_of_ble_eq_true rfl, Nat.le_of_ble_eq_true rfl⟩, Nat.le_of_ble_eq_true rfl, Nat.le_of_ble_eq_true rfl⟩ (Nat.le_of_ble_eq_true rfl) ⟨_, _, _, _, rfl, rfl⟩ rfl ⟨rfl, ⟨by decide, by decide⟩, rfl, (fr_cons (Or.inl (Nat.le_of_ble_eq_true rfl)) (fr_nil)), rfl⟩ fr_i rfl rfl rfl rfl ?_
  refine V.istore_n (i := 2) (L' := [some (.ref 0), some (.int a1), some (.int v2), none, none]) dX7_left_9 rfl (Nat.le_of_ble_eq_true rfl) rfl rfl ?_
  refine V.aload_n (i := 0) dX7_left_10 rfl rfl ?_
  refine V.iload_n (i := 1) dX7_left_11 rfl rfl ?_
  obtain ⟨v3, hv3, hf⟩ := fbind hf
  refine V.callVn (pl := [0, 1]) (σ' := [.inl (3, [.ref 1]), .inr (910, .inl State_cells)]) (st2 := [.int v3]) (cl2 := 0) (sl2 := 0) (ct_X7_names (a1 := a1) (State_cells := State_cells) hv3) dX7_left_12 w275 ⟨w139, w140⟩ cal_X7_names rfl ⟨⟨Nat.le_of_ble_eq_true rfl, Nat.le_of_ble_eq_true rfl⟩, Nat.le_of_ble_eq_true rfl, Nat.le_of_ble_eq_true rfl⟩ (Nat.le_of_ble_eq_true rfl) ⟨_, _, _, _, rfl, rfl⟩ rfl ⟨rfl, ⟨by decide, by decide⟩, rfl, (fr_cons (Or.inl (Nat.le_of_ble_eq_true rfl)) (fr_nil)), rfl⟩ fr_i rfl rfl rfl rfl ?_
  refine V.istore_n (i := 3) (L' := [some (.ref 0), some (.int a1), some (.int v2), some (.int v3), none]) dX7_left_15 rfl (Nat.le_of_ble_eq_true rfl) rfl rfl ?_
  refine V.iconst (v := 0) dX7_left_16 rfl ?_
  refine V.istore (i := 4) (L' := [some (.ref 0), some (.int a1), some (.int v2), some (.int v3), some (.int 0)]) dX7_left_17 (Nat.le_of_ble_eq_true rfl) rfl rfl ?_
  obtain ⟨r5, hr5, hf⟩ := fbind hf
  refine v_X7_left_L19 gF hr5 ?_
  refine V.iload_n (i := 2) dX7_left_41 rfl rfl ?_
  obtain rfl := Option.some.inj hf
  exact V.iret dX7_left_42 rfl (Nat.le_of_ble_eq_true rfl) (Nat.le_of_ble_eq_true rfl) rfl
def k_X7_knots : fK := (yX7_knots, cX7_knots, 3, (some .int), [], (1, 21), (0, 0), (0, 0))
theorem cal_X7_knots : fCal k_X7_knots 2 := ⟨⟨wc152, w7⟩, ⟨by decide +kernel, by decide +kernel⟩, by decide +kernel, by decide +kernel⟩
def s_X7_knots (a1 : Int32) (a2 : Int32) (State_cells : Nat → Int32) : Option (Int32) := (s_X7_nameCell a1 a2).bind fun v1 => (s_X7_at (v1 + 0) State_cells).bind fun v2 => some v2
set_option maxHeartbeats 4000000 in
set_option maxRecDepth 100000 in
theorem ct_X7_knots {a1 : Int32} {a2 : Int32} {State_cells : Nat → Int32} {res : Int32} (hf : s_X7_knots a1 a2 State_cells = some res) : Ct k_X7_knots [.ref 0, .int a1, .int a2] [.inl (3, [.ref 1]), .inr (910, .inl State_cells)] (.inl (some (.int res))) [.inl (3, [.ref 1]), .inr (910, .inl State_cells)] := by
  unfold s_X7_knots at hf
  refine Ct.of (L := [some (.ref 0), some (.int a1), some (.int a2)]) cal_X7_knots (fent_pad (j := 0) rfl) (Nat.le_of_ble_eq_true rfl) ?_
  refine V.aload_n (i := 0) dX7_knots_0 rfl rfl ?_
  refine V.iload_n (i := 1) dX7_knots_1 rfl rfl ?_
  refine V.iload_n (i := 2) dX7_knots_2 rfl rfl ?_
  obtain ⟨v1, hv1, hf⟩ := fbind hf
  refine V.callSn (pl := []) (σ' := [.inl (3, [.ref 1]), .inr (910, .inl State_cells)]) (st2 := [.int v1, .ref 0]) (cl2 := 0) (sl2 := 0) (ct_X7_nameCell (a0 := a1) (a1 := a2) hv1) dX7_knots_3 w153 w154 cal_X7_nameCell ⟨⟨Nat.le_of_ble_eq_true rfl, Nat.le_of_ble_eq_true rfl⟩, Nat.le_of_ble_eq_true rfl, Nat.le_of_ble_eq_true rfl⟩ (Nat.le_of_ble_eq_true rfl) rfl ⟨rfl, ⟨by decide, by decide⟩, rfl, (fr_nil), rfl⟩ fr_i rfl rfl rfl rfl ?_
  refine V.iconst (v := 0) dX7_knots_6 rfl ?_
  refine V.iadd dX7_knots_7 ?_
  obtain ⟨v2, hv2, hf⟩ := fbind hf
  refine V.callVn (pl := [0, 1]) (σ' := [.inl (3, [.ref 1]), .inr (910, .inl State_cells)]) (st2 := [.int v2]) (cl2 := 0) (sl2 := 0) (ct_X7_at (a1 := (v1 + 0)) (State_cells := State_cells) hv2) dX7_knots_8 w142 ⟨w143, w144⟩ cal_X7_at rfl ⟨⟨Nat.le_of_ble_eq_true rfl, Nat.le_of_ble_eq_true rfl⟩, Nat.le_of_ble_eq_true rfl, Nat.le_of_ble_eq_true rfl⟩ (Nat.le_of_ble_eq_true rfl) ⟨_, _, _, _, rfl, rfl⟩ rfl ⟨rfl, ⟨by decide, by decide⟩, rfl, (fr_cons (Or.inl (Nat.le_of_ble_eq_true rfl)) (fr_nil)), rfl⟩ fr_i rfl rfl rfl rfl ?_
  obtain rfl := Option.some.inj hf
  exact V.iret dX7_knots_11 rfl (Nat.le_of_ble_eq_true rfl) (Nat.le_of_ble_eq_true rfl) rfl
def k_X7_readsAs : fK := (yX7_readsAs, cX7_readsAs, 5, (some .int), [], (1, 23), (0, 0), (0, 0))
theorem cal_X7_readsAs : fCal k_X7_readsAs 3 := ⟨⟨wc331, w7⟩, ⟨by decide +kernel, by decide +kernel⟩, by decide +kernel, by decide +kernel⟩
def s_X7_readsAs (a1 : Int32) (a2 : Int32) (a3 : Int32) (State_cells : Nat → Int32) : Option (Int32) := (s_X7_knotCell a1 a2 a3).bind fun v1 => (s_X7_at (v1 + 0) State_cells).bind fun v2 => (s_X7_at (v1 + 1) State_cells).bind fun v3 => (s_X0_reading v2 v3).bind fun v4 => some v4
set_option maxHeartbeats 4000000 in
set_option maxRecDepth 100000 in
theorem ct_X7_readsAs {a1 : Int32} {a2 : Int32} {a3 : Int32} {State_cells : Nat → Int32} {res : Int32} (hf : s_X7_readsAs a1 a2 a3 State_cells = some res) : Ct k_X7_readsAs [.ref 0, .int a1, .int a2, .int a3] [.inl (3, [.ref 1]), .inr (910, .inl State_cells)] (.inl (some (.int res))) [.inl (3, [.ref 1]), .inr (910, .inl State_cells)] := by
  unfold s_X7_readsAs at hf
  refine Ct.of (L := [some (.ref 0), some (.int a1), some (.int a2), some (.int a3), none]) cal_X7_readsAs (fent_pad (j := 1) rfl) (Nat.le_of_ble_eq_true rfl) ?_
  refine V.iload_n (i := 1) dX7_readsAs_0 rfl rfl ?_
  refine V.iload_n (i := 2) dX7_readsAs_1 rfl rfl ?_
  refine V.iload_n (i := 3) dX7_readsAs_2 rfl rfl ?_
  obtain ⟨v1, hv1, hf⟩ := fbind hf
  refine V.callSn (pl := []) (σ' := [.inl (3, [.ref 1]), .inr (910, .inl State_cells)]) (st2 := [.int v1]) (cl2 := 0) (sl2 := 0) (ct_X7_knotCell (a0 := a1) (a1 := a2) (a2 := a3) hv1) dX7_readsAs_3 w280 w157 cal_X7_knotCell ⟨⟨Nat.le_of_ble_eq_true rfl, Nat.le_of_ble_eq_true rfl⟩, Nat.le_of_ble_eq_true rfl, Nat.le_of_ble_eq_true rfl⟩ (Nat.le_of_ble_eq_true rfl) rfl ⟨rfl, ⟨by decide, by decide⟩, rfl, (fr_nil), rfl⟩ fr_i rfl rfl rfl rfl ?_
  refine V.istore (i := 4) (L' := [some (.ref 0), some (.int a1), some (.int a2), some (.int a3), some (.int v1)]) dX7_readsAs_6 (Nat.le_of_ble_eq_true rfl) rfl rfl ?_
  refine V.aload_n (i := 0) dX7_readsAs_8 rfl rfl ?_
  refine V.iload (i := 4) dX7_readsAs_9 rfl ?_
  refine V.iconst (v := 0) dX7_readsAs_11 rfl ?_
  refine V.iadd dX7_readsAs_12 ?_
  obtain ⟨v2, hv2, hf⟩ := fbind hf
  refine V.callVn (pl := [0, 1]) (σ' := [.inl (3, [.ref 1]), .inr (910, .inl State_cells)]) (st2 := [.int v2]) (cl2 := 0) (sl2 := 0) (ct_X7_at (a1 := (v1 + 0)) (State_cells := State_cells) hv2) dX7_readsAs_13 w142 ⟨w143, w144⟩ cal_X7_at rfl ⟨⟨Nat.le_of_ble_eq_true rfl, Nat.le_of_ble_eq_true rfl⟩, Nat.le_of_ble_eq_true rfl, Nat.le_of_ble_eq_true rfl⟩ (Nat.le_of_ble_eq_true rfl) ⟨_, _, _, _, rfl, rfl⟩ rfl ⟨rfl, ⟨by decide, by decide⟩, rfl, (fr_cons (Or.inl (Nat.le_of_ble_eq_true rfl)) (fr_nil)), rfl⟩ fr_i rfl rfl rfl rfl ?_
  refine V.aload_n (i := 0) dX7_readsAs_16 rfl rfl ?_
  refine V.iload (i := 4) dX7_readsAs_17 rfl ?_
  refine V.iconst (v := 1) dX7_readsAs_19 rfl ?_
  refine V.iadd dX7_readsAs_20 ?_
  obtain ⟨v3, hv3, hf⟩ := fbind hf
  refine V.callVn (pl := [0, 1]) (σ' := [.inl (3, [.ref 1]), .inr (910, .inl State_cells)]) (st2 := [.int v3, .int v2]) (cl2 := 0) (sl2 := 0) (ct_X7_at (a1 := (v1 + 1)) (State_cells := State_cells) hv3) dX7_readsAs_21 w142 ⟨w143, w144⟩ cal_X7_at rfl ⟨⟨Nat.le_of_ble_eq_true rfl, Nat.le_of_ble_eq_true rfl⟩, Nat.le_of_ble_eq_true rfl, Nat.le_of_ble_eq_true rfl⟩ (Nat.le_of_ble_eq_true rfl) ⟨_, _, _, _, rfl, rfl⟩ rfl ⟨rfl, ⟨by decide, by decide⟩, rfl, (fr_cons (Or.inl (Nat.le_of_ble_eq_true rfl)) (fr_nil)), rfl⟩ fr_i rfl rfl rfl rfl ?_
  obtain ⟨v4, hv4, hf⟩ := fbind hf
  refine V.callSn (pl := []) (σ' := [.inl (3, [.ref 1]), .inr (910, .inl State_cells)]) (st2 := [.int v4]) (cl2 := 0) (sl2 := 0) (ct_X0_reading (a0 := v2) (a1 := v3) hv4) dX7_readsAs_24 w332 w164 cal_X0_reading ⟨⟨Nat.le_of_ble_eq_true rfl, Nat.le_of_ble_eq_true rfl⟩, Nat.le_of_ble_eq_true rfl, Nat.le_of_ble_eq_true rfl⟩ (Nat.le_of_ble_eq_true rfl) rfl ⟨rfl, ⟨by decide, by decide⟩, rfl, (fr_nil), rfl⟩ fr_i rfl rfl rfl rfl ?_
  obtain rfl := Option.some.inj hf
  exact V.iret dX7_readsAs_27 rfl (Nat.le_of_ble_eq_true rfl) (Nat.le_of_ble_eq_true rfl) rfl
def k_X7_put : fK := (yX7_put, cX7_put, 3, none, [], (0, 0), (0, 0), (0, 0))
theorem cal_X7_put : fCal k_X7_put 2 := ⟨⟨wc40, w7⟩, ⟨by decide +kernel, by decide +kernel⟩, by decide +kernel, by decide +kernel⟩
def s_X7_put (a1 : Int32) (a2 : Int32) (State_cells : Nat → Int32) : Option ((Nat → Int32)) := if (a1 < 0 : Prop) then (some State_cells) else (if (910 ≤ a1 : Prop) then (some State_cells) else (fst 910 State_cells a1 a2 fun s1 => some s1))
set_option maxHeartbeats 4000000 in
set_option maxRecDepth 100000 in
theorem ct_X7_put {a1 : Int32} {a2 : Int32} {State_cells : Nat → Int32} {res : (Nat → Int32)} (hf : s_X7_put a1 a2 State_cells = some res) : Ct k_X7_put [.ref 0, .int a1, .int a2] [.inl (3, [.ref 1]), .inr (910, .inl State_cells)] (.inl none) [.inl (3, [.ref 1]), .inr (910, .inl res)] := by
  unfold s_X7_put at hf
  refine Ct.of (L := [some (.ref 0), some (.int a1), some (.int a2)]) cal_X7_put (fent_pad (j := 0) rfl) (Nat.le_of_ble_eq_true rfl) ?_
  refine V.iload_n (i := 1) dX7_put_0 rfl rfl ?_
  refine V.if_lt (tgt := 20) dX7_put_1 (by decide) (fun h => ?_) (fun h => ?_)
  · have hf := fif_t h hf
    obtain rfl := Option.some.inj hf
    exact V.vret dX7_put_20 rfl (Nat.le_of_ble_eq_true rfl) (Nat.le_of_ble_eq_true rfl) rfl
  · have hf := fif_f h hf
    refine V.iload_n (i := 1) dX7_put_4 rfl rfl ?_
    refine V.aload_n (i := 0) dX7_put_5 rfl rfl ?_
    refine V.getfield (kf := 0) (v := .ref 1) fl_RX7 dX7_put_6 w44 (Nat.le_of_ble_eq_true rfl) rfl rfl ?_
    refine V.alen (v := 910) dX7_put_9 rfl rfl ?_
    refine V.icmp_ge (tgt := 20) dX7_put_10 (by decide) (fun h => ?_) (fun h => ?_)
    · have hf := fif_t h hf
      obtain rfl := Option.some.inj hf
      exact V.vret dX7_put_20 rfl (Nat.le_of_ble_eq_true rfl) (Nat.le_of_ble_eq_true rfl) rfl
    · have hf := fif_f h hf
      refine V.aload_n (i := 0) dX7_put_13 rfl rfl ?_
      refine V.getfield (kf := 0) (v := .ref 1) fl_RX7 dX7_put_14 w44 (Nat.le_of_ble_eq_true rfl) rfl rfl ?_
      refine V.iload_n (i := 1) dX7_put_17 rfl rfl ?_
      refine V.iload_n (i := 2) dX7_put_18 rfl rfl ?_
      obtain ⟨hi, s1, es1, hf⟩ := fst_e hf
      refine V.fst (σ' := [.inl (3, [.ref 1]), .inr (910, .inl s1)]) dX7_put_19 rfl hi es1 rfl ?_
      obtain rfl := Option.some.inj hf
      exact V.vret dX7_put_20 rfl (Nat.le_of_ble_eq_true rfl) (Nat.le_of_ble_eq_true rfl) rfl
def k_X7_add : fK := (yX7_add, cX7_add, 3, none, [], (1, 22), (0, 0), (0, 0))
theorem cal_X7_add : fCal k_X7_add 2 := ⟨⟨wc572, w7⟩, ⟨by decide +kernel, by decide +kernel⟩, by decide +kernel, by decide +kernel⟩
def s_X7_add (a1 : Int32) (a2 : Int32) (State_cells : Nat → Int32) : Option ((Nat → Int32)) := (s_X7_at a1 State_cells).bind fun v1 => (s_X7_put a1 (v1 + a2) State_cells).bind fun v2 => some v2
set_option maxHeartbeats 4000000 in
set_option maxRecDepth 100000 in
theorem ct_X7_add {a1 : Int32} {a2 : Int32} {State_cells : Nat → Int32} {res : (Nat → Int32)} (hf : s_X7_add a1 a2 State_cells = some res) : Ct k_X7_add [.ref 0, .int a1, .int a2] [.inl (3, [.ref 1]), .inr (910, .inl State_cells)] (.inl none) [.inl (3, [.ref 1]), .inr (910, .inl res)] := by
  unfold s_X7_add at hf
  refine Ct.of (L := [some (.ref 0), some (.int a1), some (.int a2)]) cal_X7_add (fent_pad (j := 0) rfl) (Nat.le_of_ble_eq_true rfl) ?_
  refine V.aload_n (i := 0) dX7_add_0 rfl rfl ?_
  refine V.iload_n (i := 1) dX7_add_1 rfl rfl ?_
  refine V.aload_n (i := 0) dX7_add_2 rfl rfl ?_
  refine V.iload_n (i := 1) dX7_add_3 rfl rfl ?_
  obtain ⟨v1, hv1, hf⟩ := fbind hf
  refine V.callVn (pl := [0, 1]) (σ' := [.inl (3, [.ref 1]), .inr (910, .inl State_cells)]) (st2 := [.int v1, .int a1, .ref 0]) (cl2 := 0) (sl2 := 0) (ct_X7_at (a1 := a1) (State_cells := State_cells) hv1) dX7_add_4 w142 ⟨w143, w144⟩ cal_X7_at rfl ⟨⟨Nat.le_of_ble_eq_true rfl, Nat.le_of_ble_eq_true rfl⟩, Nat.le_of_ble_eq_true rfl, Nat.le_of_ble_eq_true rfl⟩ (Nat.le_of_ble_eq_true rfl) ⟨_, _, _, _, rfl, rfl⟩ rfl ⟨rfl, ⟨by decide, by decide⟩, rfl, (fr_cons (Or.inl (Nat.le_of_ble_eq_true rfl)) (fr_nil)), rfl⟩ fr_i rfl rfl rfl rfl ?_
  refine V.iload_n (i := 2) dX7_add_7 rfl rfl ?_
  refine V.iadd dX7_add_8 ?_
  obtain ⟨v2, hv2, hf⟩ := fbind hf
  refine V.callVn (pl := [0, 1]) (σ' := [.inl (3, [.ref 1]), .inr (910, .inl v2)]) (st2 := []) (cl2 := 0) (sl2 := 0) (ct_X7_put (a1 := a1) (a2 := (v1 + a2)) (State_cells := State_cells) hv2) dX7_add_9 w37 ⟨w38, w39⟩ cal_X7_put rfl ⟨⟨Nat.le_of_ble_eq_true rfl, Nat.le_of_ble_eq_true rfl⟩, Nat.le_of_ble_eq_true rfl, Nat.le_of_ble_eq_true rfl⟩ (Nat.le_of_ble_eq_true rfl) ⟨_, _, _, _, rfl, rfl⟩ rfl ⟨rfl, ⟨by decide, by decide⟩, rfl, (fr_cons (Or.inl (Nat.le_of_ble_eq_true rfl)) (fr_nil)), rfl⟩ fr_v rfl rfl rfl rfl ?_
  obtain rfl := Option.some.inj hf
  exact V.vret dX7_add_12 rfl (Nat.le_of_ble_eq_true rfl) (Nat.le_of_ble_eq_true rfl) rfl
def k_X7_closeUp : fK := (yX7_closeUp, cX7_closeUp, 5, none, [], (1, 22), (0, 0), (0, 0))
theorem cal_X7_closeUp : fCal k_X7_closeUp 3 := ⟨⟨wc611, w7⟩, ⟨by decide +kernel, by decide +kernel⟩, by decide +kernel, by decide +kernel⟩
def s_X7_closeUp_L3 (p2 : Int32) (p3 : Int32) : Nat → Int32 → (Nat → Int32) → Option (Int32 × (Nat → Int32))
  | 0, _, _ => none
  | n + 1, x4, State_cells => if ((p2 - p3) ≤ x4 : Prop) then (some (x4, State_cells)) else ((s_X7_at (x4 + p3) State_cells).bind fun v1 => (s_X7_put x4 v1 State_cells).bind fun v2 => s_X7_closeUp_L3 p2 p3 n (x4 + 1) v2)
set_option maxHeartbeats 4000000 in
set_option maxRecDepth 100000 in
theorem v_X7_closeUp_L3 {out : fO} {σ' : List fE} {p1 : Int32} {p2 : Int32} {p3 : Int32} : ∀ (n : Nat) {x4 : Int32} {State_cells : (Nat → Int32)} {res : Int32 × (Nat → Int32)} (hf : s_X7_closeUp_L3 p2 p3 n x4 State_cells = some res) (hx : V (fXm 2 k_X7_closeUp out σ') (krm k_X7_closeUp) k_X7_closeUp 2 31 [some (.ref 0), some (.int p1), some (.int p2), some (.int p3), some (.int res.1)] [] [.inl (3, [.ref 1]), .inr (910, .inl res.2)] 0 0), V (fXm 2 k_X7_closeUp out σ') (krm k_X7_closeUp) k_X7_closeUp 2 3 [some (.ref 0), some (.int p1), some (.int p2), some (.int p3), some (.int x4)] [] [.inl (3, [.ref 1]), .inr (910, .inl State_cells)] 0 0 := by
  intro n
  induction n with
  | zero =>
    intro x4 State_cells res hf hx
    rw [s_X7_closeUp_L3] at hf
    cases hf
  | succ n ih =>
    intro x4 State_cells res hf hx
    rw [s_X7_closeUp_L3] at hf
    refine V.iload (i := 4) dX7_closeUp_3 rfl ?_
    refine V.iload_n (i := 2) dX7_closeUp_5 rfl rfl ?_
    refine V.iload_n (i := 3) dX7_closeUp_6 rfl rfl ?_
    refine V.isub dX7_closeUp_7 ?_
    refine V.icmp_ge (tgt := 31) dX7_closeUp_8 (by decide) (fun h => ?_) (fun h => ?_)
    · have hf := fif_t h hf
      obtain rfl := Option.some.inj hf
      exact hx
    · have hf := fif_f h hf
      refine V.aload_n (i := 0) dX7_closeUp_11 rfl rfl ?_
      refine V.iload (i := 4) dX7_closeUp_12 rfl ?_
      refine V.aload_n (i := 0) dX7_closeUp_14 rfl rfl ?_
      refine V.iload (i := 4) dX7_closeUp_15 rfl ?_
      refine V.iload_n (i := 3) dX7_closeUp_17 rfl rfl ?_
      refine V.iadd dX7_closeUp_18 ?_
      obtain ⟨v1, hv1, hf⟩ := fbind hf
      refine V.callVn (pl := [0, 1]) (σ' := [.inl (3, [.ref 1]), .inr (910, .inl State_cells)]) (st2 := [.int v1, .int x4, .ref 0]) (cl2 := 0) (sl2 := 0) (ct_X7_at (a1 := (x4 + p3)) (State_cells := State_cells) hv1) dX7_closeUp_19 w142 ⟨w143, w144⟩ cal_X7_at rfl ⟨⟨Nat.le_of_ble_eq_true rfl, Nat.le_of_ble_eq_true rfl⟩, Nat.le_of_ble_eq_true rfl, Nat.le_of_ble_eq_true rfl⟩ (Nat.le_of_ble_eq_true rfl) ⟨_, _, _, _, rfl, rfl⟩ rfl ⟨rfl, ⟨by decide, by decide⟩, rfl, (fr_cons (Or.inl (Nat.le_of_ble_eq_true rfl)) (fr_nil)), rfl⟩ fr_i rfl rfl rfl rfl ?_
      obtain ⟨v2, hv2, hf⟩ := fbind hf
      refine V.callVn (pl := [0, 1]) (σ' := [.inl (3, [.ref 1]), .inr (910, .inl v2)]) (st2 := []) (cl2 := 0) (sl2 := 0) (ct_X7_put (a1 := x4) (a2 := v1) (State_cells := State_cells) hv2) dX7_closeUp_22 w37 ⟨w38, w39⟩ cal_X7_put rfl ⟨⟨Nat.le_of_ble_eq_true rfl, Nat.le_of_ble_eq_true rfl⟩, Nat.le_of_ble_eq_true rfl, Nat.le_of_ble_eq_true rfl⟩ (Nat.le_of_ble_eq_true rfl) ⟨_, _, _, _, rfl, rfl⟩ rfl ⟨rfl, ⟨by decide, by decide⟩, rfl, (fr_cons (Or.inl (Nat.le_of_ble_eq_true rfl)) (fr_nil)), rfl⟩ fr_v rfl rfl rfl rfl ?_
      refine V.iinc (i := 4) (v := (x4 + 1)) (L' := [some (.ref 0), some (.int p1), some (.int p2), some (.int p3), some (.int (x4 + 1))]) dX7_closeUp_25 rfl rfl (Nat.le_of_ble_eq_true rfl) rfl rfl ?_
      refine V.goto (tgt := 3) dX7_closeUp_28 (by decide) ?_
      exact ih hf hx
def s_X7_closeUp (a1 : Int32) (a2 : Int32) (a3 : Int32) (State_cells : Nat → Int32) : Option ((Nat → Int32)) := (s_X7_closeUp_L3 a2 a3 gF a1 State_cells).bind fun r3 => some r3.2
set_option maxHeartbeats 4000000 in
set_option maxRecDepth 100000 in
theorem ct_X7_closeUp {a1 : Int32} {a2 : Int32} {a3 : Int32} {State_cells : Nat → Int32} {res : (Nat → Int32)} (hf : s_X7_closeUp a1 a2 a3 State_cells = some res) : Ct k_X7_closeUp [.ref 0, .int a1, .int a2, .int a3] [.inl (3, [.ref 1]), .inr (910, .inl State_cells)] (.inl none) [.inl (3, [.ref 1]), .inr (910, .inl res)] := by
  unfold s_X7_closeUp at hf
  refine Ct.of (L := [some (.ref 0), some (.int a1), some (.int a2), some (.int a3), none]) cal_X7_closeUp (fent_pad (j := 1) rfl) (Nat.le_of_ble_eq_true rfl) ?_
  refine V.iload_n (i := 1) dX7_closeUp_0 rfl rfl ?_
  refine V.istore (i := 4) (L' := [some (.ref 0), some (.int a1), some (.int a2), some (.int a3), some (.int a1)]) dX7_closeUp_1 (Nat.le_of_ble_eq_true rfl) rfl rfl ?_
  obtain ⟨r3, hr3, hf⟩ := fbind hf
  refine v_X7_closeUp_L3 gF hr3 ?_
  obtain rfl := Option.some.inj hf
  exact V.vret dX7_closeUp_31 rfl (Nat.le_of_ble_eq_true rfl) (Nat.le_of_ble_eq_true rfl) rfl
def k_X7_loosened : fK := (yX7_loosened, cX7_loosened, 4, (some .int), [], (1, 23), (0, 0), (0, 0))
theorem cal_X7_loosened : fCal k_X7_loosened 3 := ⟨⟨wc336, w7⟩, ⟨by decide +kernel, by decide +kernel⟩, by decide +kernel, by decide +kernel⟩
def s_X7_loosened (a1 : Int32) (a2 : Int32) (a3 : Int32) (State_cells : Nat → Int32) : Option (Int32) := (s_X7_knotCell a1 a2 a3).bind fun v1 => (s_X7_at (v1 + 1) State_cells).bind fun v2 => some v2
set_option maxHeartbeats 4000000 in
set_option maxRecDepth 100000 in
theorem ct_X7_loosened {a1 : Int32} {a2 : Int32} {a3 : Int32} {State_cells : Nat → Int32} {res : Int32} (hf : s_X7_loosened a1 a2 a3 State_cells = some res) : Ct k_X7_loosened [.ref 0, .int a1, .int a2, .int a3] [.inl (3, [.ref 1]), .inr (910, .inl State_cells)] (.inl (some (.int res))) [.inl (3, [.ref 1]), .inr (910, .inl State_cells)] := by
  unfold s_X7_loosened at hf
  refine Ct.of (L := [some (.ref 0), some (.int a1), some (.int a2), some (.int a3)]) cal_X7_loosened (fent_pad (j := 0) rfl) (Nat.le_of_ble_eq_true rfl) ?_
  refine V.aload_n (i := 0) dX7_loosened_0 rfl rfl ?_
  refine V.iload_n (i := 1) dX7_loosened_1 rfl rfl ?_
  refine V.iload_n (i := 2) dX7_loosened_2 rfl rfl ?_
  refine V.iload_n (i := 3) dX7_loosened_3 rfl rfl ?_
  obtain ⟨v1, hv1, hf⟩ := fbind hf
  refine V.callSn (pl := []) (σ' := [.inl (3, [.ref 1]), .inr (910, .inl State_cells)]) (st2 := [.int v1, .ref 0]) (cl2 := 0) (sl2 := 0) (ct_X7_knotCell (a0 := a1) (a1 := a2) (a2 := a3) hv1) dX7_loosened_4 w280 w157 cal_X7_knotCell ⟨⟨Nat.le_of_ble_eq_true rfl, Nat.le_of_ble_eq_true rfl⟩, Nat.le_of_ble_eq_true rfl, Nat.le_of_ble_eq_true rfl⟩ (Nat.le_of_ble_eq_true rfl) rfl ⟨rfl, ⟨by decide, by decide⟩, rfl, (fr_nil), rfl⟩ fr_i rfl rfl rfl rfl ?_
  refine V.iconst (v := 1) dX7_loosened_7 rfl ?_
  refine V.iadd dX7_loosened_8 ?_
  obtain ⟨v2, hv2, hf⟩ := fbind hf
  refine V.callVn (pl := [0, 1]) (σ' := [.inl (3, [.ref 1]), .inr (910, .inl State_cells)]) (st2 := [.int v2]) (cl2 := 0) (sl2 := 0) (ct_X7_at (a1 := (v1 + 1)) (State_cells := State_cells) hv2) dX7_loosened_9 w142 ⟨w143, w144⟩ cal_X7_at rfl ⟨⟨Nat.le_of_ble_eq_true rfl, Nat.le_of_ble_eq_true rfl⟩, Nat.le_of_ble_eq_true rfl, Nat.le_of_ble_eq_true rfl⟩ (Nat.le_of_ble_eq_true rfl) ⟨_, _, _, _, rfl, rfl⟩ rfl ⟨rfl, ⟨by decide, by decide⟩, rfl, (fr_cons (Or.inl (Nat.le_of_ble_eq_true rfl)) (fr_nil)), rfl⟩ fr_i rfl rfl rfl rfl ?_
  obtain rfl := Option.some.inj hf
  exact V.iret dX7_loosened_12 rfl (Nat.le_of_ble_eq_true rfl) (Nat.le_of_ble_eq_true rfl) rfl
def k_X7_entryCell : fK := (yX7_entryCell, cX7_entryCell, 2, (some .int), [], (0, 0), (0, 0), (0, 0))
theorem cal_X7_entryCell : fCal k_X7_entryCell 2 := ⟨⟨wc446, w7⟩, ⟨by decide +kernel, by decide +kernel⟩, by decide +kernel, by decide +kernel⟩
def s_X7_entryCell (a0 : Int32) (a1 : Int32) : Option (Int32) := some ((778 + (a0 * 11)) + a1)
set_option maxHeartbeats 4000000 in
set_option maxRecDepth 100000 in
theorem ct_X7_entryCell {a0 : Int32} {a1 : Int32} {res : Int32} (hf : s_X7_entryCell a0 a1 = some res) : Ct k_X7_entryCell [.int a0, .int a1] [] (.inl (some (.int res))) [] := by
  unfold s_X7_entryCell at hf
  refine Ct.of (L := [some (.int a0), some (.int a1)]) cal_X7_entryCell (fent_pad (j := 0) rfl) (Nat.le_of_ble_eq_true rfl) ?_
  refine V.sipush (v := 778) dX7_entryCell_0 rfl ?_
  refine V.iload_n (i := 0) dX7_entryCell_3 rfl rfl ?_
  refine V.bipush (v := 11) dX7_entryCell_4 rfl ?_
  refine V.imul dX7_entryCell_6 ?_
  refine V.iadd dX7_entryCell_7 ?_
  refine V.iload_n (i := 1) dX7_entryCell_8 rfl rfl ?_
  refine V.iadd dX7_entryCell_9 ?_
  obtain rfl := Option.some.inj hf
  exact V.iret dX7_entryCell_10 rfl (Nat.le_of_ble_eq_true rfl) (Nat.le_of_ble_eq_true rfl) rfl
def k_X7_init : fK := (yX7_init, cX7_init, 2, none, [], (1, 22), (1, 910), (0, 0))
theorem cal_X7_init : fCal k_X7_init 0 := ⟨⟨wc35, w7⟩, ⟨by decide +kernel, by decide +kernel⟩, by decide +kernel, by decide +kernel⟩
def s_X7_init_L27 : Nat → Int32 → (Nat → Int32) → Option (Int32 × (Nat → Int32))
  | 0, _, _ => none
  | n + 1, x1, State_cells => if (5 ≤ x1 : Prop) then (some (x1, State_cells)) else ((s_X7_fisherCell x1 0).bind fun v3 => (s_X7_put v3 60 State_cells).bind fun v4 => s_X7_init_L27 n (x1 + 1) v4)
set_option maxHeartbeats 4000000 in
set_option maxRecDepth 100000 in
theorem v_X7_init_L27 {out : fO} {σ' : List fE} : ∀ (n : Nat) {x1 : Int32} {State_cells : (Nat → Int32)} {res : Int32 × (Nat → Int32)} (hf : s_X7_init_L27 n x1 State_cells = some res) (hx : V (fXm 1 k_X7_init out σ') (krm k_X7_init) k_X7_init 1 49 [some (.ref 0), some (.int res.1)] [] [.inl (3, [.ref 1]), .inr (910, .inl res.2)] 1 910), V (fXm 1 k_X7_init out σ') (krm k_X7_init) k_X7_init 1 27 [some (.ref 0), some (.int x1)] [] [.inl (3, [.ref 1]), .inr (910, .inl State_cells)] 1 910 := by
  intro n
  induction n with
  | zero =>
    intro x1 State_cells res hf hx
    rw [s_X7_init_L27] at hf
    cases hf
  | succ n ih =>
    intro x1 State_cells res hf hx
    rw [s_X7_init_L27] at hf
    refine V.iload_n (i := 1) dX7_init_27 rfl rfl ?_
    refine V.iconst (v := 5) dX7_init_28 rfl ?_
    refine V.icmp_ge (tgt := 49) dX7_init_29 (by decide) (fun h => ?_) (fun h => ?_)
    · have hf := fif_t h hf
      obtain rfl := Option.some.inj hf
      exact hx
    · have hf := fif_f h hf
      refine V.aload_n (i := 0) dX7_init_32 rfl rfl ?_
      refine V.iload_n (i := 1) dX7_init_33 rfl rfl ?_
      refine V.iconst (v := 0) dX7_init_34 rfl ?_
      obtain ⟨v3, hv3, hf⟩ := fbind hf
      refine V.callSn (pl := []) (σ' := [.inl (3, [.ref 1]), .inr (910, .inl State_cells)]) (st2 := [.int v3, .ref 0]) (cl2 := 1) (sl2 := 910) (ct_X7_fisherCell (a0 := x1) (a1 := 0) hv3) dX7_init_35 w41 w42 cal_X7_fisherCell ⟨⟨Nat.le_of_ble_eq_true rfl, Nat.le_of_ble_eq_true rfl⟩, Nat.le_of_ble_eq_true rfl, Nat.le_of_ble_eq_true rfl⟩ (Nat.le_of_ble_eq_true rfl) rfl ⟨rfl, ⟨by decide, by decide⟩, rfl, (fr_nil), rfl⟩ fr_i rfl rfl rfl rfl ?_
      refine V.bipush (v := 60) dX7_init_38 rfl ?_
      obtain ⟨v4, hv4, hf⟩ := fbind hf
      refine V.callVn (pl := [0, 1]) (σ' := [.inl (3, [.ref 1]), .inr (910, .inl v4)]) (st2 := []) (cl2 := 1) (sl2 := 910) (ct_X7_put (a1 := v3) (a2 := 60) (State_cells := State_cells) hv4) dX7_init_40 w37 ⟨w38, w39⟩ cal_X7_put rfl ⟨⟨Nat.le_of_ble_eq_true rfl, Nat.le_of_ble_eq_true rfl⟩, Nat.le_of_ble_eq_true rfl, Nat.le_of_ble_eq_true rfl⟩ (Nat.le_of_ble_eq_true rfl) ⟨_, _, _, _, rfl, rfl⟩ rfl ⟨rfl, ⟨by decide, by decide⟩, rfl, (fr_cons (Or.inl (Nat.le_of_ble_eq_true rfl)) (fr_nil)), rfl⟩ fr_v rfl rfl rfl rfl ?_
      refine V.iinc (i := 1) (v := (x1 + 1)) (L' := [some (.ref 0), some (.int (x1 + 1))]) dX7_init_43 rfl rfl (Nat.le_of_ble_eq_true rfl) rfl rfl ?_
      refine V.goto (tgt := 27) dX7_init_46 (by decide) ?_
      exact ih hf hx
def s_X7_init : Option ((Nat → Int32)) := (s_X7_put 1 3 (fun _ => 0)).bind fun v1 => (s_X7_put 2 1 v1).bind fun v2 => (s_X7_init_L27 gF 0 v2).bind fun r5 => some r5.2
set_option maxHeartbeats 4000000 in
set_option maxRecDepth 100000 in
theorem ct_X7_init {res : (Nat → Int32)} (hf : s_X7_init = some res) : Ct k_X7_init [.ref 0] [.inl (3, [.null])] (.inl none) [.inl (3, [.ref 1]), .inr (910, .inl res)] := by
  unfold s_X7_init at hf
  refine Ct.of (L := [some (.ref 0), none]) cal_X7_init (fent_pad (j := 1) rfl) (Nat.le_of_ble_eq_true rfl) ?_
  refine V.aload_n (i := 0) dX7_init_0 rfl rfl ?_
  refine V.objInit dX7_init_1 w36 w29 w30 (Nat.le_of_ble_eq_true rfl) (Nat.le_of_ble_eq_true rfl) ?_
  refine V.aload_n (i := 0) dX7_init_4 rfl rfl ?_
  refine V.sipush (v := 910) dX7_init_5 rfl ?_
  refine V.newI (N := 910) (f := fun _ => 0) rfl dX7_init_8 w48 (by decide) rfl (Nat.le_of_ble_eq_true rfl) rfl (Nat.le_of_ble_eq_true rfl) (Nat.le_of_ble_eq_true rfl) ?_
  refine V.putfinal (ty := tyX7) (kf := 0) (σ' := [.inl (3, [.ref 1]), .inr (910, .inl (fun _ => 0))]) fl_RX7 dX7_init_10 w44 (Nat.le_of_ble_eq_true rfl) rfl rfl rfl rfl (fun _ => ⟨rfl, rfl⟩) rfl (Nat.le_of_ble_eq_true rfl) rfl ?_
  refine V.aload_n (i := 0) dX7_init_13 rfl rfl ?_
  refine V.iconst (v := 1) dX7_init_14 rfl ?_
  refine V.iconst (v := 3) dX7_init_15 rfl ?_
  obtain ⟨v1, hv1, hf⟩ := fbind hf
  refine V.callVn (pl := [0, 1]) (σ' := [.inl (3, [.ref 1]), .inr (910, .inl v1)]) (st2 := []) (cl2 := 1) (sl2 := 910) (ct_X7_put (a1 := 1) (a2 := 3) (State_cells := (fun _ => 0)) hv1) dX7_init_16 w37 ⟨w38, w39⟩ cal_X7_put rfl ⟨⟨Nat.le_of_ble_eq_true rfl, Nat.le_of_ble_eq_true rfl⟩, Nat.le_of_ble_eq_true rfl, Nat.le_of_ble_eq_true rfl⟩ (Nat.le_of_ble_eq_true rfl) ⟨_, _, _, _, rfl, rfl⟩ rfl ⟨rfl, ⟨by decide, by decide⟩, rfl, (fr_cons (Or.inl (Nat.le_of_ble_eq_true rfl)) (fr_nil)), rfl⟩ fr_v rfl rfl rfl rfl ?_
  refine V.aload_n (i := 0) dX7_init_19 rfl rfl ?_
  refine V.iconst (v := 2) dX7_init_20 rfl ?_
  refine V.iconst (v := 1) dX7_init_21 rfl ?_
  obtain ⟨v2, hv2, hf⟩ := fbind hf
  refine V.callVn (pl := [0, 1]) (σ' := [.inl (3, [.ref 1]), .inr (910, .inl v2)]) (st2 := []) (cl2 := 1) (sl2 := 910) (ct_X7_put (a1 := 2) (a2 := 1) (State_cells := v1) hv2) dX7_init_22 w37 ⟨w38, w39⟩ cal_X7_put rfl ⟨⟨Nat.le_of_ble_eq_true rfl, Nat.le_of_ble_eq_true rfl⟩, Nat.le_of_ble_eq_true rfl, Nat.le_of_ble_eq_true rfl⟩ (Nat.le_of_ble_eq_true rfl) ⟨_, _, _, _, rfl, rfl⟩ rfl ⟨rfl, ⟨by decide, by decide⟩, rfl, (fr_cons (Or.inl (Nat.le_of_ble_eq_true rfl)) (fr_nil)), rfl⟩ fr_v rfl rfl rfl rfl ?_
  refine V.iconst (v := 0) dX7_init_25 rfl ?_
  refine V.istore_n (i := 1) (L' := [some (.ref 0), some (.int 0)]) dX7_init_26 rfl (Nat.le_of_ble_eq_true rfl) rfl rfl ?_
  obtain ⟨r5, hr5, hf⟩ := fbind hf
  refine v_X7_init_L27 gF hr5 ?_
  obtain rfl := Option.some.inj hf
  exact V.vret dX7_init_49 rfl (Nat.le_of_ble_eq_true rfl) (Nat.le_of_ble_eq_true rfl) rfl
def k_X7_hasName : fK := (yX7_hasName, cX7_hasName, 3, (some .boolean), [], (2, 42), (0, 0), (0, 0))
theorem cal_X7_hasName : fCal k_X7_hasName 2 := ⟨⟨wc295, w7⟩, ⟨by decide +kernel, by decide +kernel⟩, by decide +kernel, by decide +kernel⟩
def s_X7_hasName (a1 : Int32) (a2 : Int32) (State_cells : Nat → Int32) : Option (Int32) := if (a2 < 0 : Prop) then (some 0) else ((s_X7_names a1 State_cells).bind fun v1 => if (v1 ≤ a2 : Prop) then (some 0) else (some 1))
set_option maxHeartbeats 4000000 in
set_option maxRecDepth 100000 in
theorem ct_X7_hasName {a1 : Int32} {a2 : Int32} {State_cells : Nat → Int32} {res : Int32} (hf : s_X7_hasName a1 a2 State_cells = some res) : Ct k_X7_hasName [.ref 0, .int a1, .int a2] [.inl (3, [.ref 1]), .inr (910, .inl State_cells)] (.inl (some (.int res))) [.inl (3, [.ref 1]), .inr (910, .inl State_cells)] := by
  unfold s_X7_hasName at hf
  refine Ct.of (L := [some (.ref 0), some (.int a1), some (.int a2)]) cal_X7_hasName (fent_pad (j := 0) rfl) (Nat.le_of_ble_eq_true rfl) ?_
  refine V.iload_n (i := 2) dX7_hasName_0 rfl rfl ?_
  refine V.if_lt (tgt := 17) dX7_hasName_1 (by decide) (fun h => ?_) (fun h => ?_)
  · have hf := fif_t h hf
    refine V.iconst (v := 0) dX7_hasName_17 rfl ?_
    obtain rfl := Option.some.inj hf
    exact V.zret (v := 0) dX7_hasName_18 rfl (by decide +kernel) (Nat.le_of_ble_eq_true rfl) (Nat.le_of_ble_eq_true rfl) rfl
  · have hf := fif_f h hf
    refine V.iload_n (i := 2) dX7_hasName_4 rfl rfl ?_
    refine V.aload_n (i := 0) dX7_hasName_5 rfl rfl ?_
    refine V.iload_n (i := 1) dX7_hasName_6 rfl rfl ?_
    obtain ⟨v1, hv1, hf⟩ := fbind hf
    refine V.callVn (pl := [0, 1]) (σ' := [.inl (3, [.ref 1]), .inr (910, .inl State_cells)]) (st2 := [.int v1, .int a2]) (cl2 := 0) (sl2 := 0) (ct_X7_names (a1 := a1) (State_cells := State_cells) hv1) dX7_hasName_7 w275 ⟨w139, w140⟩ cal_X7_names rfl ⟨⟨Nat.le_of_ble_eq_true rfl, Nat.le_of_ble_eq_true rfl⟩, Nat.le_of_ble_eq_true rfl, Nat.le_of_ble_eq_true rfl⟩ (Nat.le_of_ble_eq_true rfl) ⟨_, _, _, _, rfl, rfl⟩ rfl ⟨rfl, ⟨by decide, by decide⟩, rfl, (fr_cons (Or.inl (Nat.le_of_ble_eq_true rfl)) (fr_nil)), rfl⟩ fr_i rfl rfl rfl rfl ?_
    refine V.icmp_ge (tgt := 17) dX7_hasName_10 (by decide) (fun h => ?_) (fun h => ?_)
    · have hf := fif_t h hf
      refine V.iconst (v := 0) dX7_hasName_17 rfl ?_
      obtain rfl := Option.some.inj hf
      exact V.zret (v := 0) dX7_hasName_18 rfl (by decide +kernel) (Nat.le_of_ble_eq_true rfl) (Nat.le_of_ble_eq_true rfl) rfl
    · have hf := fif_f h hf
      refine V.iconst (v := 1) dX7_hasName_13 rfl ?_
      refine V.goto (tgt := 18) dX7_hasName_14 (by decide) ?_
      obtain rfl := Option.some.inj hf
      exact V.zret (v := 1) dX7_hasName_18 rfl (by decide +kernel) (Nat.le_of_ble_eq_true rfl) (Nat.le_of_ble_eq_true rfl) rfl
