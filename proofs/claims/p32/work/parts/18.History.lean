/-! laid by program: shallow functions and contracts -/
def k_X3_init : fK := (yX3_init, cX3_init, 1, none, [], (1, 12), (2, 6370), (0, 0))
theorem cal_X3_init : fCal k_X3_init 0 := ⟨⟨wc53, w8⟩, ⟨by decide +kernel, by decide +kernel⟩, by decide +kernel, by decide +kernel⟩
def s_X3_init : Option ((Int32) × (Int32) × (Int32) × (Nat → Int32) × (Nat → Int32)) := some (0, 0, 0, (fun _ => 0), (fun _ => 0))
set_option maxHeartbeats 4000000 in
set_option maxRecDepth 100000 in
theorem ct_X3_init {res : (Int32) × (Int32) × (Int32) × (Nat → Int32) × (Nat → Int32)} (hf : s_X3_init = some res) : Ct k_X3_init [.ref 0] [.inl (1, [.null, .null, .int 0, .int 0, .int 0])] (.inl none) [.inl (1, [.ref 1, .ref 2, .int res.1, .int res.2.1, .int res.2.2.1]), .inr (5460, .inl res.2.2.2.1), .inr (910, .inl res.2.2.2.2)] := by
  unfold s_X3_init at hf
  refine Ct.of (L := [some (.ref 0)]) cal_X3_init (fent_pad (j := 0) rfl) (Nat.le_of_ble_eq_true rfl) ?_
  refine V.aload_n (i := 0) dX3_init_0 rfl rfl ?_
  refine V.objInit dX3_init_1 w54 w29 w30 (Nat.le_of_ble_eq_true rfl) (Nat.le_of_ble_eq_true rfl) ?_
  refine V.aload_n (i := 0) dX3_init_4 rfl rfl ?_
  refine V.sipush (v := 5460) dX3_init_5 rfl ?_
  refine V.newI (N := 5460) (f := fun _ => 0) rfl dX3_init_8 w48 (by decide) rfl (Nat.le_of_ble_eq_true rfl) rfl (Nat.le_of_ble_eq_true rfl) (Nat.le_of_ble_eq_true rfl) ?_
  refine V.putfinal (ty := tyX3) (kf := 0) (σ' := [.inl (1, [.ref 1, .null, .int 0, .int 0, .int 0]), .inr (5460, .inl (fun _ => 0))]) fl_RX3 dX3_init_10 w55 (Nat.le_of_ble_eq_true rfl) rfl rfl rfl rfl (fun _ => ⟨rfl, rfl⟩) rfl (Nat.le_of_ble_eq_true rfl) rfl ?_
  refine V.aload_n (i := 0) dX3_init_13 rfl rfl ?_
  refine V.sipush (v := 910) dX3_init_14 rfl ?_
  refine V.newI (N := 910) (f := fun _ => 0) rfl dX3_init_17 w48 (by decide) rfl (Nat.le_of_ble_eq_true rfl) rfl (Nat.le_of_ble_eq_true rfl) (Nat.le_of_ble_eq_true rfl) ?_
  refine V.putfinal (ty := tyX3) (kf := 1) (σ' := [.inl (1, [.ref 1, .ref 2, .int 0, .int 0, .int 0]), .inr (5460, .inl (fun _ => 0)), .inr (910, .inl (fun _ => 0))]) fl_RX3 dX3_init_19 w56 (Nat.le_of_ble_eq_true rfl) rfl rfl rfl rfl (fun _ => ⟨rfl, rfl⟩) rfl (Nat.le_of_ble_eq_true rfl) rfl ?_
  refine V.aload_n (i := 0) dX3_init_22 rfl rfl ?_
  refine V.iconst (v := 0) dX3_init_23 rfl ?_
  refine V.putfield (ty := tyX3) (kf := 2) (σ' := [.inl (1, [.ref 1, .ref 2, .int 0, .int 0, .int 0]), .inr (5460, .inl (fun _ => 0)), .inr (910, .inl (fun _ => 0))]) fl_RX3 dX3_init_24 w57 (Nat.le_of_ble_eq_true rfl) rfl (fun _ => ⟨rfl, rfl⟩) rfl (Nat.le_of_ble_eq_true rfl) rfl ?_
  refine V.aload_n (i := 0) dX3_init_27 rfl rfl ?_
  refine V.iconst (v := 0) dX3_init_28 rfl ?_
  refine V.putfield (ty := tyX3) (kf := 3) (σ' := [.inl (1, [.ref 1, .ref 2, .int 0, .int 0, .int 0]), .inr (5460, .inl (fun _ => 0)), .inr (910, .inl (fun _ => 0))]) fl_RX3 dX3_init_29 w58 (Nat.le_of_ble_eq_true rfl) rfl (fun _ => ⟨rfl, rfl⟩) rfl (Nat.le_of_ble_eq_true rfl) rfl ?_
  refine V.aload_n (i := 0) dX3_init_32 rfl rfl ?_
  refine V.iconst (v := 0) dX3_init_33 rfl ?_
  refine V.putfield (ty := tyX3) (kf := 4) (σ' := [.inl (1, [.ref 1, .ref 2, .int 0, .int 0, .int 0]), .inr (5460, .inl (fun _ => 0)), .inr (910, .inl (fun _ => 0))]) fl_RX3 dX3_init_34 w59 (Nat.le_of_ble_eq_true rfl) rfl (fun _ => ⟨rfl, rfl⟩) rfl (Nat.le_of_ble_eq_true rfl) rfl ?_
  obtain rfl := Option.some.inj hf
  exact V.vret dX3_init_37 rfl (Nat.le_of_ble_eq_true rfl) (Nat.le_of_ble_eq_true rfl) rfl
def k_X3_size : fK := (yX3_size, cX3_size, 1, (some .int), [], (0, 0), (0, 0), (0, 0))
theorem cal_X3_size : fCal k_X3_size 0 := ⟨⟨wc411, w8⟩, ⟨by decide +kernel, by decide +kernel⟩, by decide +kernel, by decide +kernel⟩
def s_X3_size (History_size : Int32) : Option (Int32) := some History_size
set_option maxHeartbeats 4000000 in
set_option maxRecDepth 100000 in
theorem ct_X3_size {History_oldest : Int32} {History_size : Int32} {History_snapshotTaken : Int32} {History_saved : Nat → Int32} {History_snapshot : Nat → Int32} {res : Int32} (hf : s_X3_size History_size = some res) : Ct k_X3_size [.ref 0] [.inl (1, [.ref 1, .ref 2, .int History_oldest, .int History_size, .int History_snapshotTaken]), .inr (5460, .inl History_saved), .inr (910, .inl History_snapshot)] (.inl (some (.int res))) [.inl (1, [.ref 1, .ref 2, .int History_oldest, .int History_size, .int History_snapshotTaken]), .inr (5460, .inl History_saved), .inr (910, .inl History_snapshot)] := by
  unfold s_X3_size at hf
  refine Ct.of (L := [some (.ref 0)]) cal_X3_size (fent_pad (j := 0) rfl) (Nat.le_of_ble_eq_true rfl) ?_
  refine V.aload_n (i := 0) dX3_size_0 rfl rfl ?_
  refine V.getfield (kf := 3) (v := .int History_size) fl_RX3 dX3_size_1 w58 (Nat.le_of_ble_eq_true rfl) rfl rfl ?_
  obtain rfl := Option.some.inj hf
  exact V.iret dX3_size_4 rfl (Nat.le_of_ble_eq_true rfl) (Nat.le_of_ble_eq_true rfl) rfl
def k_X3_cellOf : fK := (yX3_cellOf, cX3_cellOf, 2, (some .int), [], (0, 0), (0, 0), (0, 0))
theorem cal_X3_cellOf : fCal k_X3_cellOf 1 := ⟨⟨wc554, w8⟩, ⟨by decide +kernel, by decide +kernel⟩, by decide +kernel, by decide +kernel⟩
def s_X3_cellOf (a1 : Int32) (History_oldest : Int32) : Option (Int32) := some (((History_oldest + a1) - (History_oldest + a1) / 6 * 6) * 910)
set_option maxHeartbeats 4000000 in
set_option maxRecDepth 100000 in
theorem ct_X3_cellOf {a1 : Int32} {History_oldest : Int32} {History_size : Int32} {History_snapshotTaken : Int32} {History_saved : Nat → Int32} {History_snapshot : Nat → Int32} {res : Int32} (hf : s_X3_cellOf a1 History_oldest = some res) : Ct k_X3_cellOf [.ref 0, .int a1] [.inl (1, [.ref 1, .ref 2, .int History_oldest, .int History_size, .int History_snapshotTaken]), .inr (5460, .inl History_saved), .inr (910, .inl History_snapshot)] (.inl (some (.int res))) [.inl (1, [.ref 1, .ref 2, .int History_oldest, .int History_size, .int History_snapshotTaken]), .inr (5460, .inl History_saved), .inr (910, .inl History_snapshot)] := by
  unfold s_X3_cellOf at hf
  refine Ct.of (L := [some (.ref 0), some (.int a1)]) cal_X3_cellOf (fent_pad (j := 0) rfl) (Nat.le_of_ble_eq_true rfl) ?_
  refine V.aload_n (i := 0) dX3_cellOf_0 rfl rfl ?_
  refine V.getfield (kf := 2) (v := .int History_oldest) fl_RX3 dX3_cellOf_1 w57 (Nat.le_of_ble_eq_true rfl) rfl rfl ?_
  refine V.iload_n (i := 1) dX3_cellOf_4 rfl rfl ?_
  refine V.iadd dX3_cellOf_5 ?_
  refine V.bipush (v := 6) dX3_cellOf_6 rfl ?_
  refine V.irem dX3_cellOf_8 (by decide) ?_
  refine V.sipush (v := 910) dX3_cellOf_9 rfl ?_
  refine V.imul dX3_cellOf_12 ?_
  obtain rfl := Option.some.inj hf
  exact V.iret dX3_cellOf_13 rfl (Nat.le_of_ble_eq_true rfl) (Nat.le_of_ble_eq_true rfl) rfl
def k_X3_push : fK := (yX3_push, cX3_push, 2, none, [], (2, 62), (0, 0), (0, 0))
theorem cal_X3_push : fCal k_X3_push 1 := ⟨⟨wc550, w8⟩, ⟨by decide +kernel, by decide +kernel⟩, by decide +kernel, by decide +kernel⟩
def s_X3_push (History_oldest : Int32) (History_size : Int32) (History_saved : Nat → Int32) (State_cells : Nat → Int32) : Option ((Int32) × (Int32) × (Nat → Int32)) := if (History_size = 6 : Prop) then ((s_X3_cellOf (History_size - 1) ((History_oldest + 1) - (History_oldest + 1) / 6 * 6)).bind fun v3 => (s_X7_copyTo 5460 v3 State_cells History_saved).bind fun v4 => some (((History_oldest + 1) - (History_oldest + 1) / 6 * 6), ((History_size - 1) + 1), v4)) else ((s_X3_cellOf History_size History_oldest).bind fun v1 => (s_X7_copyTo 5460 v1 State_cells History_saved).bind fun v2 => some (History_oldest, (History_size + 1), v2))
set_option maxHeartbeats 4000000 in
set_option maxRecDepth 100000 in
theorem ct_X3_push {History_oldest : Int32} {History_size : Int32} {History_snapshotTaken : Int32} {History_saved : Nat → Int32} {History_snapshot : Nat → Int32} {State_cells : Nat → Int32} {res : (Int32) × (Int32) × (Nat → Int32)} (hf : s_X3_push History_oldest History_size History_saved State_cells = some res) : Ct k_X3_push [.ref 0, .ref 3] [.inl (1, [.ref 1, .ref 2, .int History_oldest, .int History_size, .int History_snapshotTaken]), .inr (5460, .inl History_saved), .inr (910, .inl History_snapshot), .inl (3, [.ref 4]), .inr (910, .inl State_cells)] (.inl none) [.inl (1, [.ref 1, .ref 2, .int res.1, .int res.2.1, .int History_snapshotTaken]), .inr (5460, .inl res.2.2), .inr (910, .inl History_snapshot), .inl (3, [.ref 4]), .inr (910, .inl State_cells)] := by
  unfold s_X3_push at hf
  refine Ct.of (L := [some (.ref 0), some (.ref 3)]) cal_X3_push (fent_pad (j := 0) rfl) (Nat.le_of_ble_eq_true rfl) ?_
  refine V.aload_n (i := 0) dX3_push_0 rfl rfl ?_
  refine V.getfield (kf := 3) (v := .int History_size) fl_RX3 dX3_push_1 w58 (Nat.le_of_ble_eq_true rfl) rfl rfl ?_
  refine V.bipush (v := 6) dX3_push_4 rfl ?_
  refine V.icmp_ne (tgt := 32) dX3_push_6 (by decide) (fun h => ?_) (fun h => ?_)
  · have hf := fif_f h hf
    refine V.aload_n (i := 1) dX3_push_32 rfl rfl ?_
    refine V.aload_n (i := 0) dX3_push_33 rfl rfl ?_
    refine V.getfield (kf := 0) (v := .ref 1) fl_RX3 dX3_push_34 w55 (Nat.le_of_ble_eq_true rfl) rfl rfl ?_
    refine V.aload_n (i := 0) dX3_push_37 rfl rfl ?_
    refine V.aload_n (i := 0) dX3_push_38 rfl rfl ?_
    refine V.getfield (kf := 3) (v := .int History_size) fl_RX3 dX3_push_39 w58 (Nat.le_of_ble_eq_true rfl) rfl rfl ?_
    obtain ⟨v1, hv1, hf⟩ := fbind hf
    refine V.callVn (pl := [0, 1, 2]) (σ' := [.inl (1, [.ref 1, .ref 2, .int History_oldest, .int History_size, .int History_snapshotTaken]), .inr (5460, .inl History_saved), .inr (910, .inl History_snapshot), .inl (3, [.ref 4]), .inr (910, .inl State_cells)]) (st2 := [.int v1, .ref 1, .ref 3]) (cl2 := 0) (sl2 := 0) (ct_X3_cellOf (a1 := History_size) (History_oldest := History_oldest) (History_size := History_size) (History_snapshotTaken := History_snapshotTaken) (History_saved := History_saved) (History_snapshot := History_snapshot) hv1) dX3_push_42 w551 ⟨w553, w4⟩ cal_X3_cellOf rfl ⟨⟨Nat.le_of_ble_eq_true rfl, Nat.le_of_ble_eq_true rfl⟩, Nat.le_of_ble_eq_true rfl, Nat.le_of_ble_eq_true rfl⟩ (Nat.le_of_ble_eq_true rfl) ⟨_, _, _, _, rfl, rfl⟩ rfl ⟨rfl, ⟨by decide, by decide⟩, rfl, (fr_cons (Or.inl (Nat.le_of_ble_eq_true rfl)) (fr_cons (Or.inl (Nat.le_of_ble_eq_true rfl)) (fr_nil))), rfl⟩ fr_i rfl rfl rfl rfl ?_
    obtain ⟨v2, hv2, hf⟩ := fbind hf
    refine V.callVn (pl := [3, 4, 1]) (σ' := [.inl (1, [.ref 1, .ref 2, .int History_oldest, .int History_size, .int History_snapshotTaken]), .inr (5460, .inl v2), .inr (910, .inl History_snapshot), .inl (3, [.ref 4]), .inr (910, .inl State_cells)]) (st2 := []) (cl2 := 0) (sl2 := 0) (ct_X7_copyTo (n1 := 5460) (a2 := v1) (State_cells := State_cells) (row1 := History_saved) hv2) dX3_push_45 w555 ⟨w556, w557⟩ cal_X7_copyTo rfl ⟨⟨Nat.le_of_ble_eq_true rfl, Nat.le_of_ble_eq_true rfl⟩, Nat.le_of_ble_eq_true rfl, Nat.le_of_ble_eq_true rfl⟩ (Nat.le_of_ble_eq_true rfl) ⟨_, _, _, _, rfl, rfl⟩ rfl ⟨rfl, ⟨by decide, by decide⟩, rfl, (fr_cons (Or.inl (Nat.le_of_ble_eq_true rfl)) (fr_nil)), rfl⟩ fr_v rfl rfl rfl rfl ?_
    refine V.aload_n (i := 0) dX3_push_48 rfl rfl ?_
    refine V.dup dX3_push_49 rfl ?_
    refine V.getfield (kf := 3) (v := .int History_size) fl_RX3 dX3_push_50 w58 (Nat.le_of_ble_eq_true rfl) rfl rfl ?_
    refine V.iconst (v := 1) dX3_push_53 rfl ?_
    refine V.iadd dX3_push_54 ?_
    refine V.putfield (ty := tyX3) (kf := 3) (σ' := [.inl (1, [.ref 1, .ref 2, .int History_oldest, .int (History_size + 1), .int History_snapshotTaken]), .inr (5460, .inl v2), .inr (910, .inl History_snapshot), .inl (3, [.ref 4]), .inr (910, .inl State_cells)]) fl_RX3 dX3_push_55 w58 (Nat.le_of_ble_eq_true rfl) rfl (fun _ => ⟨rfl, rfl⟩) rfl (Nat.le_of_ble_eq_true rfl) rfl ?_
    obtain rfl := Option.some.inj hf
    exact V.vret dX3_push_58 rfl (Nat.le_of_ble_eq_true rfl) (Nat.le_of_ble_eq_true rfl) rfl
  · have hf := fif_t h hf
    refine V.aload_n (i := 0) dX3_push_9 rfl rfl ?_
    refine V.aload_n (i := 0) dX3_push_10 rfl rfl ?_
    refine V.getfield (kf := 2) (v := .int History_oldest) fl_RX3 dX3_push_11 w57 (Nat.le_of_ble_eq_true rfl) rfl rfl ?_
    refine V.iconst (v := 1) dX3_push_14 rfl ?_
    refine V.iadd dX3_push_15 ?_
    refine V.bipush (v := 6) dX3_push_16 rfl ?_
    refine V.irem dX3_push_18 (by decide) ?_
    refine V.putfield (ty := tyX3) (kf := 2) (σ' := [.inl (1, [.ref 1, .ref 2, .int ((History_oldest + 1) - (History_oldest + 1) / 6 * 6), .int History_size, .int History_snapshotTaken]), .inr (5460, .inl History_saved), .inr (910, .inl History_snapshot), .inl (3, [.ref 4]), .inr (910, .inl State_cells)]) fl_RX3 dX3_push_19 w57 (Nat.le_of_ble_eq_true rfl) rfl (fun _ => ⟨rfl, rfl⟩) rfl (Nat.le_of_ble_eq_true rfl) rfl ?_
    refine V.aload_n (i := 0) dX3_push_22 rfl rfl ?_
    refine V.dup dX3_push_23 rfl ?_
    refine V.getfield (kf := 3) (v := .int History_size) fl_RX3 dX3_push_24 w58 (Nat.le_of_ble_eq_true rfl) rfl rfl ?_
    refine V.iconst (v := 1) dX3_push_27 rfl ?_
    refine V.isub dX3_push_28 ?_
    refine V.putfield (ty := tyX3) (kf := 3) (σ' := [.inl (1, [.ref 1, .ref 2, .int ((History_oldest + 1) - (History_oldest + 1) / 6 * 6), .int (History_size - 1), .int History_snapshotTaken]), .inr (5460, .inl History_saved), .inr (910, .inl History_snapshot), .inl (3, [.ref 4]), .inr (910, .inl State_cells)]) fl_RX3 dX3_push_29 w58 (Nat.le_of_ble_eq_true rfl) rfl (fun _ => ⟨rfl, rfl⟩) rfl (Nat.le_of_ble_eq_true rfl) rfl ?_
    refine V.aload_n (i := 1) dX3_push_32 rfl rfl ?_
    refine V.aload_n (i := 0) dX3_push_33 rfl rfl ?_
    refine V.getfield (kf := 0) (v := .ref 1) fl_RX3 dX3_push_34 w55 (Nat.le_of_ble_eq_true rfl) rfl rfl ?_
    refine V.aload_n (i := 0) dX3_push_37 rfl rfl ?_
    refine V.aload_n (i := 0) dX3_push_38 rfl rfl ?_
    refine V.getfield (kf := 3) (v := .int (History_size - 1)) fl_RX3 dX3_push_39 w58 (Nat.le_of_ble_eq_true rfl) rfl rfl ?_
    obtain ⟨v3, hv3, hf⟩ := fbind hf
    refine V.callVn (pl := [0, 1, 2]) (σ' := [.inl (1, [.ref 1, .ref 2, .int ((History_oldest + 1) - (History_oldest + 1) / 6 * 6), .int (History_size - 1), .int History_snapshotTaken]), .inr (5460, .inl History_saved), .inr (910, .inl History_snapshot), .inl (3, [.ref 4]), .inr (910, .inl State_cells)]) (st2 := [.int v3, .ref 1, .ref 3]) (cl2 := 0) (sl2 := 0) (ct_X3_cellOf (a1 := (History_size - 1)) (History_oldest := ((History_oldest + 1) - (History_oldest + 1) / 6 * 6)) (History_size := (History_size - 1)) (History_snapshotTaken := History_snapshotTaken) (History_saved := History_saved) (History_snapshot := History_snapshot) hv3) dX3_push_42 w551 ⟨w553, w4⟩ cal_X3_cellOf rfl ⟨⟨Nat.le_of_ble_eq_true rfl, Nat.le_of_ble_eq_true rfl⟩, Nat.le_of_ble_eq_true rfl, Nat.le_of_ble_eq_true rfl⟩ (Nat.le_of_ble_eq_true rfl) ⟨_, _, _, _, rfl, rfl⟩ rfl ⟨rfl, ⟨by decide, by decide⟩, rfl, (fr_cons (Or.inl (Nat.le_of_ble_eq_true rfl)) (fr_cons (Or.inl (Nat.le_of_ble_eq_true rfl)) (fr_nil))), rfl⟩ fr_i rfl rfl rfl rfl ?_
    obtain ⟨v4, hv4, hf⟩ := fbind hf
    refine V.callVn (pl := [3, 4, 1]) (σ' := [.inl (1, [.ref 1, .ref 2, .int ((History_oldest + 1) - (History_oldest + 1) / 6 * 6), .int (History_size - 1), .int History_snapshotTaken]), .inr (5460, .inl v4), .inr (910, .inl History_snapshot), .inl (3, [.ref 4]), .inr (910, .inl State_cells)]) (st2 := []) (cl2 := 0) (sl2 := 0) (ct_X7_copyTo (n1 := 5460) (a2 := v3) (State_cells := State_cells) (row1 := History_saved) hv4) dX3_push_45 w555 ⟨w556, w557⟩ cal_X7_copyTo rfl ⟨⟨Nat.le_of_ble_eq_true rfl, Nat.le_of_ble_eq_true rfl⟩, Nat.le_of_ble_eq_true rfl, Nat.le_of_ble_eq_true rfl⟩ (Nat.le_of_ble_eq_true rfl) ⟨_, _, _, _, rfl, rfl⟩ rfl ⟨rfl, ⟨by decide, by decide⟩, rfl, (fr_cons (Or.inl (Nat.le_of_ble_eq_true rfl)) (fr_nil)), rfl⟩ fr_v rfl rfl rfl rfl ?_
    refine V.aload_n (i := 0) dX3_push_48 rfl rfl ?_
    refine V.dup dX3_push_49 rfl ?_
    refine V.getfield (kf := 3) (v := .int (History_size - 1)) fl_RX3 dX3_push_50 w58 (Nat.le_of_ble_eq_true rfl) rfl rfl ?_
    refine V.iconst (v := 1) dX3_push_53 rfl ?_
    refine V.iadd dX3_push_54 ?_
    refine V.putfield (ty := tyX3) (kf := 3) (σ' := [.inl (1, [.ref 1, .ref 2, .int ((History_oldest + 1) - (History_oldest + 1) / 6 * 6), .int ((History_size - 1) + 1), .int History_snapshotTaken]), .inr (5460, .inl v4), .inr (910, .inl History_snapshot), .inl (3, [.ref 4]), .inr (910, .inl State_cells)]) fl_RX3 dX3_push_55 w58 (Nat.le_of_ble_eq_true rfl) rfl (fun _ => ⟨rfl, rfl⟩) rfl (Nat.le_of_ble_eq_true rfl) rfl ?_
    obtain rfl := Option.some.inj hf
    exact V.vret dX3_push_58 rfl (Nat.le_of_ble_eq_true rfl) (Nat.le_of_ble_eq_true rfl) rfl
def k_X3_hasSnapshot : fK := (yX3_hasSnapshot, cX3_hasSnapshot, 1, (some .boolean), [], (0, 0), (0, 0), (0, 0))
theorem cal_X3_hasSnapshot : fCal k_X3_hasSnapshot 0 := ⟨⟨wc637, w8⟩, ⟨by decide +kernel, by decide +kernel⟩, by decide +kernel, by decide +kernel⟩
def s_X3_hasSnapshot (History_snapshotTaken : Int32) : Option (Int32) := fz History_snapshotTaken (some History_snapshotTaken)
set_option maxHeartbeats 4000000 in
set_option maxRecDepth 100000 in
theorem ct_X3_hasSnapshot {History_oldest : Int32} {History_size : Int32} {History_snapshotTaken : Int32} {History_saved : Nat → Int32} {History_snapshot : Nat → Int32} {res : Int32} (hf : s_X3_hasSnapshot History_snapshotTaken = some res) : Ct k_X3_hasSnapshot [.ref 0] [.inl (1, [.ref 1, .ref 2, .int History_oldest, .int History_size, .int History_snapshotTaken]), .inr (5460, .inl History_saved), .inr (910, .inl History_snapshot)] (.inl (some (.int res))) [.inl (1, [.ref 1, .ref 2, .int History_oldest, .int History_size, .int History_snapshotTaken]), .inr (5460, .inl History_saved), .inr (910, .inl History_snapshot)] := by
  unfold s_X3_hasSnapshot at hf
  refine Ct.of (L := [some (.ref 0)]) cal_X3_hasSnapshot (fent_pad (j := 0) rfl) (Nat.le_of_ble_eq_true rfl) ?_
  refine V.aload_n (i := 0) dX3_hasSnapshot_0 rfl rfl ?_
  refine V.getfield (kf := 4) (v := .int History_snapshotTaken) fl_RX3 dX3_hasSnapshot_1 w59 (Nat.le_of_ble_eq_true rfl) rfl rfl ?_
  obtain ⟨hz, hf⟩ := fz_e hf
  obtain rfl := Option.some.inj hf
  exact V.zret (v := History_snapshotTaken) dX3_hasSnapshot_4 rfl hz (Nat.le_of_ble_eq_true rfl) (Nat.le_of_ble_eq_true rfl) rfl
def k_X3_takeSnapshot : fK := (yX3_takeSnapshot, cX3_takeSnapshot, 2, none, [], (2, 62), (0, 0), (0, 0))
theorem cal_X3_takeSnapshot : fCal k_X3_takeSnapshot 1 := ⟨⟨wc628, w8⟩, ⟨by decide +kernel, by decide +kernel⟩, by decide +kernel, by decide +kernel⟩
def s_X3_takeSnapshot (History_snapshotTaken : Int32) (History_snapshot : Nat → Int32) (State_cells : Nat → Int32) : Option ((Int32) × (Nat → Int32)) := (s_X7_copyTo 910 0 State_cells History_snapshot).bind fun v1 => some (1, v1)
set_option maxHeartbeats 4000000 in
set_option maxRecDepth 100000 in
theorem ct_X3_takeSnapshot {History_oldest : Int32} {History_size : Int32} {History_snapshotTaken : Int32} {History_saved : Nat → Int32} {History_snapshot : Nat → Int32} {State_cells : Nat → Int32} {res : (Int32) × (Nat → Int32)} (hf : s_X3_takeSnapshot History_snapshotTaken History_snapshot State_cells = some res) : Ct k_X3_takeSnapshot [.ref 0, .ref 3] [.inl (1, [.ref 1, .ref 2, .int History_oldest, .int History_size, .int History_snapshotTaken]), .inr (5460, .inl History_saved), .inr (910, .inl History_snapshot), .inl (3, [.ref 4]), .inr (910, .inl State_cells)] (.inl none) [.inl (1, [.ref 1, .ref 2, .int History_oldest, .int History_size, .int res.1]), .inr (5460, .inl History_saved), .inr (910, .inl res.2), .inl (3, [.ref 4]), .inr (910, .inl State_cells)] := by
  unfold s_X3_takeSnapshot at hf
  refine Ct.of (L := [some (.ref 0), some (.ref 3)]) cal_X3_takeSnapshot (fent_pad (j := 0) rfl) (Nat.le_of_ble_eq_true rfl) ?_
  refine V.aload_n (i := 1) dX3_takeSnapshot_0 rfl rfl ?_
  refine V.aload_n (i := 0) dX3_takeSnapshot_1 rfl rfl ?_
  refine V.getfield (kf := 1) (v := .ref 2) fl_RX3 dX3_takeSnapshot_2 w56 (Nat.le_of_ble_eq_true rfl) rfl rfl ?_
  refine V.iconst (v := 0) dX3_takeSnapshot_5 rfl ?_
  obtain ⟨v1, hv1, hf⟩ := fbind hf
  refine V.callVn (pl := [3, 4, 2]) (σ' := [.inl (1, [.ref 1, .ref 2, .int History_oldest, .int History_size, .int History_snapshotTaken]), .inr (5460, .inl History_saved), .inr (910, .inl v1), .inl (3, [.ref 4]), .inr (910, .inl State_cells)]) (st2 := []) (cl2 := 0) (sl2 := 0) (ct_X7_copyTo (n1 := 910) (a2 := 0) (State_cells := State_cells) (row1 := History_snapshot) hv1) dX3_takeSnapshot_6 w555 ⟨w556, w557⟩ cal_X7_copyTo rfl ⟨⟨Nat.le_of_ble_eq_true rfl, Nat.le_of_ble_eq_true rfl⟩, Nat.le_of_ble_eq_true rfl, Nat.le_of_ble_eq_true rfl⟩ (Nat.le_of_ble_eq_true rfl) ⟨_, _, _, _, rfl, rfl⟩ rfl ⟨rfl, ⟨by decide, by decide⟩, rfl, (fr_cons (Or.inl (Nat.le_of_ble_eq_true rfl)) (fr_nil)), rfl⟩ fr_v rfl rfl rfl rfl ?_
  refine V.aload_n (i := 0) dX3_takeSnapshot_9 rfl rfl ?_
  refine V.iconst (v := 1) dX3_takeSnapshot_10 rfl ?_
  refine V.putfield (ty := tyX3) (kf := 4) (σ' := [.inl (1, [.ref 1, .ref 2, .int History_oldest, .int History_size, .int 1]), .inr (5460, .inl History_saved), .inr (910, .inl v1), .inl (3, [.ref 4]), .inr (910, .inl State_cells)]) fl_RX3 dX3_takeSnapshot_11 w59 (Nat.le_of_ble_eq_true rfl) rfl (fun _ => ⟨rfl, rfl⟩) rfl (Nat.le_of_ble_eq_true rfl) rfl ?_
  obtain rfl := Option.some.inj hf
  exact V.vret dX3_takeSnapshot_14 rfl (Nat.le_of_ble_eq_true rfl) (Nat.le_of_ble_eq_true rfl) rfl
def k_X3_loadSnapshot : fK := (yX3_loadSnapshot, cX3_loadSnapshot, 2, none, [], (2, 62), (0, 0), (0, 0))
theorem cal_X3_loadSnapshot : fCal k_X3_loadSnapshot 1 := ⟨⟨wc642, w8⟩, ⟨by decide +kernel, by decide +kernel⟩, by decide +kernel, by decide +kernel⟩
def s_X3_loadSnapshot (History_snapshot : Nat → Int32) (State_cells : Nat → Int32) : Option ((Nat → Int32)) := (s_X7_copyFrom 910 0 State_cells History_snapshot).bind fun v1 => some v1
set_option maxHeartbeats 4000000 in
set_option maxRecDepth 100000 in
theorem ct_X3_loadSnapshot {History_oldest : Int32} {History_size : Int32} {History_snapshotTaken : Int32} {History_saved : Nat → Int32} {History_snapshot : Nat → Int32} {State_cells : Nat → Int32} {res : (Nat → Int32)} (hf : s_X3_loadSnapshot History_snapshot State_cells = some res) : Ct k_X3_loadSnapshot [.ref 0, .ref 3] [.inl (1, [.ref 1, .ref 2, .int History_oldest, .int History_size, .int History_snapshotTaken]), .inr (5460, .inl History_saved), .inr (910, .inl History_snapshot), .inl (3, [.ref 4]), .inr (910, .inl State_cells)] (.inl none) [.inl (1, [.ref 1, .ref 2, .int History_oldest, .int History_size, .int History_snapshotTaken]), .inr (5460, .inl History_saved), .inr (910, .inl History_snapshot), .inl (3, [.ref 4]), .inr (910, .inl res)] := by
  unfold s_X3_loadSnapshot at hf
  refine Ct.of (L := [some (.ref 0), some (.ref 3)]) cal_X3_loadSnapshot (fent_pad (j := 0) rfl) (Nat.le_of_ble_eq_true rfl) ?_
  refine V.aload_n (i := 1) dX3_loadSnapshot_0 rfl rfl ?_
  refine V.aload_n (i := 0) dX3_loadSnapshot_1 rfl rfl ?_
  refine V.getfield (kf := 1) (v := .ref 2) fl_RX3 dX3_loadSnapshot_2 w56 (Nat.le_of_ble_eq_true rfl) rfl rfl ?_
  refine V.iconst (v := 0) dX3_loadSnapshot_5 rfl ?_
  obtain ⟨v1, hv1, hf⟩ := fbind hf
  refine V.callVn (pl := [3, 4, 2]) (σ' := [.inl (1, [.ref 1, .ref 2, .int History_oldest, .int History_size, .int History_snapshotTaken]), .inr (5460, .inl History_saved), .inr (910, .inl History_snapshot), .inl (3, [.ref 4]), .inr (910, .inl v1)]) (st2 := []) (cl2 := 0) (sl2 := 0) (ct_X7_copyFrom (n1 := 910) (a2 := 0) (State_cells := State_cells) (row1 := History_snapshot) hv1) dX3_loadSnapshot_6 w643 ⟨w644, w645⟩ cal_X7_copyFrom rfl ⟨⟨Nat.le_of_ble_eq_true rfl, Nat.le_of_ble_eq_true rfl⟩, Nat.le_of_ble_eq_true rfl, Nat.le_of_ble_eq_true rfl⟩ (Nat.le_of_ble_eq_true rfl) ⟨_, _, _, _, rfl, rfl⟩ rfl ⟨rfl, ⟨by decide, by decide⟩, rfl, (fr_cons (Or.inl (Nat.le_of_ble_eq_true rfl)) (fr_nil)), rfl⟩ fr_v rfl rfl rfl rfl ?_
  obtain rfl := Option.some.inj hf
  exact V.vret dX3_loadSnapshot_9 rfl (Nat.le_of_ble_eq_true rfl) (Nat.le_of_ble_eq_true rfl) rfl
