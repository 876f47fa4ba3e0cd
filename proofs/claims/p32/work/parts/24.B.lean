/-! laid by program: shallow functions and contracts -/
def k_X10_init : fK := (yX10_init, cX10_init, 1, none, [], (2, 43), (10, 7360), (0, 0))
theorem cal_X10_init : fCal k_X10_init 0 := ⟨⟨wc27, w6⟩, ⟨by decide +kernel, by decide +kernel⟩, by decide +kernel, by decide +kernel⟩
def s_X10_init : Option ((Nat → Int32) × (Int32) × (Int32) × (Int32) × (Nat → Int32) × (Nat → Int32) × (Int32) × (Nat → Int32) × (Nat) × (Int32) × (Int32) × (Nat → Int32)) := (s_X7_init).bind fun v1 => (s_X3_init).bind fun v2 => (s_X1_init).bind fun v3 => (s_X5_init).bind fun v4 => (s_X9_init).bind fun v5 => some (v1, v2.1, v2.2.1, v2.2.2.1, v2.2.2.2.1, v2.2.2.2.2, v3.1, v3.2, v4.1, v4.2, v5.1, v5.2)
set_option maxHeartbeats 4000000 in
set_option maxRecDepth 100000 in
theorem ct_X10_init {res : (Nat → Int32) × (Int32) × (Int32) × (Int32) × (Nat → Int32) × (Nat → Int32) × (Int32) × (Nat → Int32) × (Nat) × (Int32) × (Int32) × (Nat → Int32)} (hf : s_X10_init = some res) : Ct k_X10_init [.ref 0] [.inl (5, [.null, .null, .null, .null, .null])] (.inl none) [.inl (5, [.ref 1, .ref 3, .ref 6, .ref 8, .ref 9]), .inl (3, [.ref 2]), .inr (910, .inl res.1), .inl (1, [.ref 4, .ref 5, .int res.2.1, .int res.2.2.1, .int res.2.2.2.1]), .inr (5460, .inl res.2.2.2.2.1), .inr (910, .inl res.2.2.2.2.2.1), .inl (0, [.ref 7, .int res.2.2.2.2.2.2.1]), .inr (60, .inl res.2.2.2.2.2.2.2.1), .inl (2, [.ref (res.2.2.2.2.2.2.2.2.1 + 1000), .int res.2.2.2.2.2.2.2.2.2.1]), .inl (4, [.ref 10, .int res.2.2.2.2.2.2.2.2.2.2.1]), .inr (8, .inl res.2.2.2.2.2.2.2.2.2.2.2)] := by
  unfold s_X10_init at hf
  refine Ct.of (L := [some (.ref 0)]) cal_X10_init (fent_pad (j := 0) rfl) (Nat.le_of_ble_eq_true rfl) ?_
  refine V.aload_n (i := 0) dX10_init_0 rfl rfl ?_
  refine V.objInit dX10_init_1 w28 w29 w30 (Nat.le_of_ble_eq_true rfl) (Nat.le_of_ble_eq_true rfl) ?_
  refine V.aload_n (i := 0) dX10_init_4 rfl rfl ?_
  refine V.new (ci := 3) (fs := [.null]) fl_RX7 dX10_init_5 w31 w32 w7 (fun j hj => by rcases (show j = 0 by omega) with rfl <;> rfl) (fun _ => rfl) rfl (Nat.le_of_ble_eq_true rfl) (Nat.le_of_ble_eq_true rfl) ?_
  refine V.dup dX10_init_8 rfl ?_
  obtain ⟨v1, hv1, hf⟩ := fbind hf
  refine V.callI (pl := [1]) (σ' := [.inl (5, [.null, .null, .null, .null, .null]), .inl (3, [.ref 2]), .inr (910, .inl v1)]) (ct_X7_init hv1) dX10_init_9 (Or.inl w33) w34 rfl rfl cal_X7_init rfl ⟨⟨Nat.le_of_ble_eq_true rfl, Nat.le_of_ble_eq_true rfl⟩, Nat.le_of_ble_eq_true rfl, Nat.le_of_ble_eq_true rfl⟩ (Nat.le_of_ble_eq_true rfl) rfl ⟨rfl, ⟨by decide, by decide⟩, ⟨rfl, rfl⟩, ⟨Nat.le_of_ble_eq_true rfl, Nat.le_of_ble_eq_true rfl⟩, ⟨rfl, rfl⟩, rfl⟩ ?_
  refine V.putfinal (ty := tyX10) (kf := 0) (σ' := [.inl (5, [.ref 1, .null, .null, .null, .null]), .inl (3, [.ref 2]), .inr (910, .inl v1)]) fl_RX10 dX10_init_12 w112 (Nat.le_of_ble_eq_true rfl) rfl rfl rfl rfl (fun _ => ⟨rfl, rfl⟩) rfl (Nat.le_of_ble_eq_true rfl) rfl ?_
  refine V.aload_n (i := 0) dX10_init_15 rfl rfl ?_
  refine V.new (ci := 1) (fs := [.null, .null, .int 0, .int 0, .int 0]) fl_RX3 dX10_init_16 w49 w50 w8 (fun j hj => by rcases (show j = 0 ∨ j = 1 ∨ j = 2 ∨ j = 3 ∨ j = 4 by omega) with rfl | rfl | rfl | rfl | rfl <;> rfl) (fun _ => rfl) rfl (Nat.le_of_ble_eq_true rfl) (Nat.le_of_ble_eq_true rfl) ?_
  refine V.dup dX10_init_19 rfl ?_
  obtain ⟨v2, hv2, hf⟩ := fbind hf
  refine V.callI (pl := [3]) (σ' := [.inl (5, [.ref 1, .null, .null, .null, .null]), .inl (3, [.ref 2]), .inr (910, .inl v1), .inl (1, [.ref 4, .ref 5, .int v2.1, .int v2.2.1, .int v2.2.2.1]), .inr (5460, .inl v2.2.2.2.1), .inr (910, .inl v2.2.2.2.2)]) (ct_X3_init hv2) dX10_init_20 (Or.inr ⟨_, List.mem_of_getElem? (i := 0) rfl⟩) w52 rfl rfl cal_X3_init rfl ⟨⟨Nat.le_of_ble_eq_true rfl, Nat.le_of_ble_eq_true rfl⟩, Nat.le_of_ble_eq_true rfl, Nat.le_of_ble_eq_true rfl⟩ (Nat.le_of_ble_eq_true rfl) rfl ⟨rfl, ⟨by decide, by decide⟩, ⟨rfl, rfl⟩, ⟨Nat.le_of_ble_eq_true rfl, Nat.le_of_ble_eq_true rfl⟩, ⟨rfl, rfl⟩, rfl⟩ ?_
  refine V.putfinal (ty := tyX10) (kf := 1) (σ' := [.inl (5, [.ref 1, .ref 3, .null, .null, .null]), .inl (3, [.ref 2]), .inr (910, .inl v1), .inl (1, [.ref 4, .ref 5, .int v2.1, .int v2.2.1, .int v2.2.2.1]), .inr (5460, .inl v2.2.2.2.1), .inr (910, .inl v2.2.2.2.2)]) fl_RX10 dX10_init_23 w113 (Nat.le_of_ble_eq_true rfl) rfl rfl rfl rfl (fun _ => ⟨rfl, rfl⟩) rfl (Nat.le_of_ble_eq_true rfl) rfl ?_
  refine V.aload_n (i := 0) dX10_init_26 rfl rfl ?_
  refine V.new (ci := 0) (fs := [.null, .int 0]) fl_RX1 dX10_init_27 w71 w72 w9 (fun j hj => by rcases (show j = 0 ∨ j = 1 by omega) with rfl | rfl <;> rfl) (fun _ => rfl) rfl (Nat.le_of_ble_eq_true rfl) (Nat.le_of_ble_eq_true rfl) ?_
  refine V.dup dX10_init_30 rfl ?_
  obtain ⟨v3, hv3, hf⟩ := fbind hf
  refine V.callI (pl := [6]) (σ' := [.inl (5, [.ref 1, .ref 3, .null, .null, .null]), .inl (3, [.ref 2]), .inr (910, .inl v1), .inl (1, [.ref 4, .ref 5, .int v2.1, .int v2.2.1, .int v2.2.2.1]), .inr (5460, .inl v2.2.2.2.1), .inr (910, .inl v2.2.2.2.2), .inl (0, [.ref 7, .int v3.1]), .inr (60, .inl v3.2)]) (ct_X1_init hv3) dX10_init_31 (Or.inr ⟨_, List.mem_of_getElem? (i := 1) rfl⟩) w74 rfl rfl cal_X1_init rfl ⟨⟨Nat.le_of_ble_eq_true rfl, Nat.le_of_ble_eq_true rfl⟩, Nat.le_of_ble_eq_true rfl, Nat.le_of_ble_eq_true rfl⟩ (Nat.le_of_ble_eq_true rfl) rfl ⟨rfl, ⟨by decide, by decide⟩, ⟨rfl, rfl⟩, ⟨Nat.le_of_ble_eq_true rfl, Nat.le_of_ble_eq_true rfl⟩, ⟨rfl, rfl⟩, rfl⟩ ?_
  refine V.putfinal (ty := tyX10) (kf := 2) (σ' := [.inl (5, [.ref 1, .ref 3, .ref 6, .null, .null]), .inl (3, [.ref 2]), .inr (910, .inl v1), .inl (1, [.ref 4, .ref 5, .int v2.1, .int v2.2.1, .int v2.2.2.1]), .inr (5460, .inl v2.2.2.2.1), .inr (910, .inl v2.2.2.2.2), .inl (0, [.ref 7, .int v3.1]), .inr (60, .inl v3.2)]) fl_RX10 dX10_init_34 w114 (Nat.le_of_ble_eq_true rfl) rfl rfl rfl rfl (fun _ => ⟨rfl, rfl⟩) rfl (Nat.le_of_ble_eq_true rfl) rfl ?_
  refine V.aload_n (i := 0) dX10_init_37 rfl rfl ?_
  refine V.new (ci := 2) (fs := [.null, .int 0]) fl_RX5 dX10_init_38 w84 w85 w10 (fun j hj => by rcases (show j = 0 ∨ j = 1 by omega) with rfl | rfl <;> rfl) (fun _ => rfl) rfl (Nat.le_of_ble_eq_true rfl) (Nat.le_of_ble_eq_true rfl) ?_
  refine V.dup dX10_init_41 rfl ?_
  obtain ⟨v4, hv4, hf⟩ := fbind hf
  refine V.callI (pl := [8]) (σ' := [.inl (5, [.ref 1, .ref 3, .ref 6, .null, .null]), .inl (3, [.ref 2]), .inr (910, .inl v1), .inl (1, [.ref 4, .ref 5, .int v2.1, .int v2.2.1, .int v2.2.2.1]), .inr (5460, .inl v2.2.2.2.1), .inr (910, .inl v2.2.2.2.2), .inl (0, [.ref 7, .int v3.1]), .inr (60, .inl v3.2), .inl (2, [.ref (v4.1 + 1000), .int v4.2])]) (ct_X5_init hv4) dX10_init_42 (Or.inr ⟨_, List.mem_of_getElem? (i := 2) rfl⟩) w87 rfl rfl cal_X5_init rfl ⟨⟨Nat.le_of_ble_eq_true rfl, Nat.le_of_ble_eq_true rfl⟩, Nat.le_of_ble_eq_true rfl, Nat.le_of_ble_eq_true rfl⟩ (Nat.le_of_ble_eq_true rfl) rfl ⟨rfl, ⟨by decide, by decide⟩, ⟨rfl, rfl⟩, ⟨Nat.le_of_ble_eq_true rfl, Nat.le_of_ble_eq_true rfl⟩, ⟨rfl, rfl⟩, rfl⟩ ?_
  refine V.putfinal (ty := tyX10) (kf := 3) (σ' := [.inl (5, [.ref 1, .ref 3, .ref 6, .ref 8, .null]), .inl (3, [.ref 2]), .inr (910, .inl v1), .inl (1, [.ref 4, .ref 5, .int v2.1, .int v2.2.1, .int v2.2.2.1]), .inr (5460, .inl v2.2.2.2.1), .inr (910, .inl v2.2.2.2.2), .inl (0, [.ref 7, .int v3.1]), .inr (60, .inl v3.2), .inl (2, [.ref (v4.1 + 1000), .int v4.2])]) fl_RX10 dX10_init_45 w115 (Nat.le_of_ble_eq_true rfl) rfl rfl rfl rfl (fun _ => ⟨rfl, rfl⟩) rfl (Nat.le_of_ble_eq_true rfl) rfl ?_
  refine V.aload_n (i := 0) dX10_init_48 rfl rfl ?_
  refine V.new (ci := 4) (fs := [.null, .int 0]) fl_RX9 dX10_init_49 w99 w100 w11 (fun j hj => by rcases (show j = 0 ∨ j = 1 by omega) with rfl | rfl <;> rfl) (fun _ => rfl) rfl (Nat.le_of_ble_eq_true rfl) (Nat.le_of_ble_eq_true rfl) ?_
  refine V.dup dX10_init_52 rfl ?_
  obtain ⟨v5, hv5, hf⟩ := fbind hf
  refine V.callI (pl := [9]) (σ' := [.inl (5, [.ref 1, .ref 3, .ref 6, .ref 8, .null]), .inl (3, [.ref 2]), .inr (910, .inl v1), .inl (1, [.ref 4, .ref 5, .int v2.1, .int v2.2.1, .int v2.2.2.1]), .inr (5460, .inl v2.2.2.2.1), .inr (910, .inl v2.2.2.2.2), .inl (0, [.ref 7, .int v3.1]), .inr (60, .inl v3.2), .inl (2, [.ref (v4.1 + 1000), .int v4.2]), .inl (4, [.ref 10, .int v5.1]), .inr (8, .inl v5.2)]) (ct_X9_init hv5) dX10_init_53 (Or.inr ⟨_, List.mem_of_getElem? (i := 3) rfl⟩) w102 rfl rfl cal_X9_init rfl ⟨⟨Nat.le_of_ble_eq_true rfl, Nat.le_of_ble_eq_true rfl⟩, Nat.le_of_ble_eq_true rfl, Nat.le_of_ble_eq_true rfl⟩ (Nat.le_of_ble_eq_true rfl) rfl ⟨rfl, ⟨by decide, by decide⟩, ⟨rfl, rfl⟩, ⟨Nat.le_of_ble_eq_true rfl, Nat.le_of_ble_eq_true rfl⟩, ⟨rfl, rfl⟩, rfl⟩ ?_
  refine V.putfinal (ty := tyX10) (kf := 4) (σ' := [.inl (5, [.ref 1, .ref 3, .ref 6, .ref 8, .ref 9]), .inl (3, [.ref 2]), .inr (910, .inl v1), .inl (1, [.ref 4, .ref 5, .int v2.1, .int v2.2.1, .int v2.2.2.1]), .inr (5460, .inl v2.2.2.2.1), .inr (910, .inl v2.2.2.2.2), .inl (0, [.ref 7, .int v3.1]), .inr (60, .inl v3.2), .inl (2, [.ref (v4.1 + 1000), .int v4.2]), .inl (4, [.ref 10, .int v5.1]), .inr (8, .inl v5.2)]) fl_RX10 dX10_init_56 w116 (Nat.le_of_ble_eq_true rfl) rfl rfl rfl rfl (fun _ => ⟨rfl, rfl⟩) rfl (Nat.le_of_ble_eq_true rfl) rfl ?_
  obtain rfl := Option.some.inj hf
  exact V.vret dX10_init_59 rfl (Nat.le_of_ble_eq_true rfl) (Nat.le_of_ble_eq_true rfl) rfl
def k_X10_needFisher : fK := (yX10_needFisher, cX10_needFisher, 1, none, [], (6, 82), (0, 0), (1, 6))
theorem cal_X10_needFisher : fCal k_X10_needFisher 1 := ⟨⟨wc180, w6⟩, ⟨by decide +kernel, by decide +kernel⟩, by decide +kernel, by decide +kernel⟩
def s_X10_needFisher (a0 : Int32) : Option ((Unit ⊕ String)) := if (a0 < 0 : Prop) then (some (.inr "java/lang/IndexOutOfBoundsException")) else (if (a0 < 5 : Prop) then (some (.inl ())) else (some (.inr "java/lang/IndexOutOfBoundsException")))
set_option maxHeartbeats 4000000 in
set_option maxRecDepth 100000 in
theorem ct_X10_needFisher {a0 : Int32} {res : (Unit ⊕ String)} (hf : s_X10_needFisher a0 = some res) : Ct k_X10_needFisher [.int a0] [] (foV res) [] := by
  unfold s_X10_needFisher at hf
  refine Ct.of (L := [some (.int a0)]) cal_X10_needFisher (fent_pad (j := 0) rfl) (Nat.le_of_ble_eq_true rfl) ?_
  refine V.iload_n (i := 0) dX10_needFisher_0 rfl rfl ?_
  refine V.if_lt (tgt := 9) dX10_needFisher_1 (by decide) (fun h => ?_) (fun h => ?_)
  · have hf := fif_t h hf
    obtain rfl := Option.some.inj hf
    exact V.throwSW (i := 1) th_RX10_IndexOutOfBoundsException_131 (List.mem_of_getElem? (i := 1) rfl) dX10_needFisher_9 dX10_needFisher_12 dX10_needFisher_13 dX10_needFisher_16 dX10_needFisher_19 rfl (Nat.le_of_ble_eq_true rfl) (Nat.le_of_ble_eq_true rfl) ⟨Nat.le_of_ble_eq_true rfl, Nat.le_of_ble_eq_true rfl⟩ (Nat.le_of_ble_eq_true rfl) (Nat.le_of_ble_eq_true rfl) rfl
  · have hf := fif_f h hf
    refine V.iload_n (i := 0) dX10_needFisher_4 rfl rfl ?_
    refine V.iconst (v := 5) dX10_needFisher_5 rfl ?_
    refine V.icmp_lt (tgt := 20) dX10_needFisher_6 (by decide) (fun h => ?_) (fun h => ?_)
    · have hf := fif_t h hf
      obtain rfl := Option.some.inj hf
      exact V.vret dX10_needFisher_20 rfl (Nat.le_of_ble_eq_true rfl) (Nat.le_of_ble_eq_true rfl) rfl
    · have hf := fif_f h hf
      obtain rfl := Option.some.inj hf
      exact V.throwSW (i := 1) th_RX10_IndexOutOfBoundsException_131 (List.mem_of_getElem? (i := 1) rfl) dX10_needFisher_9 dX10_needFisher_12 dX10_needFisher_13 dX10_needFisher_16 dX10_needFisher_19 rfl (Nat.le_of_ble_eq_true rfl) (Nat.le_of_ble_eq_true rfl) ⟨Nat.le_of_ble_eq_true rfl, Nat.le_of_ble_eq_true rfl⟩ (Nat.le_of_ble_eq_true rfl) (Nat.le_of_ble_eq_true rfl) rfl
def k_X10_needWord : fK := (yX10_needWord, cX10_needWord, 1, none, [], (6, 82), (0, 0), (1, 6))
theorem cal_X10_needWord : fCal k_X10_needWord 0 := ⟨⟨wc511, w6⟩, ⟨by decide +kernel, by decide +kernel⟩, by decide +kernel, by decide +kernel⟩
def s_X10_needWord (Buffer_size : Int32) (Buffer_codes : Nat → Int32) (Word_size : Int32) (Word_letters : Nat → Int32) : Option ((Unit ⊕ String) × (Int32) × (Nat → Int32)) := (s_X1_spells Buffer_size Buffer_codes Word_size Word_letters).bind fun v1 => if (v1.1 = 0 : Prop) then (some (.inr "java/lang/IllegalArgumentException", v1.2.1, v1.2.2)) else (some (.inl (), v1.2.1, v1.2.2))
set_option maxHeartbeats 4000000 in
set_option maxRecDepth 100000 in
theorem ct_X10_needWord {State_cells : Nat → Int32} {History_oldest : Int32} {History_size : Int32} {History_snapshotTaken : Int32} {History_saved : Nat → Int32} {History_snapshot : Nat → Int32} {Buffer_size : Int32} {Buffer_codes : Nat → Int32} {Reader_pattern : Nat} {Reader_place : Int32} {Word_size : Int32} {Word_letters : Nat → Int32} {res : (Unit ⊕ String) × (Int32) × (Nat → Int32)} (hf : s_X10_needWord Buffer_size Buffer_codes Word_size Word_letters = some res) : Ct k_X10_needWord [.ref 0] [.inl (5, [.ref 1, .ref 3, .ref 6, .ref 8, .ref 9]), .inl (3, [.ref 2]), .inr (910, .inl State_cells), .inl (1, [.ref 4, .ref 5, .int History_oldest, .int History_size, .int History_snapshotTaken]), .inr (5460, .inl History_saved), .inr (910, .inl History_snapshot), .inl (0, [.ref 7, .int Buffer_size]), .inr (60, .inl Buffer_codes), .inl (2, [.ref (Reader_pattern + 1000), .int Reader_place]), .inl (4, [.ref 10, .int Word_size]), .inr (8, .inl Word_letters)] (foV res.1) [.inl (5, [.ref 1, .ref 3, .ref 6, .ref 8, .ref 9]), .inl (3, [.ref 2]), .inr (910, .inl State_cells), .inl (1, [.ref 4, .ref 5, .int History_oldest, .int History_size, .int History_snapshotTaken]), .inr (5460, .inl History_saved), .inr (910, .inl History_snapshot), .inl (0, [.ref 7, .int Buffer_size]), .inr (60, .inl Buffer_codes), .inl (2, [.ref (Reader_pattern + 1000), .int Reader_place]), .inl (4, [.ref 10, .int res.2.1]), .inr (8, .inl res.2.2)] := by
  unfold s_X10_needWord at hf
  refine Ct.of (L := [some (.ref 0)]) cal_X10_needWord (fent_pad (j := 0) rfl) (Nat.le_of_ble_eq_true rfl) ?_
  refine V.aload_n (i := 0) dX10_needWord_0 rfl rfl ?_
  refine V.getfield (kf := 2) (v := .ref 6) fl_RX10 dX10_needWord_1 w114 (Nat.le_of_ble_eq_true rfl) rfl rfl ?_
  refine V.aload_n (i := 0) dX10_needWord_4 rfl rfl ?_
  refine V.getfield (kf := 4) (v := .ref 9) fl_RX10 dX10_needWord_5 w116 (Nat.le_of_ble_eq_true rfl) rfl rfl ?_
  obtain ⟨v1, hv1, hf⟩ := fbind hf
  refine V.callVn (pl := [6, 7, 9, 10]) (σ' := [.inl (5, [.ref 1, .ref 3, .ref 6, .ref 8, .ref 9]), .inl (3, [.ref 2]), .inr (910, .inl State_cells), .inl (1, [.ref 4, .ref 5, .int History_oldest, .int History_size, .int History_snapshotTaken]), .inr (5460, .inl History_saved), .inr (910, .inl History_snapshot), .inl (0, [.ref 7, .int Buffer_size]), .inr (60, .inl Buffer_codes), .inl (2, [.ref (Reader_pattern + 1000), .int Reader_place]), .inl (4, [.ref 10, .int v1.2.1]), .inr (8, .inl v1.2.2)]) (st2 := [.int v1.1]) (cl2 := 0) (sl2 := 0) (ct_X1_spells (Buffer_size := Buffer_size) (Buffer_codes := Buffer_codes) (Word_size := Word_size) (Word_letters := Word_letters) hv1) dX10_needWord_8 w512 ⟨w513, w514⟩ cal_X1_spells rfl ⟨⟨Nat.le_of_ble_eq_true rfl, Nat.le_of_ble_eq_true rfl⟩, Nat.le_of_ble_eq_true rfl, Nat.le_of_ble_eq_true rfl⟩ (Nat.le_of_ble_eq_true rfl) ⟨_, _, _, _, rfl, rfl⟩ rfl ⟨rfl, ⟨by decide, by decide⟩, rfl, (fr_cons (Or.inl (Nat.le_of_ble_eq_true rfl)) (fr_cons (Or.inl (Nat.le_of_ble_eq_true rfl)) (fr_nil))), rfl⟩ fr_i rfl rfl rfl rfl ?_
  refine V.if_ne (tgt := 25) dX10_needWord_11 (by decide) (fun h => ?_) (fun h => ?_)
  · have hf := fif_f h hf
    obtain rfl := Option.some.inj hf
    exact V.vret dX10_needWord_25 rfl (Nat.le_of_ble_eq_true rfl) (Nat.le_of_ble_eq_true rfl) rfl
  · have hf := fif_t h hf
    obtain rfl := Option.some.inj hf
    exact V.throwSW (i := 2) th_RX10_IllegalArgumentException_110 (List.mem_of_getElem? (i := 2) rfl) dX10_needWord_14 dX10_needWord_17 dX10_needWord_18 dX10_needWord_21 dX10_needWord_24 rfl (Nat.le_of_ble_eq_true rfl) (Nat.le_of_ble_eq_true rfl) ⟨Nat.le_of_ble_eq_true rfl, Nat.le_of_ble_eq_true rfl⟩ (Nat.le_of_ble_eq_true rfl) (Nat.le_of_ble_eq_true rfl) rfl
def k_X10_tie : fK := (yX10_tie, cX10_tie, 2, (some .int), [], (7, 102), (0, 0), (1, 6))
theorem cal_X10_tie : fCal k_X10_tie 1 := ⟨⟨wc545, w6⟩, ⟨by decide +kernel, by decide +kernel⟩, by decide +kernel, by decide +kernel⟩
def s_X10_tie (a1 : Int32) (State_cells : Nat → Int32) (History_oldest : Int32) (History_size : Int32) (History_saved : Nat → Int32) (Buffer_size : Int32) (Buffer_codes : Nat → Int32) (Word_size : Int32) (Word_letters : Nat → Int32) : Option ((Int32 ⊕ String) × (Nat → Int32) × (Int32) × (Int32) × (Nat → Int32) × (Int32) × (Int32) × (Nat → Int32)) := (s_X10_needFisher a1).bind fun v1 => fth v1 (fun v2 => (s_X10_needWord Buffer_size Buffer_codes Word_size Word_letters).bind fun v3 => fth v3.1 (fun v4 => (s_X4_whyNotTied a1 State_cells v3.2.1 v3.2.2).bind fun v5 => if (v5 = 0 : Prop) then ((s_X3_push History_oldest History_size History_saved State_cells).bind fun v6 => (s_X1_empty Buffer_size).bind fun v7 => (s_X4_tieOn a1 State_cells v3.2.1 v3.2.2).bind fun v8 => some (.inl v8.1, v8.2, v6.1, v6.2.1, v6.2.2, v7.2, v3.2.1, v3.2.2)) else (some (.inr "java/lang/IllegalStateException", State_cells, History_oldest, History_size, History_saved, Buffer_size, v3.2.1, v3.2.2))) (fun E9 => some (.inr E9, State_cells, History_oldest, History_size, History_saved, Buffer_size, v3.2.1, v3.2.2))) (fun E9 => some (.inr E9, State_cells, History_oldest, History_size, History_saved, Buffer_size, Word_size, Word_letters))
set_option maxHeartbeats 4000000 in
set_option maxRecDepth 100000 in
theorem ct_X10_tie {a1 : Int32} {State_cells : Nat → Int32} {History_oldest : Int32} {History_size : Int32} {History_snapshotTaken : Int32} {History_saved : Nat → Int32} {History_snapshot : Nat → Int32} {Buffer_size : Int32} {Buffer_codes : Nat → Int32} {Reader_pattern : Nat} {Reader_place : Int32} {Word_size : Int32} {Word_letters : Nat → Int32} {res : (Int32 ⊕ String) × (Nat → Int32) × (Int32) × (Int32) × (Nat → Int32) × (Int32) × (Int32) × (Nat → Int32)} (hf : s_X10_tie a1 State_cells History_oldest History_size History_saved Buffer_size Buffer_codes Word_size Word_letters = some res) : Ct k_X10_tie [.ref 0, .int a1] [.inl (5, [.ref 1, .ref 3, .ref 6, .ref 8, .ref 9]), .inl (3, [.ref 2]), .inr (910, .inl State_cells), .inl (1, [.ref 4, .ref 5, .int History_oldest, .int History_size, .int History_snapshotTaken]), .inr (5460, .inl History_saved), .inr (910, .inl History_snapshot), .inl (0, [.ref 7, .int Buffer_size]), .inr (60, .inl Buffer_codes), .inl (2, [.ref (Reader_pattern + 1000), .int Reader_place]), .inl (4, [.ref 10, .int Word_size]), .inr (8, .inl Word_letters)] (foI res.1) [.inl (5, [.ref 1, .ref 3, .ref 6, .ref 8, .ref 9]), .inl (3, [.ref 2]), .inr (910, .inl res.2.1), .inl (1, [.ref 4, .ref 5, .int res.2.2.1, .int res.2.2.2.1, .int History_snapshotTaken]), .inr (5460, .inl res.2.2.2.2.1), .inr (910, .inl History_snapshot), .inl (0, [.ref 7, .int res.2.2.2.2.2.1]), .inr (60, .inl Buffer_codes), .inl (2, [.ref (Reader_pattern + 1000), .int Reader_place]), .inl (4, [.ref 10, .int res.2.2.2.2.2.2.1]), .inr (8, .inl res.2.2.2.2.2.2.2)] := by
  unfold s_X10_tie at hf
  refine Ct.of (L := [some (.ref 0), some (.int a1)]) cal_X10_tie (fent_pad (j := 0) rfl) (Nat.le_of_ble_eq_true rfl) ?_
  refine V.iload_n (i := 1) dX10_tie_0 rfl rfl ?_
  obtain ⟨v1, hv1, hf⟩ := fbind hf
  have hc := ct_X10_needFisher (a0 := a1) hv1
  rcases hv1b : v1 with v2 | E9
  · rw [hv1b] at hc hf
    dsimp only [fth] at hf
    refine V.callSn (pl := []) (σ' := [.inl (5, [.ref 1, .ref 3, .ref 6, .ref 8, .ref 9]), .inl (3, [.ref 2]), .inr (910, .inl State_cells), .inl (1, [.ref 4, .ref 5, .int History_oldest, .int History_size, .int History_snapshotTaken]), .inr (5460, .inl History_saved), .inr (910, .inl History_snapshot), .inl (0, [.ref 7, .int Buffer_size]), .inr (60, .inl Buffer_codes), .inl (2, [.ref (Reader_pattern + 1000), .int Reader_place]), .inl (4, [.ref 10, .int Word_size]), .inr (8, .inl Word_letters)]) (st2 := []) (cl2 := 0) (sl2 := 0) hc dX10_tie_1 w178 w179 cal_X10_needFisher ⟨⟨Nat.le_of_ble_eq_true rfl, Nat.le_of_ble_eq_true rfl⟩, Nat.le_of_ble_eq_true rfl, Nat.le_of_ble_eq_true rfl⟩ (Nat.le_of_ble_eq_true rfl) rfl ⟨rfl, ⟨by decide, by decide⟩, rfl, (fr_nil), rfl⟩ fr_v rfl rfl rfl rfl ?_
    refine V.aload_n (i := 0) dX10_tie_4 rfl rfl ?_
    obtain ⟨v3, hv3, hf⟩ := fbind hf
    have hc := ct_X10_needWord (State_cells := State_cells) (History_oldest := History_oldest) (History_size := History_size) (History_snapshotTaken := History_snapshotTaken) (History_saved := History_saved) (History_snapshot := History_snapshot) (Buffer_size := Buffer_size) (Buffer_codes := Buffer_codes) (Reader_pattern := Reader_pattern) (Reader_place := Reader_place) (Word_size := Word_size) (Word_letters := Word_letters) hv3
    rcases hv3b : v3.1 with v4 | E9
    · rw [hv3b] at hc hf
      dsimp only [fth] at hf
      refine V.callVn (pl := [0, 1, 2, 3, 4, 5, 6, 7, 8, 9, 10]) (σ' := [.inl (5, [.ref 1, .ref 3, .ref 6, .ref 8, .ref 9]), .inl (3, [.ref 2]), .inr (910, .inl State_cells), .inl (1, [.ref 4, .ref 5, .int History_oldest, .int History_size, .int History_snapshotTaken]), .inr (5460, .inl History_saved), .inr (910, .inl History_snapshot), .inl (0, [.ref 7, .int Buffer_size]), .inr (60, .inl Buffer_codes), .inl (2, [.ref (Reader_pattern + 1000), .int Reader_place]), .inl (4, [.ref 10, .int v3.2.1]), .inr (8, .inl v3.2.2)]) (st2 := []) (cl2 := 0) (sl2 := 0) hc dX10_tie_5 w508 ⟨w510, w3⟩ cal_X10_needWord rfl ⟨⟨Nat.le_of_ble_eq_true rfl, Nat.le_of_ble_eq_true rfl⟩, Nat.le_of_ble_eq_true rfl, Nat.le_of_ble_eq_true rfl⟩ (Nat.le_of_ble_eq_true rfl) ⟨_, _, _, _, rfl, rfl⟩ rfl ⟨rfl, ⟨by decide, by decide⟩, rfl, (fr_cons (Or.inl (Nat.le_of_ble_eq_true rfl)) (fr_cons (Or.inl (Nat.le_of_ble_eq_true rfl)) (fr_cons (Or.inl (Nat.le_of_ble_eq_true rfl)) (fr_cons (Or.inl (Nat.le_of_ble_eq_true rfl)) (fr_cons (Or.inl (Nat.le_of_ble_eq_true rfl)) (fr_cons (Or.inl (Nat.le_of_ble_eq_true rfl)) (fr_cons (Or.inl (Nat.le_of_ble_eq_true rfl)) (fr_cons (Or.inl (Nat.le_of_ble_eq_true rfl)) (fr_cons (Or.inl (Nat.le_of_ble_eq_true rfl)) (fr_cons (Or.inr (Nat.le_add_left 1000 _)) (fr_cons (Or.inl (Nat.le_of_ble_eq_true rfl)) (fr_nil)))))))))))), rfl⟩ fr_v rfl rfl rfl rfl ?_
      refine V.aload_n (i := 0) dX10_tie_8 rfl rfl ?_
      refine V.getfield (kf := 0) (v := .ref 1) fl_RX10 dX10_tie_9 w112 (Nat.le_of_ble_eq_true rfl) rfl rfl ?_
      refine V.aload_n (i := 0) dX10_tie_12 rfl rfl ?_
      refine V.getfield (kf := 4) (v := .ref 9) fl_RX10 dX10_tie_13 w116 (Nat.le_of_ble_eq_true rfl) rfl rfl ?_
      refine V.iload_n (i := 1) dX10_tie_16 rfl rfl ?_
      obtain ⟨v5, hv5, hf⟩ := fbind hf
      refine V.callSn (pl := [1, 2, 9, 10]) (σ' := [.inl (5, [.ref 1, .ref 3, .ref 6, .ref 8, .ref 9]), .inl (3, [.ref 2]), .inr (910, .inl State_cells), .inl (1, [.ref 4, .ref 5, .int History_oldest, .int History_size, .int History_snapshotTaken]), .inr (5460, .inl History_saved), .inr (910, .inl History_snapshot), .inl (0, [.ref 7, .int Buffer_size]), .inr (60, .inl Buffer_codes), .inl (2, [.ref (Reader_pattern + 1000), .int Reader_place]), .inl (4, [.ref 10, .int v3.2.1]), .inr (8, .inl v3.2.2)]) (st2 := [.int v5]) (cl2 := 0) (sl2 := 0) (ct_X4_whyNotTied (a2 := a1) (State_cells := State_cells) (Word_size := v3.2.1) (Word_letters := v3.2.2) hv5) dX10_tie_17 w530 w371 cal_X4_whyNotTied ⟨⟨Nat.le_of_ble_eq_true rfl, Nat.le_of_ble_eq_true rfl⟩, Nat.le_of_ble_eq_true rfl, Nat.le_of_ble_eq_true rfl⟩ (Nat.le_of_ble_eq_true rfl) rfl ⟨rfl, ⟨by decide, by decide⟩, rfl, (fr_cons (Or.inl (Nat.le_of_ble_eq_true rfl)) (fr_cons (Or.inl (Nat.le_of_ble_eq_true rfl)) (fr_nil))), rfl⟩ fr_i rfl rfl rfl rfl ?_
      refine V.if_eq (tgt := 33) dX10_tie_20 (by decide) (fun h => ?_) (fun h => ?_)
      · have hf := fif_t h hf
        refine V.aload_n (i := 0) dX10_tie_33 rfl rfl ?_
        refine V.getfield (kf := 1) (v := .ref 3) fl_RX10 dX10_tie_34 w113 (Nat.le_of_ble_eq_true rfl) rfl rfl ?_
        refine V.aload_n (i := 0) dX10_tie_37 rfl rfl ?_
        refine V.getfield (kf := 0) (v := .ref 1) fl_RX10 dX10_tie_38 w112 (Nat.le_of_ble_eq_true rfl) rfl rfl ?_
        obtain ⟨v6, hv6, hf⟩ := fbind hf
        refine V.callVn (pl := [3, 4, 5, 1, 2]) (σ' := [.inl (5, [.ref 1, .ref 3, .ref 6, .ref 8, .ref 9]), .inl (3, [.ref 2]), .inr (910, .inl State_cells), .inl (1, [.ref 4, .ref 5, .int v6.1, .int v6.2.1, .int History_snapshotTaken]), .inr (5460, .inl v6.2.2), .inr (910, .inl History_snapshot), .inl (0, [.ref 7, .int Buffer_size]), .inr (60, .inl Buffer_codes), .inl (2, [.ref (Reader_pattern + 1000), .int Reader_place]), .inl (4, [.ref 10, .int v3.2.1]), .inr (8, .inl v3.2.2)]) (st2 := []) (cl2 := 0) (sl2 := 0) (ct_X3_push (History_oldest := History_oldest) (History_size := History_size) (History_snapshotTaken := History_snapshotTaken) (History_saved := History_saved) (History_snapshot := History_snapshot) (State_cells := State_cells) hv6) dX10_tie_41 w547 ⟨w548, w549⟩ cal_X3_push rfl ⟨⟨Nat.le_of_ble_eq_true rfl, Nat.le_of_ble_eq_true rfl⟩, Nat.le_of_ble_eq_true rfl, Nat.le_of_ble_eq_true rfl⟩ (Nat.le_of_ble_eq_true rfl) ⟨_, _, _, _, rfl, rfl⟩ rfl ⟨rfl, ⟨by decide, by decide⟩, rfl, (fr_cons (Or.inl (Nat.le_of_ble_eq_true rfl)) (fr_cons (Or.inl (Nat.le_of_ble_eq_true rfl)) (fr_cons (Or.inl (Nat.le_of_ble_eq_true rfl)) (fr_nil)))), rfl⟩ fr_v rfl rfl rfl rfl ?_
        refine V.aload_n (i := 0) dX10_tie_44 rfl rfl ?_
        refine V.getfield (kf := 2) (v := .ref 6) fl_RX10 dX10_tie_45 w114 (Nat.le_of_ble_eq_true rfl) rfl rfl ?_
        obtain ⟨v7, hv7, hf⟩ := fbind hf
        refine V.callVn (pl := [6, 7]) (σ' := [.inl (5, [.ref 1, .ref 3, .ref 6, .ref 8, .ref 9]), .inl (3, [.ref 2]), .inr (910, .inl State_cells), .inl (1, [.ref 4, .ref 5, .int v6.1, .int v6.2.1, .int History_snapshotTaken]), .inr (5460, .inl v6.2.2), .inr (910, .inl History_snapshot), .inl (0, [.ref 7, .int v7.2]), .inr (60, .inl Buffer_codes), .inl (2, [.ref (Reader_pattern + 1000), .int Reader_place]), .inl (4, [.ref 10, .int v3.2.1]), .inr (8, .inl v3.2.2)]) (st2 := [.int v7.1]) (cl2 := 0) (sl2 := 0) (ct_X1_empty (Buffer_size := Buffer_size) (Buffer_codes := Buffer_codes) hv7) dX10_tie_48 w471 ⟨w472, w473⟩ cal_X1_empty rfl ⟨⟨Nat.le_of_ble_eq_true rfl, Nat.le_of_ble_eq_true rfl⟩, Nat.le_of_ble_eq_true rfl, Nat.le_of_ble_eq_true rfl⟩ (Nat.le_of_ble_eq_true rfl) ⟨_, _, _, _, rfl, rfl⟩ rfl ⟨rfl, ⟨by decide, by decide⟩, rfl, (fr_cons (Or.inl (Nat.le_of_ble_eq_true rfl)) (fr_nil)), rfl⟩ fr_i rfl rfl rfl rfl ?_
        refine V.pop dX10_tie_51 rfl ?_
        refine V.aload_n (i := 0) dX10_tie_52 rfl rfl ?_
        refine V.getfield (kf := 0) (v := .ref 1) fl_RX10 dX10_tie_53 w112 (Nat.le_of_ble_eq_true rfl) rfl rfl ?_
        refine V.aload_n (i := 0) dX10_tie_56 rfl rfl ?_
        refine V.getfield (kf := 4) (v := .ref 9) fl_RX10 dX10_tie_57 w116 (Nat.le_of_ble_eq_true rfl) rfl rfl ?_
        refine V.iload_n (i := 1) dX10_tie_60 rfl rfl ?_
        obtain ⟨v8, hv8, hf⟩ := fbind hf
        refine V.callSn (pl := [1, 2, 9, 10]) (σ' := [.inl (5, [.ref 1, .ref 3, .ref 6, .ref 8, .ref 9]), .inl (3, [.ref 2]), .inr (910, .inl v8.2), .inl (1, [.ref 4, .ref 5, .int v6.1, .int v6.2.1, .int History_snapshotTaken]), .inr (5460, .inl v6.2.2), .inr (910, .inl History_snapshot), .inl (0, [.ref 7, .int v7.2]), .inr (60, .inl Buffer_codes), .inl (2, [.ref (Reader_pattern + 1000), .int Reader_place]), .inl (4, [.ref 10, .int v3.2.1]), .inr (8, .inl v3.2.2)]) (st2 := [.int v8.1]) (cl2 := 0) (sl2 := 0) (ct_X4_tieOn (a2 := a1) (State_cells := State_cells) (Word_size := v3.2.1) (Word_letters := v3.2.2) hv8) dX10_tie_61 w562 w563 cal_X4_tieOn ⟨⟨Nat.le_of_ble_eq_true rfl, Nat.le_of_ble_eq_true rfl⟩, Nat.le_of_ble_eq_true rfl, Nat.le_of_ble_eq_true rfl⟩ (Nat.le_of_ble_eq_true rfl) rfl ⟨rfl, ⟨by decide, by decide⟩, rfl, (fr_cons (Or.inl (Nat.le_of_ble_eq_true rfl)) (fr_cons (Or.inl (Nat.le_of_ble_eq_true rfl)) (fr_nil))), rfl⟩ fr_i rfl rfl rfl rfl ?_
        obtain rfl := Option.some.inj hf
        exact V.iret dX10_tie_64 rfl (Nat.le_of_ble_eq_true rfl) (Nat.le_of_ble_eq_true rfl) rfl
      · have hf := fif_f h hf
        obtain rfl := Option.some.inj hf
        exact V.throwS (i := 3) th_RX10_IllegalStateException_61 (List.mem_of_getElem? (i := 3) rfl) dX10_tie_23 dX10_tie_26 dX10_tie_27 dX10_tie_29 dX10_tie_32 rfl (Nat.le_of_ble_eq_true rfl) (Nat.le_of_ble_eq_true rfl) ⟨Nat.le_of_ble_eq_true rfl, Nat.le_of_ble_eq_true rfl⟩ (Nat.le_of_ble_eq_true rfl) (Nat.le_of_ble_eq_true rfl) rfl
    · rw [hv3b] at hc hf
      dsimp only [fth] at hf
      obtain rfl := Option.some.inj hf
      refine V.callVx (pl := [0, 1, 2, 3, 4, 5, 6, 7, 8, 9, 10]) (σ' := [.inl (5, [.ref 1, .ref 3, .ref 6, .ref 8, .ref 9]), .inl (3, [.ref 2]), .inr (910, .inl State_cells), .inl (1, [.ref 4, .ref 5, .int History_oldest, .int History_size, .int History_snapshotTaken]), .inr (5460, .inl History_saved), .inr (910, .inl History_snapshot), .inl (0, [.ref 7, .int Buffer_size]), .inr (60, .inl Buffer_codes), .inl (2, [.ref (Reader_pattern + 1000), .int Reader_place]), .inl (4, [.ref 10, .int v3.2.1]), .inr (8, .inl v3.2.2)]) hc dX10_tie_5 w508 ⟨w510, w3⟩ cal_X10_needWord rfl ⟨⟨Nat.le_of_ble_eq_true rfl, Nat.le_of_ble_eq_true rfl⟩, Nat.le_of_ble_eq_true rfl, Nat.le_of_ble_eq_true rfl⟩ (Nat.le_of_ble_eq_true rfl) ⟨_, _, _, _, rfl, rfl⟩ rfl ⟨rfl, ⟨by decide, by decide⟩, rfl, (fr_cons (Or.inl (Nat.le_of_ble_eq_true rfl)) (fr_cons (Or.inl (Nat.le_of_ble_eq_true rfl)) (fr_cons (Or.inl (Nat.le_of_ble_eq_true rfl)) (fr_cons (Or.inl (Nat.le_of_ble_eq_true rfl)) (fr_cons (Or.inl (Nat.le_of_ble_eq_true rfl)) (fr_cons (Or.inl (Nat.le_of_ble_eq_true rfl)) (fr_cons (Or.inl (Nat.le_of_ble_eq_true rfl)) (fr_cons (Or.inl (Nat.le_of_ble_eq_true rfl)) (fr_cons (Or.inl (Nat.le_of_ble_eq_true rfl)) (fr_cons (Or.inr (Nat.le_add_left 1000 _)) (fr_cons (Or.inl (Nat.le_of_ble_eq_true rfl)) (fr_nil)))))))))))), rfl⟩ ?_
      exact VX.out rfl (Nat.le_of_ble_eq_true rfl) (Nat.le_of_ble_eq_true rfl) rfl
  · rw [hv1b] at hc hf
    dsimp only [fth] at hf
    obtain rfl := Option.some.inj hf
    refine V.callSx (pl := []) (σ' := [.inl (5, [.ref 1, .ref 3, .ref 6, .ref 8, .ref 9]), .inl (3, [.ref 2]), .inr (910, .inl State_cells), .inl (1, [.ref 4, .ref 5, .int History_oldest, .int History_size, .int History_snapshotTaken]), .inr (5460, .inl History_saved), .inr (910, .inl History_snapshot), .inl (0, [.ref 7, .int Buffer_size]), .inr (60, .inl Buffer_codes), .inl (2, [.ref (Reader_pattern + 1000), .int Reader_place]), .inl (4, [.ref 10, .int Word_size]), .inr (8, .inl Word_letters)]) hc dX10_tie_1 w178 w179 cal_X10_needFisher ⟨⟨Nat.le_of_ble_eq_true rfl, Nat.le_of_ble_eq_true rfl⟩, Nat.le_of_ble_eq_true rfl, Nat.le_of_ble_eq_true rfl⟩ (Nat.le_of_ble_eq_true rfl) rfl ⟨rfl, ⟨by decide, by decide⟩, rfl, (fr_nil), rfl⟩ ?_
    exact VX.out rfl (Nat.le_of_ble_eq_true rfl) (Nat.le_of_ble_eq_true rfl) rfl
def k_X10_needName : fK := (yX10_needName, cX10_needName, 3, none, [], (7, 102), (0, 0), (1, 6))
theorem cal_X10_needName : fCal k_X10_needName 2 := ⟨⟨wc291, w6⟩, ⟨by decide +kernel, by decide +kernel⟩, by decide +kernel, by decide +kernel⟩
def s_X10_needName (a1 : Int32) (a2 : Int32) (State_cells : Nat → Int32) : Option ((Unit ⊕ String)) := (s_X10_needFisher a1).bind fun v1 => fth v1 (fun v2 => (s_X7_hasName a1 a2 State_cells).bind fun v3 => if (v3 = 0 : Prop) then (some (.inr "java/lang/IndexOutOfBoundsException")) else (some (.inl ()))) (fun E9 => some (.inr E9))
set_option maxHeartbeats 4000000 in
set_option maxRecDepth 100000 in
theorem ct_X10_needName {a1 : Int32} {a2 : Int32} {State_cells : Nat → Int32} {History_oldest : Int32} {History_size : Int32} {History_snapshotTaken : Int32} {History_saved : Nat → Int32} {History_snapshot : Nat → Int32} {Buffer_size : Int32} {Buffer_codes : Nat → Int32} {Reader_pattern : Nat} {Reader_place : Int32} {Word_size : Int32} {Word_letters : Nat → Int32} {res : (Unit ⊕ String)} (hf : s_X10_needName a1 a2 State_cells = some res) : Ct k_X10_needName [.ref 0, .int a1, .int a2] [.inl (5, [.ref 1, .ref 3, .ref 6, .ref 8, .ref 9]), .inl (3, [.ref 2]), .inr (910, .inl State_cells), .inl (1, [.ref 4, .ref 5, .int History_oldest, .int History_size, .int History_snapshotTaken]), .inr (5460, .inl History_saved), .inr (910, .inl History_snapshot), .inl (0, [.ref 7, .int Buffer_size]), .inr (60, .inl Buffer_codes), .inl (2, [.ref (Reader_pattern + 1000), .int Reader_place]), .inl (4, [.ref 10, .int Word_size]), .inr (8, .inl Word_letters)] (foV res) [.inl (5, [.ref 1, .ref 3, .ref 6, .ref 8, .ref 9]), .inl (3, [.ref 2]), .inr (910, .inl State_cells), .inl (1, [.ref 4, .ref 5, .int History_oldest, .int History_size, .int History_snapshotTaken]), .inr (5460, .inl History_saved), .inr (910, .inl History_snapshot), .inl (0, [.ref 7, .int Buffer_size]), .inr (60, .inl Buffer_codes), .inl (2, [.ref (Reader_pattern + 1000), .int Reader_place]), .inl (4, [.ref 10, .int Word_size]), .inr (8, .inl Word_letters)] := by
  unfold s_X10_needName at hf
  refine Ct.of (L := [some (.ref 0), some (.int a1), some (.int a2)]) cal_X10_needName (fent_pad (j := 0) rfl) (Nat.le_of_ble_eq_true rfl) ?_
  refine V.iload_n (i := 1) dX10_needName_0 rfl rfl ?_
  obtain ⟨v1, hv1, hf⟩ := fbind hf
  have hc := ct_X10_needFisher (a0 := a1) hv1
  rcases hv1b : v1 with v2 | E9
  · rw [hv1b] at hc hf
    dsimp only [fth] at hf
    refine V.callSn (pl := []) (σ' := [.inl (5, [.ref 1, .ref 3, .ref 6, .ref 8, .ref 9]), .inl (3, [.ref 2]), .inr (910, .inl State_cells), .inl (1, [.ref 4, .ref 5, .int History_oldest, .int History_size, .int History_snapshotTaken]), .inr (5460, .inl History_saved), .inr (910, .inl History_snapshot), .inl (0, [.ref 7, .int Buffer_size]), .inr (60, .inl Buffer_codes), .inl (2, [.ref (Reader_pattern + 1000), .int Reader_place]), .inl (4, [.ref 10, .int Word_size]), .inr (8, .inl Word_letters)]) (st2 := []) (cl2 := 0) (sl2 := 0) hc dX10_needName_1 w178 w179 cal_X10_needFisher ⟨⟨Nat.le_of_ble_eq_true rfl, Nat.le_of_ble_eq_true rfl⟩, Nat.le_of_ble_eq_true rfl, Nat.le_of_ble_eq_true rfl⟩ (Nat.le_of_ble_eq_true rfl) rfl ⟨rfl, ⟨by decide, by decide⟩, rfl, (fr_nil), rfl⟩ fr_v rfl rfl rfl rfl ?_
    refine V.aload_n (i := 0) dX10_needName_4 rfl rfl ?_
    refine V.getfield (kf := 0) (v := .ref 1) fl_RX10 dX10_needName_5 w112 (Nat.le_of_ble_eq_true rfl) rfl rfl ?_
    refine V.iload_n (i := 1) dX10_needName_8 rfl rfl ?_
    refine V.iload_n (i := 2) dX10_needName_9 rfl rfl ?_
    obtain ⟨v3, hv3, hf⟩ := fbind hf
    refine V.callVn (pl := [1, 2]) (σ' := [.inl (5, [.ref 1, .ref 3, .ref 6, .ref 8, .ref 9]), .inl (3, [.ref 2]), .inr (910, .inl State_cells), .inl (1, [.ref 4, .ref 5, .int History_oldest, .int History_size, .int History_snapshotTaken]), .inr (5460, .inl History_saved), .inr (910, .inl History_snapshot), .inl (0, [.ref 7, .int Buffer_size]), .inr (60, .inl Buffer_codes), .inl (2, [.ref (Reader_pattern + 1000), .int Reader_place]), .inl (4, [.ref 10, .int Word_size]), .inr (8, .inl Word_letters)]) (st2 := [.int v3]) (cl2 := 0) (sl2 := 0) (ct_X7_hasName (a1 := a1) (a2 := a2) (State_cells := State_cells) hv3) dX10_needName_10 w292 ⟨w293, w294⟩ cal_X7_hasName rfl ⟨⟨Nat.le_of_ble_eq_true rfl, Nat.le_of_ble_eq_true rfl⟩, Nat.le_of_ble_eq_true rfl, Nat.le_of_ble_eq_true rfl⟩ (Nat.le_of_ble_eq_true rfl) ⟨_, _, _, _, rfl, rfl⟩ rfl ⟨rfl, ⟨by decide, by decide⟩, rfl, (fr_cons (Or.inl (Nat.le_of_ble_eq_true rfl)) (fr_nil)), rfl⟩ fr_i rfl rfl rfl rfl ?_
    refine V.if_ne (tgt := 27) dX10_needName_13 (by decide) (fun h => ?_) (fun h => ?_)
    · have hf := fif_f h hf
      obtain rfl := Option.some.inj hf
      exact V.vret dX10_needName_27 rfl (Nat.le_of_ble_eq_true rfl) (Nat.le_of_ble_eq_true rfl) rfl
    · have hf := fif_t h hf
      obtain rfl := Option.some.inj hf
      exact V.throwSW (i := 4) th_RX10_IndexOutOfBoundsException_131 (List.mem_of_getElem? (i := 4) rfl) dX10_needName_16 dX10_needName_19 dX10_needName_20 dX10_needName_23 dX10_needName_26 rfl (Nat.le_of_ble_eq_true rfl) (Nat.le_of_ble_eq_true rfl) ⟨Nat.le_of_ble_eq_true rfl, Nat.le_of_ble_eq_true rfl⟩ (Nat.le_of_ble_eq_true rfl) (Nat.le_of_ble_eq_true rfl) rfl
  · rw [hv1b] at hc hf
    dsimp only [fth] at hf
    obtain rfl := Option.some.inj hf
    refine V.callSx (pl := []) (σ' := [.inl (5, [.ref 1, .ref 3, .ref 6, .ref 8, .ref 9]), .inl (3, [.ref 2]), .inr (910, .inl State_cells), .inl (1, [.ref 4, .ref 5, .int History_oldest, .int History_size, .int History_snapshotTaken]), .inr (5460, .inl History_saved), .inr (910, .inl History_snapshot), .inl (0, [.ref 7, .int Buffer_size]), .inr (60, .inl Buffer_codes), .inl (2, [.ref (Reader_pattern + 1000), .int Reader_place]), .inl (4, [.ref 10, .int Word_size]), .inr (8, .inl Word_letters)]) hc dX10_needName_1 w178 w179 cal_X10_needFisher ⟨⟨Nat.le_of_ble_eq_true rfl, Nat.le_of_ble_eq_true rfl⟩, Nat.le_of_ble_eq_true rfl, Nat.le_of_ble_eq_true rfl⟩ (Nat.le_of_ble_eq_true rfl) rfl ⟨rfl, ⟨by decide, by decide⟩, rfl, (fr_nil), rfl⟩ ?_
    exact VX.out rfl (Nat.le_of_ble_eq_true rfl) (Nat.le_of_ble_eq_true rfl) rfl
def k_X10_cut : fK := (yX10_cut, cX10_cut, 3, (some .int), [], (8, 124), (0, 0), (1, 6))
theorem cal_X10_cut : fCal k_X10_cut 2 := ⟨⟨wc650, w6⟩, ⟨by decide +kernel, by decide +kernel⟩, by decide +kernel, by decide +kernel⟩
def s_X10_cut (a1 : Int32) (a2 : Int32) (State_cells : Nat → Int32) (History_oldest : Int32) (History_size : Int32) (History_saved : Nat → Int32) : Option ((Int32 ⊕ String) × (Nat → Int32) × (Int32) × (Int32) × (Nat → Int32)) := (s_X10_needName a1 a2 State_cells).bind fun v1 => fth v1 (fun v2 => (s_X3_push History_oldest History_size History_saved State_cells).bind fun v3 => (s_X4_takeOff a1 a2 State_cells).bind fun v4 => some (.inl v4.1, v4.2, v3.1, v3.2.1, v3.2.2)) (fun E9 => some (.inr E9, State_cells, History_oldest, History_size, History_saved))
set_option maxHeartbeats 4000000 in
set_option maxRecDepth 100000 in
theorem ct_X10_cut {a1 : Int32} {a2 : Int32} {State_cells : Nat → Int32} {History_oldest : Int32} {History_size : Int32} {History_snapshotTaken : Int32} {History_saved : Nat → Int32} {History_snapshot : Nat → Int32} {Buffer_size : Int32} {Buffer_codes : Nat → Int32} {Reader_pattern : Nat} {Reader_place : Int32} {Word_size : Int32} {Word_letters : Nat → Int32} {res : (Int32 ⊕ String) × (Nat → Int32) × (Int32) × (Int32) × (Nat → Int32)} (hf : s_X10_cut a1 a2 State_cells History_oldest History_size History_saved = some res) : Ct k_X10_cut [.ref 0, .int a1, .int a2] [.inl (5, [.ref 1, .ref 3, .ref 6, .ref 8, .ref 9]), .inl (3, [.ref 2]), .inr (910, .inl State_cells), .inl (1, [.ref 4, .ref 5, .int History_oldest, .int History_size, .int History_snapshotTaken]), .inr (5460, .inl History_saved), .inr (910, .inl History_snapshot), .inl (0, [.ref 7, .int Buffer_size]), .inr (60, .inl Buffer_codes), .inl (2, [.ref (Reader_pattern + 1000), .int Reader_place]), .inl (4, [.ref 10, .int Word_size]), .inr (8, .inl Word_letters)] (foI res.1) [.inl (5, [.ref 1, .ref 3, .ref 6, .ref 8, .ref 9]), .inl (3, [.ref 2]), .inr (910, .inl res.2.1), .inl (1, [.ref 4, .ref 5, .int res.2.2.1, .int res.2.2.2.1, .int History_snapshotTaken]), .inr (5460, .inl res.2.2.2.2), .inr (910, .inl History_snapshot), .inl (0, [.ref 7, .int Buffer_size]), .inr (60, .inl Buffer_codes), .inl (2, [.ref (Reader_pattern + 1000), .int Reader_place]), .inl (4, [.ref 10, .int Word_size]), .inr (8, .inl Word_letters)] := by
  unfold s_X10_cut at hf
  refine Ct.of (L := [some (.ref 0), some (.int a1), some (.int a2)]) cal_X10_cut (fent_pad (j := 0) rfl) (Nat.le_of_ble_eq_true rfl) ?_
  refine V.aload_n (i := 0) dX10_cut_0 rfl rfl ?_
  refine V.iload_n (i := 1) dX10_cut_1 rfl rfl ?_
  refine V.iload_n (i := 2) dX10_cut_2 rfl rfl ?_
  obtain ⟨v1, hv1, hf⟩ := fbind hf
  have hc := ct_X10_needName (a1 := a1) (a2 := a2) (State_cells := State_cells) (History_oldest := History_oldest) (History_size := History_size) (History_snapshotTaken := History_snapshotTaken) (History_saved := History_saved) (History_snapshot := History_snapshot) (Buffer_size := Buffer_size) (Buffer_codes := Buffer_codes) (Reader_pattern := Reader_pattern) (Reader_place := Reader_place) (Word_size := Word_size) (Word_letters := Word_letters) hv1
  rcases hv1b : v1 with v2 | E9
  · rw [hv1b] at hc hf
    dsimp only [fth] at hf
    refine V.callVn (pl := [0, 1, 2, 3, 4, 5, 6, 7, 8, 9, 10]) (σ' := [.inl (5, [.ref 1, .ref 3, .ref 6, .ref 8, .ref 9]), .inl (3, [.ref 2]), .inr (910, .inl State_cells), .inl (1, [.ref 4, .ref 5, .int History_oldest, .int History_size, .int History_snapshotTaken]), .inr (5460, .inl History_saved), .inr (910, .inl History_snapshot), .inl (0, [.ref 7, .int Buffer_size]), .inr (60, .inl Buffer_codes), .inl (2, [.ref (Reader_pattern + 1000), .int Reader_place]), .inl (4, [.ref 10, .int Word_size]), .inr (8, .inl Word_letters)]) (st2 := []) (cl2 := 0) (sl2 := 0) hc dX10_cut_3 w288 ⟨w290, w1⟩ cal_X10_needName rfl ⟨⟨Nat.le_of_ble_eq_true rfl, Nat.le_of_ble_eq_true rfl⟩, Nat.le_of_ble_eq_true rfl, Nat.le_of_ble_eq_true rfl⟩ (Nat.le_of_ble_eq_true rfl) ⟨_, _, _, _, rfl, rfl⟩ rfl ⟨rfl, ⟨by decide, by decide⟩, rfl, (fr_cons (Or.inl (Nat.le_of_ble_eq_true rfl)) (fr_cons (Or.inl (Nat.le_of_ble_eq_true rfl)) (fr_cons (Or.inl (Nat.le_of_ble_eq_true rfl)) (fr_cons (Or.inl (Nat.le_of_ble_eq_true rfl)) (fr_cons (Or.inl (Nat.le_of_ble_eq_true rfl)) (fr_cons (Or.inl (Nat.le_of_ble_eq_true rfl)) (fr_cons (Or.inl (Nat.le_of_ble_eq_true rfl)) (fr_cons (Or.inl (Nat.le_of_ble_eq_true rfl)) (fr_cons (Or.inl (Nat.le_of_ble_eq_true rfl)) (fr_cons (Or.inr (Nat.le_add_left 1000 _)) (fr_cons (Or.inl (Nat.le_of_ble_eq_true rfl)) (fr_nil)))))))))))), rfl⟩ fr_v rfl rfl rfl rfl ?_
    refine V.aload_n (i := 0) dX10_cut_6 rfl rfl ?_
    refine V.getfield (kf := 1) (v := .ref 3) fl_RX10 dX10_cut_7 w113 (Nat.le_of_ble_eq_true rfl) rfl rfl ?_
    refine V.aload_n (i := 0) dX10_cut_10 rfl rfl ?_
    refine V.getfield (kf := 0) (v := .ref 1) fl_RX10 dX10_cut_11 w112 (Nat.le_of_ble_eq_true rfl) rfl rfl ?_
    obtain ⟨v3, hv3, hf⟩ := fbind hf
    refine V.callVn (pl := [3, 4, 5, 1, 2]) (σ' := [.inl (5, [.ref 1, .ref 3, .ref 6, .ref 8, .ref 9]), .inl (3, [.ref 2]), .inr (910, .inl State_cells), .inl (1, [.ref 4, .ref 5, .int v3.1, .int v3.2.1, .int History_snapshotTaken]), .inr (5460, .inl v3.2.2), .inr (910, .inl History_snapshot), .inl (0, [.ref 7, .int Buffer_size]), .inr (60, .inl Buffer_codes), .inl (2, [.ref (Reader_pattern + 1000), .int Reader_place]), .inl (4, [.ref 10, .int Word_size]), .inr (8, .inl Word_letters)]) (st2 := []) (cl2 := 0) (sl2 := 0) (ct_X3_push (History_oldest := History_oldest) (History_size := History_size) (History_snapshotTaken := History_snapshotTaken) (History_saved := History_saved) (History_snapshot := History_snapshot) (State_cells := State_cells) hv3) dX10_cut_14 w547 ⟨w548, w549⟩ cal_X3_push rfl ⟨⟨Nat.le_of_ble_eq_true rfl, Nat.le_of_ble_eq_true rfl⟩, Nat.le_of_ble_eq_true rfl, Nat.le_of_ble_eq_true rfl⟩ (Nat.le_of_ble_eq_true rfl) ⟨_, _, _, _, rfl, rfl⟩ rfl ⟨rfl, ⟨by decide, by decide⟩, rfl, (fr_cons (Or.inl (Nat.le_of_ble_eq_true rfl)) (fr_cons (Or.inl (Nat.le_of_ble_eq_true rfl)) (fr_cons (Or.inl (Nat.le_of_ble_eq_true rfl)) (fr_nil)))), rfl⟩ fr_v rfl rfl rfl rfl ?_
    refine V.aload_n (i := 0) dX10_cut_17 rfl rfl ?_
    refine V.getfield (kf := 0) (v := .ref 1) fl_RX10 dX10_cut_18 w112 (Nat.le_of_ble_eq_true rfl) rfl rfl ?_
    refine V.iload_n (i := 1) dX10_cut_21 rfl rfl ?_
    refine V.iload_n (i := 2) dX10_cut_22 rfl rfl ?_
    obtain ⟨v4, hv4, hf⟩ := fbind hf
    refine V.callSn (pl := [1, 2]) (σ' := [.inl (5, [.ref 1, .ref 3, .ref 6, .ref 8, .ref 9]), .inl (3, [.ref 2]), .inr (910, .inl v4.2), .inl (1, [.ref 4, .ref 5, .int v3.1, .int v3.2.1, .int History_snapshotTaken]), .inr (5460, .inl v3.2.2), .inr (910, .inl History_snapshot), .inl (0, [.ref 7, .int Buffer_size]), .inr (60, .inl Buffer_codes), .inl (2, [.ref (Reader_pattern + 1000), .int Reader_place]), .inl (4, [.ref 10, .int Word_size]), .inr (8, .inl Word_letters)]) (st2 := [.int v4.1]) (cl2 := 0) (sl2 := 0) (ct_X4_takeOff (a1 := a1) (a2 := a2) (State_cells := State_cells) hv4) dX10_cut_23 w651 w613 cal_X4_takeOff ⟨⟨Nat.le_of_ble_eq_true rfl, Nat.le_of_ble_eq_true rfl⟩, Nat.le_of_ble_eq_true rfl, Nat.le_of_ble_eq_true rfl⟩ (Nat.le_of_ble_eq_true rfl) rfl ⟨rfl, ⟨by decide, by decide⟩, rfl, (fr_cons (Or.inl (Nat.le_of_ble_eq_true rfl)) (fr_nil)), rfl⟩ fr_i rfl rfl rfl rfl ?_
    obtain rfl := Option.some.inj hf
    exact V.iret dX10_cut_26 rfl (Nat.le_of_ble_eq_true rfl) (Nat.le_of_ble_eq_true rfl) rfl
  · rw [hv1b] at hc hf
    dsimp only [fth] at hf
    obtain rfl := Option.some.inj hf
    refine V.callVx (pl := [0, 1, 2, 3, 4, 5, 6, 7, 8, 9, 10]) (σ' := [.inl (5, [.ref 1, .ref 3, .ref 6, .ref 8, .ref 9]), .inl (3, [.ref 2]), .inr (910, .inl State_cells), .inl (1, [.ref 4, .ref 5, .int History_oldest, .int History_size, .int History_snapshotTaken]), .inr (5460, .inl History_saved), .inr (910, .inl History_snapshot), .inl (0, [.ref 7, .int Buffer_size]), .inr (60, .inl Buffer_codes), .inl (2, [.ref (Reader_pattern + 1000), .int Reader_place]), .inl (4, [.ref 10, .int Word_size]), .inr (8, .inl Word_letters)]) hc dX10_cut_3 w288 ⟨w290, w1⟩ cal_X10_needName rfl ⟨⟨Nat.le_of_ble_eq_true rfl, Nat.le_of_ble_eq_true rfl⟩, Nat.le_of_ble_eq_true rfl, Nat.le_of_ble_eq_true rfl⟩ (Nat.le_of_ble_eq_true rfl) ⟨_, _, _, _, rfl, rfl⟩ rfl ⟨rfl, ⟨by decide, by decide⟩, rfl, (fr_cons (Or.inl (Nat.le_of_ble_eq_true rfl)) (fr_cons (Or.inl (Nat.le_of_ble_eq_true rfl)) (fr_cons (Or.inl (Nat.le_of_ble_eq_true rfl)) (fr_cons (Or.inl (Nat.le_of_ble_eq_true rfl)) (fr_cons (Or.inl (Nat.le_of_ble_eq_true rfl)) (fr_cons (Or.inl (Nat.le_of_ble_eq_true rfl)) (fr_cons (Or.inl (Nat.le_of_ble_eq_true rfl)) (fr_cons (Or.inl (Nat.le_of_ble_eq_true rfl)) (fr_cons (Or.inl (Nat.le_of_ble_eq_true rfl)) (fr_cons (Or.inr (Nat.le_add_left 1000 _)) (fr_cons (Or.inl (Nat.le_of_ble_eq_true rfl)) (fr_nil)))))))))))), rfl⟩ ?_
    exact VX.out rfl (Nat.le_of_ble_eq_true rfl) (Nat.le_of_ble_eq_true rfl) rfl
def k_X10_fast : fK := (yX10_fast, cX10_fast, 3, (some .int), [], (8, 124), (0, 0), (1, 6))
theorem cal_X10_fast : fCal k_X10_fast 2 := ⟨⟨wc661, w6⟩, ⟨by decide +kernel, by decide +kernel⟩, by decide +kernel, by decide +kernel⟩
def s_X10_fast (a1 : Int32) (a2 : Int32) (State_cells : Nat → Int32) (History_oldest : Int32) (History_size : Int32) (History_saved : Nat → Int32) : Option ((Int32 ⊕ String) × (Nat → Int32) × (Int32) × (Int32) × (Nat → Int32)) := (s_X10_needName a1 a2 State_cells).bind fun v1 => fth v1 (fun v2 => (s_X4_whyNotTightened a1 a2 State_cells).bind fun v3 => if (v3 = 0 : Prop) then ((s_X3_push History_oldest History_size History_saved State_cells).bind fun v4 => (s_X4_tighten a1 a2 State_cells).bind fun v5 => some (.inl v5.1, v5.2, v4.1, v4.2.1, v4.2.2)) else (some (.inr "java/lang/IllegalStateException", State_cells, History_oldest, History_size, History_saved))) (fun E9 => some (.inr E9, State_cells, History_oldest, History_size, History_saved))
set_option maxHeartbeats 4000000 in
set_option maxRecDepth 100000 in
theorem ct_X10_fast {a1 : Int32} {a2 : Int32} {State_cells : Nat → Int32} {History_oldest : Int32} {History_size : Int32} {History_snapshotTaken : Int32} {History_saved : Nat → Int32} {History_snapshot : Nat → Int32} {Buffer_size : Int32} {Buffer_codes : Nat → Int32} {Reader_pattern : Nat} {Reader_place : Int32} {Word_size : Int32} {Word_letters : Nat → Int32} {res : (Int32 ⊕ String) × (Nat → Int32) × (Int32) × (Int32) × (Nat → Int32)} (hf : s_X10_fast a1 a2 State_cells History_oldest History_size History_saved = some res) : Ct k_X10_fast [.ref 0, .int a1, .int a2] [.inl (5, [.ref 1, .ref 3, .ref 6, .ref 8, .ref 9]), .inl (3, [.ref 2]), .inr (910, .inl State_cells), .inl (1, [.ref 4, .ref 5, .int History_oldest, .int History_size, .int History_snapshotTaken]), .inr (5460, .inl History_saved), .inr (910, .inl History_snapshot), .inl (0, [.ref 7, .int Buffer_size]), .inr (60, .inl Buffer_codes), .inl (2, [.ref (Reader_pattern + 1000), .int Reader_place]), .inl (4, [.ref 10, .int Word_size]), .inr (8, .inl Word_letters)] (foI res.1) [.inl (5, [.ref 1, .ref 3, .ref 6, .ref 8, .ref 9]), .inl (3, [.ref 2]), .inr (910, .inl res.2.1), .inl (1, [.ref 4, .ref 5, .int res.2.2.1, .int res.2.2.2.1, .int History_snapshotTaken]), .inr (5460, .inl res.2.2.2.2), .inr (910, .inl History_snapshot), .inl (0, [.ref 7, .int Buffer_size]), .inr (60, .inl Buffer_codes), .inl (2, [.ref (Reader_pattern + 1000), .int Reader_place]), .inl (4, [.ref 10, .int Word_size]), .inr (8, .inl Word_letters)] := by
  unfold s_X10_fast at hf
  refine Ct.of (L := [some (.ref 0), some (.int a1), some (.int a2)]) cal_X10_fast (fent_pad (j := 0) rfl) (Nat.le_of_ble_eq_true rfl) ?_
  refine V.aload_n (i := 0) dX10_fast_0 rfl rfl ?_
  refine V.iload_n (i := 1) dX10_fast_1 rfl rfl ?_
  refine V.iload_n (i := 2) dX10_fast_2 rfl rfl ?_
  obtain ⟨v1, hv1, hf⟩ := fbind hf
  have hc := ct_X10_needName (a1 := a1) (a2 := a2) (State_cells := State_cells) (History_oldest := History_oldest) (History_size := History_size) (History_snapshotTaken := History_snapshotTaken) (History_saved := History_saved) (History_snapshot := History_snapshot) (Buffer_size := Buffer_size) (Buffer_codes := Buffer_codes) (Reader_pattern := Reader_pattern) (Reader_place := Reader_place) (Word_size := Word_size) (Word_letters := Word_letters) hv1
  rcases hv1b : v1 with v2 | E9
  · rw [hv1b] at hc hf
    dsimp only [fth] at hf
    refine V.callVn (pl := [0, 1, 2, 3, 4, 5, 6, 7, 8, 9, 10]) (σ' := [.inl (5, [.ref 1, .ref 3, .ref 6, .ref 8, .ref 9]), .inl (3, [.ref 2]), .inr (910, .inl State_cells), .inl (1, [.ref 4, .ref 5, .int History_oldest, .int History_size, .int History_snapshotTaken]), .inr (5460, .inl History_saved), .inr (910, .inl History_snapshot), .inl (0, [.ref 7, .int Buffer_size]), .inr (60, .inl Buffer_codes), .inl (2, [.ref (Reader_pattern + 1000), .int Reader_place]), .inl (4, [.ref 10, .int Word_size]), .inr (8, .inl Word_letters)]) (st2 := []) (cl2 := 0) (sl2 := 0) hc dX10_fast_3 w288 ⟨w290, w1⟩ cal_X10_needName rfl ⟨⟨Nat.le_of_ble_eq_true rfl, Nat.le_of_ble_eq_true rfl⟩, Nat.le_of_ble_eq_true rfl, Nat.le_of_ble_eq_true rfl⟩ (Nat.le_of_ble_eq_true rfl) ⟨_, _, _, _, rfl, rfl⟩ rfl ⟨rfl, ⟨by decide, by decide⟩, rfl, (fr_cons (Or.inl (Nat.le_of_ble_eq_true rfl)) (fr_cons (Or.inl (Nat.le_of_ble_eq_true rfl)) (fr_cons (Or.inl (Nat.le_of_ble_eq_true rfl)) (fr_cons (Or.inl (Nat.le_of_ble_eq_true rfl)) (fr_cons (Or.inl (Nat.le_of_ble_eq_true rfl)) (fr_cons (Or.inl (Nat.le_of_ble_eq_true rfl)) (fr_cons (Or.inl (Nat.le_of_ble_eq_true rfl)) (fr_cons (Or.inl (Nat.le_of_ble_eq_true rfl)) (fr_cons (Or.inl (Nat.le_of_ble_eq_true rfl)) (fr_cons (Or.inr (Nat.le_add_left 1000 _)) (fr_cons (Or.inl (Nat.le_of_ble_eq_true rfl)) (fr_nil)))))))))))), rfl⟩ fr_v rfl rfl rfl rfl ?_
    refine V.aload_n (i := 0) dX10_fast_6 rfl rfl ?_
    refine V.getfield (kf := 0) (v := .ref 1) fl_RX10 dX10_fast_7 w112 (Nat.le_of_ble_eq_true rfl) rfl rfl ?_
    refine V.iload_n (i := 1) dX10_fast_10 rfl rfl ?_
    refine V.iload_n (i := 2) dX10_fast_11 rfl rfl ?_
    obtain ⟨v3, hv3, hf⟩ := fbind hf
    refine V.callSn (pl := [1, 2]) (σ' := [.inl (5, [.ref 1, .ref 3, .ref 6, .ref 8, .ref 9]), .inl (3, [.ref 2]), .inr (910, .inl State_cells), .inl (1, [.ref 4, .ref 5, .int History_oldest, .int History_size, .int History_snapshotTaken]), .inr (5460, .inl History_saved), .inr (910, .inl History_snapshot), .inl (0, [.ref 7, .int Buffer_size]), .inr (60, .inl Buffer_codes), .inl (2, [.ref (Reader_pattern + 1000), .int Reader_place]), .inl (4, [.ref 10, .int Word_size]), .inr (8, .inl Word_letters)]) (st2 := [.int v3]) (cl2 := 0) (sl2 := 0) (ct_X4_whyNotTightened (a1 := a1) (a2 := a2) (State_cells := State_cells) hv3) dX10_fast_12 w662 w663 cal_X4_whyNotTightened ⟨⟨Nat.le_of_ble_eq_true rfl, Nat.le_of_ble_eq_true rfl⟩, Nat.le_of_ble_eq_true rfl, Nat.le_of_ble_eq_true rfl⟩ (Nat.le_of_ble_eq_true rfl) rfl ⟨rfl, ⟨by decide, by decide⟩, rfl, (fr_cons (Or.inl (Nat.le_of_ble_eq_true rfl)) (fr_nil)), rfl⟩ fr_i rfl rfl rfl rfl ?_
    refine V.if_eq (tgt := 28) dX10_fast_15 (by decide) (fun h => ?_) (fun h => ?_)
    · have hf := fif_t h hf
      refine V.aload_n (i := 0) dX10_fast_28 rfl rfl ?_
      refine V.getfield (kf := 1) (v := .ref 3) fl_RX10 dX10_fast_29 w113 (Nat.le_of_ble_eq_true rfl) rfl rfl ?_
      refine V.aload_n (i := 0) dX10_fast_32 rfl rfl ?_
      refine V.getfield (kf := 0) (v := .ref 1) fl_RX10 dX10_fast_33 w112 (Nat.le_of_ble_eq_true rfl) rfl rfl ?_
      obtain ⟨v4, hv4, hf⟩ := fbind hf
      refine V.callVn (pl := [3, 4, 5, 1, 2]) (σ' := [.inl (5, [.ref 1, .ref 3, .ref 6, .ref 8, .ref 9]), .inl (3, [.ref 2]), .inr (910, .inl State_cells), .inl (1, [.ref 4, .ref 5, .int v4.1, .int v4.2.1, .int History_snapshotTaken]), .inr (5460, .inl v4.2.2), .inr (910, .inl History_snapshot), .inl (0, [.ref 7, .int Buffer_size]), .inr (60, .inl Buffer_codes), .inl (2, [.ref (Reader_pattern + 1000), .int Reader_place]), .inl (4, [.ref 10, .int Word_size]), .inr (8, .inl Word_letters)]) (st2 := []) (cl2 := 0) (sl2 := 0) (ct_X3_push (History_oldest := History_oldest) (History_size := History_size) (History_snapshotTaken := History_snapshotTaken) (History_saved := History_saved) (History_snapshot := History_snapshot) (State_cells := State_cells) hv4) dX10_fast_36 w547 ⟨w548, w549⟩ cal_X3_push rfl ⟨⟨Nat.le_of_ble_eq_true rfl, Nat.le_of_ble_eq_true rfl⟩, Nat.le_of_ble_eq_true rfl, Nat.le_of_ble_eq_true rfl⟩ (Nat.le_of_ble_eq_true rfl) ⟨_, _, _, _, rfl, rfl⟩ rfl ⟨rfl, ⟨by decide, by decide⟩, rfl, (fr_cons (Or.inl (Nat.le_of_ble_eq_true rfl)) (fr_cons (Or.inl (Nat.le_of_ble_eq_true rfl)) (fr_cons (Or.inl (Nat.le_of_ble_eq_true rfl)) (fr_nil)))), rfl⟩ fr_v rfl rfl rfl rfl ?_
      refine V.aload_n (i := 0) dX10_fast_39 rfl rfl ?_
      refine V.getfield (kf := 0) (v := .ref 1) fl_RX10 dX10_fast_40 w112 (Nat.le_of_ble_eq_true rfl) rfl rfl ?_
      refine V.iload_n (i := 1) dX10_fast_43 rfl rfl ?_
      refine V.iload_n (i := 2) dX10_fast_44 rfl rfl ?_
      obtain ⟨v5, hv5, hf⟩ := fbind hf
      refine V.callSn (pl := [1, 2]) (σ' := [.inl (5, [.ref 1, .ref 3, .ref 6, .ref 8, .ref 9]), .inl (3, [.ref 2]), .inr (910, .inl v5.2), .inl (1, [.ref 4, .ref 5, .int v4.1, .int v4.2.1, .int History_snapshotTaken]), .inr (5460, .inl v4.2.2), .inr (910, .inl History_snapshot), .inl (0, [.ref 7, .int Buffer_size]), .inr (60, .inl Buffer_codes), .inl (2, [.ref (Reader_pattern + 1000), .int Reader_place]), .inl (4, [.ref 10, .int Word_size]), .inr (8, .inl Word_letters)]) (st2 := [.int v5.1]) (cl2 := 0) (sl2 := 0) (ct_X4_tighten (a1 := a1) (a2 := a2) (State_cells := State_cells) hv5) dX10_fast_45 w672 w673 cal_X4_tighten ⟨⟨Nat.le_of_ble_eq_true rfl, Nat.le_of_ble_eq_true rfl⟩, Nat.le_of_ble_eq_true rfl, Nat.le_of_ble_eq_true rfl⟩ (Nat.le_of_ble_eq_true rfl) rfl ⟨rfl, ⟨by decide, by decide⟩, rfl, (fr_cons (Or.inl (Nat.le_of_ble_eq_true rfl)) (fr_nil)), rfl⟩ fr_i rfl rfl rfl rfl ?_
      obtain rfl := Option.some.inj hf
      exact V.iret dX10_fast_48 rfl (Nat.le_of_ble_eq_true rfl) (Nat.le_of_ble_eq_true rfl) rfl
    · have hf := fif_f h hf
      obtain rfl := Option.some.inj hf
      exact V.throwS (i := 5) th_RX10_IllegalStateException_61 (List.mem_of_getElem? (i := 5) rfl) dX10_fast_18 dX10_fast_21 dX10_fast_22 dX10_fast_24 dX10_fast_27 rfl (Nat.le_of_ble_eq_true rfl) (Nat.le_of_ble_eq_true rfl) ⟨Nat.le_of_ble_eq_true rfl, Nat.le_of_ble_eq_true rfl⟩ (Nat.le_of_ble_eq_true rfl) (Nat.le_of_ble_eq_true rfl) rfl
  · rw [hv1b] at hc hf
    dsimp only [fth] at hf
    obtain rfl := Option.some.inj hf
    refine V.callVx (pl := [0, 1, 2, 3, 4, 5, 6, 7, 8, 9, 10]) (σ' := [.inl (5, [.ref 1, .ref 3, .ref 6, .ref 8, .ref 9]), .inl (3, [.ref 2]), .inr (910, .inl State_cells), .inl (1, [.ref 4, .ref 5, .int History_oldest, .int History_size, .int History_snapshotTaken]), .inr (5460, .inl History_saved), .inr (910, .inl History_snapshot), .inl (0, [.ref 7, .int Buffer_size]), .inr (60, .inl Buffer_codes), .inl (2, [.ref (Reader_pattern + 1000), .int Reader_place]), .inl (4, [.ref 10, .int Word_size]), .inr (8, .inl Word_letters)]) hc dX10_fast_3 w288 ⟨w290, w1⟩ cal_X10_needName rfl ⟨⟨Nat.le_of_ble_eq_true rfl, Nat.le_of_ble_eq_true rfl⟩, Nat.le_of_ble_eq_true rfl, Nat.le_of_ble_eq_true rfl⟩ (Nat.le_of_ble_eq_true rfl) ⟨_, _, _, _, rfl, rfl⟩ rfl ⟨rfl, ⟨by decide, by decide⟩, rfl, (fr_cons (Or.inl (Nat.le_of_ble_eq_true rfl)) (fr_cons (Or.inl (Nat.le_of_ble_eq_true rfl)) (fr_cons (Or.inl (Nat.le_of_ble_eq_true rfl)) (fr_cons (Or.inl (Nat.le_of_ble_eq_true rfl)) (fr_cons (Or.inl (Nat.le_of_ble_eq_true rfl)) (fr_cons (Or.inl (Nat.le_of_ble_eq_true rfl)) (fr_cons (Or.inl (Nat.le_of_ble_eq_true rfl)) (fr_cons (Or.inl (Nat.le_of_ble_eq_true rfl)) (fr_cons (Or.inl (Nat.le_of_ble_eq_true rfl)) (fr_cons (Or.inr (Nat.le_add_left 1000 _)) (fr_cons (Or.inl (Nat.le_of_ble_eq_true rfl)) (fr_nil)))))))))))), rfl⟩ ?_
    exact VX.out rfl (Nat.le_of_ble_eq_true rfl) (Nat.le_of_ble_eq_true rfl) rfl
def k_X10_give : fK := (yX10_give, cX10_give, 4, (some .int), [], (8, 124), (0, 0), (1, 6))
theorem cal_X10_give : fCal k_X10_give 3 := ⟨⟨wc687, w6⟩, ⟨by decide +kernel, by decide +kernel⟩, by decide +kernel, by decide +kernel⟩
def s_X10_give (a1 : Int32) (a2 : Int32) (a3 : Int32) (State_cells : Nat → Int32) (History_oldest : Int32) (History_size : Int32) (History_saved : Nat → Int32) (Word_size : Int32) (Word_letters : Nat → Int32) : Option ((Int32 ⊕ String) × (Nat → Int32) × (Int32) × (Int32) × (Nat → Int32) × (Int32) × (Nat → Int32)) := (s_X10_needName a1 a2 State_cells).bind fun v1 => fth v1 (fun v2 => (s_X10_needFisher a3).bind fun v3 => fth v3 (fun v4 => (s_X4_whyNotGiven a1 a2 a3 State_cells Word_size Word_letters).bind fun v5 => if (v5.1 = 0 : Prop) then ((s_X3_push History_oldest History_size History_saved State_cells).bind fun v6 => (s_X4_handOver a1 a2 a3 State_cells v5.2.1 v5.2.2).bind fun v7 => some (.inl v7.1, v7.2, v6.1, v6.2.1, v6.2.2, v5.2.1, v5.2.2)) else (some (.inr "java/lang/IllegalStateException", State_cells, History_oldest, History_size, History_saved, v5.2.1, v5.2.2))) (fun E9 => some (.inr E9, State_cells, History_oldest, History_size, History_saved, Word_size, Word_letters))) (fun E9 => some (.inr E9, State_cells, History_oldest, History_size, History_saved, Word_size, Word_letters))
set_option maxHeartbeats 4000000 in
set_option maxRecDepth 100000 in
theorem ct_X10_give {a1 : Int32} {a2 : Int32} {a3 : Int32} {State_cells : Nat → Int32} {History_oldest : Int32} {History_size : Int32} {History_snapshotTaken : Int32} {History_saved : Nat → Int32} {History_snapshot : Nat → Int32} {Buffer_size : Int32} {Buffer_codes : Nat → Int32} {Reader_pattern : Nat} {Reader_place : Int32} {Word_size : Int32} {Word_letters : Nat → Int32} {res : (Int32 ⊕ String) × (Nat → Int32) × (Int32) × (Int32) × (Nat → Int32) × (Int32) × (Nat → Int32)} (hf : s_X10_give a1 a2 a3 State_cells History_oldest History_size History_saved Word_size Word_letters = some res) : Ct k_X10_give [.ref 0, .int a1, .int a2, .int a3] [.inl (5, [.ref 1, .ref 3, .ref 6, .ref 8, .ref 9]), .inl (3, [.ref 2]), .inr (910, .inl State_cells), .inl (1, [.ref 4, .ref 5, .int History_oldest, .int History_size, .int History_snapshotTaken]), .inr (5460, .inl History_saved), .inr (910, .inl History_snapshot), .inl (0, [.ref 7, .int Buffer_size]), .inr (60, .inl Buffer_codes), .inl (2, [.ref (Reader_pattern + 1000), .int Reader_place]), .inl (4, [.ref 10, .int Word_size]), .inr (8, .inl Word_letters)] (foI res.1) [.inl (5, [.ref 1, .ref 3, .ref 6, .ref 8, .ref 9]), .inl (3, [.ref 2]), .inr (910, .inl res.2.1), .inl (1, [.ref 4, .ref 5, .int res.2.2.1, .int res.2.2.2.1, .int History_snapshotTaken]), .inr (5460, .inl res.2.2.2.2.1), .inr (910, .inl History_snapshot), .inl (0, [.ref 7, .int Buffer_size]), .inr (60, .inl Buffer_codes), .inl (2, [.ref (Reader_pattern + 1000), .int Reader_place]), .inl (4, [.ref 10, .int res.2.2.2.2.2.1]), .inr (8, .inl res.2.2.2.2.2.2)] := by
  unfold s_X10_give at hf
  refine Ct.of (L := [some (.ref 0), some (.int a1), some (.int a2), some (.int a3)]) cal_X10_give (fent_pad (j := 0) rfl) (Nat.le_of_ble_eq_true rfl) ?_
  refine V.aload_n (i := 0) dX10_give_0 rfl rfl ?_
  refine V.iload_n (i := 1) dX10_give_1 rfl rfl ?_
  refine V.iload_n (i := 2) dX10_give_2 rfl rfl ?_
  obtain ⟨v1, hv1, hf⟩ := fbind hf
  have hc := ct_X10_needName (a1 := a1) (a2 := a2) (State_cells := State_cells) (History_oldest := History_oldest) (History_size := History_size) (History_snapshotTaken := History_snapshotTaken) (History_saved := History_saved) (History_snapshot := History_snapshot) (Buffer_size := Buffer_size) (Buffer_codes := Buffer_codes) (Reader_pattern := Reader_pattern) (Reader_place := Reader_place) (Word_size := Word_size) (Word_letters := Word_letters) hv1
  rcases hv1b : v1 with v2 | E9
  · rw [hv1b] at hc hf
    dsimp only [fth] at hf
    refine V.callVn (pl := [0, 1, 2, 3, 4, 5, 6, 7, 8, 9, 10]) (σ' := [.inl (5, [.ref 1, .ref 3, .ref 6, .ref 8, .ref 9]), .inl (3, [.ref 2]), .inr (910, .inl State_cells), .inl (1, [.ref 4, .ref 5, .int History_oldest, .int History_size, .int History_snapshotTaken]), .inr (5460, .inl History_saved), .inr (910, .inl History_snapshot), .inl (0, [.ref 7, .int Buffer_size]), .inr (60, .inl Buffer_codes), .inl (2, [.ref (Reader_pattern + 1000), .int Reader_place]), .inl (4, [.ref 10, .int Word_size]), .inr (8, .inl Word_letters)]) (st2 := []) (cl2 := 0) (sl2 := 0) hc dX10_give_3 w288 ⟨w290, w1⟩ cal_X10_needName rfl ⟨⟨Nat.le_of_ble_eq_true rfl, Nat.le_of_ble_eq_true rfl⟩, Nat.le_of_ble_eq_true rfl, Nat.le_of_ble_eq_true rfl⟩ (Nat.le_of_ble_eq_true rfl) ⟨_, _, _, _, rfl, rfl⟩ rfl ⟨rfl, ⟨by decide, by decide⟩, rfl, (fr_cons (Or.inl (Nat.le_of_ble_eq_true rfl)) (fr_cons (Or.inl (Nat.le_of_ble_eq_true rfl)) (fr_cons (Or.inl (Nat.le_of_ble_eq_true rfl)) (fr_cons (Or.inl (Nat.le_of_ble_eq_true rfl)) (fr_cons (Or.inl (Nat.le_of_ble_eq_true rfl)) (fr_cons (Or.inl (Nat.le_of_ble_eq_true rfl)) (fr_cons (Or.inl (Nat.le_of_ble_eq_true rfl)) (fr_cons (Or.inl (Nat.le_of_ble_eq_true rfl)) (fr_cons (Or.inl (Nat.le_of_ble_eq_true rfl)) (fr_cons (Or.inr (Nat.le_add_left 1000 _)) (fr_cons (Or.inl (Nat.le_of_ble_eq_true rfl)) (fr_nil)))))))))))), rfl⟩ fr_v rfl rfl rfl rfl ?_
    refine V.iload_n (i := 3) dX10_give_6 rfl rfl ?_
    obtain ⟨v3, hv3, hf⟩ := fbind hf
    have hc := ct_X10_needFisher (a0 := a3) hv3
    rcases hv3b : v3 with v4 | E9
    · rw [hv3b] at hc hf
      dsimp only [fth] at hf
      refine V.callSn (pl := []) (σ' := [.inl (5, [.ref 1, .ref 3, .ref 6, .ref 8, .ref 9]), .inl (3, [.ref 2]), .inr (910, .inl State_cells), .inl (1, [.ref 4, .ref 5, .int History_oldest, .int History_size, .int History_snapshotTaken]), .inr (5460, .inl History_saved), .inr (910, .inl History_snapshot), .inl (0, [.ref 7, .int Buffer_size]), .inr (60, .inl Buffer_codes), .inl (2, [.ref (Reader_pattern + 1000), .int Reader_place]), .inl (4, [.ref 10, .int Word_size]), .inr (8, .inl Word_letters)]) (st2 := []) (cl2 := 0) (sl2 := 0) hc dX10_give_7 w178 w179 cal_X10_needFisher ⟨⟨Nat.le_of_ble_eq_true rfl, Nat.le_of_ble_eq_true rfl⟩, Nat.le_of_ble_eq_true rfl, Nat.le_of_ble_eq_true rfl⟩ (Nat.le_of_ble_eq_true rfl) rfl ⟨rfl, ⟨by decide, by decide⟩, rfl, (fr_nil), rfl⟩ fr_v rfl rfl rfl rfl ?_
      refine V.aload_n (i := 0) dX10_give_10 rfl rfl ?_
      refine V.getfield (kf := 0) (v := .ref 1) fl_RX10 dX10_give_11 w112 (Nat.le_of_ble_eq_true rfl) rfl rfl ?_
      refine V.aload_n (i := 0) dX10_give_14 rfl rfl ?_
      refine V.getfield (kf := 4) (v := .ref 9) fl_RX10 dX10_give_15 w116 (Nat.le_of_ble_eq_true rfl) rfl rfl ?_
      refine V.iload_n (i := 1) dX10_give_18 rfl rfl ?_
      refine V.iload_n (i := 2) dX10_give_19 rfl rfl ?_
      refine V.iload_n (i := 3) dX10_give_20 rfl rfl ?_
      obtain ⟨v5, hv5, hf⟩ := fbind hf
      refine V.callSn (pl := [1, 2, 9, 10]) (σ' := [.inl (5, [.ref 1, .ref 3, .ref 6, .ref 8, .ref 9]), .inl (3, [.ref 2]), .inr (910, .inl State_cells), .inl (1, [.ref 4, .ref 5, .int History_oldest, .int History_size, .int History_snapshotTaken]), .inr (5460, .inl History_saved), .inr (910, .inl History_snapshot), .inl (0, [.ref 7, .int Buffer_size]), .inr (60, .inl Buffer_codes), .inl (2, [.ref (Reader_pattern + 1000), .int Reader_place]), .inl (4, [.ref 10, .int v5.2.1]), .inr (8, .inl v5.2.2)]) (st2 := [.int v5.1]) (cl2 := 0) (sl2 := 0) (ct_X4_whyNotGiven (a2 := a1) (a3 := a2) (a4 := a3) (State_cells := State_cells) (Word_size := Word_size) (Word_letters := Word_letters) hv5) dX10_give_21 w357 w358 cal_X4_whyNotGiven ⟨⟨Nat.le_of_ble_eq_true rfl, Nat.le_of_ble_eq_true rfl⟩, Nat.le_of_ble_eq_true rfl, Nat.le_of_ble_eq_true rfl⟩ (Nat.le_of_ble_eq_true rfl) rfl ⟨rfl, ⟨by decide, by decide⟩, rfl, (fr_cons (Or.inl (Nat.le_of_ble_eq_true rfl)) (fr_cons (Or.inl (Nat.le_of_ble_eq_true rfl)) (fr_nil))), rfl⟩ fr_i rfl rfl rfl rfl ?_
      refine V.if_eq (tgt := 37) dX10_give_24 (by decide) (fun h => ?_) (fun h => ?_)
      · have hf := fif_t h hf
        refine V.aload_n (i := 0) dX10_give_37 rfl rfl ?_
        refine V.getfield (kf := 1) (v := .ref 3) fl_RX10 dX10_give_38 w113 (Nat.le_of_ble_eq_true rfl) rfl rfl ?_
        refine V.aload_n (i := 0) dX10_give_41 rfl rfl ?_
        refine V.getfield (kf := 0) (v := .ref 1) fl_RX10 dX10_give_42 w112 (Nat.le_of_ble_eq_true rfl) rfl rfl ?_
        obtain ⟨v6, hv6, hf⟩ := fbind hf
        refine V.callVn (pl := [3, 4, 5, 1, 2]) (σ' := [.inl (5, [.ref 1, .ref 3, .ref 6, .ref 8, .ref 9]), .inl (3, [.ref 2]), .inr (910, .inl State_cells), .inl (1, [.ref 4, .ref 5, .int v6.1, .int v6.2.1, .int History_snapshotTaken]), .inr (5460, .inl v6.2.2), .inr (910, .inl History_snapshot), .inl (0, [.ref 7, .int Buffer_size]), .inr (60, .inl Buffer_codes), .inl (2, [.ref (Reader_pattern + 1000), .int Reader_place]), .inl (4, [.ref 10, .int v5.2.1]), .inr (8, .inl v5.2.2)]) (st2 := []) (cl2 := 0) (sl2 := 0) (ct_X3_push (History_oldest := History_oldest) (History_size := History_size) (History_snapshotTaken := History_snapshotTaken) (History_saved := History_saved) (History_snapshot := History_snapshot) (State_cells := State_cells) hv6) dX10_give_45 w547 ⟨w548, w549⟩ cal_X3_push rfl ⟨⟨Nat.le_of_ble_eq_true rfl, Nat.le_of_ble_eq_true rfl⟩, Nat.le_of_ble_eq_true rfl, Nat.le_of_ble_eq_true rfl⟩ (Nat.le_of_ble_eq_true rfl) ⟨_, _, _, _, rfl, rfl⟩ rfl ⟨rfl, ⟨by decide, by decide⟩, rfl, (fr_cons (Or.inl (Nat.le_of_ble_eq_true rfl)) (fr_cons (Or.inl (Nat.le_of_ble_eq_true rfl)) (fr_cons (Or.inl (Nat.le_of_ble_eq_true rfl)) (fr_nil)))), rfl⟩ fr_v rfl rfl rfl rfl ?_
        refine V.aload_n (i := 0) dX10_give_48 rfl rfl ?_
        refine V.getfield (kf := 0) (v := .ref 1) fl_RX10 dX10_give_49 w112 (Nat.le_of_ble_eq_true rfl) rfl rfl ?_
        refine V.aload_n (i := 0) dX10_give_52 rfl rfl ?_
        refine V.getfield (kf := 4) (v := .ref 9) fl_RX10 dX10_give_53 w116 (Nat.le_of_ble_eq_true rfl) rfl rfl ?_
        refine V.iload_n (i := 1) dX10_give_56 rfl rfl ?_
        refine V.iload_n (i := 2) dX10_give_57 rfl rfl ?_
        refine V.iload_n (i := 3) dX10_give_58 rfl rfl ?_
        obtain ⟨v7, hv7, hf⟩ := fbind hf
        refine V.callSn (pl := [1, 2, 9, 10]) (σ' := [.inl (5, [.ref 1, .ref 3, .ref 6, .ref 8, .ref 9]), .inl (3, [.ref 2]), .inr (910, .inl v7.2), .inl (1, [.ref 4, .ref 5, .int v6.1, .int v6.2.1, .int History_snapshotTaken]), .inr (5460, .inl v6.2.2), .inr (910, .inl History_snapshot), .inl (0, [.ref 7, .int Buffer_size]), .inr (60, .inl Buffer_codes), .inl (2, [.ref (Reader_pattern + 1000), .int Reader_place]), .inl (4, [.ref 10, .int v5.2.1]), .inr (8, .inl v5.2.2)]) (st2 := [.int v7.1]) (cl2 := 0) (sl2 := 0) (ct_X4_handOver (a2 := a1) (a3 := a2) (a4 := a3) (State_cells := State_cells) (Word_size := v5.2.1) (Word_letters := v5.2.2) hv7) dX10_give_59 w689 w690 cal_X4_handOver ⟨⟨Nat.le_of_ble_eq_true rfl, Nat.le_of_ble_eq_true rfl⟩, Nat.le_of_ble_eq_true rfl, Nat.le_of_ble_eq_true rfl⟩ (Nat.le_of_ble_eq_true rfl) rfl ⟨rfl, ⟨by decide, by decide⟩, rfl, (fr_cons (Or.inl (Nat.le_of_ble_eq_true rfl)) (fr_cons (Or.inl (Nat.le_of_ble_eq_true rfl)) (fr_nil))), rfl⟩ fr_i rfl rfl rfl rfl ?_
        obtain rfl := Option.some.inj hf
        exact V.iret dX10_give_62 rfl (Nat.le_of_ble_eq_true rfl) (Nat.le_of_ble_eq_true rfl) rfl
      · have hf := fif_f h hf
        obtain rfl := Option.some.inj hf
        exact V.throwS (i := 6) th_RX10_IllegalStateException_61 (List.mem_of_getElem? (i := 6) rfl) dX10_give_27 dX10_give_30 dX10_give_31 dX10_give_33 dX10_give_36 rfl (Nat.le_of_ble_eq_true rfl) (Nat.le_of_ble_eq_true rfl) ⟨Nat.le_of_ble_eq_true rfl, Nat.le_of_ble_eq_true rfl⟩ (Nat.le_of_ble_eq_true rfl) (Nat.le_of_ble_eq_true rfl) rfl
    · rw [hv3b] at hc hf
      dsimp only [fth] at hf
      obtain rfl := Option.some.inj hf
      refine V.callSx (pl := []) (σ' := [.inl (5, [.ref 1, .ref 3, .ref 6, .ref 8, .ref 9]), .inl (3, [.ref 2]), .inr (910, .inl State_cells), .inl (1, [.ref 4, .ref 5, .int History_oldest, .int History_size, .int History_snapshotTaken]), .inr (5460, .inl History_saved), .inr (910, .inl History_snapshot), .inl (0, [.ref 7, .int Buffer_size]), .inr (60, .inl Buffer_codes), .inl (2, [.ref (Reader_pattern + 1000), .int Reader_place]), .inl (4, [.ref 10, .int Word_size]), .inr (8, .inl Word_letters)]) hc dX10_give_7 w178 w179 cal_X10_needFisher ⟨⟨Nat.le_of_ble_eq_true rfl, Nat.le_of_ble_eq_true rfl⟩, Nat.le_of_ble_eq_true rfl, Nat.le_of_ble_eq_true rfl⟩ (Nat.le_of_ble_eq_true rfl) rfl ⟨rfl, ⟨by decide, by decide⟩, rfl, (fr_nil), rfl⟩ ?_
      exact VX.out rfl (Nat.le_of_ble_eq_true rfl) (Nat.le_of_ble_eq_true rfl) rfl
  · rw [hv1b] at hc hf
    dsimp only [fth] at hf
    obtain rfl := Option.some.inj hf
    refine V.callVx (pl := [0, 1, 2, 3, 4, 5, 6, 7, 8, 9, 10]) (σ' := [.inl (5, [.ref 1, .ref 3, .ref 6, .ref 8, .ref 9]), .inl (3, [.ref 2]), .inr (910, .inl State_cells), .inl (1, [.ref 4, .ref 5, .int History_oldest, .int History_size, .int History_snapshotTaken]), .inr (5460, .inl History_saved), .inr (910, .inl History_snapshot), .inl (0, [.ref 7, .int Buffer_size]), .inr (60, .inl Buffer_codes), .inl (2, [.ref (Reader_pattern + 1000), .int Reader_place]), .inl (4, [.ref 10, .int Word_size]), .inr (8, .inl Word_letters)]) hc dX10_give_3 w288 ⟨w290, w1⟩ cal_X10_needName rfl ⟨⟨Nat.le_of_ble_eq_true rfl, Nat.le_of_ble_eq_true rfl⟩, Nat.le_of_ble_eq_true rfl, Nat.le_of_ble_eq_true rfl⟩ (Nat.le_of_ble_eq_true rfl) ⟨_, _, _, _, rfl, rfl⟩ rfl ⟨rfl, ⟨by decide, by decide⟩, rfl, (fr_cons (Or.inl (Nat.le_of_ble_eq_true rfl)) (fr_cons (Or.inl (Nat.le_of_ble_eq_true rfl)) (fr_cons (Or.inl (Nat.le_of_ble_eq_true rfl)) (fr_cons (Or.inl (Nat.le_of_ble_eq_true rfl)) (fr_cons (Or.inl (Nat.le_of_ble_eq_true rfl)) (fr_cons (Or.inl (Nat.le_of_ble_eq_true rfl)) (fr_cons (Or.inl (Nat.le_of_ble_eq_true rfl)) (fr_cons (Or.inl (Nat.le_of_ble_eq_true rfl)) (fr_cons (Or.inl (Nat.le_of_ble_eq_true rfl)) (fr_cons (Or.inr (Nat.le_add_left 1000 _)) (fr_cons (Or.inl (Nat.le_of_ble_eq_true rfl)) (fr_nil)))))))))))), rfl⟩ ?_
    exact VX.out rfl (Nat.le_of_ble_eq_true rfl) (Nat.le_of_ble_eq_true rfl) rfl
def k_X10_storm : fK := (yX10_storm, cX10_storm, 2, (some .int), [], (7, 121), (0, 0), (1, 6))
theorem cal_X10_storm : fCal k_X10_storm 1 := ⟨⟨wc593, w6⟩, ⟨by decide +kernel, by decide +kernel⟩, by decide +kernel, by decide +kernel⟩
def s_X10_storm (a1 : Int32) (State_cells : Nat → Int32) (History_oldest : Int32) (History_size : Int32) (History_saved : Nat → Int32) : Option ((Int32 ⊕ String) × (Nat → Int32) × (Int32) × (Int32) × (Nat → Int32)) := (s_X10_needFisher a1).bind fun v1 => fth v1 (fun v2 => (s_X3_push History_oldest History_size History_saved State_cells).bind fun v3 => (s_X6_comeOver a1 State_cells).bind fun v4 => some (.inl v4.1, v4.2, v3.1, v3.2.1, v3.2.2)) (fun E9 => some (.inr E9, State_cells, History_oldest, History_size, History_saved))
set_option maxHeartbeats 4000000 in
set_option maxRecDepth 100000 in
theorem ct_X10_storm {a1 : Int32} {State_cells : Nat → Int32} {History_oldest : Int32} {History_size : Int32} {History_snapshotTaken : Int32} {History_saved : Nat → Int32} {History_snapshot : Nat → Int32} {Buffer_size : Int32} {Buffer_codes : Nat → Int32} {Reader_pattern : Nat} {Reader_place : Int32} {Word_size : Int32} {Word_letters : Nat → Int32} {res : (Int32 ⊕ String) × (Nat → Int32) × (Int32) × (Int32) × (Nat → Int32)} (hf : s_X10_storm a1 State_cells History_oldest History_size History_saved = some res) : Ct k_X10_storm [.ref 0, .int a1] [.inl (5, [.ref 1, .ref 3, .ref 6, .ref 8, .ref 9]), .inl (3, [.ref 2]), .inr (910, .inl State_cells), .inl (1, [.ref 4, .ref 5, .int History_oldest, .int History_size, .int History_snapshotTaken]), .inr (5460, .inl History_saved), .inr (910, .inl History_snapshot), .inl (0, [.ref 7, .int Buffer_size]), .inr (60, .inl Buffer_codes), .inl (2, [.ref (Reader_pattern + 1000), .int Reader_place]), .inl (4, [.ref 10, .int Word_size]), .inr (8, .inl Word_letters)] (foI res.1) [.inl (5, [.ref 1, .ref 3, .ref 6, .ref 8, .ref 9]), .inl (3, [.ref 2]), .inr (910, .inl res.2.1), .inl (1, [.ref 4, .ref 5, .int res.2.2.1, .int res.2.2.2.1, .int History_snapshotTaken]), .inr (5460, .inl res.2.2.2.2), .inr (910, .inl History_snapshot), .inl (0, [.ref 7, .int Buffer_size]), .inr (60, .inl Buffer_codes), .inl (2, [.ref (Reader_pattern + 1000), .int Reader_place]), .inl (4, [.ref 10, .int Word_size]), .inr (8, .inl Word_letters)] := by
  unfold s_X10_storm at hf
  refine Ct.of (L := [some (.ref 0), some (.int a1)]) cal_X10_storm (fent_pad (j := 0) rfl) (Nat.le_of_ble_eq_true rfl) ?_
  refine V.iload_n (i := 1) dX10_storm_0 rfl rfl ?_
  obtain ⟨v1, hv1, hf⟩ := fbind hf
  have hc := ct_X10_needFisher (a0 := a1) hv1
  rcases hv1b : v1 with v2 | E9
  · rw [hv1b] at hc hf
    dsimp only [fth] at hf
    refine V.callSn (pl := []) (σ' := [.inl (5, [.ref 1, .ref 3, .ref 6, .ref 8, .ref 9]), .inl (3, [.ref 2]), .inr (910, .inl State_cells), .inl (1, [.ref 4, .ref 5, .int History_oldest, .int History_size, .int History_snapshotTaken]), .inr (5460, .inl History_saved), .inr (910, .inl History_snapshot), .inl (0, [.ref 7, .int Buffer_size]), .inr (60, .inl Buffer_codes), .inl (2, [.ref (Reader_pattern + 1000), .int Reader_place]), .inl (4, [.ref 10, .int Word_size]), .inr (8, .inl Word_letters)]) (st2 := []) (cl2 := 0) (sl2 := 0) hc dX10_storm_1 w178 w179 cal_X10_needFisher ⟨⟨Nat.le_of_ble_eq_true rfl, Nat.le_of_ble_eq_true rfl⟩, Nat.le_of_ble_eq_true rfl, Nat.le_of_ble_eq_true rfl⟩ (Nat.le_of_ble_eq_true rfl) rfl ⟨rfl, ⟨by decide, by decide⟩, rfl, (fr_nil), rfl⟩ fr_v rfl rfl rfl rfl ?_
    refine V.aload_n (i := 0) dX10_storm_4 rfl rfl ?_
    refine V.getfield (kf := 1) (v := .ref 3) fl_RX10 dX10_storm_5 w113 (Nat.le_of_ble_eq_true rfl) rfl rfl ?_
    refine V.aload_n (i := 0) dX10_storm_8 rfl rfl ?_
    refine V.getfield (kf := 0) (v := .ref 1) fl_RX10 dX10_storm_9 w112 (Nat.le_of_ble_eq_true rfl) rfl rfl ?_
    obtain ⟨v3, hv3, hf⟩ := fbind hf
    refine V.callVn (pl := [3, 4, 5, 1, 2]) (σ' := [.inl (5, [.ref 1, .ref 3, .ref 6, .ref 8, .ref 9]), .inl (3, [.ref 2]), .inr (910, .inl State_cells), .inl (1, [.ref 4, .ref 5, .int v3.1, .int v3.2.1, .int History_snapshotTaken]), .inr (5460, .inl v3.2.2), .inr (910, .inl History_snapshot), .inl (0, [.ref 7, .int Buffer_size]), .inr (60, .inl Buffer_codes), .inl (2, [.ref (Reader_pattern + 1000), .int Reader_place]), .inl (4, [.ref 10, .int Word_size]), .inr (8, .inl Word_letters)]) (st2 := []) (cl2 := 0) (sl2 := 0) (ct_X3_push (History_oldest := History_oldest) (History_size := History_size) (History_snapshotTaken := History_snapshotTaken) (History_saved := History_saved) (History_snapshot := History_snapshot) (State_cells := State_cells) hv3) dX10_storm_12 w547 ⟨w548, w549⟩ cal_X3_push rfl ⟨⟨Nat.le_of_ble_eq_true rfl, Nat.le_of_ble_eq_true rfl⟩, Nat.le_of_ble_eq_true rfl, Nat.le_of_ble_eq_true rfl⟩ (Nat.le_of_ble_eq_true rfl) ⟨_, _, _, _, rfl, rfl⟩ rfl ⟨rfl, ⟨by decide, by decide⟩, rfl, (fr_cons (Or.inl (Nat.le_of_ble_eq_true rfl)) (fr_cons (Or.inl (Nat.le_of_ble_eq_true rfl)) (fr_cons (Or.inl (Nat.le_of_ble_eq_true rfl)) (fr_nil)))), rfl⟩ fr_v rfl rfl rfl rfl ?_
    refine V.aload_n (i := 0) dX10_storm_15 rfl rfl ?_
    refine V.getfield (kf := 0) (v := .ref 1) fl_RX10 dX10_storm_16 w112 (Nat.le_of_ble_eq_true rfl) rfl rfl ?_
    refine V.iload_n (i := 1) dX10_storm_19 rfl rfl ?_
    obtain ⟨v4, hv4, hf⟩ := fbind hf
    refine V.callSn (pl := [1, 2]) (σ' := [.inl (5, [.ref 1, .ref 3, .ref 6, .ref 8, .ref 9]), .inl (3, [.ref 2]), .inr (910, .inl v4.2), .inl (1, [.ref 4, .ref 5, .int v3.1, .int v3.2.1, .int History_snapshotTaken]), .inr (5460, .inl v3.2.2), .inr (910, .inl History_snapshot), .inl (0, [.ref 7, .int Buffer_size]), .inr (60, .inl Buffer_codes), .inl (2, [.ref (Reader_pattern + 1000), .int Reader_place]), .inl (4, [.ref 10, .int Word_size]), .inr (8, .inl Word_letters)]) (st2 := [.int v4.1]) (cl2 := 0) (sl2 := 0) (ct_X6_comeOver (a1 := a1) (State_cells := State_cells) hv4) dX10_storm_20 w594 w595 cal_X6_comeOver ⟨⟨Nat.le_of_ble_eq_true rfl, Nat.le_of_ble_eq_true rfl⟩, Nat.le_of_ble_eq_true rfl, Nat.le_of_ble_eq_true rfl⟩ (Nat.le_of_ble_eq_true rfl) rfl ⟨rfl, ⟨by decide, by decide⟩, rfl, (fr_cons (Or.inl (Nat.le_of_ble_eq_true rfl)) (fr_nil)), rfl⟩ fr_i rfl rfl rfl rfl ?_
    obtain rfl := Option.some.inj hf
    exact V.iret dX10_storm_23 rfl (Nat.le_of_ble_eq_true rfl) (Nat.le_of_ble_eq_true rfl) rfl
  · rw [hv1b] at hc hf
    dsimp only [fth] at hf
    obtain rfl := Option.some.inj hf
    refine V.callSx (pl := []) (σ' := [.inl (5, [.ref 1, .ref 3, .ref 6, .ref 8, .ref 9]), .inl (3, [.ref 2]), .inr (910, .inl State_cells), .inl (1, [.ref 4, .ref 5, .int History_oldest, .int History_size, .int History_snapshotTaken]), .inr (5460, .inl History_saved), .inr (910, .inl History_snapshot), .inl (0, [.ref 7, .int Buffer_size]), .inr (60, .inl Buffer_codes), .inl (2, [.ref (Reader_pattern + 1000), .int Reader_place]), .inl (4, [.ref 10, .int Word_size]), .inr (8, .inl Word_letters)]) hc dX10_storm_1 w178 w179 cal_X10_needFisher ⟨⟨Nat.le_of_ble_eq_true rfl, Nat.le_of_ble_eq_true rfl⟩, Nat.le_of_ble_eq_true rfl, Nat.le_of_ble_eq_true rfl⟩ (Nat.le_of_ble_eq_true rfl) rfl ⟨rfl, ⟨by decide, by decide⟩, rfl, (fr_nil), rfl⟩ ?_
    exact VX.out rfl (Nat.le_of_ble_eq_true rfl) (Nat.le_of_ble_eq_true rfl) rfl
def k_X10_belt : fK := (yX10_belt, cX10_belt, 4, (some .int), [], (7, 102), (0, 0), (1, 6))
theorem cal_X10_belt : fCal k_X10_belt 2 := ⟨⟨wc697, w6⟩, ⟨by decide +kernel, by decide +kernel⟩, by decide +kernel, by decide +kernel⟩
def s_X10_belt (a1 : Int32) (a2 : Int32) (State_cells : Nat → Int32) (History_oldest : Int32) (History_size : Int32) (History_saved : Nat → Int32) : Option ((Int32 ⊕ String) × (Nat → Int32) × (Int32) × (Int32) × (Nat → Int32)) := (s_X10_needFisher a1).bind fun v1 => fth v1 (fun v2 => if (a2 < 20 : Prop) then (some (.inr "java/lang/IllegalArgumentException", State_cells, History_oldest, History_size, History_saved)) else (if (a2 ≤ 120 : Prop) then ((s_X7_fisherCell a1 0).bind fun v3 => (s_X7_at v3 State_cells).bind fun v4 => (s_X7_left a1 State_cells).bind fun v5 => if ((v4 - v5) ≤ a2 : Prop) then ((s_X3_push History_oldest History_size History_saved State_cells).bind fun v6 => (s_X7_fisherCell a1 0).bind fun v7 => (s_X7_put v7 a2 State_cells).bind fun v8 => some (.inl v4, v8, v6.1, v6.2.1, v6.2.2)) else (some (.inr "java/lang/IllegalStateException", State_cells, History_oldest, History_size, History_saved))) else (some (.inr "java/lang/IllegalArgumentException", State_cells, History_oldest, History_size, History_saved)))) (fun E9 => some (.inr E9, State_cells, History_oldest, History_size, History_saved))
set_option maxHeartbeats 4000000 in
set_option maxRecDepth 100000 in
theorem ct_X10_belt {a1 : Int32} {a2 : Int32} {State_cells : Nat → Int32} {History_oldest : Int32} {History_size : Int32} {History_snapshotTaken : Int32} {History_saved : Nat → Int32} {History_snapshot : Nat → Int32} {Buffer_size : Int32} {Buffer_codes : Nat → Int32} {Reader_pattern : Nat} {Reader_place : Int32} {Word_size : Int32} {Word_letters : Nat → Int32} {res : (Int32 ⊕ String) × (Nat → Int32) × (Int32) × (Int32) × (Nat → Int32)} (hf : s_X10_belt a1 a2 State_cells History_oldest History_size History_saved = some res) : Ct k_X10_belt [.ref 0, .int a1, .int a2] [.inl (5, [.ref 1, .ref 3, .ref 6, .ref 8, .ref 9]), .inl (3, [.ref 2]), .inr (910, .inl State_cells), .inl (1, [.ref 4, .ref 5, .int History_oldest, .int History_size, .int History_snapshotTaken]), .inr (5460, .inl History_saved), .inr (910, .inl History_snapshot), .inl (0, [.ref 7, .int Buffer_size]), .inr (60, .inl Buffer_codes), .inl (2, [.ref (Reader_pattern + 1000), .int Reader_place]), .inl (4, [.ref 10, .int Word_size]), .inr (8, .inl Word_letters)] (foI res.1) [.inl (5, [.ref 1, .ref 3, .ref 6, .ref 8, .ref 9]), .inl (3, [.ref 2]), .inr (910, .inl res.2.1), .inl (1, [.ref 4, .ref 5, .int res.2.2.1, .int res.2.2.2.1, .int History_snapshotTaken]), .inr (5460, .inl res.2.2.2.2), .inr (910, .inl History_snapshot), .inl (0, [.ref 7, .int Buffer_size]), .inr (60, .inl Buffer_codes), .inl (2, [.ref (Reader_pattern + 1000), .int Reader_place]), .inl (4, [.ref 10, .int Word_size]), .inr (8, .inl Word_letters)] := by
  unfold s_X10_belt at hf
  refine Ct.of (L := [some (.ref 0), some (.int a1), some (.int a2), none]) cal_X10_belt (fent_pad (j := 1) rfl) (Nat.le_of_ble_eq_true rfl) ?_
  refine V.iload_n (i := 1) dX10_belt_0 rfl rfl ?_
  obtain ⟨v1, hv1, hf⟩ := fbind hf
  have hc := ct_X10_needFisher (a0 := a1) hv1
  rcases hv1b : v1 with v2 | E9
  · rw [hv1b] at hc hf
    dsimp only [fth] at hf
    refine V.callSn (pl := []) (σ' := [.inl (5, [.ref 1, .ref 3, .ref 6, .ref 8, .ref 9]), .inl (3, [.ref 2]), .inr (910, .inl State_cells), .inl (1, [.ref 4, .ref 5, .int History_oldest, .int History_size, .int History_snapshotTaken]), .inr (5460, .inl History_saved), .inr (910, .inl History_snapshot), .inl (0, [.ref 7, .int Buffer_size]), .inr (60, .inl Buffer_codes), .inl (2, [.ref (Reader_pattern + 1000), .int Reader_place]), .inl (4, [.ref 10, .int Word_size]), .inr (8, .inl Word_letters)]) (st2 := []) (cl2 := 0) (sl2 := 0) hc dX10_belt_1 w178 w179 cal_X10_needFisher ⟨⟨Nat.le_of_ble_eq_true rfl, Nat.le_of_ble_eq_true rfl⟩, Nat.le_of_ble_eq_true rfl, Nat.le_of_ble_eq_true rfl⟩ (Nat.le_of_ble_eq_true rfl) rfl ⟨rfl, ⟨by decide, by decide⟩, rfl, (fr_nil), rfl⟩ fr_v rfl rfl rfl rfl ?_
    refine V.iload_n (i := 2) dX10_belt_4 rfl rfl ?_
    refine V.bipush (v := 20) dX10_belt_5 rfl ?_
    refine V.icmp_lt (tgt := 16) dX10_belt_7 (by decide) (fun h => ?_) (fun h => ?_)
    · have hf := fif_t h hf
      obtain rfl := Option.some.inj hf
      exact V.throwS (i := 7) th_RX10_IllegalArgumentException_110 (List.mem_of_getElem? (i := 7) rfl) dX10_belt_16 dX10_belt_19 dX10_belt_20 dX10_belt_22 dX10_belt_25 rfl (Nat.le_of_ble_eq_true rfl) (Nat.le_of_ble_eq_true rfl) ⟨Nat.le_of_ble_eq_true rfl, Nat.le_of_ble_eq_true rfl⟩ (Nat.le_of_ble_eq_true rfl) (Nat.le_of_ble_eq_true rfl) rfl
    · have hf := fif_f h hf
      refine V.iload_n (i := 2) dX10_belt_10 rfl rfl ?_
      refine V.bipush (v := 120) dX10_belt_11 rfl ?_
      refine V.icmp_le (tgt := 26) dX10_belt_13 (by decide) (fun h => ?_) (fun h => ?_)
      · have hf := fif_t h hf
        refine V.aload_n (i := 0) dX10_belt_26 rfl rfl ?_
        refine V.getfield (kf := 0) (v := .ref 1) fl_RX10 dX10_belt_27 w112 (Nat.le_of_ble_eq_true rfl) rfl rfl ?_
        refine V.iload_n (i := 1) dX10_belt_30 rfl rfl ?_
        refine V.iconst (v := 0) dX10_belt_31 rfl ?_
        obtain ⟨v3, hv3, hf⟩ := fbind hf
        refine V.callSn (pl := []) (σ' := [.inl (5, [.ref 1, .ref 3, .ref 6, .ref 8, .ref 9]), .inl (3, [.ref 2]), .inr (910, .inl State_cells), .inl (1, [.ref 4, .ref 5, .int History_oldest, .int History_size, .int History_snapshotTaken]), .inr (5460, .inl History_saved), .inr (910, .inl History_snapshot), .inl (0, [.ref 7, .int Buffer_size]), .inr (60, .inl Buffer_codes), .inl (2, [.ref (Reader_pattern + 1000), .int Reader_place]), .inl (4, [.ref 10, .int Word_size]), .inr (8, .inl Word_letters)]) (st2 := [.int v3, .ref 1]) (cl2 := 0) (sl2 := 0) (ct_X7_fisherCell (a0 := a1) (a1 := 0) hv3) dX10_belt_32 w699 w42 cal_X7_fisherCell ⟨⟨Nat.le_of_ble_eq_true rfl, Nat.le_of_ble_eq_true rfl⟩, Nat.le_of_ble_eq_true rfl, Nat.le_of_ble_eq_true rfl⟩ (Nat.le_of_ble_eq_true rfl) rfl ⟨rfl, ⟨by decide, by decide⟩, rfl, (fr_nil), rfl⟩ fr_i rfl rfl rfl rfl ?_
        obtain ⟨v4, hv4, hf⟩ := fbind hf
        refine V.callVn (pl := [1, 2]) (σ' := [.inl (5, [.ref 1, .ref 3, .ref 6, .ref 8, .ref 9]), .inl (3, [.ref 2]), .inr (910, .inl State_cells), .inl (1, [.ref 4, .ref 5, .int History_oldest, .int History_size, .int History_snapshotTaken]), .inr (5460, .inl History_saved), .inr (910, .inl History_snapshot), .inl (0, [.ref 7, .int Buffer_size]), .inr (60, .inl Buffer_codes), .inl (2, [.ref (Reader_pattern + 1000), .int Reader_place]), .inl (4, [.ref 10, .int Word_size]), .inr (8, .inl Word_letters)]) (st2 := [.int v4]) (cl2 := 0) (sl2 := 0) (ct_X7_at (a1 := v3) (State_cells := State_cells) hv4) dX10_belt_35 w456 ⟨w143, w144⟩ cal_X7_at rfl ⟨⟨Nat.le_of_ble_eq_true rfl, Nat.le_of_ble_eq_true rfl⟩, Nat.le_of_ble_eq_true rfl, Nat.le_of_ble_eq_true rfl⟩ (Nat.le_of_ble_eq_true rfl) ⟨_, _, _, _, rfl, rfl⟩ rfl ⟨rfl, ⟨by decide, by decide⟩, rfl, (fr_cons (Or.inl (Nat.le_of_ble_eq_true rfl)) (fr_nil)), rfl⟩ fr_i rfl rfl rfl rfl ?_
        refine V.istore_n (i := 3) (L' := [some (.ref 0), some (.int a1), some (.int a2), some (.int v4)]) dX10_belt_38 rfl (Nat.le_of_ble_eq_true rfl) rfl rfl ?_
        refine V.iload_n (i := 3) dX10_belt_39 rfl rfl ?_
        refine V.aload_n (i := 0) dX10_belt_40 rfl rfl ?_
        refine V.getfield (kf := 0) (v := .ref 1) fl_RX10 dX10_belt_41 w112 (Nat.le_of_ble_eq_true rfl) rfl rfl ?_
        refine V.iload_n (i := 1) dX10_belt_44 rfl rfl ?_
        obtain ⟨v5, hv5, hf⟩ := fbind hf
        refine V.callVn (pl := [1, 2]) (σ' := [.inl (5, [.ref 1, .ref 3, .ref 6, .ref 8, .ref 9]), .inl (3, [.ref 2]), .inr (910, .inl State_cells), .inl (1, [.ref 4, .ref 5, .int History_oldest, .int History_size, .int History_snapshotTaken]), .inr (5460, .inl History_saved), .inr (910, .inl History_snapshot), .inl (0, [.ref 7, .int Buffer_size]), .inr (60, .inl Buffer_codes), .inl (2, [.ref (Reader_pattern + 1000), .int Reader_place]), .inl (4, [.ref 10, .int Word_size]), .inr (8, .inl Word_letters)]) (st2 := [.int v5, .int v4]) (cl2 := 0) (sl2 := 0) (ct_X7_left (a1 := a1) (State_cells := State_cells) hv5) dX10_belt_45 w535 ⟨w272, w273⟩ cal_X7_left rfl ⟨⟨Nat.le_of_ble_eq_true rfl, Nat.le_of_ble_eq_true rfl⟩, Nat.le_of_ble_eq_true rfl, Nat.le_of_ble_eq_true rfl⟩ (Nat.le_of_ble_eq_true rfl) ⟨_, _, _, _, rfl, rfl⟩ rfl ⟨rfl, ⟨by decide, by decide⟩, rfl, (fr_cons (Or.inl (Nat.le_of_ble_eq_true rfl)) (fr_nil)), rfl⟩ fr_i rfl rfl rfl rfl ?_
        refine V.isub dX10_belt_48 ?_
        refine V.iload_n (i := 2) dX10_belt_49 rfl rfl ?_
        refine V.icmp_le (tgt := 63) dX10_belt_50 (by decide) (fun h => ?_) (fun h => ?_)
        · have hf := fif_t h hf
          refine V.aload_n (i := 0) dX10_belt_63 rfl rfl ?_
          refine V.getfield (kf := 1) (v := .ref 3) fl_RX10 dX10_belt_64 w113 (Nat.le_of_ble_eq_true rfl) rfl rfl ?_
          refine V.aload_n (i := 0) dX10_belt_67 rfl rfl ?_
          refine V.getfield (kf := 0) (v := .ref 1) fl_RX10 dX10_belt_68 w112 (Nat.le_of_ble_eq_true rfl) rfl rfl ?_
          obtain ⟨v6, hv6, hf⟩ := fbind hf
          refine V.callVn (pl := [3, 4, 5, 1, 2]) (σ' := [.inl (5, [.ref 1, .ref 3, .ref 6, .ref 8, .ref 9]), .inl (3, [.ref 2]), .inr (910, .inl State_cells), .inl (1, [.ref 4, .ref 5, .int v6.1, .int v6.2.1, .int History_snapshotTaken]), .inr (5460, .inl v6.2.2), .inr (910, .inl History_snapshot), .inl (0, [.ref 7, .int Buffer_size]), .inr (60, .inl Buffer_codes), .inl (2, [.ref (Reader_pattern + 1000), .int Reader_place]), .inl (4, [.ref 10, .int Word_size]), .inr (8, .inl Word_letters)]) (st2 := []) (cl2 := 0) (sl2 := 0) (ct_X3_push (History_oldest := History_oldest) (History_size := History_size) (History_snapshotTaken := History_snapshotTaken) (History_saved := History_saved) (History_snapshot := History_snapshot) (State_cells := State_cells) hv6) dX10_belt_71 w547 ⟨w548, w549⟩ cal_X3_push rfl ⟨⟨Nat.le_of_ble_eq_true rfl, Nat.le_of_ble_eq_true rfl⟩, Nat.le_of_ble_eq_true rfl, Nat.le_of_ble_eq_true rfl⟩ (Nat.le_of_ble_eq_true rfl) ⟨_, _, _, _, rfl, rfl⟩ rfl ⟨rfl, ⟨by decide, by decide⟩, rfl, (fr_cons (Or.inl (Nat.le_of_ble_eq_true rfl)) (fr_cons (Or.inl (Nat.le_of_ble_eq_true rfl)) (fr_cons (Or.inl (Nat.le_of_ble_eq_true rfl)) (fr_nil)))), rfl⟩ fr_v rfl rfl rfl rfl ?_
          refine V.aload_n (i := 0) dX10_belt_74 rfl rfl ?_
          refine V.getfield (kf := 0) (v := .ref 1) fl_RX10 dX10_belt_75 w112 (Nat.le_of_ble_eq_true rfl) rfl rfl ?_
          refine V.iload_n (i := 1) dX10_belt_78 rfl rfl ?_
          refine V.iconst (v := 0) dX10_belt_79 rfl ?_
          obtain ⟨v7, hv7, hf⟩ := fbind hf
          refine V.callSn (pl := []) (σ' := [.inl (5, [.ref 1, .ref 3, .ref 6, .ref 8, .ref 9]), .inl (3, [.ref 2]), .inr (910, .inl State_cells), .inl (1, [.ref 4, .ref 5, .int v6.1, .int v6.2.1, .int History_snapshotTaken]), .inr (5460, .inl v6.2.2), .inr (910, .inl History_snapshot), .inl (0, [.ref 7, .int Buffer_size]), .inr (60, .inl Buffer_codes), .inl (2, [.ref (Reader_pattern + 1000), .int Reader_place]), .inl (4, [.ref 10, .int Word_size]), .inr (8, .inl Word_letters)]) (st2 := [.int v7, .ref 1]) (cl2 := 0) (sl2 := 0) (ct_X7_fisherCell (a0 := a1) (a1 := 0) hv7) dX10_belt_80 w699 w42 cal_X7_fisherCell ⟨⟨Nat.le_of_ble_eq_true rfl, Nat.le_of_ble_eq_true rfl⟩, Nat.le_of_ble_eq_true rfl, Nat.le_of_ble_eq_true rfl⟩ (Nat.le_of_ble_eq_true rfl) rfl ⟨rfl, ⟨by decide, by decide⟩, rfl, (fr_nil), rfl⟩ fr_i rfl rfl rfl rfl ?_
          refine V.iload_n (i := 2) dX10_belt_83 rfl rfl ?_
          obtain ⟨v8, hv8, hf⟩ := fbind hf
          refine V.callVn (pl := [1, 2]) (σ' := [.inl (5, [.ref 1, .ref 3, .ref 6, .ref 8, .ref 9]), .inl (3, [.ref 2]), .inr (910, .inl v8), .inl (1, [.ref 4, .ref 5, .int v6.1, .int v6.2.1, .int History_snapshotTaken]), .inr (5460, .inl v6.2.2), .inr (910, .inl History_snapshot), .inl (0, [.ref 7, .int Buffer_size]), .inr (60, .inl Buffer_codes), .inl (2, [.ref (Reader_pattern + 1000), .int Reader_place]), .inl (4, [.ref 10, .int Word_size]), .inr (8, .inl Word_letters)]) (st2 := []) (cl2 := 0) (sl2 := 0) (ct_X7_put (a1 := v7) (a2 := a2) (State_cells := State_cells) hv8) dX10_belt_84 w701 ⟨w38, w39⟩ cal_X7_put rfl ⟨⟨Nat.le_of_ble_eq_true rfl, Nat.le_of_ble_eq_true rfl⟩, Nat.le_of_ble_eq_true rfl, Nat.le_of_ble_eq_true rfl⟩ (Nat.le_of_ble_eq_true rfl) ⟨_, _, _, _, rfl, rfl⟩ rfl ⟨rfl, ⟨by decide, by decide⟩, rfl, (fr_cons (Or.inl (Nat.le_of_ble_eq_true rfl)) (fr_nil)), rfl⟩ fr_v rfl rfl rfl rfl ?_
          refine V.iload_n (i := 3) dX10_belt_87 rfl rfl ?_
          obtain rfl := Option.some.inj hf
          exact V.iret dX10_belt_88 rfl (Nat.le_of_ble_eq_true rfl) (Nat.le_of_ble_eq_true rfl) rfl
        · have hf := fif_f h hf
          obtain rfl := Option.some.inj hf
          exact V.throwS (i := 8) th_RX10_IllegalStateException_61 (List.mem_of_getElem? (i := 8) rfl) dX10_belt_53 dX10_belt_56 dX10_belt_57 dX10_belt_59 dX10_belt_62 rfl (Nat.le_of_ble_eq_true rfl) (Nat.le_of_ble_eq_true rfl) ⟨Nat.le_of_ble_eq_true rfl, Nat.le_of_ble_eq_true rfl⟩ (Nat.le_of_ble_eq_true rfl) (Nat.le_of_ble_eq_true rfl) rfl
      · have hf := fif_f h hf
        obtain rfl := Option.some.inj hf
        exact V.throwS (i := 7) th_RX10_IllegalArgumentException_110 (List.mem_of_getElem? (i := 7) rfl) dX10_belt_16 dX10_belt_19 dX10_belt_20 dX10_belt_22 dX10_belt_25 rfl (Nat.le_of_ble_eq_true rfl) (Nat.le_of_ble_eq_true rfl) ⟨Nat.le_of_ble_eq_true rfl, Nat.le_of_ble_eq_true rfl⟩ (Nat.le_of_ble_eq_true rfl) (Nat.le_of_ble_eq_true rfl) rfl
  · rw [hv1b] at hc hf
    dsimp only [fth] at hf
    obtain rfl := Option.some.inj hf
    refine V.callSx (pl := []) (σ' := [.inl (5, [.ref 1, .ref 3, .ref 6, .ref 8, .ref 9]), .inl (3, [.ref 2]), .inr (910, .inl State_cells), .inl (1, [.ref 4, .ref 5, .int History_oldest, .int History_size, .int History_snapshotTaken]), .inr (5460, .inl History_saved), .inr (910, .inl History_snapshot), .inl (0, [.ref 7, .int Buffer_size]), .inr (60, .inl Buffer_codes), .inl (2, [.ref (Reader_pattern + 1000), .int Reader_place]), .inl (4, [.ref 10, .int Word_size]), .inr (8, .inl Word_letters)]) hc dX10_belt_1 w178 w179 cal_X10_needFisher ⟨⟨Nat.le_of_ble_eq_true rfl, Nat.le_of_ble_eq_true rfl⟩, Nat.le_of_ble_eq_true rfl, Nat.le_of_ble_eq_true rfl⟩ (Nat.le_of_ble_eq_true rfl) rfl ⟨rfl, ⟨by decide, by decide⟩, rfl, (fr_nil), rfl⟩ ?_
    exact VX.out rfl (Nat.le_of_ble_eq_true rfl) (Nat.le_of_ble_eq_true rfl) rfl
def k_X10_set : fK := (yX10_set, cX10_set, 6, (some .int), [], (6, 83), (0, 0), (1, 6))
theorem cal_X10_set : fCal k_X10_set 2 := ⟨⟨wc705, w6⟩, ⟨by decide +kernel, by decide +kernel⟩, by decide +kernel, by decide +kernel⟩
def s_X10_set (a1 : Int32) (a2 : Int32) (State_cells : Nat → Int32) (History_oldest : Int32) (History_size : Int32) (History_saved : Nat → Int32) : Option ((Int32 ⊕ String) × (Nat → Int32) × (Int32) × (Int32) × (Nat → Int32)) := if (a1 = 0 : Prop) then (if (a1 = 0 : Prop) then (if (a1 = 0 : Prop) then (if (a2 < 1 : Prop) then (some (.inr "java/lang/IllegalArgumentException", State_cells, History_oldest, History_size, History_saved)) else (if (a2 ≤ 9 : Prop) then ((s_X3_push History_oldest History_size History_saved State_cells).bind fun v10 => (s_X7_at (1 + a1) State_cells).bind fun v11 => (s_X7_put (1 + a1) a2 State_cells).bind fun v12 => some (.inl v11, v12, v10.1, v10.2.1, v10.2.2)) else (some (.inr "java/lang/IllegalArgumentException", State_cells, History_oldest, History_size, History_saved)))) else (if (a2 < 1 : Prop) then (some (.inr "java/lang/IllegalArgumentException", State_cells, History_oldest, History_size, History_saved)) else (if (a2 ≤ 8 : Prop) then ((s_X3_push History_oldest History_size History_saved State_cells).bind fun v7 => (s_X7_at (1 + a1) State_cells).bind fun v8 => (s_X7_put (1 + a1) a2 State_cells).bind fun v9 => some (.inl v8, v9, v7.1, v7.2.1, v7.2.2)) else (some (.inr "java/lang/IllegalArgumentException", State_cells, History_oldest, History_size, History_saved))))) else (if (a1 = 0 : Prop) then (if (a2 < 0 : Prop) then (some (.inr "java/lang/IllegalArgumentException", State_cells, History_oldest, History_size, History_saved)) else (if (a2 ≤ 9 : Prop) then ((s_X3_push History_oldest History_size History_saved State_cells).bind fun v4 => (s_X7_at (1 + a1) State_cells).bind fun v5 => (s_X7_put (1 + a1) a2 State_cells).bind fun v6 => some (.inl v5, v6, v4.1, v4.2.1, v4.2.2)) else (some (.inr "java/lang/IllegalArgumentException", State_cells, History_oldest, History_size, History_saved)))) else (if (a2 < 0 : Prop) then (some (.inr "java/lang/IllegalArgumentException", State_cells, History_oldest, History_size, History_saved)) else (if (a2 ≤ 8 : Prop) then ((s_X3_push History_oldest History_size History_saved State_cells).bind fun v1 => (s_X7_at (1 + a1) State_cells).bind fun v2 => (s_X7_put (1 + a1) a2 State_cells).bind fun v3 => some (.inl v2, v3, v1.1, v1.2.1, v1.2.2)) else (some (.inr "java/lang/IllegalArgumentException", State_cells, History_oldest, History_size, History_saved)))))) else (if (a1 = 1 : Prop) then (if (a1 = 0 : Prop) then (if (a1 = 0 : Prop) then (if (a2 < 1 : Prop) then (some (.inr "java/lang/IllegalArgumentException", State_cells, History_oldest, History_size, History_saved)) else (if (a2 ≤ 9 : Prop) then ((s_X3_push History_oldest History_size History_saved State_cells).bind fun v22 => (s_X7_at (1 + a1) State_cells).bind fun v23 => (s_X7_put (1 + a1) a2 State_cells).bind fun v24 => some (.inl v23, v24, v22.1, v22.2.1, v22.2.2)) else (some (.inr "java/lang/IllegalArgumentException", State_cells, History_oldest, History_size, History_saved)))) else (if (a2 < 1 : Prop) then (some (.inr "java/lang/IllegalArgumentException", State_cells, History_oldest, History_size, History_saved)) else (if (a2 ≤ 8 : Prop) then ((s_X3_push History_oldest History_size History_saved State_cells).bind fun v19 => (s_X7_at (1 + a1) State_cells).bind fun v20 => (s_X7_put (1 + a1) a2 State_cells).bind fun v21 => some (.inl v20, v21, v19.1, v19.2.1, v19.2.2)) else (some (.inr "java/lang/IllegalArgumentException", State_cells, History_oldest, History_size, History_saved))))) else (if (a1 = 0 : Prop) then (if (a2 < 0 : Prop) then (some (.inr "java/lang/IllegalArgumentException", State_cells, History_oldest, History_size, History_saved)) else (if (a2 ≤ 9 : Prop) then ((s_X3_push History_oldest History_size History_saved State_cells).bind fun v16 => (s_X7_at (1 + a1) State_cells).bind fun v17 => (s_X7_put (1 + a1) a2 State_cells).bind fun v18 => some (.inl v17, v18, v16.1, v16.2.1, v16.2.2)) else (some (.inr "java/lang/IllegalArgumentException", State_cells, History_oldest, History_size, History_saved)))) else (if (a2 < 0 : Prop) then (some (.inr "java/lang/IllegalArgumentException", State_cells, History_oldest, History_size, History_saved)) else (if (a2 ≤ 8 : Prop) then ((s_X3_push History_oldest History_size History_saved State_cells).bind fun v13 => (s_X7_at (1 + a1) State_cells).bind fun v14 => (s_X7_put (1 + a1) a2 State_cells).bind fun v15 => some (.inl v14, v15, v13.1, v13.2.1, v13.2.2)) else (some (.inr "java/lang/IllegalArgumentException", State_cells, History_oldest, History_size, History_saved)))))) else (some (.inr "java/lang/IndexOutOfBoundsException", State_cells, History_oldest, History_size, History_saved)))
set_option maxHeartbeats 4000000 in
set_option maxRecDepth 100000 in
theorem ct_X10_set {a1 : Int32} {a2 : Int32} {State_cells : Nat → Int32} {History_oldest : Int32} {History_size : Int32} {History_snapshotTaken : Int32} {History_saved : Nat → Int32} {History_snapshot : Nat → Int32} {Buffer_size : Int32} {Buffer_codes : Nat → Int32} {Reader_pattern : Nat} {Reader_place : Int32} {Word_size : Int32} {Word_letters : Nat → Int32} {res : (Int32 ⊕ String) × (Nat → Int32) × (Int32) × (Int32) × (Nat → Int32)} (hf : s_X10_set a1 a2 State_cells History_oldest History_size History_saved = some res) : Ct k_X10_set [.ref 0, .int a1, .int a2] [.inl (5, [.ref 1, .ref 3, .ref 6, .ref 8, .ref 9]), .inl (3, [.ref 2]), .inr (910, .inl State_cells), .inl (1, [.ref 4, .ref 5, .int History_oldest, .int History_size, .int History_snapshotTaken]), .inr (5460, .inl History_saved), .inr (910, .inl History_snapshot), .inl (0, [.ref 7, .int Buffer_size]), .inr (60, .inl Buffer_codes), .inl (2, [.ref (Reader_pattern + 1000), .int Reader_place]), .inl (4, [.ref 10, .int Word_size]), .inr (8, .inl Word_letters)] (foI res.1) [.inl (5, [.ref 1, .ref 3, .ref 6, .ref 8, .ref 9]), .inl (3, [.ref 2]), .inr (910, .inl res.2.1), .inl (1, [.ref 4, .ref 5, .int res.2.2.1, .int res.2.2.2.1, .int History_snapshotTaken]), .inr (5460, .inl res.2.2.2.2), .inr (910, .inl History_snapshot), .inl (0, [.ref 7, .int Buffer_size]), .inr (60, .inl Buffer_codes), .inl (2, [.ref (Reader_pattern + 1000), .int Reader_place]), .inl (4, [.ref 10, .int Word_size]), .inr (8, .inl Word_letters)] := by
  unfold s_X10_set at hf
  refine Ct.of (L := [some (.ref 0), some (.int a1), some (.int a2), none, none, none]) cal_X10_set (fent_pad (j := 3) rfl) (Nat.le_of_ble_eq_true rfl) ?_
  refine V.iload_n (i := 1) dX10_set_0 rfl rfl ?_
  refine V.if_eq (tgt := 19) dX10_set_1 (by decide) (fun h => ?_) (fun h => ?_)
  · have hf := fif_t h hf
    refine V.iload_n (i := 1) dX10_set_19 rfl rfl ?_
    refine V.if_ne (tgt := 27) dX10_set_20 (by decide) (fun h => ?_) (fun h => ?_)
    · have hf := fif_f h hf
      refine V.iconst (v := 0) dX10_set_27 rfl ?_
      refine V.istore_n (i := 3) (L' := [some (.ref 0), some (.int a1), some (.int a2), some (.int 0), none, none]) dX10_set_28 rfl (Nat.le_of_ble_eq_true rfl) rfl rfl ?_
      refine V.iload_n (i := 1) dX10_set_29 rfl rfl ?_
      refine V.if_ne (tgt := 38) dX10_set_30 (by decide) (fun h => ?_) (fun h => ?_)
      · have hf := fif_f h hf
        refine V.bipush (v := 8) dX10_set_38 rfl ?_
        refine V.istore (i := 4) (L' := [some (.ref 0), some (.int a1), some (.int a2), some (.int 0), some (.int 8), none]) dX10_set_40 (Nat.le_of_ble_eq_true rfl) rfl rfl ?_
        refine V.iload_n (i := 2) dX10_set_42 rfl rfl ?_
        refine V.iload_n (i := 3) dX10_set_43 rfl rfl ?_
        refine V.icmp_lt (tgt := 53) dX10_set_44 (by decide) (fun h => ?_) (fun h => ?_)
        · have hf := fif_t h hf
          obtain rfl := Option.some.inj hf
          exact V.throwS (i := 10) th_RX10_IllegalArgumentException_110 (List.mem_of_getElem? (i := 10) rfl) dX10_set_53 dX10_set_56 dX10_set_57 dX10_set_59 dX10_set_62 rfl (Nat.le_of_ble_eq_true rfl) (Nat.le_of_ble_eq_true rfl) ⟨Nat.le_of_ble_eq_true rfl, Nat.le_of_ble_eq_true rfl⟩ (Nat.le_of_ble_eq_true rfl) (Nat.le_of_ble_eq_true rfl) rfl
        · have hf := fif_f h hf
          refine V.iload_n (i := 2) dX10_set_47 rfl rfl ?_
          refine V.iload (i := 4) dX10_set_48 rfl ?_
          refine V.icmp_le (tgt := 63) dX10_set_50 (by decide) (fun h => ?_) (fun h => ?_)
          · have hf := fif_t h hf
            refine V.aload_n (i := 0) dX10_set_63 rfl rfl ?_
            refine V.getfield (kf := 1) (v := .ref 3) fl_RX10 dX10_set_64 w113 (Nat.le_of_ble_eq_true rfl) rfl rfl ?_
            refine V.aload_n (i := 0) dX10_set_67 rfl rfl ?_
            refine V.getfield (kf := 0) (v := .ref 1) fl_RX10 dX10_set_68 w112 (Nat.le_of_ble_eq_true rfl) rfl rfl ?_
            obtain ⟨v1, hv1, hf⟩ := fbind hf
            refine V.callVn (pl := [3, 4, 5, 1, 2]) (σ' := [.inl (5, [.ref 1, .ref 3, .ref 6, .ref 8, .ref 9]), .inl (3, [.ref 2]), .inr (910, .inl State_cells), .inl (1, [.ref 4, .ref 5, .int v1.1, .int v1.2.1, .int History_snapshotTaken]), .inr (5460, .inl v1.2.2), .inr (910, .inl History_snapshot), .inl (0, [.ref 7, .int Buffer_size]), .inr (60, .inl Buffer_codes), .inl (2, [.ref (Reader_pattern + 1000), .int Reader_place]), .inl (4, [.ref 10, .int Word_size]), .inr (8, .inl Word_letters)]) (st2 := []) (cl2 := 0) (sl2 := 0) (ct_X3_push (History_oldest := History_oldest) (History_size := History_size) (History_snapshotTaken := History_snapshotTaken) (History_saved := History_saved) (History_snapshot := History_snapshot) (State_cells := State_cells) hv1) dX10_set_71 w547 ⟨w548, w549⟩ cal_X3_push rfl ⟨⟨Nat.le_of_ble_eq_true rfl, Nat.le_of_ble_eq_true rfl⟩, Nat.le_of_ble_eq_true rfl, Nat.le_of_ble_eq_true rfl⟩ (Nat.le_of_ble_eq_true rfl) ⟨_, _, _, _, rfl, rfl⟩ rfl ⟨rfl, ⟨by decide, by decide⟩, rfl, (fr_cons (Or.inl (Nat.le_of_ble_eq_true rfl)) (fr_cons (Or.inl (Nat.le_of_ble_eq_true rfl)) (fr_cons (Or.inl (Nat.le_of_ble_eq_true rfl)) (fr_nil)))), rfl⟩ fr_v rfl rfl rfl rfl ?_
            refine V.aload_n (i := 0) dX10_set_74 rfl rfl ?_
            refine V.getfield (kf := 0) (v := .ref 1) fl_RX10 dX10_set_75 w112 (Nat.le_of_ble_eq_true rfl) rfl rfl ?_
            refine V.iconst (v := 1) dX10_set_78 rfl ?_
            refine V.iload_n (i := 1) dX10_set_79 rfl rfl ?_
            refine V.iadd dX10_set_80 ?_
            obtain ⟨v2, hv2, hf⟩ := fbind hf
            refine V.callVn (pl := [1, 2]) (σ' := [.inl (5, [.ref 1, .ref 3, .ref 6, .ref 8, .ref 9]), .inl (3, [.ref 2]), .inr (910, .inl State_cells), .inl (1, [.ref 4, .ref 5, .int v1.1, .int v1.2.1, .int History_snapshotTaken]), .inr (5460, .inl v1.2.2), .inr (910, .inl History_snapshot), .inl (0, [.ref 7, .int Buffer_size]), .inr (60, .inl Buffer_codes), .inl (2, [.ref (Reader_pattern + 1000), .int Reader_place]), .inl (4, [.ref 10, .int Word_size]), .inr (8, .inl Word_letters)]) (st2 := [.int v2]) (cl2 := 0) (sl2 := 0) (ct_X7_at (a1 := (1 + a1)) (State_cells := State_cells) hv2) dX10_set_81 w456 ⟨w143, w144⟩ cal_X7_at rfl ⟨⟨Nat.le_of_ble_eq_true rfl, Nat.le_of_ble_eq_true rfl⟩, Nat.le_of_ble_eq_true rfl, Nat.le_of_ble_eq_true rfl⟩ (Nat.le_of_ble_eq_true rfl) ⟨_, _, _, _, rfl, rfl⟩ rfl ⟨rfl, ⟨by decide, by decide⟩, rfl, (fr_cons (Or.inl (Nat.le_of_ble_eq_true rfl)) (fr_nil)), rfl⟩ fr_i rfl rfl rfl rfl ?_
            refine V.istore (i := 5) (L' := [some (.ref 0), some (.int a1), some (.int a2), some (.int 0), some (.int 8), some (.int v2)]) dX10_set_84 (Nat.le_of_ble_eq_true rfl) rfl rfl ?_
            refine V.aload_n (i := 0) dX10_set_86 rfl rfl ?_
            refine V.getfield (kf := 0) (v := .ref 1) fl_RX10 dX10_set_87 w112 (Nat.le_of_ble_eq_true rfl) rfl rfl ?_
            refine V.iconst (v := 1) dX10_set_90 rfl ?_
            refine V.iload_n (i := 1) dX10_set_91 rfl rfl ?_
            refine V.iadd dX10_set_92 ?_
            refine V.iload_n (i := 2) dX10_set_93 rfl rfl ?_
            obtain ⟨v3, hv3, hf⟩ := fbind hf
            refine V.callVn (pl := [1, 2]) (σ' := [.inl (5, [.ref 1, .ref 3, .ref 6, .ref 8, .ref 9]), .inl (3, [.ref 2]), .inr (910, .inl v3), .inl (1, [.ref 4, .ref 5, .int v1.1, .int v1.2.1, .int History_snapshotTaken]), .inr (5460, .inl v1.2.2), .inr (910, .inl History_snapshot), .inl (0, [.ref 7, .int Buffer_size]), .inr (60, .inl Buffer_codes), .inl (2, [.ref (Reader_pattern + 1000), .int Reader_place]), .inl (4, [.ref 10, .int Word_size]), .inr (8, .inl Word_letters)]) (st2 := []) (cl2 := 0) (sl2 := 0) (ct_X7_put (a1 := (1 + a1)) (a2 := a2) (State_cells := State_cells) hv3) dX10_set_94 w701 ⟨w38, w39⟩ cal_X7_put rfl ⟨⟨Nat.le_of_ble_eq_true rfl, Nat.le_of_ble_eq_true rfl⟩, Nat.le_of_ble_eq_true rfl, Nat.le_of_ble_eq_true rfl⟩ (Nat.le_of_ble_eq_true rfl) ⟨_, _, _, _, rfl, rfl⟩ rfl ⟨rfl, ⟨by decide, by decide⟩, rfl, (fr_cons (Or.inl (Nat.le_of_ble_eq_true rfl)) (fr_nil)), rfl⟩ fr_v rfl rfl rfl rfl ?_
            refine V.iload (i := 5) dX10_set_97 rfl ?_
            obtain rfl := Option.some.inj hf
            exact V.iret dX10_set_99 rfl (Nat.le_of_ble_eq_true rfl) (Nat.le_of_ble_eq_true rfl) rfl
          · have hf := fif_f h hf
            obtain rfl := Option.some.inj hf
            exact V.throwS (i := 10) th_RX10_IllegalArgumentException_110 (List.mem_of_getElem? (i := 10) rfl) dX10_set_53 dX10_set_56 dX10_set_57 dX10_set_59 dX10_set_62 rfl (Nat.le_of_ble_eq_true rfl) (Nat.le_of_ble_eq_true rfl) ⟨Nat.le_of_ble_eq_true rfl, Nat.le_of_ble_eq_true rfl⟩ (Nat.le_of_ble_eq_true rfl) (Nat.le_of_ble_eq_true rfl) rfl
      · have hf := fif_t h hf
        refine V.bipush (v := 9) dX10_set_33 rfl ?_
        refine V.goto (tgt := 40) dX10_set_35 (by decide) ?_
        refine V.istore (i := 4) (L' := [some (.ref 0), some (.int a1), some (.int a2), some (.int 0), some (.int 9), none]) dX10_set_40 (Nat.le_of_ble_eq_true rfl) rfl rfl ?_
        refine V.iload_n (i := 2) dX10_set_42 rfl rfl ?_
        refine V.iload_n (i := 3) dX10_set_43 rfl rfl ?_
        refine V.icmp_lt (tgt := 53) dX10_set_44 (by decide) (fun h => ?_) (fun h => ?_)
        · have hf := fif_t h hf
          obtain rfl := Option.some.inj hf
          exact V.throwS (i := 10) th_RX10_IllegalArgumentException_110 (List.mem_of_getElem? (i := 10) rfl) dX10_set_53 dX10_set_56 dX10_set_57 dX10_set_59 dX10_set_62 rfl (Nat.le_of_ble_eq_true rfl) (Nat.le_of_ble_eq_true rfl) ⟨Nat.le_of_ble_eq_true rfl, Nat.le_of_ble_eq_true rfl⟩ (Nat.le_of_ble_eq_true rfl) (Nat.le_of_ble_eq_true rfl) rfl
        · have hf := fif_f h hf
          refine V.iload_n (i := 2) dX10_set_47 rfl rfl ?_
          refine V.iload (i := 4) dX10_set_48 rfl ?_
          refine V.icmp_le (tgt := 63) dX10_set_50 (by decide) (fun h => ?_) (fun h => ?_)
          · have hf := fif_t h hf
            refine V.aload_n (i := 0) dX10_set_63 rfl rfl ?_
            refine V.getfield (kf := 1) (v := .ref 3) fl_RX10 dX10_set_64 w113 (Nat.le_of_ble_eq_true rfl) rfl rfl ?_
            refine V.aload_n (i := 0) dX10_set_67 rfl rfl ?_
            refine V.getfield (kf := 0) (v := .ref 1) fl_RX10 dX10_set_68 w112 (Nat.le_of_ble_eq_true rfl) rfl rfl ?_
            obtain ⟨v4, hv4, hf⟩ := fbind hf
            refine V.callVn (pl := [3, 4, 5, 1, 2]) (σ' := [.inl (5, [.ref 1, .ref 3, .ref 6, .ref 8, .ref 9]), .inl (3, [.ref 2]), .inr (910, .inl State_cells), .inl (1, [.ref 4, .ref 5, .int v4.1, .int v4.2.1, .int History_snapshotTaken]), .inr (5460, .inl v4.2.2), .inr (910, .inl History_snapshot), .inl (0, [.ref 7, .int Buffer_size]), .inr (60, .inl Buffer_codes), .inl (2, [.ref (Reader_pattern + 1000), .int Reader_place]), .inl (4, [.ref 10, .int Word_size]), .inr (8, .inl Word_letters)]) (st2 := []) (cl2 := 0) (sl2 := 0) (ct_X3_push (History_oldest := History_oldest) (History_size := History_size) (History_snapshotTaken := History_snapshotTaken) (History_saved := History_saved) (History_snapshot := History_snapshot) (State_cells := State_cells) hv4) dX10_set_71 w547 ⟨w548, w549⟩ cal_X3_push rfl ⟨⟨Nat.le_of_ble_eq_true rfl, Nat.le_of_ble_eq_true rfl⟩, Nat.le_of_ble_eq_true rfl, Nat.le_of_ble_eq_true rfl⟩ (Nat.le_of_ble_eq_true rfl) ⟨_, _, _, _, rfl, rfl⟩ rfl ⟨rfl, ⟨by decide, by decide⟩, rfl, (fr_cons (Or.inl (Nat.le_of_ble_eq_true rfl)) (fr_cons (Or.inl (Nat.le_of_ble_eq_true rfl)) (fr_cons (Or.inl (Nat.le_of_ble_eq_true rfl)) (fr_nil)))), rfl⟩ fr_v rfl rfl rfl rfl ?_
            refine V.aload_n (i := 0) dX10_set_74 rfl rfl ?_
            refine V.getfield (kf := 0) (v := .ref 1) fl_RX10 dX10_set_75 w112 (Nat.le_of_ble_eq_true rfl) rfl rfl ?_
            refine V.iconst (v := 1) dX10_set_78 rfl ?_
            refine V.iload_n (i := 1) dX10_set_79 rfl rfl ?_
            refine V.iadd dX10_set_80 ?_
            obtain ⟨v5, hv5, hf⟩ := fbind hf
            refine V.callVn (pl := [1, 2]) (σ' := [.inl (5, [.ref 1, .ref 3, .ref 6, .ref 8, .ref 9]), .inl (3, [.ref 2]), .inr (910, .inl State_cells), .inl (1, [.ref 4, .ref 5, .int v4.1, .int v4.2.1, .int History_snapshotTaken]), .inr (5460, .inl v4.2.2), .inr (910, .inl History_snapshot), .inl (0, [.ref 7, .int Buffer_size]), .inr (60, .inl Buffer_codes), .inl (2, [.ref (Reader_pattern + 1000), .int Reader_place]), .inl (4, [.ref 10, .int Word_size]), .inr (8, .inl Word_letters)]) (st2 := [.int v5]) (cl2 := 0) (sl2 := 0) (ct_X7_at (a1 := (1 + a1)) (State_cells := State_cells) hv5) dX10_set_81 w456 ⟨w143, w144⟩ cal_X7_at rfl ⟨⟨Nat.le_of_ble_eq_true rfl, Nat.le_of_ble_eq_true rfl⟩, Nat.le_of_ble_eq_true rfl, Nat.le_of_ble_eq_true rfl⟩ (Nat.le_of_ble_eq_true rfl) ⟨_, _, _, _, rfl, rfl⟩ rfl ⟨rfl, ⟨by decide, by decide⟩, rfl, (fr_cons (Or.inl (Nat.le_of_ble_eq_true rfl)) (fr_nil)), rfl⟩ fr_i rfl rfl rfl rfl ?_
            refine V.istore (i := 5) (L' := [some (.ref 0), some (.int a1), some (.int a2), some (.int 0), some (.int 9), some (.int v5)]) dX10_set_84 (Nat.le_of_ble_eq_true rfl) rfl rfl ?_
            refine V.aload_n (i := 0) dX10_set_86 rfl rfl ?_
            refine V.getfield (kf := 0) (v := .ref 1) fl_RX10 dX10_set_87 w112 (Nat.le_of_ble_eq_true rfl) rfl rfl ?_
            refine V.iconst (v := 1) dX10_set_90 rfl ?_
            refine V.iload_n (i := 1) dX10_set_91 rfl rfl ?_
            refine V.iadd dX10_set_92 ?_
            refine V.iload_n (i := 2) dX10_set_93 rfl rfl ?_
            obtain ⟨v6, hv6, hf⟩ := fbind hf
            refine V.callVn (pl := [1, 2]) (σ' := [.inl (5, [.ref 1, .ref 3, .ref 6, .ref 8, .ref 9]), .inl (3, [.ref 2]), .inr (910, .inl v6), .inl (1, [.ref 4, .ref 5, .int v4.1, .int v4.2.1, .int History_snapshotTaken]), .inr (5460, .inl v4.2.2), .inr (910, .inl History_snapshot), .inl (0, [.ref 7, .int Buffer_size]), .inr (60, .inl Buffer_codes), .inl (2, [.ref (Reader_pattern + 1000), .int Reader_place]), .inl (4, [.ref 10, .int Word_size]), .inr (8, .inl Word_letters)]) (st2 := []) (cl2 := 0) (sl2 := 0) (ct_X7_put (a1 := (1 + a1)) (a2 := a2) (State_cells := State_cells) hv6) dX10_set_94 w701 ⟨w38, w39⟩ cal_X7_put rfl ⟨⟨Nat.le_of_ble_eq_true rfl, Nat.le_of_ble_eq_true rfl⟩, Nat.le_of_ble_eq_true rfl, Nat.le_of_ble_eq_true rfl⟩ (Nat.le_of_ble_eq_true rfl) ⟨_, _, _, _, rfl, rfl⟩ rfl ⟨rfl, ⟨by decide, by decide⟩, rfl, (fr_cons (Or.inl (Nat.le_of_ble_eq_true rfl)) (fr_nil)), rfl⟩ fr_v rfl rfl rfl rfl ?_
            refine V.iload (i := 5) dX10_set_97 rfl ?_
            obtain rfl := Option.some.inj hf
            exact V.iret dX10_set_99 rfl (Nat.le_of_ble_eq_true rfl) (Nat.le_of_ble_eq_true rfl) rfl
          · have hf := fif_f h hf
            obtain rfl := Option.some.inj hf
            exact V.throwS (i := 10) th_RX10_IllegalArgumentException_110 (List.mem_of_getElem? (i := 10) rfl) dX10_set_53 dX10_set_56 dX10_set_57 dX10_set_59 dX10_set_62 rfl (Nat.le_of_ble_eq_true rfl) (Nat.le_of_ble_eq_true rfl) ⟨Nat.le_of_ble_eq_true rfl, Nat.le_of_ble_eq_true rfl⟩ (Nat.le_of_ble_eq_true rfl) (Nat.le_of_ble_eq_true rfl) rfl
    · have hf := fif_t h hf
      refine V.iconst (v := 1) dX10_set_23 rfl ?_
      refine V.goto (tgt := 28) dX10_set_24 (by decide) ?_
      refine V.istore_n (i := 3) (L' := [some (.ref 0), some (.int a1), some (.int a2), some (.int 1), none, none]) dX10_set_28 rfl (Nat.le_of_ble_eq_true rfl) rfl rfl ?_
      refine V.iload_n (i := 1) dX10_set_29 rfl rfl ?_
      refine V.if_ne (tgt := 38) dX10_set_30 (by decide) (fun h => ?_) (fun h => ?_)
      · have hf := fif_f h hf
        refine V.bipush (v := 8) dX10_set_38 rfl ?_
        refine V.istore (i := 4) (L' := [some (.ref 0), some (.int a1), some (.int a2), some (.int 1), some (.int 8), none]) dX10_set_40 (Nat.le_of_ble_eq_true rfl) rfl rfl ?_
        refine V.iload_n (i := 2) dX10_set_42 rfl rfl ?_
        refine V.iload_n (i := 3) dX10_set_43 rfl rfl ?_
        refine V.icmp_lt (tgt := 53) dX10_set_44 (by decide) (fun h => ?_) (fun h => ?_)
        · have hf := fif_t h hf
          obtain rfl := Option.some.inj hf
          exact V.throwS (i := 10) th_RX10_IllegalArgumentException_110 (List.mem_of_getElem? (i := 10) rfl) dX10_set_53 dX10_set_56 dX10_set_57 dX10_set_59 dX10_set_62 rfl (Nat.le_of_ble_eq_true rfl) (Nat.le_of_ble_eq_true rfl) ⟨Nat.le_of_ble_eq_true rfl, Nat.le_of_ble_eq_true rfl⟩ (Nat.le_of_ble_eq_true rfl) (Nat.le_of_ble_eq_true rfl) rfl
        · have hf := fif_f h hf
          refine V.iload_n (i := 2) dX10_set_47 rfl rfl ?_
          refine V.iload (i := 4) dX10_set_48 rfl ?_
          refine V.icmp_le (tgt := 63) dX10_set_50 (by decide) (fun h => ?_) (fun h => ?_)
          · have hf := fif_t h hf
            refine V.aload_n (i := 0) dX10_set_63 rfl rfl ?_
            refine V.getfield (kf := 1) (v := .ref 3) fl_RX10 dX10_set_64 w113 (Nat.le_of_ble_eq_true rfl) rfl rfl ?_
            refine V.aload_n (i := 0) dX10_set_67 rfl rfl ?_
            refine V.getfield (kf := 0) (v := .ref 1) fl_RX10 dX10_set_68 w112 (Nat.le_of_ble_eq_true rfl) rfl rfl ?_
            obtain ⟨v7, hv7, hf⟩ := fbind hf
            refine V.callVn (pl := [3, 4, 5, 1, 2]) (σ' := [.inl (5, [.ref 1, .ref 3, .ref 6, .ref 8, .ref 9]), .inl (3, [.ref 2]), .inr (910, .inl State_cells), .inl (1, [.ref 4, .ref 5, .int v7.1, .int v7.2.1, .int History_snapshotTaken]), .inr (5460, .inl v7.2.2), .inr (910, .inl History_snapshot), .inl (0, [.ref 7, .int Buffer_size]), .inr (60, .inl Buffer_codes), .inl (2, [.ref (Reader_pattern + 1000), .int Reader_place]), .inl (4, [.ref 10, .int Word_size]), .inr (8, .inl Word_letters)]) (st2 := []) (cl2 := 0) (sl2 := 0) (ct_X3_push (History_oldest := History_oldest) (History_size := History_size) (History_snapshotTaken := History_snapshotTaken) (History_saved := History_saved) (History_snapshot := History_snapshot) (State_cells := State_cells) hv7) dX10_set_71 w547 ⟨w548, w549⟩ cal_X3_push rfl ⟨⟨Nat.le_of_ble_eq_true rfl, Nat.le_of_ble_eq_true rfl⟩, Nat.le_of_ble_eq_true rfl, Nat.le_of_ble_eq_true rfl⟩ (Nat.le_of_ble_eq_true rfl) ⟨_, _, _, _, rfl, rfl⟩ rfl ⟨rfl, ⟨by decide, by decide⟩, rfl, (fr_cons (Or.inl (Nat.le_of_ble_eq_true rfl)) (fr_cons (Or.inl (Nat.le_of_ble_eq_true rfl)) (fr_cons (Or.inl (Nat.le_of_ble_eq_true rfl)) (fr_nil)))), rfl⟩ fr_v rfl rfl rfl rfl ?_
            refine V.aload_n (i := 0) dX10_set_74 rfl rfl ?_
            refine V.getfield (kf := 0) (v := .ref 1) fl_RX10 dX10_set_75 w112 (Nat.le_of_ble_eq_true rfl) rfl rfl ?_
            refine V.iconst (v := 1) dX10_set_78 rfl ?_
            refine V.iload_n (i := 1) dX10_set_79 rfl rfl ?_
            refine V.iadd dX10_set_80 ?_
            obtain ⟨v8, hv8, hf⟩ := fbind hf
            refine V.callVn (pl := [1, 2]) (σ' := [.inl (5, [.ref 1, .ref 3, .ref 6, .ref 8, .ref 9]), .inl (3, [.ref 2]), .inr (910, .inl State_cells), .inl (1, [.ref 4, .ref 5, .int v7.1, .int v7.2.1, .int History_snapshotTaken]), .inr (5460, .inl v7.2.2), .inr (910, .inl History_snapshot), .inl (0, [.ref 7, .int Buffer_size]), .inr (60, .inl Buffer_codes), .inl (2, [.ref (Reader_pattern + 1000), .int Reader_place]), .inl (4, [.ref 10, .int Word_size]), .inr (8, .inl Word_letters)]) (st2 := [.int v8]) (cl2 := 0) (sl2 := 0) (ct_X7_at (a1 := (1 + a1)) (State_cells := State_cells) hv8) dX10_set_81 w456 ⟨w143, w144⟩ cal_X7_at rfl ⟨⟨Nat.le_of_ble_eq_true rfl, Nat.le_of_ble_eq_true rfl⟩, Nat.le_of_ble_eq_true rfl, Nat.le_of_ble_eq_true rfl⟩ (Nat.le_of_ble_eq_true rfl) ⟨_, _, _, _, rfl, rfl⟩ rfl ⟨rfl, ⟨by decide, by decide⟩, rfl, (fr_cons (Or.inl (Nat.le_of_ble_eq_true rfl)) (fr_nil)), rfl⟩ fr_i rfl rfl rfl rfl ?_
            refine V.istore (i := 5) (L' := [some (.ref 0), some (.int a1), some (.int a2), some (.int 1), some (.int 8), some (.int v8)]) dX10_set_84 (Nat.le_of_ble_eq_true rfl) rfl rfl ?_
            refine V.aload_n (i := 0) dX10_set_86 rfl rfl ?_
            refine V.getfield (kf := 0) (v := .ref 1) fl_RX10 dX10_set_87 w112 (Nat.le_of_ble_eq_true rfl) rfl rfl ?_
            refine V.iconst (v := 1) dX10_set_90 rfl ?_
            refine V.iload_n (i := 1) dX10_set_91 rfl rfl ?_
            refine V.iadd dX10_set_92 ?_
            refine V.iload_n (i := 2) dX10_set_93 rfl rfl ?_
            obtain ⟨v9, hv9, hf⟩ := fbind hf
            refine V.callVn (pl := [1, 2]) (σ' := [.inl (5, [.ref 1, .ref 3, .ref 6, .ref 8, .ref 9]), .inl (3, [.ref 2]), .inr (910, .inl v9), .inl (1, [.ref 4, .ref 5, .int v7.1, .int v7.2.1, .int History_snapshotTaken]), .inr (5460, .inl v7.2.2), .inr (910, .inl History_snapshot), .inl (0, [.ref 7, .int Buffer_size]), .inr (60, .inl Buffer_codes), .inl (2, [.ref (Reader_pattern + 1000), .int Reader_place]), .inl (4, [.ref 10, .int Word_size]), .inr (8, .inl Word_letters)]) (st2 := []) (cl2 := 0) (sl2 := 0) (ct_X7_put (a1 := (1 + a1)) (a2 := a2) (State_cells := State_cells) hv9) dX10_set_94 w701 ⟨w38, w39⟩ cal_X7_put rfl ⟨⟨Nat.le_of_ble_eq_true rfl, Nat.le_of_ble_eq_true rfl⟩, Nat.le_of_ble_eq_true rfl, Nat.le_of_ble_eq_true rfl⟩ (Nat.le_of_ble_eq_true rfl) ⟨_, _, _, _, rfl, rfl⟩ rfl ⟨rfl, ⟨by decide, by decide⟩, rfl, (fr_cons (Or.inl (Nat.le_of_ble_eq_true rfl)) (fr_nil)), rfl⟩ fr_v rfl rfl rfl rfl ?_
            refine V.iload (i := 5) dX10_set_97 rfl ?_
            obtain rfl := Option.some.inj hf
            exact V.iret dX10_set_99 rfl (Nat.le_of_ble_eq_true rfl) (Nat.le_of_ble_eq_true rfl) rfl
          · have hf := fif_f h hf
            obtain rfl := Option.some.inj hf
            exact V.throwS (i := 10) th_RX10_IllegalArgumentException_110 (List.mem_of_getElem? (i := 10) rfl) dX10_set_53 dX10_set_56 dX10_set_57 dX10_set_59 dX10_set_62 rfl (Nat.le_of_ble_eq_true rfl) (Nat.le_of_ble_eq_true rfl) ⟨Nat.le_of_ble_eq_true rfl, Nat.le_of_ble_eq_true rfl⟩ (Nat.le_of_ble_eq_true rfl) (Nat.le_of_ble_eq_true rfl) rfl
      · have hf := fif_t h hf
        refine V.bipush (v := 9) dX10_set_33 rfl ?_
        refine V.goto (tgt := 40) dX10_set_35 (by decide) ?_
        refine V.istore (i := 4) (L' := [some (.ref 0), some (.int a1), some (.int a2), some (.int 1), some (.int 9), none]) dX10_set_40 (Nat.le_of_ble_eq_true rfl) rfl rfl ?_
        refine V.iload_n (i := 2) dX10_set_42 rfl rfl ?_
        refine V.iload_n (i := 3) dX10_set_43 rfl rfl ?_
        refine V.icmp_lt (tgt := 53) dX10_set_44 (by decide) (fun h => ?_) (fun h => ?_)
        · have hf := fif_t h hf
          obtain rfl := Option.some.inj hf
          exact V.throwS (i := 10) th_RX10_IllegalArgumentException_110 (List.mem_of_getElem? (i := 10) rfl) dX10_set_53 dX10_set_56 dX10_set_57 dX10_set_59 dX10_set_62 rfl (Nat.le_of_ble_eq_true rfl) (Nat.le_of_ble_eq_true rfl) ⟨Nat.le_of_ble_eq_true rfl, Nat.le_of_ble_eq_true rfl⟩ (Nat.le_of_ble_eq_true rfl) (Nat.le_of_ble_eq_true rfl) rfl
        · have hf := fif_f h hf
          refine V.iload_n (i := 2) dX10_set_47 rfl rfl ?_
          refine V.iload (i := 4) dX10_set_48 rfl ?_
          refine V.icmp_le (tgt := 63) dX10_set_50 (by decide) (fun h => ?_) (fun h => ?_)
          · have hf := fif_t h hf
            refine V.aload_n (i := 0) dX10_set_63 rfl rfl ?_
            refine V.getfield (kf := 1) (v := .ref 3) fl_RX10 dX10_set_64 w113 (Nat.le_of_ble_eq_true rfl) rfl rfl ?_
            refine V.aload_n (i := 0) dX10_set_67 rfl rfl ?_
            refine V.getfield (kf := 0) (v := .ref 1) fl_RX10 dX10_set_68 w112 (Nat.le_of_ble_eq_true rfl) rfl rfl ?_
            obtain ⟨v10, hv10, hf⟩ := fbind hf
            refine V.callVn (pl := [3, 4, 5, 1, 2]) (σ' := [.inl (5, [.ref 1, .ref 3, .ref 6, .ref 8, .ref 9]), .inl (3, [.ref 2]), .inr (910, .inl State_cells), .inl (1, [.ref 4, .ref 5, .int v10.1, .int v10.2.1, .int History_snapshotTaken]), .inr (5460, .inl v10.2.2), .inr (910, .inl History_snapshot), .inl (0, [.ref 7, .int Buffer_size]), .inr (60, .inl Buffer_codes), .inl (2, [.ref (Reader_pattern + 1000), .int Reader_place]), .inl (4, [.ref 10, .int Word_size]), .inr (8, .inl Word_letters)]) (st2 := []) (cl2 := 0) (sl2 := 0) (ct_X3_push (History_oldest := History_oldest) (History_size := History_size) (History_snapshotTaken := History_snapshotTaken) (History_saved := History_saved) (History_snapshot := History_snapshot) (State_cells := State_cells) hv10) dX10_set_71 w547 ⟨w548, w549⟩ cal_X3_push rfl ⟨⟨Nat.le_of_ble_eq_true rfl, Nat.le_of_ble_eq_true rfl⟩, Nat.le_of_ble_eq_true rfl, Nat.le_of_ble_eq_true rfl⟩ (Nat.le_of_ble_eq_true rfl) ⟨_, _, _, _, rfl, rfl⟩ rfl ⟨rfl, ⟨by decide, by decide⟩, rfl, (fr_cons (Or.inl (Nat.le_of_ble_eq_true rfl)) (fr_cons (Or.inl (Nat.le_of_ble_eq_true rfl)) (fr_cons (Or.inl (Nat.le_of_ble_eq_true rfl)) (fr_nil)))), rfl⟩ fr_v rfl rfl rfl rfl ?_
            refine V.aload_n (i := 0) dX10_set_74 rfl rfl ?_
            refine V.getfield (kf := 0) (v := .ref 1) fl_RX10 dX10_set_75 w112 (Nat.le_of_ble_eq_true rfl) rfl rfl ?_
            refine V.iconst (v := 1) dX10_set_78 rfl ?_
            refine V.iload_n (i := 1) dX10_set_79 rfl rfl ?_
            refine V.iadd dX10_set_80 ?_
            obtain ⟨v11, hv11, hf⟩ := fbind hf
            refine V.callVn (pl := [1, 2]) (σ' := [.inl (5, [.ref 1, .ref 3, .ref 6, .ref 8, .ref 9]), .inl (3, [.ref 2]), .inr (910, .inl State_cells), .inl (1, [.ref 4, .ref 5, .int v10.1, .int v10.2.1, .int History_snapshotTaken]), .inr (5460, .inl v10.2.2), .inr (910, .inl History_snapshot), .inl (0, [.ref 7, .int Buffer_size]), .inr (60, .inl Buffer_codes), .inl (2, [.ref (Reader_pattern + 1000), .int Reader_place]), .inl (4, [.ref 10, .int Word_size]), .inr (8, .inl Word_letters)]) (st2 := [.int v11]) (cl2 := 0) (sl2 := 0) (ct_X7_at (a1 := (1 + a1)) (State_cells := State_cells) hv11) dX10_set_81 w456 ⟨w143, w144⟩ cal_X7_at rfl ⟨⟨Nat.le_of_ble_eq_true rfl, Nat.le_of_ble_eq_true rfl⟩, Nat.le_of_ble_eq_true rfl, Nat.le_of_ble_eq_true rfl⟩ (Nat.le_of_ble_eq_true rfl) ⟨_, _, _, _, rfl, rfl⟩ rfl ⟨rfl, ⟨by decide, by decide⟩, rfl, (fr_cons (Or.inl (Nat.le_of_ble_eq_true rfl)) (fr_nil)), rfl⟩ fr_i rfl rfl rfl rfl ?_
            refine V.istore (i := 5) (L' := [some (.ref 0), some (.int a1), some (.int a2), some (.int 1), some (.int 9), some (.int v11)]) dX10_set_84 (Nat.le_of_ble_eq_true rfl) rfl rfl ?_
            refine V.aload_n (i := 0) dX10_set_86 rfl rfl ?_
            refine V.getfield (kf := 0) (v := .ref 1) fl_RX10 dX10_set_87 w112 (Nat.le_of_ble_eq_true rfl) rfl rfl ?_
            refine V.iconst (v := 1) dX10_set_90 rfl ?_
            refine V.iload_n (i := 1) dX10_set_91 rfl rfl ?_
            refine V.iadd dX10_set_92 ?_
            refine V.iload_n (i := 2) dX10_set_93 rfl rfl ?_
            obtain ⟨v12, hv12, hf⟩ := fbind hf
            refine V.callVn (pl := [1, 2]) (σ' := [.inl (5, [.ref 1, .ref 3, .ref 6, .ref 8, .ref 9]), .inl (3, [.ref 2]), .inr (910, .inl v12), .inl (1, [.ref 4, .ref 5, .int v10.1, .int v10.2.1, .int History_snapshotTaken]), .inr (5460, .inl v10.2.2), .inr (910, .inl History_snapshot), .inl (0, [.ref 7, .int Buffer_size]), .inr (60, .inl Buffer_codes), .inl (2, [.ref (Reader_pattern + 1000), .int Reader_place]), .inl (4, [.ref 10, .int Word_size]), .inr (8, .inl Word_letters)]) (st2 := []) (cl2 := 0) (sl2 := 0) (ct_X7_put (a1 := (1 + a1)) (a2 := a2) (State_cells := State_cells) hv12) dX10_set_94 w701 ⟨w38, w39⟩ cal_X7_put rfl ⟨⟨Nat.le_of_ble_eq_true rfl, Nat.le_of_ble_eq_true rfl⟩, Nat.le_of_ble_eq_true rfl, Nat.le_of_ble_eq_true rfl⟩ (Nat.le_of_ble_eq_true rfl) ⟨_, _, _, _, rfl, rfl⟩ rfl ⟨rfl, ⟨by decide, by decide⟩, rfl, (fr_cons (Or.inl (Nat.le_of_ble_eq_true rfl)) (fr_nil)), rfl⟩ fr_v rfl rfl rfl rfl ?_
            refine V.iload (i := 5) dX10_set_97 rfl ?_
            obtain rfl := Option.some.inj hf
            exact V.iret dX10_set_99 rfl (Nat.le_of_ble_eq_true rfl) (Nat.le_of_ble_eq_true rfl) rfl
          · have hf := fif_f h hf
            obtain rfl := Option.some.inj hf
            exact V.throwS (i := 10) th_RX10_IllegalArgumentException_110 (List.mem_of_getElem? (i := 10) rfl) dX10_set_53 dX10_set_56 dX10_set_57 dX10_set_59 dX10_set_62 rfl (Nat.le_of_ble_eq_true rfl) (Nat.le_of_ble_eq_true rfl) ⟨Nat.le_of_ble_eq_true rfl, Nat.le_of_ble_eq_true rfl⟩ (Nat.le_of_ble_eq_true rfl) (Nat.le_of_ble_eq_true rfl) rfl
  · have hf := fif_f h hf
    refine V.iload_n (i := 1) dX10_set_4 rfl rfl ?_
    refine V.iconst (v := 1) dX10_set_5 rfl ?_
    refine V.icmp_eq (tgt := 19) dX10_set_6 (by decide) (fun h => ?_) (fun h => ?_)
    · have hf := fif_t h hf
      refine V.iload_n (i := 1) dX10_set_19 rfl rfl ?_
      refine V.if_ne (tgt := 27) dX10_set_20 (by decide) (fun h => ?_) (fun h => ?_)
      · have hf := fif_f h hf
        refine V.iconst (v := 0) dX10_set_27 rfl ?_
        refine V.istore_n (i := 3) (L' := [some (.ref 0), some (.int a1), some (.int a2), some (.int 0), none, none]) dX10_set_28 rfl (Nat.le_of_ble_eq_true rfl) rfl rfl ?_
        refine V.iload_n (i := 1) dX10_set_29 rfl rfl ?_
        refine V.if_ne (tgt := 38) dX10_set_30 (by decide) (fun h => ?_) (fun h => ?_)
        · have hf := fif_f h hf
          refine V.bipush (v := 8) dX10_set_38 rfl ?_
          refine V.istore (i := 4) (L' := [some (.ref 0), some (.int a1), some (.int a2), some (.int 0), some (.int 8), none]) dX10_set_40 (Nat.le_of_ble_eq_true rfl) rfl rfl ?_
          refine V.iload_n (i := 2) dX10_set_42 rfl rfl ?_
          refine V.iload_n (i := 3) dX10_set_43 rfl rfl ?_
          refine V.icmp_lt (tgt := 53) dX10_set_44 (by decide) (fun h => ?_) (fun h => ?_)
          · have hf := fif_t h hf
            obtain rfl := Option.some.inj hf
            exact V.throwS (i := 10) th_RX10_IllegalArgumentException_110 (List.mem_of_getElem? (i := 10) rfl) dX10_set_53 dX10_set_56 dX10_set_57 dX10_set_59 dX10_set_62 rfl (Nat.le_of_ble_eq_true rfl) (Nat.le_of_ble_eq_true rfl) ⟨Nat.le_of_ble_eq_true rfl, Nat.le_of_ble_eq_true rfl⟩ (Nat.le_of_ble_eq_true rfl) (Nat.le_of_ble_eq_true rfl) rfl
          · have hf := fif_f h hf
            refine V.iload_n (i := 2) dX10_set_47 rfl rfl ?_
            refine V.iload (i := 4) dX10_set_48 rfl ?_
            refine V.icmp_le (tgt := 63) dX10_set_50 (by decide) (fun h => ?_) (fun h => ?_)
            · have hf := fif_t h hf
              refine V.aload_n (i := 0) dX10_set_63 rfl rfl ?_
              refine V.getfield (kf := 1) (v := .ref 3) fl_RX10 dX10_set_64 w113 (Nat.le_of_ble_eq_true rfl) rfl rfl ?_
              refine V.aload_n (i := 0) dX10_set_67 rfl rfl ?_
              refine V.getfield (kf := 0) (v := .ref 1) fl_RX10 dX10_set_68 w112 (Nat.le_of_ble_eq_true rfl) rfl rfl ?_
              obtain ⟨v13, hv13, hf⟩ := fbind hf
              refine V.callVn (pl := [3, 4, 5, 1, 2]) (σ' := [.inl (5, [.ref 1, .ref 3, .ref 6, .ref 8, .ref 9]), .inl (3, [.ref 2]), .inr (910, .inl State_cells), .inl (1, [.ref 4, .ref 5, .int v13.1, .int v13.2.1, .int History_snapshotTaken]), .inr (5460, .inl v13.2.2), .inr (910, .inl History_snapshot), .inl (0, [.ref 7, .int Buffer_size]), .inr (60, .inl Buffer_codes), .inl (2, [.ref (Reader_pattern + 1000), .int Reader_place]), .inl (4, [.ref 10, .int Word_size]), .inr (8, .inl Word_letters)]) (st2 := []) (cl2 := 0) (sl2 := 0) (ct_X3_push (History_oldest := History_oldest) (History_size := History_size) (History_snapshotTaken := History_snapshotTaken) (History_saved := History_saved) (History_snapshot := History_snapshot) (State_cells := State_cells) hv13) dX10_set_71 w547 ⟨w548, w549⟩ cal_X3_push rfl ⟨⟨Nat.le_of_ble_eq_true rfl, Nat.le_of_ble_eq_true rfl⟩, Nat.le_of_ble_eq_true rfl, Nat.le_of_ble_eq_true rfl⟩ (Nat.le_of_ble_eq_true rfl) ⟨_, _, _, _, rfl, rfl⟩ rfl ⟨rfl, ⟨by decide, by decide⟩, rfl, (fr_cons (Or.inl (Nat.le_of_ble_eq_true rfl)) (fr_cons (Or.inl (Nat.le_of_ble_eq_true rfl)) (fr_cons (Or.inl (Nat.le_of_ble_eq_true rfl)) (fr_nil)))), rfl⟩ fr_v rfl rfl rfl rfl ?_
              refine V.aload_n (i := 0) dX10_set_74 rfl rfl ?_
              refine V.getfield (kf := 0) (v := .ref 1) fl_RX10 dX10_set_75 w112 (Nat.le_of_ble_eq_true rfl) rfl rfl ?_
              refine V.iconst (v := 1) dX10_set_78 rfl ?_
              refine V.iload_n (i := 1) dX10_set_79 rfl rfl ?_
              refine V.iadd dX10_set_80 ?_
              obtain ⟨v14, hv14, hf⟩ := fbind hf
              refine V.callVn (pl := [1, 2]) (σ' := [.inl (5, [.ref 1, .ref 3, .ref 6, .ref 8, .ref 9]), .inl (3, [.ref 2]), .inr (910, .inl State_cells), .inl (1, [.ref 4, .ref 5, .int v13.1, .int v13.2.1, .int History_snapshotTaken]), .inr (5460, .inl v13.2.2), .inr (910, .inl History_snapshot), .inl (0, [.ref 7, .int Buffer_size]), .inr (60, .inl Buffer_codes), .inl (2, [.ref (Reader_pattern + 1000), .int Reader_place]), .inl (4, [.ref 10, .int Word_size]), .inr (8, .inl Word_letters)]) (st2 := [.int v14]) (cl2 := 0) (sl2 := 0) (ct_X7_at (a1 := (1 + a1)) (State_cells := State_cells) hv14) dX10_set_81 w456 ⟨w143, w144⟩ cal_X7_at rfl ⟨⟨Nat.le_of_ble_eq_true rfl, Nat.le_of_ble_eq_true rfl⟩, Nat.le_of_ble_eq_true rfl, Nat.le_of_ble_eq_true rfl⟩ (Nat.le_of_ble_eq_true rfl) ⟨_, _, _, _, rfl, rfl⟩ rfl ⟨rfl, ⟨by decide, by decide⟩, rfl, (fr_cons (Or.inl (Nat.le_of_ble_eq_true rfl)) (fr_nil)), rfl⟩ fr_i rfl rfl rfl rfl ?_
              refine V.istore (i := 5) (L' := [some (.ref 0), some (.int a1), some (.int a2), some (.int 0), some (.int 8), some (.int v14)]) dX10_set_84 (Nat.le_of_ble_eq_true rfl) rfl rfl ?_
              refine V.aload_n (i := 0) dX10_set_86 rfl rfl ?_
              refine V.getfield (kf := 0) (v := .ref 1) fl_RX10 dX10_set_87 w112 (Nat.le_of_ble_eq_true rfl) rfl rfl ?_
              refine V.iconst (v := 1) dX10_set_90 rfl ?_
              refine V.iload_n (i := 1) dX10_set_91 rfl rfl ?_
              refine V.iadd dX10_set_92 ?_
              refine V.iload_n (i := 2) dX10_set_93 rfl rfl ?_
              obtain ⟨v15, hv15, hf⟩ := fbind hf
              refine V.callVn (pl := [1, 2]) (σ' := [.inl (5, [.ref 1, .ref 3, .ref 6, .ref 8, .ref 9]), .inl (3, [.ref 2]), .inr (910, .inl v15), .inl (1, [.ref 4, .ref 5, .int v13.1, .int v13.2.1, .int History_snapshotTaken]), .inr (5460, .inl v13.2.2), .inr (910, .inl History_snapshot), .inl (0, [.ref 7, .int Buffer_size]), .inr (60, .inl Buffer_codes), .inl (2, [.ref (Reader_pattern + 1000), .int Reader_place]), .inl (4, [.ref 10, .int Word_size]), .inr (8, .inl Word_letters)]) (st2 := []) (cl2 := 0) (sl2 := 0) (ct_X7_put (a1 := (1 + a1)) (a2 := a2) (State_cells := State_cells) hv15) dX10_set_94 w701 ⟨w38, w39⟩ cal_X7_put rfl ⟨⟨Nat.le_of_ble_eq_true rfl, Nat.le_of_ble_eq_true rfl⟩, Nat.le_of_ble_eq_true rfl, Nat.le_of_ble_eq_true rfl⟩ (Nat.le_of_ble_eq_true rfl) ⟨_, _, _, _, rfl, rfl⟩ rfl ⟨rfl, ⟨by decide, by decide⟩, rfl, (fr_cons (Or.inl (Nat.le_of_ble_eq_true rfl)) (fr_nil)), rfl⟩ fr_v rfl rfl rfl rfl ?_
              refine V.iload (i := 5) dX10_set_97 rfl ?_
              obtain rfl := Option.some.inj hf
              exact V.iret dX10_set_99 rfl (Nat.le_of_ble_eq_true rfl) (Nat.le_of_ble_eq_true rfl) rfl
            · have hf := fif_f h hf
              obtain rfl := Option.some.inj hf
              exact V.throwS (i := 10) th_RX10_IllegalArgumentException_110 (List.mem_of_getElem? (i := 10) rfl) dX10_set_53 dX10_set_56 dX10_set_57 dX10_set_59 dX10_set_62 rfl (Nat.le_of_ble_eq_true rfl) (Nat.le_of_ble_eq_true rfl) ⟨Nat.le_of_ble_eq_true rfl, Nat.le_of_ble_eq_true rfl⟩ (Nat.le_of_ble_eq_true rfl) (Nat.le_of_ble_eq_true rfl) rfl
        · have hf := fif_t h hf
          refine V.bipush (v := 9) dX10_set_33 rfl ?_
          refine V.goto (tgt := 40) dX10_set_35 (by decide) ?_
          refine V.istore (i := 4) (L' := [some (.ref 0), some (.int a1), some (.int a2), some (.int 0), some (.int 9), none]) dX10_set_40 (Nat.le_of_ble_eq_true rfl) rfl rfl ?_
          refine V.iload_n (i := 2) dX10_set_42 rfl rfl ?_
          refine V.iload_n (i := 3) dX10_set_43 rfl rfl ?_
          refine V.icmp_lt (tgt := 53) dX10_set_44 (by decide) (fun h => ?_) (fun h => ?_)
          · have hf := fif_t h hf
            obtain rfl := Option.some.inj hf
            exact V.throwS (i := 10) th_RX10_IllegalArgumentException_110 (List.mem_of_getElem? (i := 10) rfl) dX10_set_53 dX10_set_56 dX10_set_57 dX10_set_59 dX10_set_62 rfl (Nat.le_of_ble_eq_true rfl) (Nat.le_of_ble_eq_true rfl) ⟨Nat.le_of_ble_eq_true rfl, Nat.le_of_ble_eq_true rfl⟩ (Nat.le_of_ble_eq_true rfl) (Nat.le_of_ble_eq_true rfl) rfl
          · have hf := fif_f h hf
            refine V.iload_n (i := 2) dX10_set_47 rfl rfl ?_
            refine V.iload (i := 4) dX10_set_48 rfl ?_
            refine V.icmp_le (tgt := 63) dX10_set_50 (by decide) (fun h => ?_) (fun h => ?_)
            · have hf := fif_t h hf
              refine V.aload_n (i := 0) dX10_set_63 rfl rfl ?_
              refine V.getfield (kf := 1) (v := .ref 3) fl_RX10 dX10_set_64 w113 (Nat.le_of_ble_eq_true rfl) rfl rfl ?_
              refine V.aload_n (i := 0) dX10_set_67 rfl rfl ?_
              refine V.getfield (kf := 0) (v := .ref 1) fl_RX10 dX10_set_68 w112 (Nat.le_of_ble_eq_true rfl) rfl rfl ?_
              obtain ⟨v16, hv16, hf⟩ := fbind hf
              refine V.callVn (pl := [3, 4, 5, 1, 2]) (σ' := [.inl (5, [.ref 1, .ref 3, .ref 6, .ref 8, .ref 9]), .inl (3, [.ref 2]), .inr (910, .inl State_cells), .inl (1, [.ref 4, .ref 5, .int v16.1, .int v16.2.1, .int History_snapshotTaken]), .inr (5460, .inl v16.2.2), .inr (910, .inl History_snapshot), .inl (0, [.ref 7, .int Buffer_size]), .inr (60, .inl Buffer_codes), .inl (2, [.ref (Reader_pattern + 1000), .int Reader_place]), .inl (4, [.ref 10, .int Word_size]), .inr (8, .inl Word_letters)]) (st2 := []) (cl2 := 0) (sl2 := 0) (ct_X3_push (History_oldest := History_oldest) (History_size := History_size) (History_snapshotTaken := History_snapshotTaken) (History_saved := History_saved) (History_snapshot := History_snapshot) (State_cells := State_cells) hv16) dX10_set_71 w547 ⟨w548, w549⟩ cal_X3_push rfl ⟨⟨Nat.le_of_ble_eq_true rfl, Nat.le_of_ble_eq_true rfl⟩, Nat.le_of_ble_eq_true rfl, Nat.le_of_ble_eq_true rfl⟩ (Nat.le_of_ble_eq_true rfl) ⟨_, _, _, _, rfl, rfl⟩ rfl ⟨rfl, ⟨by decide, by decide⟩, rfl, (fr_cons (Or.inl (Nat.le_of_ble_eq_true rfl)) (fr_cons (Or.inl (Nat.le_of_ble_eq_true rfl)) (fr_cons (Or.inl (Nat.le_of_ble_eq_true rfl)) (fr_nil)))), rfl⟩ fr_v rfl rfl rfl rfl ?_
              refine V.aload_n (i := 0) dX10_set_74 rfl rfl ?_
              refine V.getfield (kf := 0) (v := .ref 1) fl_RX10 dX10_set_75 w112 (Nat.le_of_ble_eq_true rfl) rfl rfl ?_
              refine V.iconst (v := 1) dX10_set_78 rfl ?_
              refine V.iload_n (i := 1) dX10_set_79 rfl rfl ?_
              refine V.iadd dX10_set_80 ?_
              obtain ⟨v17, hv17, hf⟩ := fbind hf
              refine V.callVn (pl := [1, 2]) (σ' := [.inl (5, [.ref 1, .ref 3, .ref 6, .ref 8, .ref 9]), .inl (3, [.ref 2]), .inr (910, .inl State_cells), .inl (1, [.ref 4, .ref 5, .int v16.1, .int v16.2.1, .int History_snapshotTaken]), .inr (5460, .inl v16.2.2), .inr (910, .inl History_snapshot), .inl (0, [.ref 7, .int Buffer_size]), .inr (60, .inl Buffer_codes), .inl (2, [.ref (Reader_pattern + 1000), .int Reader_place]), .inl (4, [.ref 10, .int Word_size]), .inr (8, .inl Word_letters)]) (st2 := [.int v17]) (cl2 := 0) (sl2 := 0) (ct_X7_at (a1 := (1 + a1)) (State_cells := State_cells) hv17) dX10_set_81 w456 ⟨w143, w144⟩ cal_X7_at rfl ⟨⟨Nat.le_of_ble_eq_true rfl, Nat.le_of_ble_eq_true rfl⟩, Nat.le_of_ble_eq_true rfl, Nat.le_of_ble_eq_true rfl⟩ (Nat.le_of_ble_eq_true rfl) ⟨_, _, _, _, rfl, rfl⟩ rfl ⟨rfl, ⟨by decide, by decide⟩, rfl, (fr_cons (Or.inl (Nat.le_of_ble_eq_true rfl)) (fr_nil)), rfl⟩ fr_i rfl rfl rfl rfl ?_
              refine V.istore (i := 5) (L' := [some (.ref 0), some (.int a1), some (.int a2), some (.int 0), some (.int 9), some (.int v17)]) dX10_set_84 (Nat.le_of_ble_eq_true rfl) rfl rfl ?_
              refine V.aload_n (i := 0) dX10_set_86 rfl rfl ?_
              refine V.getfield (kf := 0) (v := .ref 1) fl_RX10 dX10_set_87 w112 (Nat.le_of_ble_eq_true rfl) rfl rfl ?_
              refine V.iconst (v := 1) dX10_set_90 rfl ?_
              refine V.iload_n (i := 1) dX10_set_91 rfl rfl ?_
              refine V.iadd dX10_set_92 ?_
              refine V.iload_n (i := 2) dX10_set_93 rfl rfl ?_
              obtain ⟨v18, hv18, hf⟩ := fbind hf
              refine V.callVn (pl := [1, 2]) (σ' := [.inl (5, [.ref 1, .ref 3, .ref 6, .ref 8, .ref 9]), .inl (3, [.ref 2]), .inr (910, .inl v18), .inl (1, [.ref 4, .ref 5, .int v16.1, .int v16.2.1, .int History_snapshotTaken]), .inr (5460, .inl v16.2.2), .inr (910, .inl History_snapshot), .inl (0, [.ref 7, .int Buffer_size]), .inr (60, .inl Buffer_codes), .inl (2, [.ref (Reader_pattern + 1000), .int Reader_place]), .inl (4, [.ref 10, .int Word_size]), .inr (8, .inl Word_letters)]) (st2 := []) (cl2 := 0) (sl2 := 0) (ct_X7_put (a1 := (1 + a1)) (a2 := a2) (State_cells := State_cells) hv18) dX10_set_94 w701 ⟨w38, w39⟩ cal_X7_put rfl ⟨⟨Nat.le_of_ble_eq_true rfl, Nat.le_of_ble_eq_true rfl⟩, Nat.le_of_ble_eq_true rfl, Nat.le_of_ble_eq_true rfl⟩ (Nat.le_of_ble_eq_true rfl) ⟨_, _, _, _, rfl, rfl⟩ rfl ⟨rfl, ⟨by decide, by decide⟩, rfl, (fr_cons (Or.inl (Nat.le_of_ble_eq_true rfl)) (fr_nil)), rfl⟩ fr_v rfl rfl rfl rfl ?_
              refine V.iload (i := 5) dX10_set_97 rfl ?_
              obtain rfl := Option.some.inj hf
              exact V.iret dX10_set_99 rfl (Nat.le_of_ble_eq_true rfl) (Nat.le_of_ble_eq_true rfl) rfl
            · have hf := fif_f h hf
              obtain rfl := Option.some.inj hf
              exact V.throwS (i := 10) th_RX10_IllegalArgumentException_110 (List.mem_of_getElem? (i := 10) rfl) dX10_set_53 dX10_set_56 dX10_set_57 dX10_set_59 dX10_set_62 rfl (Nat.le_of_ble_eq_true rfl) (Nat.le_of_ble_eq_true rfl) ⟨Nat.le_of_ble_eq_true rfl, Nat.le_of_ble_eq_true rfl⟩ (Nat.le_of_ble_eq_true rfl) (Nat.le_of_ble_eq_true rfl) rfl
      · have hf := fif_t h hf
        refine V.iconst (v := 1) dX10_set_23 rfl ?_
        refine V.goto (tgt := 28) dX10_set_24 (by decide) ?_
        refine V.istore_n (i := 3) (L' := [some (.ref 0), some (.int a1), some (.int a2), some (.int 1), none, none]) dX10_set_28 rfl (Nat.le_of_ble_eq_true rfl) rfl rfl ?_
        refine V.iload_n (i := 1) dX10_set_29 rfl rfl ?_
        refine V.if_ne (tgt := 38) dX10_set_30 (by decide) (fun h => ?_) (fun h => ?_)
        · have hf := fif_f h hf
          refine V.bipush (v := 8) dX10_set_38 rfl ?_
          refine V.istore (i := 4) (L' := [some (.ref 0), some (.int a1), some (.int a2), some (.int 1), some (.int 8), none]) dX10_set_40 (Nat.le_of_ble_eq_true rfl) rfl rfl ?_
          refine V.iload_n (i := 2) dX10_set_42 rfl rfl ?_
          refine V.iload_n (i := 3) dX10_set_43 rfl rfl ?_
          refine V.icmp_lt (tgt := 53) dX10_set_44 (by decide) (fun h => ?_) (fun h => ?_)
          · have hf := fif_t h hf
            obtain rfl := Option.some.inj hf
            exact V.throwS (i := 10) th_RX10_IllegalArgumentException_110 (List.mem_of_getElem? (i := 10) rfl) dX10_set_53 dX10_set_56 dX10_set_57 dX10_set_59 dX10_set_62 rfl (Nat.le_of_ble_eq_true rfl) (Nat.le_of_ble_eq_true rfl) ⟨Nat.le_of_ble_eq_true rfl, Nat.le_of_ble_eq_true rfl⟩ (Nat.le_of_ble_eq_true rfl) (Nat.le_of_ble_eq_true rfl) rfl
          · have hf := fif_f h hf
            refine V.iload_n (i := 2) dX10_set_47 rfl rfl ?_
            refine V.iload (i := 4) dX10_set_48 rfl ?_
            refine V.icmp_le (tgt := 63) dX10_set_50 (by decide) (fun h => ?_) (fun h => ?_)
            · have hf := fif_t h hf
              refine V.aload_n (i := 0) dX10_set_63 rfl rfl ?_
              refine V.getfield (kf := 1) (v := .ref 3) fl_RX10 dX10_set_64 w113 (Nat.le_of_ble_eq_true rfl) rfl rfl ?_
              refine V.aload_n (i := 0) dX10_set_67 rfl rfl ?_
              refine V.getfield (kf := 0) (v := .ref 1) fl_RX10 dX10_set_68 w112 (Nat.le_of_ble_eq_true rfl) rfl rfl ?_
              obtain ⟨v19, hv19, hf⟩ := fbind hf
              refine V.callVn (pl := [3, 4, 5, 1, 2]) (σ' := [.inl (5, [.ref 1, .ref 3, .ref 6, .ref 8, .ref 9]), .inl (3, [.ref 2]), .inr (910, .inl State_cells), .inl (1, [.ref 4, .ref 5, .int v19.1, .int v19.2.1, .int History_snapshotTaken]), .inr (5460, .inl v19.2.2), .inr (910, .inl History_snapshot), .inl (0, [.ref 7, .int Buffer_size]), .inr (60, .inl Buffer_codes), .inl (2, [.ref (Reader_pattern + 1000), .int Reader_place]), .inl (4, [.ref 10, .int Word_size]), .inr (8, .inl Word_letters)]) (st2 := []) (cl2 := 0) (sl2 := 0) (ct_X3_push (History_oldest := History_oldest) (History_size := History_size) (History_snapshotTaken := History_snapshotTaken) (History_saved := History_saved) (History_snapshot := History_snapshot) (State_cells := State_cells) hv19) dX10_set_71 w547 ⟨w548, w549⟩ cal_X3_push rfl ⟨⟨Nat.le_of_ble_eq_true rfl, Nat.le_of_ble_eq_true rfl⟩, Nat.le_of_ble_eq_true rfl, Nat.le_of_ble_eq_true rfl⟩ (Nat.le_of_ble_eq_true rfl) ⟨_, _, _, _, rfl, rfl⟩ rfl ⟨rfl, ⟨by decide, by decide⟩, rfl, (fr_cons (Or.inl (Nat.le_of_ble_eq_true rfl)) (fr_cons (Or.inl (Nat.le_of_ble_eq_true rfl)) (fr_cons (Or.inl (Nat.le_of_ble_eq_true rfl)) (fr_nil)))), rfl⟩ fr_v rfl rfl rfl rfl ?_
              refine V.aload_n (i := 0) dX10_set_74 rfl rfl ?_
              refine V.getfield (kf := 0) (v := .ref 1) fl_RX10 dX10_set_75 w112 (Nat.le_of_ble_eq_true rfl) rfl rfl ?_
              refine V.iconst (v := 1) dX10_set_78 rfl ?_
              refine V.iload_n (i := 1) dX10_set_79 rfl rfl ?_
              refine V.iadd dX10_set_80 ?_
              obtain ⟨v20, hv20, hf⟩ := fbind hf
              refine V.callVn (pl := [1, 2]) (σ' := [.inl (5, [.ref 1, .ref 3, .ref 6, .ref 8, .ref 9]), .inl (3, [.ref 2]), .inr (910, .inl State_cells), .inl (1, [.ref 4, .ref 5, .int v19.1, .int v19.2.1, .int History_snapshotTaken]), .inr (5460, .inl v19.2.2), .inr (910, .inl History_snapshot), .inl (0, [.ref 7, .int Buffer_size]), .inr (60, .inl Buffer_codes), .inl (2, [.ref (Reader_pattern + 1000), .int Reader_place]), .inl (4, [.ref 10, .int Word_size]), .inr (8, .inl Word_letters)]) (st2 := [.int v20]) (cl2 := 0) (sl2 := 0) (ct_X7_at (a1 := (1 + a1)) (State_cells := State_cells) hv20) dX10_set_81 w456 ⟨w143, w144⟩ cal_X7_at rfl ⟨⟨Nat.le_of_ble_eq_true rfl, Nat.le_of_ble_eq_true rfl⟩, Nat.le_of_ble_eq_true rfl, Nat.le_of_ble_eq_true rfl⟩ (Nat.le_of_ble_eq_true rfl) ⟨_, _, _, _, rfl, rfl⟩ rfl ⟨rfl, ⟨by decide, by decide⟩, rfl, (fr_cons (Or.inl (Nat.le_of_ble_eq_true rfl)) (fr_nil)), rfl⟩ fr_i rfl rfl rfl rfl ?_
              refine V.istore (i := 5) (L' := [some (.ref 0), some (.int a1), some (.int a2), some (.int 1), some (.int 8), some (.int v20)]) dX10_set_84 (Nat.le_of_ble_eq_true rfl) rfl rfl ?_
              refine V.aload_n (i := 0) dX10_set_86 rfl rfl ?_
              refine V.getfield (kf := 0) (v := .ref 1) fl_RX10 dX10_set_87 w112 (Nat.le_of_ble_eq_true rfl) rfl rfl ?_
              refine V.iconst (v := 1) dX10_set_90 rfl ?_
              refine V.iload_n (i := 1) dX10_set_91 rfl rfl ?_
              refine V.iadd dX10_set_92 ?_
              refine V.iload_n (i := 2) dX10_set_93 rfl rfl ?_
              obtain ⟨v21, hv21, hf⟩ := fbind hf
              refine V.callVn (pl := [1, 2]) (σ' := [.inl (5, [.ref 1, .ref 3, .ref 6, .ref 8, .ref 9]), .inl (3, [.ref 2]), .inr (910, .inl v21), .inl (1, [.ref 4, .ref 5, .int v19.1, .int v19.2.1, .int History_snapshotTaken]), .inr (5460, .inl v19.2.2), .inr (910, .inl History_snapshot), .inl (0, [.ref 7, .int Buffer_size]), .inr (60, .inl Buffer_codes), .inl (2, [.ref (Reader_pattern + 1000), .int Reader_place]), .inl (4, [.ref 10, .int Word_size]), .inr (8, .inl Word_letters)]) (st2 := []) (cl2 := 0) (sl2 := 0) (ct_X7_put (a1 := (1 + a1)) (a2 := a2) (State_cells := State_cells) hv21) dX10_set_94 w701 ⟨w38, w39⟩ cal_X7_put rfl ⟨⟨Nat.le_of_ble_eq_true rfl, Nat.le_of_ble_eq_true rfl⟩, Nat.le_of_ble_eq_true rfl, Nat.le_of_ble_eq_true rfl⟩ (Nat.le_of_ble_eq_true rfl) ⟨_, _, _, _, rfl, rfl⟩ rfl ⟨rfl, ⟨by decide, by decide⟩, rfl, (fr_cons (Or.inl (Nat.le_of_ble_eq_true rfl)) (fr_nil)), rfl⟩ fr_v rfl rfl rfl rfl ?_
              refine V.iload (i := 5) dX10_set_97 rfl ?_
              obtain rfl := Option.some.inj hf
              exact V.iret dX10_set_99 rfl (Nat.le_of_ble_eq_true rfl) (Nat.le_of_ble_eq_true rfl) rfl
            · have hf := fif_f h hf
              obtain rfl := Option.some.inj hf
              exact V.throwS (i := 10) th_RX10_IllegalArgumentException_110 (List.mem_of_getElem? (i := 10) rfl) dX10_set_53 dX10_set_56 dX10_set_57 dX10_set_59 dX10_set_62 rfl (Nat.le_of_ble_eq_true rfl) (Nat.le_of_ble_eq_true rfl) ⟨Nat.le_of_ble_eq_true rfl, Nat.le_of_ble_eq_true rfl⟩ (Nat.le_of_ble_eq_true rfl) (Nat.le_of_ble_eq_true rfl) rfl
        · have hf := fif_t h hf
          refine V.bipush (v := 9) dX10_set_33 rfl ?_
          refine V.goto (tgt := 40) dX10_set_35 (by decide) ?_
          refine V.istore (i := 4) (L' := [some (.ref 0), some (.int a1), some (.int a2), some (.int 1), some (.int 9), none]) dX10_set_40 (Nat.le_of_ble_eq_true rfl) rfl rfl ?_
          refine V.iload_n (i := 2) dX10_set_42 rfl rfl ?_
          refine V.iload_n (i := 3) dX10_set_43 rfl rfl ?_
          refine V.icmp_lt (tgt := 53) dX10_set_44 (by decide) (fun h => ?_) (fun h => ?_)
          · have hf := fif_t h hf
            obtain rfl := Option.some.inj hf
            exact V.throwS (i := 10) th_RX10_IllegalArgumentException_110 (List.mem_of_getElem? (i := 10) rfl) dX10_set_53 dX10_set_56 dX10_set_57 dX10_set_59 dX10_set_62 rfl (Nat.le_of_ble_eq_true rfl) (Nat.le_of_ble_eq_true rfl) ⟨Nat.le_of_ble_eq_true rfl, Nat.le_of_ble_eq_true rfl⟩ (Nat.le_of_ble_eq_true rfl) (Nat.le_of_ble_eq_true rfl) rfl
          · have hf := fif_f h hf
            refine V.iload_n (i := 2) dX10_set_47 rfl rfl ?_
            refine V.iload (i := 4) dX10_set_48 rfl ?_
            refine V.icmp_le (tgt := 63) dX10_set_50 (by decide) (fun h => ?_) (fun h => ?_)
            · have hf := fif_t h hf
              refine V.aload_n (i := 0) dX10_set_63 rfl rfl ?_
              refine V.getfield (kf := 1) (v := .ref 3) fl_RX10 dX10_set_64 w113 (Nat.le_of_ble_eq_true rfl) rfl rfl ?_
              refine V.aload_n (i := 0) dX10_set_67 rfl rfl ?_
              refine V.getfield (kf := 0) (v := .ref 1) fl_RX10 dX10_set_68 w112 (Nat.le_of_ble_eq_true rfl) rfl rfl ?_
              obtain ⟨v22, hv22, hf⟩ := fbind hf
              refine V.callVn (pl := [3, 4, 5, 1, 2]) (σ' := [.inl (5, [.ref 1, .ref 3, .ref 6, .ref 8, .ref 9]), .inl (3, [.ref 2]), .inr (910, .inl State_cells), .inl (1, [.ref 4, .ref 5, .int v22.1, .int v22.2.1, .int History_snapshotTaken]), .inr (5460, .inl v22.2.2), .inr (910, .inl History_snapshot), .inl (0, [.ref 7, .int Buffer_size]), .inr (60, .inl Buffer_codes), .inl (2, [.ref (Reader_pattern + 1000), .int Reader_place]), .inl (4, [.ref 10, .int Word_size]), .inr (8, .inl Word_letters)]) (st2 := []) (cl2 := 0) (sl2 := 0) (ct_X3_push (History_oldest := History_oldest) (History_size := History_size) (History_snapshotTaken := History_snapshotTaken) (History_saved := History_saved) (History_snapshot := History_snapshot) (State_cells := State_cells) hv22) dX10_set_71 w547 ⟨w548, w549⟩ cal_X3_push rfl ⟨⟨Nat.le_of_ble_eq_true rfl, Nat.le_of_ble_eq_true rfl⟩, Nat.le_of_ble_eq_true rfl, Nat.le_of_ble_eq_true rfl⟩ (Nat.le_of_ble_eq_true rfl) ⟨_, _, _, _, rfl, rfl⟩ rfl ⟨rfl, ⟨by decide, by decide⟩, rfl, (fr_cons (Or.inl (Nat.le_of_ble_eq_true rfl)) (fr_cons (Or.inl (Nat.le_of_ble_eq_true rfl)) (fr_cons (Or.inl (Nat.le_of_ble_eq_true rfl)) (fr_nil)))), rfl⟩ fr_v rfl rfl rfl rfl ?_
              refine V.aload_n (i := 0) dX10_set_74 rfl rfl ?_
              refine V.getfield (kf := 0) (v := .ref 1) fl_RX10 dX10_set_75 w112 (Nat.le_of_ble_eq_true rfl) rfl rfl ?_
              refine V.iconst (v := 1) dX10_set_78 rfl ?_
              refine V.iload_n (i := 1) dX10_set_79 rfl rfl ?_
              refine V.iadd dX10_set_80 ?_
              obtain ⟨v23, hv23, hf⟩ := fbind hf
              refine V.callVn (pl := [1, 2]) (σ' := [.inl (5, [.ref 1, .ref 3, .ref 6, .ref 8, .ref 9]), .inl (3, [.ref 2]), .inr (910, .inl State_cells), .inl (1, [.ref 4, .ref 5, .int v22.1, .int v22.2.1, .int History_snapshotTaken]), .inr (5460, .inl v22.2.2), .inr (910, .inl History_snapshot), .inl (0, [.ref 7, .int Buffer_size]), .inr (60, .inl Buffer_codes), .inl (2, [.ref (Reader_pattern + 1000), .int Reader_place]), .inl (4, [.ref 10, .int Word_size]), .inr (8, .inl Word_letters)]) (st2 := [.int v23]) (cl2 := 0) (sl2 := 0) (ct_X7_at (a1 := (1 + a1)) (State_cells := State_cells) hv23) dX10_set_81 w456 ⟨w143, w144⟩ cal_X7_at rfl ⟨⟨Nat.le_of_ble_eq_true rfl, Nat.le_of_ble_eq_true rfl⟩, Nat.le_of_ble_eq_true rfl, Nat.le_of_ble_eq_true rfl⟩ (Nat.le_of_ble_eq_true rfl) ⟨_, _, _, _, rfl, rfl⟩ rfl ⟨rfl, ⟨by decide, by decide⟩, rfl, (fr_cons (Or.inl (Nat.le_of_ble_eq_true rfl)) (fr_nil)), rfl⟩ fr_i rfl rfl rfl rfl ?_
              refine V.istore (i := 5) (L' := [some (.ref 0), some (.int a1), some (.int a2), some (.int 1), some (.int 9), some (.int v23)]) dX10_set_84 (Nat.le_of_ble_eq_true rfl) rfl rfl ?_
              refine V.aload_n (i := 0) dX10_set_86 rfl rfl ?_
              refine V.getfield (kf := 0) (v := .ref 1) fl_RX10 dX10_set_87 w112 (Nat.le_of_ble_eq_true rfl) rfl rfl ?_
              refine V.iconst (v := 1) dX10_set_90 rfl ?_
              refine V.iload_n (i := 1) dX10_set_91 rfl rfl ?_
              refine V.iadd dX10_set_92 ?_
              refine V.iload_n (i := 2) dX10_set_93 rfl rfl ?_
              obtain ⟨v24, hv24, hf⟩ := fbind hf
              refine V.callVn (pl := [1, 2]) (σ' := [.inl (5, [.ref 1, .ref 3, .ref 6, .ref 8, .ref 9]), .inl (3, [.ref 2]), .inr (910, .inl v24), .inl (1, [.ref 4, .ref 5, .int v22.1, .int v22.2.1, .int History_snapshotTaken]), .inr (5460, .inl v22.2.2), .inr (910, .inl History_snapshot), .inl (0, [.ref 7, .int Buffer_size]), .inr (60, .inl Buffer_codes), .inl (2, [.ref (Reader_pattern + 1000), .int Reader_place]), .inl (4, [.ref 10, .int Word_size]), .inr (8, .inl Word_letters)]) (st2 := []) (cl2 := 0) (sl2 := 0) (ct_X7_put (a1 := (1 + a1)) (a2 := a2) (State_cells := State_cells) hv24) dX10_set_94 w701 ⟨w38, w39⟩ cal_X7_put rfl ⟨⟨Nat.le_of_ble_eq_true rfl, Nat.le_of_ble_eq_true rfl⟩, Nat.le_of_ble_eq_true rfl, Nat.le_of_ble_eq_true rfl⟩ (Nat.le_of_ble_eq_true rfl) ⟨_, _, _, _, rfl, rfl⟩ rfl ⟨rfl, ⟨by decide, by decide⟩, rfl, (fr_cons (Or.inl (Nat.le_of_ble_eq_true rfl)) (fr_nil)), rfl⟩ fr_v rfl rfl rfl rfl ?_
              refine V.iload (i := 5) dX10_set_97 rfl ?_
              obtain rfl := Option.some.inj hf
              exact V.iret dX10_set_99 rfl (Nat.le_of_ble_eq_true rfl) (Nat.le_of_ble_eq_true rfl) rfl
            · have hf := fif_f h hf
              obtain rfl := Option.some.inj hf
              exact V.throwS (i := 10) th_RX10_IllegalArgumentException_110 (List.mem_of_getElem? (i := 10) rfl) dX10_set_53 dX10_set_56 dX10_set_57 dX10_set_59 dX10_set_62 rfl (Nat.le_of_ble_eq_true rfl) (Nat.le_of_ble_eq_true rfl) ⟨Nat.le_of_ble_eq_true rfl, Nat.le_of_ble_eq_true rfl⟩ (Nat.le_of_ble_eq_true rfl) (Nat.le_of_ble_eq_true rfl) rfl
    · have hf := fif_f h hf
      obtain rfl := Option.some.inj hf
      exact V.throwS (i := 9) th_RX10_IndexOutOfBoundsException_131 (List.mem_of_getElem? (i := 9) rfl) dX10_set_9 dX10_set_12 dX10_set_13 dX10_set_15 dX10_set_18 rfl (Nat.le_of_ble_eq_true rfl) (Nat.le_of_ble_eq_true rfl) ⟨Nat.le_of_ble_eq_true rfl, Nat.le_of_ble_eq_true rfl⟩ (Nat.le_of_ble_eq_true rfl) (Nat.le_of_ble_eq_true rfl) rfl
def k_X10_append : fK := (yX10_append, cX10_append, 2, (some .int), [], (6, 82), (0, 0), (1, 6))
theorem cal_X10_append : fCal k_X10_append 1 := ⟨⟨wc478, w6⟩, ⟨by decide +kernel, by decide +kernel⟩, by decide +kernel, by decide +kernel⟩
def s_X10_append (a1 : Int32) (Buffer_size : Int32) (Buffer_codes : Nat → Int32) : Option ((Int32 ⊕ String) × (Int32) × (Nat → Int32)) := if (a1 < 33 : Prop) then (some (.inr "java/lang/IllegalArgumentException", Buffer_size, Buffer_codes)) else (if (a1 ≤ 126 : Prop) then ((s_X1_isFull Buffer_size).bind fun v1 => if (v1 = 0 : Prop) then ((s_X1_add a1 Buffer_size Buffer_codes).bind fun v2 => some (.inl v2.1, v2.2.1, v2.2.2)) else (some (.inr "java/lang/IllegalStateException", Buffer_size, Buffer_codes))) else (some (.inr "java/lang/IllegalArgumentException", Buffer_size, Buffer_codes)))
set_option maxHeartbeats 4000000 in
set_option maxRecDepth 100000 in
theorem ct_X10_append {a1 : Int32} {State_cells : Nat → Int32} {History_oldest : Int32} {History_size : Int32} {History_snapshotTaken : Int32} {History_saved : Nat → Int32} {History_snapshot : Nat → Int32} {Buffer_size : Int32} {Buffer_codes : Nat → Int32} {Reader_pattern : Nat} {Reader_place : Int32} {Word_size : Int32} {Word_letters : Nat → Int32} {res : (Int32 ⊕ String) × (Int32) × (Nat → Int32)} (hf : s_X10_append a1 Buffer_size Buffer_codes = some res) : Ct k_X10_append [.ref 0, .int a1] [.inl (5, [.ref 1, .ref 3, .ref 6, .ref 8, .ref 9]), .inl (3, [.ref 2]), .inr (910, .inl State_cells), .inl (1, [.ref 4, .ref 5, .int History_oldest, .int History_size, .int History_snapshotTaken]), .inr (5460, .inl History_saved), .inr (910, .inl History_snapshot), .inl (0, [.ref 7, .int Buffer_size]), .inr (60, .inl Buffer_codes), .inl (2, [.ref (Reader_pattern + 1000), .int Reader_place]), .inl (4, [.ref 10, .int Word_size]), .inr (8, .inl Word_letters)] (foI res.1) [.inl (5, [.ref 1, .ref 3, .ref 6, .ref 8, .ref 9]), .inl (3, [.ref 2]), .inr (910, .inl State_cells), .inl (1, [.ref 4, .ref 5, .int History_oldest, .int History_size, .int History_snapshotTaken]), .inr (5460, .inl History_saved), .inr (910, .inl History_snapshot), .inl (0, [.ref 7, .int res.2.1]), .inr (60, .inl res.2.2), .inl (2, [.ref (Reader_pattern + 1000), .int Reader_place]), .inl (4, [.ref 10, .int Word_size]), .inr (8, .inl Word_letters)] := by
  unfold s_X10_append at hf
  refine Ct.of (L := [some (.ref 0), some (.int a1)]) cal_X10_append (fent_pad (j := 0) rfl) (Nat.le_of_ble_eq_true rfl) ?_
  refine V.iload_n (i := 1) dX10_append_0 rfl rfl ?_
  refine V.bipush (v := 33) dX10_append_1 rfl ?_
  refine V.icmp_lt (tgt := 12) dX10_append_3 (by decide) (fun h => ?_) (fun h => ?_)
  · have hf := fif_t h hf
    obtain rfl := Option.some.inj hf
    exact V.throwS (i := 11) th_RX10_IllegalArgumentException_110 (List.mem_of_getElem? (i := 11) rfl) dX10_append_12 dX10_append_15 dX10_append_16 dX10_append_18 dX10_append_21 rfl (Nat.le_of_ble_eq_true rfl) (Nat.le_of_ble_eq_true rfl) ⟨Nat.le_of_ble_eq_true rfl, Nat.le_of_ble_eq_true rfl⟩ (Nat.le_of_ble_eq_true rfl) (Nat.le_of_ble_eq_true rfl) rfl
  · have hf := fif_f h hf
    refine V.iload_n (i := 1) dX10_append_6 rfl rfl ?_
    refine V.bipush (v := 126) dX10_append_7 rfl ?_
    refine V.icmp_le (tgt := 22) dX10_append_9 (by decide) (fun h => ?_) (fun h => ?_)
    · have hf := fif_t h hf
      refine V.aload_n (i := 0) dX10_append_22 rfl rfl ?_
      refine V.getfield (kf := 2) (v := .ref 6) fl_RX10 dX10_append_23 w114 (Nat.le_of_ble_eq_true rfl) rfl rfl ?_
      obtain ⟨v1, hv1, hf⟩ := fbind hf
      refine V.callVn (pl := [6, 7]) (σ' := [.inl (5, [.ref 1, .ref 3, .ref 6, .ref 8, .ref 9]), .inl (3, [.ref 2]), .inr (910, .inl State_cells), .inl (1, [.ref 4, .ref 5, .int History_oldest, .int History_size, .int History_snapshotTaken]), .inr (5460, .inl History_saved), .inr (910, .inl History_snapshot), .inl (0, [.ref 7, .int Buffer_size]), .inr (60, .inl Buffer_codes), .inl (2, [.ref (Reader_pattern + 1000), .int Reader_place]), .inl (4, [.ref 10, .int Word_size]), .inr (8, .inl Word_letters)]) (st2 := [.int v1]) (cl2 := 0) (sl2 := 0) (ct_X1_isFull (Buffer_size := Buffer_size) (Buffer_codes := Buffer_codes) hv1) dX10_append_26 w480 ⟨w481, w482⟩ cal_X1_isFull rfl ⟨⟨Nat.le_of_ble_eq_true rfl, Nat.le_of_ble_eq_true rfl⟩, Nat.le_of_ble_eq_true rfl, Nat.le_of_ble_eq_true rfl⟩ (Nat.le_of_ble_eq_true rfl) ⟨_, _, _, _, rfl, rfl⟩ rfl ⟨rfl, ⟨by decide, by decide⟩, rfl, (fr_cons (Or.inl (Nat.le_of_ble_eq_true rfl)) (fr_nil)), rfl⟩ fr_i rfl rfl rfl rfl ?_
      refine V.if_eq (tgt := 42) dX10_append_29 (by decide) (fun h => ?_) (fun h => ?_)
      · have hf := fif_t h hf
        refine V.aload_n (i := 0) dX10_append_42 rfl rfl ?_
        refine V.getfield (kf := 2) (v := .ref 6) fl_RX10 dX10_append_43 w114 (Nat.le_of_ble_eq_true rfl) rfl rfl ?_
        refine V.iload_n (i := 1) dX10_append_46 rfl rfl ?_
        obtain ⟨v2, hv2, hf⟩ := fbind hf
        refine V.callVn (pl := [6, 7]) (σ' := [.inl (5, [.ref 1, .ref 3, .ref 6, .ref 8, .ref 9]), .inl (3, [.ref 2]), .inr (910, .inl State_cells), .inl (1, [.ref 4, .ref 5, .int History_oldest, .int History_size, .int History_snapshotTaken]), .inr (5460, .inl History_saved), .inr (910, .inl History_snapshot), .inl (0, [.ref 7, .int v2.2.1]), .inr (60, .inl v2.2.2), .inl (2, [.ref (Reader_pattern + 1000), .int Reader_place]), .inl (4, [.ref 10, .int Word_size]), .inr (8, .inl Word_letters)]) (st2 := [.int v2.1]) (cl2 := 0) (sl2 := 0) (ct_X1_add (a1 := a1) (Buffer_size := Buffer_size) (Buffer_codes := Buffer_codes) hv2) dX10_append_47 w500 ⟨w501, w502⟩ cal_X1_add rfl ⟨⟨Nat.le_of_ble_eq_true rfl, Nat.le_of_ble_eq_true rfl⟩, Nat.le_of_ble_eq_true rfl, Nat.le_of_ble_eq_true rfl⟩ (Nat.le_of_ble_eq_true rfl) ⟨_, _, _, _, rfl, rfl⟩ rfl ⟨rfl, ⟨by decide, by decide⟩, rfl, (fr_cons (Or.inl (Nat.le_of_ble_eq_true rfl)) (fr_nil)), rfl⟩ fr_i rfl rfl rfl rfl ?_
        obtain rfl := Option.some.inj hf
        exact V.iret dX10_append_50 rfl (Nat.le_of_ble_eq_true rfl) (Nat.le_of_ble_eq_true rfl) rfl
      · have hf := fif_f h hf
        obtain rfl := Option.some.inj hf
        exact V.throwS (i := 12) th_RX10_IllegalStateException_61 (List.mem_of_getElem? (i := 12) rfl) dX10_append_32 dX10_append_35 dX10_append_36 dX10_append_38 dX10_append_41 rfl (Nat.le_of_ble_eq_true rfl) (Nat.le_of_ble_eq_true rfl) ⟨Nat.le_of_ble_eq_true rfl, Nat.le_of_ble_eq_true rfl⟩ (Nat.le_of_ble_eq_true rfl) (Nat.le_of_ble_eq_true rfl) rfl
    · have hf := fif_f h hf
      obtain rfl := Option.some.inj hf
      exact V.throwS (i := 11) th_RX10_IllegalArgumentException_110 (List.mem_of_getElem? (i := 11) rfl) dX10_append_12 dX10_append_15 dX10_append_16 dX10_append_18 dX10_append_21 rfl (Nat.le_of_ble_eq_true rfl) (Nat.le_of_ble_eq_true rfl) ⟨Nat.le_of_ble_eq_true rfl, Nat.le_of_ble_eq_true rfl⟩ (Nat.le_of_ble_eq_true rfl) (Nat.le_of_ble_eq_true rfl) rfl
def k_X10_clearBuffer : fK := (yX10_clearBuffer, cX10_clearBuffer, 1, (some .int), [], (1, 21), (0, 0), (0, 0))
theorem cal_X10_clearBuffer : fCal k_X10_clearBuffer 0 := ⟨⟨wc470, w6⟩, ⟨by decide +kernel, by decide +kernel⟩, by decide +kernel, by decide +kernel⟩
def s_X10_clearBuffer (Buffer_size : Int32) : Option (Int32 × (Int32)) := (s_X1_empty Buffer_size).bind fun v1 => some (v1.1, v1.2)
set_option maxHeartbeats 4000000 in
set_option maxRecDepth 100000 in
theorem ct_X10_clearBuffer {State_cells : Nat → Int32} {History_oldest : Int32} {History_size : Int32} {History_snapshotTaken : Int32} {History_saved : Nat → Int32} {History_snapshot : Nat → Int32} {Buffer_size : Int32} {Buffer_codes : Nat → Int32} {Reader_pattern : Nat} {Reader_place : Int32} {Word_size : Int32} {Word_letters : Nat → Int32} {res : Int32 × (Int32)} (hf : s_X10_clearBuffer Buffer_size = some res) : Ct k_X10_clearBuffer [.ref 0] [.inl (5, [.ref 1, .ref 3, .ref 6, .ref 8, .ref 9]), .inl (3, [.ref 2]), .inr (910, .inl State_cells), .inl (1, [.ref 4, .ref 5, .int History_oldest, .int History_size, .int History_snapshotTaken]), .inr (5460, .inl History_saved), .inr (910, .inl History_snapshot), .inl (0, [.ref 7, .int Buffer_size]), .inr (60, .inl Buffer_codes), .inl (2, [.ref (Reader_pattern + 1000), .int Reader_place]), .inl (4, [.ref 10, .int Word_size]), .inr (8, .inl Word_letters)] (.inl (some (.int res.1))) [.inl (5, [.ref 1, .ref 3, .ref 6, .ref 8, .ref 9]), .inl (3, [.ref 2]), .inr (910, .inl State_cells), .inl (1, [.ref 4, .ref 5, .int History_oldest, .int History_size, .int History_snapshotTaken]), .inr (5460, .inl History_saved), .inr (910, .inl History_snapshot), .inl (0, [.ref 7, .int res.2]), .inr (60, .inl Buffer_codes), .inl (2, [.ref (Reader_pattern + 1000), .int Reader_place]), .inl (4, [.ref 10, .int Word_size]), .inr (8, .inl Word_letters)] := by
  unfold s_X10_clearBuffer at hf
  refine Ct.of (L := [some (.ref 0)]) cal_X10_clearBuffer (fent_pad (j := 0) rfl) (Nat.le_of_ble_eq_true rfl) ?_
  refine V.aload_n (i := 0) dX10_clearBuffer_0 rfl rfl ?_
  refine V.getfield (kf := 2) (v := .ref 6) fl_RX10 dX10_clearBuffer_1 w114 (Nat.le_of_ble_eq_true rfl) rfl rfl ?_
  obtain ⟨v1, hv1, hf⟩ := fbind hf
  refine V.callVn (pl := [6, 7]) (σ' := [.inl (5, [.ref 1, .ref 3, .ref 6, .ref 8, .ref 9]), .inl (3, [.ref 2]), .inr (910, .inl State_cells), .inl (1, [.ref 4, .ref 5, .int History_oldest, .int History_size, .int History_snapshotTaken]), .inr (5460, .inl History_saved), .inr (910, .inl History_snapshot), .inl (0, [.ref 7, .int v1.2]), .inr (60, .inl Buffer_codes), .inl (2, [.ref (Reader_pattern + 1000), .int Reader_place]), .inl (4, [.ref 10, .int Word_size]), .inr (8, .inl Word_letters)]) (st2 := [.int v1.1]) (cl2 := 0) (sl2 := 0) (ct_X1_empty (Buffer_size := Buffer_size) (Buffer_codes := Buffer_codes) hv1) dX10_clearBuffer_4 w471 ⟨w472, w473⟩ cal_X1_empty rfl ⟨⟨Nat.le_of_ble_eq_true rfl, Nat.le_of_ble_eq_true rfl⟩, Nat.le_of_ble_eq_true rfl, Nat.le_of_ble_eq_true rfl⟩ (Nat.le_of_ble_eq_true rfl) ⟨_, _, _, _, rfl, rfl⟩ rfl ⟨rfl, ⟨by decide, by decide⟩, rfl, (fr_cons (Or.inl (Nat.le_of_ble_eq_true rfl)) (fr_nil)), rfl⟩ fr_i rfl rfl rfl rfl ?_
  obtain rfl := Option.some.inj hf
  exact V.iret dX10_clearBuffer_7 rfl (Nat.le_of_ble_eq_true rfl) (Nat.le_of_ble_eq_true rfl) rfl
def k_X10_numberOfStop : fK := (yX10_numberOfStop, cX10_numberOfStop, 2, (some .int), [], (1, 21), (0, 0), (0, 0))
theorem cal_X10_numberOfStop : fCal k_X10_numberOfStop 1 := ⟨⟨wc455, w6⟩, ⟨by decide +kernel, by decide +kernel⟩, by decide +kernel, by decide +kernel⟩
def s_X10_numberOfStop (a1 : Int32) (State_cells : Nat → Int32) : Option (Int32) := (s_X7_at 6 State_cells).bind fun v1 => if (v1 = 0 : Prop) then (some (-1)) else (if (a1 = 0 : Prop) then ((s_X7_at 5 State_cells).bind fun v3 => some v3) else ((s_X7_at 6 State_cells).bind fun v2 => some v2))
set_option maxHeartbeats 4000000 in
set_option maxRecDepth 100000 in
theorem ct_X10_numberOfStop {a1 : Int32} {State_cells : Nat → Int32} {History_oldest : Int32} {History_size : Int32} {History_snapshotTaken : Int32} {History_saved : Nat → Int32} {History_snapshot : Nat → Int32} {Buffer_size : Int32} {Buffer_codes : Nat → Int32} {Reader_pattern : Nat} {Reader_place : Int32} {Word_size : Int32} {Word_letters : Nat → Int32} {res : Int32} (hf : s_X10_numberOfStop a1 State_cells = some res) : Ct k_X10_numberOfStop [.ref 0, .int a1] [.inl (5, [.ref 1, .ref 3, .ref 6, .ref 8, .ref 9]), .inl (3, [.ref 2]), .inr (910, .inl State_cells), .inl (1, [.ref 4, .ref 5, .int History_oldest, .int History_size, .int History_snapshotTaken]), .inr (5460, .inl History_saved), .inr (910, .inl History_snapshot), .inl (0, [.ref 7, .int Buffer_size]), .inr (60, .inl Buffer_codes), .inl (2, [.ref (Reader_pattern + 1000), .int Reader_place]), .inl (4, [.ref 10, .int Word_size]), .inr (8, .inl Word_letters)] (.inl (some (.int res))) [.inl (5, [.ref 1, .ref 3, .ref 6, .ref 8, .ref 9]), .inl (3, [.ref 2]), .inr (910, .inl State_cells), .inl (1, [.ref 4, .ref 5, .int History_oldest, .int History_size, .int History_snapshotTaken]), .inr (5460, .inl History_saved), .inr (910, .inl History_snapshot), .inl (0, [.ref 7, .int Buffer_size]), .inr (60, .inl Buffer_codes), .inl (2, [.ref (Reader_pattern + 1000), .int Reader_place]), .inl (4, [.ref 10, .int Word_size]), .inr (8, .inl Word_letters)] := by
  unfold s_X10_numberOfStop at hf
  refine Ct.of (L := [some (.ref 0), some (.int a1)]) cal_X10_numberOfStop (fent_pad (j := 0) rfl) (Nat.le_of_ble_eq_true rfl) ?_
  refine V.aload_n (i := 0) dX10_numberOfStop_0 rfl rfl ?_
  refine V.getfield (kf := 0) (v := .ref 1) fl_RX10 dX10_numberOfStop_1 w112 (Nat.le_of_ble_eq_true rfl) rfl rfl ?_
  refine V.bipush (v := 6) dX10_numberOfStop_4 rfl ?_
  obtain ⟨v1, hv1, hf⟩ := fbind hf
  refine V.callVn (pl := [1, 2]) (σ' := [.inl (5, [.ref 1, .ref 3, .ref 6, .ref 8, .ref 9]), .inl (3, [.ref 2]), .inr (910, .inl State_cells), .inl (1, [.ref 4, .ref 5, .int History_oldest, .int History_size, .int History_snapshotTaken]), .inr (5460, .inl History_saved), .inr (910, .inl History_snapshot), .inl (0, [.ref 7, .int Buffer_size]), .inr (60, .inl Buffer_codes), .inl (2, [.ref (Reader_pattern + 1000), .int Reader_place]), .inl (4, [.ref 10, .int Word_size]), .inr (8, .inl Word_letters)]) (st2 := [.int v1]) (cl2 := 0) (sl2 := 0) (ct_X7_at (a1 := 6) (State_cells := State_cells) hv1) dX10_numberOfStop_6 w456 ⟨w143, w144⟩ cal_X7_at rfl ⟨⟨Nat.le_of_ble_eq_true rfl, Nat.le_of_ble_eq_true rfl⟩, Nat.le_of_ble_eq_true rfl, Nat.le_of_ble_eq_true rfl⟩ (Nat.le_of_ble_eq_true rfl) ⟨_, _, _, _, rfl, rfl⟩ rfl ⟨rfl, ⟨by decide, by decide⟩, rfl, (fr_cons (Or.inl (Nat.le_of_ble_eq_true rfl)) (fr_nil)), rfl⟩ fr_i rfl rfl rfl rfl ?_
  refine V.if_ne (tgt := 14) dX10_numberOfStop_9 (by decide) (fun h => ?_) (fun h => ?_)
  · have hf := fif_f h hf
    refine V.aload_n (i := 0) dX10_numberOfStop_14 rfl rfl ?_
    refine V.getfield (kf := 0) (v := .ref 1) fl_RX10 dX10_numberOfStop_15 w112 (Nat.le_of_ble_eq_true rfl) rfl rfl ?_
    refine V.iload_n (i := 1) dX10_numberOfStop_18 rfl rfl ?_
    refine V.if_ne (tgt := 26) dX10_numberOfStop_19 (by decide) (fun h => ?_) (fun h => ?_)
    · have hf := fif_f h hf
      refine V.bipush (v := 6) dX10_numberOfStop_26 rfl ?_
      obtain ⟨v2, hv2, hf⟩ := fbind hf
      refine V.callVn (pl := [1, 2]) (σ' := [.inl (5, [.ref 1, .ref 3, .ref 6, .ref 8, .ref 9]), .inl (3, [.ref 2]), .inr (910, .inl State_cells), .inl (1, [.ref 4, .ref 5, .int History_oldest, .int History_size, .int History_snapshotTaken]), .inr (5460, .inl History_saved), .inr (910, .inl History_snapshot), .inl (0, [.ref 7, .int Buffer_size]), .inr (60, .inl Buffer_codes), .inl (2, [.ref (Reader_pattern + 1000), .int Reader_place]), .inl (4, [.ref 10, .int Word_size]), .inr (8, .inl Word_letters)]) (st2 := [.int v2]) (cl2 := 0) (sl2 := 0) (ct_X7_at (a1 := 6) (State_cells := State_cells) hv2) dX10_numberOfStop_28 w456 ⟨w143, w144⟩ cal_X7_at rfl ⟨⟨Nat.le_of_ble_eq_true rfl, Nat.le_of_ble_eq_true rfl⟩, Nat.le_of_ble_eq_true rfl, Nat.le_of_ble_eq_true rfl⟩ (Nat.le_of_ble_eq_true rfl) ⟨_, _, _, _, rfl, rfl⟩ rfl ⟨rfl, ⟨by decide, by decide⟩, rfl, (fr_cons (Or.inl (Nat.le_of_ble_eq_true rfl)) (fr_nil)), rfl⟩ fr_i rfl rfl rfl rfl ?_
      obtain rfl := Option.some.inj hf
      exact V.iret dX10_numberOfStop_31 rfl (Nat.le_of_ble_eq_true rfl) (Nat.le_of_ble_eq_true rfl) rfl
    · have hf := fif_t h hf
      refine V.iconst (v := 5) dX10_numberOfStop_22 rfl ?_
      refine V.goto (tgt := 28) dX10_numberOfStop_23 (by decide) ?_
      obtain ⟨v3, hv3, hf⟩ := fbind hf
      refine V.callVn (pl := [1, 2]) (σ' := [.inl (5, [.ref 1, .ref 3, .ref 6, .ref 8, .ref 9]), .inl (3, [.ref 2]), .inr (910, .inl State_cells), .inl (1, [.ref 4, .ref 5, .int History_oldest, .int History_size, .int History_snapshotTaken]), .inr (5460, .inl History_saved), .inr (910, .inl History_snapshot), .inl (0, [.ref 7, .int Buffer_size]), .inr (60, .inl Buffer_codes), .inl (2, [.ref (Reader_pattern + 1000), .int Reader_place]), .inl (4, [.ref 10, .int Word_size]), .inr (8, .inl Word_letters)]) (st2 := [.int v3]) (cl2 := 0) (sl2 := 0) (ct_X7_at (a1 := 5) (State_cells := State_cells) hv3) dX10_numberOfStop_28 w456 ⟨w143, w144⟩ cal_X7_at rfl ⟨⟨Nat.le_of_ble_eq_true rfl, Nat.le_of_ble_eq_true rfl⟩, Nat.le_of_ble_eq_true rfl, Nat.le_of_ble_eq_true rfl⟩ (Nat.le_of_ble_eq_true rfl) ⟨_, _, _, _, rfl, rfl⟩ rfl ⟨rfl, ⟨by decide, by decide⟩, rfl, (fr_cons (Or.inl (Nat.le_of_ble_eq_true rfl)) (fr_nil)), rfl⟩ fr_i rfl rfl rfl rfl ?_
      obtain rfl := Option.some.inj hf
      exact V.iret dX10_numberOfStop_31 rfl (Nat.le_of_ble_eq_true rfl) (Nat.le_of_ble_eq_true rfl) rfl
  · have hf := fif_t h hf
    refine V.iconst (v := (-1)) dX10_numberOfStop_12 rfl ?_
    obtain rfl := Option.some.inj hf
    exact V.iret dX10_numberOfStop_13 rfl (Nat.le_of_ble_eq_true rfl) (Nat.le_of_ble_eq_true rfl) rfl
def k_X10_stopped : fK := (yX10_stopped, cX10_stopped, 2, (some .int), [], (6, 82), (0, 0), (1, 6))
theorem cal_X10_stopped : fCal k_X10_stopped 1 := ⟨⟨wc450, w6⟩, ⟨by decide +kernel, by decide +kernel⟩, by decide +kernel, by decide +kernel⟩
def s_X10_stopped (a1 : Int32) (State_cells : Nat → Int32) : Option ((Int32 ⊕ String)) := if (a1 = 0 : Prop) then ((s_X10_numberOfStop a1 State_cells).bind fun v1 => some (.inl v1)) else (if (a1 = 1 : Prop) then ((s_X10_numberOfStop a1 State_cells).bind fun v2 => some (.inl v2)) else (some (.inr "java/lang/IllegalArgumentException")))
set_option maxHeartbeats 4000000 in
set_option maxRecDepth 100000 in
theorem ct_X10_stopped {a1 : Int32} {State_cells : Nat → Int32} {History_oldest : Int32} {History_size : Int32} {History_snapshotTaken : Int32} {History_saved : Nat → Int32} {History_snapshot : Nat → Int32} {Buffer_size : Int32} {Buffer_codes : Nat → Int32} {Reader_pattern : Nat} {Reader_place : Int32} {Word_size : Int32} {Word_letters : Nat → Int32} {res : (Int32 ⊕ String)} (hf : s_X10_stopped a1 State_cells = some res) : Ct k_X10_stopped [.ref 0, .int a1] [.inl (5, [.ref 1, .ref 3, .ref 6, .ref 8, .ref 9]), .inl (3, [.ref 2]), .inr (910, .inl State_cells), .inl (1, [.ref 4, .ref 5, .int History_oldest, .int History_size, .int History_snapshotTaken]), .inr (5460, .inl History_saved), .inr (910, .inl History_snapshot), .inl (0, [.ref 7, .int Buffer_size]), .inr (60, .inl Buffer_codes), .inl (2, [.ref (Reader_pattern + 1000), .int Reader_place]), .inl (4, [.ref 10, .int Word_size]), .inr (8, .inl Word_letters)] (foI res) [.inl (5, [.ref 1, .ref 3, .ref 6, .ref 8, .ref 9]), .inl (3, [.ref 2]), .inr (910, .inl State_cells), .inl (1, [.ref 4, .ref 5, .int History_oldest, .int History_size, .int History_snapshotTaken]), .inr (5460, .inl History_saved), .inr (910, .inl History_snapshot), .inl (0, [.ref 7, .int Buffer_size]), .inr (60, .inl Buffer_codes), .inl (2, [.ref (Reader_pattern + 1000), .int Reader_place]), .inl (4, [.ref 10, .int Word_size]), .inr (8, .inl Word_letters)] := by
  unfold s_X10_stopped at hf
  refine Ct.of (L := [some (.ref 0), some (.int a1)]) cal_X10_stopped (fent_pad (j := 0) rfl) (Nat.le_of_ble_eq_true rfl) ?_
  refine V.iload_n (i := 1) dX10_stopped_0 rfl rfl ?_
  refine V.if_eq (tgt := 19) dX10_stopped_1 (by decide) (fun h => ?_) (fun h => ?_)
  · have hf := fif_t h hf
    refine V.aload_n (i := 0) dX10_stopped_19 rfl rfl ?_
    refine V.iload_n (i := 1) dX10_stopped_20 rfl rfl ?_
    obtain ⟨v1, hv1, hf⟩ := fbind hf
    refine V.callVn (pl := [0, 1, 2, 3, 4, 5, 6, 7, 8, 9, 10]) (σ' := [.inl (5, [.ref 1, .ref 3, .ref 6, .ref 8, .ref 9]), .inl (3, [.ref 2]), .inr (910, .inl State_cells), .inl (1, [.ref 4, .ref 5, .int History_oldest, .int History_size, .int History_snapshotTaken]), .inr (5460, .inl History_saved), .inr (910, .inl History_snapshot), .inl (0, [.ref 7, .int Buffer_size]), .inr (60, .inl Buffer_codes), .inl (2, [.ref (Reader_pattern + 1000), .int Reader_place]), .inl (4, [.ref 10, .int Word_size]), .inr (8, .inl Word_letters)]) (st2 := [.int v1]) (cl2 := 0) (sl2 := 0) (ct_X10_numberOfStop (a1 := a1) (State_cells := State_cells) (History_oldest := History_oldest) (History_size := History_size) (History_snapshotTaken := History_snapshotTaken) (History_saved := History_saved) (History_snapshot := History_snapshot) (Buffer_size := Buffer_size) (Buffer_codes := Buffer_codes) (Reader_pattern := Reader_pattern) (Reader_place := Reader_place) (Word_size := Word_size) (Word_letters := Word_letters) hv1) dX10_stopped_21 w452 ⟨w454, w2⟩ cal_X10_numberOfStop rfl ⟨⟨Nat.le_of_ble_eq_true rfl, Nat.le_of_ble_eq_true rfl⟩, Nat.le_of_ble_eq_true rfl, Nat.le_of_ble_eq_true rfl⟩ (Nat.le_of_ble_eq_true rfl) ⟨_, _, _, _, rfl, rfl⟩ rfl ⟨rfl, ⟨by decide, by decide⟩, rfl, (fr_cons (Or.inl (Nat.le_of_ble_eq_true rfl)) (fr_cons (Or.inl (Nat.le_of_ble_eq_true rfl)) (fr_cons (Or.inl (Nat.le_of_ble_eq_true rfl)) (fr_cons (Or.inl (Nat.le_of_ble_eq_true rfl)) (fr_cons (Or.inl (Nat.le_of_ble_eq_true rfl)) (fr_cons (Or.inl (Nat.le_of_ble_eq_true rfl)) (fr_cons (Or.inl (Nat.le_of_ble_eq_true rfl)) (fr_cons (Or.inl (Nat.le_of_ble_eq_true rfl)) (fr_cons (Or.inl (Nat.le_of_ble_eq_true rfl)) (fr_cons (Or.inr (Nat.le_add_left 1000 _)) (fr_cons (Or.inl (Nat.le_of_ble_eq_true rfl)) (fr_nil)))))))))))), rfl⟩ fr_i rfl rfl rfl rfl ?_
    obtain rfl := Option.some.inj hf
    exact V.iret dX10_stopped_24 rfl (Nat.le_of_ble_eq_true rfl) (Nat.le_of_ble_eq_true rfl) rfl
  · have hf := fif_f h hf
    refine V.iload_n (i := 1) dX10_stopped_4 rfl rfl ?_
    refine V.iconst (v := 1) dX10_stopped_5 rfl ?_
    refine V.icmp_eq (tgt := 19) dX10_stopped_6 (by decide) (fun h => ?_) (fun h => ?_)
    · have hf := fif_t h hf
      refine V.aload_n (i := 0) dX10_stopped_19 rfl rfl ?_
      refine V.iload_n (i := 1) dX10_stopped_20 rfl rfl ?_
      obtain ⟨v2, hv2, hf⟩ := fbind hf
      refine V.callVn (pl := [0, 1, 2, 3, 4, 5, 6, 7, 8, 9, 10]) (σ' := [.inl (5, [.ref 1, .ref 3, .ref 6, .ref 8, .ref 9]), .inl (3, [.ref 2]), .inr (910, .inl State_cells), .inl (1, [.ref 4, .ref 5, .int History_oldest, .int History_size, .int History_snapshotTaken]), .inr (5460, .inl History_saved), .inr (910, .inl History_snapshot), .inl (0, [.ref 7, .int Buffer_size]), .inr (60, .inl Buffer_codes), .inl (2, [.ref (Reader_pattern + 1000), .int Reader_place]), .inl (4, [.ref 10, .int Word_size]), .inr (8, .inl Word_letters)]) (st2 := [.int v2]) (cl2 := 0) (sl2 := 0) (ct_X10_numberOfStop (a1 := a1) (State_cells := State_cells) (History_oldest := History_oldest) (History_size := History_size) (History_snapshotTaken := History_snapshotTaken) (History_saved := History_saved) (History_snapshot := History_snapshot) (Buffer_size := Buffer_size) (Buffer_codes := Buffer_codes) (Reader_pattern := Reader_pattern) (Reader_place := Reader_place) (Word_size := Word_size) (Word_letters := Word_letters) hv2) dX10_stopped_21 w452 ⟨w454, w2⟩ cal_X10_numberOfStop rfl ⟨⟨Nat.le_of_ble_eq_true rfl, Nat.le_of_ble_eq_true rfl⟩, Nat.le_of_ble_eq_true rfl, Nat.le_of_ble_eq_true rfl⟩ (Nat.le_of_ble_eq_true rfl) ⟨_, _, _, _, rfl, rfl⟩ rfl ⟨rfl, ⟨by decide, by decide⟩, rfl, (fr_cons (Or.inl (Nat.le_of_ble_eq_true rfl)) (fr_cons (Or.inl (Nat.le_of_ble_eq_true rfl)) (fr_cons (Or.inl (Nat.le_of_ble_eq_true rfl)) (fr_cons (Or.inl (Nat.le_of_ble_eq_true rfl)) (fr_cons (Or.inl (Nat.le_of_ble_eq_true rfl)) (fr_cons (Or.inl (Nat.le_of_ble_eq_true rfl)) (fr_cons (Or.inl (Nat.le_of_ble_eq_true rfl)) (fr_cons (Or.inl (Nat.le_of_ble_eq_true rfl)) (fr_cons (Or.inl (Nat.le_of_ble_eq_true rfl)) (fr_cons (Or.inr (Nat.le_add_left 1000 _)) (fr_cons (Or.inl (Nat.le_of_ble_eq_true rfl)) (fr_nil)))))))))))), rfl⟩ fr_i rfl rfl rfl rfl ?_
      obtain rfl := Option.some.inj hf
      exact V.iret dX10_stopped_24 rfl (Nat.le_of_ble_eq_true rfl) (Nat.le_of_ble_eq_true rfl) rfl
    · have hf := fif_f h hf
      obtain rfl := Option.some.inj hf
      exact V.throwS (i := 13) th_RX10_IllegalArgumentException_110 (List.mem_of_getElem? (i := 13) rfl) dX10_stopped_9 dX10_stopped_12 dX10_stopped_13 dX10_stopped_15 dX10_stopped_18 rfl (Nat.le_of_ble_eq_true rfl) (Nat.le_of_ble_eq_true rfl) ⟨Nat.le_of_ble_eq_true rfl, Nat.le_of_ble_eq_true rfl⟩ (Nat.le_of_ble_eq_true rfl) (Nat.le_of_ble_eq_true rfl) rfl
def k_X10_told : fK := (yX10_told, cX10_told, 3, (some .int), [], (7, 102), (0, 0), (1, 6))
theorem cal_X10_told : fCal k_X10_told 2 := ⟨⟨wc579, w6⟩, ⟨by decide +kernel, by decide +kernel⟩, by decide +kernel, by decide +kernel⟩
def s_X10_told (a1 : Int32) (a2 : Int32) (State_cells : Nat → Int32) : Option ((Int32 ⊕ String)) := (s_X10_needFisher a1).bind fun v1 => fth v1 (fun v2 => if (0 ≤ a2 : Prop) then ((s_X8_codeOfBelt a1 a2 State_cells).bind fun v3 => some (.inl v3)) else (some (.inr "java/lang/IllegalArgumentException"))) (fun E9 => some (.inr E9))
set_option maxHeartbeats 4000000 in
set_option maxRecDepth 100000 in
theorem ct_X10_told {a1 : Int32} {a2 : Int32} {State_cells : Nat → Int32} {History_oldest : Int32} {History_size : Int32} {History_snapshotTaken : Int32} {History_saved : Nat → Int32} {History_snapshot : Nat → Int32} {Buffer_size : Int32} {Buffer_codes : Nat → Int32} {Reader_pattern : Nat} {Reader_place : Int32} {Word_size : Int32} {Word_letters : Nat → Int32} {res : (Int32 ⊕ String)} (hf : s_X10_told a1 a2 State_cells = some res) : Ct k_X10_told [.ref 0, .int a1, .int a2] [.inl (5, [.ref 1, .ref 3, .ref 6, .ref 8, .ref 9]), .inl (3, [.ref 2]), .inr (910, .inl State_cells), .inl (1, [.ref 4, .ref 5, .int History_oldest, .int History_size, .int History_snapshotTaken]), .inr (5460, .inl History_saved), .inr (910, .inl History_snapshot), .inl (0, [.ref 7, .int Buffer_size]), .inr (60, .inl Buffer_codes), .inl (2, [.ref (Reader_pattern + 1000), .int Reader_place]), .inl (4, [.ref 10, .int Word_size]), .inr (8, .inl Word_letters)] (foI res) [.inl (5, [.ref 1, .ref 3, .ref 6, .ref 8, .ref 9]), .inl (3, [.ref 2]), .inr (910, .inl State_cells), .inl (1, [.ref 4, .ref 5, .int History_oldest, .int History_size, .int History_snapshotTaken]), .inr (5460, .inl History_saved), .inr (910, .inl History_snapshot), .inl (0, [.ref 7, .int Buffer_size]), .inr (60, .inl Buffer_codes), .inl (2, [.ref (Reader_pattern + 1000), .int Reader_place]), .inl (4, [.ref 10, .int Word_size]), .inr (8, .inl Word_letters)] := by
  unfold s_X10_told at hf
  refine Ct.of (L := [some (.ref 0), some (.int a1), some (.int a2)]) cal_X10_told (fent_pad (j := 0) rfl) (Nat.le_of_ble_eq_true rfl) ?_
  refine V.iload_n (i := 1) dX10_told_0 rfl rfl ?_
  obtain ⟨v1, hv1, hf⟩ := fbind hf
  have hc := ct_X10_needFisher (a0 := a1) hv1
  rcases hv1b : v1 with v2 | E9
  · rw [hv1b] at hc hf
    dsimp only [fth] at hf
    refine V.callSn (pl := []) (σ' := [.inl (5, [.ref 1, .ref 3, .ref 6, .ref 8, .ref 9]), .inl (3, [.ref 2]), .inr (910, .inl State_cells), .inl (1, [.ref 4, .ref 5, .int History_oldest, .int History_size, .int History_snapshotTaken]), .inr (5460, .inl History_saved), .inr (910, .inl History_snapshot), .inl (0, [.ref 7, .int Buffer_size]), .inr (60, .inl Buffer_codes), .inl (2, [.ref (Reader_pattern + 1000), .int Reader_place]), .inl (4, [.ref 10, .int Word_size]), .inr (8, .inl Word_letters)]) (st2 := []) (cl2 := 0) (sl2 := 0) hc dX10_told_1 w178 w179 cal_X10_needFisher ⟨⟨Nat.le_of_ble_eq_true rfl, Nat.le_of_ble_eq_true rfl⟩, Nat.le_of_ble_eq_true rfl, Nat.le_of_ble_eq_true rfl⟩ (Nat.le_of_ble_eq_true rfl) rfl ⟨rfl, ⟨by decide, by decide⟩, rfl, (fr_nil), rfl⟩ fr_v rfl rfl rfl rfl ?_
    refine V.iload_n (i := 2) dX10_told_4 rfl rfl ?_
    refine V.if_ge (tgt := 18) dX10_told_5 (by decide) (fun h => ?_) (fun h => ?_)
    · have hf := fif_t h hf
      refine V.aload_n (i := 0) dX10_told_18 rfl rfl ?_
      refine V.getfield (kf := 0) (v := .ref 1) fl_RX10 dX10_told_19 w112 (Nat.le_of_ble_eq_true rfl) rfl rfl ?_
      refine V.iload_n (i := 1) dX10_told_22 rfl rfl ?_
      refine V.iload_n (i := 2) dX10_told_23 rfl rfl ?_
      obtain ⟨v3, hv3, hf⟩ := fbind hf
      refine V.callSn (pl := [1, 2]) (σ' := [.inl (5, [.ref 1, .ref 3, .ref 6, .ref 8, .ref 9]), .inl (3, [.ref 2]), .inr (910, .inl State_cells), .inl (1, [.ref 4, .ref 5, .int History_oldest, .int History_size, .int History_snapshotTaken]), .inr (5460, .inl History_saved), .inr (910, .inl History_snapshot), .inl (0, [.ref 7, .int Buffer_size]), .inr (60, .inl Buffer_codes), .inl (2, [.ref (Reader_pattern + 1000), .int Reader_place]), .inl (4, [.ref 10, .int Word_size]), .inr (8, .inl Word_letters)]) (st2 := [.int v3]) (cl2 := 0) (sl2 := 0) (ct_X8_codeOfBelt (a1 := a1) (a2 := a2) (State_cells := State_cells) hv3) dX10_told_24 w581 w582 cal_X8_codeOfBelt ⟨⟨Nat.le_of_ble_eq_true rfl, Nat.le_of_ble_eq_true rfl⟩, Nat.le_of_ble_eq_true rfl, Nat.le_of_ble_eq_true rfl⟩ (Nat.le_of_ble_eq_true rfl) rfl ⟨rfl, ⟨by decide, by decide⟩, rfl, (fr_cons (Or.inl (Nat.le_of_ble_eq_true rfl)) (fr_nil)), rfl⟩ fr_i rfl rfl rfl rfl ?_
      obtain rfl := Option.some.inj hf
      exact V.iret dX10_told_27 rfl (Nat.le_of_ble_eq_true rfl) (Nat.le_of_ble_eq_true rfl) rfl
    · have hf := fif_f h hf
      obtain rfl := Option.some.inj hf
      exact V.throwS (i := 14) th_RX10_IllegalArgumentException_110 (List.mem_of_getElem? (i := 14) rfl) dX10_told_8 dX10_told_11 dX10_told_12 dX10_told_14 dX10_told_17 rfl (Nat.le_of_ble_eq_true rfl) (Nat.le_of_ble_eq_true rfl) ⟨Nat.le_of_ble_eq_true rfl, Nat.le_of_ble_eq_true rfl⟩ (Nat.le_of_ble_eq_true rfl) (Nat.le_of_ble_eq_true rfl) rfl
  · rw [hv1b] at hc hf
    dsimp only [fth] at hf
    obtain rfl := Option.some.inj hf
    refine V.callSx (pl := []) (σ' := [.inl (5, [.ref 1, .ref 3, .ref 6, .ref 8, .ref 9]), .inl (3, [.ref 2]), .inr (910, .inl State_cells), .inl (1, [.ref 4, .ref 5, .int History_oldest, .int History_size, .int History_snapshotTaken]), .inr (5460, .inl History_saved), .inr (910, .inl History_snapshot), .inl (0, [.ref 7, .int Buffer_size]), .inr (60, .inl Buffer_codes), .inl (2, [.ref (Reader_pattern + 1000), .int Reader_place]), .inl (4, [.ref 10, .int Word_size]), .inr (8, .inl Word_letters)]) hc dX10_told_1 w178 w179 cal_X10_needFisher ⟨⟨Nat.le_of_ble_eq_true rfl, Nat.le_of_ble_eq_true rfl⟩, Nat.le_of_ble_eq_true rfl, Nat.le_of_ble_eq_true rfl⟩ (Nat.le_of_ble_eq_true rfl) rfl ⟨rfl, ⟨by decide, by decide⟩, rfl, (fr_nil), rfl⟩ ?_
    exact VX.out rfl (Nat.le_of_ble_eq_true rfl) (Nat.le_of_ble_eq_true rfl) rfl
def k_X10_keep : fK := (yX10_keep, cX10_keep, 1, (some .int), [], (3, 83), (0, 0), (0, 0))
theorem cal_X10_keep : fCal k_X10_keep 0 := ⟨⟨wc624, w6⟩, ⟨by decide +kernel, by decide +kernel⟩, by decide +kernel, by decide +kernel⟩
def s_X10_keep (State_cells : Nat → Int32) (History_snapshotTaken : Int32) (History_snapshot : Nat → Int32) : Option (Int32 × (Int32) × (Nat → Int32)) := (s_X3_takeSnapshot History_snapshotTaken History_snapshot State_cells).bind fun v1 => (s_X8_names State_cells).bind fun v2 => some (v2, v1.1, v1.2)
set_option maxHeartbeats 4000000 in
set_option maxRecDepth 100000 in
theorem ct_X10_keep {State_cells : Nat → Int32} {History_oldest : Int32} {History_size : Int32} {History_snapshotTaken : Int32} {History_saved : Nat → Int32} {History_snapshot : Nat → Int32} {Buffer_size : Int32} {Buffer_codes : Nat → Int32} {Reader_pattern : Nat} {Reader_place : Int32} {Word_size : Int32} {Word_letters : Nat → Int32} {res : Int32 × (Int32) × (Nat → Int32)} (hf : s_X10_keep State_cells History_snapshotTaken History_snapshot = some res) : Ct k_X10_keep [.ref 0] [.inl (5, [.ref 1, .ref 3, .ref 6, .ref 8, .ref 9]), .inl (3, [.ref 2]), .inr (910, .inl State_cells), .inl (1, [.ref 4, .ref 5, .int History_oldest, .int History_size, .int History_snapshotTaken]), .inr (5460, .inl History_saved), .inr (910, .inl History_snapshot), .inl (0, [.ref 7, .int Buffer_size]), .inr (60, .inl Buffer_codes), .inl (2, [.ref (Reader_pattern + 1000), .int Reader_place]), .inl (4, [.ref 10, .int Word_size]), .inr (8, .inl Word_letters)] (.inl (some (.int res.1))) [.inl (5, [.ref 1, .ref 3, .ref 6, .ref 8, .ref 9]), .inl (3, [.ref 2]), .inr (910, .inl State_cells), .inl (1, [.ref 4, .ref 5, .int History_oldest, .int History_size, .int res.2.1]), .inr (5460, .inl History_saved), .inr (910, .inl res.2.2), .inl (0, [.ref 7, .int Buffer_size]), .inr (60, .inl Buffer_codes), .inl (2, [.ref (Reader_pattern + 1000), .int Reader_place]), .inl (4, [.ref 10, .int Word_size]), .inr (8, .inl Word_letters)] := by
  unfold s_X10_keep at hf
  refine Ct.of (L := [some (.ref 0)]) cal_X10_keep (fent_pad (j := 0) rfl) (Nat.le_of_ble_eq_true rfl) ?_
  refine V.aload_n (i := 0) dX10_keep_0 rfl rfl ?_
  refine V.getfield (kf := 1) (v := .ref 3) fl_RX10 dX10_keep_1 w113 (Nat.le_of_ble_eq_true rfl) rfl rfl ?_
  refine V.aload_n (i := 0) dX10_keep_4 rfl rfl ?_
  refine V.getfield (kf := 0) (v := .ref 1) fl_RX10 dX10_keep_5 w112 (Nat.le_of_ble_eq_true rfl) rfl rfl ?_
  obtain ⟨v1, hv1, hf⟩ := fbind hf
  refine V.callVn (pl := [3, 4, 5, 1, 2]) (σ' := [.inl (5, [.ref 1, .ref 3, .ref 6, .ref 8, .ref 9]), .inl (3, [.ref 2]), .inr (910, .inl State_cells), .inl (1, [.ref 4, .ref 5, .int History_oldest, .int History_size, .int v1.1]), .inr (5460, .inl History_saved), .inr (910, .inl v1.2), .inl (0, [.ref 7, .int Buffer_size]), .inr (60, .inl Buffer_codes), .inl (2, [.ref (Reader_pattern + 1000), .int Reader_place]), .inl (4, [.ref 10, .int Word_size]), .inr (8, .inl Word_letters)]) (st2 := []) (cl2 := 0) (sl2 := 0) (ct_X3_takeSnapshot (History_oldest := History_oldest) (History_size := History_size) (History_snapshotTaken := History_snapshotTaken) (History_saved := History_saved) (History_snapshot := History_snapshot) (State_cells := State_cells) hv1) dX10_keep_8 w625 ⟨w626, w627⟩ cal_X3_takeSnapshot rfl ⟨⟨Nat.le_of_ble_eq_true rfl, Nat.le_of_ble_eq_true rfl⟩, Nat.le_of_ble_eq_true rfl, Nat.le_of_ble_eq_true rfl⟩ (Nat.le_of_ble_eq_true rfl) ⟨_, _, _, _, rfl, rfl⟩ rfl ⟨rfl, ⟨by decide, by decide⟩, rfl, (fr_cons (Or.inl (Nat.le_of_ble_eq_true rfl)) (fr_cons (Or.inl (Nat.le_of_ble_eq_true rfl)) (fr_cons (Or.inl (Nat.le_of_ble_eq_true rfl)) (fr_nil)))), rfl⟩ fr_v rfl rfl rfl rfl ?_
  refine V.aload_n (i := 0) dX10_keep_11 rfl rfl ?_
  refine V.getfield (kf := 0) (v := .ref 1) fl_RX10 dX10_keep_12 w112 (Nat.le_of_ble_eq_true rfl) rfl rfl ?_
  obtain ⟨v2, hv2, hf⟩ := fbind hf
  refine V.callSn (pl := [1, 2]) (σ' := [.inl (5, [.ref 1, .ref 3, .ref 6, .ref 8, .ref 9]), .inl (3, [.ref 2]), .inr (910, .inl State_cells), .inl (1, [.ref 4, .ref 5, .int History_oldest, .int History_size, .int v1.1]), .inr (5460, .inl History_saved), .inr (910, .inl v1.2), .inl (0, [.ref 7, .int Buffer_size]), .inr (60, .inl Buffer_codes), .inl (2, [.ref (Reader_pattern + 1000), .int Reader_place]), .inl (4, [.ref 10, .int Word_size]), .inr (8, .inl Word_letters)]) (st2 := [.int v2]) (cl2 := 0) (sl2 := 0) (ct_X8_names (State_cells := State_cells) hv2) dX10_keep_15 w629 w416 cal_X8_names ⟨⟨Nat.le_of_ble_eq_true rfl, Nat.le_of_ble_eq_true rfl⟩, Nat.le_of_ble_eq_true rfl, Nat.le_of_ble_eq_true rfl⟩ (Nat.le_of_ble_eq_true rfl) rfl ⟨rfl, ⟨by decide, by decide⟩, rfl, (fr_cons (Or.inl (Nat.le_of_ble_eq_true rfl)) (fr_nil)), rfl⟩ fr_i rfl rfl rfl rfl ?_
  obtain rfl := Option.some.inj hf
  exact V.iret dX10_keep_18 rfl (Nat.le_of_ble_eq_true rfl) (Nat.le_of_ble_eq_true rfl) rfl
def k_X10_restore : fK := (yX10_restore, cX10_restore, 1, (some .int), [], (6, 83), (0, 0), (1, 6))
theorem cal_X10_restore : fCal k_X10_restore 0 := ⟨⟨wc633, w6⟩, ⟨by decide +kernel, by decide +kernel⟩, by decide +kernel, by decide +kernel⟩
def s_X10_restore (State_cells : Nat → Int32) (History_oldest : Int32) (History_size : Int32) (History_snapshotTaken : Int32) (History_saved : Nat → Int32) (History_snapshot : Nat → Int32) : Option ((Int32 ⊕ String) × (Nat → Int32) × (Int32) × (Int32) × (Nat → Int32)) := (s_X3_hasSnapshot History_snapshotTaken).bind fun v1 => if (v1 = 0 : Prop) then (some (.inr "java/lang/IllegalStateException", State_cells, History_oldest, History_size, History_saved)) else ((s_X3_push History_oldest History_size History_saved State_cells).bind fun v2 => (s_X3_loadSnapshot History_snapshot State_cells).bind fun v3 => (s_X8_names v3).bind fun v4 => some (.inl v4, v3, v2.1, v2.2.1, v2.2.2))
set_option maxHeartbeats 4000000 in
set_option maxRecDepth 100000 in
theorem ct_X10_restore {State_cells : Nat → Int32} {History_oldest : Int32} {History_size : Int32} {History_snapshotTaken : Int32} {History_saved : Nat → Int32} {History_snapshot : Nat → Int32} {Buffer_size : Int32} {Buffer_codes : Nat → Int32} {Reader_pattern : Nat} {Reader_place : Int32} {Word_size : Int32} {Word_letters : Nat → Int32} {res : (Int32 ⊕ String) × (Nat → Int32) × (Int32) × (Int32) × (Nat → Int32)} (hf : s_X10_restore State_cells History_oldest History_size History_snapshotTaken History_saved History_snapshot = some res) : Ct k_X10_restore [.ref 0] [.inl (5, [.ref 1, .ref 3, .ref 6, .ref 8, .ref 9]), .inl (3, [.ref 2]), .inr (910, .inl State_cells), .inl (1, [.ref 4, .ref 5, .int History_oldest, .int History_size, .int History_snapshotTaken]), .inr (5460, .inl History_saved), .inr (910, .inl History_snapshot), .inl (0, [.ref 7, .int Buffer_size]), .inr (60, .inl Buffer_codes), .inl (2, [.ref (Reader_pattern + 1000), .int Reader_place]), .inl (4, [.ref 10, .int Word_size]), .inr (8, .inl Word_letters)] (foI res.1) [.inl (5, [.ref 1, .ref 3, .ref 6, .ref 8, .ref 9]), .inl (3, [.ref 2]), .inr (910, .inl res.2.1), .inl (1, [.ref 4, .ref 5, .int res.2.2.1, .int res.2.2.2.1, .int History_snapshotTaken]), .inr (5460, .inl res.2.2.2.2), .inr (910, .inl History_snapshot), .inl (0, [.ref 7, .int Buffer_size]), .inr (60, .inl Buffer_codes), .inl (2, [.ref (Reader_pattern + 1000), .int Reader_place]), .inl (4, [.ref 10, .int Word_size]), .inr (8, .inl Word_letters)] := by
  unfold s_X10_restore at hf
  refine Ct.of (L := [some (.ref 0)]) cal_X10_restore (fent_pad (j := 0) rfl) (Nat.le_of_ble_eq_true rfl) ?_
  refine V.aload_n (i := 0) dX10_restore_0 rfl rfl ?_
  refine V.getfield (kf := 1) (v := .ref 3) fl_RX10 dX10_restore_1 w113 (Nat.le_of_ble_eq_true rfl) rfl rfl ?_
  obtain ⟨v1, hv1, hf⟩ := fbind hf
  refine V.callVn (pl := [3, 4, 5]) (σ' := [.inl (5, [.ref 1, .ref 3, .ref 6, .ref 8, .ref 9]), .inl (3, [.ref 2]), .inr (910, .inl State_cells), .inl (1, [.ref 4, .ref 5, .int History_oldest, .int History_size, .int History_snapshotTaken]), .inr (5460, .inl History_saved), .inr (910, .inl History_snapshot), .inl (0, [.ref 7, .int Buffer_size]), .inr (60, .inl Buffer_codes), .inl (2, [.ref (Reader_pattern + 1000), .int Reader_place]), .inl (4, [.ref 10, .int Word_size]), .inr (8, .inl Word_letters)]) (st2 := [.int v1]) (cl2 := 0) (sl2 := 0) (ct_X3_hasSnapshot (History_oldest := History_oldest) (History_size := History_size) (History_snapshotTaken := History_snapshotTaken) (History_saved := History_saved) (History_snapshot := History_snapshot) hv1) dX10_restore_4 w634 ⟨w635, w636⟩ cal_X3_hasSnapshot rfl ⟨⟨Nat.le_of_ble_eq_true rfl, Nat.le_of_ble_eq_true rfl⟩, Nat.le_of_ble_eq_true rfl, Nat.le_of_ble_eq_true rfl⟩ (Nat.le_of_ble_eq_true rfl) ⟨_, _, _, _, rfl, rfl⟩ rfl ⟨rfl, ⟨by decide, by decide⟩, rfl, (fr_cons (Or.inl (Nat.le_of_ble_eq_true rfl)) (fr_cons (Or.inl (Nat.le_of_ble_eq_true rfl)) (fr_nil))), rfl⟩ fr_i rfl rfl rfl rfl ?_
  refine V.if_ne (tgt := 20) dX10_restore_7 (by decide) (fun h => ?_) (fun h => ?_)
  · have hf := fif_f h hf
    refine V.aload_n (i := 0) dX10_restore_20 rfl rfl ?_
    refine V.getfield (kf := 1) (v := .ref 3) fl_RX10 dX10_restore_21 w113 (Nat.le_of_ble_eq_true rfl) rfl rfl ?_
    refine V.aload_n (i := 0) dX10_restore_24 rfl rfl ?_
    refine V.getfield (kf := 0) (v := .ref 1) fl_RX10 dX10_restore_25 w112 (Nat.le_of_ble_eq_true rfl) rfl rfl ?_
    obtain ⟨v2, hv2, hf⟩ := fbind hf
    refine V.callVn (pl := [3, 4, 5, 1, 2]) (σ' := [.inl (5, [.ref 1, .ref 3, .ref 6, .ref 8, .ref 9]), .inl (3, [.ref 2]), .inr (910, .inl State_cells), .inl (1, [.ref 4, .ref 5, .int v2.1, .int v2.2.1, .int History_snapshotTaken]), .inr (5460, .inl v2.2.2), .inr (910, .inl History_snapshot), .inl (0, [.ref 7, .int Buffer_size]), .inr (60, .inl Buffer_codes), .inl (2, [.ref (Reader_pattern + 1000), .int Reader_place]), .inl (4, [.ref 10, .int Word_size]), .inr (8, .inl Word_letters)]) (st2 := []) (cl2 := 0) (sl2 := 0) (ct_X3_push (History_oldest := History_oldest) (History_size := History_size) (History_snapshotTaken := History_snapshotTaken) (History_saved := History_saved) (History_snapshot := History_snapshot) (State_cells := State_cells) hv2) dX10_restore_28 w547 ⟨w548, w549⟩ cal_X3_push rfl ⟨⟨Nat.le_of_ble_eq_true rfl, Nat.le_of_ble_eq_true rfl⟩, Nat.le_of_ble_eq_true rfl, Nat.le_of_ble_eq_true rfl⟩ (Nat.le_of_ble_eq_true rfl) ⟨_, _, _, _, rfl, rfl⟩ rfl ⟨rfl, ⟨by decide, by decide⟩, rfl, (fr_cons (Or.inl (Nat.le_of_ble_eq_true rfl)) (fr_cons (Or.inl (Nat.le_of_ble_eq_true rfl)) (fr_cons (Or.inl (Nat.le_of_ble_eq_true rfl)) (fr_nil)))), rfl⟩ fr_v rfl rfl rfl rfl ?_
    refine V.aload_n (i := 0) dX10_restore_31 rfl rfl ?_
    refine V.getfield (kf := 1) (v := .ref 3) fl_RX10 dX10_restore_32 w113 (Nat.le_of_ble_eq_true rfl) rfl rfl ?_
    refine V.aload_n (i := 0) dX10_restore_35 rfl rfl ?_
    refine V.getfield (kf := 0) (v := .ref 1) fl_RX10 dX10_restore_36 w112 (Nat.le_of_ble_eq_true rfl) rfl rfl ?_
    obtain ⟨v3, hv3, hf⟩ := fbind hf
    refine V.callVn (pl := [3, 4, 5, 1, 2]) (σ' := [.inl (5, [.ref 1, .ref 3, .ref 6, .ref 8, .ref 9]), .inl (3, [.ref 2]), .inr (910, .inl v3), .inl (1, [.ref 4, .ref 5, .int v2.1, .int v2.2.1, .int History_snapshotTaken]), .inr (5460, .inl v2.2.2), .inr (910, .inl History_snapshot), .inl (0, [.ref 7, .int Buffer_size]), .inr (60, .inl Buffer_codes), .inl (2, [.ref (Reader_pattern + 1000), .int Reader_place]), .inl (4, [.ref 10, .int Word_size]), .inr (8, .inl Word_letters)]) (st2 := []) (cl2 := 0) (sl2 := 0) (ct_X3_loadSnapshot (History_oldest := v2.1) (History_size := v2.2.1) (History_snapshotTaken := History_snapshotTaken) (History_saved := v2.2.2) (History_snapshot := History_snapshot) (State_cells := State_cells) hv3) dX10_restore_39 w639 ⟨w640, w641⟩ cal_X3_loadSnapshot rfl ⟨⟨Nat.le_of_ble_eq_true rfl, Nat.le_of_ble_eq_true rfl⟩, Nat.le_of_ble_eq_true rfl, Nat.le_of_ble_eq_true rfl⟩ (Nat.le_of_ble_eq_true rfl) ⟨_, _, _, _, rfl, rfl⟩ rfl ⟨rfl, ⟨by decide, by decide⟩, rfl, (fr_cons (Or.inl (Nat.le_of_ble_eq_true rfl)) (fr_cons (Or.inl (Nat.le_of_ble_eq_true rfl)) (fr_cons (Or.inl (Nat.le_of_ble_eq_true rfl)) (fr_nil)))), rfl⟩ fr_v rfl rfl rfl rfl ?_
    refine V.aload_n (i := 0) dX10_restore_42 rfl rfl ?_
    refine V.getfield (kf := 0) (v := .ref 1) fl_RX10 dX10_restore_43 w112 (Nat.le_of_ble_eq_true rfl) rfl rfl ?_
    obtain ⟨v4, hv4, hf⟩ := fbind hf
    refine V.callSn (pl := [1, 2]) (σ' := [.inl (5, [.ref 1, .ref 3, .ref 6, .ref 8, .ref 9]), .inl (3, [.ref 2]), .inr (910, .inl v3), .inl (1, [.ref 4, .ref 5, .int v2.1, .int v2.2.1, .int History_snapshotTaken]), .inr (5460, .inl v2.2.2), .inr (910, .inl History_snapshot), .inl (0, [.ref 7, .int Buffer_size]), .inr (60, .inl Buffer_codes), .inl (2, [.ref (Reader_pattern + 1000), .int Reader_place]), .inl (4, [.ref 10, .int Word_size]), .inr (8, .inl Word_letters)]) (st2 := [.int v4]) (cl2 := 0) (sl2 := 0) (ct_X8_names (State_cells := v3) hv4) dX10_restore_46 w629 w416 cal_X8_names ⟨⟨Nat.le_of_ble_eq_true rfl, Nat.le_of_ble_eq_true rfl⟩, Nat.le_of_ble_eq_true rfl, Nat.le_of_ble_eq_true rfl⟩ (Nat.le_of_ble_eq_true rfl) rfl ⟨rfl, ⟨by decide, by decide⟩, rfl, (fr_cons (Or.inl (Nat.le_of_ble_eq_true rfl)) (fr_nil)), rfl⟩ fr_i rfl rfl rfl rfl ?_
    obtain rfl := Option.some.inj hf
    exact V.iret dX10_restore_49 rfl (Nat.le_of_ble_eq_true rfl) (Nat.le_of_ble_eq_true rfl) rfl
  · have hf := fif_t h hf
    obtain rfl := Option.some.inj hf
    exact V.throwS (i := 15) th_RX10_IllegalStateException_61 (List.mem_of_getElem? (i := 15) rfl) dX10_restore_10 dX10_restore_13 dX10_restore_14 dX10_restore_16 dX10_restore_19 rfl (Nat.le_of_ble_eq_true rfl) (Nat.le_of_ble_eq_true rfl) ⟨Nat.le_of_ble_eq_true rfl, Nat.le_of_ble_eq_true rfl⟩ (Nat.le_of_ble_eq_true rfl) (Nat.le_of_ble_eq_true rfl) rfl
def k_X10_needWhat : fK := (yX10_needWhat, cX10_needWhat, 2, none, [], (6, 82), (0, 0), (1, 6))
theorem cal_X10_needWhat : fCal k_X10_needWhat 2 := ⟨⟨wc250, w6⟩, ⟨by decide +kernel, by decide +kernel⟩, by decide +kernel, by decide +kernel⟩
def s_X10_needWhat (a0 : Int32) (a1 : Int32) : Option ((Unit ⊕ String)) := if (a0 < 0 : Prop) then (some (.inr "java/lang/IllegalArgumentException")) else (if (a0 ≤ a1 : Prop) then (some (.inl ())) else (some (.inr "java/lang/IllegalArgumentException")))
set_option maxHeartbeats 4000000 in
set_option maxRecDepth 100000 in
theorem ct_X10_needWhat {a0 : Int32} {a1 : Int32} {res : (Unit ⊕ String)} (hf : s_X10_needWhat a0 a1 = some res) : Ct k_X10_needWhat [.int a0, .int a1] [] (foV res) [] := by
  unfold s_X10_needWhat at hf
  refine Ct.of (L := [some (.int a0), some (.int a1)]) cal_X10_needWhat (fent_pad (j := 0) rfl) (Nat.le_of_ble_eq_true rfl) ?_
  refine V.iload_n (i := 0) dX10_needWhat_0 rfl rfl ?_
  refine V.if_lt (tgt := 9) dX10_needWhat_1 (by decide) (fun h => ?_) (fun h => ?_)
  · have hf := fif_t h hf
    obtain rfl := Option.some.inj hf
    exact V.throwSW (i := 17) th_RX10_IllegalArgumentException_110 (List.mem_of_getElem? (i := 17) rfl) dX10_needWhat_9 dX10_needWhat_12 dX10_needWhat_13 dX10_needWhat_16 dX10_needWhat_19 rfl (Nat.le_of_ble_eq_true rfl) (Nat.le_of_ble_eq_true rfl) ⟨Nat.le_of_ble_eq_true rfl, Nat.le_of_ble_eq_true rfl⟩ (Nat.le_of_ble_eq_true rfl) (Nat.le_of_ble_eq_true rfl) rfl
  · have hf := fif_f h hf
    refine V.iload_n (i := 0) dX10_needWhat_4 rfl rfl ?_
    refine V.iload_n (i := 1) dX10_needWhat_5 rfl rfl ?_
    refine V.icmp_le (tgt := 20) dX10_needWhat_6 (by decide) (fun h => ?_) (fun h => ?_)
    · have hf := fif_t h hf
      obtain rfl := Option.some.inj hf
      exact V.vret dX10_needWhat_20 rfl (Nat.le_of_ble_eq_true rfl) (Nat.le_of_ble_eq_true rfl) rfl
    · have hf := fif_f h hf
      obtain rfl := Option.some.inj hf
      exact V.throwSW (i := 17) th_RX10_IllegalArgumentException_110 (List.mem_of_getElem? (i := 17) rfl) dX10_needWhat_9 dX10_needWhat_12 dX10_needWhat_13 dX10_needWhat_16 dX10_needWhat_19 rfl (Nat.le_of_ble_eq_true rfl) (Nat.le_of_ble_eq_true rfl) ⟨Nat.le_of_ble_eq_true rfl, Nat.le_of_ble_eq_true rfl⟩ (Nat.le_of_ble_eq_true rfl) (Nat.le_of_ble_eq_true rfl) rfl
def k_X10_letter : fK := (yX10_letter, cX10_letter, 3, (some .int), [], (7, 121), (0, 0), (1, 6))
theorem cal_X10_letter : fCal k_X10_letter 2 := ⟨⟨wc340, w6⟩, ⟨by decide +kernel, by decide +kernel⟩, by decide +kernel, by decide +kernel⟩
def s_X10_letter (a1 : Int32) (a2 : Int32) (State_cells : Nat → Int32) : Option ((Int32 ⊕ String)) := if (a1 < 0 : Prop) then (some (.inr "java/lang/IndexOutOfBoundsException")) else (if (a1 < 16 : Prop) then ((s_X10_needWhat a2 5).bind fun v1 => fth v1 (fun v2 => (s_X8_ofLetter a1 a2 State_cells).bind fun v3 => some (.inl v3)) (fun E9 => some (.inr E9))) else (some (.inr "java/lang/IndexOutOfBoundsException")))
set_option maxHeartbeats 4000000 in
set_option maxRecDepth 100000 in
theorem ct_X10_letter {a1 : Int32} {a2 : Int32} {State_cells : Nat → Int32} {History_oldest : Int32} {History_size : Int32} {History_snapshotTaken : Int32} {History_saved : Nat → Int32} {History_snapshot : Nat → Int32} {Buffer_size : Int32} {Buffer_codes : Nat → Int32} {Reader_pattern : Nat} {Reader_place : Int32} {Word_size : Int32} {Word_letters : Nat → Int32} {res : (Int32 ⊕ String)} (hf : s_X10_letter a1 a2 State_cells = some res) : Ct k_X10_letter [.ref 0, .int a1, .int a2] [.inl (5, [.ref 1, .ref 3, .ref 6, .ref 8, .ref 9]), .inl (3, [.ref 2]), .inr (910, .inl State_cells), .inl (1, [.ref 4, .ref 5, .int History_oldest, .int History_size, .int History_snapshotTaken]), .inr (5460, .inl History_saved), .inr (910, .inl History_snapshot), .inl (0, [.ref 7, .int Buffer_size]), .inr (60, .inl Buffer_codes), .inl (2, [.ref (Reader_pattern + 1000), .int Reader_place]), .inl (4, [.ref 10, .int Word_size]), .inr (8, .inl Word_letters)] (foI res) [.inl (5, [.ref 1, .ref 3, .ref 6, .ref 8, .ref 9]), .inl (3, [.ref 2]), .inr (910, .inl State_cells), .inl (1, [.ref 4, .ref 5, .int History_oldest, .int History_size, .int History_snapshotTaken]), .inr (5460, .inl History_saved), .inr (910, .inl History_snapshot), .inl (0, [.ref 7, .int Buffer_size]), .inr (60, .inl Buffer_codes), .inl (2, [.ref (Reader_pattern + 1000), .int Reader_place]), .inl (4, [.ref 10, .int Word_size]), .inr (8, .inl Word_letters)] := by
  unfold s_X10_letter at hf
  refine Ct.of (L := [some (.ref 0), some (.int a1), some (.int a2)]) cal_X10_letter (fent_pad (j := 0) rfl) (Nat.le_of_ble_eq_true rfl) ?_
  refine V.iload_n (i := 1) dX10_letter_0 rfl rfl ?_
  refine V.if_lt (tgt := 10) dX10_letter_1 (by decide) (fun h => ?_) (fun h => ?_)
  · have hf := fif_t h hf
    obtain rfl := Option.some.inj hf
    exact V.throwS (i := 16) th_RX10_IndexOutOfBoundsException_131 (List.mem_of_getElem? (i := 16) rfl) dX10_letter_10 dX10_letter_13 dX10_letter_14 dX10_letter_16 dX10_letter_19 rfl (Nat.le_of_ble_eq_true rfl) (Nat.le_of_ble_eq_true rfl) ⟨Nat.le_of_ble_eq_true rfl, Nat.le_of_ble_eq_true rfl⟩ (Nat.le_of_ble_eq_true rfl) (Nat.le_of_ble_eq_true rfl) rfl
  · have hf := fif_f h hf
    refine V.iload_n (i := 1) dX10_letter_4 rfl rfl ?_
    refine V.bipush (v := 16) dX10_letter_5 rfl ?_
    refine V.icmp_lt (tgt := 20) dX10_letter_7 (by decide) (fun h => ?_) (fun h => ?_)
    · have hf := fif_t h hf
      refine V.iload_n (i := 2) dX10_letter_20 rfl rfl ?_
      refine V.iconst (v := 5) dX10_letter_21 rfl ?_
      obtain ⟨v1, hv1, hf⟩ := fbind hf
      have hc := ct_X10_needWhat (a0 := a2) (a1 := 5) hv1
      rcases hv1b : v1 with v2 | E9
      · rw [hv1b] at hc hf
        dsimp only [fth] at hf
        refine V.callSn (pl := []) (σ' := [.inl (5, [.ref 1, .ref 3, .ref 6, .ref 8, .ref 9]), .inl (3, [.ref 2]), .inr (910, .inl State_cells), .inl (1, [.ref 4, .ref 5, .int History_oldest, .int History_size, .int History_snapshotTaken]), .inr (5460, .inl History_saved), .inr (910, .inl History_snapshot), .inl (0, [.ref 7, .int Buffer_size]), .inr (60, .inl Buffer_codes), .inl (2, [.ref (Reader_pattern + 1000), .int Reader_place]), .inl (4, [.ref 10, .int Word_size]), .inr (8, .inl Word_letters)]) (st2 := []) (cl2 := 0) (sl2 := 0) hc dX10_letter_22 w248 w249 cal_X10_needWhat ⟨⟨Nat.le_of_ble_eq_true rfl, Nat.le_of_ble_eq_true rfl⟩, Nat.le_of_ble_eq_true rfl, Nat.le_of_ble_eq_true rfl⟩ (Nat.le_of_ble_eq_true rfl) rfl ⟨rfl, ⟨by decide, by decide⟩, rfl, (fr_nil), rfl⟩ fr_v rfl rfl rfl rfl ?_
        refine V.aload_n (i := 0) dX10_letter_25 rfl rfl ?_
        refine V.getfield (kf := 0) (v := .ref 1) fl_RX10 dX10_letter_26 w112 (Nat.le_of_ble_eq_true rfl) rfl rfl ?_
        refine V.iload_n (i := 1) dX10_letter_29 rfl rfl ?_
        refine V.iload_n (i := 2) dX10_letter_30 rfl rfl ?_
        obtain ⟨v3, hv3, hf⟩ := fbind hf
        refine V.callSn (pl := [1, 2]) (σ' := [.inl (5, [.ref 1, .ref 3, .ref 6, .ref 8, .ref 9]), .inl (3, [.ref 2]), .inr (910, .inl State_cells), .inl (1, [.ref 4, .ref 5, .int History_oldest, .int History_size, .int History_snapshotTaken]), .inr (5460, .inl History_saved), .inr (910, .inl History_snapshot), .inl (0, [.ref 7, .int Buffer_size]), .inr (60, .inl Buffer_codes), .inl (2, [.ref (Reader_pattern + 1000), .int Reader_place]), .inl (4, [.ref 10, .int Word_size]), .inr (8, .inl Word_letters)]) (st2 := [.int v3]) (cl2 := 0) (sl2 := 0) (ct_X8_ofLetter (a1 := a1) (a2 := a2) (State_cells := State_cells) hv3) dX10_letter_31 w342 w343 cal_X8_ofLetter ⟨⟨Nat.le_of_ble_eq_true rfl, Nat.le_of_ble_eq_true rfl⟩, Nat.le_of_ble_eq_true rfl, Nat.le_of_ble_eq_true rfl⟩ (Nat.le_of_ble_eq_true rfl) rfl ⟨rfl, ⟨by decide, by decide⟩, rfl, (fr_cons (Or.inl (Nat.le_of_ble_eq_true rfl)) (fr_nil)), rfl⟩ fr_i rfl rfl rfl rfl ?_
        obtain rfl := Option.some.inj hf
        exact V.iret dX10_letter_34 rfl (Nat.le_of_ble_eq_true rfl) (Nat.le_of_ble_eq_true rfl) rfl
      · rw [hv1b] at hc hf
        dsimp only [fth] at hf
        obtain rfl := Option.some.inj hf
        refine V.callSx (pl := []) (σ' := [.inl (5, [.ref 1, .ref 3, .ref 6, .ref 8, .ref 9]), .inl (3, [.ref 2]), .inr (910, .inl State_cells), .inl (1, [.ref 4, .ref 5, .int History_oldest, .int History_size, .int History_snapshotTaken]), .inr (5460, .inl History_saved), .inr (910, .inl History_snapshot), .inl (0, [.ref 7, .int Buffer_size]), .inr (60, .inl Buffer_codes), .inl (2, [.ref (Reader_pattern + 1000), .int Reader_place]), .inl (4, [.ref 10, .int Word_size]), .inr (8, .inl Word_letters)]) hc dX10_letter_22 w248 w249 cal_X10_needWhat ⟨⟨Nat.le_of_ble_eq_true rfl, Nat.le_of_ble_eq_true rfl⟩, Nat.le_of_ble_eq_true rfl, Nat.le_of_ble_eq_true rfl⟩ (Nat.le_of_ble_eq_true rfl) rfl ⟨rfl, ⟨by decide, by decide⟩, rfl, (fr_nil), rfl⟩ ?_
        exact VX.out rfl (Nat.le_of_ble_eq_true rfl) (Nat.le_of_ble_eq_true rfl) rfl
    · have hf := fif_f h hf
      obtain rfl := Option.some.inj hf
      exact V.throwS (i := 16) th_RX10_IndexOutOfBoundsException_131 (List.mem_of_getElem? (i := 16) rfl) dX10_letter_10 dX10_letter_13 dX10_letter_14 dX10_letter_16 dX10_letter_19 rfl (Nat.le_of_ble_eq_true rfl) (Nat.le_of_ble_eq_true rfl) ⟨Nat.le_of_ble_eq_true rfl, Nat.le_of_ble_eq_true rfl⟩ (Nat.le_of_ble_eq_true rfl) (Nat.le_of_ble_eq_true rfl) rfl
def k_X10_knot : fK := (yX10_knot, cX10_knot, 5, (some .int), [], (8, 124), (0, 0), (1, 6))
theorem cal_X10_knot : fCal k_X10_knot 4 := ⟨⟨wc323, w6⟩, ⟨by decide +kernel, by decide +kernel⟩, by decide +kernel, by decide +kernel⟩
def s_X10_knot (a1 : Int32) (a2 : Int32) (a3 : Int32) (a4 : Int32) (State_cells : Nat → Int32) : Option ((Int32 ⊕ String)) := (s_X10_needName a1 a2 State_cells).bind fun v1 => fth v1 (fun v2 => if (a3 < 0 : Prop) then (some (.inr "java/lang/IllegalArgumentException")) else (if (a3 < 8 : Prop) then ((s_X10_needWhat a4 2).bind fun v3 => fth v3 (fun v4 => (s_X8_ofKnot a1 a2 a3 a4 State_cells).bind fun v5 => some (.inl v5)) (fun E9 => some (.inr E9))) else (some (.inr "java/lang/IllegalArgumentException")))) (fun E9 => some (.inr E9))
set_option maxHeartbeats 4000000 in
set_option maxRecDepth 100000 in
theorem ct_X10_knot {a1 : Int32} {a2 : Int32} {a3 : Int32} {a4 : Int32} {State_cells : Nat → Int32} {History_oldest : Int32} {History_size : Int32} {History_snapshotTaken : Int32} {History_saved : Nat → Int32} {History_snapshot : Nat → Int32} {Buffer_size : Int32} {Buffer_codes : Nat → Int32} {Reader_pattern : Nat} {Reader_place : Int32} {Word_size : Int32} {Word_letters : Nat → Int32} {res : (Int32 ⊕ String)} (hf : s_X10_knot a1 a2 a3 a4 State_cells = some res) : Ct k_X10_knot [.ref 0, .int a1, .int a2, .int a3, .int a4] [.inl (5, [.ref 1, .ref 3, .ref 6, .ref 8, .ref 9]), .inl (3, [.ref 2]), .inr (910, .inl State_cells), .inl (1, [.ref 4, .ref 5, .int History_oldest, .int History_size, .int History_snapshotTaken]), .inr (5460, .inl History_saved), .inr (910, .inl History_snapshot), .inl (0, [.ref 7, .int Buffer_size]), .inr (60, .inl Buffer_codes), .inl (2, [.ref (Reader_pattern + 1000), .int Reader_place]), .inl (4, [.ref 10, .int Word_size]), .inr (8, .inl Word_letters)] (foI res) [.inl (5, [.ref 1, .ref 3, .ref 6, .ref 8, .ref 9]), .inl (3, [.ref 2]), .inr (910, .inl State_cells), .inl (1, [.ref 4, .ref 5, .int History_oldest, .int History_size, .int History_snapshotTaken]), .inr (5460, .inl History_saved), .inr (910, .inl History_snapshot), .inl (0, [.ref 7, .int Buffer_size]), .inr (60, .inl Buffer_codes), .inl (2, [.ref (Reader_pattern + 1000), .int Reader_place]), .inl (4, [.ref 10, .int Word_size]), .inr (8, .inl Word_letters)] := by
  unfold s_X10_knot at hf
  refine Ct.of (L := [some (.ref 0), some (.int a1), some (.int a2), some (.int a3), some (.int a4)]) cal_X10_knot (fent_pad (j := 0) rfl) (Nat.le_of_ble_eq_true rfl) ?_
  refine V.aload_n (i := 0) dX10_knot_0 rfl rfl ?_
  refine V.iload_n (i := 1) dX10_knot_1 rfl rfl ?_
  refine V.iload_n (i := 2) dX10_knot_2 rfl rfl ?_
  obtain ⟨v1, hv1, hf⟩ := fbind hf
  have hc := ct_X10_needName (a1 := a1) (a2 := a2) (State_cells := State_cells) (History_oldest := History_oldest) (History_size := History_size) (History_snapshotTaken := History_snapshotTaken) (History_saved := History_saved) (History_snapshot := History_snapshot) (Buffer_size := Buffer_size) (Buffer_codes := Buffer_codes) (Reader_pattern := Reader_pattern) (Reader_place := Reader_place) (Word_size := Word_size) (Word_letters := Word_letters) hv1
  rcases hv1b : v1 with v2 | E9
  · rw [hv1b] at hc hf
    dsimp only [fth] at hf
    refine V.callVn (pl := [0, 1, 2, 3, 4, 5, 6, 7, 8, 9, 10]) (σ' := [.inl (5, [.ref 1, .ref 3, .ref 6, .ref 8, .ref 9]), .inl (3, [.ref 2]), .inr (910, .inl State_cells), .inl (1, [.ref 4, .ref 5, .int History_oldest, .int History_size, .int History_snapshotTaken]), .inr (5460, .inl History_saved), .inr (910, .inl History_snapshot), .inl (0, [.ref 7, .int Buffer_size]), .inr (60, .inl Buffer_codes), .inl (2, [.ref (Reader_pattern + 1000), .int Reader_place]), .inl (4, [.ref 10, .int Word_size]), .inr (8, .inl Word_letters)]) (st2 := []) (cl2 := 0) (sl2 := 0) hc dX10_knot_3 w288 ⟨w290, w1⟩ cal_X10_needName rfl ⟨⟨Nat.le_of_ble_eq_true rfl, Nat.le_of_ble_eq_true rfl⟩, Nat.le_of_ble_eq_true rfl, Nat.le_of_ble_eq_true rfl⟩ (Nat.le_of_ble_eq_true rfl) ⟨_, _, _, _, rfl, rfl⟩ rfl ⟨rfl, ⟨by decide, by decide⟩, rfl, (fr_cons (Or.inl (Nat.le_of_ble_eq_true rfl)) (fr_cons (Or.inl (Nat.le_of_ble_eq_true rfl)) (fr_cons (Or.inl (Nat.le_of_ble_eq_true rfl)) (fr_cons (Or.inl (Nat.le_of_ble_eq_true rfl)) (fr_cons (Or.inl (Nat.le_of_ble_eq_true rfl)) (fr_cons (Or.inl (Nat.le_of_ble_eq_true rfl)) (fr_cons (Or.inl (Nat.le_of_ble_eq_true rfl)) (fr_cons (Or.inl (Nat.le_of_ble_eq_true rfl)) (fr_cons (Or.inl (Nat.le_of_ble_eq_true rfl)) (fr_cons (Or.inr (Nat.le_add_left 1000 _)) (fr_cons (Or.inl (Nat.le_of_ble_eq_true rfl)) (fr_nil)))))))))))), rfl⟩ fr_v rfl rfl rfl rfl ?_
    refine V.iload_n (i := 3) dX10_knot_6 rfl rfl ?_
    refine V.if_lt (tgt := 16) dX10_knot_7 (by decide) (fun h => ?_) (fun h => ?_)
    · have hf := fif_t h hf
      obtain rfl := Option.some.inj hf
      exact V.throwS (i := 18) th_RX10_IllegalArgumentException_110 (List.mem_of_getElem? (i := 18) rfl) dX10_knot_16 dX10_knot_19 dX10_knot_20 dX10_knot_22 dX10_knot_25 rfl (Nat.le_of_ble_eq_true rfl) (Nat.le_of_ble_eq_true rfl) ⟨Nat.le_of_ble_eq_true rfl, Nat.le_of_ble_eq_true rfl⟩ (Nat.le_of_ble_eq_true rfl) (Nat.le_of_ble_eq_true rfl) rfl
    · have hf := fif_f h hf
      refine V.iload_n (i := 3) dX10_knot_10 rfl rfl ?_
      refine V.bipush (v := 8) dX10_knot_11 rfl ?_
      refine V.icmp_lt (tgt := 26) dX10_knot_13 (by decide) (fun h => ?_) (fun h => ?_)
      · have hf := fif_t h hf
        refine V.iload (i := 4) dX10_knot_26 rfl ?_
        refine V.iconst (v := 2) dX10_knot_28 rfl ?_
        obtain ⟨v3, hv3, hf⟩ := fbind hf
        have hc := ct_X10_needWhat (a0 := a4) (a1 := 2) hv3
        rcases hv3b : v3 with v4 | E9
        · rw [hv3b] at hc hf
          dsimp only [fth] at hf
          refine V.callSn (pl := []) (σ' := [.inl (5, [.ref 1, .ref 3, .ref 6, .ref 8, .ref 9]), .inl (3, [.ref 2]), .inr (910, .inl State_cells), .inl (1, [.ref 4, .ref 5, .int History_oldest, .int History_size, .int History_snapshotTaken]), .inr (5460, .inl History_saved), .inr (910, .inl History_snapshot), .inl (0, [.ref 7, .int Buffer_size]), .inr (60, .inl Buffer_codes), .inl (2, [.ref (Reader_pattern + 1000), .int Reader_place]), .inl (4, [.ref 10, .int Word_size]), .inr (8, .inl Word_letters)]) (st2 := []) (cl2 := 0) (sl2 := 0) hc dX10_knot_29 w248 w249 cal_X10_needWhat ⟨⟨Nat.le_of_ble_eq_true rfl, Nat.le_of_ble_eq_true rfl⟩, Nat.le_of_ble_eq_true rfl, Nat.le_of_ble_eq_true rfl⟩ (Nat.le_of_ble_eq_true rfl) rfl ⟨rfl, ⟨by decide, by decide⟩, rfl, (fr_nil), rfl⟩ fr_v rfl rfl rfl rfl ?_
          refine V.aload_n (i := 0) dX10_knot_32 rfl rfl ?_
          refine V.getfield (kf := 0) (v := .ref 1) fl_RX10 dX10_knot_33 w112 (Nat.le_of_ble_eq_true rfl) rfl rfl ?_
          refine V.iload_n (i := 1) dX10_knot_36 rfl rfl ?_
          refine V.iload_n (i := 2) dX10_knot_37 rfl rfl ?_
          refine V.iload_n (i := 3) dX10_knot_38 rfl rfl ?_
          refine V.iload (i := 4) dX10_knot_39 rfl ?_
          obtain ⟨v5, hv5, hf⟩ := fbind hf
          refine V.callSn (pl := [1, 2]) (σ' := [.inl (5, [.ref 1, .ref 3, .ref 6, .ref 8, .ref 9]), .inl (3, [.ref 2]), .inr (910, .inl State_cells), .inl (1, [.ref 4, .ref 5, .int History_oldest, .int History_size, .int History_snapshotTaken]), .inr (5460, .inl History_saved), .inr (910, .inl History_snapshot), .inl (0, [.ref 7, .int Buffer_size]), .inr (60, .inl Buffer_codes), .inl (2, [.ref (Reader_pattern + 1000), .int Reader_place]), .inl (4, [.ref 10, .int Word_size]), .inr (8, .inl Word_letters)]) (st2 := [.int v5]) (cl2 := 0) (sl2 := 0) (ct_X8_ofKnot (a1 := a1) (a2 := a2) (a3 := a3) (a4 := a4) (State_cells := State_cells) hv5) dX10_knot_41 w325 w326 cal_X8_ofKnot ⟨⟨Nat.le_of_ble_eq_true rfl, Nat.le_of_ble_eq_true rfl⟩, Nat.le_of_ble_eq_true rfl, Nat.le_of_ble_eq_true rfl⟩ (Nat.le_of_ble_eq_true rfl) rfl ⟨rfl, ⟨by decide, by decide⟩, rfl, (fr_cons (Or.inl (Nat.le_of_ble_eq_true rfl)) (fr_nil)), rfl⟩ fr_i rfl rfl rfl rfl ?_
          obtain rfl := Option.some.inj hf
          exact V.iret dX10_knot_44 rfl (Nat.le_of_ble_eq_true rfl) (Nat.le_of_ble_eq_true rfl) rfl
        · rw [hv3b] at hc hf
          dsimp only [fth] at hf
          obtain rfl := Option.some.inj hf
          refine V.callSx (pl := []) (σ' := [.inl (5, [.ref 1, .ref 3, .ref 6, .ref 8, .ref 9]), .inl (3, [.ref 2]), .inr (910, .inl State_cells), .inl (1, [.ref 4, .ref 5, .int History_oldest, .int History_size, .int History_snapshotTaken]), .inr (5460, .inl History_saved), .inr (910, .inl History_snapshot), .inl (0, [.ref 7, .int Buffer_size]), .inr (60, .inl Buffer_codes), .inl (2, [.ref (Reader_pattern + 1000), .int Reader_place]), .inl (4, [.ref 10, .int Word_size]), .inr (8, .inl Word_letters)]) hc dX10_knot_29 w248 w249 cal_X10_needWhat ⟨⟨Nat.le_of_ble_eq_true rfl, Nat.le_of_ble_eq_true rfl⟩, Nat.le_of_ble_eq_true rfl, Nat.le_of_ble_eq_true rfl⟩ (Nat.le_of_ble_eq_true rfl) rfl ⟨rfl, ⟨by decide, by decide⟩, rfl, (fr_nil), rfl⟩ ?_
          exact VX.out rfl (Nat.le_of_ble_eq_true rfl) (Nat.le_of_ble_eq_true rfl) rfl
      · have hf := fif_f h hf
        obtain rfl := Option.some.inj hf
        exact V.throwS (i := 18) th_RX10_IllegalArgumentException_110 (List.mem_of_getElem? (i := 18) rfl) dX10_knot_16 dX10_knot_19 dX10_knot_20 dX10_knot_22 dX10_knot_25 rfl (Nat.le_of_ble_eq_true rfl) (Nat.le_of_ble_eq_true rfl) ⟨Nat.le_of_ble_eq_true rfl, Nat.le_of_ble_eq_true rfl⟩ (Nat.le_of_ble_eq_true rfl) (Nat.le_of_ble_eq_true rfl) rfl
  · rw [hv1b] at hc hf
    dsimp only [fth] at hf
    obtain rfl := Option.some.inj hf
    refine V.callVx (pl := [0, 1, 2, 3, 4, 5, 6, 7, 8, 9, 10]) (σ' := [.inl (5, [.ref 1, .ref 3, .ref 6, .ref 8, .ref 9]), .inl (3, [.ref 2]), .inr (910, .inl State_cells), .inl (1, [.ref 4, .ref 5, .int History_oldest, .int History_size, .int History_snapshotTaken]), .inr (5460, .inl History_saved), .inr (910, .inl History_snapshot), .inl (0, [.ref 7, .int Buffer_size]), .inr (60, .inl Buffer_codes), .inl (2, [.ref (Reader_pattern + 1000), .int Reader_place]), .inl (4, [.ref 10, .int Word_size]), .inr (8, .inl Word_letters)]) hc dX10_knot_3 w288 ⟨w290, w1⟩ cal_X10_needName rfl ⟨⟨Nat.le_of_ble_eq_true rfl, Nat.le_of_ble_eq_true rfl⟩, Nat.le_of_ble_eq_true rfl, Nat.le_of_ble_eq_true rfl⟩ (Nat.le_of_ble_eq_true rfl) ⟨_, _, _, _, rfl, rfl⟩ rfl ⟨rfl, ⟨by decide, by decide⟩, rfl, (fr_cons (Or.inl (Nat.le_of_ble_eq_true rfl)) (fr_cons (Or.inl (Nat.le_of_ble_eq_true rfl)) (fr_cons (Or.inl (Nat.le_of_ble_eq_true rfl)) (fr_cons (Or.inl (Nat.le_of_ble_eq_true rfl)) (fr_cons (Or.inl (Nat.le_of_ble_eq_true rfl)) (fr_cons (Or.inl (Nat.le_of_ble_eq_true rfl)) (fr_cons (Or.inl (Nat.le_of_ble_eq_true rfl)) (fr_cons (Or.inl (Nat.le_of_ble_eq_true rfl)) (fr_cons (Or.inl (Nat.le_of_ble_eq_true rfl)) (fr_cons (Or.inr (Nat.le_add_left 1000 _)) (fr_cons (Or.inl (Nat.le_of_ble_eq_true rfl)) (fr_nil)))))))))))), rfl⟩ ?_
    exact VX.out rfl (Nat.le_of_ble_eq_true rfl) (Nat.le_of_ble_eq_true rfl) rfl
def k_X10_name : fK := (yX10_name, cX10_name, 4, (some .int), [], (8, 124), (0, 0), (1, 6))
theorem cal_X10_name : fCal k_X10_name 3 := ⟨⟨wc287, w6⟩, ⟨by decide +kernel, by decide +kernel⟩, by decide +kernel, by decide +kernel⟩
def s_X10_name (a1 : Int32) (a2 : Int32) (a3 : Int32) (State_cells : Nat → Int32) : Option ((Int32 ⊕ String)) := (s_X10_needName a1 a2 State_cells).bind fun v1 => fth v1 (fun v2 => (s_X10_needWhat a3 4).bind fun v3 => fth v3 (fun v4 => (s_X8_ofName a1 a2 a3 State_cells).bind fun v5 => some (.inl v5)) (fun E9 => some (.inr E9))) (fun E9 => some (.inr E9))
set_option maxHeartbeats 4000000 in
set_option maxRecDepth 100000 in
theorem ct_X10_name {a1 : Int32} {a2 : Int32} {a3 : Int32} {State_cells : Nat → Int32} {History_oldest : Int32} {History_size : Int32} {History_snapshotTaken : Int32} {History_saved : Nat → Int32} {History_snapshot : Nat → Int32} {Buffer_size : Int32} {Buffer_codes : Nat → Int32} {Reader_pattern : Nat} {Reader_place : Int32} {Word_size : Int32} {Word_letters : Nat → Int32} {res : (Int32 ⊕ String)} (hf : s_X10_name a1 a2 a3 State_cells = some res) : Ct k_X10_name [.ref 0, .int a1, .int a2, .int a3] [.inl (5, [.ref 1, .ref 3, .ref 6, .ref 8, .ref 9]), .inl (3, [.ref 2]), .inr (910, .inl State_cells), .inl (1, [.ref 4, .ref 5, .int History_oldest, .int History_size, .int History_snapshotTaken]), .inr (5460, .inl History_saved), .inr (910, .inl History_snapshot), .inl (0, [.ref 7, .int Buffer_size]), .inr (60, .inl Buffer_codes), .inl (2, [.ref (Reader_pattern + 1000), .int Reader_place]), .inl (4, [.ref 10, .int Word_size]), .inr (8, .inl Word_letters)] (foI res) [.inl (5, [.ref 1, .ref 3, .ref 6, .ref 8, .ref 9]), .inl (3, [.ref 2]), .inr (910, .inl State_cells), .inl (1, [.ref 4, .ref 5, .int History_oldest, .int History_size, .int History_snapshotTaken]), .inr (5460, .inl History_saved), .inr (910, .inl History_snapshot), .inl (0, [.ref 7, .int Buffer_size]), .inr (60, .inl Buffer_codes), .inl (2, [.ref (Reader_pattern + 1000), .int Reader_place]), .inl (4, [.ref 10, .int Word_size]), .inr (8, .inl Word_letters)] := by
  unfold s_X10_name at hf
  refine Ct.of (L := [some (.ref 0), some (.int a1), some (.int a2), some (.int a3)]) cal_X10_name (fent_pad (j := 0) rfl) (Nat.le_of_ble_eq_true rfl) ?_
  refine V.aload_n (i := 0) dX10_name_0 rfl rfl ?_
  refine V.iload_n (i := 1) dX10_name_1 rfl rfl ?_
  refine V.iload_n (i := 2) dX10_name_2 rfl rfl ?_
  obtain ⟨v1, hv1, hf⟩ := fbind hf
  have hc := ct_X10_needName (a1 := a1) (a2 := a2) (State_cells := State_cells) (History_oldest := History_oldest) (History_size := History_size) (History_snapshotTaken := History_snapshotTaken) (History_saved := History_saved) (History_snapshot := History_snapshot) (Buffer_size := Buffer_size) (Buffer_codes := Buffer_codes) (Reader_pattern := Reader_pattern) (Reader_place := Reader_place) (Word_size := Word_size) (Word_letters := Word_letters) hv1
  rcases hv1b : v1 with v2 | E9
  · rw [hv1b] at hc hf
    dsimp only [fth] at hf
    refine V.callVn (pl := [0, 1, 2, 3, 4, 5, 6, 7, 8, 9, 10]) (σ' := [.inl (5, [.ref 1, .ref 3, .ref 6, .ref 8, .ref 9]), .inl (3, [.ref 2]), .inr (910, .inl State_cells), .inl (1, [.ref 4, .ref 5, .int History_oldest, .int History_size, .int History_snapshotTaken]), .inr (5460, .inl History_saved), .inr (910, .inl History_snapshot), .inl (0, [.ref 7, .int Buffer_size]), .inr (60, .inl Buffer_codes), .inl (2, [.ref (Reader_pattern + 1000), .int Reader_place]), .inl (4, [.ref 10, .int Word_size]), .inr (8, .inl Word_letters)]) (st2 := []) (cl2 := 0) (sl2 := 0) hc dX10_name_3 w288 ⟨w290, w1⟩ cal_X10_needName rfl ⟨⟨Nat.le_of_ble_eq_true rfl, Nat.le_of_ble_eq_true rfl⟩, Nat.le_of_ble_eq_true rfl, Nat.le_of_ble_eq_true rfl⟩ (Nat.le_of_ble_eq_true rfl) ⟨_, _, _, _, rfl, rfl⟩ rfl ⟨rfl, ⟨by decide, by decide⟩, rfl, (fr_cons (Or.inl (Nat.le_of_ble_eq_true rfl)) (fr_cons (Or.inl (Nat.le_of_ble_eq_true rfl)) (fr_cons (Or.inl (Nat.le_of_ble_eq_true rfl)) (fr_cons (Or.inl (Nat.le_of_ble_eq_true rfl)) (fr_cons (Or.inl (Nat.le_of_ble_eq_true rfl)) (fr_cons (Or.inl (Nat.le_of_ble_eq_true rfl)) (fr_cons (Or.inl (Nat.le_of_ble_eq_true rfl)) (fr_cons (Or.inl (Nat.le_of_ble_eq_true rfl)) (fr_cons (Or.inl (Nat.le_of_ble_eq_true rfl)) (fr_cons (Or.inr (Nat.le_add_left 1000 _)) (fr_cons (Or.inl (Nat.le_of_ble_eq_true rfl)) (fr_nil)))))))))))), rfl⟩ fr_v rfl rfl rfl rfl ?_
    refine V.iload_n (i := 3) dX10_name_6 rfl rfl ?_
    refine V.iconst (v := 4) dX10_name_7 rfl ?_
    obtain ⟨v3, hv3, hf⟩ := fbind hf
    have hc := ct_X10_needWhat (a0 := a3) (a1 := 4) hv3
    rcases hv3b : v3 with v4 | E9
    · rw [hv3b] at hc hf
      dsimp only [fth] at hf
      refine V.callSn (pl := []) (σ' := [.inl (5, [.ref 1, .ref 3, .ref 6, .ref 8, .ref 9]), .inl (3, [.ref 2]), .inr (910, .inl State_cells), .inl (1, [.ref 4, .ref 5, .int History_oldest, .int History_size, .int History_snapshotTaken]), .inr (5460, .inl History_saved), .inr (910, .inl History_snapshot), .inl (0, [.ref 7, .int Buffer_size]), .inr (60, .inl Buffer_codes), .inl (2, [.ref (Reader_pattern + 1000), .int Reader_place]), .inl (4, [.ref 10, .int Word_size]), .inr (8, .inl Word_letters)]) (st2 := []) (cl2 := 0) (sl2 := 0) hc dX10_name_8 w248 w249 cal_X10_needWhat ⟨⟨Nat.le_of_ble_eq_true rfl, Nat.le_of_ble_eq_true rfl⟩, Nat.le_of_ble_eq_true rfl, Nat.le_of_ble_eq_true rfl⟩ (Nat.le_of_ble_eq_true rfl) rfl ⟨rfl, ⟨by decide, by decide⟩, rfl, (fr_nil), rfl⟩ fr_v rfl rfl rfl rfl ?_
      refine V.aload_n (i := 0) dX10_name_11 rfl rfl ?_
      refine V.getfield (kf := 0) (v := .ref 1) fl_RX10 dX10_name_12 w112 (Nat.le_of_ble_eq_true rfl) rfl rfl ?_
      refine V.iload_n (i := 1) dX10_name_15 rfl rfl ?_
      refine V.iload_n (i := 2) dX10_name_16 rfl rfl ?_
      refine V.iload_n (i := 3) dX10_name_17 rfl rfl ?_
      obtain ⟨v5, hv5, hf⟩ := fbind hf
      refine V.callSn (pl := [1, 2]) (σ' := [.inl (5, [.ref 1, .ref 3, .ref 6, .ref 8, .ref 9]), .inl (3, [.ref 2]), .inr (910, .inl State_cells), .inl (1, [.ref 4, .ref 5, .int History_oldest, .int History_size, .int History_snapshotTaken]), .inr (5460, .inl History_saved), .inr (910, .inl History_snapshot), .inl (0, [.ref 7, .int Buffer_size]), .inr (60, .inl Buffer_codes), .inl (2, [.ref (Reader_pattern + 1000), .int Reader_place]), .inl (4, [.ref 10, .int Word_size]), .inr (8, .inl Word_letters)]) (st2 := [.int v5]) (cl2 := 0) (sl2 := 0) (ct_X8_ofName (a1 := a1) (a2 := a2) (a3 := a3) (State_cells := State_cells) hv5) dX10_name_18 w297 w298 cal_X8_ofName ⟨⟨Nat.le_of_ble_eq_true rfl, Nat.le_of_ble_eq_true rfl⟩, Nat.le_of_ble_eq_true rfl, Nat.le_of_ble_eq_true rfl⟩ (Nat.le_of_ble_eq_true rfl) rfl ⟨rfl, ⟨by decide, by decide⟩, rfl, (fr_cons (Or.inl (Nat.le_of_ble_eq_true rfl)) (fr_nil)), rfl⟩ fr_i rfl rfl rfl rfl ?_
      obtain rfl := Option.some.inj hf
      exact V.iret dX10_name_21 rfl (Nat.le_of_ble_eq_true rfl) (Nat.le_of_ble_eq_true rfl) rfl
    · rw [hv3b] at hc hf
      dsimp only [fth] at hf
      obtain rfl := Option.some.inj hf
      refine V.callSx (pl := []) (σ' := [.inl (5, [.ref 1, .ref 3, .ref 6, .ref 8, .ref 9]), .inl (3, [.ref 2]), .inr (910, .inl State_cells), .inl (1, [.ref 4, .ref 5, .int History_oldest, .int History_size, .int History_snapshotTaken]), .inr (5460, .inl History_saved), .inr (910, .inl History_snapshot), .inl (0, [.ref 7, .int Buffer_size]), .inr (60, .inl Buffer_codes), .inl (2, [.ref (Reader_pattern + 1000), .int Reader_place]), .inl (4, [.ref 10, .int Word_size]), .inr (8, .inl Word_letters)]) hc dX10_name_8 w248 w249 cal_X10_needWhat ⟨⟨Nat.le_of_ble_eq_true rfl, Nat.le_of_ble_eq_true rfl⟩, Nat.le_of_ble_eq_true rfl, Nat.le_of_ble_eq_true rfl⟩ (Nat.le_of_ble_eq_true rfl) rfl ⟨rfl, ⟨by decide, by decide⟩, rfl, (fr_nil), rfl⟩ ?_
      exact VX.out rfl (Nat.le_of_ble_eq_true rfl) (Nat.le_of_ble_eq_true rfl) rfl
  · rw [hv1b] at hc hf
    dsimp only [fth] at hf
    obtain rfl := Option.some.inj hf
    refine V.callVx (pl := [0, 1, 2, 3, 4, 5, 6, 7, 8, 9, 10]) (σ' := [.inl (5, [.ref 1, .ref 3, .ref 6, .ref 8, .ref 9]), .inl (3, [.ref 2]), .inr (910, .inl State_cells), .inl (1, [.ref 4, .ref 5, .int History_oldest, .int History_size, .int History_snapshotTaken]), .inr (5460, .inl History_saved), .inr (910, .inl History_snapshot), .inl (0, [.ref 7, .int Buffer_size]), .inr (60, .inl Buffer_codes), .inl (2, [.ref (Reader_pattern + 1000), .int Reader_place]), .inl (4, [.ref 10, .int Word_size]), .inr (8, .inl Word_letters)]) hc dX10_name_3 w288 ⟨w290, w1⟩ cal_X10_needName rfl ⟨⟨Nat.le_of_ble_eq_true rfl, Nat.le_of_ble_eq_true rfl⟩, Nat.le_of_ble_eq_true rfl, Nat.le_of_ble_eq_true rfl⟩ (Nat.le_of_ble_eq_true rfl) ⟨_, _, _, _, rfl, rfl⟩ rfl ⟨rfl, ⟨by decide, by decide⟩, rfl, (fr_cons (Or.inl (Nat.le_of_ble_eq_true rfl)) (fr_cons (Or.inl (Nat.le_of_ble_eq_true rfl)) (fr_cons (Or.inl (Nat.le_of_ble_eq_true rfl)) (fr_cons (Or.inl (Nat.le_of_ble_eq_true rfl)) (fr_cons (Or.inl (Nat.le_of_ble_eq_true rfl)) (fr_cons (Or.inl (Nat.le_of_ble_eq_true rfl)) (fr_cons (Or.inl (Nat.le_of_ble_eq_true rfl)) (fr_cons (Or.inl (Nat.le_of_ble_eq_true rfl)) (fr_cons (Or.inl (Nat.le_of_ble_eq_true rfl)) (fr_cons (Or.inr (Nat.le_add_left 1000 _)) (fr_cons (Or.inl (Nat.le_of_ble_eq_true rfl)) (fr_nil)))))))))))), rfl⟩ ?_
    exact VX.out rfl (Nat.le_of_ble_eq_true rfl) (Nat.le_of_ble_eq_true rfl) rfl
def k_X10_fisher : fK := (yX10_fisher, cX10_fisher, 3, (some .int), [], (7, 103), (0, 0), (1, 6))
theorem cal_X10_fisher : fCal k_X10_fisher 2 := ⟨⟨wc177, w6⟩, ⟨by decide +kernel, by decide +kernel⟩, by decide +kernel, by decide +kernel⟩
def s_X10_fisher (a1 : Int32) (a2 : Int32) (State_cells : Nat → Int32) : Option ((Int32 ⊕ String)) := (s_X10_needFisher a1).bind fun v1 => fth v1 (fun v2 => (s_X10_needWhat a2 4).bind fun v3 => fth v3 (fun v4 => (s_X8_ofFisher a1 a2 State_cells).bind fun v5 => some (.inl v5)) (fun E9 => some (.inr E9))) (fun E9 => some (.inr E9))
set_option maxHeartbeats 4000000 in
set_option maxRecDepth 100000 in
theorem ct_X10_fisher {a1 : Int32} {a2 : Int32} {State_cells : Nat → Int32} {History_oldest : Int32} {History_size : Int32} {History_snapshotTaken : Int32} {History_saved : Nat → Int32} {History_snapshot : Nat → Int32} {Buffer_size : Int32} {Buffer_codes : Nat → Int32} {Reader_pattern : Nat} {Reader_place : Int32} {Word_size : Int32} {Word_letters : Nat → Int32} {res : (Int32 ⊕ String)} (hf : s_X10_fisher a1 a2 State_cells = some res) : Ct k_X10_fisher [.ref 0, .int a1, .int a2] [.inl (5, [.ref 1, .ref 3, .ref 6, .ref 8, .ref 9]), .inl (3, [.ref 2]), .inr (910, .inl State_cells), .inl (1, [.ref 4, .ref 5, .int History_oldest, .int History_size, .int History_snapshotTaken]), .inr (5460, .inl History_saved), .inr (910, .inl History_snapshot), .inl (0, [.ref 7, .int Buffer_size]), .inr (60, .inl Buffer_codes), .inl (2, [.ref (Reader_pattern + 1000), .int Reader_place]), .inl (4, [.ref 10, .int Word_size]), .inr (8, .inl Word_letters)] (foI res) [.inl (5, [.ref 1, .ref 3, .ref 6, .ref 8, .ref 9]), .inl (3, [.ref 2]), .inr (910, .inl State_cells), .inl (1, [.ref 4, .ref 5, .int History_oldest, .int History_size, .int History_snapshotTaken]), .inr (5460, .inl History_saved), .inr (910, .inl History_snapshot), .inl (0, [.ref 7, .int Buffer_size]), .inr (60, .inl Buffer_codes), .inl (2, [.ref (Reader_pattern + 1000), .int Reader_place]), .inl (4, [.ref 10, .int Word_size]), .inr (8, .inl Word_letters)] := by
  unfold s_X10_fisher at hf
  refine Ct.of (L := [some (.ref 0), some (.int a1), some (.int a2)]) cal_X10_fisher (fent_pad (j := 0) rfl) (Nat.le_of_ble_eq_true rfl) ?_
  refine V.iload_n (i := 1) dX10_fisher_0 rfl rfl ?_
  obtain ⟨v1, hv1, hf⟩ := fbind hf
  have hc := ct_X10_needFisher (a0 := a1) hv1
  rcases hv1b : v1 with v2 | E9
  · rw [hv1b] at hc hf
    dsimp only [fth] at hf
    refine V.callSn (pl := []) (σ' := [.inl (5, [.ref 1, .ref 3, .ref 6, .ref 8, .ref 9]), .inl (3, [.ref 2]), .inr (910, .inl State_cells), .inl (1, [.ref 4, .ref 5, .int History_oldest, .int History_size, .int History_snapshotTaken]), .inr (5460, .inl History_saved), .inr (910, .inl History_snapshot), .inl (0, [.ref 7, .int Buffer_size]), .inr (60, .inl Buffer_codes), .inl (2, [.ref (Reader_pattern + 1000), .int Reader_place]), .inl (4, [.ref 10, .int Word_size]), .inr (8, .inl Word_letters)]) (st2 := []) (cl2 := 0) (sl2 := 0) hc dX10_fisher_1 w178 w179 cal_X10_needFisher ⟨⟨Nat.le_of_ble_eq_true rfl, Nat.le_of_ble_eq_true rfl⟩, Nat.le_of_ble_eq_true rfl, Nat.le_of_ble_eq_true rfl⟩ (Nat.le_of_ble_eq_true rfl) rfl ⟨rfl, ⟨by decide, by decide⟩, rfl, (fr_nil), rfl⟩ fr_v rfl rfl rfl rfl ?_
    refine V.iload_n (i := 2) dX10_fisher_4 rfl rfl ?_
    refine V.iconst (v := 4) dX10_fisher_5 rfl ?_
    obtain ⟨v3, hv3, hf⟩ := fbind hf
    have hc := ct_X10_needWhat (a0 := a2) (a1 := 4) hv3
    rcases hv3b : v3 with v4 | E9
    · rw [hv3b] at hc hf
      dsimp only [fth] at hf
      refine V.callSn (pl := []) (σ' := [.inl (5, [.ref 1, .ref 3, .ref 6, .ref 8, .ref 9]), .inl (3, [.ref 2]), .inr (910, .inl State_cells), .inl (1, [.ref 4, .ref 5, .int History_oldest, .int History_size, .int History_snapshotTaken]), .inr (5460, .inl History_saved), .inr (910, .inl History_snapshot), .inl (0, [.ref 7, .int Buffer_size]), .inr (60, .inl Buffer_codes), .inl (2, [.ref (Reader_pattern + 1000), .int Reader_place]), .inl (4, [.ref 10, .int Word_size]), .inr (8, .inl Word_letters)]) (st2 := []) (cl2 := 0) (sl2 := 0) hc dX10_fisher_6 w248 w249 cal_X10_needWhat ⟨⟨Nat.le_of_ble_eq_true rfl, Nat.le_of_ble_eq_true rfl⟩, Nat.le_of_ble_eq_true rfl, Nat.le_of_ble_eq_true rfl⟩ (Nat.le_of_ble_eq_true rfl) rfl ⟨rfl, ⟨by decide, by decide⟩, rfl, (fr_nil), rfl⟩ fr_v rfl rfl rfl rfl ?_
      refine V.aload_n (i := 0) dX10_fisher_9 rfl rfl ?_
      refine V.getfield (kf := 0) (v := .ref 1) fl_RX10 dX10_fisher_10 w112 (Nat.le_of_ble_eq_true rfl) rfl rfl ?_
      refine V.iload_n (i := 1) dX10_fisher_13 rfl rfl ?_
      refine V.iload_n (i := 2) dX10_fisher_14 rfl rfl ?_
      obtain ⟨v5, hv5, hf⟩ := fbind hf
      refine V.callSn (pl := [1, 2]) (σ' := [.inl (5, [.ref 1, .ref 3, .ref 6, .ref 8, .ref 9]), .inl (3, [.ref 2]), .inr (910, .inl State_cells), .inl (1, [.ref 4, .ref 5, .int History_oldest, .int History_size, .int History_snapshotTaken]), .inr (5460, .inl History_saved), .inr (910, .inl History_snapshot), .inl (0, [.ref 7, .int Buffer_size]), .inr (60, .inl Buffer_codes), .inl (2, [.ref (Reader_pattern + 1000), .int Reader_place]), .inl (4, [.ref 10, .int Word_size]), .inr (8, .inl Word_letters)]) (st2 := [.int v5]) (cl2 := 0) (sl2 := 0) (ct_X8_ofFisher (a1 := a1) (a2 := a2) (State_cells := State_cells) hv5) dX10_fisher_15 w267 w268 cal_X8_ofFisher ⟨⟨Nat.le_of_ble_eq_true rfl, Nat.le_of_ble_eq_true rfl⟩, Nat.le_of_ble_eq_true rfl, Nat.le_of_ble_eq_true rfl⟩ (Nat.le_of_ble_eq_true rfl) rfl ⟨rfl, ⟨by decide, by decide⟩, rfl, (fr_cons (Or.inl (Nat.le_of_ble_eq_true rfl)) (fr_nil)), rfl⟩ fr_i rfl rfl rfl rfl ?_
      obtain rfl := Option.some.inj hf
      exact V.iret dX10_fisher_18 rfl (Nat.le_of_ble_eq_true rfl) (Nat.le_of_ble_eq_true rfl) rfl
    · rw [hv3b] at hc hf
      dsimp only [fth] at hf
      obtain rfl := Option.some.inj hf
      refine V.callSx (pl := []) (σ' := [.inl (5, [.ref 1, .ref 3, .ref 6, .ref 8, .ref 9]), .inl (3, [.ref 2]), .inr (910, .inl State_cells), .inl (1, [.ref 4, .ref 5, .int History_oldest, .int History_size, .int History_snapshotTaken]), .inr (5460, .inl History_saved), .inr (910, .inl History_snapshot), .inl (0, [.ref 7, .int Buffer_size]), .inr (60, .inl Buffer_codes), .inl (2, [.ref (Reader_pattern + 1000), .int Reader_place]), .inl (4, [.ref 10, .int Word_size]), .inr (8, .inl Word_letters)]) hc dX10_fisher_6 w248 w249 cal_X10_needWhat ⟨⟨Nat.le_of_ble_eq_true rfl, Nat.le_of_ble_eq_true rfl⟩, Nat.le_of_ble_eq_true rfl, Nat.le_of_ble_eq_true rfl⟩ (Nat.le_of_ble_eq_true rfl) rfl ⟨rfl, ⟨by decide, by decide⟩, rfl, (fr_nil), rfl⟩ ?_
      exact VX.out rfl (Nat.le_of_ble_eq_true rfl) (Nat.le_of_ble_eq_true rfl) rfl
  · rw [hv1b] at hc hf
    dsimp only [fth] at hf
    obtain rfl := Option.some.inj hf
    refine V.callSx (pl := []) (σ' := [.inl (5, [.ref 1, .ref 3, .ref 6, .ref 8, .ref 9]), .inl (3, [.ref 2]), .inr (910, .inl State_cells), .inl (1, [.ref 4, .ref 5, .int History_oldest, .int History_size, .int History_snapshotTaken]), .inr (5460, .inl History_saved), .inr (910, .inl History_snapshot), .inl (0, [.ref 7, .int Buffer_size]), .inr (60, .inl Buffer_codes), .inl (2, [.ref (Reader_pattern + 1000), .int Reader_place]), .inl (4, [.ref 10, .int Word_size]), .inr (8, .inl Word_letters)]) hc dX10_fisher_1 w178 w179 cal_X10_needFisher ⟨⟨Nat.le_of_ble_eq_true rfl, Nat.le_of_ble_eq_true rfl⟩, Nat.le_of_ble_eq_true rfl, Nat.le_of_ble_eq_true rfl⟩ (Nat.le_of_ble_eq_true rfl) rfl ⟨rfl, ⟨by decide, by decide⟩, rfl, (fr_nil), rfl⟩ ?_
    exact VX.out rfl (Nat.le_of_ble_eq_true rfl) (Nat.le_of_ble_eq_true rfl) rfl
def k_X10_drowned : fK := (yX10_drowned, cX10_drowned, 3, (some .int), [], (7, 103), (0, 0), (1, 6))
theorem cal_X10_drowned : fCal k_X10_drowned 2 := ⟨⟨wc439, w6⟩, ⟨by decide +kernel, by decide +kernel⟩, by decide +kernel, by decide +kernel⟩
def s_X10_drowned (a1 : Int32) (a2 : Int32) (State_cells : Nat → Int32) : Option ((Int32 ⊕ String)) := if (0 ≤ a1 : Prop) then ((s_X10_needWhat a2 3).bind fun v1 => fth v1 (fun v2 => (s_X6_ofEntry a1 a2 State_cells).bind fun v3 => some (.inl v3)) (fun E9 => some (.inr E9))) else (some (.inr "java/lang/IllegalArgumentException"))
set_option maxHeartbeats 4000000 in
set_option maxRecDepth 100000 in
theorem ct_X10_drowned {a1 : Int32} {a2 : Int32} {State_cells : Nat → Int32} {History_oldest : Int32} {History_size : Int32} {History_snapshotTaken : Int32} {History_saved : Nat → Int32} {History_snapshot : Nat → Int32} {Buffer_size : Int32} {Buffer_codes : Nat → Int32} {Reader_pattern : Nat} {Reader_place : Int32} {Word_size : Int32} {Word_letters : Nat → Int32} {res : (Int32 ⊕ String)} (hf : s_X10_drowned a1 a2 State_cells = some res) : Ct k_X10_drowned [.ref 0, .int a1, .int a2] [.inl (5, [.ref 1, .ref 3, .ref 6, .ref 8, .ref 9]), .inl (3, [.ref 2]), .inr (910, .inl State_cells), .inl (1, [.ref 4, .ref 5, .int History_oldest, .int History_size, .int History_snapshotTaken]), .inr (5460, .inl History_saved), .inr (910, .inl History_snapshot), .inl (0, [.ref 7, .int Buffer_size]), .inr (60, .inl Buffer_codes), .inl (2, [.ref (Reader_pattern + 1000), .int Reader_place]), .inl (4, [.ref 10, .int Word_size]), .inr (8, .inl Word_letters)] (foI res) [.inl (5, [.ref 1, .ref 3, .ref 6, .ref 8, .ref 9]), .inl (3, [.ref 2]), .inr (910, .inl State_cells), .inl (1, [.ref 4, .ref 5, .int History_oldest, .int History_size, .int History_snapshotTaken]), .inr (5460, .inl History_saved), .inr (910, .inl History_snapshot), .inl (0, [.ref 7, .int Buffer_size]), .inr (60, .inl Buffer_codes), .inl (2, [.ref (Reader_pattern + 1000), .int Reader_place]), .inl (4, [.ref 10, .int Word_size]), .inr (8, .inl Word_letters)] := by
  unfold s_X10_drowned at hf
  refine Ct.of (L := [some (.ref 0), some (.int a1), some (.int a2)]) cal_X10_drowned (fent_pad (j := 0) rfl) (Nat.le_of_ble_eq_true rfl) ?_
  refine V.iload_n (i := 1) dX10_drowned_0 rfl rfl ?_
  refine V.if_ge (tgt := 14) dX10_drowned_1 (by decide) (fun h => ?_) (fun h => ?_)
  · have hf := fif_t h hf
    refine V.iload_n (i := 2) dX10_drowned_14 rfl rfl ?_
    refine V.iconst (v := 3) dX10_drowned_15 rfl ?_
    obtain ⟨v1, hv1, hf⟩ := fbind hf
    have hc := ct_X10_needWhat (a0 := a2) (a1 := 3) hv1
    rcases hv1b : v1 with v2 | E9
    · rw [hv1b] at hc hf
      dsimp only [fth] at hf
      refine V.callSn (pl := []) (σ' := [.inl (5, [.ref 1, .ref 3, .ref 6, .ref 8, .ref 9]), .inl (3, [.ref 2]), .inr (910, .inl State_cells), .inl (1, [.ref 4, .ref 5, .int History_oldest, .int History_size, .int History_snapshotTaken]), .inr (5460, .inl History_saved), .inr (910, .inl History_snapshot), .inl (0, [.ref 7, .int Buffer_size]), .inr (60, .inl Buffer_codes), .inl (2, [.ref (Reader_pattern + 1000), .int Reader_place]), .inl (4, [.ref 10, .int Word_size]), .inr (8, .inl Word_letters)]) (st2 := []) (cl2 := 0) (sl2 := 0) hc dX10_drowned_16 w248 w249 cal_X10_needWhat ⟨⟨Nat.le_of_ble_eq_true rfl, Nat.le_of_ble_eq_true rfl⟩, Nat.le_of_ble_eq_true rfl, Nat.le_of_ble_eq_true rfl⟩ (Nat.le_of_ble_eq_true rfl) rfl ⟨rfl, ⟨by decide, by decide⟩, rfl, (fr_nil), rfl⟩ fr_v rfl rfl rfl rfl ?_
      refine V.aload_n (i := 0) dX10_drowned_19 rfl rfl ?_
      refine V.getfield (kf := 0) (v := .ref 1) fl_RX10 dX10_drowned_20 w112 (Nat.le_of_ble_eq_true rfl) rfl rfl ?_
      refine V.iload_n (i := 1) dX10_drowned_23 rfl rfl ?_
      refine V.iload_n (i := 2) dX10_drowned_24 rfl rfl ?_
      obtain ⟨v3, hv3, hf⟩ := fbind hf
      refine V.callSn (pl := [1, 2]) (σ' := [.inl (5, [.ref 1, .ref 3, .ref 6, .ref 8, .ref 9]), .inl (3, [.ref 2]), .inr (910, .inl State_cells), .inl (1, [.ref 4, .ref 5, .int History_oldest, .int History_size, .int History_snapshotTaken]), .inr (5460, .inl History_saved), .inr (910, .inl History_snapshot), .inl (0, [.ref 7, .int Buffer_size]), .inr (60, .inl Buffer_codes), .inl (2, [.ref (Reader_pattern + 1000), .int Reader_place]), .inl (4, [.ref 10, .int Word_size]), .inr (8, .inl Word_letters)]) (st2 := [.int v3]) (cl2 := 0) (sl2 := 0) (ct_X6_ofEntry (a1 := a1) (a2 := a2) (State_cells := State_cells) hv3) dX10_drowned_25 w441 w442 cal_X6_ofEntry ⟨⟨Nat.le_of_ble_eq_true rfl, Nat.le_of_ble_eq_true rfl⟩, Nat.le_of_ble_eq_true rfl, Nat.le_of_ble_eq_true rfl⟩ (Nat.le_of_ble_eq_true rfl) rfl ⟨rfl, ⟨by decide, by decide⟩, rfl, (fr_cons (Or.inl (Nat.le_of_ble_eq_true rfl)) (fr_nil)), rfl⟩ fr_i rfl rfl rfl rfl ?_
      obtain rfl := Option.some.inj hf
      exact V.iret dX10_drowned_28 rfl (Nat.le_of_ble_eq_true rfl) (Nat.le_of_ble_eq_true rfl) rfl
    · rw [hv1b] at hc hf
      dsimp only [fth] at hf
      obtain rfl := Option.some.inj hf
      refine V.callSx (pl := []) (σ' := [.inl (5, [.ref 1, .ref 3, .ref 6, .ref 8, .ref 9]), .inl (3, [.ref 2]), .inr (910, .inl State_cells), .inl (1, [.ref 4, .ref 5, .int History_oldest, .int History_size, .int History_snapshotTaken]), .inr (5460, .inl History_saved), .inr (910, .inl History_snapshot), .inl (0, [.ref 7, .int Buffer_size]), .inr (60, .inl Buffer_codes), .inl (2, [.ref (Reader_pattern + 1000), .int Reader_place]), .inl (4, [.ref 10, .int Word_size]), .inr (8, .inl Word_letters)]) hc dX10_drowned_16 w248 w249 cal_X10_needWhat ⟨⟨Nat.le_of_ble_eq_true rfl, Nat.le_of_ble_eq_true rfl⟩, Nat.le_of_ble_eq_true rfl, Nat.le_of_ble_eq_true rfl⟩ (Nat.le_of_ble_eq_true rfl) rfl ⟨rfl, ⟨by decide, by decide⟩, rfl, (fr_nil), rfl⟩ ?_
      exact VX.out rfl (Nat.le_of_ble_eq_true rfl) (Nat.le_of_ble_eq_true rfl) rfl
  · have hf := fif_f h hf
    obtain rfl := Option.some.inj hf
    exact V.throwS (i := 19) th_RX10_IllegalArgumentException_110 (List.mem_of_getElem? (i := 19) rfl) dX10_drowned_4 dX10_drowned_7 dX10_drowned_8 dX10_drowned_10 dX10_drowned_13 rfl (Nat.le_of_ble_eq_true rfl) (Nat.le_of_ble_eq_true rfl) ⟨Nat.le_of_ble_eq_true rfl, Nat.le_of_ble_eq_true rfl⟩ (Nat.le_of_ble_eq_true rfl) (Nat.le_of_ble_eq_true rfl) rfl
def k_X10_count : fK := (yX10_count, cX10_count, 2, (some .int), [], (7, 143), (0, 0), (1, 6))
theorem cal_X10_count : fCal k_X10_count 1 := ⟨⟨wc407, w6⟩, ⟨by decide +kernel, by decide +kernel⟩, by decide +kernel, by decide +kernel⟩
def s_X10_count (a1 : Int32) (State_cells : Nat → Int32) (History_size : Int32) : Option ((Int32 ⊕ String)) := (s_X10_needWhat a1 13).bind fun v1 => fth v1 (fun v2 => if (a1 = 13 : Prop) then ((s_X3_size History_size).bind fun v4 => some (.inl v4)) else ((s_X8_ofAll a1 State_cells).bind fun v3 => some (.inl v3))) (fun E9 => some (.inr E9))
set_option maxHeartbeats 4000000 in
set_option maxRecDepth 100000 in
theorem ct_X10_count {a1 : Int32} {State_cells : Nat → Int32} {History_oldest : Int32} {History_size : Int32} {History_snapshotTaken : Int32} {History_saved : Nat → Int32} {History_snapshot : Nat → Int32} {Buffer_size : Int32} {Buffer_codes : Nat → Int32} {Reader_pattern : Nat} {Reader_place : Int32} {Word_size : Int32} {Word_letters : Nat → Int32} {res : (Int32 ⊕ String)} (hf : s_X10_count a1 State_cells History_size = some res) : Ct k_X10_count [.ref 0, .int a1] [.inl (5, [.ref 1, .ref 3, .ref 6, .ref 8, .ref 9]), .inl (3, [.ref 2]), .inr (910, .inl State_cells), .inl (1, [.ref 4, .ref 5, .int History_oldest, .int History_size, .int History_snapshotTaken]), .inr (5460, .inl History_saved), .inr (910, .inl History_snapshot), .inl (0, [.ref 7, .int Buffer_size]), .inr (60, .inl Buffer_codes), .inl (2, [.ref (Reader_pattern + 1000), .int Reader_place]), .inl (4, [.ref 10, .int Word_size]), .inr (8, .inl Word_letters)] (foI res) [.inl (5, [.ref 1, .ref 3, .ref 6, .ref 8, .ref 9]), .inl (3, [.ref 2]), .inr (910, .inl State_cells), .inl (1, [.ref 4, .ref 5, .int History_oldest, .int History_size, .int History_snapshotTaken]), .inr (5460, .inl History_saved), .inr (910, .inl History_snapshot), .inl (0, [.ref 7, .int Buffer_size]), .inr (60, .inl Buffer_codes), .inl (2, [.ref (Reader_pattern + 1000), .int Reader_place]), .inl (4, [.ref 10, .int Word_size]), .inr (8, .inl Word_letters)] := by
  unfold s_X10_count at hf
  refine Ct.of (L := [some (.ref 0), some (.int a1)]) cal_X10_count (fent_pad (j := 0) rfl) (Nat.le_of_ble_eq_true rfl) ?_
  refine V.iload_n (i := 1) dX10_count_0 rfl rfl ?_
  refine V.bipush (v := 13) dX10_count_1 rfl ?_
  obtain ⟨v1, hv1, hf⟩ := fbind hf
  have hc := ct_X10_needWhat (a0 := a1) (a1 := 13) hv1
  rcases hv1b : v1 with v2 | E9
  · rw [hv1b] at hc hf
    dsimp only [fth] at hf
    refine V.callSn (pl := []) (σ' := [.inl (5, [.ref 1, .ref 3, .ref 6, .ref 8, .ref 9]), .inl (3, [.ref 2]), .inr (910, .inl State_cells), .inl (1, [.ref 4, .ref 5, .int History_oldest, .int History_size, .int History_snapshotTaken]), .inr (5460, .inl History_saved), .inr (910, .inl History_snapshot), .inl (0, [.ref 7, .int Buffer_size]), .inr (60, .inl Buffer_codes), .inl (2, [.ref (Reader_pattern + 1000), .int Reader_place]), .inl (4, [.ref 10, .int Word_size]), .inr (8, .inl Word_letters)]) (st2 := []) (cl2 := 0) (sl2 := 0) hc dX10_count_3 w248 w249 cal_X10_needWhat ⟨⟨Nat.le_of_ble_eq_true rfl, Nat.le_of_ble_eq_true rfl⟩, Nat.le_of_ble_eq_true rfl, Nat.le_of_ble_eq_true rfl⟩ (Nat.le_of_ble_eq_true rfl) rfl ⟨rfl, ⟨by decide, by decide⟩, rfl, (fr_nil), rfl⟩ fr_v rfl rfl rfl rfl ?_
    refine V.iload_n (i := 1) dX10_count_6 rfl rfl ?_
    refine V.bipush (v := 13) dX10_count_7 rfl ?_
    refine V.icmp_ne (tgt := 22) dX10_count_9 (by decide) (fun h => ?_) (fun h => ?_)
    · have hf := fif_f h hf
      refine V.aload_n (i := 0) dX10_count_22 rfl rfl ?_
      refine V.getfield (kf := 0) (v := .ref 1) fl_RX10 dX10_count_23 w112 (Nat.le_of_ble_eq_true rfl) rfl rfl ?_
      refine V.iload_n (i := 1) dX10_count_26 rfl rfl ?_
      obtain ⟨v3, hv3, hf⟩ := fbind hf
      refine V.callSn (pl := [1, 2]) (σ' := [.inl (5, [.ref 1, .ref 3, .ref 6, .ref 8, .ref 9]), .inl (3, [.ref 2]), .inr (910, .inl State_cells), .inl (1, [.ref 4, .ref 5, .int History_oldest, .int History_size, .int History_snapshotTaken]), .inr (5460, .inl History_saved), .inr (910, .inl History_snapshot), .inl (0, [.ref 7, .int Buffer_size]), .inr (60, .inl Buffer_codes), .inl (2, [.ref (Reader_pattern + 1000), .int Reader_place]), .inl (4, [.ref 10, .int Word_size]), .inr (8, .inl Word_letters)]) (st2 := [.int v3]) (cl2 := 0) (sl2 := 0) (ct_X8_ofAll (a1 := a1) (State_cells := State_cells) hv3) dX10_count_27 w412 w413 cal_X8_ofAll ⟨⟨Nat.le_of_ble_eq_true rfl, Nat.le_of_ble_eq_true rfl⟩, Nat.le_of_ble_eq_true rfl, Nat.le_of_ble_eq_true rfl⟩ (Nat.le_of_ble_eq_true rfl) rfl ⟨rfl, ⟨by decide, by decide⟩, rfl, (fr_cons (Or.inl (Nat.le_of_ble_eq_true rfl)) (fr_nil)), rfl⟩ fr_i rfl rfl rfl rfl ?_
      obtain rfl := Option.some.inj hf
      exact V.iret dX10_count_30 rfl (Nat.le_of_ble_eq_true rfl) (Nat.le_of_ble_eq_true rfl) rfl
    · have hf := fif_t h hf
      refine V.aload_n (i := 0) dX10_count_12 rfl rfl ?_
      refine V.getfield (kf := 1) (v := .ref 3) fl_RX10 dX10_count_13 w113 (Nat.le_of_ble_eq_true rfl) rfl rfl ?_
      obtain ⟨v4, hv4, hf⟩ := fbind hf
      refine V.callVn (pl := [3, 4, 5]) (σ' := [.inl (5, [.ref 1, .ref 3, .ref 6, .ref 8, .ref 9]), .inl (3, [.ref 2]), .inr (910, .inl State_cells), .inl (1, [.ref 4, .ref 5, .int History_oldest, .int History_size, .int History_snapshotTaken]), .inr (5460, .inl History_saved), .inr (910, .inl History_snapshot), .inl (0, [.ref 7, .int Buffer_size]), .inr (60, .inl Buffer_codes), .inl (2, [.ref (Reader_pattern + 1000), .int Reader_place]), .inl (4, [.ref 10, .int Word_size]), .inr (8, .inl Word_letters)]) (st2 := [.int v4]) (cl2 := 0) (sl2 := 0) (ct_X3_size (History_oldest := History_oldest) (History_size := History_size) (History_snapshotTaken := History_snapshotTaken) (History_saved := History_saved) (History_snapshot := History_snapshot) hv4) dX10_count_16 w408 ⟨w409, w410⟩ cal_X3_size rfl ⟨⟨Nat.le_of_ble_eq_true rfl, Nat.le_of_ble_eq_true rfl⟩, Nat.le_of_ble_eq_true rfl, Nat.le_of_ble_eq_true rfl⟩ (Nat.le_of_ble_eq_true rfl) ⟨_, _, _, _, rfl, rfl⟩ rfl ⟨rfl, ⟨by decide, by decide⟩, rfl, (fr_cons (Or.inl (Nat.le_of_ble_eq_true rfl)) (fr_cons (Or.inl (Nat.le_of_ble_eq_true rfl)) (fr_nil))), rfl⟩ fr_i rfl rfl rfl rfl ?_
      refine V.goto (tgt := 30) dX10_count_19 (by decide) ?_
      obtain rfl := Option.some.inj hf
      exact V.iret dX10_count_30 rfl (Nat.le_of_ble_eq_true rfl) (Nat.le_of_ble_eq_true rfl) rfl
  · rw [hv1b] at hc hf
    dsimp only [fth] at hf
    obtain rfl := Option.some.inj hf
    refine V.callSx (pl := []) (σ' := [.inl (5, [.ref 1, .ref 3, .ref 6, .ref 8, .ref 9]), .inl (3, [.ref 2]), .inr (910, .inl State_cells), .inl (1, [.ref 4, .ref 5, .int History_oldest, .int History_size, .int History_snapshotTaken]), .inr (5460, .inl History_saved), .inr (910, .inl History_snapshot), .inl (0, [.ref 7, .int Buffer_size]), .inr (60, .inl Buffer_codes), .inl (2, [.ref (Reader_pattern + 1000), .int Reader_place]), .inl (4, [.ref 10, .int Word_size]), .inr (8, .inl Word_letters)]) hc dX10_count_3 w248 w249 cal_X10_needWhat ⟨⟨Nat.le_of_ble_eq_true rfl, Nat.le_of_ble_eq_true rfl⟩, Nat.le_of_ble_eq_true rfl, Nat.le_of_ble_eq_true rfl⟩ (Nat.le_of_ble_eq_true rfl) rfl ⟨rfl, ⟨by decide, by decide⟩, rfl, (fr_nil), rfl⟩ ?_
    exact VX.out rfl (Nat.le_of_ble_eq_true rfl) (Nat.le_of_ble_eq_true rfl) rfl
def k_X10_whyNot : fK := (yX10_whyNot, cX10_whyNot, 2, (some .int), [], (7, 102), (0, 0), (1, 6))
theorem cal_X10_whyNot : fCal k_X10_whyNot 1 := ⟨⟨wc507, w6⟩, ⟨by decide +kernel, by decide +kernel⟩, by decide +kernel, by decide +kernel⟩
def s_X10_whyNot (a1 : Int32) (State_cells : Nat → Int32) (Buffer_size : Int32) (Buffer_codes : Nat → Int32) (Word_size : Int32) (Word_letters : Nat → Int32) : Option ((Int32 ⊕ String) × (Int32) × (Nat → Int32)) := (s_X10_needFisher a1).bind fun v1 => fth v1 (fun v2 => (s_X10_needWord Buffer_size Buffer_codes Word_size Word_letters).bind fun v3 => fth v3.1 (fun v4 => (s_X4_whyNotTied a1 State_cells v3.2.1 v3.2.2).bind fun v5 => some (.inl v5, v3.2.1, v3.2.2)) (fun E9 => some (.inr E9, v3.2.1, v3.2.2))) (fun E9 => some (.inr E9, Word_size, Word_letters))
set_option maxHeartbeats 4000000 in
set_option maxRecDepth 100000 in
theorem ct_X10_whyNot {a1 : Int32} {State_cells : Nat → Int32} {History_oldest : Int32} {History_size : Int32} {History_snapshotTaken : Int32} {History_saved : Nat → Int32} {History_snapshot : Nat → Int32} {Buffer_size : Int32} {Buffer_codes : Nat → Int32} {Reader_pattern : Nat} {Reader_place : Int32} {Word_size : Int32} {Word_letters : Nat → Int32} {res : (Int32 ⊕ String) × (Int32) × (Nat → Int32)} (hf : s_X10_whyNot a1 State_cells Buffer_size Buffer_codes Word_size Word_letters = some res) : Ct k_X10_whyNot [.ref 0, .int a1] [.inl (5, [.ref 1, .ref 3, .ref 6, .ref 8, .ref 9]), .inl (3, [.ref 2]), .inr (910, .inl State_cells), .inl (1, [.ref 4, .ref 5, .int History_oldest, .int History_size, .int History_snapshotTaken]), .inr (5460, .inl History_saved), .inr (910, .inl History_snapshot), .inl (0, [.ref 7, .int Buffer_size]), .inr (60, .inl Buffer_codes), .inl (2, [.ref (Reader_pattern + 1000), .int Reader_place]), .inl (4, [.ref 10, .int Word_size]), .inr (8, .inl Word_letters)] (foI res.1) [.inl (5, [.ref 1, .ref 3, .ref 6, .ref 8, .ref 9]), .inl (3, [.ref 2]), .inr (910, .inl State_cells), .inl (1, [.ref 4, .ref 5, .int History_oldest, .int History_size, .int History_snapshotTaken]), .inr (5460, .inl History_saved), .inr (910, .inl History_snapshot), .inl (0, [.ref 7, .int Buffer_size]), .inr (60, .inl Buffer_codes), .inl (2, [.ref (Reader_pattern + 1000), .int Reader_place]), .inl (4, [.ref 10, .int res.2.1]), .inr (8, .inl res.2.2)] := by
  unfold s_X10_whyNot at hf
  refine Ct.of (L := [some (.ref 0), some (.int a1)]) cal_X10_whyNot (fent_pad (j := 0) rfl) (Nat.le_of_ble_eq_true rfl) ?_
  refine V.iload_n (i := 1) dX10_whyNot_0 rfl rfl ?_
  obtain ⟨v1, hv1, hf⟩ := fbind hf
  have hc := ct_X10_needFisher (a0 := a1) hv1
  rcases hv1b : v1 with v2 | E9
  · rw [hv1b] at hc hf
    dsimp only [fth] at hf
    refine V.callSn (pl := []) (σ' := [.inl (5, [.ref 1, .ref 3, .ref 6, .ref 8, .ref 9]), .inl (3, [.ref 2]), .inr (910, .inl State_cells), .inl (1, [.ref 4, .ref 5, .int History_oldest, .int History_size, .int History_snapshotTaken]), .inr (5460, .inl History_saved), .inr (910, .inl History_snapshot), .inl (0, [.ref 7, .int Buffer_size]), .inr (60, .inl Buffer_codes), .inl (2, [.ref (Reader_pattern + 1000), .int Reader_place]), .inl (4, [.ref 10, .int Word_size]), .inr (8, .inl Word_letters)]) (st2 := []) (cl2 := 0) (sl2 := 0) hc dX10_whyNot_1 w178 w179 cal_X10_needFisher ⟨⟨Nat.le_of_ble_eq_true rfl, Nat.le_of_ble_eq_true rfl⟩, Nat.le_of_ble_eq_true rfl, Nat.le_of_ble_eq_true rfl⟩ (Nat.le_of_ble_eq_true rfl) rfl ⟨rfl, ⟨by decide, by decide⟩, rfl, (fr_nil), rfl⟩ fr_v rfl rfl rfl rfl ?_
    refine V.aload_n (i := 0) dX10_whyNot_4 rfl rfl ?_
    obtain ⟨v3, hv3, hf⟩ := fbind hf
    have hc := ct_X10_needWord (State_cells := State_cells) (History_oldest := History_oldest) (History_size := History_size) (History_snapshotTaken := History_snapshotTaken) (History_saved := History_saved) (History_snapshot := History_snapshot) (Buffer_size := Buffer_size) (Buffer_codes := Buffer_codes) (Reader_pattern := Reader_pattern) (Reader_place := Reader_place) (Word_size := Word_size) (Word_letters := Word_letters) hv3
    rcases hv3b : v3.1 with v4 | E9
    · rw [hv3b] at hc hf
      dsimp only [fth] at hf
      refine V.callVn (pl := [0, 1, 2, 3, 4, 5, 6, 7, 8, 9, 10]) (σ' := [.inl (5, [.ref 1, .ref 3, .ref 6, .ref 8, .ref 9]), .inl (3, [.ref 2]), .inr (910, .inl State_cells), .inl (1, [.ref 4, .ref 5, .int History_oldest, .int History_size, .int History_snapshotTaken]), .inr (5460, .inl History_saved), .inr (910, .inl History_snapshot), .inl (0, [.ref 7, .int Buffer_size]), .inr (60, .inl Buffer_codes), .inl (2, [.ref (Reader_pattern + 1000), .int Reader_place]), .inl (4, [.ref 10, .int v3.2.1]), .inr (8, .inl v3.2.2)]) (st2 := []) (cl2 := 0) (sl2 := 0) hc dX10_whyNot_5 w508 ⟨w510, w3⟩ cal_X10_needWord rfl ⟨⟨Nat.le_of_ble_eq_true rfl, Nat.le_of_ble_eq_true rfl⟩, Nat.le_of_ble_eq_true rfl, Nat.le_of_ble_eq_true rfl⟩ (Nat.le_of_ble_eq_true rfl) ⟨_, _, _, _, rfl, rfl⟩ rfl ⟨rfl, ⟨by decide, by decide⟩, rfl, (fr_cons (Or.inl (Nat.le_of_ble_eq_true rfl)) (fr_cons (Or.inl (Nat.le_of_ble_eq_true rfl)) (fr_cons (Or.inl (Nat.le_of_ble_eq_true rfl)) (fr_cons (Or.inl (Nat.le_of_ble_eq_true rfl)) (fr_cons (Or.inl (Nat.le_of_ble_eq_true rfl)) (fr_cons (Or.inl (Nat.le_of_ble_eq_true rfl)) (fr_cons (Or.inl (Nat.le_of_ble_eq_true rfl)) (fr_cons (Or.inl (Nat.le_of_ble_eq_true rfl)) (fr_cons (Or.inl (Nat.le_of_ble_eq_true rfl)) (fr_cons (Or.inr (Nat.le_add_left 1000 _)) (fr_cons (Or.inl (Nat.le_of_ble_eq_true rfl)) (fr_nil)))))))))))), rfl⟩ fr_v rfl rfl rfl rfl ?_
      refine V.aload_n (i := 0) dX10_whyNot_8 rfl rfl ?_
      refine V.getfield (kf := 0) (v := .ref 1) fl_RX10 dX10_whyNot_9 w112 (Nat.le_of_ble_eq_true rfl) rfl rfl ?_
      refine V.aload_n (i := 0) dX10_whyNot_12 rfl rfl ?_
      refine V.getfield (kf := 4) (v := .ref 9) fl_RX10 dX10_whyNot_13 w116 (Nat.le_of_ble_eq_true rfl) rfl rfl ?_
      refine V.iload_n (i := 1) dX10_whyNot_16 rfl rfl ?_
      obtain ⟨v5, hv5, hf⟩ := fbind hf
      refine V.callSn (pl := [1, 2, 9, 10]) (σ' := [.inl (5, [.ref 1, .ref 3, .ref 6, .ref 8, .ref 9]), .inl (3, [.ref 2]), .inr (910, .inl State_cells), .inl (1, [.ref 4, .ref 5, .int History_oldest, .int History_size, .int History_snapshotTaken]), .inr (5460, .inl History_saved), .inr (910, .inl History_snapshot), .inl (0, [.ref 7, .int Buffer_size]), .inr (60, .inl Buffer_codes), .inl (2, [.ref (Reader_pattern + 1000), .int Reader_place]), .inl (4, [.ref 10, .int v3.2.1]), .inr (8, .inl v3.2.2)]) (st2 := [.int v5]) (cl2 := 0) (sl2 := 0) (ct_X4_whyNotTied (a2 := a1) (State_cells := State_cells) (Word_size := v3.2.1) (Word_letters := v3.2.2) hv5) dX10_whyNot_17 w530 w371 cal_X4_whyNotTied ⟨⟨Nat.le_of_ble_eq_true rfl, Nat.le_of_ble_eq_true rfl⟩, Nat.le_of_ble_eq_true rfl, Nat.le_of_ble_eq_true rfl⟩ (Nat.le_of_ble_eq_true rfl) rfl ⟨rfl, ⟨by decide, by decide⟩, rfl, (fr_cons (Or.inl (Nat.le_of_ble_eq_true rfl)) (fr_cons (Or.inl (Nat.le_of_ble_eq_true rfl)) (fr_nil))), rfl⟩ fr_i rfl rfl rfl rfl ?_
      obtain rfl := Option.some.inj hf
      exact V.iret dX10_whyNot_20 rfl (Nat.le_of_ble_eq_true rfl) (Nat.le_of_ble_eq_true rfl) rfl
    · rw [hv3b] at hc hf
      dsimp only [fth] at hf
      obtain rfl := Option.some.inj hf
      refine V.callVx (pl := [0, 1, 2, 3, 4, 5, 6, 7, 8, 9, 10]) (σ' := [.inl (5, [.ref 1, .ref 3, .ref 6, .ref 8, .ref 9]), .inl (3, [.ref 2]), .inr (910, .inl State_cells), .inl (1, [.ref 4, .ref 5, .int History_oldest, .int History_size, .int History_snapshotTaken]), .inr (5460, .inl History_saved), .inr (910, .inl History_snapshot), .inl (0, [.ref 7, .int Buffer_size]), .inr (60, .inl Buffer_codes), .inl (2, [.ref (Reader_pattern + 1000), .int Reader_place]), .inl (4, [.ref 10, .int v3.2.1]), .inr (8, .inl v3.2.2)]) hc dX10_whyNot_5 w508 ⟨w510, w3⟩ cal_X10_needWord rfl ⟨⟨Nat.le_of_ble_eq_true rfl, Nat.le_of_ble_eq_true rfl⟩, Nat.le_of_ble_eq_true rfl, Nat.le_of_ble_eq_true rfl⟩ (Nat.le_of_ble_eq_true rfl) ⟨_, _, _, _, rfl, rfl⟩ rfl ⟨rfl, ⟨by decide, by decide⟩, rfl, (fr_cons (Or.inl (Nat.le_of_ble_eq_true rfl)) (fr_cons (Or.inl (Nat.le_of_ble_eq_true rfl)) (fr_cons (Or.inl (Nat.le_of_ble_eq_true rfl)) (fr_cons (Or.inl (Nat.le_of_ble_eq_true rfl)) (fr_cons (Or.inl (Nat.le_of_ble_eq_true rfl)) (fr_cons (Or.inl (Nat.le_of_ble_eq_true rfl)) (fr_cons (Or.inl (Nat.le_of_ble_eq_true rfl)) (fr_cons (Or.inl (Nat.le_of_ble_eq_true rfl)) (fr_cons (Or.inl (Nat.le_of_ble_eq_true rfl)) (fr_cons (Or.inr (Nat.le_add_left 1000 _)) (fr_cons (Or.inl (Nat.le_of_ble_eq_true rfl)) (fr_nil)))))))))))), rfl⟩ ?_
      exact VX.out rfl (Nat.le_of_ble_eq_true rfl) (Nat.le_of_ble_eq_true rfl) rfl
  · rw [hv1b] at hc hf
    dsimp only [fth] at hf
    obtain rfl := Option.some.inj hf
    refine V.callSx (pl := []) (σ' := [.inl (5, [.ref 1, .ref 3, .ref 6, .ref 8, .ref 9]), .inl (3, [.ref 2]), .inr (910, .inl State_cells), .inl (1, [.ref 4, .ref 5, .int History_oldest, .int History_size, .int History_snapshotTaken]), .inr (5460, .inl History_saved), .inr (910, .inl History_snapshot), .inl (0, [.ref 7, .int Buffer_size]), .inr (60, .inl Buffer_codes), .inl (2, [.ref (Reader_pattern + 1000), .int Reader_place]), .inl (4, [.ref 10, .int Word_size]), .inr (8, .inl Word_letters)]) hc dX10_whyNot_1 w178 w179 cal_X10_needFisher ⟨⟨Nat.le_of_ble_eq_true rfl, Nat.le_of_ble_eq_true rfl⟩, Nat.le_of_ble_eq_true rfl, Nat.le_of_ble_eq_true rfl⟩ (Nat.le_of_ble_eq_true rfl) rfl ⟨rfl, ⟨by decide, by decide⟩, rfl, (fr_nil), rfl⟩ ?_
    exact VX.out rfl (Nat.le_of_ble_eq_true rfl) (Nat.le_of_ble_eq_true rfl) rfl
def k_X10_noGift : fK := (yX10_noGift, cX10_noGift, 4, (some .int), [], (8, 124), (0, 0), (1, 6))
theorem cal_X10_noGift : fCal k_X10_noGift 3 := ⟨⟨wc356, w6⟩, ⟨by decide +kernel, by decide +kernel⟩, by decide +kernel, by decide +kernel⟩
def s_X10_noGift (a1 : Int32) (a2 : Int32) (a3 : Int32) (State_cells : Nat → Int32) (Word_size : Int32) (Word_letters : Nat → Int32) : Option ((Int32 ⊕ String) × (Int32) × (Nat → Int32)) := (s_X10_needName a1 a2 State_cells).bind fun v1 => fth v1 (fun v2 => (s_X10_needFisher a3).bind fun v3 => fth v3 (fun v4 => (s_X4_whyNotGiven a1 a2 a3 State_cells Word_size Word_letters).bind fun v5 => some (.inl v5.1, v5.2.1, v5.2.2)) (fun E9 => some (.inr E9, Word_size, Word_letters))) (fun E9 => some (.inr E9, Word_size, Word_letters))
set_option maxHeartbeats 4000000 in
set_option maxRecDepth 100000 in
theorem ct_X10_noGift {a1 : Int32} {a2 : Int32} {a3 : Int32} {State_cells : Nat → Int32} {History_oldest : Int32} {History_size : Int32} {History_snapshotTaken : Int32} {History_saved : Nat → Int32} {History_snapshot : Nat → Int32} {Buffer_size : Int32} {Buffer_codes : Nat → Int32} {Reader_pattern : Nat} {Reader_place : Int32} {Word_size : Int32} {Word_letters : Nat → Int32} {res : (Int32 ⊕ String) × (Int32) × (Nat → Int32)} (hf : s_X10_noGift a1 a2 a3 State_cells Word_size Word_letters = some res) : Ct k_X10_noGift [.ref 0, .int a1, .int a2, .int a3] [.inl (5, [.ref 1, .ref 3, .ref 6, .ref 8, .ref 9]), .inl (3, [.ref 2]), .inr (910, .inl State_cells), .inl (1, [.ref 4, .ref 5, .int History_oldest, .int History_size, .int History_snapshotTaken]), .inr (5460, .inl History_saved), .inr (910, .inl History_snapshot), .inl (0, [.ref 7, .int Buffer_size]), .inr (60, .inl Buffer_codes), .inl (2, [.ref (Reader_pattern + 1000), .int Reader_place]), .inl (4, [.ref 10, .int Word_size]), .inr (8, .inl Word_letters)] (foI res.1) [.inl (5, [.ref 1, .ref 3, .ref 6, .ref 8, .ref 9]), .inl (3, [.ref 2]), .inr (910, .inl State_cells), .inl (1, [.ref 4, .ref 5, .int History_oldest, .int History_size, .int History_snapshotTaken]), .inr (5460, .inl History_saved), .inr (910, .inl History_snapshot), .inl (0, [.ref 7, .int Buffer_size]), .inr (60, .inl Buffer_codes), .inl (2, [.ref (Reader_pattern + 1000), .int Reader_place]), .inl (4, [.ref 10, .int res.2.1]), .inr (8, .inl res.2.2)] := by
  unfold s_X10_noGift at hf
  refine Ct.of (L := [some (.ref 0), some (.int a1), some (.int a2), some (.int a3)]) cal_X10_noGift (fent_pad (j := 0) rfl) (Nat.le_of_ble_eq_true rfl) ?_
  refine V.aload_n (i := 0) dX10_noGift_0 rfl rfl ?_
  refine V.iload_n (i := 1) dX10_noGift_1 rfl rfl ?_
  refine V.iload_n (i := 2) dX10_noGift_2 rfl rfl ?_
  obtain ⟨v1, hv1, hf⟩ := fbind hf
  have hc := ct_X10_needName (a1 := a1) (a2 := a2) (State_cells := State_cells) (History_oldest := History_oldest) (History_size := History_size) (History_snapshotTaken := History_snapshotTaken) (History_saved := History_saved) (History_snapshot := History_snapshot) (Buffer_size := Buffer_size) (Buffer_codes := Buffer_codes) (Reader_pattern := Reader_pattern) (Reader_place := Reader_place) (Word_size := Word_size) (Word_letters := Word_letters) hv1
  rcases hv1b : v1 with v2 | E9
  · rw [hv1b] at hc hf
    dsimp only [fth] at hf
    refine V.callVn (pl := [0, 1, 2, 3, 4, 5, 6, 7, 8, 9, 10]) (σ' := [.inl (5, [.ref 1, .ref 3, .ref 6, .ref 8, .ref 9]), .inl (3, [.ref 2]), .inr (910, .inl State_cells), .inl (1, [.ref 4, .ref 5, .int History_oldest, .int History_size, .int History_snapshotTaken]), .inr (5460, .inl History_saved), .inr (910, .inl History_snapshot), .inl (0, [.ref 7, .int Buffer_size]), .inr (60, .inl Buffer_codes), .inl (2, [.ref (Reader_pattern + 1000), .int Reader_place]), .inl (4, [.ref 10, .int Word_size]), .inr (8, .inl Word_letters)]) (st2 := []) (cl2 := 0) (sl2 := 0) hc dX10_noGift_3 w288 ⟨w290, w1⟩ cal_X10_needName rfl ⟨⟨Nat.le_of_ble_eq_true rfl, Nat.le_of_ble_eq_true rfl⟩, Nat.le_of_ble_eq_true rfl, Nat.le_of_ble_eq_true rfl⟩ (Nat.le_of_ble_eq_true rfl) ⟨_, _, _, _, rfl, rfl⟩ rfl ⟨rfl, ⟨by decide, by decide⟩, rfl, (fr_cons (Or.inl (Nat.le_of_ble_eq_true rfl)) (fr_cons (Or.inl (Nat.le_of_ble_eq_true rfl)) (fr_cons (Or.inl (Nat.le_of_ble_eq_true rfl)) (fr_cons (Or.inl (Nat.le_of_ble_eq_true rfl)) (fr_cons (Or.inl (Nat.le_of_ble_eq_true rfl)) (fr_cons (Or.inl (Nat.le_of_ble_eq_true rfl)) (fr_cons (Or.inl (Nat.le_of_ble_eq_true rfl)) (fr_cons (Or.inl (Nat.le_of_ble_eq_true rfl)) (fr_cons (Or.inl (Nat.le_of_ble_eq_true rfl)) (fr_cons (Or.inr (Nat.le_add_left 1000 _)) (fr_cons (Or.inl (Nat.le_of_ble_eq_true rfl)) (fr_nil)))))))))))), rfl⟩ fr_v rfl rfl rfl rfl ?_
    refine V.iload_n (i := 3) dX10_noGift_6 rfl rfl ?_
    obtain ⟨v3, hv3, hf⟩ := fbind hf
    have hc := ct_X10_needFisher (a0 := a3) hv3
    rcases hv3b : v3 with v4 | E9
    · rw [hv3b] at hc hf
      dsimp only [fth] at hf
      refine V.callSn (pl := []) (σ' := [.inl (5, [.ref 1, .ref 3, .ref 6, .ref 8, .ref 9]), .inl (3, [.ref 2]), .inr (910, .inl State_cells), .inl (1, [.ref 4, .ref 5, .int History_oldest, .int History_size, .int History_snapshotTaken]), .inr (5460, .inl History_saved), .inr (910, .inl History_snapshot), .inl (0, [.ref 7, .int Buffer_size]), .inr (60, .inl Buffer_codes), .inl (2, [.ref (Reader_pattern + 1000), .int Reader_place]), .inl (4, [.ref 10, .int Word_size]), .inr (8, .inl Word_letters)]) (st2 := []) (cl2 := 0) (sl2 := 0) hc dX10_noGift_7 w178 w179 cal_X10_needFisher ⟨⟨Nat.le_of_ble_eq_true rfl, Nat.le_of_ble_eq_true rfl⟩, Nat.le_of_ble_eq_true rfl, Nat.le_of_ble_eq_true rfl⟩ (Nat.le_of_ble_eq_true rfl) rfl ⟨rfl, ⟨by decide, by decide⟩, rfl, (fr_nil), rfl⟩ fr_v rfl rfl rfl rfl ?_
      refine V.aload_n (i := 0) dX10_noGift_10 rfl rfl ?_
      refine V.getfield (kf := 0) (v := .ref 1) fl_RX10 dX10_noGift_11 w112 (Nat.le_of_ble_eq_true rfl) rfl rfl ?_
      refine V.aload_n (i := 0) dX10_noGift_14 rfl rfl ?_
      refine V.getfield (kf := 4) (v := .ref 9) fl_RX10 dX10_noGift_15 w116 (Nat.le_of_ble_eq_true rfl) rfl rfl ?_
      refine V.iload_n (i := 1) dX10_noGift_18 rfl rfl ?_
      refine V.iload_n (i := 2) dX10_noGift_19 rfl rfl ?_
      refine V.iload_n (i := 3) dX10_noGift_20 rfl rfl ?_
      obtain ⟨v5, hv5, hf⟩ := fbind hf
      refine V.callSn (pl := [1, 2, 9, 10]) (σ' := [.inl (5, [.ref 1, .ref 3, .ref 6, .ref 8, .ref 9]), .inl (3, [.ref 2]), .inr (910, .inl State_cells), .inl (1, [.ref 4, .ref 5, .int History_oldest, .int History_size, .int History_snapshotTaken]), .inr (5460, .inl History_saved), .inr (910, .inl History_snapshot), .inl (0, [.ref 7, .int Buffer_size]), .inr (60, .inl Buffer_codes), .inl (2, [.ref (Reader_pattern + 1000), .int Reader_place]), .inl (4, [.ref 10, .int v5.2.1]), .inr (8, .inl v5.2.2)]) (st2 := [.int v5.1]) (cl2 := 0) (sl2 := 0) (ct_X4_whyNotGiven (a2 := a1) (a3 := a2) (a4 := a3) (State_cells := State_cells) (Word_size := Word_size) (Word_letters := Word_letters) hv5) dX10_noGift_21 w357 w358 cal_X4_whyNotGiven ⟨⟨Nat.le_of_ble_eq_true rfl, Nat.le_of_ble_eq_true rfl⟩, Nat.le_of_ble_eq_true rfl, Nat.le_of_ble_eq_true rfl⟩ (Nat.le_of_ble_eq_true rfl) rfl ⟨rfl, ⟨by decide, by decide⟩, rfl, (fr_cons (Or.inl (Nat.le_of_ble_eq_true rfl)) (fr_cons (Or.inl (Nat.le_of_ble_eq_true rfl)) (fr_nil))), rfl⟩ fr_i rfl rfl rfl rfl ?_
      obtain rfl := Option.some.inj hf
      exact V.iret dX10_noGift_24 rfl (Nat.le_of_ble_eq_true rfl) (Nat.le_of_ble_eq_true rfl) rfl
    · rw [hv3b] at hc hf
      dsimp only [fth] at hf
      obtain rfl := Option.some.inj hf
      refine V.callSx (pl := []) (σ' := [.inl (5, [.ref 1, .ref 3, .ref 6, .ref 8, .ref 9]), .inl (3, [.ref 2]), .inr (910, .inl State_cells), .inl (1, [.ref 4, .ref 5, .int History_oldest, .int History_size, .int History_snapshotTaken]), .inr (5460, .inl History_saved), .inr (910, .inl History_snapshot), .inl (0, [.ref 7, .int Buffer_size]), .inr (60, .inl Buffer_codes), .inl (2, [.ref (Reader_pattern + 1000), .int Reader_place]), .inl (4, [.ref 10, .int Word_size]), .inr (8, .inl Word_letters)]) hc dX10_noGift_7 w178 w179 cal_X10_needFisher ⟨⟨Nat.le_of_ble_eq_true rfl, Nat.le_of_ble_eq_true rfl⟩, Nat.le_of_ble_eq_true rfl, Nat.le_of_ble_eq_true rfl⟩ (Nat.le_of_ble_eq_true rfl) rfl ⟨rfl, ⟨by decide, by decide⟩, rfl, (fr_nil), rfl⟩ ?_
      exact VX.out rfl (Nat.le_of_ble_eq_true rfl) (Nat.le_of_ble_eq_true rfl) rfl
  · rw [hv1b] at hc hf
    dsimp only [fth] at hf
    obtain rfl := Option.some.inj hf
    refine V.callVx (pl := [0, 1, 2, 3, 4, 5, 6, 7, 8, 9, 10]) (σ' := [.inl (5, [.ref 1, .ref 3, .ref 6, .ref 8, .ref 9]), .inl (3, [.ref 2]), .inr (910, .inl State_cells), .inl (1, [.ref 4, .ref 5, .int History_oldest, .int History_size, .int History_snapshotTaken]), .inr (5460, .inl History_saved), .inr (910, .inl History_snapshot), .inl (0, [.ref 7, .int Buffer_size]), .inr (60, .inl Buffer_codes), .inl (2, [.ref (Reader_pattern + 1000), .int Reader_place]), .inl (4, [.ref 10, .int Word_size]), .inr (8, .inl Word_letters)]) hc dX10_noGift_3 w288 ⟨w290, w1⟩ cal_X10_needName rfl ⟨⟨Nat.le_of_ble_eq_true rfl, Nat.le_of_ble_eq_true rfl⟩, Nat.le_of_ble_eq_true rfl, Nat.le_of_ble_eq_true rfl⟩ (Nat.le_of_ble_eq_true rfl) ⟨_, _, _, _, rfl, rfl⟩ rfl ⟨rfl, ⟨by decide, by decide⟩, rfl, (fr_cons (Or.inl (Nat.le_of_ble_eq_true rfl)) (fr_cons (Or.inl (Nat.le_of_ble_eq_true rfl)) (fr_cons (Or.inl (Nat.le_of_ble_eq_true rfl)) (fr_cons (Or.inl (Nat.le_of_ble_eq_true rfl)) (fr_cons (Or.inl (Nat.le_of_ble_eq_true rfl)) (fr_cons (Or.inl (Nat.le_of_ble_eq_true rfl)) (fr_cons (Or.inl (Nat.le_of_ble_eq_true rfl)) (fr_cons (Or.inl (Nat.le_of_ble_eq_true rfl)) (fr_cons (Or.inl (Nat.le_of_ble_eq_true rfl)) (fr_cons (Or.inr (Nat.le_add_left 1000 _)) (fr_cons (Or.inl (Nat.le_of_ble_eq_true rfl)) (fr_nil)))))))))))), rfl⟩ ?_
    exact VX.out rfl (Nat.le_of_ble_eq_true rfl) (Nat.le_of_ble_eq_true rfl) rfl
def k_X10_ifStorm : fK := (yX10_ifStorm, cX10_ifStorm, 3, (some .int), [], (7, 104), (0, 0), (1, 6))
theorem cal_X10_ifStorm : fCal k_X10_ifStorm 2 := ⟨⟨wc395, w6⟩, ⟨by decide +kernel, by decide +kernel⟩, by decide +kernel, by decide +kernel⟩
def s_X10_ifStorm (a1 : Int32) (a2 : Int32) (State_cells : Nat → Int32) : Option ((Int32 ⊕ String)) := (s_X10_needFisher a1).bind fun v1 => fth v1 (fun v2 => (s_X10_needWhat a2 1).bind fun v3 => fth v3 (fun v4 => (s_X6_ofNextStorm a1 a2 State_cells).bind fun v5 => some (.inl v5)) (fun E9 => some (.inr E9))) (fun E9 => some (.inr E9))
set_option maxHeartbeats 4000000 in
set_option maxRecDepth 100000 in
theorem ct_X10_ifStorm {a1 : Int32} {a2 : Int32} {State_cells : Nat → Int32} {History_oldest : Int32} {History_size : Int32} {History_snapshotTaken : Int32} {History_saved : Nat → Int32} {History_snapshot : Nat → Int32} {Buffer_size : Int32} {Buffer_codes : Nat → Int32} {Reader_pattern : Nat} {Reader_place : Int32} {Word_size : Int32} {Word_letters : Nat → Int32} {res : (Int32 ⊕ String)} (hf : s_X10_ifStorm a1 a2 State_cells = some res) : Ct k_X10_ifStorm [.ref 0, .int a1, .int a2] [.inl (5, [.ref 1, .ref 3, .ref 6, .ref 8, .ref 9]), .inl (3, [.ref 2]), .inr (910, .inl State_cells), .inl (1, [.ref 4, .ref 5, .int History_oldest, .int History_size, .int History_snapshotTaken]), .inr (5460, .inl History_saved), .inr (910, .inl History_snapshot), .inl (0, [.ref 7, .int Buffer_size]), .inr (60, .inl Buffer_codes), .inl (2, [.ref (Reader_pattern + 1000), .int Reader_place]), .inl (4, [.ref 10, .int Word_size]), .inr (8, .inl Word_letters)] (foI res) [.inl (5, [.ref 1, .ref 3, .ref 6, .ref 8, .ref 9]), .inl (3, [.ref 2]), .inr (910, .inl State_cells), .inl (1, [.ref 4, .ref 5, .int History_oldest, .int History_size, .int History_snapshotTaken]), .inr (5460, .inl History_saved), .inr (910, .inl History_snapshot), .inl (0, [.ref 7, .int Buffer_size]), .inr (60, .inl Buffer_codes), .inl (2, [.ref (Reader_pattern + 1000), .int Reader_place]), .inl (4, [.ref 10, .int Word_size]), .inr (8, .inl Word_letters)] := by
  unfold s_X10_ifStorm at hf
  refine Ct.of (L := [some (.ref 0), some (.int a1), some (.int a2)]) cal_X10_ifStorm (fent_pad (j := 0) rfl) (Nat.le_of_ble_eq_true rfl) ?_
  refine V.iload_n (i := 1) dX10_ifStorm_0 rfl rfl ?_
  obtain ⟨v1, hv1, hf⟩ := fbind hf
  have hc := ct_X10_needFisher (a0 := a1) hv1
  rcases hv1b : v1 with v2 | E9
  · rw [hv1b] at hc hf
    dsimp only [fth] at hf
    refine V.callSn (pl := []) (σ' := [.inl (5, [.ref 1, .ref 3, .ref 6, .ref 8, .ref 9]), .inl (3, [.ref 2]), .inr (910, .inl State_cells), .inl (1, [.ref 4, .ref 5, .int History_oldest, .int History_size, .int History_snapshotTaken]), .inr (5460, .inl History_saved), .inr (910, .inl History_snapshot), .inl (0, [.ref 7, .int Buffer_size]), .inr (60, .inl Buffer_codes), .inl (2, [.ref (Reader_pattern + 1000), .int Reader_place]), .inl (4, [.ref 10, .int Word_size]), .inr (8, .inl Word_letters)]) (st2 := []) (cl2 := 0) (sl2 := 0) hc dX10_ifStorm_1 w178 w179 cal_X10_needFisher ⟨⟨Nat.le_of_ble_eq_true rfl, Nat.le_of_ble_eq_true rfl⟩, Nat.le_of_ble_eq_true rfl, Nat.le_of_ble_eq_true rfl⟩ (Nat.le_of_ble_eq_true rfl) rfl ⟨rfl, ⟨by decide, by decide⟩, rfl, (fr_nil), rfl⟩ fr_v rfl rfl rfl rfl ?_
    refine V.iload_n (i := 2) dX10_ifStorm_4 rfl rfl ?_
    refine V.iconst (v := 1) dX10_ifStorm_5 rfl ?_
    obtain ⟨v3, hv3, hf⟩ := fbind hf
    have hc := ct_X10_needWhat (a0 := a2) (a1 := 1) hv3
    rcases hv3b : v3 with v4 | E9
    · rw [hv3b] at hc hf
      dsimp only [fth] at hf
      refine V.callSn (pl := []) (σ' := [.inl (5, [.ref 1, .ref 3, .ref 6, .ref 8, .ref 9]), .inl (3, [.ref 2]), .inr (910, .inl State_cells), .inl (1, [.ref 4, .ref 5, .int History_oldest, .int History_size, .int History_snapshotTaken]), .inr (5460, .inl History_saved), .inr (910, .inl History_snapshot), .inl (0, [.ref 7, .int Buffer_size]), .inr (60, .inl Buffer_codes), .inl (2, [.ref (Reader_pattern + 1000), .int Reader_place]), .inl (4, [.ref 10, .int Word_size]), .inr (8, .inl Word_letters)]) (st2 := []) (cl2 := 0) (sl2 := 0) hc dX10_ifStorm_6 w248 w249 cal_X10_needWhat ⟨⟨Nat.le_of_ble_eq_true rfl, Nat.le_of_ble_eq_true rfl⟩, Nat.le_of_ble_eq_true rfl, Nat.le_of_ble_eq_true rfl⟩ (Nat.le_of_ble_eq_true rfl) rfl ⟨rfl, ⟨by decide, by decide⟩, rfl, (fr_nil), rfl⟩ fr_v rfl rfl rfl rfl ?_
      refine V.aload_n (i := 0) dX10_ifStorm_9 rfl rfl ?_
      refine V.getfield (kf := 0) (v := .ref 1) fl_RX10 dX10_ifStorm_10 w112 (Nat.le_of_ble_eq_true rfl) rfl rfl ?_
      refine V.iload_n (i := 1) dX10_ifStorm_13 rfl rfl ?_
      refine V.iload_n (i := 2) dX10_ifStorm_14 rfl rfl ?_
      obtain ⟨v5, hv5, hf⟩ := fbind hf
      refine V.callSn (pl := [1, 2]) (σ' := [.inl (5, [.ref 1, .ref 3, .ref 6, .ref 8, .ref 9]), .inl (3, [.ref 2]), .inr (910, .inl State_cells), .inl (1, [.ref 4, .ref 5, .int History_oldest, .int History_size, .int History_snapshotTaken]), .inr (5460, .inl History_saved), .inr (910, .inl History_snapshot), .inl (0, [.ref 7, .int Buffer_size]), .inr (60, .inl Buffer_codes), .inl (2, [.ref (Reader_pattern + 1000), .int Reader_place]), .inl (4, [.ref 10, .int Word_size]), .inr (8, .inl Word_letters)]) (st2 := [.int v5]) (cl2 := 0) (sl2 := 0) (ct_X6_ofNextStorm (a1 := a1) (a2 := a2) (State_cells := State_cells) hv5) dX10_ifStorm_15 w396 w397 cal_X6_ofNextStorm ⟨⟨Nat.le_of_ble_eq_true rfl, Nat.le_of_ble_eq_true rfl⟩, Nat.le_of_ble_eq_true rfl, Nat.le_of_ble_eq_true rfl⟩ (Nat.le_of_ble_eq_true rfl) rfl ⟨rfl, ⟨by decide, by decide⟩, rfl, (fr_cons (Or.inl (Nat.le_of_ble_eq_true rfl)) (fr_nil)), rfl⟩ fr_i rfl rfl rfl rfl ?_
      obtain rfl := Option.some.inj hf
      exact V.iret dX10_ifStorm_18 rfl (Nat.le_of_ble_eq_true rfl) (Nat.le_of_ble_eq_true rfl) rfl
    · rw [hv3b] at hc hf
      dsimp only [fth] at hf
      obtain rfl := Option.some.inj hf
      refine V.callSx (pl := []) (σ' := [.inl (5, [.ref 1, .ref 3, .ref 6, .ref 8, .ref 9]), .inl (3, [.ref 2]), .inr (910, .inl State_cells), .inl (1, [.ref 4, .ref 5, .int History_oldest, .int History_size, .int History_snapshotTaken]), .inr (5460, .inl History_saved), .inr (910, .inl History_snapshot), .inl (0, [.ref 7, .int Buffer_size]), .inr (60, .inl Buffer_codes), .inl (2, [.ref (Reader_pattern + 1000), .int Reader_place]), .inl (4, [.ref 10, .int Word_size]), .inr (8, .inl Word_letters)]) hc dX10_ifStorm_6 w248 w249 cal_X10_needWhat ⟨⟨Nat.le_of_ble_eq_true rfl, Nat.le_of_ble_eq_true rfl⟩, Nat.le_of_ble_eq_true rfl, Nat.le_of_ble_eq_true rfl⟩ (Nat.le_of_ble_eq_true rfl) rfl ⟨rfl, ⟨by decide, by decide⟩, rfl, (fr_nil), rfl⟩ ?_
      exact VX.out rfl (Nat.le_of_ble_eq_true rfl) (Nat.le_of_ble_eq_true rfl) rfl
  · rw [hv1b] at hc hf
    dsimp only [fth] at hf
    obtain rfl := Option.some.inj hf
    refine V.callSx (pl := []) (σ' := [.inl (5, [.ref 1, .ref 3, .ref 6, .ref 8, .ref 9]), .inl (3, [.ref 2]), .inr (910, .inl State_cells), .inl (1, [.ref 4, .ref 5, .int History_oldest, .int History_size, .int History_snapshotTaken]), .inr (5460, .inl History_saved), .inr (910, .inl History_snapshot), .inl (0, [.ref 7, .int Buffer_size]), .inr (60, .inl Buffer_codes), .inl (2, [.ref (Reader_pattern + 1000), .int Reader_place]), .inl (4, [.ref 10, .int Word_size]), .inr (8, .inl Word_letters)]) hc dX10_ifStorm_1 w178 w179 cal_X10_needFisher ⟨⟨Nat.le_of_ble_eq_true rfl, Nat.le_of_ble_eq_true rfl⟩, Nat.le_of_ble_eq_true rfl, Nat.le_of_ble_eq_true rfl⟩ (Nat.le_of_ble_eq_true rfl) rfl ⟨rfl, ⟨by decide, by decide⟩, rfl, (fr_nil), rfl⟩ ?_
    exact VX.out rfl (Nat.le_of_ble_eq_true rfl) (Nat.le_of_ble_eq_true rfl) rfl
def k_X10_bestBelt : fK := (yX10_bestBelt, cX10_bestBelt, 4, (some .int), [], (7, 102), (0, 0), (1, 6))
theorem cal_X10_bestBelt : fCal k_X10_bestBelt 0 := ⟨⟨wc534, w6⟩, ⟨by decide +kernel, by decide +kernel⟩, by decide +kernel, by decide +kernel⟩
def s_X10_bestBelt_L8 (State_cells : Nat → Int32) (Word_size : Int32) (Word_letters : Nat → Int32) : Nat → Int32 → Int32 → Option (Int32 × Int32)
  | 0, _, _ => none
  | n + 1, x1, x2 => if (5 ≤ x2 : Prop) then (some (x1, x2)) else ((s_X4_whyNotTied x2 State_cells Word_size Word_letters).bind fun v3 => if (v3 = 0 : Prop) then (if (x1 = (-1) : Prop) then (s_X10_bestBelt_L8 State_cells Word_size Word_letters n x2 (x2 + 1)) else ((s_X7_left x2 State_cells).bind fun v4 => (s_X7_left x1 State_cells).bind fun v5 => if (v4 ≤ v5 : Prop) then (s_X10_bestBelt_L8 State_cells Word_size Word_letters n x1 (x2 + 1)) else (s_X10_bestBelt_L8 State_cells Word_size Word_letters n x2 (x2 + 1)))) else (s_X10_bestBelt_L8 State_cells Word_size Word_letters n x1 (x2 + 1)))
set_option maxHeartbeats 4000000 in
set_option maxRecDepth 100000 in
theorem v_X10_bestBelt_L8 {out : fO} {σ' : List fE} {State_cells : Nat → Int32} {History_oldest : Int32} {History_size : Int32} {History_snapshotTaken : Int32} {History_saved : Nat → Int32} {History_snapshot : Nat → Int32} {Buffer_size : Int32} {Buffer_codes : Nat → Int32} {Reader_pattern : Nat} {Reader_place : Int32} {Word_size : Int32} {Word_letters : Nat → Int32} : ∀ (n : Nat) {x1 : Int32} {x2 : Int32} {res : Int32 × Int32} (hf : s_X10_bestBelt_L8 State_cells Word_size Word_letters n x1 x2 = some res) (hx : V (fXm 11 k_X10_bestBelt out σ') (krm k_X10_bestBelt) k_X10_bestBelt 11 70 [some (.ref 0), some (.int res.1), some (.int res.2), none] [] [.inl (5, [.ref 1, .ref 3, .ref 6, .ref 8, .ref 9]), .inl (3, [.ref 2]), .inr (910, .inl State_cells), .inl (1, [.ref 4, .ref 5, .int History_oldest, .int History_size, .int History_snapshotTaken]), .inr (5460, .inl History_saved), .inr (910, .inl History_snapshot), .inl (0, [.ref 7, .int Buffer_size]), .inr (60, .inl Buffer_codes), .inl (2, [.ref (Reader_pattern + 1000), .int Reader_place]), .inl (4, [.ref 10, .int Word_size]), .inr (8, .inl Word_letters)] 0 0), V (fXm 11 k_X10_bestBelt out σ') (krm k_X10_bestBelt) k_X10_bestBelt 11 8 [some (.ref 0), some (.int x1), some (.int x2), none] [] [.inl (5, [.ref 1, .ref 3, .ref 6, .ref 8, .ref 9]), .inl (3, [.ref 2]), .inr (910, .inl State_cells), .inl (1, [.ref 4, .ref 5, .int History_oldest, .int History_size, .int History_snapshotTaken]), .inr (5460, .inl History_saved), .inr (910, .inl History_snapshot), .inl (0, [.ref 7, .int Buffer_size]), .inr (60, .inl Buffer_codes), .inl (2, [.ref (Reader_pattern + 1000), .int Reader_place]), .inl (4, [.ref 10, .int Word_size]), .inr (8, .inl Word_letters)] 0 0 := by
  intro n
  induction n with
  | zero =>
    intro x1 x2 res hf hx
    rw [s_X10_bestBelt_L8] at hf
    cases hf
  | succ n ih =>
    intro x1 x2 res hf hx
    rw [s_X10_bestBelt_L8] at hf
    refine V.iload_n (i := 2) dX10_bestBelt_8 rfl rfl ?_
    refine V.iconst (v := 5) dX10_bestBelt_9 rfl ?_
    refine V.icmp_ge (tgt := 70) dX10_bestBelt_10 (by decide) (fun h => ?_) (fun h => ?_)
    · have hf := fif_t h hf
      obtain rfl := Option.some.inj hf
      exact hx
    · have hf := fif_f h hf
      refine V.aload_n (i := 0) dX10_bestBelt_13 rfl rfl ?_
      refine V.getfield (kf := 0) (v := .ref 1) fl_RX10 dX10_bestBelt_14 w112 (Nat.le_of_ble_eq_true rfl) rfl rfl ?_
      refine V.aload_n (i := 0) dX10_bestBelt_17 rfl rfl ?_
      refine V.getfield (kf := 4) (v := .ref 9) fl_RX10 dX10_bestBelt_18 w116 (Nat.le_of_ble_eq_true rfl) rfl rfl ?_
      refine V.iload_n (i := 2) dX10_bestBelt_21 rfl rfl ?_
      obtain ⟨v3, hv3, hf⟩ := fbind hf
      refine V.callSn (pl := [1, 2, 9, 10]) (σ' := [.inl (5, [.ref 1, .ref 3, .ref 6, .ref 8, .ref 9]), .inl (3, [.ref 2]), .inr (910, .inl State_cells), .inl (1, [.ref 4, .ref 5, .int History_oldest, .int History_size, .int History_snapshotTaken]), .inr (5460, .inl History_saved), .inr (910, .inl History_snapshot), .inl (0, [.ref 7, .int Buffer_size]), .inr (60, .inl Buffer_codes), .inl (2, [.ref (Reader_pattern + 1000), .int Reader_place]), .inl (4, [.ref 10, .int Word_size]), .inr (8, .inl Word_letters)]) (st2 := [.int v3]) (cl2 := 0) (sl2 := 0) (ct_X4_whyNotTied (a2 := x2) (State_cells := State_cells) (Word_size := Word_size) (Word_letters := Word_letters) hv3) dX10_bestBelt_22 w530 w371 cal_X4_whyNotTied ⟨⟨Nat.le_of_ble_eq_true rfl, Nat.le_of_ble_eq_true rfl⟩, Nat.le_of_ble_eq_true rfl, Nat.le_of_ble_eq_true rfl⟩ (Nat.le_of_ble_eq_true rfl) rfl ⟨rfl, ⟨by decide, by decide⟩, rfl, (fr_cons (Or.inl (Nat.le_of_ble_eq_true rfl)) (fr_cons (Or.inl (Nat.le_of_ble_eq_true rfl)) (fr_nil))), rfl⟩ fr_i rfl rfl rfl rfl ?_
      refine V.if_ne (tgt := 32) dX10_bestBelt_25 (by decide) (fun h => ?_) (fun h => ?_)
      · have hf := fif_f h hf
        refine V.iconst (v := 0) dX10_bestBelt_32 rfl ?_
        refine V.istore_n (i := 3) (L' := [some (.ref 0), some (.int x1), some (.int x2), some (.int 0)]) dX10_bestBelt_33 rfl (Nat.le_of_ble_eq_true rfl) rfl rfl ?_
        refine V.iload_n (i := 3) dX10_bestBelt_34 rfl rfl ?_
        refine V.if_eq (tgt := 64) dX10_bestBelt_35 (by decide) (fun _ => ?_) (fun h => absurd h (by decide))
        refine V.iinc (i := 2) (v := (x2 + 1)) (L' := [some (.ref 0), some (.int x1), some (.int (x2 + 1)), some (.int 0)]) dX10_bestBelt_64 rfl rfl (Nat.le_of_ble_eq_true rfl) rfl rfl ?_
        refine V.goto (tgt := 8) dX10_bestBelt_67 (by decide) ?_
        exact V.locs (L' := [some (.ref 0), some (.int x1), some (.int (x2 + 1)), none]) ⟨rfl, ⟨rfl, ⟨rfl, trivial⟩⟩⟩ (ih hf hx)
      · have hf := fif_t h hf
        refine V.iconst (v := 1) dX10_bestBelt_28 rfl ?_
        refine V.goto (tgt := 33) dX10_bestBelt_29 (by decide) ?_
        refine V.istore_n (i := 3) (L' := [some (.ref 0), some (.int x1), some (.int x2), some (.int 1)]) dX10_bestBelt_33 rfl (Nat.le_of_ble_eq_true rfl) rfl rfl ?_
        refine V.iload_n (i := 3) dX10_bestBelt_34 rfl rfl ?_
        refine V.if_eq (tgt := 64) dX10_bestBelt_35 (by decide) (fun h => absurd h (by decide)) (fun _ => ?_)
        refine V.iload_n (i := 1) dX10_bestBelt_38 rfl rfl ?_
        refine V.iconst (v := (-1)) dX10_bestBelt_39 rfl ?_
        refine V.icmp_eq (tgt := 62) dX10_bestBelt_40 (by decide) (fun h => ?_) (fun h => ?_)
        · have hf := fif_t h hf
          refine V.iload_n (i := 2) dX10_bestBelt_62 rfl rfl ?_
          refine V.istore_n (i := 1) (L' := [some (.ref 0), some (.int x2), some (.int x2), some (.int 1)]) dX10_bestBelt_63 rfl (Nat.le_of_ble_eq_true rfl) rfl rfl ?_
          refine V.iinc (i := 2) (v := (x2 + 1)) (L' := [some (.ref 0), some (.int x2), some (.int (x2 + 1)), some (.int 1)]) dX10_bestBelt_64 rfl rfl (Nat.le_of_ble_eq_true rfl) rfl rfl ?_
          refine V.goto (tgt := 8) dX10_bestBelt_67 (by decide) ?_
          exact V.locs (L' := [some (.ref 0), some (.int x2), some (.int (x2 + 1)), none]) ⟨rfl, ⟨rfl, ⟨rfl, trivial⟩⟩⟩ (ih hf hx)
        · have hf := fif_f h hf
          refine V.aload_n (i := 0) dX10_bestBelt_43 rfl rfl ?_
          refine V.getfield (kf := 0) (v := .ref 1) fl_RX10 dX10_bestBelt_44 w112 (Nat.le_of_ble_eq_true rfl) rfl rfl ?_
          refine V.iload_n (i := 2) dX10_bestBelt_47 rfl rfl ?_
          obtain ⟨v4, hv4, hf⟩ := fbind hf
          refine V.callVn (pl := [1, 2]) (σ' := [.inl (5, [.ref 1, .ref 3, .ref 6, .ref 8, .ref 9]), .inl (3, [.ref 2]), .inr (910, .inl State_cells), .inl (1, [.ref 4, .ref 5, .int History_oldest, .int History_size, .int History_snapshotTaken]), .inr (5460, .inl History_saved), .inr (910, .inl History_snapshot), .inl (0, [.ref 7, .int Buffer_size]), .inr (60, .inl Buffer_codes), .inl (2, [.ref (Reader_pattern + 1000), .int Reader_place]), .inl (4, [.ref 10, .int Word_size]), .inr (8, .inl Word_letters)]) (st2 := [.int v4]) (cl2 := 0) (sl2 := 0) (ct_X7_left (a1 := x2) (State_cells := State_cells) hv4) dX10_bestBelt_48 w535 ⟨w272, w273⟩ cal_X7_left rfl ⟨⟨Nat.le_of_ble_eq_true rfl, Nat.le_of_ble_eq_true rfl⟩, Nat.le_of_ble_eq_true rfl, Nat.le_of_ble_eq_true rfl⟩ (Nat.le_of_ble_eq_true rfl) ⟨_, _, _, _, rfl, rfl⟩ rfl ⟨rfl, ⟨by decide, by decide⟩, rfl, (fr_cons (Or.inl (Nat.le_of_ble_eq_true rfl)) (fr_nil)), rfl⟩ fr_i rfl rfl rfl rfl ?_
          refine V.aload_n (i := 0) dX10_bestBelt_51 rfl rfl ?_
          refine V.getfield (kf := 0) (v := .ref 1) fl_RX10 dX10_bestBelt_52 w112 (Nat.le_of_ble_eq_true rfl) rfl rfl ?_
          refine V.iload_n (i := 1) dX10_bestBelt_55 rfl rfl ?_
          obtain ⟨v5, hv5, hf⟩ := fbind hf
          refine V.callVn (pl := [1, 2]) (σ' := [.inl (5, [.ref 1, .ref 3, .ref 6, .ref 8, .ref 9]), .inl (3, [.ref 2]), .inr (910, .inl State_cells), .inl (1, [.ref 4, .ref 5, .int History_oldest, .int History_size, .int History_snapshotTaken]), .inr (5460, .inl History_saved), .inr (910, .inl History_snapshot), .inl (0, [.ref 7, .int Buffer_size]), .inr (60, .inl Buffer_codes), .inl (2, [.ref (Reader_pattern + 1000), .int Reader_place]), .inl (4, [.ref 10, .int Word_size]), .inr (8, .inl Word_letters)]) (st2 := [.int v5, .int v4]) (cl2 := 0) (sl2 := 0) (ct_X7_left (a1 := x1) (State_cells := State_cells) hv5) dX10_bestBelt_56 w535 ⟨w272, w273⟩ cal_X7_left rfl ⟨⟨Nat.le_of_ble_eq_true rfl, Nat.le_of_ble_eq_true rfl⟩, Nat.le_of_ble_eq_true rfl, Nat.le_of_ble_eq_true rfl⟩ (Nat.le_of_ble_eq_true rfl) ⟨_, _, _, _, rfl, rfl⟩ rfl ⟨rfl, ⟨by decide, by decide⟩, rfl, (fr_cons (Or.inl (Nat.le_of_ble_eq_true rfl)) (fr_nil)), rfl⟩ fr_i rfl rfl rfl rfl ?_
          refine V.icmp_le (tgt := 64) dX10_bestBelt_59 (by decide) (fun h => ?_) (fun h => ?_)
          · have hf := fif_t h hf
            refine V.iinc (i := 2) (v := (x2 + 1)) (L' := [some (.ref 0), some (.int x1), some (.int (x2 + 1)), some (.int 1)]) dX10_bestBelt_64 rfl rfl (Nat.le_of_ble_eq_true rfl) rfl rfl ?_
            refine V.goto (tgt := 8) dX10_bestBelt_67 (by decide) ?_
            exact V.locs (L' := [some (.ref 0), some (.int x1), some (.int (x2 + 1)), none]) ⟨rfl, ⟨rfl, ⟨rfl, trivial⟩⟩⟩ (ih hf hx)
          · have hf := fif_f h hf
            refine V.iload_n (i := 2) dX10_bestBelt_62 rfl rfl ?_
            refine V.istore_n (i := 1) (L' := [some (.ref 0), some (.int x2), some (.int x2), some (.int 1)]) dX10_bestBelt_63 rfl (Nat.le_of_ble_eq_true rfl) rfl rfl ?_
            refine V.iinc (i := 2) (v := (x2 + 1)) (L' := [some (.ref 0), some (.int x2), some (.int (x2 + 1)), some (.int 1)]) dX10_bestBelt_64 rfl rfl (Nat.le_of_ble_eq_true rfl) rfl rfl ?_
            refine V.goto (tgt := 8) dX10_bestBelt_67 (by decide) ?_
            exact V.locs (L' := [some (.ref 0), some (.int x2), some (.int (x2 + 1)), none]) ⟨rfl, ⟨rfl, ⟨rfl, trivial⟩⟩⟩ (ih hf hx)
def s_X10_bestBelt (State_cells : Nat → Int32) (Buffer_size : Int32) (Buffer_codes : Nat → Int32) (Word_size : Int32) (Word_letters : Nat → Int32) : Option ((Int32 ⊕ String) × (Int32) × (Nat → Int32)) := (s_X10_needWord Buffer_size Buffer_codes Word_size Word_letters).bind fun v1 => fth v1.1 (fun v2 => (s_X10_bestBelt_L8 State_cells v1.2.1 v1.2.2 gF (-1) 0).bind fun r6 => some (.inl r6.1, v1.2.1, v1.2.2)) (fun E9 => some (.inr E9, v1.2.1, v1.2.2))
set_option maxHeartbeats 4000000 in
set_option maxRecDepth 100000 in
theorem ct_X10_bestBelt {State_cells : Nat → Int32} {History_oldest : Int32} {History_size : Int32} {History_snapshotTaken : Int32} {History_saved : Nat → Int32} {History_snapshot : Nat → Int32} {Buffer_size : Int32} {Buffer_codes : Nat → Int32} {Reader_pattern : Nat} {Reader_place : Int32} {Word_size : Int32} {Word_letters : Nat → Int32} {res : (Int32 ⊕ String) × (Int32) × (Nat → Int32)} (hf : s_X10_bestBelt State_cells Buffer_size Buffer_codes Word_size Word_letters = some res) : Ct k_X10_bestBelt [.ref 0] [.inl (5, [.ref 1, .ref 3, .ref 6, .ref 8, .ref 9]), .inl (3, [.ref 2]), .inr (910, .inl State_cells), .inl (1, [.ref 4, .ref 5, .int History_oldest, .int History_size, .int History_snapshotTaken]), .inr (5460, .inl History_saved), .inr (910, .inl History_snapshot), .inl (0, [.ref 7, .int Buffer_size]), .inr (60, .inl Buffer_codes), .inl (2, [.ref (Reader_pattern + 1000), .int Reader_place]), .inl (4, [.ref 10, .int Word_size]), .inr (8, .inl Word_letters)] (foI res.1) [.inl (5, [.ref 1, .ref 3, .ref 6, .ref 8, .ref 9]), .inl (3, [.ref 2]), .inr (910, .inl State_cells), .inl (1, [.ref 4, .ref 5, .int History_oldest, .int History_size, .int History_snapshotTaken]), .inr (5460, .inl History_saved), .inr (910, .inl History_snapshot), .inl (0, [.ref 7, .int Buffer_size]), .inr (60, .inl Buffer_codes), .inl (2, [.ref (Reader_pattern + 1000), .int Reader_place]), .inl (4, [.ref 10, .int res.2.1]), .inr (8, .inl res.2.2)] := by
  unfold s_X10_bestBelt at hf
  refine Ct.of (L := [some (.ref 0), none, none, none]) cal_X10_bestBelt (fent_pad (j := 3) rfl) (Nat.le_of_ble_eq_true rfl) ?_
  refine V.aload_n (i := 0) dX10_bestBelt_0 rfl rfl ?_
  obtain ⟨v1, hv1, hf⟩ := fbind hf
  have hc := ct_X10_needWord (State_cells := State_cells) (History_oldest := History_oldest) (History_size := History_size) (History_snapshotTaken := History_snapshotTaken) (History_saved := History_saved) (History_snapshot := History_snapshot) (Buffer_size := Buffer_size) (Buffer_codes := Buffer_codes) (Reader_pattern := Reader_pattern) (Reader_place := Reader_place) (Word_size := Word_size) (Word_letters := Word_letters) hv1
  rcases hv1b : v1.1 with v2 | E9
  · rw [hv1b] at hc hf
    dsimp only [fth] at hf
    refine V.callVn (pl := [0, 1, 2, 3, 4, 5, 6, 7, 8, 9, 10]) (σ' := [.inl (5, [.ref 1, .ref 3, .ref 6, .ref 8, .ref 9]), .inl (3, [.ref 2]), .inr (910, .inl State_cells), .inl (1, [.ref 4, .ref 5, .int History_oldest, .int History_size, .int History_snapshotTaken]), .inr (5460, .inl History_saved), .inr (910, .inl History_snapshot), .inl (0, [.ref 7, .int Buffer_size]), .inr (60, .inl Buffer_codes), .inl (2, [.ref (Reader_pattern + 1000), .int Reader_place]), .inl (4, [.ref 10, .int v1.2.1]), .inr (8, .inl v1.2.2)]) (st2 := []) (cl2 := 0) (sl2 := 0) hc dX10_bestBelt_1 w508 ⟨w510, w3⟩ cal_X10_needWord rfl ⟨⟨Nat.le_of_ble_eq_true rfl, Nat.le_of_ble_eq_true rfl⟩, Nat.le_of_ble_eq_true rfl, Nat.le_of_ble_eq_true rfl⟩ (Nat.le_of_ble_eq_true rfl) ⟨_, _, _, _, rfl, rfl⟩ rfl ⟨rfl, ⟨by decide, by decide⟩, rfl, (fr_cons (Or.inl (Nat.le_of_ble_eq_true rfl)) (fr_cons (Or.inl (Nat.le_of_ble_eq_true rfl)) (fr_cons (Or.inl (Nat.le_of_ble_eq_true rfl)) (fr_cons (Or.inl (Nat.le_of_ble_eq_true rfl)) (fr_cons (Or.inl (Nat.le_of_ble_eq_true rfl)) (fr_cons (Or.inl (Nat.le_of_ble_eq_true rfl)) (fr_cons (Or.inl (Nat.le_of_ble_eq_true rfl)) (fr_cons (Or.inl (Nat.le_of_ble_eq_true rfl)) (fr_cons (Or.inl (Nat.le_of_ble_eq_true rfl)) (fr_cons (Or.inr (Nat.le_add_left 1000 _)) (fr_cons (Or.inl (Nat.le_of_ble_eq_true rfl)) (fr_nil)))))))))))), rfl⟩ fr_v rfl rfl rfl rfl ?_
    refine V.iconst (v := (-1)) dX10_bestBelt_4 rfl ?_
    refine V.istore_n (i := 1) (L' := [some (.ref 0), some (.int (-1)), none, none]) dX10_bestBelt_5 rfl (Nat.le_of_ble_eq_true rfl) rfl rfl ?_
    refine V.iconst (v := 0) dX10_bestBelt_6 rfl ?_
    refine V.istore_n (i := 2) (L' := [some (.ref 0), some (.int (-1)), some (.int 0), none]) dX10_bestBelt_7 rfl (Nat.le_of_ble_eq_true rfl) rfl rfl ?_
    obtain ⟨r6, hr6, hf⟩ := fbind hf
    refine v_X10_bestBelt_L8 gF hr6 ?_
    refine V.iload_n (i := 1) dX10_bestBelt_70 rfl rfl ?_
    obtain rfl := Option.some.inj hf
    exact V.iret dX10_bestBelt_71 rfl (Nat.le_of_ble_eq_true rfl) (Nat.le_of_ble_eq_true rfl) rfl
  · rw [hv1b] at hc hf
    dsimp only [fth] at hf
    obtain rfl := Option.some.inj hf
    refine V.callVx (pl := [0, 1, 2, 3, 4, 5, 6, 7, 8, 9, 10]) (σ' := [.inl (5, [.ref 1, .ref 3, .ref 6, .ref 8, .ref 9]), .inl (3, [.ref 2]), .inr (910, .inl State_cells), .inl (1, [.ref 4, .ref 5, .int History_oldest, .int History_size, .int History_snapshotTaken]), .inr (5460, .inl History_saved), .inr (910, .inl History_snapshot), .inl (0, [.ref 7, .int Buffer_size]), .inr (60, .inl Buffer_codes), .inl (2, [.ref (Reader_pattern + 1000), .int Reader_place]), .inl (4, [.ref 10, .int v1.2.1]), .inr (8, .inl v1.2.2)]) hc dX10_bestBelt_1 w508 ⟨w510, w3⟩ cal_X10_needWord rfl ⟨⟨Nat.le_of_ble_eq_true rfl, Nat.le_of_ble_eq_true rfl⟩, Nat.le_of_ble_eq_true rfl, Nat.le_of_ble_eq_true rfl⟩ (Nat.le_of_ble_eq_true rfl) ⟨_, _, _, _, rfl, rfl⟩ rfl ⟨rfl, ⟨by decide, by decide⟩, rfl, (fr_cons (Or.inl (Nat.le_of_ble_eq_true rfl)) (fr_cons (Or.inl (Nat.le_of_ble_eq_true rfl)) (fr_cons (Or.inl (Nat.le_of_ble_eq_true rfl)) (fr_cons (Or.inl (Nat.le_of_ble_eq_true rfl)) (fr_cons (Or.inl (Nat.le_of_ble_eq_true rfl)) (fr_cons (Or.inl (Nat.le_of_ble_eq_true rfl)) (fr_cons (Or.inl (Nat.le_of_ble_eq_true rfl)) (fr_cons (Or.inl (Nat.le_of_ble_eq_true rfl)) (fr_cons (Or.inl (Nat.le_of_ble_eq_true rfl)) (fr_cons (Or.inr (Nat.le_add_left 1000 _)) (fr_cons (Or.inl (Nat.le_of_ble_eq_true rfl)) (fr_nil)))))))))))), rfl⟩ ?_
    exact VX.out rfl (Nat.le_of_ble_eq_true rfl) (Nat.le_of_ble_eq_true rfl) rfl
def k_X10_trueShare : fK := (yX10_trueShare, cX10_trueShare, 1, (some .double), [], (5, 121), (0, 0), (0, 0))
theorem cal_X10_trueShare : fCal k_X10_trueShare 0 := ⟨⟨wc131, w6⟩, ⟨by decide +kernel, by decide +kernel⟩, by decide +kernel, by decide +kernel⟩
def s_X10_trueShare (State_cells : Nat → Int32) : Option (UInt64) := (s_X8_shareThatReadsTrue State_cells).bind fun v1 => some v1
set_option maxHeartbeats 4000000 in
set_option maxRecDepth 100000 in
theorem ct_X10_trueShare {State_cells : Nat → Int32} {History_oldest : Int32} {History_size : Int32} {History_snapshotTaken : Int32} {History_saved : Nat → Int32} {History_snapshot : Nat → Int32} {Buffer_size : Int32} {Buffer_codes : Nat → Int32} {Reader_pattern : Nat} {Reader_place : Int32} {Word_size : Int32} {Word_letters : Nat → Int32} {res : UInt64} (hf : s_X10_trueShare State_cells = some res) : Ct k_X10_trueShare [.ref 0] [.inl (5, [.ref 1, .ref 3, .ref 6, .ref 8, .ref 9]), .inl (3, [.ref 2]), .inr (910, .inl State_cells), .inl (1, [.ref 4, .ref 5, .int History_oldest, .int History_size, .int History_snapshotTaken]), .inr (5460, .inl History_saved), .inr (910, .inl History_snapshot), .inl (0, [.ref 7, .int Buffer_size]), .inr (60, .inl Buffer_codes), .inl (2, [.ref (Reader_pattern + 1000), .int Reader_place]), .inl (4, [.ref 10, .int Word_size]), .inr (8, .inl Word_letters)] (.inl (some (.double res))) [.inl (5, [.ref 1, .ref 3, .ref 6, .ref 8, .ref 9]), .inl (3, [.ref 2]), .inr (910, .inl State_cells), .inl (1, [.ref 4, .ref 5, .int History_oldest, .int History_size, .int History_snapshotTaken]), .inr (5460, .inl History_saved), .inr (910, .inl History_snapshot), .inl (0, [.ref 7, .int Buffer_size]), .inr (60, .inl Buffer_codes), .inl (2, [.ref (Reader_pattern + 1000), .int Reader_place]), .inl (4, [.ref 10, .int Word_size]), .inr (8, .inl Word_letters)] := by
  unfold s_X10_trueShare at hf
  refine Ct.of (L := [some (.ref 0)]) cal_X10_trueShare (fent_pad (j := 0) rfl) (Nat.le_of_ble_eq_true rfl) ?_
  refine V.aload_n (i := 0) dX10_trueShare_0 rfl rfl ?_
  refine V.getfield (kf := 0) (v := .ref 1) fl_RX10 dX10_trueShare_1 w112 (Nat.le_of_ble_eq_true rfl) rfl rfl ?_
  obtain ⟨v1, hv1, hf⟩ := fbind hf
  refine V.callSn (pl := [1, 2]) (σ' := [.inl (5, [.ref 1, .ref 3, .ref 6, .ref 8, .ref 9]), .inl (3, [.ref 2]), .inr (910, .inl State_cells), .inl (1, [.ref 4, .ref 5, .int History_oldest, .int History_size, .int History_snapshotTaken]), .inr (5460, .inl History_saved), .inr (910, .inl History_snapshot), .inl (0, [.ref 7, .int Buffer_size]), .inr (60, .inl Buffer_codes), .inl (2, [.ref (Reader_pattern + 1000), .int Reader_place]), .inl (4, [.ref 10, .int Word_size]), .inr (8, .inl Word_letters)]) (st2 := [.double v1]) (cl2 := 0) (sl2 := 0) (ct_X8_shareThatReadsTrue (State_cells := State_cells) hv1) dX10_trueShare_4 w132 w133 cal_X8_shareThatReadsTrue ⟨⟨Nat.le_of_ble_eq_true rfl, Nat.le_of_ble_eq_true rfl⟩, Nat.le_of_ble_eq_true rfl, Nat.le_of_ble_eq_true rfl⟩ (Nat.le_of_ble_eq_true rfl) rfl ⟨rfl, ⟨by decide, by decide⟩, rfl, (fr_cons (Or.inl (Nat.le_of_ble_eq_true rfl)) (fr_nil)), rfl⟩ fr_d rfl rfl rfl rfl ?_
  obtain rfl := Option.some.inj hf
  exact V.dret dX10_trueShare_7 rfl (Nat.le_of_ble_eq_true rfl) (Nat.le_of_ble_eq_true rfl) rfl
