/-! laid by program: shallow functions and contracts -/
def k_X10_init : fK := (yX10_init, cX10_init, 1, none, [], (2, 43), (10, 7360), (0, 0))
theorem cal_X10_init : fCal k_X10_init 0 := ⟨⟨wc96, w67⟩, ⟨by decide +kernel, by decide +kernel⟩, by decide +kernel, by decide +kernel⟩
def s_X10_init : Option ((Nat → Int32) × (Int32) × (Int32) × (Int32) × (Nat → Int32) × (Nat → Int32) × (Int32) × (Nat → Int32) × (Nat) × (Int32) × (Int32) × (Nat → Int32)) := (s_X7_init).bind fun v1 => (s_X3_init).bind fun v2 => (s_X1_init).bind fun v3 => (s_X5_init).bind fun v4 => (s_X9_init).bind fun v5 => some (v1, v2.1, v2.2.1, v2.2.2.1, v2.2.2.2.1, v2.2.2.2.2, v3.1, v3.2, v4.1, v4.2, v5.1, v5.2)
set_option maxHeartbeats 4000000 in
set_option maxRecDepth 100000 in
theorem ct_X10_init {res : (Nat → Int32) × (Int32) × (Int32) × (Int32) × (Nat → Int32) × (Nat → Int32) × (Int32) × (Nat → Int32) × (Nat) × (Int32) × (Int32) × (Nat → Int32)} (hf : s_X10_init = some res) : Ct k_X10_init [.ref 0] [.inl (5, [.null, .null, .null, .null, .null])] (.inl none) [.inl (5, [.ref 1, .ref 3, .ref 6, .ref 8, .ref 9]), .inl (3, [.ref 2]), .inr (910, .inl res.1), .inl (1, [.ref 4, .ref 5, .int res.2.1, .int res.2.2.1, .int res.2.2.2.1]), .inr (5460, .inl res.2.2.2.2.1), .inr (910, .inl res.2.2.2.2.2.1), .inl (0, [.ref 7, .int res.2.2.2.2.2.2.1]), .inr (60, .inl res.2.2.2.2.2.2.2.1), .inl (2, [.ref (res.2.2.2.2.2.2.2.2.1 + 1000), .int res.2.2.2.2.2.2.2.2.2.1]), .inl (4, [.ref 10, .int res.2.2.2.2.2.2.2.2.2.2.1]), .inr (8, .inl res.2.2.2.2.2.2.2.2.2.2.2)] := by
  unfold s_X10_init at hf
  refine Ct.of (L := [some (.ref 0)]) cal_X10_init (fent_pad (j := 0) rfl) (Nat.le_of_ble_eq_true rfl) ?_
  refine V.aload_n (i := 0) dX10_init_0 rfl rfl ?_
  refine V.objInit dX10_init_1 w97 w98 w99 (Nat.le_of_ble_eq_true rfl) (Nat.le_of_ble_eq_true rfl) ?_
  refine V.aload_n (i := 0) dX10_init_4 rfl rfl ?_
  refine V.new (ci := 3) (fs := [.null]) fl_RX7 dX10_init_5 w100 w101 w68 (fun j hj => by rcases (show j = 0 by omega) with rfl <;> rfl) (fun _ => rfl) rfl (Nat.le_of_ble_eq_true rfl) (Nat.le_of_ble_eq_true rfl) ?_
  refine V.dup dX10_init_8 rfl ?_
  obtain ⟨v1, hv1, hf⟩ := fbind hf
  refine V.callI (pl := [1]) (σ' := [.inl (5, [.null, .null, .null, .null, .null]), .inl (3, [.ref 2]), .inr (910, .inl v1)]) (ct_X7_init hv1) dX10_init_9 (Or.inl w102) w103 rfl rfl cal_X7_init rfl ⟨⟨Nat.le_of_ble_eq_true rfl, Nat.le_of_ble_eq_true rfl⟩, Nat.le_of_ble_eq_true rfl, Nat.le_of_ble_eq_true rfl⟩ (Nat.le_of_ble_eq_true rfl) rfl ⟨rfl, ⟨by decide, by decide⟩, ⟨rfl, rfl⟩, ⟨Nat.le_of_ble_eq_true rfl, Nat.le_of_ble_eq_true rfl⟩, ⟨rfl, rfl⟩, rfl⟩ ?_
  refine V.putfinal (ty := tyX10) (kf := 0) (σ' := [.inl (5, [.ref 1, .null, .null, .null, .null]), .inl (3, [.ref 2]), .inr (910, .inl v1)]) fl_RX10 dX10_init_12 w181 (Nat.le_of_ble_eq_true rfl) rfl rfl rfl rfl (fun _ => ⟨rfl, rfl⟩) rfl (Nat.le_of_ble_eq_true rfl) rfl ?_
  refine V.aload_n (i := 0) dX10_init_15 rfl rfl ?_
  refine V.new (ci := 1) (fs := [.null, .null, .int 0, .int 0, .int 0]) fl_RX3 dX10_init_16 w118 w119 w69 (fun j hj => by rcases (show j = 0 ∨ j = 1 ∨ j = 2 ∨ j = 3 ∨ j = 4 by omega) with rfl | rfl | rfl | rfl | rfl <;> rfl) (fun _ => rfl) rfl (Nat.le_of_ble_eq_true rfl) (Nat.le_of_ble_eq_true rfl) ?_
  refine V.dup dX10_init_19 rfl ?_
  obtain ⟨v2, hv2, hf⟩ := fbind hf
  refine V.callI (pl := [3]) (σ' := [.inl (5, [.ref 1, .null, .null, .null, .null]), .inl (3, [.ref 2]), .inr (910, .inl v1), .inl (1, [.ref 4, .ref 5, .int v2.1, .int v2.2.1, .int v2.2.2.1]), .inr (5460, .inl v2.2.2.2.1), .inr (910, .inl v2.2.2.2.2)]) (ct_X3_init hv2) dX10_init_20 (Or.inr ⟨_, List.mem_of_getElem? (i := 0) rfl⟩) w121 rfl rfl cal_X3_init rfl ⟨⟨Nat.le_of_ble_eq_true rfl, Nat.le_of_ble_eq_true rfl⟩, Nat.le_of_ble_eq_true rfl, Nat.le_of_ble_eq_true rfl⟩ (Nat.le_of_ble_eq_true rfl) rfl ⟨rfl, ⟨by decide, by decide⟩, ⟨rfl, rfl⟩, ⟨Nat.le_of_ble_eq_true rfl, Nat.le_of_ble_eq_true rfl⟩, ⟨rfl, rfl⟩, rfl⟩ ?_
  refine V.putfinal (ty := tyX10) (kf := 1) (σ' := [.inl (5, [.ref 1, .ref 3, .null, .null, .null]), .inl (3, [.ref 2]), .inr (910, .inl v1), .inl (1, [.ref 4, .ref 5, .int v2.1, .int v2.2.1, .int v2.2.2.1]), .inr (5460, .inl v2.2.2.2.1), .inr (910, .inl v2.2.2.2.2)]) fl_RX10 dX10_init_23 w182 (Nat.le_of_ble_eq_true rfl) rfl rfl rfl rfl (fun _ => ⟨rfl, rfl⟩) rfl (Nat.le_of_ble_eq_true rfl) rfl ?_
  refine V.aload_n (i := 0) dX10_init_26 rfl rfl ?_
  refine V.new (ci := 0) (fs := [.null, .int 0]) fl_RX1 dX10_init_27 w140 w141 w70 (fun j hj => by rcases (show j = 0 ∨ j = 1 by omega) with rfl | rfl <;> rfl) (fun _ => rfl) rfl (Nat.le_of_ble_eq_true rfl) (Nat.le_of_ble_eq_true rfl) ?_
  refine V.dup dX10_init_30 rfl ?_
  obtain ⟨v3, hv3, hf⟩ := fbind hf
  refine V.callI (pl := [6]) (σ' := [.inl (5, [.ref 1, .ref 3, .null, .null, .null]), .inl (3, [.ref 2]), .inr (910, .inl v1), .inl (1, [.ref 4, .ref 5, .int v2.1, .int v2.2.1, .int v2.2.2.1]), .inr (5460, .inl v2.2.2.2.1), .inr (910, .inl v2.2.2.2.2), .inl (0, [.ref 7, .int v3.1]), .inr (60, .inl v3.2)]) (ct_X1_init hv3) dX10_init_31 (Or.inr ⟨_, List.mem_of_getElem? (i := 1) rfl⟩) w143 rfl rfl cal_X1_init rfl ⟨⟨Nat.le_of_ble_eq_true rfl, Nat.le_of_ble_eq_true rfl⟩, Nat.le_of_ble_eq_true rfl, Nat.le_of_ble_eq_true rfl⟩ (Nat.le_of_ble_eq_true rfl) rfl ⟨rfl, ⟨by decide, by decide⟩, ⟨rfl, rfl⟩, ⟨Nat.le_of_ble_eq_true rfl, Nat.le_of_ble_eq_true rfl⟩, ⟨rfl, rfl⟩, rfl⟩ ?_
  refine V.putfinal (ty := tyX10) (kf := 2) (σ' := [.inl (5, [.ref 1, .ref 3, .ref 6, .null, .null]), .inl (3, [.ref 2]), .inr (910, .inl v1), .inl (1, [.ref 4, .ref 5, .int v2.1, .int v2.2.1, .int v2.2.2.1]), .inr (5460, .inl v2.2.2.2.1), .inr (910, .inl v2.2.2.2.2), .inl (0, [.ref 7, .int v3.1]), .inr (60, .inl v3.2)]) fl_RX10 dX10_init_34 w183 (Nat.le_of_ble_eq_true rfl) rfl rfl rfl rfl (fun _ => ⟨rfl, rfl⟩) rfl (Nat.le_of_ble_eq_true rfl) rfl ?_
  refine V.aload_n (i := 0) dX10_init_37 rfl rfl ?_
  refine V.new (ci := 2) (fs := [.null, .int 0]) fl_RX5 dX10_init_38 w153 w154 w71 (fun j hj => by rcases (show j = 0 ∨ j = 1 by omega) with rfl | rfl <;> rfl) (fun _ => rfl) rfl (Nat.le_of_ble_eq_true rfl) (Nat.le_of_ble_eq_true rfl) ?_
  refine V.dup dX10_init_41 rfl ?_
  obtain ⟨v4, hv4, hf⟩ := fbind hf
  refine V.callI (pl := [8]) (σ' := [.inl (5, [.ref 1, .ref 3, .ref 6, .null, .null]), .inl (3, [.ref 2]), .inr (910, .inl v1), .inl (1, [.ref 4, .ref 5, .int v2.1, .int v2.2.1, .int v2.2.2.1]), .inr (5460, .inl v2.2.2.2.1), .inr (910, .inl v2.2.2.2.2), .inl (0, [.ref 7, .int v3.1]), .inr (60, .inl v3.2), .inl (2, [.ref (v4.1 + 1000), .int v4.2])]) (ct_X5_init hv4) dX10_init_42 (Or.inr ⟨_, List.mem_of_getElem? (i := 2) rfl⟩) w156 rfl rfl cal_X5_init rfl ⟨⟨Nat.le_of_ble_eq_true rfl, Nat.le_of_ble_eq_true rfl⟩, Nat.le_of_ble_eq_true rfl, Nat.le_of_ble_eq_true rfl⟩ (Nat.le_of_ble_eq_true rfl) rfl ⟨rfl, ⟨by decide, by decide⟩, ⟨rfl, rfl⟩, ⟨Nat.le_of_ble_eq_true rfl, Nat.le_of_ble_eq_true rfl⟩, ⟨rfl, rfl⟩, rfl⟩ ?_
  refine V.putfinal (ty := tyX10) (kf := 3) (σ' := [.inl (5, [.ref 1, .ref 3, .ref 6, .ref 8, .null]), .inl (3, [.ref 2]), .inr (910, .inl v1), .inl (1, [.ref 4, .ref 5, .int v2.1, .int v2.2.1, .int v2.2.2.1]), .inr (5460, .inl v2.2.2.2.1), .inr (910, .inl v2.2.2.2.2), .inl (0, [.ref 7, .int v3.1]), .inr (60, .inl v3.2), .inl (2, [.ref (v4.1 + 1000), .int v4.2])]) fl_RX10 dX10_init_45 w184 (Nat.le_of_ble_eq_true rfl) rfl rfl rfl rfl (fun _ => ⟨rfl, rfl⟩) rfl (Nat.le_of_ble_eq_true rfl) rfl ?_
  refine V.aload_n (i := 0) dX10_init_48 rfl rfl ?_
  refine V.new (ci := 4) (fs := [.null, .int 0]) fl_RX9 dX10_init_49 w168 w169 w72 (fun j hj => by rcases (show j = 0 ∨ j = 1 by omega) with rfl | rfl <;> rfl) (fun _ => rfl) rfl (Nat.le_of_ble_eq_true rfl) (Nat.le_of_ble_eq_true rfl) ?_
  refine V.dup dX10_init_52 rfl ?_
  obtain ⟨v5, hv5, hf⟩ := fbind hf
  refine V.callI (pl := [9]) (σ' := [.inl (5, [.ref 1, .ref 3, .ref 6, .ref 8, .null]), .inl (3, [.ref 2]), .inr (910, .inl v1), .inl (1, [.ref 4, .ref 5, .int v2.1, .int v2.2.1, .int v2.2.2.1]), .inr (5460, .inl v2.2.2.2.1), .inr (910, .inl v2.2.2.2.2), .inl (0, [.ref 7, .int v3.1]), .inr (60, .inl v3.2), .inl (2, [.ref (v4.1 + 1000), .int v4.2]), .inl (4, [.ref 10, .int v5.1]), .inr (8, .inl v5.2)]) (ct_X9_init hv5) dX10_init_53 (Or.inr ⟨_, List.mem_of_getElem? (i := 3) rfl⟩) w171 rfl rfl cal_X9_init rfl ⟨⟨Nat.le_of_ble_eq_true rfl, Nat.le_of_ble_eq_true rfl⟩, Nat.le_of_ble_eq_true rfl, Nat.le_of_ble_eq_true rfl⟩ (Nat.le_of_ble_eq_true rfl) rfl ⟨rfl, ⟨by decide, by decide⟩, ⟨rfl, rfl⟩, ⟨Nat.le_of_ble_eq_true rfl, Nat.le_of_ble_eq_true rfl⟩, ⟨rfl, rfl⟩, rfl⟩ ?_
  refine V.putfinal (ty := tyX10) (kf := 4) (σ' := [.inl (5, [.ref 1, .ref 3, .ref 6, .ref 8, .ref 9]), .inl (3, [.ref 2]), .inr (910, .inl v1), .inl (1, [.ref 4, .ref 5, .int v2.1, .int v2.2.1, .int v2.2.2.1]), .inr (5460, .inl v2.2.2.2.1), .inr (910, .inl v2.2.2.2.2), .inl (0, [.ref 7, .int v3.1]), .inr (60, .inl v3.2), .inl (2, [.ref (v4.1 + 1000), .int v4.2]), .inl (4, [.ref 10, .int v5.1]), .inr (8, .inl v5.2)]) fl_RX10 dX10_init_56 w185 (Nat.le_of_ble_eq_true rfl) rfl rfl rfl rfl (fun _ => ⟨rfl, rfl⟩) rfl (Nat.le_of_ble_eq_true rfl) rfl ?_
  obtain rfl := Option.some.inj hf
  exact V.vret dX10_init_59 rfl (Nat.le_of_ble_eq_true rfl) (Nat.le_of_ble_eq_true rfl) rfl
def k_X10_needFisher : fK := (yX10_needFisher, cX10_needFisher, 1, none, [], (6, 82), (0, 0), (1, 6))
theorem cal_X10_needFisher : fCal k_X10_needFisher 1 := ⟨⟨wc506, w67⟩, ⟨by decide +kernel, by decide +kernel⟩, by decide +kernel, by decide +kernel⟩
def s_X10_needFisher (a0 : Int32) : Option ((Unit ⊕ String)) := if (a0 < 0 : Prop) then (some (.inr "java/lang/IndexOutOfBoundsException")) else (if (a0 < 5 : Prop) then (some (.inl ())) else (some (.inr "java/lang/IndexOutOfBoundsException")))
set_option maxHeartbeats 4000000 in
set_option maxRecDepth 100000 in
theorem ct_X10_needFisher {a0 : Int32} {res : (Unit ⊕ String)} (hf : s_X10_needFisher a0 = some res) : Ct k_X10_needFisher [.int a0] [] (foV res) [] := by
  unfold s_X10_needFisher at hf
  refine Ct.of (L := [some (.int a0)]) cal_X10_needFisher (fent_pad (j := 0) rfl) (Nat.le_of_ble_eq_true rfl) ?_
  refine V.iload_n (i := 0) dX10_needFisher_0 rfl rfl ?_
  refine V.if_lt (tgt := 9) dX10_needFisher_1 (by decide) (fun h => ?_) (fun h => ?_)
  · have hf := fif_t h hf
    obtain rfl := Option.some.inj hf
    exact V.throwSW (i := 6) th_RX10_IndexOutOfBoundsException_131 (List.mem_of_getElem? (i := 6) rfl) dX10_needFisher_9 dX10_needFisher_12 dX10_needFisher_13 dX10_needFisher_16 dX10_needFisher_19 rfl (Nat.le_of_ble_eq_true rfl) (Nat.le_of_ble_eq_true rfl) ⟨Nat.le_of_ble_eq_true rfl, Nat.le_of_ble_eq_true rfl⟩ (Nat.le_of_ble_eq_true rfl) (Nat.le_of_ble_eq_true rfl) rfl
  · have hf := fif_f h hf
    refine V.iload_n (i := 0) dX10_needFisher_4 rfl rfl ?_
    refine V.iconst (v := 5) dX10_needFisher_5 rfl ?_
    refine V.icmp_lt (tgt := 20) dX10_needFisher_6 (by decide) (fun h => ?_) (fun h => ?_)
    · have hf := fif_t h hf
      obtain rfl := Option.some.inj hf
      exact V.vret dX10_needFisher_20 rfl (Nat.le_of_ble_eq_true rfl) (Nat.le_of_ble_eq_true rfl) rfl
    · have hf := fif_f h hf
      obtain rfl := Option.some.inj hf
      exact V.throwSW (i := 6) th_RX10_IndexOutOfBoundsException_131 (List.mem_of_getElem? (i := 6) rfl) dX10_needFisher_9 dX10_needFisher_12 dX10_needFisher_13 dX10_needFisher_16 dX10_needFisher_19 rfl (Nat.le_of_ble_eq_true rfl) (Nat.le_of_ble_eq_true rfl) ⟨Nat.le_of_ble_eq_true rfl, Nat.le_of_ble_eq_true rfl⟩ (Nat.le_of_ble_eq_true rfl) (Nat.le_of_ble_eq_true rfl) rfl
def k_X10_needWord : fK := (yX10_needWord, cX10_needWord, 1, none, [], (6, 82), (0, 0), (1, 6))
theorem cal_X10_needWord : fCal k_X10_needWord 0 := ⟨⟨wc577, w67⟩, ⟨by decide +kernel, by decide +kernel⟩, by decide +kernel, by decide +kernel⟩
def s_X10_needWord (Buffer_size : Int32) (Buffer_codes : Nat → Int32) (Word_size : Int32) (Word_letters : Nat → Int32) : Option ((Unit ⊕ String) × (Int32) × (Nat → Int32)) := (s_X1_spells Buffer_size Buffer_codes Word_size Word_letters).bind fun v1 => if (v1.1 = 0 : Prop) then (some (.inr "java/lang/IllegalArgumentException", v1.2.1, v1.2.2)) else (some (.inl (), v1.2.1, v1.2.2))
set_option maxHeartbeats 4000000 in
set_option maxRecDepth 100000 in
theorem ct_X10_needWord {State_cells : Nat → Int32} {History_oldest : Int32} {History_size : Int32} {History_snapshotTaken : Int32} {History_saved : Nat → Int32} {History_snapshot : Nat → Int32} {Buffer_size : Int32} {Buffer_codes : Nat → Int32} {Reader_pattern : Nat} {Reader_place : Int32} {Word_size : Int32} {Word_letters : Nat → Int32} {res : (Unit ⊕ String) × (Int32) × (Nat → Int32)} (hf : s_X10_needWord Buffer_size Buffer_codes Word_size Word_letters = some res) : Ct k_X10_needWord [.ref 0] [.inl (5, [.ref 1, .ref 3, .ref 6, .ref 8, .ref 9]), .inl (3, [.ref 2]), .inr (910, .inl State_cells), .inl (1, [.ref 4, .ref 5, .int History_oldest, .int History_size, .int History_snapshotTaken]), .inr (5460, .inl History_saved), .inr (910, .inl History_snapshot), .inl (0, [.ref 7, .int Buffer_size]), .inr (60, .inl Buffer_codes), .inl (2, [.ref (Reader_pattern + 1000), .int Reader_place]), .inl (4, [.ref 10, .int Word_size]), .inr (8, .inl Word_letters)] (foV res.1) [.inl (5, [.ref 1, .ref 3, .ref 6, .ref 8, .ref 9]), .inl (3, [.ref 2]), .inr (910, .inl State_cells), .inl (1, [.ref 4, .ref 5, .int History_oldest, .int History_size, .int History_snapshotTaken]), .inr (5460, .inl History_saved), .inr (910, .inl History_snapshot), .inl (0, [.ref 7, .int Buffer_size]), .inr (60, .inl Buffer_codes), .inl (2, [.ref (Reader_pattern + 1000), .int Reader_place]), .inl (4, [.ref 10, .int res.2.1]), .inr (8, .inl res.2.2)] := by
  unfold s_X10_needWord at hf
  refine Ct.of (L := [some (.ref 0)]) cal_X10_needWord (fent_pad (j := 0) rfl) (Nat.le_of_ble_eq_true rfl) ?_
  refine V.aload_n (i := 0) dX10_needWord_0 rfl rfl ?_
  refine V.getfield (kf := 2) (v := .ref 6) fl_RX10 dX10_needWord_1 w183 (Nat.le_of_ble_eq_true rfl) rfl rfl ?_
  refine V.aload_n (i := 0) dX10_needWord_4 rfl rfl ?_
  refine V.getfield (kf := 4) (v := .ref 9) fl_RX10 dX10_needWord_5 w185 (Nat.le_of_ble_eq_true rfl) rfl rfl ?_
  obtain ⟨v1, hv1, hf⟩ := fbind hf
  refine V.callVn (pl := [6, 7, 9, 10]) (σ' := [.inl (5, [.ref 1, .ref 3, .ref 6, .ref 8, .ref 9]), .inl (3, [.ref 2]), .inr (910, .inl State_cells), .inl (1, [.ref 4, .ref 5, .int History_oldest, .int History_size, .int History_snapshotTaken]), .inr (5460, .inl History_saved), .inr (910, .inl History_snapshot), .inl (0, [.ref 7, .int Buffer_size]), .inr (60, .inl Buffer_codes), .inl (2, [.ref (Reader_pattern + 1000), .int Reader_place]), .inl (4, [.ref 10, .int v1.2.1]), .inr (8, .inl v1.2.2)]) (st2 := [.int v1.1]) (cl2 := 0) (sl2 := 0) (ct_X1_spells (Buffer_size := Buffer_size) (Buffer_codes := Buffer_codes) (Word_size := Word_size) (Word_letters := Word_letters) hv1) dX10_needWord_8 w578 ⟨w579, w580⟩ cal_X1_spells rfl ⟨⟨Nat.le_of_ble_eq_true rfl, Nat.le_of_ble_eq_true rfl⟩, Nat.le_of_ble_eq_true rfl, Nat.le_of_ble_eq_true rfl⟩ (Nat.le_of_ble_eq_true rfl) (Or.inl ⟨_, _, _, _, rfl, rfl⟩) rfl ⟨rfl, ⟨by decide, by decide⟩, rfl, (fr_cons (Or.inl (Nat.le_of_ble_eq_true rfl)) (fr_cons (Or.inl (Nat.le_of_ble_eq_true rfl)) (fr_nil))), rfl⟩ fr_i rfl rfl rfl rfl ?_
  refine V.if_ne (tgt := 25) dX10_needWord_11 (by decide) (fun h => ?_) (fun h => ?_)
  · have hf := fif_f h hf
    obtain rfl := Option.some.inj hf
    exact V.vret dX10_needWord_25 rfl (Nat.le_of_ble_eq_true rfl) (Nat.le_of_ble_eq_true rfl) rfl
  · have hf := fif_t h hf
    obtain rfl := Option.some.inj hf
    exact V.throwSW (i := 7) th_RX10_IllegalArgumentException_110 (List.mem_of_getElem? (i := 7) rfl) dX10_needWord_14 dX10_needWord_17 dX10_needWord_18 dX10_needWord_21 dX10_needWord_24 rfl (Nat.le_of_ble_eq_true rfl) (Nat.le_of_ble_eq_true rfl) ⟨Nat.le_of_ble_eq_true rfl, Nat.le_of_ble_eq_true rfl⟩ (Nat.le_of_ble_eq_true rfl) (Nat.le_of_ble_eq_true rfl) rfl
def k_X10_tie : fK := (yX10_tie, cX10_tie, 2, (some .int), [], (7, 102), (0, 0), (1, 6))
theorem cal_X10_tie : fCal k_X10_tie 1 := ⟨⟨wc503, w67⟩, ⟨by decide +kernel, by decide +kernel⟩, by decide +kernel, by decide +kernel⟩
def s_X10_tie (a1 : Int32) (State_cells : Nat → Int32) (History_oldest : Int32) (History_size : Int32) (History_saved : Nat → Int32) (Buffer_size : Int32) (Buffer_codes : Nat → Int32) (Word_size : Int32) (Word_letters : Nat → Int32) : Option ((Int32 ⊕ String) × (Nat → Int32) × (Int32) × (Int32) × (Nat → Int32) × (Int32) × (Int32) × (Nat → Int32)) := (s_X10_needFisher a1).bind fun v1 => fth v1 (fun v2 => (s_X10_needWord Buffer_size Buffer_codes Word_size Word_letters).bind fun v3 => fth v3.1 (fun v4 => (s_X4_whyNotTied a1 State_cells v3.2.1 v3.2.2).bind fun v5 => if (v5 = 0 : Prop) then ((s_X3_push History_oldest History_size History_saved State_cells).bind fun v6 => (s_X1_empty Buffer_size).bind fun v7 => (s_X4_tieOn a1 State_cells v3.2.1 v3.2.2).bind fun v8 => some (.inl v8.1, v8.2, v6.1, v6.2.1, v6.2.2, v7.2, v3.2.1, v3.2.2)) else (some (.inr "java/lang/IllegalStateException", State_cells, History_oldest, History_size, History_saved, Buffer_size, v3.2.1, v3.2.2))) (fun E9 => some (.inr E9, State_cells, History_oldest, History_size, History_saved, Buffer_size, v3.2.1, v3.2.2))) (fun E9 => some (.inr E9, State_cells, History_oldest, History_size, History_saved, Buffer_size, Word_size, Word_letters))
set_option maxHeartbeats 4000000 in
set_option maxRecDepth 100000 in
theorem ct_X10_tie {a1 : Int32} {State_cells : Nat → Int32} {History_oldest : Int32} {History_size : Int32} {History_snapshotTaken : Int32} {History_saved : Nat → Int32} {History_snapshot : Nat → Int32} {Buffer_size : Int32} {Buffer_codes : Nat → Int32} {Reader_pattern : Nat} {Reader_place : Int32} {Word_size : Int32} {Word_letters : Nat → Int32} {res : (Int32 ⊕ String) × (Nat → Int32) × (Int32) × (Int32) × (Nat → Int32) × (Int32) × (Int32) × (Nat → Int32)} (hf : s_X10_tie a1 State_cells History_oldest History_size History_saved Buffer_size Buffer_codes Word_size Word_letters = some res) : Ct k_X10_tie [.ref 0, .int a1] [.inl (5, [.ref 1, .ref 3, .ref 6, .ref 8, .ref 9]), .inl (3, [.ref 2]), .inr (910, .inl State_cells), .inl (1, [.ref 4, .ref 5, .int History_oldest, .int History_size, .int History_snapshotTaken]), .inr (5460, .inl History_saved), .inr (910, .inl History_snapshot), .inl (0, [.ref 7, .int Buffer_size]), .inr (60, .inl Buffer_codes), .inl (2, [.ref (Reader_pattern + 1000), .int Reader_place]), .inl (4, [.ref 10, .int Word_size]), .inr (8, .inl Word_letters)] (foI res.1) [.inl (5, [.ref 1, .ref 3, .ref 6, .ref 8, .ref 9]), .inl (3, [.ref 2]), .inr (910, .inl res.2.1), .inl (1, [.ref 4, .ref 5, .int res.2.2.1, .int res.2.2.2.1, .int History_snapshotTaken]), .inr (5460, .inl res.2.2.2.2.1), .inr (910, .inl History_snapshot), .inl (0, [.ref 7, .int res.2.2.2.2.2.1]), .inr (60, .inl Buffer_codes), .inl (2, [.ref (Reader_pattern + 1000), .int Reader_place]), .inl (4, [.ref 10, .int res.2.2.2.2.2.2.1]), .inr (8, .inl res.2.2.2.2.2.2.2)] := by
  unfold s_X10_tie at hf
  refine Ct.of (L := [some (.ref 0), some (.int a1)]) cal_X10_tie (fent_pad (j := 0) rfl) (Nat.le_of_ble_eq_true rfl) ?_
  refine V.iload_n (i := 1) dX10_tie_0 rfl rfl ?_
  obtain ⟨v1, hv1, hf⟩ := fbind hf
  have hc := ct_X10_needFisher (a0 := a1) hv1
  rcases hv1b : v1 with v2 | E9
  · rw [hv1b] at hc hf
    dsimp only [fth] at hf
    refine V.callSn (pl := []) (σ' := [.inl (5, [.ref 1, .ref 3, .ref 6, .ref 8, .ref 9]), .inl (3, [.ref 2]), .inr (910, .inl State_cells), .inl (1, [.ref 4, .ref 5, .int History_oldest, .int History_size, .int History_snapshotTaken]), .inr (5460, .inl History_saved), .inr (910, .inl History_snapshot), .inl (0, [.ref 7, .int Buffer_size]), .inr (60, .inl Buffer_codes), .inl (2, [.ref (Reader_pattern + 1000), .int Reader_place]), .inl (4, [.ref 10, .int Word_size]), .inr (8, .inl Word_letters)]) (st2 := []) (cl2 := 0) (sl2 := 0) hc dX10_tie_1 w504 w505 cal_X10_needFisher ⟨⟨Nat.le_of_ble_eq_true rfl, Nat.le_of_ble_eq_true rfl⟩, Nat.le_of_ble_eq_true rfl, Nat.le_of_ble_eq_true rfl⟩ (Nat.le_of_ble_eq_true rfl) rfl ⟨rfl, ⟨by decide, by decide⟩, rfl, (fr_nil), rfl⟩ fr_v rfl rfl rfl rfl ?_
    refine V.aload_n (i := 0) dX10_tie_4 rfl rfl ?_
    obtain ⟨v3, hv3, hf⟩ := fbind hf
    have hc := ct_X10_needWord (State_cells := State_cells) (History_oldest := History_oldest) (History_size := History_size) (History_snapshotTaken := History_snapshotTaken) (History_saved := History_saved) (History_snapshot := History_snapshot) (Buffer_size := Buffer_size) (Buffer_codes := Buffer_codes) (Reader_pattern := Reader_pattern) (Reader_place := Reader_place) (Word_size := Word_size) (Word_letters := Word_letters) hv3
    rcases hv3b : v3.1 with v4 | E9
    · rw [hv3b] at hc hf
      dsimp only [fth] at hf
      refine V.callVn (pl := [0, 1, 2, 3, 4, 5, 6, 7, 8, 9, 10]) (σ' := [.inl (5, [.ref 1, .ref 3, .ref 6, .ref 8, .ref 9]), .inl (3, [.ref 2]), .inr (910, .inl State_cells), .inl (1, [.ref 4, .ref 5, .int History_oldest, .int History_size, .int History_snapshotTaken]), .inr (5460, .inl History_saved), .inr (910, .inl History_snapshot), .inl (0, [.ref 7, .int Buffer_size]), .inr (60, .inl Buffer_codes), .inl (2, [.ref (Reader_pattern + 1000), .int Reader_place]), .inl (4, [.ref 10, .int v3.2.1]), .inr (8, .inl v3.2.2)]) (st2 := []) (cl2 := 0) (sl2 := 0) hc dX10_tie_5 w574 ⟨w576, w3⟩ cal_X10_needWord rfl ⟨⟨Nat.le_of_ble_eq_true rfl, Nat.le_of_ble_eq_true rfl⟩, Nat.le_of_ble_eq_true rfl, Nat.le_of_ble_eq_true rfl⟩ (Nat.le_of_ble_eq_true rfl) (Or.inl ⟨_, _, _, _, rfl, rfl⟩) rfl ⟨rfl, ⟨by decide, by decide⟩, rfl, (fr_cons (Or.inl (Nat.le_of_ble_eq_true rfl)) (fr_cons (Or.inl (Nat.le_of_ble_eq_true rfl)) (fr_cons (Or.inl (Nat.le_of_ble_eq_true rfl)) (fr_cons (Or.inl (Nat.le_of_ble_eq_true rfl)) (fr_cons (Or.inl (Nat.le_of_ble_eq_true rfl)) (fr_cons (Or.inl (Nat.le_of_ble_eq_true rfl)) (fr_cons (Or.inl (Nat.le_of_ble_eq_true rfl)) (fr_cons (Or.inl (Nat.le_of_ble_eq_true rfl)) (fr_cons (Or.inl (Nat.le_of_ble_eq_true rfl)) (fr_cons (Or.inr (Nat.le_add_left 1000 _)) (fr_cons (Or.inl (Nat.le_of_ble_eq_true rfl)) (fr_nil)))))))))))), rfl⟩ fr_v rfl rfl rfl rfl ?_
      refine V.aload_n (i := 0) dX10_tie_8 rfl rfl ?_
      refine V.getfield (kf := 0) (v := .ref 1) fl_RX10 dX10_tie_9 w181 (Nat.le_of_ble_eq_true rfl) rfl rfl ?_
      refine V.aload_n (i := 0) dX10_tie_12 rfl rfl ?_
      refine V.getfield (kf := 4) (v := .ref 9) fl_RX10 dX10_tie_13 w185 (Nat.le_of_ble_eq_true rfl) rfl rfl ?_
      refine V.iload_n (i := 1) dX10_tie_16 rfl rfl ?_
      obtain ⟨v5, hv5, hf⟩ := fbind hf
      refine V.callSn (pl := [1, 2, 9, 10]) (σ' := [.inl (5, [.ref 1, .ref 3, .ref 6, .ref 8, .ref 9]), .inl (3, [.ref 2]), .inr (910, .inl State_cells), .inl (1, [.ref 4, .ref 5, .int History_oldest, .int History_size, .int History_snapshotTaken]), .inr (5460, .inl History_saved), .inr (910, .inl History_snapshot), .inl (0, [.ref 7, .int Buffer_size]), .inr (60, .inl Buffer_codes), .inl (2, [.ref (Reader_pattern + 1000), .int Reader_place]), .inl (4, [.ref 10, .int v3.2.1]), .inr (8, .inl v3.2.2)]) (st2 := [.int v5]) (cl2 := 0) (sl2 := 0) (ct_X4_whyNotTied (a2 := a1) (State_cells := State_cells) (Word_size := v3.2.1) (Word_letters := v3.2.2) hv5) dX10_tie_17 w612 w613 cal_X4_whyNotTied ⟨⟨Nat.le_of_ble_eq_true rfl, Nat.le_of_ble_eq_true rfl⟩, Nat.le_of_ble_eq_true rfl, Nat.le_of_ble_eq_true rfl⟩ (Nat.le_of_ble_eq_true rfl) rfl ⟨rfl, ⟨by decide, by decide⟩, rfl, (fr_cons (Or.inl (Nat.le_of_ble_eq_true rfl)) (fr_cons (Or.inl (Nat.le_of_ble_eq_true rfl)) (fr_nil))), rfl⟩ fr_i rfl rfl rfl rfl ?_
      refine V.if_eq (tgt := 33) dX10_tie_20 (by decide) (fun h => ?_) (fun h => ?_)
      · have hf := fif_t h hf
        refine V.aload_n (i := 0) dX10_tie_33 rfl rfl ?_
        refine V.getfield (kf := 1) (v := .ref 3) fl_RX10 dX10_tie_34 w182 (Nat.le_of_ble_eq_true rfl) rfl rfl ?_
        refine V.aload_n (i := 0) dX10_tie_37 rfl rfl ?_
        refine V.getfield (kf := 0) (v := .ref 1) fl_RX10 dX10_tie_38 w181 (Nat.le_of_ble_eq_true rfl) rfl rfl ?_
        obtain ⟨v6, hv6, hf⟩ := fbind hf
        refine V.callVn (pl := [3, 4, 5, 1, 2]) (σ' := [.inl (5, [.ref 1, .ref 3, .ref 6, .ref 8, .ref 9]), .inl (3, [.ref 2]), .inr (910, .inl State_cells), .inl (1, [.ref 4, .ref 5, .int v6.1, .int v6.2.1, .int History_snapshotTaken]), .inr (5460, .inl v6.2.2), .inr (910, .inl History_snapshot), .inl (0, [.ref 7, .int Buffer_size]), .inr (60, .inl Buffer_codes), .inl (2, [.ref (Reader_pattern + 1000), .int Reader_place]), .inl (4, [.ref 10, .int v3.2.1]), .inr (8, .inl v3.2.2)]) (st2 := []) (cl2 := 0) (sl2 := 0) (ct_X3_push (History_oldest := History_oldest) (History_size := History_size) (History_snapshotTaken := History_snapshotTaken) (History_saved := History_saved) (History_snapshot := History_snapshot) (State_cells := State_cells) hv6) dX10_tie_41 w652 ⟨w653, w654⟩ cal_X3_push rfl ⟨⟨Nat.le_of_ble_eq_true rfl, Nat.le_of_ble_eq_true rfl⟩, Nat.le_of_ble_eq_true rfl, Nat.le_of_ble_eq_true rfl⟩ (Nat.le_of_ble_eq_true rfl) (Or.inl ⟨_, _, _, _, rfl, rfl⟩) rfl ⟨rfl, ⟨by decide, by decide⟩, rfl, (fr_cons (Or.inl (Nat.le_of_ble_eq_true rfl)) (fr_cons (Or.inl (Nat.le_of_ble_eq_true rfl)) (fr_cons (Or.inl (Nat.le_of_ble_eq_true rfl)) (fr_nil)))), rfl⟩ fr_v rfl rfl rfl rfl ?_
        refine V.aload_n (i := 0) dX10_tie_44 rfl rfl ?_
        refine V.getfield (kf := 2) (v := .ref 6) fl_RX10 dX10_tie_45 w183 (Nat.le_of_ble_eq_true rfl) rfl rfl ?_
        obtain ⟨v7, hv7, hf⟩ := fbind hf
        refine V.callVn (pl := [6, 7]) (σ' := [.inl (5, [.ref 1, .ref 3, .ref 6, .ref 8, .ref 9]), .inl (3, [.ref 2]), .inr (910, .inl State_cells), .inl (1, [.ref 4, .ref 5, .int v6.1, .int v6.2.1, .int History_snapshotTaken]), .inr (5460, .inl v6.2.2), .inr (910, .inl History_snapshot), .inl (0, [.ref 7, .int v7.2]), .inr (60, .inl Buffer_codes), .inl (2, [.ref (Reader_pattern + 1000), .int Reader_place]), .inl (4, [.ref 10, .int v3.2.1]), .inr (8, .inl v3.2.2)]) (st2 := [.int v7.1]) (cl2 := 0) (sl2 := 0) (ct_X1_empty (Buffer_size := Buffer_size) (Buffer_codes := Buffer_codes) hv7) dX10_tie_48 w201 ⟨w202, w203⟩ cal_X1_empty rfl ⟨⟨Nat.le_of_ble_eq_true rfl, Nat.le_of_ble_eq_true rfl⟩, Nat.le_of_ble_eq_true rfl, Nat.le_of_ble_eq_true rfl⟩ (Nat.le_of_ble_eq_true rfl) (Or.inl ⟨_, _, _, _, rfl, rfl⟩) rfl ⟨rfl, ⟨by decide, by decide⟩, rfl, (fr_cons (Or.inl (Nat.le_of_ble_eq_true rfl)) (fr_nil)), rfl⟩ fr_i rfl rfl rfl rfl ?_
        refine V.pop dX10_tie_51 rfl ?_
        refine V.aload_n (i := 0) dX10_tie_52 rfl rfl ?_
        refine V.getfield (kf := 0) (v := .ref 1) fl_RX10 dX10_tie_53 w181 (Nat.le_of_ble_eq_true rfl) rfl rfl ?_
        refine V.aload_n (i := 0) dX10_tie_56 rfl rfl ?_
        refine V.getfield (kf := 4) (v := .ref 9) fl_RX10 dX10_tie_57 w185 (Nat.le_of_ble_eq_true rfl) rfl rfl ?_
        refine V.iload_n (i := 1) dX10_tie_60 rfl rfl ?_
        obtain ⟨v8, hv8, hf⟩ := fbind hf
        refine V.callSn (pl := [1, 2, 9, 10]) (σ' := [.inl (5, [.ref 1, .ref 3, .ref 6, .ref 8, .ref 9]), .inl (3, [.ref 2]), .inr (910, .inl v8.2), .inl (1, [.ref 4, .ref 5, .int v6.1, .int v6.2.1, .int History_snapshotTaken]), .inr (5460, .inl v6.2.2), .inr (910, .inl History_snapshot), .inl (0, [.ref 7, .int v7.2]), .inr (60, .inl Buffer_codes), .inl (2, [.ref (Reader_pattern + 1000), .int Reader_place]), .inl (4, [.ref 10, .int v3.2.1]), .inr (8, .inl v3.2.2)]) (st2 := [.int v8.1]) (cl2 := 0) (sl2 := 0) (ct_X4_tieOn (a2 := a1) (State_cells := State_cells) (Word_size := v3.2.1) (Word_letters := v3.2.2) hv8) dX10_tie_61 w660 w661 cal_X4_tieOn ⟨⟨Nat.le_of_ble_eq_true rfl, Nat.le_of_ble_eq_true rfl⟩, Nat.le_of_ble_eq_true rfl, Nat.le_of_ble_eq_true rfl⟩ (Nat.le_of_ble_eq_true rfl) rfl ⟨rfl, ⟨by decide, by decide⟩, rfl, (fr_cons (Or.inl (Nat.le_of_ble_eq_true rfl)) (fr_cons (Or.inl (Nat.le_of_ble_eq_true rfl)) (fr_nil))), rfl⟩ fr_i rfl rfl rfl rfl ?_
        obtain rfl := Option.some.inj hf
        exact V.iret dX10_tie_64 rfl (Nat.le_of_ble_eq_true rfl) (Nat.le_of_ble_eq_true rfl) rfl
      · have hf := fif_f h hf
        obtain rfl := Option.some.inj hf
        exact V.throwS (i := 8) th_RX10_IllegalStateException_61 (List.mem_of_getElem? (i := 8) rfl) dX10_tie_23 dX10_tie_26 dX10_tie_27 dX10_tie_29 dX10_tie_32 rfl (Nat.le_of_ble_eq_true rfl) (Nat.le_of_ble_eq_true rfl) ⟨Nat.le_of_ble_eq_true rfl, Nat.le_of_ble_eq_true rfl⟩ (Nat.le_of_ble_eq_true rfl) (Nat.le_of_ble_eq_true rfl) rfl
    · rw [hv3b] at hc hf
      dsimp only [fth] at hf
      obtain rfl := Option.some.inj hf
      refine V.callVx (pl := [0, 1, 2, 3, 4, 5, 6, 7, 8, 9, 10]) (σ' := [.inl (5, [.ref 1, .ref 3, .ref 6, .ref 8, .ref 9]), .inl (3, [.ref 2]), .inr (910, .inl State_cells), .inl (1, [.ref 4, .ref 5, .int History_oldest, .int History_size, .int History_snapshotTaken]), .inr (5460, .inl History_saved), .inr (910, .inl History_snapshot), .inl (0, [.ref 7, .int Buffer_size]), .inr (60, .inl Buffer_codes), .inl (2, [.ref (Reader_pattern + 1000), .int Reader_place]), .inl (4, [.ref 10, .int v3.2.1]), .inr (8, .inl v3.2.2)]) hc dX10_tie_5 w574 ⟨w576, w3⟩ cal_X10_needWord rfl ⟨⟨Nat.le_of_ble_eq_true rfl, Nat.le_of_ble_eq_true rfl⟩, Nat.le_of_ble_eq_true rfl, Nat.le_of_ble_eq_true rfl⟩ (Nat.le_of_ble_eq_true rfl) (Or.inl ⟨_, _, _, _, rfl, rfl⟩) rfl ⟨rfl, ⟨by decide, by decide⟩, rfl, (fr_cons (Or.inl (Nat.le_of_ble_eq_true rfl)) (fr_cons (Or.inl (Nat.le_of_ble_eq_true rfl)) (fr_cons (Or.inl (Nat.le_of_ble_eq_true rfl)) (fr_cons (Or.inl (Nat.le_of_ble_eq_true rfl)) (fr_cons (Or.inl (Nat.le_of_ble_eq_true rfl)) (fr_cons (Or.inl (Nat.le_of_ble_eq_true rfl)) (fr_cons (Or.inl (Nat.le_of_ble_eq_true rfl)) (fr_cons (Or.inl (Nat.le_of_ble_eq_true rfl)) (fr_cons (Or.inl (Nat.le_of_ble_eq_true rfl)) (fr_cons (Or.inr (Nat.le_add_left 1000 _)) (fr_cons (Or.inl (Nat.le_of_ble_eq_true rfl)) (fr_nil)))))))))))), rfl⟩ ?_
      exact VX.out rfl (Nat.le_of_ble_eq_true rfl) (Nat.le_of_ble_eq_true rfl) rfl
  · rw [hv1b] at hc hf
    dsimp only [fth] at hf
    obtain rfl := Option.some.inj hf
    refine V.callSx (pl := []) (σ' := [.inl (5, [.ref 1, .ref 3, .ref 6, .ref 8, .ref 9]), .inl (3, [.ref 2]), .inr (910, .inl State_cells), .inl (1, [.ref 4, .ref 5, .int History_oldest, .int History_size, .int History_snapshotTaken]), .inr (5460, .inl History_saved), .inr (910, .inl History_snapshot), .inl (0, [.ref 7, .int Buffer_size]), .inr (60, .inl Buffer_codes), .inl (2, [.ref (Reader_pattern + 1000), .int Reader_place]), .inl (4, [.ref 10, .int Word_size]), .inr (8, .inl Word_letters)]) hc dX10_tie_1 w504 w505 cal_X10_needFisher ⟨⟨Nat.le_of_ble_eq_true rfl, Nat.le_of_ble_eq_true rfl⟩, Nat.le_of_ble_eq_true rfl, Nat.le_of_ble_eq_true rfl⟩ (Nat.le_of_ble_eq_true rfl) rfl ⟨rfl, ⟨by decide, by decide⟩, rfl, (fr_nil), rfl⟩ ?_
    exact VX.out rfl (Nat.le_of_ble_eq_true rfl) (Nat.le_of_ble_eq_true rfl) rfl
def k_X10_needName : fK := (yX10_needName, cX10_needName, 3, none, [], (7, 102), (0, 0), (1, 6))
theorem cal_X10_needName : fCal k_X10_needName 2 := ⟨⟨wc681, w67⟩, ⟨by decide +kernel, by decide +kernel⟩, by decide +kernel, by decide +kernel⟩
def s_X10_needName (a1 : Int32) (a2 : Int32) (State_cells : Nat → Int32) : Option ((Unit ⊕ String)) := (s_X10_needFisher a1).bind fun v1 => fth v1 (fun v2 => (s_X7_hasName a1 a2 State_cells).bind fun v3 => if (v3 = 0 : Prop) then (some (.inr "java/lang/IndexOutOfBoundsException")) else (some (.inl ()))) (fun E9 => some (.inr E9))
set_option maxHeartbeats 4000000 in
set_option maxRecDepth 100000 in
theorem ct_X10_needName {a1 : Int32} {a2 : Int32} {State_cells : Nat → Int32} {History_oldest : Int32} {History_size : Int32} {History_snapshotTaken : Int32} {History_saved : Nat → Int32} {History_snapshot : Nat → Int32} {Buffer_size : Int32} {Buffer_codes : Nat → Int32} {Reader_pattern : Nat} {Reader_place : Int32} {Word_size : Int32} {Word_letters : Nat → Int32} {res : (Unit ⊕ String)} (hf : s_X10_needName a1 a2 State_cells = some res) : Ct k_X10_needName [.ref 0, .int a1, .int a2] [.inl (5, [.ref 1, .ref 3, .ref 6, .ref 8, .ref 9]), .inl (3, [.ref 2]), .inr (910, .inl State_cells), .inl (1, [.ref 4, .ref 5, .int History_oldest, .int History_size, .int History_snapshotTaken]), .inr (5460, .inl History_saved), .inr (910, .inl History_snapshot), .inl (0, [.ref 7, .int Buffer_size]), .inr (60, .inl Buffer_codes), .inl (2, [.ref (Reader_pattern + 1000), .int Reader_place]), .inl (4, [.ref 10, .int Word_size]), .inr (8, .inl Word_letters)] (foV res) [.inl (5, [.ref 1, .ref 3, .ref 6, .ref 8, .ref 9]), .inl (3, [.ref 2]), .inr (910, .inl State_cells), .inl (1, [.ref 4, .ref 5, .int History_oldest, .int History_size, .int History_snapshotTaken]), .inr (5460, .inl History_saved), .inr (910, .inl History_snapshot), .inl (0, [.ref 7, .int Buffer_size]), .inr (60, .inl Buffer_codes), .inl (2, [.ref (Reader_pattern + 1000), .int Reader_place]), .inl (4, [.ref 10, .int Word_size]), .inr (8, .inl Word_letters)] := by
  unfold s_X10_needName at hf
  refine Ct.of (L := [some (.ref 0), some (.int a1), some (.int a2)]) cal_X10_needName (fent_pad (j := 0) rfl) (Nat.le_of_ble_eq_true rfl) ?_
  refine V.iload_n (i := 1) dX10_needName_0 rfl rfl ?_
  obtain ⟨v1, hv1, hf⟩ := fbind hf
  have hc := ct_X10_needFisher (a0 := a1) hv1
  rcases hv1b : v1 with v2 | E9
  · rw [hv1b] at hc hf
    dsimp only [fth] at hf
    refine V.callSn (pl := []) (σ' := [.inl (5, [.ref 1, .ref 3, .ref 6, .ref 8, .ref 9]), .inl (3, [.ref 2]), .inr (910, .inl State_cells), .inl (1, [.ref 4, .ref 5, .int History_oldest, .int History_size, .int History_snapshotTaken]), .inr (5460, .inl History_saved), .inr (910, .inl History_snapshot), .inl (0, [.ref 7, .int Buffer_size]), .inr (60, .inl Buffer_codes), .inl (2, [.ref (Reader_pattern + 1000), .int Reader_place]), .inl (4, [.ref 10, .int Word_size]), .inr (8, .inl Word_letters)]) (st2 := []) (cl2 := 0) (sl2 := 0) hc dX10_needName_1 w504 w505 cal_X10_needFisher ⟨⟨Nat.le_of_ble_eq_true rfl, Nat.le_of_ble_eq_true rfl⟩, Nat.le_of_ble_eq_true rfl, Nat.le_of_ble_eq_true rfl⟩ (Nat.le_of_ble_eq_true rfl) rfl ⟨rfl, ⟨by decide, by decide⟩, rfl, (fr_nil), rfl⟩ fr_v rfl rfl rfl rfl ?_
    refine V.aload_n (i := 0) dX10_needName_4 rfl rfl ?_
    refine V.getfield (kf := 0) (v := .ref 1) fl_RX10 dX10_needName_5 w181 (Nat.le_of_ble_eq_true rfl) rfl rfl ?_
    refine V.iload_n (i := 1) dX10_needName_8 rfl rfl ?_
    refine V.iload_n (i := 2) dX10_needName_9 rfl rfl ?_
    obtain ⟨v3, hv3, hf⟩ := fbind hf
    refine V.callVn (pl := [1, 2]) (σ' := [.inl (5, [.ref 1, .ref 3, .ref 6, .ref 8, .ref 9]), .inl (3, [.ref 2]), .inr (910, .inl State_cells), .inl (1, [.ref 4, .ref 5, .int History_oldest, .int History_size, .int History_snapshotTaken]), .inr (5460, .inl History_saved), .inr (910, .inl History_snapshot), .inl (0, [.ref 7, .int Buffer_size]), .inr (60, .inl Buffer_codes), .inl (2, [.ref (Reader_pattern + 1000), .int Reader_place]), .inl (4, [.ref 10, .int Word_size]), .inr (8, .inl Word_letters)]) (st2 := [.int v3]) (cl2 := 0) (sl2 := 0) (ct_X7_hasName (a1 := a1) (a2 := a2) (State_cells := State_cells) hv3) dX10_needName_10 w682 ⟨w683, w684⟩ cal_X7_hasName rfl ⟨⟨Nat.le_of_ble_eq_true rfl, Nat.le_of_ble_eq_true rfl⟩, Nat.le_of_ble_eq_true rfl, Nat.le_of_ble_eq_true rfl⟩ (Nat.le_of_ble_eq_true rfl) (Or.inl ⟨_, _, _, _, rfl, rfl⟩) rfl ⟨rfl, ⟨by decide, by decide⟩, rfl, (fr_cons (Or.inl (Nat.le_of_ble_eq_true rfl)) (fr_nil)), rfl⟩ fr_i rfl rfl rfl rfl ?_
    refine V.if_ne (tgt := 27) dX10_needName_13 (by decide) (fun h => ?_) (fun h => ?_)
    · have hf := fif_f h hf
      obtain rfl := Option.some.inj hf
      exact V.vret dX10_needName_27 rfl (Nat.le_of_ble_eq_true rfl) (Nat.le_of_ble_eq_true rfl) rfl
    · have hf := fif_t h hf
      obtain rfl := Option.some.inj hf
      exact V.throwSW (i := 9) th_RX10_IndexOutOfBoundsException_131 (List.mem_of_getElem? (i := 9) rfl) dX10_needName_16 dX10_needName_19 dX10_needName_20 dX10_needName_23 dX10_needName_26 rfl (Nat.le_of_ble_eq_true rfl) (Nat.le_of_ble_eq_true rfl) ⟨Nat.le_of_ble_eq_true rfl, Nat.le_of_ble_eq_true rfl⟩ (Nat.le_of_ble_eq_true rfl) (Nat.le_of_ble_eq_true rfl) rfl
  · rw [hv1b] at hc hf
    dsimp only [fth] at hf
    obtain rfl := Option.some.inj hf
    refine V.callSx (pl := []) (σ' := [.inl (5, [.ref 1, .ref 3, .ref 6, .ref 8, .ref 9]), .inl (3, [.ref 2]), .inr (910, .inl State_cells), .inl (1, [.ref 4, .ref 5, .int History_oldest, .int History_size, .int History_snapshotTaken]), .inr (5460, .inl History_saved), .inr (910, .inl History_snapshot), .inl (0, [.ref 7, .int Buffer_size]), .inr (60, .inl Buffer_codes), .inl (2, [.ref (Reader_pattern + 1000), .int Reader_place]), .inl (4, [.ref 10, .int Word_size]), .inr (8, .inl Word_letters)]) hc dX10_needName_1 w504 w505 cal_X10_needFisher ⟨⟨Nat.le_of_ble_eq_true rfl, Nat.le_of_ble_eq_true rfl⟩, Nat.le_of_ble_eq_true rfl, Nat.le_of_ble_eq_true rfl⟩ (Nat.le_of_ble_eq_true rfl) rfl ⟨rfl, ⟨by decide, by decide⟩, rfl, (fr_nil), rfl⟩ ?_
    exact VX.out rfl (Nat.le_of_ble_eq_true rfl) (Nat.le_of_ble_eq_true rfl) rfl
def k_X10_cut : fK := (yX10_cut, cX10_cut, 3, (some .int), [], (8, 124), (0, 0), (1, 6))
theorem cal_X10_cut : fCal k_X10_cut 2 := ⟨⟨wc677, w67⟩, ⟨by decide +kernel, by decide +kernel⟩, by decide +kernel, by decide +kernel⟩
def s_X10_cut (a1 : Int32) (a2 : Int32) (State_cells : Nat → Int32) (History_oldest : Int32) (History_size : Int32) (History_saved : Nat → Int32) : Option ((Int32 ⊕ String) × (Nat → Int32) × (Int32) × (Int32) × (Nat → Int32)) := (s_X10_needName a1 a2 State_cells).bind fun v1 => fth v1 (fun v2 => (s_X3_push History_oldest History_size History_saved State_cells).bind fun v3 => (s_X4_takeOff a1 a2 State_cells).bind fun v4 => some (.inl v4.1, v4.2, v3.1, v3.2.1, v3.2.2)) (fun E9 => some (.inr E9, State_cells, History_oldest, History_size, History_saved))
set_option maxHeartbeats 4000000 in
set_option maxRecDepth 100000 in
theorem ct_X10_cut {a1 : Int32} {a2 : Int32} {State_cells : Nat → Int32} {History_oldest : Int32} {History_size : Int32} {History_snapshotTaken : Int32} {History_saved : Nat → Int32} {History_snapshot : Nat → Int32} {Buffer_size : Int32} {Buffer_codes : Nat → Int32} {Reader_pattern : Nat} {Reader_place : Int32} {Word_size : Int32} {Word_letters : Nat → Int32} {res : (Int32 ⊕ String) × (Nat → Int32) × (Int32) × (Int32) × (Nat → Int32)} (hf : s_X10_cut a1 a2 State_cells History_oldest History_size History_saved = some res) : Ct k_X10_cut [.ref 0, .int a1, .int a2] [.inl (5, [.ref 1, .ref 3, .ref 6, .ref 8, .ref 9]), .inl (3, [.ref 2]), .inr (910, .inl State_cells), .inl (1, [.ref 4, .ref 5, .int History_oldest, .int History_size, .int History_snapshotTaken]), .inr (5460, .inl History_saved), .inr (910, .inl History_snapshot), .inl (0, [.ref 7, .int Buffer_size]), .inr (60, .inl Buffer_codes), .inl (2, [.ref (Reader_pattern + 1000), .int Reader_place]), .inl (4, [.ref 10, .int Word_size]), .inr (8, .inl Word_letters)] (foI res.1) [.inl (5, [.ref 1, .ref 3, .ref 6, .ref 8, .ref 9]), .inl (3, [.ref 2]), .inr (910, .inl res.2.1), .inl (1, [.ref 4, .ref 5, .int res.2.2.1, .int res.2.2.2.1, .int History_snapshotTaken]), .inr (5460, .inl res.2.2.2.2), .inr (910, .inl History_snapshot), .inl (0, [.ref 7, .int Buffer_size]), .inr (60, .inl Buffer_codes), .inl (2, [.ref (Reader_pattern + 1000), .int Reader_place]), .inl (4, [.ref 10, .int Word_size]), .inr (8, .inl Word_letters)] := by
  unfold s_X10_cut at hf
  refine Ct.of (L := [some (.ref 0), some (.int a1), some (.int a2)]) cal_X10_cut (fent_pad (j := 0) rfl) (Nat.le_of_ble_eq_true rfl) ?_
  refine V.aload_n (i := 0) dX10_cut_0 rfl rfl ?_
  refine V.iload_n (i := 1) dX10_cut_1 rfl rfl ?_
  refine V.iload_n (i := 2) dX10_cut_2 rfl rfl ?_
  obtain ⟨v1, hv1, hf⟩ := fbind hf
  have hc := ct_X10_needName (a1 := a1) (a2 := a2) (State_cells := State_cells) (History_oldest := History_oldest) (History_size := History_size) (History_snapshotTaken := History_snapshotTaken) (History_saved := History_saved) (History_snapshot := History_snapshot) (Buffer_size := Buffer_size) (Buffer_codes := Buffer_codes) (Reader_pattern := Reader_pattern) (Reader_place := Reader_place) (Word_size := Word_size) (Word_letters := Word_letters) hv1
  rcases hv1b : v1 with v2 | E9
  · rw [hv1b] at hc hf
    dsimp only [fth] at hf
    refine V.callVn (pl := [0, 1, 2, 3, 4, 5, 6, 7, 8, 9, 10]) (σ' := [.inl (5, [.ref 1, .ref 3, .ref 6, .ref 8, .ref 9]), .inl (3, [.ref 2]), .inr (910, .inl State_cells), .inl (1, [.ref 4, .ref 5, .int History_oldest, .int History_size, .int History_snapshotTaken]), .inr (5460, .inl History_saved), .inr (910, .inl History_snapshot), .inl (0, [.ref 7, .int Buffer_size]), .inr (60, .inl Buffer_codes), .inl (2, [.ref (Reader_pattern + 1000), .int Reader_place]), .inl (4, [.ref 10, .int Word_size]), .inr (8, .inl Word_letters)]) (st2 := []) (cl2 := 0) (sl2 := 0) hc dX10_cut_3 w678 ⟨w680, w5⟩ cal_X10_needName rfl ⟨⟨Nat.le_of_ble_eq_true rfl, Nat.le_of_ble_eq_true rfl⟩, Nat.le_of_ble_eq_true rfl, Nat.le_of_ble_eq_true rfl⟩ (Nat.le_of_ble_eq_true rfl) (Or.inl ⟨_, _, _, _, rfl, rfl⟩) rfl ⟨rfl, ⟨by decide, by decide⟩, rfl, (fr_cons (Or.inl (Nat.le_of_ble_eq_true rfl)) (fr_cons (Or.inl (Nat.le_of_ble_eq_true rfl)) (fr_cons (Or.inl (Nat.le_of_ble_eq_true rfl)) (fr_cons (Or.inl (Nat.le_of_ble_eq_true rfl)) (fr_cons (Or.inl (Nat.le_of_ble_eq_true rfl)) (fr_cons (Or.inl (Nat.le_of_ble_eq_true rfl)) (fr_cons (Or.inl (Nat.le_of_ble_eq_true rfl)) (fr_cons (Or.inl (Nat.le_of_ble_eq_true rfl)) (fr_cons (Or.inl (Nat.le_of_ble_eq_true rfl)) (fr_cons (Or.inr (Nat.le_add_left 1000 _)) (fr_cons (Or.inl (Nat.le_of_ble_eq_true rfl)) (fr_nil)))))))))))), rfl⟩ fr_v rfl rfl rfl rfl ?_
    refine V.aload_n (i := 0) dX10_cut_6 rfl rfl ?_
    refine V.getfield (kf := 1) (v := .ref 3) fl_RX10 dX10_cut_7 w182 (Nat.le_of_ble_eq_true rfl) rfl rfl ?_
    refine V.aload_n (i := 0) dX10_cut_10 rfl rfl ?_
    refine V.getfield (kf := 0) (v := .ref 1) fl_RX10 dX10_cut_11 w181 (Nat.le_of_ble_eq_true rfl) rfl rfl ?_
    obtain ⟨v3, hv3, hf⟩ := fbind hf
    refine V.callVn (pl := [3, 4, 5, 1, 2]) (σ' := [.inl (5, [.ref 1, .ref 3, .ref 6, .ref 8, .ref 9]), .inl (3, [.ref 2]), .inr (910, .inl State_cells), .inl (1, [.ref 4, .ref 5, .int v3.1, .int v3.2.1, .int History_snapshotTaken]), .inr (5460, .inl v3.2.2), .inr (910, .inl History_snapshot), .inl (0, [.ref 7, .int Buffer_size]), .inr (60, .inl Buffer_codes), .inl (2, [.ref (Reader_pattern + 1000), .int Reader_place]), .inl (4, [.ref 10, .int Word_size]), .inr (8, .inl Word_letters)]) (st2 := []) (cl2 := 0) (sl2 := 0) (ct_X3_push (History_oldest := History_oldest) (History_size := History_size) (History_snapshotTaken := History_snapshotTaken) (History_saved := History_saved) (History_snapshot := History_snapshot) (State_cells := State_cells) hv3) dX10_cut_14 w652 ⟨w653, w654⟩ cal_X3_push rfl ⟨⟨Nat.le_of_ble_eq_true rfl, Nat.le_of_ble_eq_true rfl⟩, Nat.le_of_ble_eq_true rfl, Nat.le_of_ble_eq_true rfl⟩ (Nat.le_of_ble_eq_true rfl) (Or.inl ⟨_, _, _, _, rfl, rfl⟩) rfl ⟨rfl, ⟨by decide, by decide⟩, rfl, (fr_cons (Or.inl (Nat.le_of_ble_eq_true rfl)) (fr_cons (Or.inl (Nat.le_of_ble_eq_true rfl)) (fr_cons (Or.inl (Nat.le_of_ble_eq_true rfl)) (fr_nil)))), rfl⟩ fr_v rfl rfl rfl rfl ?_
    refine V.aload_n (i := 0) dX10_cut_17 rfl rfl ?_
    refine V.getfield (kf := 0) (v := .ref 1) fl_RX10 dX10_cut_18 w181 (Nat.le_of_ble_eq_true rfl) rfl rfl ?_
    refine V.iload_n (i := 1) dX10_cut_21 rfl rfl ?_
    refine V.iload_n (i := 2) dX10_cut_22 rfl rfl ?_
    obtain ⟨v4, hv4, hf⟩ := fbind hf
    refine V.callSn (pl := [1, 2]) (σ' := [.inl (5, [.ref 1, .ref 3, .ref 6, .ref 8, .ref 9]), .inl (3, [.ref 2]), .inr (910, .inl v4.2), .inl (1, [.ref 4, .ref 5, .int v3.1, .int v3.2.1, .int History_snapshotTaken]), .inr (5460, .inl v3.2.2), .inr (910, .inl History_snapshot), .inl (0, [.ref 7, .int Buffer_size]), .inr (60, .inl Buffer_codes), .inl (2, [.ref (Reader_pattern + 1000), .int Reader_place]), .inl (4, [.ref 10, .int Word_size]), .inr (8, .inl Word_letters)]) (st2 := [.int v4.1]) (cl2 := 0) (sl2 := 0) (ct_X4_takeOff (a1 := a1) (a2 := a2) (State_cells := State_cells) hv4) dX10_cut_23 w687 w688 cal_X4_takeOff ⟨⟨Nat.le_of_ble_eq_true rfl, Nat.le_of_ble_eq_true rfl⟩, Nat.le_of_ble_eq_true rfl, Nat.le_of_ble_eq_true rfl⟩ (Nat.le_of_ble_eq_true rfl) rfl ⟨rfl, ⟨by decide, by decide⟩, rfl, (fr_cons (Or.inl (Nat.le_of_ble_eq_true rfl)) (fr_nil)), rfl⟩ fr_i rfl rfl rfl rfl ?_
    obtain rfl := Option.some.inj hf
    exact V.iret dX10_cut_26 rfl (Nat.le_of_ble_eq_true rfl) (Nat.le_of_ble_eq_true rfl) rfl
  · rw [hv1b] at hc hf
    dsimp only [fth] at hf
    obtain rfl := Option.some.inj hf
    refine V.callVx (pl := [0, 1, 2, 3, 4, 5, 6, 7, 8, 9, 10]) (σ' := [.inl (5, [.ref 1, .ref 3, .ref 6, .ref 8, .ref 9]), .inl (3, [.ref 2]), .inr (910, .inl State_cells), .inl (1, [.ref 4, .ref 5, .int History_oldest, .int History_size, .int History_snapshotTaken]), .inr (5460, .inl History_saved), .inr (910, .inl History_snapshot), .inl (0, [.ref 7, .int Buffer_size]), .inr (60, .inl Buffer_codes), .inl (2, [.ref (Reader_pattern + 1000), .int Reader_place]), .inl (4, [.ref 10, .int Word_size]), .inr (8, .inl Word_letters)]) hc dX10_cut_3 w678 ⟨w680, w5⟩ cal_X10_needName rfl ⟨⟨Nat.le_of_ble_eq_true rfl, Nat.le_of_ble_eq_true rfl⟩, Nat.le_of_ble_eq_true rfl, Nat.le_of_ble_eq_true rfl⟩ (Nat.le_of_ble_eq_true rfl) (Or.inl ⟨_, _, _, _, rfl, rfl⟩) rfl ⟨rfl, ⟨by decide, by decide⟩, rfl, (fr_cons (Or.inl (Nat.le_of_ble_eq_true rfl)) (fr_cons (Or.inl (Nat.le_of_ble_eq_true rfl)) (fr_cons (Or.inl (Nat.le_of_ble_eq_true rfl)) (fr_cons (Or.inl (Nat.le_of_ble_eq_true rfl)) (fr_cons (Or.inl (Nat.le_of_ble_eq_true rfl)) (fr_cons (Or.inl (Nat.le_of_ble_eq_true rfl)) (fr_cons (Or.inl (Nat.le_of_ble_eq_true rfl)) (fr_cons (Or.inl (Nat.le_of_ble_eq_true rfl)) (fr_cons (Or.inl (Nat.le_of_ble_eq_true rfl)) (fr_cons (Or.inr (Nat.le_add_left 1000 _)) (fr_cons (Or.inl (Nat.le_of_ble_eq_true rfl)) (fr_nil)))))))))))), rfl⟩ ?_
    exact VX.out rfl (Nat.le_of_ble_eq_true rfl) (Nat.le_of_ble_eq_true rfl) rfl
def k_X10_fast : fK := (yX10_fast, cX10_fast, 3, (some .int), [], (8, 124), (0, 0), (1, 6))
theorem cal_X10_fast : fCal k_X10_fast 2 := ⟨⟨wc701, w67⟩, ⟨by decide +kernel, by decide +kernel⟩, by decide +kernel, by decide +kernel⟩
def s_X10_fast (a1 : Int32) (a2 : Int32) (State_cells : Nat → Int32) (History_oldest : Int32) (History_size : Int32) (History_saved : Nat → Int32) : Option ((Int32 ⊕ String) × (Nat → Int32) × (Int32) × (Int32) × (Nat → Int32)) := (s_X10_needName a1 a2 State_cells).bind fun v1 => fth v1 (fun v2 => (s_X4_whyNotTightened a1 a2 State_cells).bind fun v3 => if (v3 = 0 : Prop) then ((s_X3_push History_oldest History_size History_saved State_cells).bind fun v4 => (s_X4_tighten a1 a2 State_cells).bind fun v5 => some (.inl v5.1, v5.2, v4.1, v4.2.1, v4.2.2)) else (some (.inr "java/lang/IllegalStateException", State_cells, History_oldest, History_size, History_saved))) (fun E9 => some (.inr E9, State_cells, History_oldest, History_size, History_saved))
set_option maxHeartbeats 4000000 in
set_option maxRecDepth 100000 in
theorem ct_X10_fast {a1 : Int32} {a2 : Int32} {State_cells : Nat → Int32} {History_oldest : Int32} {History_size : Int32} {History_snapshotTaken : Int32} {History_saved : Nat → Int32} {History_snapshot : Nat → Int32} {Buffer_size : Int32} {Buffer_codes : Nat → Int32} {Reader_pattern : Nat} {Reader_place : Int32} {Word_size : Int32} {Word_letters : Nat → Int32} {res : (Int32 ⊕ String) × (Nat → Int32) × (Int32) × (Int32) × (Nat → Int32)} (hf : s_X10_fast a1 a2 State_cells History_oldest History_size History_saved = some res) : Ct k_X10_fast [.ref 0, .int a1, .int a2] [.inl (5, [.ref 1, .ref 3, .ref 6, .ref 8, .ref 9]), .inl (3, [.ref 2]), .inr (910, .inl State_cells), .inl (1, [.ref 4, .ref 5, .int History_oldest, .int History_size, .int History_snapshotTaken]), .inr (5460, .inl History_saved), .inr (910, .inl History_snapshot), .inl (0, [.ref 7, .int Buffer_size]), .inr (60, .inl Buffer_codes), .inl (2, [.ref (Reader_pattern + 1000), .int Reader_place]), .inl (4, [.ref 10, .int Word_size]), .inr (8, .inl Word_letters)] (foI res.1) [.inl (5, [.ref 1, .ref 3, .ref 6, .ref 8, .ref 9]), .inl (3, [.ref 2]), .inr (910, .inl res.2.1), .inl (1, [.ref 4, .ref 5, .int res.2.2.1, .int res.2.2.2.1, .int History_snapshotTaken]), .inr (5460, .inl res.2.2.2.2), .inr (910, .inl History_snapshot), .inl (0, [.ref 7, .int Buffer_size]), .inr (60, .inl Buffer_codes), .inl (2, [.ref (Reader_pattern + 1000), .int Reader_place]), .inl (4, [.ref 10, .int Word_size]), .inr (8, .inl Word_letters)] := by
  unfold s_X10_fast at hf
  refine Ct.of (L := [some (.ref 0), some (.int a1), some (.int a2)]) cal_X10_fast (fent_pad (j := 0) rfl) (Nat.le_of_ble_eq_true rfl) ?_
  refine V.aload_n (i := 0) dX10_fast_0 rfl rfl ?_
  refine V.iload_n (i := 1) dX10_fast_1 rfl rfl ?_
  refine V.iload_n (i := 2) dX10_fast_2 rfl rfl ?_
  obtain ⟨v1, hv1, hf⟩ := fbind hf
  have hc := ct_X10_needName (a1 := a1) (a2 := a2) (State_cells := State_cells) (History_oldest := History_oldest) (History_size := History_size) (History_snapshotTaken := History_snapshotTaken) (History_saved := History_saved) (History_snapshot := History_snapshot) (Buffer_size := Buffer_size) (Buffer_codes := Buffer_codes) (Reader_pattern := Reader_pattern) (Reader_place := Reader_place) (Word_size := Word_size) (Word_letters := Word_letters) hv1
  rcases hv1b : v1 with v2 | E9
  · rw [hv1b] at hc hf
    dsimp only [fth] at hf
    refine V.callVn (pl := [0, 1, 2, 3, 4, 5, 6, 7, 8, 9, 10]) (σ' := [.inl (5, [.ref 1, .ref 3, .ref 6, .ref 8, .ref 9]), .inl (3, [.ref 2]), .inr (910, .inl State_cells), .inl (1, [.ref 4, .ref 5, .int History_oldest, .int History_size, .int History_snapshotTaken]), .inr (5460, .inl History_saved), .inr (910, .inl History_snapshot), .inl (0, [.ref 7, .int Buffer_size]), .inr (60, .inl Buffer_codes), .inl (2, [.ref (Reader_pattern + 1000), .int Reader_place]), .inl (4, [.ref 10, .int Word_size]), .inr (8, .inl Word_letters)]) (st2 := []) (cl2 := 0) (sl2 := 0) hc dX10_fast_3 w678 ⟨w680, w5⟩ cal_X10_needName rfl ⟨⟨Nat.le_of_ble_eq_true rfl, Nat.le_of_ble_eq_true rfl⟩, Nat.le_of_ble_eq_true rfl, Nat.le_of_ble_eq_true rfl⟩ (Nat.le_of_ble_eq_true rfl) (Or.inl ⟨_, _, _, _, rfl, rfl⟩) rfl ⟨rfl, ⟨by decide, by decide⟩, rfl, (fr_cons (Or.inl (Nat.le_of_ble_eq_true rfl)) (fr_cons (Or.inl (Nat.le_of_ble_eq_true rfl)) (fr_cons (Or.inl (Nat.le_of_ble_eq_true rfl)) (fr_cons (Or.inl (Nat.le_of_ble_eq_true rfl)) (fr_cons (Or.inl (Nat.le_of_ble_eq_true rfl)) (fr_cons (Or.inl (Nat.le_of_ble_eq_true rfl)) (fr_cons (Or.inl (Nat.le_of_ble_eq_true rfl)) (fr_cons (Or.inl (Nat.le_of_ble_eq_true rfl)) (fr_cons (Or.inl (Nat.le_of_ble_eq_true rfl)) (fr_cons (Or.inr (Nat.le_add_left 1000 _)) (fr_cons (Or.inl (Nat.le_of_ble_eq_true rfl)) (fr_nil)))))))))))), rfl⟩ fr_v rfl rfl rfl rfl ?_
    refine V.aload_n (i := 0) dX10_fast_6 rfl rfl ?_
    refine V.getfield (kf := 0) (v := .ref 1) fl_RX10 dX10_fast_7 w181 (Nat.le_of_ble_eq_true rfl) rfl rfl ?_
    refine V.iload_n (i := 1) dX10_fast_10 rfl rfl ?_
    refine V.iload_n (i := 2) dX10_fast_11 rfl rfl ?_
    obtain ⟨v3, hv3, hf⟩ := fbind hf
    refine V.callSn (pl := [1, 2]) (σ' := [.inl (5, [.ref 1, .ref 3, .ref 6, .ref 8, .ref 9]), .inl (3, [.ref 2]), .inr (910, .inl State_cells), .inl (1, [.ref 4, .ref 5, .int History_oldest, .int History_size, .int History_snapshotTaken]), .inr (5460, .inl History_saved), .inr (910, .inl History_snapshot), .inl (0, [.ref 7, .int Buffer_size]), .inr (60, .inl Buffer_codes), .inl (2, [.ref (Reader_pattern + 1000), .int Reader_place]), .inl (4, [.ref 10, .int Word_size]), .inr (8, .inl Word_letters)]) (st2 := [.int v3]) (cl2 := 0) (sl2 := 0) (ct_X4_whyNotTightened (a1 := a1) (a2 := a2) (State_cells := State_cells) hv3) dX10_fast_12 w702 w703 cal_X4_whyNotTightened ⟨⟨Nat.le_of_ble_eq_true rfl, Nat.le_of_ble_eq_true rfl⟩, Nat.le_of_ble_eq_true rfl, Nat.le_of_ble_eq_true rfl⟩ (Nat.le_of_ble_eq_true rfl) rfl ⟨rfl, ⟨by decide, by decide⟩, rfl, (fr_cons (Or.inl (Nat.le_of_ble_eq_true rfl)) (fr_nil)), rfl⟩ fr_i rfl rfl rfl rfl ?_
    refine V.if_eq (tgt := 28) dX10_fast_15 (by decide) (fun h => ?_) (fun h => ?_)
    · have hf := fif_t h hf
      refine V.aload_n (i := 0) dX10_fast_28 rfl rfl ?_
      refine V.getfield (kf := 1) (v := .ref 3) fl_RX10 dX10_fast_29 w182 (Nat.le_of_ble_eq_true rfl) rfl rfl ?_
      refine V.aload_n (i := 0) dX10_fast_32 rfl rfl ?_
      refine V.getfield (kf := 0) (v := .ref 1) fl_RX10 dX10_fast_33 w181 (Nat.le_of_ble_eq_true rfl) rfl rfl ?_
      obtain ⟨v4, hv4, hf⟩ := fbind hf
      refine V.callVn (pl := [3, 4, 5, 1, 2]) (σ' := [.inl (5, [.ref 1, .ref 3, .ref 6, .ref 8, .ref 9]), .inl (3, [.ref 2]), .inr (910, .inl State_cells), .inl (1, [.ref 4, .ref 5, .int v4.1, .int v4.2.1, .int History_snapshotTaken]), .inr (5460, .inl v4.2.2), .inr (910, .inl History_snapshot), .inl (0, [.ref 7, .int Buffer_size]), .inr (60, .inl Buffer_codes), .inl (2, [.ref (Reader_pattern + 1000), .int Reader_place]), .inl (4, [.ref 10, .int Word_size]), .inr (8, .inl Word_letters)]) (st2 := []) (cl2 := 0) (sl2 := 0) (ct_X3_push (History_oldest := History_oldest) (History_size := History_size) (History_snapshotTaken := History_snapshotTaken) (History_saved := History_saved) (History_snapshot := History_snapshot) (State_cells := State_cells) hv4) dX10_fast_36 w652 ⟨w653, w654⟩ cal_X3_push rfl ⟨⟨Nat.le_of_ble_eq_true rfl, Nat.le_of_ble_eq_true rfl⟩, Nat.le_of_ble_eq_true rfl, Nat.le_of_ble_eq_true rfl⟩ (Nat.le_of_ble_eq_true rfl) (Or.inl ⟨_, _, _, _, rfl, rfl⟩) rfl ⟨rfl, ⟨by decide, by decide⟩, rfl, (fr_cons (Or.inl (Nat.le_of_ble_eq_true rfl)) (fr_cons (Or.inl (Nat.le_of_ble_eq_true rfl)) (fr_cons (Or.inl (Nat.le_of_ble_eq_true rfl)) (fr_nil)))), rfl⟩ fr_v rfl rfl rfl rfl ?_
      refine V.aload_n (i := 0) dX10_fast_39 rfl rfl ?_
      refine V.getfield (kf := 0) (v := .ref 1) fl_RX10 dX10_fast_40 w181 (Nat.le_of_ble_eq_true rfl) rfl rfl ?_
      refine V.iload_n (i := 1) dX10_fast_43 rfl rfl ?_
      refine V.iload_n (i := 2) dX10_fast_44 rfl rfl ?_
      obtain ⟨v5, hv5, hf⟩ := fbind hf
      refine V.callSn (pl := [1, 2]) (σ' := [.inl (5, [.ref 1, .ref 3, .ref 6, .ref 8, .ref 9]), .inl (3, [.ref 2]), .inr (910, .inl v5.2), .inl (1, [.ref 4, .ref 5, .int v4.1, .int v4.2.1, .int History_snapshotTaken]), .inr (5460, .inl v4.2.2), .inr (910, .inl History_snapshot), .inl (0, [.ref 7, .int Buffer_size]), .inr (60, .inl Buffer_codes), .inl (2, [.ref (Reader_pattern + 1000), .int Reader_place]), .inl (4, [.ref 10, .int Word_size]), .inr (8, .inl Word_letters)]) (st2 := [.int v5.1]) (cl2 := 0) (sl2 := 0) (ct_X4_tighten (a1 := a1) (a2 := a2) (State_cells := State_cells) hv5) dX10_fast_45 w712 w713 cal_X4_tighten ⟨⟨Nat.le_of_ble_eq_true rfl, Nat.le_of_ble_eq_true rfl⟩, Nat.le_of_ble_eq_true rfl, Nat.le_of_ble_eq_true rfl⟩ (Nat.le_of_ble_eq_true rfl) rfl ⟨rfl, ⟨by decide, by decide⟩, rfl, (fr_cons (Or.inl (Nat.le_of_ble_eq_true rfl)) (fr_nil)), rfl⟩ fr_i rfl rfl rfl rfl ?_
      obtain rfl := Option.some.inj hf
      exact V.iret dX10_fast_48 rfl (Nat.le_of_ble_eq_true rfl) (Nat.le_of_ble_eq_true rfl) rfl
    · have hf := fif_f h hf
      obtain rfl := Option.some.inj hf
      exact V.throwS (i := 10) th_RX10_IllegalStateException_61 (List.mem_of_getElem? (i := 10) rfl) dX10_fast_18 dX10_fast_21 dX10_fast_22 dX10_fast_24 dX10_fast_27 rfl (Nat.le_of_ble_eq_true rfl) (Nat.le_of_ble_eq_true rfl) ⟨Nat.le_of_ble_eq_true rfl, Nat.le_of_ble_eq_true rfl⟩ (Nat.le_of_ble_eq_true rfl) (Nat.le_of_ble_eq_true rfl) rfl
  · rw [hv1b] at hc hf
    dsimp only [fth] at hf
    obtain rfl := Option.some.inj hf
    refine V.callVx (pl := [0, 1, 2, 3, 4, 5, 6, 7, 8, 9, 10]) (σ' := [.inl (5, [.ref 1, .ref 3, .ref 6, .ref 8, .ref 9]), .inl (3, [.ref 2]), .inr (910, .inl State_cells), .inl (1, [.ref 4, .ref 5, .int History_oldest, .int History_size, .int History_snapshotTaken]), .inr (5460, .inl History_saved), .inr (910, .inl History_snapshot), .inl (0, [.ref 7, .int Buffer_size]), .inr (60, .inl Buffer_codes), .inl (2, [.ref (Reader_pattern + 1000), .int Reader_place]), .inl (4, [.ref 10, .int Word_size]), .inr (8, .inl Word_letters)]) hc dX10_fast_3 w678 ⟨w680, w5⟩ cal_X10_needName rfl ⟨⟨Nat.le_of_ble_eq_true rfl, Nat.le_of_ble_eq_true rfl⟩, Nat.le_of_ble_eq_true rfl, Nat.le_of_ble_eq_true rfl⟩ (Nat.le_of_ble_eq_true rfl) (Or.inl ⟨_, _, _, _, rfl, rfl⟩) rfl ⟨rfl, ⟨by decide, by decide⟩, rfl, (fr_cons (Or.inl (Nat.le_of_ble_eq_true rfl)) (fr_cons (Or.inl (Nat.le_of_ble_eq_true rfl)) (fr_cons (Or.inl (Nat.le_of_ble_eq_true rfl)) (fr_cons (Or.inl (Nat.le_of_ble_eq_true rfl)) (fr_cons (Or.inl (Nat.le_of_ble_eq_true rfl)) (fr_cons (Or.inl (Nat.le_of_ble_eq_true rfl)) (fr_cons (Or.inl (Nat.le_of_ble_eq_true rfl)) (fr_cons (Or.inl (Nat.le_of_ble_eq_true rfl)) (fr_cons (Or.inl (Nat.le_of_ble_eq_true rfl)) (fr_cons (Or.inr (Nat.le_add_left 1000 _)) (fr_cons (Or.inl (Nat.le_of_ble_eq_true rfl)) (fr_nil)))))))))))), rfl⟩ ?_
    exact VX.out rfl (Nat.le_of_ble_eq_true rfl) (Nat.le_of_ble_eq_true rfl) rfl
def k_X10_give : fK := (yX10_give, cX10_give, 4, (some .int), [], (8, 124), (0, 0), (1, 6))
theorem cal_X10_give : fCal k_X10_give 3 := ⟨⟨wc721, w67⟩, ⟨by decide +kernel, by decide +kernel⟩, by decide +kernel, by decide +kernel⟩
def s_X10_give (a1 : Int32) (a2 : Int32) (a3 : Int32) (State_cells : Nat → Int32) (History_oldest : Int32) (History_size : Int32) (History_saved : Nat → Int32) (Word_size : Int32) (Word_letters : Nat → Int32) : Option ((Int32 ⊕ String) × (Nat → Int32) × (Int32) × (Int32) × (Nat → Int32) × (Int32) × (Nat → Int32)) := (s_X10_needName a1 a2 State_cells).bind fun v1 => fth v1 (fun v2 => (s_X10_needFisher a3).bind fun v3 => fth v3 (fun v4 => (s_X4_whyNotGiven a1 a2 a3 State_cells Word_size Word_letters).bind fun v5 => if (v5.1 = 0 : Prop) then ((s_X3_push History_oldest History_size History_saved State_cells).bind fun v6 => (s_X4_handOver a1 a2 a3 State_cells v5.2.1 v5.2.2).bind fun v7 => some (.inl v7.1, v7.2, v6.1, v6.2.1, v6.2.2, v5.2.1, v5.2.2)) else (some (.inr "java/lang/IllegalStateException", State_cells, History_oldest, History_size, History_saved, v5.2.1, v5.2.2))) (fun E9 => some (.inr E9, State_cells, History_oldest, History_size, History_saved, Word_size, Word_letters))) (fun E9 => some (.inr E9, State_cells, History_oldest, History_size, History_saved, Word_size, Word_letters))
set_option maxHeartbeats 4000000 in
set_option maxRecDepth 100000 in
theorem ct_X10_give {a1 : Int32} {a2 : Int32} {a3 : Int32} {State_cells : Nat → Int32} {History_oldest : Int32} {History_size : Int32} {History_snapshotTaken : Int32} {History_saved : Nat → Int32} {History_snapshot : Nat → Int32} {Buffer_size : Int32} {Buffer_codes : Nat → Int32} {Reader_pattern : Nat} {Reader_place : Int32} {Word_size : Int32} {Word_letters : Nat → Int32} {res : (Int32 ⊕ String) × (Nat → Int32) × (Int32) × (Int32) × (Nat → Int32) × (Int32) × (Nat → Int32)} (hf : s_X10_give a1 a2 a3 State_cells History_oldest History_size History_saved Word_size Word_letters = some res) : Ct k_X10_give [.ref 0, .int a1, .int a2, .int a3] [.inl (5, [.ref 1, .ref 3, .ref 6, .ref 8, .ref 9]), .inl (3, [.ref 2]), .inr (910, .inl State_cells), .inl (1, [.ref 4, .ref 5, .int History_oldest, .int History_size, .int History_snapshotTaken]), .inr (5460, .inl History_saved), .inr (910, .inl History_snapshot), .inl (0, [.ref 7, .int Buffer_size]), .inr (60, .inl Buffer_codes), .inl (2, [.ref (Reader_pattern + 1000), .int Reader_place]), .inl (4, [.ref 10, .int Word_size]), .inr (8, .inl Word_letters)] (foI res.1) [.inl (5, [.ref 1, .ref 3, .ref 6, .ref 8, .ref 9]), .inl (3, [.ref 2]), .inr (910, .inl res.2.1), .inl (1, [.ref 4, .ref 5, .int res.2.2.1, .int res.2.2.2.1, .int History_snapshotTaken]), .inr (5460, .inl res.2.2.2.2.1), .inr (910, .inl History_snapshot), .inl (0, [.ref 7, .int Buffer_size]), .inr (60, .inl Buffer_codes), .inl (2, [.ref (Reader_pattern + 1000), .int Reader_place]), .inl (4, [.ref 10, .int res.2.2.2.2.2.1]), .inr (8, .inl res.2.2.2.2.2.2)] := by
  unfold s_X10_give at hf
  refine Ct.of (L := [some (.ref 0), some (.int a1), some (.int a2), some (.int a3)]) cal_X10_give (fent_pad (j := 0) rfl) (Nat.le_of_ble_eq_true rfl) ?_
  refine V.aload_n (i := 0) dX10_give_0 rfl rfl ?_
  refine V.iload_n (i := 1) dX10_give_1 rfl rfl ?_
  refine V.iload_n (i := 2) dX10_give_2 rfl rfl ?_
  obtain ⟨v1, hv1, hf⟩ := fbind hf
  have hc := ct_X10_needName (a1 := a1) (a2 := a2) (State_cells := State_cells) (History_oldest := History_oldest) (History_size := History_size) (History_snapshotTaken := History_snapshotTaken) (History_saved := History_saved) (History_snapshot := History_snapshot) (Buffer_size := Buffer_size) (Buffer_codes := Buffer_codes) (Reader_pattern := Reader_pattern) (Reader_place := Reader_place) (Word_size := Word_size) (Word_letters := Word_letters) hv1
  rcases hv1b : v1 with v2 | E9
  · rw [hv1b] at hc hf
    dsimp only [fth] at hf
    refine V.callVn (pl := [0, 1, 2, 3, 4, 5, 6, 7, 8, 9, 10]) (σ' := [.inl (5, [.ref 1, .ref 3, .ref 6, .ref 8, .ref 9]), .inl (3, [.ref 2]), .inr (910, .inl State_cells), .inl (1, [.ref 4, .ref 5, .int History_oldest, .int History_size, .int History_snapshotTaken]), .inr (5460, .inl History_saved), .inr (910, .inl History_snapshot), .inl (0, [.ref 7, .int Buffer_size]), .inr (60, .inl Buffer_codes), .inl (2, [.ref (Reader_pattern + 1000), .int Reader_place]), .inl (4, [.ref 10, .int Word_size]), .inr (8, .inl Word_letters)]) (st2 := []) (cl2 := 0) (sl2 := 0) hc dX10_give_3 w678 ⟨w680, w5⟩ cal_X10_needName rfl ⟨⟨Nat.le_of_ble_eq_true rfl, Nat.le_of_ble_eq_true rfl⟩, Nat.le_of_ble_eq_true rfl, Nat.le_of_ble_eq_true rfl⟩ (Nat.le_of_ble_eq_true rfl) (Or.inl ⟨_, _, _, _, rfl, rfl⟩) rfl ⟨rfl, ⟨by decide, by decide⟩, rfl, (fr_cons (Or.inl (Nat.le_of_ble_eq_true rfl)) (fr_cons (Or.inl (Nat.le_of_ble_eq_true rfl)) (fr_cons (Or.inl (Nat.le_of_ble_eq_true rfl)) (fr_cons (Or.inl (Nat.le_of_ble_eq_true rfl)) (fr_cons (Or.inl (Nat.le_of_ble_eq_true rfl)) (fr_cons (Or.inl (Nat.le_of_ble_eq_true rfl)) (fr_cons (Or.inl (Nat.le_of_ble_eq_true rfl)) (fr_cons (Or.inl (Nat.le_of_ble_eq_true rfl)) (fr_cons (Or.inl (Nat.le_of_ble_eq_true rfl)) (fr_cons (Or.inr (Nat.le_add_left 1000 _)) (fr_cons (Or.inl (Nat.le_of_ble_eq_true rfl)) (fr_nil)))))))))))), rfl⟩ fr_v rfl rfl rfl rfl ?_
    refine V.iload_n (i := 3) dX10_give_6 rfl rfl ?_
    obtain ⟨v3, hv3, hf⟩ := fbind hf
    have hc := ct_X10_needFisher (a0 := a3) hv3
    rcases hv3b : v3 with v4 | E9
    · rw [hv3b] at hc hf
      dsimp only [fth] at hf
      refine V.callSn (pl := []) (σ' := [.inl (5, [.ref 1, .ref 3, .ref 6, .ref 8, .ref 9]), .inl (3, [.ref 2]), .inr (910, .inl State_cells), .inl (1, [.ref 4, .ref 5, .int History_oldest, .int History_size, .int History_snapshotTaken]), .inr (5460, .inl History_saved), .inr (910, .inl History_snapshot), .inl (0, [.ref 7, .int Buffer_size]), .inr (60, .inl Buffer_codes), .inl (2, [.ref (Reader_pattern + 1000), .int Reader_place]), .inl (4, [.ref 10, .int Word_size]), .inr (8, .inl Word_letters)]) (st2 := []) (cl2 := 0) (sl2 := 0) hc dX10_give_7 w504 w505 cal_X10_needFisher ⟨⟨Nat.le_of_ble_eq_true rfl, Nat.le_of_ble_eq_true rfl⟩, Nat.le_of_ble_eq_true rfl, Nat.le_of_ble_eq_true rfl⟩ (Nat.le_of_ble_eq_true rfl) rfl ⟨rfl, ⟨by decide, by decide⟩, rfl, (fr_nil), rfl⟩ fr_v rfl rfl rfl rfl ?_
      refine V.aload_n (i := 0) dX10_give_10 rfl rfl ?_
      refine V.getfield (kf := 0) (v := .ref 1) fl_RX10 dX10_give_11 w181 (Nat.le_of_ble_eq_true rfl) rfl rfl ?_
      refine V.aload_n (i := 0) dX10_give_14 rfl rfl ?_
      refine V.getfield (kf := 4) (v := .ref 9) fl_RX10 dX10_give_15 w185 (Nat.le_of_ble_eq_true rfl) rfl rfl ?_
      refine V.iload_n (i := 1) dX10_give_18 rfl rfl ?_
      refine V.iload_n (i := 2) dX10_give_19 rfl rfl ?_
      refine V.iload_n (i := 3) dX10_give_20 rfl rfl ?_
      obtain ⟨v5, hv5, hf⟩ := fbind hf
      refine V.callSn (pl := [1, 2, 9, 10]) (σ' := [.inl (5, [.ref 1, .ref 3, .ref 6, .ref 8, .ref 9]), .inl (3, [.ref 2]), .inr (910, .inl State_cells), .inl (1, [.ref 4, .ref 5, .int History_oldest, .int History_size, .int History_snapshotTaken]), .inr (5460, .inl History_saved), .inr (910, .inl History_snapshot), .inl (0, [.ref 7, .int Buffer_size]), .inr (60, .inl Buffer_codes), .inl (2, [.ref (Reader_pattern + 1000), .int Reader_place]), .inl (4, [.ref 10, .int v5.2.1]), .inr (8, .inl v5.2.2)]) (st2 := [.int v5.1]) (cl2 := 0) (sl2 := 0) (ct_X4_whyNotGiven (a2 := a1) (a3 := a2) (a4 := a3) (State_cells := State_cells) (Word_size := Word_size) (Word_letters := Word_letters) hv5) dX10_give_21 w722 w723 cal_X4_whyNotGiven ⟨⟨Nat.le_of_ble_eq_true rfl, Nat.le_of_ble_eq_true rfl⟩, Nat.le_of_ble_eq_true rfl, Nat.le_of_ble_eq_true rfl⟩ (Nat.le_of_ble_eq_true rfl) rfl ⟨rfl, ⟨by decide, by decide⟩, rfl, (fr_cons (Or.inl (Nat.le_of_ble_eq_true rfl)) (fr_cons (Or.inl (Nat.le_of_ble_eq_true rfl)) (fr_nil))), rfl⟩ fr_i rfl rfl rfl rfl ?_
      refine V.if_eq (tgt := 37) dX10_give_24 (by decide) (fun h => ?_) (fun h => ?_)
      · have hf := fif_t h hf
        refine V.aload_n (i := 0) dX10_give_37 rfl rfl ?_
        refine V.getfield (kf := 1) (v := .ref 3) fl_RX10 dX10_give_38 w182 (Nat.le_of_ble_eq_true rfl) rfl rfl ?_
        refine V.aload_n (i := 0) dX10_give_41 rfl rfl ?_
        refine V.getfield (kf := 0) (v := .ref 1) fl_RX10 dX10_give_42 w181 (Nat.le_of_ble_eq_true rfl) rfl rfl ?_
        obtain ⟨v6, hv6, hf⟩ := fbind hf
        refine V.callVn (pl := [3, 4, 5, 1, 2]) (σ' := [.inl (5, [.ref 1, .ref 3, .ref 6, .ref 8, .ref 9]), .inl (3, [.ref 2]), .inr (910, .inl State_cells), .inl (1, [.ref 4, .ref 5, .int v6.1, .int v6.2.1, .int History_snapshotTaken]), .inr (5460, .inl v6.2.2), .inr (910, .inl History_snapshot), .inl (0, [.ref 7, .int Buffer_size]), .inr (60, .inl Buffer_codes), .inl (2, [.ref (Reader_pattern + 1000), .int Reader_place]), .inl (4, [.ref 10, .int v5.2.1]), .inr (8, .inl v5.2.2)]) (st2 := []) (cl2 := 0) (sl2 := 0) (ct_X3_push (History_oldest := History_oldest) (History_size := History_size) (History_snapshotTaken := History_snapshotTaken) (History_saved := History_saved) (History_snapshot := History_snapshot) (State_cells := State_cells) hv6) dX10_give_45 w652 ⟨w653, w654⟩ cal_X3_push rfl ⟨⟨Nat.le_of_ble_eq_true rfl, Nat.le_of_ble_eq_true rfl⟩, Nat.le_of_ble_eq_true rfl, Nat.le_of_ble_eq_true rfl⟩ (Nat.le_of_ble_eq_true rfl) (Or.inl ⟨_, _, _, _, rfl, rfl⟩) rfl ⟨rfl, ⟨by decide, by decide⟩, rfl, (fr_cons (Or.inl (Nat.le_of_ble_eq_true rfl)) (fr_cons (Or.inl (Nat.le_of_ble_eq_true rfl)) (fr_cons (Or.inl (Nat.le_of_ble_eq_true rfl)) (fr_nil)))), rfl⟩ fr_v rfl rfl rfl rfl ?_
        refine V.aload_n (i := 0) dX10_give_48 rfl rfl ?_
        refine V.getfield (kf := 0) (v := .ref 1) fl_RX10 dX10_give_49 w181 (Nat.le_of_ble_eq_true rfl) rfl rfl ?_
        refine V.aload_n (i := 0) dX10_give_52 rfl rfl ?_
        refine V.getfield (kf := 4) (v := .ref 9) fl_RX10 dX10_give_53 w185 (Nat.le_of_ble_eq_true rfl) rfl rfl ?_
        refine V.iload_n (i := 1) dX10_give_56 rfl rfl ?_
        refine V.iload_n (i := 2) dX10_give_57 rfl rfl ?_
        refine V.iload_n (i := 3) dX10_give_58 rfl rfl ?_
        obtain ⟨v7, hv7, hf⟩ := fbind hf
        refine V.callSn (pl := [1, 2, 9, 10]) (σ' := [.inl (5, [.ref 1, .ref 3, .ref 6, .ref 8, .ref 9]), .inl (3, [.ref 2]), .inr (910, .inl v7.2), .inl (1, [.ref 4, .ref 5, .int v6.1, .int v6.2.1, .int History_snapshotTaken]), .inr (5460, .inl v6.2.2), .inr (910, .inl History_snapshot), .inl (0, [.ref 7, .int Buffer_size]), .inr (60, .inl Buffer_codes), .inl (2, [.ref (Reader_pattern + 1000), .int Reader_place]), .inl (4, [.ref 10, .int v5.2.1]), .inr (8, .inl v5.2.2)]) (st2 := [.int v7.1]) (cl2 := 0) (sl2 := 0) (ct_X4_handOver (a2 := a1) (a3 := a2) (a4 := a3) (State_cells := State_cells) (Word_size := v5.2.1) (Word_letters := v5.2.2) hv7) dX10_give_59 w729 w730 cal_X4_handOver ⟨⟨Nat.le_of_ble_eq_true rfl, Nat.le_of_ble_eq_true rfl⟩, Nat.le_of_ble_eq_true rfl, Nat.le_of_ble_eq_true rfl⟩ (Nat.le_of_ble_eq_true rfl) rfl ⟨rfl, ⟨by decide, by decide⟩, rfl, (fr_cons (Or.inl (Nat.le_of_ble_eq_true rfl)) (fr_cons (Or.inl (Nat.le_of_ble_eq_true rfl)) (fr_nil))), rfl⟩ fr_i rfl rfl rfl rfl ?_
        obtain rfl := Option.some.inj hf
        exact V.iret dX10_give_62 rfl (Nat.le_of_ble_eq_true rfl) (Nat.le_of_ble_eq_true rfl) rfl
      · have hf := fif_f h hf
        obtain rfl := Option.some.inj hf
        exact V.throwS (i := 11) th_RX10_IllegalStateException_61 (List.mem_of_getElem? (i := 11) rfl) dX10_give_27 dX10_give_30 dX10_give_31 dX10_give_33 dX10_give_36 rfl (Nat.le_of_ble_eq_true rfl) (Nat.le_of_ble_eq_true rfl) ⟨Nat.le_of_ble_eq_true rfl, Nat.le_of_ble_eq_true rfl⟩ (Nat.le_of_ble_eq_true rfl) (Nat.le_of_ble_eq_true rfl) rfl
    · rw [hv3b] at hc hf
      dsimp only [fth] at hf
      obtain rfl := Option.some.inj hf
      refine V.callSx (pl := []) (σ' := [.inl (5, [.ref 1, .ref 3, .ref 6, .ref 8, .ref 9]), .inl (3, [.ref 2]), .inr (910, .inl State_cells), .inl (1, [.ref 4, .ref 5, .int History_oldest, .int History_size, .int History_snapshotTaken]), .inr (5460, .inl History_saved), .inr (910, .inl History_snapshot), .inl (0, [.ref 7, .int Buffer_size]), .inr (60, .inl Buffer_codes), .inl (2, [.ref (Reader_pattern + 1000), .int Reader_place]), .inl (4, [.ref 10, .int Word_size]), .inr (8, .inl Word_letters)]) hc dX10_give_7 w504 w505 cal_X10_needFisher ⟨⟨Nat.le_of_ble_eq_true rfl, Nat.le_of_ble_eq_true rfl⟩, Nat.le_of_ble_eq_true rfl, Nat.le_of_ble_eq_true rfl⟩ (Nat.le_of_ble_eq_true rfl) rfl ⟨rfl, ⟨by decide, by decide⟩, rfl, (fr_nil), rfl⟩ ?_
      exact VX.out rfl (Nat.le_of_ble_eq_true rfl) (Nat.le_of_ble_eq_true rfl) rfl
  · rw [hv1b] at hc hf
    dsimp only [fth] at hf
    obtain rfl := Option.some.inj hf
    refine V.callVx (pl := [0, 1, 2, 3, 4, 5, 6, 7, 8, 9, 10]) (σ' := [.inl (5, [.ref 1, .ref 3, .ref 6, .ref 8, .ref 9]), .inl (3, [.ref 2]), .inr (910, .inl State_cells), .inl (1, [.ref 4, .ref 5, .int History_oldest, .int History_size, .int History_snapshotTaken]), .inr (5460, .inl History_saved), .inr (910, .inl History_snapshot), .inl (0, [.ref 7, .int Buffer_size]), .inr (60, .inl Buffer_codes), .inl (2, [.ref (Reader_pattern + 1000), .int Reader_place]), .inl (4, [.ref 10, .int Word_size]), .inr (8, .inl Word_letters)]) hc dX10_give_3 w678 ⟨w680, w5⟩ cal_X10_needName rfl ⟨⟨Nat.le_of_ble_eq_true rfl, Nat.le_of_ble_eq_true rfl⟩, Nat.le_of_ble_eq_true rfl, Nat.le_of_ble_eq_true rfl⟩ (Nat.le_of_ble_eq_true rfl) (Or.inl ⟨_, _, _, _, rfl, rfl⟩) rfl ⟨rfl, ⟨by decide, by decide⟩, rfl, (fr_cons (Or.inl (Nat.le_of_ble_eq_true rfl)) (fr_cons (Or.inl (Nat.le_of_ble_eq_true rfl)) (fr_cons (Or.inl (Nat.le_of_ble_eq_true rfl)) (fr_cons (Or.inl (Nat.le_of_ble_eq_true rfl)) (fr_cons (Or.inl (Nat.le_of_ble_eq_true rfl)) (fr_cons (Or.inl (Nat.le_of_ble_eq_true rfl)) (fr_cons (Or.inl (Nat.le_of_ble_eq_true rfl)) (fr_cons (Or.inl (Nat.le_of_ble_eq_true rfl)) (fr_cons (Or.inl (Nat.le_of_ble_eq_true rfl)) (fr_cons (Or.inr (Nat.le_add_left 1000 _)) (fr_cons (Or.inl (Nat.le_of_ble_eq_true rfl)) (fr_nil)))))))))))), rfl⟩ ?_
    exact VX.out rfl (Nat.le_of_ble_eq_true rfl) (Nat.le_of_ble_eq_true rfl) rfl
def k_X10_storm : fK := (yX10_storm, cX10_storm, 2, (some .int), [], (7, 121), (0, 0), (1, 6))
theorem cal_X10_storm : fCal k_X10_storm 1 := ⟨⟨wc740, w67⟩, ⟨by decide +kernel, by decide +kernel⟩, by decide +kernel, by decide +kernel⟩
def s_X10_storm (a1 : Int32) (State_cells : Nat → Int32) (History_oldest : Int32) (History_size : Int32) (History_saved : Nat → Int32) : Option ((Int32 ⊕ String) × (Nat → Int32) × (Int32) × (Int32) × (Nat → Int32)) := (s_X10_needFisher a1).bind fun v1 => fth v1 (fun v2 => (s_X3_push History_oldest History_size History_saved State_cells).bind fun v3 => (s_X6_comeOver a1 State_cells).bind fun v4 => some (.inl v4.1, v4.2, v3.1, v3.2.1, v3.2.2)) (fun E9 => some (.inr E9, State_cells, History_oldest, History_size, History_saved))
set_option maxHeartbeats 4000000 in
set_option maxRecDepth 100000 in
theorem ct_X10_storm {a1 : Int32} {State_cells : Nat → Int32} {History_oldest : Int32} {History_size : Int32} {History_snapshotTaken : Int32} {History_saved : Nat → Int32} {History_snapshot : Nat → Int32} {Buffer_size : Int32} {Buffer_codes : Nat → Int32} {Reader_pattern : Nat} {Reader_place : Int32} {Word_size : Int32} {Word_letters : Nat → Int32} {res : (Int32 ⊕ String) × (Nat → Int32) × (Int32) × (Int32) × (Nat → Int32)} (hf : s_X10_storm a1 State_cells History_oldest History_size History_saved = some res) : Ct k_X10_storm [.ref 0, .int a1] [.inl (5, [.ref 1, .ref 3, .ref 6, .ref 8, .ref 9]), .inl (3, [.ref 2]), .inr (910, .inl State_cells), .inl (1, [.ref 4, .ref 5, .int History_oldest, .int History_size, .int History_snapshotTaken]), .inr (5460, .inl History_saved), .inr (910, .inl History_snapshot), .inl (0, [.ref 7, .int Buffer_size]), .inr (60, .inl Buffer_codes), .inl (2, [.ref (Reader_pattern + 1000), .int Reader_place]), .inl (4, [.ref 10, .int Word_size]), .inr (8, .inl Word_letters)] (foI res.1) [.inl (5, [.ref 1, .ref 3, .ref 6, .ref 8, .ref 9]), .inl (3, [.ref 2]), .inr (910, .inl res.2.1), .inl (1, [.ref 4, .ref 5, .int res.2.2.1, .int res.2.2.2.1, .int History_snapshotTaken]), .inr (5460, .inl res.2.2.2.2), .inr (910, .inl History_snapshot), .inl (0, [.ref 7, .int Buffer_size]), .inr (60, .inl Buffer_codes), .inl (2, [.ref (Reader_pattern + 1000), .int Reader_place]), .inl (4, [.ref 10, .int Word_size]), .inr (8, .inl Word_letters)] := by
  unfold s_X10_storm at hf
  refine Ct.of (L := [some (.ref 0), some (.int a1)]) cal_X10_storm (fent_pad (j := 0) rfl) (Nat.le_of_ble_eq_true rfl) ?_
  refine V.iload_n (i := 1) dX10_storm_0 rfl rfl ?_
  obtain ⟨v1, hv1, hf⟩ := fbind hf
  have hc := ct_X10_needFisher (a0 := a1) hv1
  rcases hv1b : v1 with v2 | E9
  · rw [hv1b] at hc hf
    dsimp only [fth] at hf
    refine V.callSn (pl := []) (σ' := [.inl (5, [.ref 1, .ref 3, .ref 6, .ref 8, .ref 9]), .inl (3, [.ref 2]), .inr (910, .inl State_cells), .inl (1, [.ref 4, .ref 5, .int History_oldest, .int History_size, .int History_snapshotTaken]), .inr (5460, .inl History_saved), .inr (910, .inl History_snapshot), .inl (0, [.ref 7, .int Buffer_size]), .inr (60, .inl Buffer_codes), .inl (2, [.ref (Reader_pattern + 1000), .int Reader_place]), .inl (4, [.ref 10, .int Word_size]), .inr (8, .inl Word_letters)]) (st2 := []) (cl2 := 0) (sl2 := 0) hc dX10_storm_1 w504 w505 cal_X10_needFisher ⟨⟨Nat.le_of_ble_eq_true rfl, Nat.le_of_ble_eq_true rfl⟩, Nat.le_of_ble_eq_true rfl, Nat.le_of_ble_eq_true rfl⟩ (Nat.le_of_ble_eq_true rfl) rfl ⟨rfl, ⟨by decide, by decide⟩, rfl, (fr_nil), rfl⟩ fr_v rfl rfl rfl rfl ?_
    refine V.aload_n (i := 0) dX10_storm_4 rfl rfl ?_
    refine V.getfield (kf := 1) (v := .ref 3) fl_RX10 dX10_storm_5 w182 (Nat.le_of_ble_eq_true rfl) rfl rfl ?_
    refine V.aload_n (i := 0) dX10_storm_8 rfl rfl ?_
    refine V.getfield (kf := 0) (v := .ref 1) fl_RX10 dX10_storm_9 w181 (Nat.le_of_ble_eq_true rfl) rfl rfl ?_
    obtain ⟨v3, hv3, hf⟩ := fbind hf
    refine V.callVn (pl := [3, 4, 5, 1, 2]) (σ' := [.inl (5, [.ref 1, .ref 3, .ref 6, .ref 8, .ref 9]), .inl (3, [.ref 2]), .inr (910, .inl State_cells), .inl (1, [.ref 4, .ref 5, .int v3.1, .int v3.2.1, .int History_snapshotTaken]), .inr (5460, .inl v3.2.2), .inr (910, .inl History_snapshot), .inl (0, [.ref 7, .int Buffer_size]), .inr (60, .inl Buffer_codes), .inl (2, [.ref (Reader_pattern + 1000), .int Reader_place]), .inl (4, [.ref 10, .int Word_size]), .inr (8, .inl Word_letters)]) (st2 := []) (cl2 := 0) (sl2 := 0) (ct_X3_push (History_oldest := History_oldest) (History_size := History_size) (History_snapshotTaken := History_snapshotTaken) (History_saved := History_saved) (History_snapshot := History_snapshot) (State_cells := State_cells) hv3) dX10_storm_12 w652 ⟨w653, w654⟩ cal_X3_push rfl ⟨⟨Nat.le_of_ble_eq_true rfl, Nat.le_of_ble_eq_true rfl⟩, Nat.le_of_ble_eq_true rfl, Nat.le_of_ble_eq_true rfl⟩ (Nat.le_of_ble_eq_true rfl) (Or.inl ⟨_, _, _, _, rfl, rfl⟩) rfl ⟨rfl, ⟨by decide, by decide⟩, rfl, (fr_cons (Or.inl (Nat.le_of_ble_eq_true rfl)) (fr_cons (Or.inl (Nat.le_of_ble_eq_true rfl)) (fr_cons (Or.inl (Nat.le_of_ble_eq_true rfl)) (fr_nil)))), rfl⟩ fr_v rfl rfl rfl rfl ?_
    refine V.aload_n (i := 0) dX10_storm_15 rfl rfl ?_
    refine V.getfield (kf := 0) (v := .ref 1) fl_RX10 dX10_storm_16 w181 (Nat.le_of_ble_eq_true rfl) rfl rfl ?_
    refine V.iload_n (i := 1) dX10_storm_19 rfl rfl ?_
    obtain ⟨v4, hv4, hf⟩ := fbind hf
    refine V.callSn (pl := [1, 2]) (σ' := [.inl (5, [.ref 1, .ref 3, .ref 6, .ref 8, .ref 9]), .inl (3, [.ref 2]), .inr (910, .inl v4.2), .inl (1, [.ref 4, .ref 5, .int v3.1, .int v3.2.1, .int History_snapshotTaken]), .inr (5460, .inl v3.2.2), .inr (910, .inl History_snapshot), .inl (0, [.ref 7, .int Buffer_size]), .inr (60, .inl Buffer_codes), .inl (2, [.ref (Reader_pattern + 1000), .int Reader_place]), .inl (4, [.ref 10, .int Word_size]), .inr (8, .inl Word_letters)]) (st2 := [.int v4.1]) (cl2 := 0) (sl2 := 0) (ct_X6_comeOver (a1 := a1) (State_cells := State_cells) hv4) dX10_storm_20 w741 w742 cal_X6_comeOver ⟨⟨Nat.le_of_ble_eq_true rfl, Nat.le_of_ble_eq_true rfl⟩, Nat.le_of_ble_eq_true rfl, Nat.le_of_ble_eq_true rfl⟩ (Nat.le_of_ble_eq_true rfl) rfl ⟨rfl, ⟨by decide, by decide⟩, rfl, (fr_cons (Or.inl (Nat.le_of_ble_eq_true rfl)) (fr_nil)), rfl⟩ fr_i rfl rfl rfl rfl ?_
    obtain rfl := Option.some.inj hf
    exact V.iret dX10_storm_23 rfl (Nat.le_of_ble_eq_true rfl) (Nat.le_of_ble_eq_true rfl) rfl
  · rw [hv1b] at hc hf
    dsimp only [fth] at hf
    obtain rfl := Option.some.inj hf
    refine V.callSx (pl := []) (σ' := [.inl (5, [.ref 1, .ref 3, .ref 6, .ref 8, .ref 9]), .inl (3, [.ref 2]), .inr (910, .inl State_cells), .inl (1, [.ref 4, .ref 5, .int History_oldest, .int History_size, .int History_snapshotTaken]), .inr (5460, .inl History_saved), .inr (910, .inl History_snapshot), .inl (0, [.ref 7, .int Buffer_size]), .inr (60, .inl Buffer_codes), .inl (2, [.ref (Reader_pattern + 1000), .int Reader_place]), .inl (4, [.ref 10, .int Word_size]), .inr (8, .inl Word_letters)]) hc dX10_storm_1 w504 w505 cal_X10_needFisher ⟨⟨Nat.le_of_ble_eq_true rfl, Nat.le_of_ble_eq_true rfl⟩, Nat.le_of_ble_eq_true rfl, Nat.le_of_ble_eq_true rfl⟩ (Nat.le_of_ble_eq_true rfl) rfl ⟨rfl, ⟨by decide, by decide⟩, rfl, (fr_nil), rfl⟩ ?_
    exact VX.out rfl (Nat.le_of_ble_eq_true rfl) (Nat.le_of_ble_eq_true rfl) rfl
def k_X10_belt : fK := (yX10_belt, cX10_belt, 4, (some .int), [], (7, 102), (0, 0), (1, 6))
theorem cal_X10_belt : fCal k_X10_belt 2 := ⟨⟨wc764, w67⟩, ⟨by decide +kernel, by decide +kernel⟩, by decide +kernel, by decide +kernel⟩
def s_X10_belt (a1 : Int32) (a2 : Int32) (State_cells : Nat → Int32) (History_oldest : Int32) (History_size : Int32) (History_saved : Nat → Int32) : Option ((Int32 ⊕ String) × (Nat → Int32) × (Int32) × (Int32) × (Nat → Int32)) := (s_X10_needFisher a1).bind fun v1 => fth v1 (fun v2 => if (a2 < 20 : Prop) then (some (.inr "java/lang/IllegalArgumentException", State_cells, History_oldest, History_size, History_saved)) else (if (a2 ≤ 120 : Prop) then ((s_X7_fisherCell a1 0).bind fun v3 => (s_X7_at v3 State_cells).bind fun v4 => (s_X7_left a1 State_cells).bind fun v5 => if ((v4 - v5) ≤ a2 : Prop) then ((s_X3_push History_oldest History_size History_saved State_cells).bind fun v6 => (s_X7_fisherCell a1 0).bind fun v7 => (s_X7_put v7 a2 State_cells).bind fun v8 => some (.inl v4, v8, v6.1, v6.2.1, v6.2.2)) else (some (.inr "java/lang/IllegalStateException", State_cells, History_oldest, History_size, History_saved))) else (some (.inr "java/lang/IllegalArgumentException", State_cells, History_oldest, History_size, History_saved)))) (fun E9 => some (.inr E9, State_cells, History_oldest, History_size, History_saved))
set_option maxHeartbeats 4000000 in
set_option maxRecDepth 100000 in
theorem ct_X10_belt {a1 : Int32} {a2 : Int32} {State_cells : Nat → Int32} {History_oldest : Int32} {History_size : Int32} {History_snapshotTaken : Int32} {History_saved : Nat → Int32} {History_snapshot : Nat → Int32} {Buffer_size : Int32} {Buffer_codes : Nat → Int32} {Reader_pattern : Nat} {Reader_place : Int32} {Word_size : Int32} {Word_letters : Nat → Int32} {res : (Int32 ⊕ String) × (Nat → Int32) × (Int32) × (Int32) × (Nat → Int32)} (hf : s_X10_belt a1 a2 State_cells History_oldest History_size History_saved = some res) : Ct k_X10_belt [.ref 0, .int a1, .int a2] [.inl (5, [.ref 1, .ref 3, .ref 6, .ref 8, .ref 9]), .inl (3, [.ref 2]), .inr (910, .inl State_cells), .inl (1, [.ref 4, .ref 5, .int History_oldest, .int History_size, .int History_snapshotTaken]), .inr (5460, .inl History_saved), .inr (910, .inl History_snapshot), .inl (0, [.ref 7, .int Buffer_size]), .inr (60, .inl Buffer_codes), .inl (2, [.ref (Reader_pattern + 1000), .int Reader_place]), .inl (4, [.ref 10, .int Word_size]), .inr (8, .inl Word_letters)] (foI res.1) [.inl (5, [.ref 1, .ref 3, .ref 6, .ref 8, .ref 9]), .inl (3, [.ref 2]), .inr (910, .inl res.2.1), .inl (1, [.ref 4, .ref 5, .int res.2.2.1, .int res.2.2.2.1, .int History_snapshotTaken]), .inr (5460, .inl res.2.2.2.2), .inr (910, .inl History_snapshot), .inl (0, [.ref 7, .int Buffer_size]), .inr (60, .inl Buffer_codes), .inl (2, [.ref (Reader_pattern + 1000), .int Reader_place]), .inl (4, [.ref 10, .int Word_size]), .inr (8, .inl Word_letters)] := by
  unfold s_X10_belt at hf
  refine Ct.of (L := [some (.ref 0), some (.int a1), some (.int a2), none]) cal_X10_belt (fent_pad (j := 1) rfl) (Nat.le_of_ble_eq_true rfl) ?_
  refine V.iload_n (i := 1) dX10_belt_0 rfl rfl ?_
  obtain ⟨v1, hv1, hf⟩ := fbind hf
  have hc := ct_X10_needFisher (a0 := a1) hv1
  rcases hv1b : v1 with v2 | E9
  · rw [hv1b] at hc hf
    dsimp only [fth] at hf
    refine V.callSn (pl := []) (σ' := [.inl (5, [.ref 1, .ref 3, .ref 6, .ref 8, .ref 9]), .inl (3, [.ref 2]), .inr (910, .inl State_cells), .inl (1, [.ref 4, .ref 5, .int History_oldest, .int History_size, .int History_snapshotTaken]), .inr (5460, .inl History_saved), .inr (910, .inl History_snapshot), .inl (0, [.ref 7, .int Buffer_size]), .inr (60, .inl Buffer_codes), .inl (2, [.ref (Reader_pattern + 1000), .int Reader_place]), .inl (4, [.ref 10, .int Word_size]), .inr (8, .inl Word_letters)]) (st2 := []) (cl2 := 0) (sl2 := 0) hc dX10_belt_1 w504 w505 cal_X10_needFisher ⟨⟨Nat.le_of_ble_eq_true rfl, Nat.le_of_ble_eq_true rfl⟩, Nat.le_of_ble_eq_true rfl, Nat.le_of_ble_eq_true rfl⟩ (Nat.le_of_ble_eq_true rfl) rfl ⟨rfl, ⟨by decide, by decide⟩, rfl, (fr_nil), rfl⟩ fr_v rfl rfl rfl rfl ?_
    refine V.iload_n (i := 2) dX10_belt_4 rfl rfl ?_
    refine V.bipush (v := 20) dX10_belt_5 rfl ?_
    refine V.icmp_lt (tgt := 16) dX10_belt_7 (by decide) (fun h => ?_) (fun h => ?_)
    · have hf := fif_t h hf
      obtain rfl := Option.some.inj hf
      exact V.throwS (i := 12) th_RX10_IllegalArgumentException_110 (List.mem_of_getElem? (i := 12) rfl) dX10_belt_16 dX10_belt_19 dX10_belt_20 dX10_belt_22 dX10_belt_25 rfl (Nat.le_of_ble_eq_true rfl) (Nat.le_of_ble_eq_true rfl) ⟨Nat.le_of_ble_eq_true rfl, Nat.le_of_ble_eq_true rfl⟩ (Nat.le_of_ble_eq_true rfl) (Nat.le_of_ble_eq_true rfl) rfl
    · have hf := fif_f h hf
      refine V.iload_n (i := 2) dX10_belt_10 rfl rfl ?_
      refine V.bipush (v := 120) dX10_belt_11 rfl ?_
      refine V.icmp_le (tgt := 26) dX10_belt_13 (by decide) (fun h => ?_) (fun h => ?_)
      · have hf := fif_t h hf
        refine V.aload_n (i := 0) dX10_belt_26 rfl rfl ?_
        refine V.getfield (kf := 0) (v := .ref 1) fl_RX10 dX10_belt_27 w181 (Nat.le_of_ble_eq_true rfl) rfl rfl ?_
        refine V.iload_n (i := 1) dX10_belt_30 rfl rfl ?_
        refine V.iconst (v := 0) dX10_belt_31 rfl ?_
        obtain ⟨v3, hv3, hf⟩ := fbind hf
        refine V.callSn (pl := []) (σ' := [.inl (5, [.ref 1, .ref 3, .ref 6, .ref 8, .ref 9]), .inl (3, [.ref 2]), .inr (910, .inl State_cells), .inl (1, [.ref 4, .ref 5, .int History_oldest, .int History_size, .int History_snapshotTaken]), .inr (5460, .inl History_saved), .inr (910, .inl History_snapshot), .inl (0, [.ref 7, .int Buffer_size]), .inr (60, .inl Buffer_codes), .inl (2, [.ref (Reader_pattern + 1000), .int Reader_place]), .inl (4, [.ref 10, .int Word_size]), .inr (8, .inl Word_letters)]) (st2 := [.int v3, .ref 1]) (cl2 := 0) (sl2 := 0) (ct_X7_fisherCell (a0 := a1) (a1 := 0) hv3) dX10_belt_32 w766 w111 cal_X7_fisherCell ⟨⟨Nat.le_of_ble_eq_true rfl, Nat.le_of_ble_eq_true rfl⟩, Nat.le_of_ble_eq_true rfl, Nat.le_of_ble_eq_true rfl⟩ (Nat.le_of_ble_eq_true rfl) rfl ⟨rfl, ⟨by decide, by decide⟩, rfl, (fr_nil), rfl⟩ fr_i rfl rfl rfl rfl ?_
        obtain ⟨v4, hv4, hf⟩ := fbind hf
        refine V.callVn (pl := [1, 2]) (σ' := [.inl (5, [.ref 1, .ref 3, .ref 6, .ref 8, .ref 9]), .inl (3, [.ref 2]), .inr (910, .inl State_cells), .inl (1, [.ref 4, .ref 5, .int History_oldest, .int History_size, .int History_snapshotTaken]), .inr (5460, .inl History_saved), .inr (910, .inl History_snapshot), .inl (0, [.ref 7, .int Buffer_size]), .inr (60, .inl Buffer_codes), .inl (2, [.ref (Reader_pattern + 1000), .int Reader_place]), .inl (4, [.ref 10, .int Word_size]), .inr (8, .inl Word_letters)]) (st2 := [.int v4]) (cl2 := 0) (sl2 := 0) (ct_X7_at (a1 := v3) (State_cells := State_cells) hv4) dX10_belt_35 w482 ⟨w314, w315⟩ cal_X7_at rfl ⟨⟨Nat.le_of_ble_eq_true rfl, Nat.le_of_ble_eq_true rfl⟩, Nat.le_of_ble_eq_true rfl, Nat.le_of_ble_eq_true rfl⟩ (Nat.le_of_ble_eq_true rfl) (Or.inl ⟨_, _, _, _, rfl, rfl⟩) rfl ⟨rfl, ⟨by decide, by decide⟩, rfl, (fr_cons (Or.inl (Nat.le_of_ble_eq_true rfl)) (fr_nil)), rfl⟩ fr_i rfl rfl rfl rfl ?_
        refine V.istore_n (i := 3) (L' := [some (.ref 0), some (.int a1), some (.int a2), some (.int v4)]) dX10_belt_38 rfl (Nat.le_of_ble_eq_true rfl) rfl rfl ?_
        refine V.iload_n (i := 3) dX10_belt_39 rfl rfl ?_
        refine V.aload_n (i := 0) dX10_belt_40 rfl rfl ?_
        refine V.getfield (kf := 0) (v := .ref 1) fl_RX10 dX10_belt_41 w181 (Nat.le_of_ble_eq_true rfl) rfl rfl ?_
        refine V.iload_n (i := 1) dX10_belt_44 rfl rfl ?_
        obtain ⟨v5, hv5, hf⟩ := fbind hf
        refine V.callVn (pl := [1, 2]) (σ' := [.inl (5, [.ref 1, .ref 3, .ref 6, .ref 8, .ref 9]), .inl (3, [.ref 2]), .inr (910, .inl State_cells), .inl (1, [.ref 4, .ref 5, .int History_oldest, .int History_size, .int History_snapshotTaken]), .inr (5460, .inl History_saved), .inr (910, .inl History_snapshot), .inl (0, [.ref 7, .int Buffer_size]), .inr (60, .inl Buffer_codes), .inl (2, [.ref (Reader_pattern + 1000), .int Reader_place]), .inl (4, [.ref 10, .int Word_size]), .inr (8, .inl Word_letters)]) (st2 := [.int v5, .int v4]) (cl2 := 0) (sl2 := 0) (ct_X7_left (a1 := a1) (State_cells := State_cells) hv5) dX10_belt_45 w767 ⟨w417, w418⟩ cal_X7_left rfl ⟨⟨Nat.le_of_ble_eq_true rfl, Nat.le_of_ble_eq_true rfl⟩, Nat.le_of_ble_eq_true rfl, Nat.le_of_ble_eq_true rfl⟩ (Nat.le_of_ble_eq_true rfl) (Or.inl ⟨_, _, _, _, rfl, rfl⟩) rfl ⟨rfl, ⟨by decide, by decide⟩, rfl, (fr_cons (Or.inl (Nat.le_of_ble_eq_true rfl)) (fr_nil)), rfl⟩ fr_i rfl rfl rfl rfl ?_
        refine V.isub dX10_belt_48 ?_
        refine V.iload_n (i := 2) dX10_belt_49 rfl rfl ?_
        refine V.icmp_le (tgt := 63) dX10_belt_50 (by decide) (fun h => ?_) (fun h => ?_)
        · have hf := fif_t h hf
          refine V.aload_n (i := 0) dX10_belt_63 rfl rfl ?_
          refine V.getfield (kf := 1) (v := .ref 3) fl_RX10 dX10_belt_64 w182 (Nat.le_of_ble_eq_true rfl) rfl rfl ?_
          refine V.aload_n (i := 0) dX10_belt_67 rfl rfl ?_
          refine V.getfield (kf := 0) (v := .ref 1) fl_RX10 dX10_belt_68 w181 (Nat.le_of_ble_eq_true rfl) rfl rfl ?_
          obtain ⟨v6, hv6, hf⟩ := fbind hf
          refine V.callVn (pl := [3, 4, 5, 1, 2]) (σ' := [.inl (5, [.ref 1, .ref 3, .ref 6, .ref 8, .ref 9]), .inl (3, [.ref 2]), .inr (910, .inl State_cells), .inl (1, [.ref 4, .ref 5, .int v6.1, .int v6.2.1, .int History_snapshotTaken]), .inr (5460, .inl v6.2.2), .inr (910, .inl History_snapshot), .inl (0, [.ref 7, .int Buffer_size]), .inr (60, .inl Buffer_codes), .inl (2, [.ref (Reader_pattern + 1000), .int Reader_place]), .inl (4, [.ref 10, .int Word_size]), .inr (8, .inl Word_letters)]) (st2 := []) (cl2 := 0) (sl2 := 0) (ct_X3_push (History_oldest := History_oldest) (History_size := History_size) (History_snapshotTaken := History_snapshotTaken) (History_saved := History_saved) (History_snapshot := History_snapshot) (State_cells := State_cells) hv6) dX10_belt_71 w652 ⟨w653, w654⟩ cal_X3_push rfl ⟨⟨Nat.le_of_ble_eq_true rfl, Nat.le_of_ble_eq_true rfl⟩, Nat.le_of_ble_eq_true rfl, Nat.le_of_ble_eq_true rfl⟩ (Nat.le_of_ble_eq_true rfl) (Or.inl ⟨_, _, _, _, rfl, rfl⟩) rfl ⟨rfl, ⟨by decide, by decide⟩, rfl, (fr_cons (Or.inl (Nat.le_of_ble_eq_true rfl)) (fr_cons (Or.inl (Nat.le_of_ble_eq_true rfl)) (fr_cons (Or.inl (Nat.le_of_ble_eq_true rfl)) (fr_nil)))), rfl⟩ fr_v rfl rfl rfl rfl ?_
          refine V.aload_n (i := 0) dX10_belt_74 rfl rfl ?_
          refine V.getfield (kf := 0) (v := .ref 1) fl_RX10 dX10_belt_75 w181 (Nat.le_of_ble_eq_true rfl) rfl rfl ?_
          refine V.iload_n (i := 1) dX10_belt_78 rfl rfl ?_
          refine V.iconst (v := 0) dX10_belt_79 rfl ?_
          obtain ⟨v7, hv7, hf⟩ := fbind hf
          refine V.callSn (pl := []) (σ' := [.inl (5, [.ref 1, .ref 3, .ref 6, .ref 8, .ref 9]), .inl (3, [.ref 2]), .inr (910, .inl State_cells), .inl (1, [.ref 4, .ref 5, .int v6.1, .int v6.2.1, .int History_snapshotTaken]), .inr (5460, .inl v6.2.2), .inr (910, .inl History_snapshot), .inl (0, [.ref 7, .int Buffer_size]), .inr (60, .inl Buffer_codes), .inl (2, [.ref (Reader_pattern + 1000), .int Reader_place]), .inl (4, [.ref 10, .int Word_size]), .inr (8, .inl Word_letters)]) (st2 := [.int v7, .ref 1]) (cl2 := 0) (sl2 := 0) (ct_X7_fisherCell (a0 := a1) (a1 := 0) hv7) dX10_belt_80 w766 w111 cal_X7_fisherCell ⟨⟨Nat.le_of_ble_eq_true rfl, Nat.le_of_ble_eq_true rfl⟩, Nat.le_of_ble_eq_true rfl, Nat.le_of_ble_eq_true rfl⟩ (Nat.le_of_ble_eq_true rfl) rfl ⟨rfl, ⟨by decide, by decide⟩, rfl, (fr_nil), rfl⟩ fr_i rfl rfl rfl rfl ?_
          refine V.iload_n (i := 2) dX10_belt_83 rfl rfl ?_
          obtain ⟨v8, hv8, hf⟩ := fbind hf
          refine V.callVn (pl := [1, 2]) (σ' := [.inl (5, [.ref 1, .ref 3, .ref 6, .ref 8, .ref 9]), .inl (3, [.ref 2]), .inr (910, .inl v8), .inl (1, [.ref 4, .ref 5, .int v6.1, .int v6.2.1, .int History_snapshotTaken]), .inr (5460, .inl v6.2.2), .inr (910, .inl History_snapshot), .inl (0, [.ref 7, .int Buffer_size]), .inr (60, .inl Buffer_codes), .inl (2, [.ref (Reader_pattern + 1000), .int Reader_place]), .inl (4, [.ref 10, .int Word_size]), .inr (8, .inl Word_letters)]) (st2 := []) (cl2 := 0) (sl2 := 0) (ct_X7_put (a1 := v7) (a2 := a2) (State_cells := State_cells) hv8) dX10_belt_84 w769 ⟨w107, w108⟩ cal_X7_put rfl ⟨⟨Nat.le_of_ble_eq_true rfl, Nat.le_of_ble_eq_true rfl⟩, Nat.le_of_ble_eq_true rfl, Nat.le_of_ble_eq_true rfl⟩ (Nat.le_of_ble_eq_true rfl) (Or.inl ⟨_, _, _, _, rfl, rfl⟩) rfl ⟨rfl, ⟨by decide, by decide⟩, rfl, (fr_cons (Or.inl (Nat.le_of_ble_eq_true rfl)) (fr_nil)), rfl⟩ fr_v rfl rfl rfl rfl ?_
          refine V.iload_n (i := 3) dX10_belt_87 rfl rfl ?_
          obtain rfl := Option.some.inj hf
          exact V.iret dX10_belt_88 rfl (Nat.le_of_ble_eq_true rfl) (Nat.le_of_ble_eq_true rfl) rfl
        · have hf := fif_f h hf
          obtain rfl := Option.some.inj hf
          exact V.throwS (i := 13) th_RX10_IllegalStateException_61 (List.mem_of_getElem? (i := 13) rfl) dX10_belt_53 dX10_belt_56 dX10_belt_57 dX10_belt_59 dX10_belt_62 rfl (Nat.le_of_ble_eq_true rfl) (Nat.le_of_ble_eq_true rfl) ⟨Nat.le_of_ble_eq_true rfl, Nat.le_of_ble_eq_true rfl⟩ (Nat.le_of_ble_eq_true rfl) (Nat.le_of_ble_eq_true rfl) rfl
      · have hf := fif_f h hf
        obtain rfl := Option.some.inj hf
        exact V.throwS (i := 12) th_RX10_IllegalArgumentException_110 (List.mem_of_getElem? (i := 12) rfl) dX10_belt_16 dX10_belt_19 dX10_belt_20 dX10_belt_22 dX10_belt_25 rfl (Nat.le_of_ble_eq_true rfl) (Nat.le_of_ble_eq_true rfl) ⟨Nat.le_of_ble_eq_true rfl, Nat.le_of_ble_eq_true rfl⟩ (Nat.le_of_ble_eq_true rfl) (Nat.le_of_ble_eq_true rfl) rfl
  · rw [hv1b] at hc hf
    dsimp only [fth] at hf
    obtain rfl := Option.some.inj hf
    refine V.callSx (pl := []) (σ' := [.inl (5, [.ref 1, .ref 3, .ref 6, .ref 8, .ref 9]), .inl (3, [.ref 2]), .inr (910, .inl State_cells), .inl (1, [.ref 4, .ref 5, .int History_oldest, .int History_size, .int History_snapshotTaken]), .inr (5460, .inl History_saved), .inr (910, .inl History_snapshot), .inl (0, [.ref 7, .int Buffer_size]), .inr (60, .inl Buffer_codes), .inl (2, [.ref (Reader_pattern + 1000), .int Reader_place]), .inl (4, [.ref 10, .int Word_size]), .inr (8, .inl Word_letters)]) hc dX10_belt_1 w504 w505 cal_X10_needFisher ⟨⟨Nat.le_of_ble_eq_true rfl, Nat.le_of_ble_eq_true rfl⟩, Nat.le_of_ble_eq_true rfl, Nat.le_of_ble_eq_true rfl⟩ (Nat.le_of_ble_eq_true rfl) rfl ⟨rfl, ⟨by decide, by decide⟩, rfl, (fr_nil), rfl⟩ ?_
    exact VX.out rfl (Nat.le_of_ble_eq_true rfl) (Nat.le_of_ble_eq_true rfl) rfl
def k_X10_set : fK := (yX10_set, cX10_set, 6, (some .int), [], (6, 83), (0, 0), (1, 6))
theorem cal_X10_set : fCal k_X10_set 2 := ⟨⟨wc776, w67⟩, ⟨by decide +kernel, by decide +kernel⟩, by decide +kernel, by decide +kernel⟩
def s_X10_set (a1 : Int32) (a2 : Int32) (State_cells : Nat → Int32) (History_oldest : Int32) (History_size : Int32) (History_saved : Nat → Int32) : Option ((Int32 ⊕ String) × (Nat → Int32) × (Int32) × (Int32) × (Nat → Int32)) := if (a1 = 0 : Prop) then (if (a1 = 0 : Prop) then (if (a1 = 0 : Prop) then (if (a2 < 1 : Prop) then (some (.inr "java/lang/IllegalArgumentException", State_cells, History_oldest, History_size, History_saved)) else (if (a2 ≤ 9 : Prop) then ((s_X3_push History_oldest History_size History_saved State_cells).bind fun v10 => (s_X7_at (1 + a1) State_cells).bind fun v11 => (s_X7_put (1 + a1) a2 State_cells).bind fun v12 => some (.inl v11, v12, v10.1, v10.2.1, v10.2.2)) else (some (.inr "java/lang/IllegalArgumentException", State_cells, History_oldest, History_size, History_saved)))) else (if (a2 < 1 : Prop) then (some (.inr "java/lang/IllegalArgumentException", State_cells, History_oldest, History_size, History_saved)) else (if (a2 ≤ 8 : Prop) then ((s_X3_push History_oldest History_size History_saved State_cells).bind fun v7 => (s_X7_at (1 + a1) State_cells).bind fun v8 => (s_X7_put (1 + a1) a2 State_cells).bind fun v9 => some (.inl v8, v9, v7.1, v7.2.1, v7.2.2)) else (some (.inr "java/lang/IllegalArgumentException", State_cells, History_oldest, History_size, History_saved))))) else (if (a1 = 0 : Prop) then (if (a2 < 0 : Prop) then (some (.inr "java/lang/IllegalArgumentException", State_cells, History_oldest, History_size, History_saved)) else (if (a2 ≤ 9 : Prop) then ((s_X3_push History_oldest History_size History_saved State_cells).bind fun v4 => (s_X7_at (1 + a1) State_cells).bind fun v5 => (s_X7_put (1 + a1) a2 State_cells).bind fun v6 => some (.inl v5, v6, v4.1, v4.2.1, v4.2.2)) else (some (.inr "java/lang/IllegalArgumentException", State_cells, History_oldest, History_size, History_saved)))) else (if (a2 < 0 : Prop) then (some (.inr "java/lang/IllegalArgumentException", State_cells, History_oldest, History_size, History_saved)) else (if (a2 ≤ 8 : Prop) then ((s_X3_push History_oldest History_size History_saved State_cells).bind fun v1 => (s_X7_at (1 + a1) State_cells).bind fun v2 => (s_X7_put (1 + a1) a2 State_cells).bind fun v3 => some (.inl v2, v3, v1.1, v1.2.1, v1.2.2)) else (some (.inr "java/lang/IllegalArgumentException", State_cells, History_oldest, History_size, History_saved)))))) else (if (a1 = 1 : Prop) then (if (a1 = 0 : Prop) then (if (a1 = 0 : Prop) then (if (a2 < 1 : Prop) then (some (.inr "java/lang/IllegalArgumentException", State_cells, History_oldest, History_size, History_saved)) else (if (a2 ≤ 9 : Prop) then ((s_X3_push History_oldest History_size History_saved State_cells).bind fun v22 => (s_X7_at (1 + a1) State_cells).bind fun v23 => (s_X7_put (1 + a1) a2 State_cells).bind fun v24 => some (.inl v23, v24, v22.1, v22.2.1, v22.2.2)) else (some (.inr "java/lang/IllegalArgumentException", State_cells, History_oldest, History_size, History_saved)))) else (if (a2 < 1 : Prop) then (some (.inr "java/lang/IllegalArgumentException", State_cells, History_oldest, History_size, History_saved)) else (if (a2 ≤ 8 : Prop) then ((s_X3_push History_oldest History_size History_saved State_cells).bind fun v19 => (s_X7_at (1 + a1) State_cells).bind fun v20 => (s_X7_put (1 + a1) a2 State_cells).bind fun v21 => some (.inl v20, v21, v19.1, v19.2.1, v19.2.2)) else (some (.inr "java/lang/IllegalArgumentException", State_cells, History_oldest, History_size, History_saved))))) else (if (a1 = 0 : Prop) then (if (a2 < 0 : Prop) then (some (.inr "java/lang/IllegalArgumentException", State_cells, History_oldest, History_size, History_saved)) else (if (a2 ≤ 9 : Prop) then ((s_X3_push History_oldest History_size History_saved State_cells).bind fun v16 => (s_X7_at (1 + a1) State_cells).bind fun v17 => (s_X7_put (1 + a1) a2 State_cells).bind fun v18 => some (.inl v17, v18, v16.1, v16.2.1, v16.2.2)) else (some (.inr "java/lang/IllegalArgumentException", State_cells, History_oldest, History_size, History_saved)))) else (if (a2 < 0 : Prop) then (some (.inr "java/lang/IllegalArgumentException", State_cells, History_oldest, History_size, History_saved)) else (if (a2 ≤ 8 : Prop) then ((s_X3_push History_oldest History_size History_saved State_cells).bind fun v13 => (s_X7_at (1 + a1) State_cells).bind fun v14 => (s_X7_put (1 + a1) a2 State_cells).bind fun v15 => some (.inl v14, v15, v13.1, v13.2.1, v13.2.2)) else (some (.inr "java/lang/IllegalArgumentException", State_cells, History_oldest, History_size, History_saved)))))) else (some (.inr "java/lang/IndexOutOfBoundsException", State_cells, History_oldest, History_size, History_saved)))
set_option maxHeartbeats 4000000 in
set_option maxRecDepth 100000 in
theorem ct_X10_set {a1 : Int32} {a2 : Int32} {State_cells : Nat → Int32} {History_oldest : Int32} {History_size : Int32} {History_snapshotTaken : Int32} {History_saved : Nat → Int32} {History_snapshot : Nat → Int32} {Buffer_size : Int32} {Buffer_codes : Nat → Int32} {Reader_pattern : Nat} {Reader_place : Int32} {Word_size : Int32} {Word_letters : Nat → Int32} {res : (Int32 ⊕ String) × (Nat → Int32) × (Int32) × (Int32) × (Nat → Int32)} (hf : s_X10_set a1 a2 State_cells History_oldest History_size History_saved = some res) : Ct k_X10_set [.ref 0, .int a1, .int a2] [.inl (5, [.ref 1, .ref 3, .ref 6, .ref 8, .ref 9]), .inl (3, [.ref 2]), .inr (910, .inl State_cells), .inl (1, [.ref 4, .ref 5, .int History_oldest, .int History_size, .int History_snapshotTaken]), .inr (5460, .inl History_saved), .inr (910, .inl History_snapshot), .inl (0, [.ref 7, .int Buffer_size]), .inr (60, .inl Buffer_codes), .inl (2, [.ref (Reader_pattern + 1000), .int Reader_place]), .inl (4, [.ref 10, .int Word_size]), .inr (8, .inl Word_letters)] (foI res.1) [.inl (5, [.ref 1, .ref 3, .ref 6, .ref 8, .ref 9]), .inl (3, [.ref 2]), .inr (910, .inl res.2.1), .inl (1, [.ref 4, .ref 5, .int res.2.2.1, .int res.2.2.2.1, .int History_snapshotTaken]), .inr (5460, .inl res.2.2.2.2), .inr (910, .inl History_snapshot), .inl (0, [.ref 7, .int Buffer_size]), .inr (60, .inl Buffer_codes), .inl (2, [.ref (Reader_pattern + 1000), .int Reader_place]), .inl (4, [.ref 10, .int Word_size]), .inr (8, .inl Word_letters)] := by
  unfold s_X10_set at hf
  refine Ct.of (L := [some (.ref 0), some (.int a1), some (.int a2), none, none, none]) cal_X10_set (fent_pad (j := 3) rfl) (Nat.le_of_ble_eq_true rfl) ?_
  refine V.iload_n (i := 1) dX10_set_0 rfl rfl ?_
  refine V.if_eq (tgt := 19) dX10_set_1 (by decide) (fun h => ?_) (fun h => ?_)
  · have hf := fif_t h hf
    refine V.iload_n (i := 1) dX10_set_19 rfl rfl ?_
    refine V.if_ne (tgt := 27) dX10_set_20 (by decide) (fun h => ?_) (fun h => ?_)
    · have hf := fif_f h hf
      refine V.iconst (v := 0) dX10_set_27 rfl ?_
      refine V.istore_n (i := 3) (L' := [some (.ref 0), some (.int a1), some (.int a2), some (.int 0), none, none]) dX10_set_28 rfl (Nat.le_of_ble_eq_true rfl) rfl rfl ?_
      refine V.iload_n (i := 1) dX10_set_29 rfl rfl ?_
      refine V.if_ne (tgt := 38) dX10_set_30 (by decide) (fun h => ?_) (fun h => ?_)
      · have hf := fif_f h hf
        refine V.bipush (v := 8) dX10_set_38 rfl ?_
        refine V.istore (i := 4) (L' := [some (.ref 0), some (.int a1), some (.int a2), some (.int 0), some (.int 8), none]) dX10_set_40 (Nat.le_of_ble_eq_true rfl) rfl rfl ?_
        refine V.iload_n (i := 2) dX10_set_42 rfl rfl ?_
        refine V.iload_n (i := 3) dX10_set_43 rfl rfl ?_
        refine V.icmp_lt (tgt := 53) dX10_set_44 (by decide) (fun h => ?_) (fun h => ?_)
        · have hf := fif_t h hf
          obtain rfl := Option.some.inj hf
          exact V.throwS (i := 15) th_RX10_IllegalArgumentException_110 (List.mem_of_getElem? (i := 15) rfl) dX10_set_53 dX10_set_56 dX10_set_57 dX10_set_59 dX10_set_62 rfl (Nat.le_of_ble_eq_true rfl) (Nat.le_of_ble_eq_true rfl) ⟨Nat.le_of_ble_eq_true rfl, Nat.le_of_ble_eq_true rfl⟩ (Nat.le_of_ble_eq_true rfl) (Nat.le_of_ble_eq_true rfl) rfl
        · have hf := fif_f h hf
          refine V.iload_n (i := 2) dX10_set_47 rfl rfl ?_
          refine V.iload (i := 4) dX10_set_48 rfl ?_
          refine V.icmp_le (tgt := 63) dX10_set_50 (by decide) (fun h => ?_) (fun h => ?_)
          · have hf := fif_t h hf
            refine V.aload_n (i := 0) dX10_set_63 rfl rfl ?_
            refine V.getfield (kf := 1) (v := .ref 3) fl_RX10 dX10_set_64 w182 (Nat.le_of_ble_eq_true rfl) rfl rfl ?_
            refine V.aload_n (i := 0) dX10_set_67 rfl rfl ?_
            refine V.getfield (kf := 0) (v := .ref 1) fl_RX10 dX10_set_68 w181 (Nat.le_of_ble_eq_true rfl) rfl rfl ?_
            obtain ⟨v1, hv1, hf⟩ := fbind hf
            refine V.callVn (pl := [3, 4, 5, 1, 2]) (σ' := [.inl (5, [.ref 1, .ref 3, .ref 6, .ref 8, .ref 9]), .inl (3, [.ref 2]), .inr (910, .inl State_cells), .inl (1, [.ref 4, .ref 5, .int v1.1, .int v1.2.1, .int History_snapshotTaken]), .inr (5460, .inl v1.2.2), .inr (910, .inl History_snapshot), .inl (0, [.ref 7, .int Buffer_size]), .inr (60, .inl Buffer_codes), .inl (2, [.ref (Reader_pattern + 1000), .int Reader_place]), .inl (4, [.ref 10, .int Word_size]), .inr (8, .inl Word_letters)]) (st2 := []) (cl2 := 0) (sl2 := 0) (ct_X3_push (History_oldest := History_oldest) (History_size := History_size) (History_snapshotTaken := History_snapshotTaken) (History_saved := History_saved) (History_snapshot := History_snapshot) (State_cells := State_cells) hv1) dX10_set_71 w652 ⟨w653, w654⟩ cal_X3_push rfl ⟨⟨Nat.le_of_ble_eq_true rfl, Nat.le_of_ble_eq_true rfl⟩, Nat.le_of_ble_eq_true rfl, Nat.le_of_ble_eq_true rfl⟩ (Nat.le_of_ble_eq_true rfl) (Or.inl ⟨_, _, _, _, rfl, rfl⟩) rfl ⟨rfl, ⟨by decide, by decide⟩, rfl, (fr_cons (Or.inl (Nat.le_of_ble_eq_true rfl)) (fr_cons (Or.inl (Nat.le_of_ble_eq_true rfl)) (fr_cons (Or.inl (Nat.le_of_ble_eq_true rfl)) (fr_nil)))), rfl⟩ fr_v rfl rfl rfl rfl ?_
            refine V.aload_n (i := 0) dX10_set_74 rfl rfl ?_
            refine V.getfield (kf := 0) (v := .ref 1) fl_RX10 dX10_set_75 w181 (Nat.le_of_ble_eq_true rfl) rfl rfl ?_
            refine V.iconst (v := 1) dX10_set_78 rfl ?_
            refine V.iload_n (i := 1) dX10_set_79 rfl rfl ?_
            refine V.iadd dX10_set_80 ?_
            obtain ⟨v2, hv2, hf⟩ := fbind hf
            refine V.callVn (pl := [1, 2]) (σ' := [.inl (5, [.ref 1, .ref 3, .ref 6, .ref 8, .ref 9]), .inl (3, [.ref 2]), .inr (910, .inl State_cells), .inl (1, [.ref 4, .ref 5, .int v1.1, .int v1.2.1, .int History_snapshotTaken]), .inr (5460, .inl v1.2.2), .inr (910, .inl History_snapshot), .inl (0, [.ref 7, .int Buffer_size]), .inr (60, .inl Buffer_codes), .inl (2, [.ref (Reader_pattern + 1000), .int Reader_place]), .inl (4, [.ref 10, .int Word_size]), .inr (8, .inl Word_letters)]) (st2 := [.int v2]) (cl2 := 0) (sl2 := 0) (ct_X7_at (a1 := (1 + a1)) (State_cells := State_cells) hv2) dX10_set_81 w482 ⟨w314, w315⟩ cal_X7_at rfl ⟨⟨Nat.le_of_ble_eq_true rfl, Nat.le_of_ble_eq_true rfl⟩, Nat.le_of_ble_eq_true rfl, Nat.le_of_ble_eq_true rfl⟩ (Nat.le_of_ble_eq_true rfl) (Or.inl ⟨_, _, _, _, rfl, rfl⟩) rfl ⟨rfl, ⟨by decide, by decide⟩, rfl, (fr_cons (Or.inl (Nat.le_of_ble_eq_true rfl)) (fr_nil)), rfl⟩ fr_i rfl rfl rfl rfl ?_
            refine V.istore (i := 5) (L' := [some (.ref 0), some (.int a1), some (.int a2), some (.int 0), some (.int 8), some (.int v2)]) dX10_set_84 (Nat.le_of_ble_eq_true rfl) rfl rfl ?_
            refine V.aload_n (i := 0) dX10_set_86 rfl rfl ?_
            refine V.getfield (kf := 0) (v := .ref 1) fl_RX10 dX10_set_87 w181 (Nat.le_of_ble_eq_true rfl) rfl rfl ?_
            refine V.iconst (v := 1) dX10_set_90 rfl ?_
            refine V.iload_n (i := 1) dX10_set_91 rfl rfl ?_
            refine V.iadd dX10_set_92 ?_
            refine V.iload_n (i := 2) dX10_set_93 rfl rfl ?_
            obtain ⟨v3, hv3, hf⟩ := fbind hf
            refine V.callVn (pl := [1, 2]) (σ' := [.inl (5, [.ref 1, .ref 3, .ref 6, .ref 8, .ref 9]), .inl (3, [.ref 2]), .inr (910, .inl v3), .inl (1, [.ref 4, .ref 5, .int v1.1, .int v1.2.1, .int History_snapshotTaken]), .inr (5460, .inl v1.2.2), .inr (910, .inl History_snapshot), .inl (0, [.ref 7, .int Buffer_size]), .inr (60, .inl Buffer_codes), .inl (2, [.ref (Reader_pattern + 1000), .int Reader_place]), .inl (4, [.ref 10, .int Word_size]), .inr (8, .inl Word_letters)]) (st2 := []) (cl2 := 0) (sl2 := 0) (ct_X7_put (a1 := (1 + a1)) (a2 := a2) (State_cells := State_cells) hv3) dX10_set_94 w769 ⟨w107, w108⟩ cal_X7_put rfl ⟨⟨Nat.le_of_ble_eq_true rfl, Nat.le_of_ble_eq_true rfl⟩, Nat.le_of_ble_eq_true rfl, Nat.le_of_ble_eq_true rfl⟩ (Nat.le_of_ble_eq_true rfl) (Or.inl ⟨_, _, _, _, rfl, rfl⟩) rfl ⟨rfl, ⟨by decide, by decide⟩, rfl, (fr_cons (Or.inl (Nat.le_of_ble_eq_true rfl)) (fr_nil)), rfl⟩ fr_v rfl rfl rfl rfl ?_
            refine V.iload (i := 5) dX10_set_97 rfl ?_
            obtain rfl := Option.some.inj hf
            exact V.iret dX10_set_99 rfl (Nat.le_of_ble_eq_true rfl) (Nat.le_of_ble_eq_true rfl) rfl
          · have hf := fif_f h hf
            obtain rfl := Option.some.inj hf
            exact V.throwS (i := 15) th_RX10_IllegalArgumentException_110 (List.mem_of_getElem? (i := 15) rfl) dX10_set_53 dX10_set_56 dX10_set_57 dX10_set_59 dX10_set_62 rfl (Nat.le_of_ble_eq_true rfl) (Nat.le_of_ble_eq_true rfl) ⟨Nat.le_of_ble_eq_true rfl, Nat.le_of_ble_eq_true rfl⟩ (Nat.le_of_ble_eq_true rfl) (Nat.le_of_ble_eq_true rfl) rfl
      · have hf := fif_t h hf
        refine V.bipush (v := 9) dX10_set_33 rfl ?_
        refine V.goto (tgt := 40) dX10_set_35 (by decide) ?_
        refine V.istore (i := 4) (L' := [some (.ref 0), some (.int a1), some (.int a2), some (.int 0), some (.int 9), none]) dX10_set_40 (Nat.le_of_ble_eq_true rfl) rfl rfl ?_
        refine V.iload_n (i := 2) dX10_set_42 rfl rfl ?_
        refine V.iload_n (i := 3) dX10_set_43 rfl rfl ?_
        refine V.icmp_lt (tgt := 53) dX10_set_44 (by decide) (fun h => ?_) (fun h => ?_)
        · have hf := fif_t h hf
          obtain rfl := Option.some.inj hf
          exact V.throwS (i := 15) th_RX10_IllegalArgumentException_110 (List.mem_of_getElem? (i := 15) rfl) dX10_set_53 dX10_set_56 dX10_set_57 dX10_set_59 dX10_set_62 rfl (Nat.le_of_ble_eq_true rfl) (Nat.le_of_ble_eq_true rfl) ⟨Nat.le_of_ble_eq_true rfl, Nat.le_of_ble_eq_true rfl⟩ (Nat.le_of_ble_eq_true rfl) (Nat.le_of_ble_eq_true rfl) rfl
        · have hf := fif_f h hf
          refine V.iload_n (i := 2) dX10_set_47 rfl rfl ?_
          refine V.iload (i := 4) dX10_set_48 rfl ?_
          refine V.icmp_le (tgt := 63) dX10_set_50 (by decide) (fun h => ?_) (fun h => ?_)
          · have hf := fif_t h hf
            refine V.aload_n (i := 0) dX10_set_63 rfl rfl ?_
            refine V.getfield (kf := 1) (v := .ref 3) fl_RX10 dX10_set_64 w182 (Nat.le_of_ble_eq_true rfl) rfl rfl ?_
            refine V.aload_n (i := 0) dX10_set_67 rfl rfl ?_
            refine V.getfield (kf := 0) (v := .ref 1) fl_RX10 dX10_set_68 w181 (Nat.le_of_ble_eq_true rfl) rfl rfl ?_
            obtain ⟨v4, hv4, hf⟩ := fbind hf
            refine V.callVn (pl := [3, 4, 5, 1, 2]) (σ' := [.inl (5, [.ref 1, .ref 3, .ref 6, .ref 8, .ref 9]), .inl (3, [.ref 2]), .inr (910, .inl State_cells), .inl (1, [.ref 4, .ref 5, .int v4.1, .int v4.2.1, .int History_snapshotTaken]), .inr (5460, .inl v4.2.2), .inr (910, .inl History_snapshot), .inl (0, [.ref 7, .int Buffer_size]), .inr (60, .inl Buffer_codes), .inl (2, [.ref (Reader_pattern + 1000), .int Reader_place]), .inl (4, [.ref 10, .int Word_size]), .inr (8, .inl Word_letters)]) (st2 := []) (cl2 := 0) (sl2 := 0) (ct_X3_push (History_oldest := History_oldest) (History_size := History_size) (History_snapshotTaken := History_snapshotTaken) (History_saved := History_saved) (History_snapshot := History_snapshot) (State_cells := State_cells) hv4) dX10_set_71 w652 ⟨w653, w654⟩ cal_X3_push rfl ⟨⟨Nat.le_of_ble_eq_true rfl, Nat.le_of_ble_eq_true rfl⟩, Nat.le_of_ble_eq_true rfl, Nat.le_of_ble_eq_true rfl⟩ (Nat.le_of_ble_eq_true rfl) (Or.inl ⟨_, _, _, _, rfl, rfl⟩) rfl ⟨rfl, ⟨by decide, by decide⟩, rfl, (fr_cons (Or.inl (Nat.le_of_ble_eq_true rfl)) (fr_cons (Or.inl (Nat.le_of_ble_eq_true rfl)) (fr_cons (Or.inl (Nat.le_of_ble_eq_true rfl)) (fr_nil)))), rfl⟩ fr_v rfl rfl rfl rfl ?_
            refine V.aload_n (i := 0) dX10_set_74 rfl rfl ?_
            refine V.getfield (kf := 0) (v := .ref 1) fl_RX10 dX10_set_75 w181 (Nat.le_of_ble_eq_true rfl) rfl rfl ?_
            refine V.iconst (v := 1) dX10_set_78 rfl ?_
            refine V.iload_n (i := 1) dX10_set_79 rfl rfl ?_
            refine V.iadd dX10_set_80 ?_
            obtain ⟨v5, hv5, hf⟩ := fbind hf
            refine V.callVn (pl := [1, 2]) (σ' := [.inl (5, [.ref 1, .ref 3, .ref 6, .ref 8, .ref 9]), .inl (3, [.ref 2]), .inr (910, .inl State_cells), .inl (1, [.ref 4, .ref 5, .int v4.1, .int v4.2.1, .int History_snapshotTaken]), .inr (5460, .inl v4.2.2), .inr (910, .inl History_snapshot), .inl (0, [.ref 7, .int Buffer_size]), .inr (60, .inl Buffer_codes), .inl (2, [.ref (Reader_pattern + 1000), .int Reader_place]), .inl (4, [.ref 10, .int Word_size]), .inr (8, .inl Word_letters)]) (st2 := [.int v5]) (cl2 := 0) (sl2 := 0) (ct_X7_at (a1 := (1 + a1)) (State_cells := State_cells) hv5) dX10_set_81 w482 ⟨w314, w315⟩ cal_X7_at rfl ⟨⟨Nat.le_of_ble_eq_true rfl, Nat.le_of_ble_eq_true rfl⟩, Nat.le_of_ble_eq_true rfl, Nat.le_of_ble_eq_true rfl⟩ (Nat.le_of_ble_eq_true rfl) (Or.inl ⟨_, _, _, _, rfl, rfl⟩) rfl ⟨rfl, ⟨by decide, by decide⟩, rfl, (fr_cons (Or.inl (Nat.le_of_ble_eq_true rfl)) (fr_nil)), rfl⟩ fr_i rfl rfl rfl rfl ?_
            refine V.istore (i := 5) (L' := [some (.ref 0), some (.int a1), some (.int a2), some (.int 0), some (.int 9), some (.int v5)]) dX10_set_84 (Nat.le_of_ble_eq_true rfl) rfl rfl ?_
            refine V.aload_n (i := 0) dX10_set_86 rfl rfl ?_
            refine V.getfield (kf := 0) (v := .ref 1) fl_RX10 dX10_set_87 w181 (Nat.le_of_ble_eq_true rfl) rfl rfl ?_
            refine V.iconst (v := 1) dX10_set_90 rfl ?_
            refine V.iload_n (i := 1) dX10_set_91 rfl rfl ?_
            refine V.iadd dX10_set_92 ?_
            refine V.iload_n (i := 2) dX10_set_93 rfl rfl ?_
            obtain ⟨v6, hv6, hf⟩ := fbind hf
            refine V.callVn (pl := [1, 2]) (σ' := [.inl (5, [.ref 1, .ref 3, .ref 6, .ref 8, .ref 9]), .inl (3, [.ref 2]), .inr (910, .inl v6), .inl (1, [.ref 4, .ref 5, .int v4.1, .int v4.2.1, .int History_snapshotTaken]), .inr (5460, .inl v4.2.2), .inr (910, .inl History_snapshot), .inl (0, [.ref 7, .int Buffer_size]), .inr (60, .inl Buffer_codes), .inl (2, [.ref (Reader_pattern + 1000), .int Reader_place]), .inl (4, [.ref 10, .int Word_size]), .inr (8, .inl Word_letters)]) (st2 := []) (cl2 := 0) (sl2 := 0) (ct_X7_put (a1 := (1 + a1)) (a2 := a2) (State_cells := State_cells) hv6) dX10_set_94 w769 ⟨w107, w108⟩ cal_X7_put rfl ⟨⟨Nat.le_of_ble_eq_true rfl, Nat.le_of_ble_eq_true rfl⟩, Nat.le_of_ble_eq_true rfl, Nat.le_of_ble_eq_true rfl⟩ (Nat.le_of_ble_eq_true rfl) (Or.inl ⟨_, _, _, _, rfl, rfl⟩) rfl ⟨rfl, ⟨by decide, by decide⟩, rfl, (fr_cons (Or.inl (Nat.le_of_ble_eq_true rfl)) (fr_nil)), rfl⟩ fr_v rfl rfl rfl rfl ?_
            refine V.iload (i := 5) dX10_set_97 rfl ?_
            obtain rfl := Option.some.inj hf
            exact V.iret dX10_set_99 rfl (Nat.le_of_ble_eq_true rfl) (Nat.le_of_ble_eq_true rfl) rfl
          · have hf := fif_f h hf
            obtain rfl := Option.some.inj hf
            exact V.throwS (i := 15) th_RX10_IllegalArgumentException_110 (List.mem_of_getElem? (i := 15) rfl) dX10_set_53 dX10_set_56 dX10_set_57 dX10_set_59 dX10_set_62 rfl (Nat.le_of_ble_eq_true rfl) (Nat.le_of_ble_eq_true rfl) ⟨Nat.le_of_ble_eq_true rfl, Nat.le_of_ble_eq_true rfl⟩ (Nat.le_of_ble_eq_true rfl) (Nat.le_of_ble_eq_true rfl) rfl
    · have hf := fif_t h hf
      refine V.iconst (v := 1) dX10_set_23 rfl ?_
      refine V.goto (tgt := 28) dX10_set_24 (by decide) ?_
      refine V.istore_n (i := 3) (L' := [some (.ref 0), some (.int a1), some (.int a2), some (.int 1), none, none]) dX10_set_28 rfl (Nat.le_of_ble_eq_true rfl) rfl rfl ?_
      refine V.iload_n (i := 1) dX10_set_29 rfl rfl ?_
      refine V.if_ne (tgt := 38) dX10_set_30 (by decide) (fun h => ?_) (fun h => ?_)
      · have hf := fif_f h hf
        refine V.bipush (v := 8) dX10_set_38 rfl ?_
        refine V.istore (i := 4) (L' := [some (.ref 0), some (.int a1), some (.int a2), some (.int 1), some (.int 8), none]) dX10_set_40 (Nat.le_of_ble_eq_true rfl) rfl rfl ?_
        refine V.iload_n (i := 2) dX10_set_42 rfl rfl ?_
        refine V.iload_n (i := 3) dX10_set_43 rfl rfl ?_
        refine V.icmp_lt (tgt := 53) dX10_set_44 (by decide) (fun h => ?_) (fun h => ?_)
        · have hf := fif_t h hf
          obtain rfl := Option.some.inj hf
          exact V.throwS (i := 15) th_RX10_IllegalArgumentException_110 (List.mem_of_getElem? (i := 15) rfl) dX10_set_53 dX10_set_56 dX10_set_57 dX10_set_59 dX10_set_62 rfl (Nat.le_of_ble_eq_true rfl) (Nat.le_of_ble_eq_true rfl) ⟨Nat.le_of_ble_eq_true rfl, Nat.le_of_ble_eq_true rfl⟩ (Nat.le_of_ble_eq_true rfl) (Nat.le_of_ble_eq_true rfl) rfl
        · have hf := fif_f h hf
          refine V.iload_n (i := 2) dX10_set_47 rfl rfl ?_
          refine V.iload (i := 4) dX10_set_48 rfl ?_
          refine V.icmp_le (tgt := 63) dX10_set_50 (by decide) (fun h => ?_) (fun h => ?_)
          · have hf := fif_t h hf
            refine V.aload_n (i := 0) dX10_set_63 rfl rfl ?_
            refine V.getfield (kf := 1) (v := .ref 3) fl_RX10 dX10_set_64 w182 (Nat.le_of_ble_eq_true rfl) rfl rfl ?_
            refine V.aload_n (i := 0) dX10_set_67 rfl rfl ?_
            refine V.getfield (kf := 0) (v := .ref 1) fl_RX10 dX10_set_68 w181 (Nat.le_of_ble_eq_true rfl) rfl rfl ?_
            obtain ⟨v7, hv7, hf⟩ := fbind hf
            refine V.callVn (pl := [3, 4, 5, 1, 2]) (σ' := [.inl (5, [.ref 1, .ref 3, .ref 6, .ref 8, .ref 9]), .inl (3, [.ref 2]), .inr (910, .inl State_cells), .inl (1, [.ref 4, .ref 5, .int v7.1, .int v7.2.1, .int History_snapshotTaken]), .inr (5460, .inl v7.2.2), .inr (910, .inl History_snapshot), .inl (0, [.ref 7, .int Buffer_size]), .inr (60, .inl Buffer_codes), .inl (2, [.ref (Reader_pattern + 1000), .int Reader_place]), .inl (4, [.ref 10, .int Word_size]), .inr (8, .inl Word_letters)]) (st2 := []) (cl2 := 0) (sl2 := 0) (ct_X3_push (History_oldest := History_oldest) (History_size := History_size) (History_snapshotTaken := History_snapshotTaken) (History_saved := History_saved) (History_snapshot := History_snapshot) (State_cells := State_cells) hv7) dX10_set_71 w652 ⟨w653, w654⟩ cal_X3_push rfl ⟨⟨Nat.le_of_ble_eq_true rfl, Nat.le_of_ble_eq_true rfl⟩, Nat.le_of_ble_eq_true rfl, Nat.le_of_ble_eq_true rfl⟩ (Nat.le_of_ble_eq_true rfl) (Or.inl ⟨_, _, _, _, rfl, rfl⟩) rfl ⟨rfl, ⟨by decide, by decide⟩, rfl, (fr_cons (Or.inl (Nat.le_of_ble_eq_true rfl)) (fr_cons (Or.inl (Nat.le_of_ble_eq_true rfl)) (fr_cons (Or.inl (Nat.le_of_ble_eq_true rfl)) (fr_nil)))), rfl⟩ fr_v rfl rfl rfl rfl ?_
            refine V.aload_n (i := 0) dX10_set_74 rfl rfl ?_
            refine V.getfield (kf := 0) (v := .ref 1) fl_RX10 dX10_set_75 w181 (Nat.le_of_ble_eq_true rfl) rfl rfl ?_
            refine V.iconst (v := 1) dX10_set_78 rfl ?_
            refine V.iload_n (i := 1) dX10_set_79 rfl rfl ?_
            refine V.iadd dX10_set_80 ?_
            obtain ⟨v8, hv8, hf⟩ := fbind hf
            refine V.callVn (pl := [1, 2]) (σ' := [.inl (5, [.ref 1, .ref 3, .ref 6, .ref 8, .ref 9]), .inl (3, [.ref 2]), .inr (910, .inl State_cells), .inl (1, [.ref 4, .ref 5, .int v7.1, .int v7.2.1, .int History_snapshotTaken]), .inr (5460, .inl v7.2.2), .inr (910, .inl History_snapshot), .inl (0, [.ref 7, .int Buffer_size]), .inr (60, .inl Buffer_codes), .inl (2, [.ref (Reader_pattern + 1000), .int Reader_place]), .inl (4, [.ref 10, .int Word_size]), .inr (8, .inl Word_letters)]) (st2 := [.int v8]) (cl2 := 0) (sl2 := 0) (ct_X7_at (a1 := (1 + a1)) (State_cells := State_cells) hv8) dX10_set_81 w482 ⟨w314, w315⟩ cal_X7_at rfl ⟨⟨Nat.le_of_ble_eq_true rfl, Nat.le_of_ble_eq_true rfl⟩, Nat.le_of_ble_eq_true rfl, Nat.le_of_ble_eq_true rfl⟩ (Nat.le_of_ble_eq_true rfl) (Or.inl ⟨_, _, _, _, rfl, rfl⟩) rfl ⟨rfl, ⟨by decide, by decide⟩, rfl, (fr_cons (Or.inl (Nat.le_of_ble_eq_true rfl)) (fr_nil)), rfl⟩ fr_i rfl rfl rfl rfl ?_
            refine V.istore (i := 5) (L' := [some (.ref 0), some (.int a1), some (.int a2), some (.int 1), some (.int 8), some (.int v8)]) dX10_set_84 (Nat.le_of_ble_eq_true rfl) rfl rfl ?_
            refine V.aload_n (i := 0) dX10_set_86 rfl rfl ?_
            refine V.getfield (kf := 0) (v := .ref 1) fl_RX10 dX10_set_87 w181 (Nat.le_of_ble_eq_true rfl) rfl rfl ?_
            refine V.iconst (v := 1) dX10_set_90 rfl ?_
            refine V.iload_n (i := 1) dX10_set_91 rfl rfl ?_
            refine V.iadd dX10_set_92 ?_
            refine V.iload_n (i := 2) dX10_set_93 rfl rfl ?_
            obtain ⟨v9, hv9, hf⟩ := fbind hf
            refine V.callVn (pl := [1, 2]) (σ' := [.inl (5, [.ref 1, .ref 3, .ref 6, .ref 8, .ref 9]), .inl (3, [.ref 2]), .inr (910, .inl v9), .inl (1, [.ref 4, .ref 5, .int v7.1, .int v7.2.1, .int History_snapshotTaken]), .inr (5460, .inl v7.2.2), .inr (910, .inl History_snapshot), .inl (0, [.ref 7, .int Buffer_size]), .inr (60, .inl Buffer_codes), .inl (2, [.ref (Reader_pattern + 1000), .int Reader_place]), .inl (4, [.ref 10, .int Word_size]), .inr (8, .inl Word_letters)]) (st2 := []) (cl2 := 0) (sl2 := 0) (ct_X7_put (a1 := (1 + a1)) (a2 := a2) (State_cells := State_cells) hv9) dX10_set_94 w769 ⟨w107, w108⟩ cal_X7_put rfl ⟨⟨Nat.le_of_ble_eq_true rfl, Nat.le_of_ble_eq_true rfl⟩, Nat.le_of_ble_eq_true rfl, Nat.le_of_ble_eq_true rfl⟩ (Nat.le_of_ble_eq_true rfl) (Or.inl ⟨_, _, _, _, rfl, rfl⟩) rfl ⟨rfl, ⟨by decide, by decide⟩, rfl, (fr_cons (Or.inl (Nat.le_of_ble_eq_true rfl)) (fr_nil)), rfl⟩ fr_v rfl rfl rfl rfl ?_
            refine V.iload (i := 5) dX10_set_97 rfl ?_
            obtain rfl := Option.some.inj hf
            exact V.iret dX10_set_99 rfl (Nat.le_of_ble_eq_true rfl) (Nat.le_of_ble_eq_true rfl) rfl
          · have hf := fif_f h hf
            obtain rfl := Option.some.inj hf
            exact V.throwS (i := 15) th_RX10_IllegalArgumentException_110 (List.mem_of_getElem? (i := 15) rfl) dX10_set_53 dX10_set_56 dX10_set_57 dX10_set_59 dX10_set_62 rfl (Nat.le_of_ble_eq_true rfl) (Nat.le_of_ble_eq_true rfl) ⟨Nat.le_of_ble_eq_true rfl, Nat.le_of_ble_eq_true rfl⟩ (Nat.le_of_ble_eq_true rfl) (Nat.le_of_ble_eq_true rfl) rfl
      · have hf := fif_t h hf
        refine V.bipush (v := 9) dX10_set_33 rfl ?_
        refine V.goto (tgt := 40) dX10_set_35 (by decide) ?_
        refine V.istore (i := 4) (L' := [some (.ref 0), some (.int a1), some (.int a2), some (.int 1), some (.int 9), none]) dX10_set_40 (Nat.le_of_ble_eq_true rfl) rfl rfl ?_
        refine V.iload_n (i := 2) dX10_set_42 rfl rfl ?_
        refine V.iload_n (i := 3) dX10_set_43 rfl rfl ?_
        refine V.icmp_lt (tgt := 53) dX10_set_44 (by decide) (fun h => ?_) (fun h => ?_)
        · have hf := fif_t h hf
          obtain rfl := Option.some.inj hf
          exact V.throwS (i := 15) th_RX10_IllegalArgumentException_110 (List.mem_of_getElem? (i := 15) rfl) dX10_set_53 dX10_set_56 dX10_set_57 dX10_set_59 dX10_set_62 rfl (Nat.le_of_ble_eq_true rfl) (Nat.le_of_ble_eq_true rfl) ⟨Nat.le_of_ble_eq_true rfl, Nat.le_of_ble_eq_true rfl⟩ (Nat.le_of_ble_eq_true rfl) (Nat.le_of_ble_eq_true rfl) rfl
        · have hf := fif_f h hf
          refine V.iload_n (i := 2) dX10_set_47 rfl rfl ?_
          refine V.iload (i := 4) dX10_set_48 rfl ?_
          refine V.icmp_le (tgt := 63) dX10_set_50 (by decide) (fun h => ?_) (fun h => ?_)
          · have hf := fif_t h hf
            refine V.aload_n (i := 0) dX10_set_63 rfl rfl ?_
            refine V.getfield (kf := 1) (v := .ref 3) fl_RX10 dX10_set_64 w182 (Nat.le_of_ble_eq_true rfl) rfl rfl ?_
            refine V.aload_n (i := 0) dX10_set_67 rfl rfl ?_
            refine V.getfield (kf := 0) (v := .ref 1) fl_RX10 dX10_set_68 w181 (Nat.le_of_ble_eq_true rfl) rfl rfl ?_
            obtain ⟨v10, hv10, hf⟩ := fbind hf
            refine V.callVn (pl := [3, 4, 5, 1, 2]) (σ' := [.inl (5, [.ref 1, .ref 3, .ref 6, .ref 8, .ref 9]), .inl (3, [.ref 2]), .inr (910, .inl State_cells), .inl (1, [.ref 4, .ref 5, .int v10.1, .int v10.2.1, .int History_snapshotTaken]), .inr (5460, .inl v10.2.2), .inr (910, .inl History_snapshot), .inl (0, [.ref 7, .int Buffer_size]), .inr (60, .inl Buffer_codes), .inl (2, [.ref (Reader_pattern + 1000), .int Reader_place]), .inl (4, [.ref 10, .int Word_size]), .inr (8, .inl Word_letters)]) (st2 := []) (cl2 := 0) (sl2 := 0) (ct_X3_push (History_oldest := History_oldest) (History_size := History_size) (History_snapshotTaken := History_snapshotTaken) (History_saved := History_saved) (History_snapshot := History_snapshot) (State_cells := State_cells) hv10) dX10_set_71 w652 ⟨w653, w654⟩ cal_X3_push rfl ⟨⟨Nat.le_of_ble_eq_true rfl, Nat.le_of_ble_eq_true rfl⟩, Nat.le_of_ble_eq_true rfl, Nat.le_of_ble_eq_true rfl⟩ (Nat.le_of_ble_eq_true rfl) (Or.inl ⟨_, _, _, _, rfl, rfl⟩) rfl ⟨rfl, ⟨by decide, by decide⟩, rfl, (fr_cons (Or.inl (Nat.le_of_ble_eq_true rfl)) (fr_cons (Or.inl (Nat.le_of_ble_eq_true rfl)) (fr_cons (Or.inl (Nat.le_of_ble_eq_true rfl)) (fr_nil)))), rfl⟩ fr_v rfl rfl rfl rfl ?_
            refine V.aload_n (i := 0) dX10_set_74 rfl rfl ?_
            refine V.getfield (kf := 0) (v := .ref 1) fl_RX10 dX10_set_75 w181 (Nat.le_of_ble_eq_true rfl) rfl rfl ?_
            refine V.iconst (v := 1) dX10_set_78 rfl ?_
            refine V.iload_n (i := 1) dX10_set_79 rfl rfl ?_
            refine V.iadd dX10_set_80 ?_
            obtain ⟨v11, hv11, hf⟩ := fbind hf
            refine V.callVn (pl := [1, 2]) (σ' := [.inl (5, [.ref 1, .ref 3, .ref 6, .ref 8, .ref 9]), .inl (3, [.ref 2]), .inr (910, .inl State_cells), .inl (1, [.ref 4, .ref 5, .int v10.1, .int v10.2.1, .int History_snapshotTaken]), .inr (5460, .inl v10.2.2), .inr (910, .inl History_snapshot), .inl (0, [.ref 7, .int Buffer_size]), .inr (60, .inl Buffer_codes), .inl (2, [.ref (Reader_pattern + 1000), .int Reader_place]), .inl (4, [.ref 10, .int Word_size]), .inr (8, .inl Word_letters)]) (st2 := [.int v11]) (cl2 := 0) (sl2 := 0) (ct_X7_at (a1 := (1 + a1)) (State_cells := State_cells) hv11) dX10_set_81 w482 ⟨w314, w315⟩ cal_X7_at rfl ⟨⟨Nat.le_of_ble_eq_true rfl, Nat.le_of_ble_eq_true rfl⟩, Nat.le_of_ble_eq_true rfl, Nat.le_of_ble_eq_true rfl⟩ (Nat.le_of_ble_eq_true rfl) (Or.inl ⟨_, _, _, _, rfl, rfl⟩) rfl ⟨rfl, ⟨by decide, by decide⟩, rfl, (fr_cons (Or.inl (Nat.le_of_ble_eq_true rfl)) (fr_nil)), rfl⟩ fr_i rfl rfl rfl rfl ?_
            refine V.istore (i := 5) (L' := [some (.ref 0), some (.int a1), some (.int a2), some (.int 1), some (.int 9), some (.int v11)]) dX10_set_84 (Nat.le_of_ble_eq_true rfl) rfl rfl ?_
            refine V.aload_n (i := 0) dX10_set_86 rfl rfl ?_
            refine V.getfield (kf := 0) (v := .ref 1) fl_RX10 dX10_set_87 w181 (Nat.le_of_ble_eq_true rfl) rfl rfl ?_
            refine V.iconst (v := 1) dX10_set_90 rfl ?_
            refine V.iload_n (i := 1) dX10_set_91 rfl rfl ?_
            refine V.iadd dX10_set_92 ?_
            refine V.iload_n (i := 2) dX10_set_93 rfl rfl ?_
            obtain ⟨v12, hv12, hf⟩ := fbind hf
            refine V.callVn (pl := [1, 2]) (σ' := [.inl (5, [.ref 1, .ref 3, .ref 6, .ref 8, .ref 9]), .inl (3, [.ref 2]), .inr (910, .inl v12), .inl (1, [.ref 4, .ref 5, .int v10.1, .int v10.2.1, .int History_snapshotTaken]), .inr (5460, .inl v10.2.2), .inr (910, .inl History_snapshot), .inl (0, [.ref 7, .int Buffer_size]), .inr (60, .inl Buffer_codes), .inl (2, [.ref (Reader_pattern + 1000), .int Reader_place]), .inl (4, [.ref 10, .int Word_size]), .inr (8, .inl Word_letters)]) (st2 := []) (cl2 := 0) (sl2 := 0) (ct_X7_put (a1 := (1 + a1)) (a2 := a2) (State_cells := State_cells) hv12) dX10_set_94 w769 ⟨w107, w108⟩ cal_X7_put rfl ⟨⟨Nat.le_of_ble_eq_true rfl, Nat.le_of_ble_eq_true rfl⟩, Nat.le_of_ble_eq_true rfl, Nat.le_of_ble_eq_true rfl⟩ (Nat.le_of_ble_eq_true rfl) (Or.inl ⟨_, _, _, _, rfl, rfl⟩) rfl ⟨rfl, ⟨by decide, by decide⟩, rfl, (fr_cons (Or.inl (Nat.le_of_ble_eq_true rfl)) (fr_nil)), rfl⟩ fr_v rfl rfl rfl rfl ?_
            refine V.iload (i := 5) dX10_set_97 rfl ?_
            obtain rfl := Option.some.inj hf
            exact V.iret dX10_set_99 rfl (Nat.le_of_ble_eq_true rfl) (Nat.le_of_ble_eq_true rfl) rfl
          · have hf := fif_f h hf
            obtain rfl := Option.some.inj hf
            exact V.throwS (i := 15) th_RX10_IllegalArgumentException_110 (List.mem_of_getElem? (i := 15) rfl) dX10_set_53 dX10_set_56 dX10_set_57 dX10_set_59 dX10_set_62 rfl (Nat.le_of_ble_eq_true rfl) (Nat.le_of_ble_eq_true rfl) ⟨Nat.le_of_ble_eq_true rfl, Nat.le_of_ble_eq_true rfl⟩ (Nat.le_of_ble_eq_true rfl) (Nat.le_of_ble_eq_true rfl) rfl
  · have hf := fif_f h hf
    refine V.iload_n (i := 1) dX10_set_4 rfl rfl ?_
    refine V.iconst (v := 1) dX10_set_5 rfl ?_
    refine V.icmp_eq (tgt := 19) dX10_set_6 (by decide) (fun h => ?_) (fun h => ?_)
    · have hf := fif_t h hf
      refine V.iload_n (i := 1) dX10_set_19 rfl rfl ?_
      refine V.if_ne (tgt := 27) dX10_set_20 (by decide) (fun h => ?_) (fun h => ?_)
      · have hf := fif_f h hf
        refine V.iconst (v := 0) dX10_set_27 rfl ?_
        refine V.istore_n (i := 3) (L' := [some (.ref 0), some (.int a1), some (.int a2), some (.int 0), none, none]) dX10_set_28 rfl (Nat.le_of_ble_eq_true rfl) rfl rfl ?_
        refine V.iload_n (i := 1) dX10_set_29 rfl rfl ?_
        refine V.if_ne (tgt := 38) dX10_set_30 (by decide) (fun h => ?_) (fun h => ?_)
        · have hf := fif_f h hf
          refine V.bipush (v := 8) dX10_set_38 rfl ?_
          refine V.istore (i := 4) (L' := [some (.ref 0), some (.int a1), some (.int a2), some (.int 0), some (.int 8), none]) dX10_set_40 (Nat.le_of_ble_eq_true rfl) rfl rfl ?_
          refine V.iload_n (i := 2) dX10_set_42 rfl rfl ?_
          refine V.iload_n (i := 3) dX10_set_43 rfl rfl ?_
          refine V.icmp_lt (tgt := 53) dX10_set_44 (by decide) (fun h => ?_) (fun h => ?_)
          · have hf := fif_t h hf
            obtain rfl := Option.some.inj hf
            exact V.throwS (i := 15) th_RX10_IllegalArgumentException_110 (List.mem_of_getElem? (i := 15) rfl) dX10_set_53 dX10_set_56 dX10_set_57 dX10_set_59 dX10_set_62 rfl (Nat.le_of_ble_eq_true rfl) (Nat.le_of_ble_eq_true rfl) ⟨Nat.le_of_ble_eq_true rfl, Nat.le_of_ble_eq_true rfl⟩ (Nat.le_of_ble_eq_true rfl) (Nat.le_of_ble_eq_true rfl) rfl
          · have hf := fif_f h hf
            refine V.iload_n (i := 2) dX10_set_47 rfl rfl ?_
            refine V.iload (i := 4) dX10_set_48 rfl ?_
            refine V.icmp_le (tgt := 63) dX10_set_50 (by decide) (fun h => ?_) (fun h => ?_)
            · have hf := fif_t h hf
              refine V.aload_n (i := 0) dX10_set_63 rfl rfl ?_
              refine V.getfield (kf := 1) (v := .ref 3) fl_RX10 dX10_set_64 w182 (Nat.le_of_ble_eq_true rfl) rfl rfl ?_
              refine V.aload_n (i := 0) dX10_set_67 rfl rfl ?_
              refine V.getfield (kf := 0) (v := .ref 1) fl_RX10 dX10_set_68 w181 (Nat.le_of_ble_eq_true rfl) rfl rfl ?_
              obtain ⟨v13, hv13, hf⟩ := fbind hf
              refine V.callVn (pl := [3, 4, 5, 1, 2]) (σ' := [.inl (5, [.ref 1, .ref 3, .ref 6, .ref 8, .ref 9]), .inl (3, [.ref 2]), .inr (910, .inl State_cells), .inl (1, [.ref 4, .ref 5, .int v13.1, .int v13.2.1, .int History_snapshotTaken]), .inr (5460, .inl v13.2.2), .inr (910, .inl History_snapshot), .inl (0, [.ref 7, .int Buffer_size]), .inr (60, .inl Buffer_codes), .inl (2, [.ref (Reader_pattern + 1000), .int Reader_place]), .inl (4, [.ref 10, .int Word_size]), .inr (8, .inl Word_letters)]) (st2 := []) (cl2 := 0) (sl2 := 0) (ct_X3_push (History_oldest := History_oldest) (History_size := History_size) (History_snapshotTaken := History_snapshotTaken) (History_saved := History_saved) (History_snapshot := History_snapshot) (State_cells := State_cells) hv13) dX10_set_71 w652 ⟨w653, w654⟩ cal_X3_push rfl ⟨⟨Nat.le_of_ble_eq_true rfl, Nat.le_of_ble_eq_true rfl⟩, Nat.le_of_ble_eq_true rfl, Nat.le_of_ble_eq_true rfl⟩ (Nat.le_of_ble_eq_true rfl) (Or.inl ⟨_, _, _, _, rfl, rfl⟩) rfl ⟨rfl, ⟨by decide, by decide⟩, rfl, (fr_cons (Or.inl (Nat.le_of_ble_eq_true rfl)) (fr_cons (Or.inl (Nat.le_of_ble_eq_true rfl)) (fr_cons (Or.inl (Nat.le_of_ble_eq_true rfl)) (fr_nil)))), rfl⟩ fr_v rfl rfl rfl rfl ?_
              refine V.aload_n (i := 0) dX10_set_74 rfl rfl ?_
              refine V.getfield (kf := 0) (v := .ref 1) fl_RX10 dX10_set_75 w181 (Nat.le_of_ble_eq_true rfl) rfl rfl ?_
              refine V.iconst (v := 1) dX10_set_78 rfl ?_
              refine V.iload_n (i := 1) dX10_set_79 rfl rfl ?_
              refine V.iadd dX10_set_80 ?_
              obtain ⟨v14, hv14, hf⟩ := fbind hf
              refine V.callVn (pl := [1, 2]) (σ' := [.inl (5, [.ref 1, .ref 3, .ref 6, .ref 8, .ref 9]), .inl (3, [.ref 2]), .inr (910, .inl State_cells), .inl (1, [.ref 4, .ref 5, .int v13.1, .int v13.2.1, .int History_snapshotTaken]), .inr (5460, .inl v13.2.2), .inr (910, .inl History_snapshot), .inl (0, [.ref 7, .int Buffer_size]), .inr (60, .inl Buffer_codes), .inl (2, [.ref (Reader_pattern + 1000), .int Reader_place]), .inl (4, [.ref 10, .int Word_size]), .inr (8, .inl Word_letters)]) (st2 := [.int v14]) (cl2 := 0) (sl2 := 0) (ct_X7_at (a1 := (1 + a1)) (State_cells := State_cells) hv14) dX10_set_81 w482 ⟨w314, w315⟩ cal_X7_at rfl ⟨⟨Nat.le_of_ble_eq_true rfl, Nat.le_of_ble_eq_true rfl⟩, Nat.le_of_ble_eq_true rfl, Nat.le_of_ble_eq_true rfl⟩ (Nat.le_of_ble_eq_true rfl) (Or.inl ⟨_, _, _, _, rfl, rfl⟩) rfl ⟨rfl, ⟨by decide, by decide⟩, rfl, (fr_cons (Or.inl (Nat.le_of_ble_eq_true rfl)) (fr_nil)), rfl⟩ fr_i rfl rfl rfl rfl ?_
              refine V.istore (i := 5) (L' := [some (.ref 0), some (.int a1), some (.int a2), some (.int 0), some (.int 8), some (.int v14)]) dX10_set_84 (Nat.le_of_ble_eq_true rfl) rfl rfl ?_
              refine V.aload_n (i := 0) dX10_set_86 rfl rfl ?_
              refine V.getfield (kf := 0) (v := .ref 1) fl_RX10 dX10_set_87 w181 (Nat.le_of_ble_eq_true rfl) rfl rfl ?_
              refine V.iconst (v := 1) dX10_set_90 rfl ?_
              refine V.iload_n (i := 1) dX10_set_91 rfl rfl ?_
              refine V.iadd dX10_set_92 ?_
              refine V.iload_n (i := 2) dX10_set_93 rfl rfl ?_
              obtain ⟨v15, hv15, hf⟩ := fbind hf
              refine V.callVn (pl := [1, 2]) (σ' := [.inl (5, [.ref 1, .ref 3, .ref 6, .ref 8, .ref 9]), .inl (3, [.ref 2]), .inr (910, .inl v15), .inl (1, [.ref 4, .ref 5, .int v13.1, .int v13.2.1, .int History_snapshotTaken]), .inr (5460, .inl v13.2.2), .inr (910, .inl History_snapshot), .inl (0, [.ref 7, .int Buffer_size]), .inr (60, .inl Buffer_codes), .inl (2, [.ref (Reader_pattern + 1000), .int Reader_place]), .inl (4, [.ref 10, .int Word_size]), .inr (8, .inl Word_letters)]) (st2 := []) (cl2 := 0) (sl2 := 0) (ct_X7_put (a1 := (1 + a1)) (a2 := a2) (State_cells := State_cells) hv15) dX10_set_94 w769 ⟨w107, w108⟩ cal_X7_put rfl ⟨⟨Nat.le_of_ble_eq_true rfl, Nat.le_of_ble_eq_true rfl⟩, Nat.le_of_ble_eq_true rfl, Nat.le_of_ble_eq_true rfl⟩ (Nat.le_of_ble_eq_true rfl) (Or.inl ⟨_, _, _, _, rfl, rfl⟩) rfl ⟨rfl, ⟨by decide, by decide⟩, rfl, (fr_cons (Or.inl (Nat.le_of_ble_eq_true rfl)) (fr_nil)), rfl⟩ fr_v rfl rfl rfl rfl ?_
              refine V.iload (i := 5) dX10_set_97 rfl ?_
              obtain rfl := Option.some.inj hf
              exact V.iret dX10_set_99 rfl (Nat.le_of_ble_eq_true rfl) (Nat.le_of_ble_eq_true rfl) rfl
            · have hf := fif_f h hf
              obtain rfl := Option.some.inj hf
              exact V.throwS (i := 15) th_RX10_IllegalArgumentException_110 (List.mem_of_getElem? (i := 15) rfl) dX10_set_53 dX10_set_56 dX10_set_57 dX10_set_59 dX10_set_62 rfl (Nat.le_of_ble_eq_true rfl) (Nat.le_of_ble_eq_true rfl) ⟨Nat.le_of_ble_eq_true rfl, Nat.le_of_ble_eq_true rfl⟩ (Nat.le_of_ble_eq_true rfl) (Nat.le_of_ble_eq_true rfl) rfl
        · have hf := fif_t h hf
          refine V.bipush (v := 9) dX10_set_33 rfl ?_
          refine V.goto (tgt := 40) dX10_set_35 (by decide) ?_
          refine V.istore (i := 4) (L' := [some (.ref 0), some (.int a1), some (.int a2), some (.int 0), some (.int 9), none]) dX10_set_40 (Nat.le_of_ble_eq_true rfl) rfl rfl ?_
          refine V.iload_n (i := 2) dX10_set_42 rfl rfl ?_
          refine V.iload_n (i := 3) dX10_set_43 rfl rfl ?_
          refine V.icmp_lt (tgt := 53) dX10_set_44 (by decide) (fun h => ?_) (fun h => ?_)
          · have hf := fif_t h hf
            obtain rfl := Option.some.inj hf
            exact V.throwS (i := 15) th_RX10_IllegalArgumentException_110 (List.mem_of_getElem? (i := 15) rfl) dX10_set_53 dX10_set_56 dX10_set_57 dX10_set_59 dX10_set_62 rfl (Nat.le_of_ble_eq_true rfl) (Nat.le_of_ble_eq_true rfl) ⟨Nat.le_of_ble_eq_true rfl, Nat.le_of_ble_eq_true rfl⟩ (Nat.le_of_ble_eq_true rfl) (Nat.le_of_ble_eq_true rfl) rfl
          · have hf := fif_f h hf
            refine V.iload_n (i := 2) dX10_set_47 rfl rfl ?_
            refine V.iload (i := 4) dX10_set_48 rfl ?_
            refine V.icmp_le (tgt := 63) dX10_set_50 (by decide) (fun h => ?_) (fun h => ?_)
            · have hf := fif_t h hf
              refine V.aload_n (i := 0) dX10_set_63 rfl rfl ?_
              refine V.getfield (kf := 1) (v := .ref 3) fl_RX10 dX10_set_64 w182 (Nat.le_of_ble_eq_true rfl) rfl rfl ?_
              refine V.aload_n (i := 0) dX10_set_67 rfl rfl ?_
              refine V.getfield (kf := 0) (v := .ref 1) fl_RX10 dX10_set_68 w181 (Nat.le_of_ble_eq_true rfl) rfl rfl ?_
              obtain ⟨v16, hv16, hf⟩ := fbind hf
              refine V.callVn (pl := [3, 4, 5, 1, 2]) (σ' := [.inl (5, [.ref 1, .ref 3, .ref 6, .ref 8, .ref 9]), .inl (3, [.ref 2]), .inr (910, .inl State_cells), .inl (1, [.ref 4, .ref 5, .int v16.1, .int v16.2.1, .int History_snapshotTaken]), .inr (5460, .inl v16.2.2), .inr (910, .inl History_snapshot), .inl (0, [.ref 7, .int Buffer_size]), .inr (60, .inl Buffer_codes), .inl (2, [.ref (Reader_pattern + 1000), .int Reader_place]), .inl (4, [.ref 10, .int Word_size]), .inr (8, .inl Word_letters)]) (st2 := []) (cl2 := 0) (sl2 := 0) (ct_X3_push (History_oldest := History_oldest) (History_size := History_size) (History_snapshotTaken := History_snapshotTaken) (History_saved := History_saved) (History_snapshot := History_snapshot) (State_cells := State_cells) hv16) dX10_set_71 w652 ⟨w653, w654⟩ cal_X3_push rfl ⟨⟨Nat.le_of_ble_eq_true rfl, Nat.le_of_ble_eq_true rfl⟩, Nat.le_of_ble_eq_true rfl, Nat.le_of_ble_eq_true rfl⟩ (Nat.le_of_ble_eq_true rfl) (Or.inl ⟨_, _, _, _, rfl, rfl⟩) rfl ⟨rfl, ⟨by decide, by decide⟩, rfl, (fr_cons (Or.inl (Nat.le_of_ble_eq_true rfl)) (fr_cons (Or.inl (Nat.le_of_ble_eq_true rfl)) (fr_cons (Or.inl (Nat.le_of_ble_eq_true rfl)) (fr_nil)))), rfl⟩ fr_v rfl rfl rfl rfl ?_
              refine V.aload_n (i := 0) dX10_set_74 rfl rfl ?_
              refine V.getfield (kf := 0) (v := .ref 1) fl_RX10 dX10_set_75 w181 (Nat.le_of_ble_eq_true rfl) rfl rfl ?_
              refine V.iconst (v := 1) dX10_set_78 rfl ?_
              refine V.iload_n (i := 1) dX10_set_79 rfl rfl ?_
              refine V.iadd dX10_set_80 ?_
              obtain ⟨v17, hv17, hf⟩ := fbind hf
              refine V.callVn (pl := [1, 2]) (σ' := [.inl (5, [.ref 1, .ref 3, .ref 6, .ref 8, .ref 9]), .inl (3, [.ref 2]), .inr (910, .inl State_cells), .inl (1, [.ref 4, .ref 5, .int v16.1, .int v16.2.1, .int History_snapshotTaken]), .inr (5460, .inl v16.2.2), .inr (910, .inl History_snapshot), .inl (0, [.ref 7, .int Buffer_size]), .inr (60, .inl Buffer_codes), .inl (2, [.ref (Reader_pattern + 1000), .int Reader_place]), .inl (4, [.ref 10, .int Word_size]), .inr (8, .inl Word_letters)]) (st2 := [.int v17]) (cl2 := 0) (sl2 := 0) (ct_X7_at (a1 := (1 + a1)) (State_cells := State_cells) hv17) dX10_set_81 w482 ⟨w314, w315⟩ cal_X7_at rfl ⟨⟨Nat.le_of_ble_eq_true rfl, Nat.le_of_ble_eq_true rfl⟩, Nat.le_of_ble_eq_true rfl, Nat.le_of_ble_eq_true rfl⟩ (Nat.le_of_ble_eq_true rfl) (Or.inl ⟨_, _, _, _, rfl, rfl⟩) rfl ⟨rfl, ⟨by decide, by decide⟩, rfl, (fr_cons (Or.inl (Nat.le_of_ble_eq_true rfl)) (fr_nil)), rfl⟩ fr_i rfl rfl rfl rfl ?_
              refine V.istore (i := 5) (L' := [some (.ref 0), some (.int a1), some (.int a2), some (.int 0), some (.int 9), some (.int v17)]) dX10_set_84 (Nat.le_of_ble_eq_true rfl) rfl rfl ?_
              refine V.aload_n (i := 0) dX10_set_86 rfl rfl ?_
              refine V.getfield (kf := 0) (v := .ref 1) fl_RX10 dX10_set_87 w181 (Nat.le_of_ble_eq_true rfl) rfl rfl ?_
              refine V.iconst (v := 1) dX10_set_90 rfl ?_
              refine V.iload_n (i := 1) dX10_set_91 rfl rfl ?_
              refine V.iadd dX10_set_92 ?_
              refine V.iload_n (i := 2) dX10_set_93 rfl rfl ?_
              obtain ⟨v18, hv18, hf⟩ := fbind hf
              refine V.callVn (pl := [1, 2]) (σ' := [.inl (5, [.ref 1, .ref 3, .ref 6, .ref 8, .ref 9]), .inl (3, [.ref 2]), .inr (910, .inl v18), .inl (1, [.ref 4, .ref 5, .int v16.1, .int v16.2.1, .int History_snapshotTaken]), .inr (5460, .inl v16.2.2), .inr (910, .inl History_snapshot), .inl (0, [.ref 7, .int Buffer_size]), .inr (60, .inl Buffer_codes), .inl (2, [.ref (Reader_pattern + 1000), .int Reader_place]), .inl (4, [.ref 10, .int Word_size]), .inr (8, .inl Word_letters)]) (st2 := []) (cl2 := 0) (sl2 := 0) (ct_X7_put (a1 := (1 + a1)) (a2 := a2) (State_cells := State_cells) hv18) dX10_set_94 w769 ⟨w107, w108⟩ cal_X7_put rfl ⟨⟨Nat.le_of_ble_eq_true rfl, Nat.le_of_ble_eq_true rfl⟩, Nat.le_of_ble_eq_true rfl, Nat.le_of_ble_eq_true rfl⟩ (Nat.le_of_ble_eq_true rfl) (Or.inl ⟨_, _, _, _, rfl, rfl⟩) rfl ⟨rfl, ⟨by decide, by decide⟩, rfl, (fr_cons (Or.inl (Nat.le_of_ble_eq_true rfl)) (fr_nil)), rfl⟩ fr_v rfl rfl rfl rfl ?_
              refine V.iload (i := 5) dX10_set_97 rfl ?_
              obtain rfl := Option.some.inj hf
              exact V.iret dX10_set_99 rfl (Nat.le_of_ble_eq_true rfl) (Nat.le_of_ble_eq_true rfl) rfl
            · have hf := fif_f h hf
              obtain rfl := Option.some.inj hf
              exact V.throwS (i := 15) th_RX10_IllegalArgumentException_110 (List.mem_of_getElem? (i := 15) rfl) dX10_set_53 dX10_set_56 dX10_set_57 dX10_set_59 dX10_set_62 rfl (Nat.le_of_ble_eq_true rfl) (Nat.le_of_ble_eq_true rfl) ⟨Nat.le_of_ble_eq_true rfl, Nat.le_of_ble_eq_true rfl⟩ (Nat.le_of_ble_eq_true rfl) (Nat.le_of_ble_eq_true rfl) rfl
      · have hf := fif_t h hf
        refine V.iconst (v := 1) dX10_set_23 rfl ?_
        refine V.goto (tgt := 28) dX10_set_24 (by decide) ?_
        refine V.istore_n (i := 3) (L' := [some (.ref 0), some (.int a1), some (.int a2), some (.int 1), none, none]) dX10_set_28 rfl (Nat.le_of_ble_eq_true rfl) rfl rfl ?_
        refine V.iload_n (i := 1) dX10_set_29 rfl rfl ?_
        refine V.if_ne (tgt := 38) dX10_set_30 (by decide) (fun h => ?_) (fun h => ?_)
        · have hf := fif_f h hf
          refine V.bipush (v := 8) dX10_set_38 rfl ?_
          refine V.istore (i := 4) (L' := [some (.ref 0), some (.int a1), some (.int a2), some (.int 1), some (.int 8), none]) dX10_set_40 (Nat.le_of_ble_eq_true rfl) rfl rfl ?_
          refine V.iload_n (i := 2) dX10_set_42 rfl rfl ?_
          refine V.iload_n (i := 3) dX10_set_43 rfl rfl ?_
          refine V.icmp_lt (tgt := 53) dX10_set_44 (by decide) (fun h => ?_) (fun h => ?_)
          · have hf := fif_t h hf
            obtain rfl := Option.some.inj hf
            exact V.throwS (i := 15) th_RX10_IllegalArgumentException_110 (List.mem_of_getElem? (i := 15) rfl) dX10_set_53 dX10_set_56 dX10_set_57 dX10_set_59 dX10_set_62 rfl (Nat.le_of_ble_eq_true rfl) (Nat.le_of_ble_eq_true rfl) ⟨Nat.le_of_ble_eq_true rfl, Nat.le_of_ble_eq_true rfl⟩ (Nat.le_of_ble_eq_true rfl) (Nat.le_of_ble_eq_true rfl) rfl
          · have hf := fif_f h hf
            refine V.iload_n (i := 2) dX10_set_47 rfl rfl ?_
            refine V.iload (i := 4) dX10_set_48 rfl ?_
            refine V.icmp_le (tgt := 63) dX10_set_50 (by decide) (fun h => ?_) (fun h => ?_)
            · have hf := fif_t h hf
              refine V.aload_n (i := 0) dX10_set_63 rfl rfl ?_
              refine V.getfield (kf := 1) (v := .ref 3) fl_RX10 dX10_set_64 w182 (Nat.le_of_ble_eq_true rfl) rfl rfl ?_
              refine V.aload_n (i := 0) dX10_set_67 rfl rfl ?_
              refine V.getfield (kf := 0) (v := .ref 1) fl_RX10 dX10_set_68 w181 (Nat.le_of_ble_eq_true rfl) rfl rfl ?_
              obtain ⟨v19, hv19, hf⟩ := fbind hf
              refine V.callVn (pl := [3, 4, 5, 1, 2]) (σ' := [.inl (5, [.ref 1, .ref 3, .ref 6, .ref 8, .ref 9]), .inl (3, [.ref 2]), .inr (910, .inl State_cells), .inl (1, [.ref 4, .ref 5, .int v19.1, .int v19.2.1, .int History_snapshotTaken]), .inr (5460, .inl v19.2.2), .inr (910, .inl History_snapshot), .inl (0, [.ref 7, .int Buffer_size]), .inr (60, .inl Buffer_codes), .inl (2, [.ref (Reader_pattern + 1000), .int Reader_place]), .inl (4, [.ref 10, .int Word_size]), .inr (8, .inl Word_letters)]) (st2 := []) (cl2 := 0) (sl2 := 0) (ct_X3_push (History_oldest := History_oldest) (History_size := History_size) (History_snapshotTaken := History_snapshotTaken) (History_saved := History_saved) (History_snapshot := History_snapshot) (State_cells := State_cells) hv19) dX10_set_71 w652 ⟨w653, w654⟩ cal_X3_push rfl ⟨⟨Nat.le_of_ble_eq_true rfl, Nat.le_of_ble_eq_true rfl⟩, Nat.le_of_ble_eq_true rfl, Nat.le_of_ble_eq_true rfl⟩ (Nat.le_of_ble_eq_true rfl) (Or.inl ⟨_, _, _, _, rfl, rfl⟩) rfl ⟨rfl, ⟨by decide, by decide⟩, rfl, (fr_cons (Or.inl (Nat.le_of_ble_eq_true rfl)) (fr_cons (Or.inl (Nat.le_of_ble_eq_true rfl)) (fr_cons (Or.inl (Nat.le_of_ble_eq_true rfl)) (fr_nil)))), rfl⟩ fr_v rfl rfl rfl rfl ?_
              refine V.aload_n (i := 0) dX10_set_74 rfl rfl ?_
              refine V.getfield (kf := 0) (v := .ref 1) fl_RX10 dX10_set_75 w181 (Nat.le_of_ble_eq_true rfl) rfl rfl ?_
              refine V.iconst (v := 1) dX10_set_78 rfl ?_
              refine V.iload_n (i := 1) dX10_set_79 rfl rfl ?_
              refine V.iadd dX10_set_80 ?_
              obtain ⟨v20, hv20, hf⟩ := fbind hf
              refine V.callVn (pl := [1, 2]) (σ' := [.inl (5, [.ref 1, .ref 3, .ref 6, .ref 8, .ref 9]), .inl (3, [.ref 2]), .inr (910, .inl State_cells), .inl (1, [.ref 4, .ref 5, .int v19.1, .int v19.2.1, .int History_snapshotTaken]), .inr (5460, .inl v19.2.2), .inr (910, .inl History_snapshot), .inl (0, [.ref 7, .int Buffer_size]), .inr (60, .inl Buffer_codes), .inl (2, [.ref (Reader_pattern + 1000), .int Reader_place]), .inl (4, [.ref 10, .int Word_size]), .inr (8, .inl Word_letters)]) (st2 := [.int v20]) (cl2 := 0) (sl2 := 0) (ct_X7_at (a1 := (1 + a1)) (State_cells := State_cells) hv20) dX10_set_81 w482 ⟨w314, w315⟩ cal_X7_at rfl ⟨⟨Nat.le_of_ble_eq_true rfl, Nat.le_of_ble_eq_true rfl⟩, Nat.le_of_ble_eq_true rfl, Nat.le_of_ble_eq_true rfl⟩ (Nat.le_of_ble_eq_true rfl) (Or.inl ⟨_, _, _, _, rfl, rfl⟩) rfl ⟨rfl, ⟨by decide, by decide⟩, rfl, (fr_cons (Or.inl (Nat.le_of_ble_eq_true rfl)) (fr_nil)), rfl⟩ fr_i rfl rfl rfl rfl ?_
              refine V.istore (i := 5) (L' := [some (.ref 0), some (.int a1), some (.int a2), some (.int 1), some (.int 8), some (.int v20)]) dX10_set_84 (Nat.le_of_ble_eq_true rfl) rfl rfl ?_
              refine V.aload_n (i := 0) dX10_set_86 rfl rfl ?_
              refine V.getfield (kf := 0) (v := .ref 1) fl_RX10 dX10_set_87 w181 (Nat.le_of_ble_eq_true rfl) rfl rfl ?_
              refine V.iconst (v := 1) dX10_set_90 rfl ?_
              refine V.iload_n (i := 1) dX10_set_91 rfl rfl ?_
              refine V.iadd dX10_set_92 ?_
              refine V.iload_n (i := 2) dX10_set_93 rfl rfl ?_
              obtain ⟨v21, hv21, hf⟩ := fbind hf
              refine V.callVn (pl := [1, 2]) (σ' := [.inl (5, [.ref 1, .ref 3, .ref 6, .ref 8, .ref 9]), .inl (3, [.ref 2]), .inr (910, .inl v21), .inl (1, [.ref 4, .ref 5, .int v19.1, .int v19.2.1, .int History_snapshotTaken]), .inr (5460, .inl v19.2.2), .inr (910, .inl History_snapshot), .inl (0, [.ref 7, .int Buffer_size]), .inr (60, .inl Buffer_codes), .inl (2, [.ref (Reader_pattern + 1000), .int Reader_place]), .inl (4, [.ref 10, .int Word_size]), .inr (8, .inl Word_letters)]) (st2 := []) (cl2 := 0) (sl2 := 0) (ct_X7_put (a1 := (1 + a1)) (a2 := a2) (State_cells := State_cells) hv21) dX10_set_94 w769 ⟨w107, w108⟩ cal_X7_put rfl ⟨⟨Nat.le_of_ble_eq_true rfl, Nat.le_of_ble_eq_true rfl⟩, Nat.le_of_ble_eq_true rfl, Nat.le_of_ble_eq_true rfl⟩ (Nat.le_of_ble_eq_true rfl) (Or.inl ⟨_, _, _, _, rfl, rfl⟩) rfl ⟨rfl, ⟨by decide, by decide⟩, rfl, (fr_cons (Or.inl (Nat.le_of_ble_eq_true rfl)) (fr_nil)), rfl⟩ fr_v rfl rfl rfl rfl ?_
              refine V.iload (i := 5) dX10_set_97 rfl ?_
              obtain rfl := Option.some.inj hf
              exact V.iret dX10_set_99 rfl (Nat.le_of_ble_eq_true rfl) (Nat.le_of_ble_eq_true rfl) rfl
            · have hf := fif_f h hf
              obtain rfl := Option.some.inj hf
              exact V.throwS (i := 15) th_RX10_IllegalArgumentException_110 (List.mem_of_getElem? (i := 15) rfl) dX10_set_53 dX10_set_56 dX10_set_57 dX10_set_59 dX10_set_62 rfl (Nat.le_of_ble_eq_true rfl) (Nat.le_of_ble_eq_true rfl) ⟨Nat.le_of_ble_eq_true rfl, Nat.le_of_ble_eq_true rfl⟩ (Nat.le_of_ble_eq_true rfl) (Nat.le_of_ble_eq_true rfl) rfl
        · have hf := fif_t h hf
          refine V.bipush (v := 9) dX10_set_33 rfl ?_
          refine V.goto (tgt := 40) dX10_set_35 (by decide) ?_
          refine V.istore (i := 4) (L' := [some (.ref 0), some (.int a1), some (.int a2), some (.int 1), some (.int 9), none]) dX10_set_40 (Nat.le_of_ble_eq_true rfl) rfl rfl ?_
          refine V.iload_n (i := 2) dX10_set_42 rfl rfl ?_
          refine V.iload_n (i := 3) dX10_set_43 rfl rfl ?_
          refine V.icmp_lt (tgt := 53) dX10_set_44 (by decide) (fun h => ?_) (fun h => ?_)
          · have hf := fif_t h hf
            obtain rfl := Option.some.inj hf
            exact V.throwS (i := 15) th_RX10_IllegalArgumentException_110 (List.mem_of_getElem? (i := 15) rfl) dX10_set_53 dX10_set_56 dX10_set_57 dX10_set_59 dX10_set_62 rfl (Nat.le_of_ble_eq_true rfl) (Nat.le_of_ble_eq_true rfl) ⟨Nat.le_of_ble_eq_true rfl, Nat.le_of_ble_eq_true rfl⟩ (Nat.le_of_ble_eq_true rfl) (Nat.le_of_ble_eq_true rfl) rfl
          · have hf := fif_f h hf
            refine V.iload_n (i := 2) dX10_set_47 rfl rfl ?_
            refine V.iload (i := 4) dX10_set_48 rfl ?_
            refine V.icmp_le (tgt := 63) dX10_set_50 (by decide) (fun h => ?_) (fun h => ?_)
            · have hf := fif_t h hf
              refine V.aload_n (i := 0) dX10_set_63 rfl rfl ?_
              refine V.getfield (kf := 1) (v := .ref 3) fl_RX10 dX10_set_64 w182 (Nat.le_of_ble_eq_true rfl) rfl rfl ?_
              refine V.aload_n (i := 0) dX10_set_67 rfl rfl ?_
              refine V.getfield (kf := 0) (v := .ref 1) fl_RX10 dX10_set_68 w181 (Nat.le_of_ble_eq_true rfl) rfl rfl ?_
              obtain ⟨v22, hv22, hf⟩ := fbind hf
              refine V.callVn (pl := [3, 4, 5, 1, 2]) (σ' := [.inl (5, [.ref 1, .ref 3, .ref 6, .ref 8, .ref 9]), .inl (3, [.ref 2]), .inr (910, .inl State_cells), .inl (1, [.ref 4, .ref 5, .int v22.1, .int v22.2.1, .int History_snapshotTaken]), .inr (5460, .inl v22.2.2), .inr (910, .inl History_snapshot), .inl (0, [.ref 7, .int Buffer_size]), .inr (60, .inl Buffer_codes), .inl (2, [.ref (Reader_pattern + 1000), .int Reader_place]), .inl (4, [.ref 10, .int Word_size]), .inr (8, .inl Word_letters)]) (st2 := []) (cl2 := 0) (sl2 := 0) (ct_X3_push (History_oldest := History_oldest) (History_size := History_size) (History_snapshotTaken := History_snapshotTaken) (History_saved := History_saved) (History_snapshot := History_snapshot) (State_cells := State_cells) hv22) dX10_set_71 w652 ⟨w653, w654⟩ cal_X3_push rfl ⟨⟨Nat.le_of_ble_eq_true rfl, Nat.le_of_ble_eq_true rfl⟩, Nat.le_of_ble_eq_true rfl, Nat.le_of_ble_eq_true rfl⟩ (Nat.le_of_ble_eq_true rfl) (Or.inl ⟨_, _, _, _, rfl, rfl⟩) rfl ⟨rfl, ⟨by decide, by decide⟩, rfl, (fr_cons (Or.inl (Nat.le_of_ble_eq_true rfl)) (fr_cons (Or.inl (Nat.le_of_ble_eq_true rfl)) (fr_cons (Or.inl (Nat.le_of_ble_eq_true rfl)) (fr_nil)))), rfl⟩ fr_v rfl rfl rfl rfl ?_
              refine V.aload_n (i := 0) dX10_set_74 rfl rfl ?_
              refine V.getfield (kf := 0) (v := .ref 1) fl_RX10 dX10_set_75 w181 (Nat.le_of_ble_eq_true rfl) rfl rfl ?_
              refine V.iconst (v := 1) dX10_set_78 rfl ?_
              refine V.iload_n (i := 1) dX10_set_79 rfl rfl ?_
              refine V.iadd dX10_set_80 ?_
              obtain ⟨v23, hv23, hf⟩ := fbind hf
              refine V.callVn (pl := [1, 2]) (σ' := [.inl (5, [.ref 1, .ref 3, .ref 6, .ref 8, .ref 9]), .inl (3, [.ref 2]), .inr (910, .inl State_cells), .inl (1, [.ref 4, .ref 5, .int v22.1, .int v22.2.1, .int History_snapshotTaken]), .inr (5460, .inl v22.2.2), .inr (910, .inl History_snapshot), .inl (0, [.ref 7, .int Buffer_size]), .inr (60, .inl Buffer_codes), .inl (2, [.ref (Reader_pattern + 1000), .int Reader_place]), .inl (4, [.ref 10, .int Word_size]), .inr (8, .inl Word_letters)]) (st2 := [.int v23]) (cl2 := 0) (sl2 := 0) (ct_X7_at (a1 := (1 + a1)) (State_cells := State_cells) hv23) dX10_set_81 w482 ⟨w314, w315⟩ cal_X7_at rfl ⟨⟨Nat.le_of_ble_eq_true rfl, Nat.le_of_ble_eq_true rfl⟩, Nat.le_of_ble_eq_true rfl, Nat.le_of_ble_eq_true rfl⟩ (Nat.le_of_ble_eq_true rfl) (Or.inl ⟨_, _, _, _, rfl, rfl⟩) rfl ⟨rfl, ⟨by decide, by decide⟩, rfl, (fr_cons (Or.inl (Nat.le_of_ble_eq_true rfl)) (fr_nil)), rfl⟩ fr_i rfl rfl rfl rfl ?_
              refine V.istore (i := 5) (L' := [some (.ref 0), some (.int a1), some (.int a2), some (.int 1), some (.int 9), some (.int v23)]) dX10_set_84 (Nat.le_of_ble_eq_true rfl) rfl rfl ?_
              refine V.aload_n (i := 0) dX10_set_86 rfl rfl ?_
              refine V.getfield (kf := 0) (v := .ref 1) fl_RX10 dX10_set_87 w181 (Nat.le_of_ble_eq_true rfl) rfl rfl ?_
              refine V.iconst (v := 1) dX10_set_90 rfl ?_
              refine V.iload_n (i := 1) dX10_set_91 rfl rfl ?_
              refine V.iadd dX10_set_92 ?_
              refine V.iload_n (i := 2) dX10_set_93 rfl rfl ?_
              obtain ⟨v24, hv24, hf⟩ := fbind hf
              refine V.callVn (pl := [1, 2]) (σ' := [.inl (5, [.ref 1, .ref 3, .ref 6, .ref 8, .ref 9]), .inl (3, [.ref 2]), .inr (910, .inl v24), .inl (1, [.ref 4, .ref 5, .int v22.1, .int v22.2.1, .int History_snapshotTaken]), .inr (5460, .inl v22.2.2), .inr (910, .inl History_snapshot), .inl (0, [.ref 7, .int Buffer_size]), .inr (60, .inl Buffer_codes), .inl (2, [.ref (Reader_pattern + 1000), .int Reader_place]), .inl (4, [.ref 10, .int Word_size]), .inr (8, .inl Word_letters)]) (st2 := []) (cl2 := 0) (sl2 := 0) (ct_X7_put (a1 := (1 + a1)) (a2 := a2) (State_cells := State_cells) hv24) dX10_set_94 w769 ⟨w107, w108⟩ cal_X7_put rfl ⟨⟨Nat.le_of_ble_eq_true rfl, Nat.le_of_ble_eq_true rfl⟩, Nat.le_of_ble_eq_true rfl, Nat.le_of_ble_eq_true rfl⟩ (Nat.le_of_ble_eq_true rfl) (Or.inl ⟨_, _, _, _, rfl, rfl⟩) rfl ⟨rfl, ⟨by decide, by decide⟩, rfl, (fr_cons (Or.inl (Nat.le_of_ble_eq_true rfl)) (fr_nil)), rfl⟩ fr_v rfl rfl rfl rfl ?_
              refine V.iload (i := 5) dX10_set_97 rfl ?_
              obtain rfl := Option.some.inj hf
              exact V.iret dX10_set_99 rfl (Nat.le_of_ble_eq_true rfl) (Nat.le_of_ble_eq_true rfl) rfl
            · have hf := fif_f h hf
              obtain rfl := Option.some.inj hf
              exact V.throwS (i := 15) th_RX10_IllegalArgumentException_110 (List.mem_of_getElem? (i := 15) rfl) dX10_set_53 dX10_set_56 dX10_set_57 dX10_set_59 dX10_set_62 rfl (Nat.le_of_ble_eq_true rfl) (Nat.le_of_ble_eq_true rfl) ⟨Nat.le_of_ble_eq_true rfl, Nat.le_of_ble_eq_true rfl⟩ (Nat.le_of_ble_eq_true rfl) (Nat.le_of_ble_eq_true rfl) rfl
    · have hf := fif_f h hf
      obtain rfl := Option.some.inj hf
      exact V.throwS (i := 14) th_RX10_IndexOutOfBoundsException_131 (List.mem_of_getElem? (i := 14) rfl) dX10_set_9 dX10_set_12 dX10_set_13 dX10_set_15 dX10_set_18 rfl (Nat.le_of_ble_eq_true rfl) (Nat.le_of_ble_eq_true rfl) ⟨Nat.le_of_ble_eq_true rfl, Nat.le_of_ble_eq_true rfl⟩ (Nat.le_of_ble_eq_true rfl) (Nat.le_of_ble_eq_true rfl) rfl
def k_X10_append : fK := (yX10_append, cX10_append, 2, (some .int), [], (6, 82), (0, 0), (1, 6))
theorem cal_X10_append : fCal k_X10_append 1 := ⟨⟨wc785, w67⟩, ⟨by decide +kernel, by decide +kernel⟩, by decide +kernel, by decide +kernel⟩
def s_X10_append (a1 : Int32) (Buffer_size : Int32) (Buffer_codes : Nat → Int32) : Option ((Int32 ⊕ String) × (Int32) × (Nat → Int32)) := if (a1 < 33 : Prop) then (some (.inr "java/lang/IllegalArgumentException", Buffer_size, Buffer_codes)) else (if (a1 ≤ 126 : Prop) then ((s_X1_isFull Buffer_size).bind fun v1 => if (v1 = 0 : Prop) then ((s_X1_add a1 Buffer_size Buffer_codes).bind fun v2 => some (.inl v2.1, v2.2.1, v2.2.2)) else (some (.inr "java/lang/IllegalStateException", Buffer_size, Buffer_codes))) else (some (.inr "java/lang/IllegalArgumentException", Buffer_size, Buffer_codes)))
set_option maxHeartbeats 4000000 in
set_option maxRecDepth 100000 in
theorem ct_X10_append {a1 : Int32} {State_cells : Nat → Int32} {History_oldest : Int32} {History_size : Int32} {History_snapshotTaken : Int32} {History_saved : Nat → Int32} {History_snapshot : Nat → Int32} {Buffer_size : Int32} {Buffer_codes : Nat → Int32} {Reader_pattern : Nat} {Reader_place : Int32} {Word_size : Int32} {Word_letters : Nat → Int32} {res : (Int32 ⊕ String) × (Int32) × (Nat → Int32)} (hf : s_X10_append a1 Buffer_size Buffer_codes = some res) : Ct k_X10_append [.ref 0, .int a1] [.inl (5, [.ref 1, .ref 3, .ref 6, .ref 8, .ref 9]), .inl (3, [.ref 2]), .inr (910, .inl State_cells), .inl (1, [.ref 4, .ref 5, .int History_oldest, .int History_size, .int History_snapshotTaken]), .inr (5460, .inl History_saved), .inr (910, .inl History_snapshot), .inl (0, [.ref 7, .int Buffer_size]), .inr (60, .inl Buffer_codes), .inl (2, [.ref (Reader_pattern + 1000), .int Reader_place]), .inl (4, [.ref 10, .int Word_size]), .inr (8, .inl Word_letters)] (foI res.1) [.inl (5, [.ref 1, .ref 3, .ref 6, .ref 8, .ref 9]), .inl (3, [.ref 2]), .inr (910, .inl State_cells), .inl (1, [.ref 4, .ref 5, .int History_oldest, .int History_size, .int History_snapshotTaken]), .inr (5460, .inl History_saved), .inr (910, .inl History_snapshot), .inl (0, [.ref 7, .int res.2.1]), .inr (60, .inl res.2.2), .inl (2, [.ref (Reader_pattern + 1000), .int Reader_place]), .inl (4, [.ref 10, .int Word_size]), .inr (8, .inl Word_letters)] := by
  unfold s_X10_append at hf
  refine Ct.of (L := [some (.ref 0), some (.int a1)]) cal_X10_append (fent_pad (j := 0) rfl) (Nat.le_of_ble_eq_true rfl) ?_
  refine V.iload_n (i := 1) dX10_append_0 rfl rfl ?_
  refine V.bipush (v := 33) dX10_append_1 rfl ?_
  refine V.icmp_lt (tgt := 12) dX10_append_3 (by decide) (fun h => ?_) (fun h => ?_)
  · have hf := fif_t h hf
    obtain rfl := Option.some.inj hf
    exact V.throwS (i := 16) th_RX10_IllegalArgumentException_110 (List.mem_of_getElem? (i := 16) rfl) dX10_append_12 dX10_append_15 dX10_append_16 dX10_append_18 dX10_append_21 rfl (Nat.le_of_ble_eq_true rfl) (Nat.le_of_ble_eq_true rfl) ⟨Nat.le_of_ble_eq_true rfl, Nat.le_of_ble_eq_true rfl⟩ (Nat.le_of_ble_eq_true rfl) (Nat.le_of_ble_eq_true rfl) rfl
  · have hf := fif_f h hf
    refine V.iload_n (i := 1) dX10_append_6 rfl rfl ?_
    refine V.bipush (v := 126) dX10_append_7 rfl ?_
    refine V.icmp_le (tgt := 22) dX10_append_9 (by decide) (fun h => ?_) (fun h => ?_)
    · have hf := fif_t h hf
      refine V.aload_n (i := 0) dX10_append_22 rfl rfl ?_
      refine V.getfield (kf := 2) (v := .ref 6) fl_RX10 dX10_append_23 w183 (Nat.le_of_ble_eq_true rfl) rfl rfl ?_
      obtain ⟨v1, hv1, hf⟩ := fbind hf
      refine V.callVn (pl := [6, 7]) (σ' := [.inl (5, [.ref 1, .ref 3, .ref 6, .ref 8, .ref 9]), .inl (3, [.ref 2]), .inr (910, .inl State_cells), .inl (1, [.ref 4, .ref 5, .int History_oldest, .int History_size, .int History_snapshotTaken]), .inr (5460, .inl History_saved), .inr (910, .inl History_snapshot), .inl (0, [.ref 7, .int Buffer_size]), .inr (60, .inl Buffer_codes), .inl (2, [.ref (Reader_pattern + 1000), .int Reader_place]), .inl (4, [.ref 10, .int Word_size]), .inr (8, .inl Word_letters)]) (st2 := [.int v1]) (cl2 := 0) (sl2 := 0) (ct_X1_isFull (Buffer_size := Buffer_size) (Buffer_codes := Buffer_codes) hv1) dX10_append_26 w787 ⟨w788, w789⟩ cal_X1_isFull rfl ⟨⟨Nat.le_of_ble_eq_true rfl, Nat.le_of_ble_eq_true rfl⟩, Nat.le_of_ble_eq_true rfl, Nat.le_of_ble_eq_true rfl⟩ (Nat.le_of_ble_eq_true rfl) (Or.inl ⟨_, _, _, _, rfl, rfl⟩) rfl ⟨rfl, ⟨by decide, by decide⟩, rfl, (fr_cons (Or.inl (Nat.le_of_ble_eq_true rfl)) (fr_nil)), rfl⟩ fr_i rfl rfl rfl rfl ?_
      refine V.if_eq (tgt := 42) dX10_append_29 (by decide) (fun h => ?_) (fun h => ?_)
      · have hf := fif_t h hf
        refine V.aload_n (i := 0) dX10_append_42 rfl rfl ?_
        refine V.getfield (kf := 2) (v := .ref 6) fl_RX10 dX10_append_43 w183 (Nat.le_of_ble_eq_true rfl) rfl rfl ?_
        refine V.iload_n (i := 1) dX10_append_46 rfl rfl ?_
        obtain ⟨v2, hv2, hf⟩ := fbind hf
        refine V.callVn (pl := [6, 7]) (σ' := [.inl (5, [.ref 1, .ref 3, .ref 6, .ref 8, .ref 9]), .inl (3, [.ref 2]), .inr (910, .inl State_cells), .inl (1, [.ref 4, .ref 5, .int History_oldest, .int History_size, .int History_snapshotTaken]), .inr (5460, .inl History_saved), .inr (910, .inl History_snapshot), .inl (0, [.ref 7, .int v2.2.1]), .inr (60, .inl v2.2.2), .inl (2, [.ref (Reader_pattern + 1000), .int Reader_place]), .inl (4, [.ref 10, .int Word_size]), .inr (8, .inl Word_letters)]) (st2 := [.int v2.1]) (cl2 := 0) (sl2 := 0) (ct_X1_add (a1 := a1) (Buffer_size := Buffer_size) (Buffer_codes := Buffer_codes) hv2) dX10_append_47 w792 ⟨w793, w794⟩ cal_X1_add rfl ⟨⟨Nat.le_of_ble_eq_true rfl, Nat.le_of_ble_eq_true rfl⟩, Nat.le_of_ble_eq_true rfl, Nat.le_of_ble_eq_true rfl⟩ (Nat.le_of_ble_eq_true rfl) (Or.inl ⟨_, _, _, _, rfl, rfl⟩) rfl ⟨rfl, ⟨by decide, by decide⟩, rfl, (fr_cons (Or.inl (Nat.le_of_ble_eq_true rfl)) (fr_nil)), rfl⟩ fr_i rfl rfl rfl rfl ?_
        obtain rfl := Option.some.inj hf
        exact V.iret dX10_append_50 rfl (Nat.le_of_ble_eq_true rfl) (Nat.le_of_ble_eq_true rfl) rfl
      · have hf := fif_f h hf
        obtain rfl := Option.some.inj hf
        exact V.throwS (i := 17) th_RX10_IllegalStateException_61 (List.mem_of_getElem? (i := 17) rfl) dX10_append_32 dX10_append_35 dX10_append_36 dX10_append_38 dX10_append_41 rfl (Nat.le_of_ble_eq_true rfl) (Nat.le_of_ble_eq_true rfl) ⟨Nat.le_of_ble_eq_true rfl, Nat.le_of_ble_eq_true rfl⟩ (Nat.le_of_ble_eq_true rfl) (Nat.le_of_ble_eq_true rfl) rfl
    · have hf := fif_f h hf
      obtain rfl := Option.some.inj hf
      exact V.throwS (i := 16) th_RX10_IllegalArgumentException_110 (List.mem_of_getElem? (i := 16) rfl) dX10_append_12 dX10_append_15 dX10_append_16 dX10_append_18 dX10_append_21 rfl (Nat.le_of_ble_eq_true rfl) (Nat.le_of_ble_eq_true rfl) ⟨Nat.le_of_ble_eq_true rfl, Nat.le_of_ble_eq_true rfl⟩ (Nat.le_of_ble_eq_true rfl) (Nat.le_of_ble_eq_true rfl) rfl
def k_X10_clearBuffer : fK := (yX10_clearBuffer, cX10_clearBuffer, 1, (some .int), [], (1, 21), (0, 0), (0, 0))
theorem cal_X10_clearBuffer : fCal k_X10_clearBuffer 0 := ⟨⟨wc200, w67⟩, ⟨by decide +kernel, by decide +kernel⟩, by decide +kernel, by decide +kernel⟩
def s_X10_clearBuffer (Buffer_size : Int32) : Option (Int32 × (Int32)) := (s_X1_empty Buffer_size).bind fun v1 => some (v1.1, v1.2)
set_option maxHeartbeats 4000000 in
set_option maxRecDepth 100000 in
theorem ct_X10_clearBuffer {State_cells : Nat → Int32} {History_oldest : Int32} {History_size : Int32} {History_snapshotTaken : Int32} {History_saved : Nat → Int32} {History_snapshot : Nat → Int32} {Buffer_size : Int32} {Buffer_codes : Nat → Int32} {Reader_pattern : Nat} {Reader_place : Int32} {Word_size : Int32} {Word_letters : Nat → Int32} {res : Int32 × (Int32)} (hf : s_X10_clearBuffer Buffer_size = some res) : Ct k_X10_clearBuffer [.ref 0] [.inl (5, [.ref 1, .ref 3, .ref 6, .ref 8, .ref 9]), .inl (3, [.ref 2]), .inr (910, .inl State_cells), .inl (1, [.ref 4, .ref 5, .int History_oldest, .int History_size, .int History_snapshotTaken]), .inr (5460, .inl History_saved), .inr (910, .inl History_snapshot), .inl (0, [.ref 7, .int Buffer_size]), .inr (60, .inl Buffer_codes), .inl (2, [.ref (Reader_pattern + 1000), .int Reader_place]), .inl (4, [.ref 10, .int Word_size]), .inr (8, .inl Word_letters)] (.inl (some (.int res.1))) [.inl (5, [.ref 1, .ref 3, .ref 6, .ref 8, .ref 9]), .inl (3, [.ref 2]), .inr (910, .inl State_cells), .inl (1, [.ref 4, .ref 5, .int History_oldest, .int History_size, .int History_snapshotTaken]), .inr (5460, .inl History_saved), .inr (910, .inl History_snapshot), .inl (0, [.ref 7, .int res.2]), .inr (60, .inl Buffer_codes), .inl (2, [.ref (Reader_pattern + 1000), .int Reader_place]), .inl (4, [.ref 10, .int Word_size]), .inr (8, .inl Word_letters)] := by
  unfold s_X10_clearBuffer at hf
  refine Ct.of (L := [some (.ref 0)]) cal_X10_clearBuffer (fent_pad (j := 0) rfl) (Nat.le_of_ble_eq_true rfl) ?_
  refine V.aload_n (i := 0) dX10_clearBuffer_0 rfl rfl ?_
  refine V.getfield (kf := 2) (v := .ref 6) fl_RX10 dX10_clearBuffer_1 w183 (Nat.le_of_ble_eq_true rfl) rfl rfl ?_
  obtain ⟨v1, hv1, hf⟩ := fbind hf
  refine V.callVn (pl := [6, 7]) (σ' := [.inl (5, [.ref 1, .ref 3, .ref 6, .ref 8, .ref 9]), .inl (3, [.ref 2]), .inr (910, .inl State_cells), .inl (1, [.ref 4, .ref 5, .int History_oldest, .int History_size, .int History_snapshotTaken]), .inr (5460, .inl History_saved), .inr (910, .inl History_snapshot), .inl (0, [.ref 7, .int v1.2]), .inr (60, .inl Buffer_codes), .inl (2, [.ref (Reader_pattern + 1000), .int Reader_place]), .inl (4, [.ref 10, .int Word_size]), .inr (8, .inl Word_letters)]) (st2 := [.int v1.1]) (cl2 := 0) (sl2 := 0) (ct_X1_empty (Buffer_size := Buffer_size) (Buffer_codes := Buffer_codes) hv1) dX10_clearBuffer_4 w201 ⟨w202, w203⟩ cal_X1_empty rfl ⟨⟨Nat.le_of_ble_eq_true rfl, Nat.le_of_ble_eq_true rfl⟩, Nat.le_of_ble_eq_true rfl, Nat.le_of_ble_eq_true rfl⟩ (Nat.le_of_ble_eq_true rfl) (Or.inl ⟨_, _, _, _, rfl, rfl⟩) rfl ⟨rfl, ⟨by decide, by decide⟩, rfl, (fr_cons (Or.inl (Nat.le_of_ble_eq_true rfl)) (fr_nil)), rfl⟩ fr_i rfl rfl rfl rfl ?_
  obtain rfl := Option.some.inj hf
  exact V.iret dX10_clearBuffer_7 rfl (Nat.le_of_ble_eq_true rfl) (Nat.le_of_ble_eq_true rfl) rfl
def k_X10_firstError : fK := (yX10_firstError, cX10_firstError, 1, (some .int), [], (8, 169), (0, 0), (0, 0))
theorem cal_X10_firstError : fCal k_X10_firstError 0 := ⟨⟨wc208, w67⟩, ⟨by decide +kernel, by decide +kernel⟩, by decide +kernel, by decide +kernel⟩
def s_X10_firstError (Buffer_size : Int32) (Buffer_codes : Nat → Int32) (Reader_pattern : Nat) (Reader_place : Int32) : Option (Int32 × (Nat) × (Int32)) := (s_X5_readAll Reader_pattern Reader_place Buffer_size Buffer_codes).bind fun v1 => some (v1.1, v1.2.1, v1.2.2)
set_option maxHeartbeats 4000000 in
set_option maxRecDepth 100000 in
theorem ct_X10_firstError {State_cells : Nat → Int32} {History_oldest : Int32} {History_size : Int32} {History_snapshotTaken : Int32} {History_saved : Nat → Int32} {History_snapshot : Nat → Int32} {Buffer_size : Int32} {Buffer_codes : Nat → Int32} {Reader_pattern : Nat} {Reader_place : Int32} {Word_size : Int32} {Word_letters : Nat → Int32} {res : Int32 × (Nat) × (Int32)} (hf : s_X10_firstError Buffer_size Buffer_codes Reader_pattern Reader_place = some res) : Ct k_X10_firstError [.ref 0] [.inl (5, [.ref 1, .ref 3, .ref 6, .ref 8, .ref 9]), .inl (3, [.ref 2]), .inr (910, .inl State_cells), .inl (1, [.ref 4, .ref 5, .int History_oldest, .int History_size, .int History_snapshotTaken]), .inr (5460, .inl History_saved), .inr (910, .inl History_snapshot), .inl (0, [.ref 7, .int Buffer_size]), .inr (60, .inl Buffer_codes), .inl (2, [.ref (Reader_pattern + 1000), .int Reader_place]), .inl (4, [.ref 10, .int Word_size]), .inr (8, .inl Word_letters)] (.inl (some (.int res.1))) [.inl (5, [.ref 1, .ref 3, .ref 6, .ref 8, .ref 9]), .inl (3, [.ref 2]), .inr (910, .inl State_cells), .inl (1, [.ref 4, .ref 5, .int History_oldest, .int History_size, .int History_snapshotTaken]), .inr (5460, .inl History_saved), .inr (910, .inl History_snapshot), .inl (0, [.ref 7, .int Buffer_size]), .inr (60, .inl Buffer_codes), .inl (2, [.ref (res.2.1 + 1000), .int res.2.2]), .inl (4, [.ref 10, .int Word_size]), .inr (8, .inl Word_letters)] := by
  unfold s_X10_firstError at hf
  refine Ct.of (L := [some (.ref 0)]) cal_X10_firstError (fent_pad (j := 0) rfl) (Nat.le_of_ble_eq_true rfl) ?_
  refine V.aload_n (i := 0) dX10_firstError_0 rfl rfl ?_
  refine V.getfield (kf := 3) (v := .ref 8) fl_RX10 dX10_firstError_1 w184 (Nat.le_of_ble_eq_true rfl) rfl rfl ?_
  refine V.aload_n (i := 0) dX10_firstError_4 rfl rfl ?_
  refine V.getfield (kf := 2) (v := .ref 6) fl_RX10 dX10_firstError_5 w183 (Nat.le_of_ble_eq_true rfl) rfl rfl ?_
  obtain ⟨v1, hv1, hf⟩ := fbind hf
  refine V.callVn (pl := [8, 6, 7]) (σ' := [.inl (5, [.ref 1, .ref 3, .ref 6, .ref 8, .ref 9]), .inl (3, [.ref 2]), .inr (910, .inl State_cells), .inl (1, [.ref 4, .ref 5, .int History_oldest, .int History_size, .int History_snapshotTaken]), .inr (5460, .inl History_saved), .inr (910, .inl History_snapshot), .inl (0, [.ref 7, .int Buffer_size]), .inr (60, .inl Buffer_codes), .inl (2, [.ref (v1.2.1 + 1000), .int v1.2.2]), .inl (4, [.ref 10, .int Word_size]), .inr (8, .inl Word_letters)]) (st2 := [.int v1.1]) (cl2 := 0) (sl2 := 0) (ct_X5_readAll (Reader_pattern := Reader_pattern) (Reader_place := Reader_place) (Buffer_size := Buffer_size) (Buffer_codes := Buffer_codes) hv1) dX10_firstError_8 w209 ⟨w210, w211⟩ cal_X5_readAll rfl ⟨⟨Nat.le_of_ble_eq_true rfl, Nat.le_of_ble_eq_true rfl⟩, Nat.le_of_ble_eq_true rfl, Nat.le_of_ble_eq_true rfl⟩ (Nat.le_of_ble_eq_true rfl) (Or.inl ⟨_, _, _, _, rfl, rfl⟩) rfl ⟨rfl, ⟨by decide, by decide⟩, rfl, (fr_cons (Or.inr (Nat.le_add_left 1000 _)) (fr_cons (Or.inl (Nat.le_of_ble_eq_true rfl)) (fr_nil))), rfl⟩ fr_i rfl rfl rfl rfl ?_
  obtain rfl := Option.some.inj hf
  exact V.iret dX10_firstError_11 rfl (Nat.le_of_ble_eq_true rfl) (Nat.le_of_ble_eq_true rfl) rfl
def k_X10_whyNotDone : fK := (yX10_whyNotDone, cX10_whyNotDone, 6, (some .int), [], (5, 124), (0, 0), (0, 0))
theorem cal_X10_whyNotDone : fCal k_X10_whyNotDone 1 := ⟨⟨wc813, w67⟩, ⟨by decide +kernel, by decide +kernel⟩, by decide +kernel, by decide +kernel⟩
def s_X10_whyNotDone (a1 : Int32) (State_cells : Nat → Int32) (Buffer_size : Int32) (Buffer_codes : Nat → Int32) (Word_size : Int32) (Word_letters : Nat → Int32) : Option (Int32 × (Int32) × (Nat → Int32)) := (s_X1_at a1 Buffer_size Buffer_codes).bind fun v1 => (s_X5_placeOfFisher v1).bind fun v2 => (s_X1_digitAt (a1 + v2) Buffer_size Buffer_codes).bind fun v3 => if (v1 = 115 : Prop) then (some (0, Word_size, Word_letters)) else (if (v1 = 116 : Prop) then ((s_X1_endOfPart a1 Buffer_size Buffer_codes).bind fun v9 => (s_X1_spell ((a1 + v2) + 2) v9 Buffer_size Buffer_codes Word_size Word_letters).bind fun v10 => (s_X4_whyNotTied v3 State_cells v10.2.1 v10.2.2).bind fun v11 => some (v11, v10.2.1, v10.2.2)) else ((s_X1_digitAt ((a1 + v2) + 2) Buffer_size Buffer_codes).bind fun v4 => (s_X7_hasName v3 v4 State_cells).bind fun v5 => if (v5 = 0 : Prop) then (some (6, Word_size, Word_letters)) else (if (v1 = 103 : Prop) then ((s_X1_digitAt ((a1 + v2) + 4) Buffer_size Buffer_codes).bind fun v7 => (s_X4_whyNotGiven v3 v4 v7 State_cells Word_size Word_letters).bind fun v8 => some (v8.1, v8.2.1, v8.2.2)) else (if (v1 = 102 : Prop) then ((s_X4_whyNotTightened v3 v4 State_cells).bind fun v6 => some (v6, Word_size, Word_letters)) else (some (0, Word_size, Word_letters))))))
set_option maxHeartbeats 4000000 in
set_option maxRecDepth 100000 in
theorem ct_X10_whyNotDone {a1 : Int32} {State_cells : Nat → Int32} {History_oldest : Int32} {History_size : Int32} {History_snapshotTaken : Int32} {History_saved : Nat → Int32} {History_snapshot : Nat → Int32} {Buffer_size : Int32} {Buffer_codes : Nat → Int32} {Reader_pattern : Nat} {Reader_place : Int32} {Word_size : Int32} {Word_letters : Nat → Int32} {res : Int32 × (Int32) × (Nat → Int32)} (hf : s_X10_whyNotDone a1 State_cells Buffer_size Buffer_codes Word_size Word_letters = some res) : Ct k_X10_whyNotDone [.ref 0, .int a1] [.inl (5, [.ref 1, .ref 3, .ref 6, .ref 8, .ref 9]), .inl (3, [.ref 2]), .inr (910, .inl State_cells), .inl (1, [.ref 4, .ref 5, .int History_oldest, .int History_size, .int History_snapshotTaken]), .inr (5460, .inl History_saved), .inr (910, .inl History_snapshot), .inl (0, [.ref 7, .int Buffer_size]), .inr (60, .inl Buffer_codes), .inl (2, [.ref (Reader_pattern + 1000), .int Reader_place]), .inl (4, [.ref 10, .int Word_size]), .inr (8, .inl Word_letters)] (.inl (some (.int res.1))) [.inl (5, [.ref 1, .ref 3, .ref 6, .ref 8, .ref 9]), .inl (3, [.ref 2]), .inr (910, .inl State_cells), .inl (1, [.ref 4, .ref 5, .int History_oldest, .int History_size, .int History_snapshotTaken]), .inr (5460, .inl History_saved), .inr (910, .inl History_snapshot), .inl (0, [.ref 7, .int Buffer_size]), .inr (60, .inl Buffer_codes), .inl (2, [.ref (Reader_pattern + 1000), .int Reader_place]), .inl (4, [.ref 10, .int res.2.1]), .inr (8, .inl res.2.2)] := by
  unfold s_X10_whyNotDone at hf
  refine Ct.of (L := [some (.ref 0), some (.int a1), none, none, none, none]) cal_X10_whyNotDone (fent_pad (j := 4) rfl) (Nat.le_of_ble_eq_true rfl) ?_
  refine V.aload_n (i := 0) dX10_whyNotDone_0 rfl rfl ?_
  refine V.getfield (kf := 2) (v := .ref 6) fl_RX10 dX10_whyNotDone_1 w183 (Nat.le_of_ble_eq_true rfl) rfl rfl ?_
  refine V.iload_n (i := 1) dX10_whyNotDone_4 rfl rfl ?_
  obtain ⟨v1, hv1, hf⟩ := fbind hf
  refine V.callVn (pl := [6, 7]) (σ' := [.inl (5, [.ref 1, .ref 3, .ref 6, .ref 8, .ref 9]), .inl (3, [.ref 2]), .inr (910, .inl State_cells), .inl (1, [.ref 4, .ref 5, .int History_oldest, .int History_size, .int History_snapshotTaken]), .inr (5460, .inl History_saved), .inr (910, .inl History_snapshot), .inl (0, [.ref 7, .int Buffer_size]), .inr (60, .inl Buffer_codes), .inl (2, [.ref (Reader_pattern + 1000), .int Reader_place]), .inl (4, [.ref 10, .int Word_size]), .inr (8, .inl Word_letters)]) (st2 := [.int v1]) (cl2 := 0) (sl2 := 0) (ct_X1_at (a1 := a1) (Buffer_size := Buffer_size) (Buffer_codes := Buffer_codes) hv1) dX10_whyNotDone_5 w814 ⟨w218, w219⟩ cal_X1_at rfl ⟨⟨Nat.le_of_ble_eq_true rfl, Nat.le_of_ble_eq_true rfl⟩, Nat.le_of_ble_eq_true rfl, Nat.le_of_ble_eq_true rfl⟩ (Nat.le_of_ble_eq_true rfl) (Or.inl ⟨_, _, _, _, rfl, rfl⟩) rfl ⟨rfl, ⟨by decide, by decide⟩, rfl, (fr_cons (Or.inl (Nat.le_of_ble_eq_true rfl)) (fr_nil)), rfl⟩ fr_i rfl rfl rfl rfl ?_
  refine V.istore_n (i := 2) (L' := [some (.ref 0), some (.int a1), some (.int v1), none, none, none]) dX10_whyNotDone_8 rfl (Nat.le_of_ble_eq_true rfl) rfl rfl ?_
  refine V.iload_n (i := 1) dX10_whyNotDone_9 rfl rfl ?_
  refine V.iload_n (i := 2) dX10_whyNotDone_10 rfl rfl ?_
  obtain ⟨v2, hv2, hf⟩ := fbind hf
  refine V.callSn (pl := []) (σ' := [.inl (5, [.ref 1, .ref 3, .ref 6, .ref 8, .ref 9]), .inl (3, [.ref 2]), .inr (910, .inl State_cells), .inl (1, [.ref 4, .ref 5, .int History_oldest, .int History_size, .int History_snapshotTaken]), .inr (5460, .inl History_saved), .inr (910, .inl History_snapshot), .inl (0, [.ref 7, .int Buffer_size]), .inr (60, .inl Buffer_codes), .inl (2, [.ref (Reader_pattern + 1000), .int Reader_place]), .inl (4, [.ref 10, .int Word_size]), .inr (8, .inl Word_letters)]) (st2 := [.int v2, .int a1]) (cl2 := 0) (sl2 := 0) (ct_X5_placeOfFisher (a0 := v1) hv2) dX10_whyNotDone_11 w815 w816 cal_X5_placeOfFisher ⟨⟨Nat.le_of_ble_eq_true rfl, Nat.le_of_ble_eq_true rfl⟩, Nat.le_of_ble_eq_true rfl, Nat.le_of_ble_eq_true rfl⟩ (Nat.le_of_ble_eq_true rfl) rfl ⟨rfl, ⟨by decide, by decide⟩, rfl, (fr_nil), rfl⟩ fr_i rfl rfl rfl rfl ?_
  refine V.iadd dX10_whyNotDone_14 ?_
  refine V.istore_n (i := 3) (L' := [some (.ref 0), some (.int a1), some (.int v1), some (.int (a1 + v2)), none, none]) dX10_whyNotDone_15 rfl (Nat.le_of_ble_eq_true rfl) rfl rfl ?_
  refine V.aload_n (i := 0) dX10_whyNotDone_16 rfl rfl ?_
  refine V.getfield (kf := 2) (v := .ref 6) fl_RX10 dX10_whyNotDone_17 w183 (Nat.le_of_ble_eq_true rfl) rfl rfl ?_
  refine V.iload_n (i := 3) dX10_whyNotDone_20 rfl rfl ?_
  obtain ⟨v3, hv3, hf⟩ := fbind hf
  refine V.callVn (pl := [6, 7]) (σ' := [.inl (5, [.ref 1, .ref 3, .ref 6, .ref 8, .ref 9]), .inl (3, [.ref 2]), .inr (910, .inl State_cells), .inl (1, [.ref 4, .ref 5, .int History_oldest, .int History_size, .int History_snapshotTaken]), .inr (5460, .inl History_saved), .inr (910, .inl History_snapshot), .inl (0, [.ref 7, .int Buffer_size]), .inr (60, .inl Buffer_codes), .inl (2, [.ref (Reader_pattern + 1000), .int Reader_place]), .inl (4, [.ref 10, .int Word_size]), .inr (8, .inl Word_letters)]) (st2 := [.int v3]) (cl2 := 0) (sl2 := 0) (ct_X1_digitAt (a1 := (a1 + v2)) (Buffer_size := Buffer_size) (Buffer_codes := Buffer_codes) hv3) dX10_whyNotDone_21 w877 ⟨w878, w879⟩ cal_X1_digitAt rfl ⟨⟨Nat.le_of_ble_eq_true rfl, Nat.le_of_ble_eq_true rfl⟩, Nat.le_of_ble_eq_true rfl, Nat.le_of_ble_eq_true rfl⟩ (Nat.le_of_ble_eq_true rfl) (Or.inl ⟨_, _, _, _, rfl, rfl⟩) rfl ⟨rfl, ⟨by decide, by decide⟩, rfl, (fr_cons (Or.inl (Nat.le_of_ble_eq_true rfl)) (fr_nil)), rfl⟩ fr_i rfl rfl rfl rfl ?_
  refine V.istore (i := 4) (L' := [some (.ref 0), some (.int a1), some (.int v1), some (.int (a1 + v2)), some (.int v3), none]) dX10_whyNotDone_24 (Nat.le_of_ble_eq_true rfl) rfl rfl ?_
  refine V.iload_n (i := 2) dX10_whyNotDone_26 rfl rfl ?_
  refine V.bipush (v := 115) dX10_whyNotDone_27 rfl ?_
  refine V.icmp_ne (tgt := 34) dX10_whyNotDone_29 (by decide) (fun h => ?_) (fun h => ?_)
  · have hf := fif_f h hf
    refine V.iload_n (i := 2) dX10_whyNotDone_34 rfl rfl ?_
    refine V.bipush (v := 116) dX10_whyNotDone_35 rfl ?_
    refine V.icmp_ne (tgt := 77) dX10_whyNotDone_37 (by decide) (fun h => ?_) (fun h => ?_)
    · have hf := fif_f h hf
      refine V.aload_n (i := 0) dX10_whyNotDone_77 rfl rfl ?_
      refine V.getfield (kf := 2) (v := .ref 6) fl_RX10 dX10_whyNotDone_78 w183 (Nat.le_of_ble_eq_true rfl) rfl rfl ?_
      refine V.iload_n (i := 3) dX10_whyNotDone_81 rfl rfl ?_
      refine V.iconst (v := 2) dX10_whyNotDone_82 rfl ?_
      refine V.iadd dX10_whyNotDone_83 ?_
      obtain ⟨v4, hv4, hf⟩ := fbind hf
      refine V.callVn (pl := [6, 7]) (σ' := [.inl (5, [.ref 1, .ref 3, .ref 6, .ref 8, .ref 9]), .inl (3, [.ref 2]), .inr (910, .inl State_cells), .inl (1, [.ref 4, .ref 5, .int History_oldest, .int History_size, .int History_snapshotTaken]), .inr (5460, .inl History_saved), .inr (910, .inl History_snapshot), .inl (0, [.ref 7, .int Buffer_size]), .inr (60, .inl Buffer_codes), .inl (2, [.ref (Reader_pattern + 1000), .int Reader_place]), .inl (4, [.ref 10, .int Word_size]), .inr (8, .inl Word_letters)]) (st2 := [.int v4]) (cl2 := 0) (sl2 := 0) (ct_X1_digitAt (a1 := ((a1 + v2) + 2)) (Buffer_size := Buffer_size) (Buffer_codes := Buffer_codes) hv4) dX10_whyNotDone_84 w877 ⟨w878, w879⟩ cal_X1_digitAt rfl ⟨⟨Nat.le_of_ble_eq_true rfl, Nat.le_of_ble_eq_true rfl⟩, Nat.le_of_ble_eq_true rfl, Nat.le_of_ble_eq_true rfl⟩ (Nat.le_of_ble_eq_true rfl) (Or.inl ⟨_, _, _, _, rfl, rfl⟩) rfl ⟨rfl, ⟨by decide, by decide⟩, rfl, (fr_cons (Or.inl (Nat.le_of_ble_eq_true rfl)) (fr_nil)), rfl⟩ fr_i rfl rfl rfl rfl ?_
      refine V.istore (i := 5) (L' := [some (.ref 0), some (.int a1), some (.int v1), some (.int (a1 + v2)), some (.int v3), some (.int v4)]) dX10_whyNotDone_87 (Nat.le_of_ble_eq_true rfl) rfl rfl ?_
      refine V.aload_n (i := 0) dX10_whyNotDone_89 rfl rfl ?_
      refine V.getfield (kf := 0) (v := .ref 1) fl_RX10 dX10_whyNotDone_90 w181 (Nat.le_of_ble_eq_true rfl) rfl rfl ?_
      refine V.iload (i := 4) dX10_whyNotDone_93 rfl ?_
      refine V.iload (i := 5) dX10_whyNotDone_95 rfl ?_
      obtain ⟨v5, hv5, hf⟩ := fbind hf
      refine V.callVn (pl := [1, 2]) (σ' := [.inl (5, [.ref 1, .ref 3, .ref 6, .ref 8, .ref 9]), .inl (3, [.ref 2]), .inr (910, .inl State_cells), .inl (1, [.ref 4, .ref 5, .int History_oldest, .int History_size, .int History_snapshotTaken]), .inr (5460, .inl History_saved), .inr (910, .inl History_snapshot), .inl (0, [.ref 7, .int Buffer_size]), .inr (60, .inl Buffer_codes), .inl (2, [.ref (Reader_pattern + 1000), .int Reader_place]), .inl (4, [.ref 10, .int Word_size]), .inr (8, .inl Word_letters)]) (st2 := [.int v5]) (cl2 := 0) (sl2 := 0) (ct_X7_hasName (a1 := v3) (a2 := v4) (State_cells := State_cells) hv5) dX10_whyNotDone_97 w682 ⟨w683, w684⟩ cal_X7_hasName rfl ⟨⟨Nat.le_of_ble_eq_true rfl, Nat.le_of_ble_eq_true rfl⟩, Nat.le_of_ble_eq_true rfl, Nat.le_of_ble_eq_true rfl⟩ (Nat.le_of_ble_eq_true rfl) (Or.inl ⟨_, _, _, _, rfl, rfl⟩) rfl ⟨rfl, ⟨by decide, by decide⟩, rfl, (fr_cons (Or.inl (Nat.le_of_ble_eq_true rfl)) (fr_nil)), rfl⟩ fr_i rfl rfl rfl rfl ?_
      refine V.if_ne (tgt := 106) dX10_whyNotDone_100 (by decide) (fun h => ?_) (fun h => ?_)
      · have hf := fif_f h hf
        refine V.iload_n (i := 2) dX10_whyNotDone_106 rfl rfl ?_
        refine V.bipush (v := 103) dX10_whyNotDone_107 rfl ?_
        refine V.icmp_ne (tgt := 138) dX10_whyNotDone_109 (by decide) (fun h => ?_) (fun h => ?_)
        · have hf := fif_f h hf
          refine V.iload_n (i := 2) dX10_whyNotDone_138 rfl rfl ?_
          refine V.bipush (v := 102) dX10_whyNotDone_139 rfl ?_
          refine V.icmp_ne (tgt := 158) dX10_whyNotDone_141 (by decide) (fun h => ?_) (fun h => ?_)
          · have hf := fif_f h hf
            refine V.iconst (v := 0) dX10_whyNotDone_158 rfl ?_
            obtain rfl := Option.some.inj hf
            exact V.iret dX10_whyNotDone_159 rfl (Nat.le_of_ble_eq_true rfl) (Nat.le_of_ble_eq_true rfl) rfl
          · have hf := fif_t h hf
            refine V.aload_n (i := 0) dX10_whyNotDone_144 rfl rfl ?_
            refine V.getfield (kf := 0) (v := .ref 1) fl_RX10 dX10_whyNotDone_145 w181 (Nat.le_of_ble_eq_true rfl) rfl rfl ?_
            refine V.iload (i := 4) dX10_whyNotDone_148 rfl ?_
            refine V.iload (i := 5) dX10_whyNotDone_150 rfl ?_
            obtain ⟨v6, hv6, hf⟩ := fbind hf
            refine V.callSn (pl := [1, 2]) (σ' := [.inl (5, [.ref 1, .ref 3, .ref 6, .ref 8, .ref 9]), .inl (3, [.ref 2]), .inr (910, .inl State_cells), .inl (1, [.ref 4, .ref 5, .int History_oldest, .int History_size, .int History_snapshotTaken]), .inr (5460, .inl History_saved), .inr (910, .inl History_snapshot), .inl (0, [.ref 7, .int Buffer_size]), .inr (60, .inl Buffer_codes), .inl (2, [.ref (Reader_pattern + 1000), .int Reader_place]), .inl (4, [.ref 10, .int Word_size]), .inr (8, .inl Word_letters)]) (st2 := [.int v6]) (cl2 := 0) (sl2 := 0) (ct_X4_whyNotTightened (a1 := v3) (a2 := v4) (State_cells := State_cells) hv6) dX10_whyNotDone_152 w702 w703 cal_X4_whyNotTightened ⟨⟨Nat.le_of_ble_eq_true rfl, Nat.le_of_ble_eq_true rfl⟩, Nat.le_of_ble_eq_true rfl, Nat.le_of_ble_eq_true rfl⟩ (Nat.le_of_ble_eq_true rfl) rfl ⟨rfl, ⟨by decide, by decide⟩, rfl, (fr_cons (Or.inl (Nat.le_of_ble_eq_true rfl)) (fr_nil)), rfl⟩ fr_i rfl rfl rfl rfl ?_
            refine V.goto (tgt := 159) dX10_whyNotDone_155 (by decide) ?_
            obtain rfl := Option.some.inj hf
            exact V.iret dX10_whyNotDone_159 rfl (Nat.le_of_ble_eq_true rfl) (Nat.le_of_ble_eq_true rfl) rfl
        · have hf := fif_t h hf
          refine V.aload_n (i := 0) dX10_whyNotDone_112 rfl rfl ?_
          refine V.getfield (kf := 0) (v := .ref 1) fl_RX10 dX10_whyNotDone_113 w181 (Nat.le_of_ble_eq_true rfl) rfl rfl ?_
          refine V.aload_n (i := 0) dX10_whyNotDone_116 rfl rfl ?_
          refine V.getfield (kf := 4) (v := .ref 9) fl_RX10 dX10_whyNotDone_117 w185 (Nat.le_of_ble_eq_true rfl) rfl rfl ?_
          refine V.iload (i := 4) dX10_whyNotDone_120 rfl ?_
          refine V.iload (i := 5) dX10_whyNotDone_122 rfl ?_
          refine V.aload_n (i := 0) dX10_whyNotDone_124 rfl rfl ?_
          refine V.getfield (kf := 2) (v := .ref 6) fl_RX10 dX10_whyNotDone_125 w183 (Nat.le_of_ble_eq_true rfl) rfl rfl ?_
          refine V.iload_n (i := 3) dX10_whyNotDone_128 rfl rfl ?_
          refine V.iconst (v := 4) dX10_whyNotDone_129 rfl ?_
          refine V.iadd dX10_whyNotDone_130 ?_
          obtain ⟨v7, hv7, hf⟩ := fbind hf
          refine V.callVn (pl := [6, 7]) (σ' := [.inl (5, [.ref 1, .ref 3, .ref 6, .ref 8, .ref 9]), .inl (3, [.ref 2]), .inr (910, .inl State_cells), .inl (1, [.ref 4, .ref 5, .int History_oldest, .int History_size, .int History_snapshotTaken]), .inr (5460, .inl History_saved), .inr (910, .inl History_snapshot), .inl (0, [.ref 7, .int Buffer_size]), .inr (60, .inl Buffer_codes), .inl (2, [.ref (Reader_pattern + 1000), .int Reader_place]), .inl (4, [.ref 10, .int Word_size]), .inr (8, .inl Word_letters)]) (st2 := [.int v7, .int v4, .int v3, .ref 9, .ref 1]) (cl2 := 0) (sl2 := 0) (ct_X1_digitAt (a1 := ((a1 + v2) + 4)) (Buffer_size := Buffer_size) (Buffer_codes := Buffer_codes) hv7) dX10_whyNotDone_131 w877 ⟨w878, w879⟩ cal_X1_digitAt rfl ⟨⟨Nat.le_of_ble_eq_true rfl, Nat.le_of_ble_eq_true rfl⟩, Nat.le_of_ble_eq_true rfl, Nat.le_of_ble_eq_true rfl⟩ (Nat.le_of_ble_eq_true rfl) (Or.inl ⟨_, _, _, _, rfl, rfl⟩) rfl ⟨rfl, ⟨by decide, by decide⟩, rfl, (fr_cons (Or.inl (Nat.le_of_ble_eq_true rfl)) (fr_nil)), rfl⟩ fr_i rfl rfl rfl rfl ?_
          obtain ⟨v8, hv8, hf⟩ := fbind hf
          refine V.callSn (pl := [1, 2, 9, 10]) (σ' := [.inl (5, [.ref 1, .ref 3, .ref 6, .ref 8, .ref 9]), .inl (3, [.ref 2]), .inr (910, .inl State_cells), .inl (1, [.ref 4, .ref 5, .int History_oldest, .int History_size, .int History_snapshotTaken]), .inr (5460, .inl History_saved), .inr (910, .inl History_snapshot), .inl (0, [.ref 7, .int Buffer_size]), .inr (60, .inl Buffer_codes), .inl (2, [.ref (Reader_pattern + 1000), .int Reader_place]), .inl (4, [.ref 10, .int v8.2.1]), .inr (8, .inl v8.2.2)]) (st2 := [.int v8.1]) (cl2 := 0) (sl2 := 0) (ct_X4_whyNotGiven (a2 := v3) (a3 := v4) (a4 := v7) (State_cells := State_cells) (Word_size := Word_size) (Word_letters := Word_letters) hv8) dX10_whyNotDone_134 w722 w723 cal_X4_whyNotGiven ⟨⟨Nat.le_of_ble_eq_true rfl, Nat.le_of_ble_eq_true rfl⟩, Nat.le_of_ble_eq_true rfl, Nat.le_of_ble_eq_true rfl⟩ (Nat.le_of_ble_eq_true rfl) rfl ⟨rfl, ⟨by decide, by decide⟩, rfl, (fr_cons (Or.inl (Nat.le_of_ble_eq_true rfl)) (fr_cons (Or.inl (Nat.le_of_ble_eq_true rfl)) (fr_nil))), rfl⟩ fr_i rfl rfl rfl rfl ?_
          obtain rfl := Option.some.inj hf
          exact V.iret dX10_whyNotDone_137 rfl (Nat.le_of_ble_eq_true rfl) (Nat.le_of_ble_eq_true rfl) rfl
      · have hf := fif_t h hf
        refine V.bipush (v := 6) dX10_whyNotDone_103 rfl ?_
        obtain rfl := Option.some.inj hf
        exact V.iret dX10_whyNotDone_105 rfl (Nat.le_of_ble_eq_true rfl) (Nat.le_of_ble_eq_true rfl) rfl
    · have hf := fif_t h hf
      refine V.aload_n (i := 0) dX10_whyNotDone_40 rfl rfl ?_
      refine V.getfield (kf := 2) (v := .ref 6) fl_RX10 dX10_whyNotDone_41 w183 (Nat.le_of_ble_eq_true rfl) rfl rfl ?_
      refine V.aload_n (i := 0) dX10_whyNotDone_44 rfl rfl ?_
      refine V.getfield (kf := 4) (v := .ref 9) fl_RX10 dX10_whyNotDone_45 w185 (Nat.le_of_ble_eq_true rfl) rfl rfl ?_
      refine V.iload_n (i := 3) dX10_whyNotDone_48 rfl rfl ?_
      refine V.iconst (v := 2) dX10_whyNotDone_49 rfl ?_
      refine V.iadd dX10_whyNotDone_50 ?_
      refine V.aload_n (i := 0) dX10_whyNotDone_51 rfl rfl ?_
      refine V.getfield (kf := 2) (v := .ref 6) fl_RX10 dX10_whyNotDone_52 w183 (Nat.le_of_ble_eq_true rfl) rfl rfl ?_
      refine V.iload_n (i := 1) dX10_whyNotDone_55 rfl rfl ?_
      obtain ⟨v9, hv9, hf⟩ := fbind hf
      refine V.callVn (pl := [6, 7]) (σ' := [.inl (5, [.ref 1, .ref 3, .ref 6, .ref 8, .ref 9]), .inl (3, [.ref 2]), .inr (910, .inl State_cells), .inl (1, [.ref 4, .ref 5, .int History_oldest, .int History_size, .int History_snapshotTaken]), .inr (5460, .inl History_saved), .inr (910, .inl History_snapshot), .inl (0, [.ref 7, .int Buffer_size]), .inr (60, .inl Buffer_codes), .inl (2, [.ref (Reader_pattern + 1000), .int Reader_place]), .inl (4, [.ref 10, .int Word_size]), .inr (8, .inl Word_letters)]) (st2 := [.int v9, .int ((a1 + v2) + 2), .ref 9, .ref 6]) (cl2 := 0) (sl2 := 0) (ct_X1_endOfPart (a1 := a1) (Buffer_size := Buffer_size) (Buffer_codes := Buffer_codes) hv9) dX10_whyNotDone_56 w881 ⟨w882, w883⟩ cal_X1_endOfPart rfl ⟨⟨Nat.le_of_ble_eq_true rfl, Nat.le_of_ble_eq_true rfl⟩, Nat.le_of_ble_eq_true rfl, Nat.le_of_ble_eq_true rfl⟩ (Nat.le_of_ble_eq_true rfl) (Or.inl ⟨_, _, _, _, rfl, rfl⟩) rfl ⟨rfl, ⟨by decide, by decide⟩, rfl, (fr_cons (Or.inl (Nat.le_of_ble_eq_true rfl)) (fr_nil)), rfl⟩ fr_i rfl rfl rfl rfl ?_
      obtain ⟨v10, hv10, hf⟩ := fbind hf
      refine V.callVn (pl := [6, 7, 9, 10]) (σ' := [.inl (5, [.ref 1, .ref 3, .ref 6, .ref 8, .ref 9]), .inl (3, [.ref 2]), .inr (910, .inl State_cells), .inl (1, [.ref 4, .ref 5, .int History_oldest, .int History_size, .int History_snapshotTaken]), .inr (5460, .inl History_saved), .inr (910, .inl History_snapshot), .inl (0, [.ref 7, .int Buffer_size]), .inr (60, .inl Buffer_codes), .inl (2, [.ref (Reader_pattern + 1000), .int Reader_place]), .inl (4, [.ref 10, .int v10.2.1]), .inr (8, .inl v10.2.2)]) (st2 := [.int v10.1]) (cl2 := 0) (sl2 := 0) (ct_X1_spell (a2 := ((a1 + v2) + 2)) (a3 := v9) (Buffer_size := Buffer_size) (Buffer_codes := Buffer_codes) (Word_size := Word_size) (Word_letters := Word_letters) hv10) dX10_whyNotDone_59 w885 ⟨w583, w584⟩ cal_X1_spell rfl ⟨⟨Nat.le_of_ble_eq_true rfl, Nat.le_of_ble_eq_true rfl⟩, Nat.le_of_ble_eq_true rfl, Nat.le_of_ble_eq_true rfl⟩ (Nat.le_of_ble_eq_true rfl) (Or.inl ⟨_, _, _, _, rfl, rfl⟩) rfl ⟨rfl, ⟨by decide, by decide⟩, rfl, (fr_cons (Or.inl (Nat.le_of_ble_eq_true rfl)) (fr_cons (Or.inl (Nat.le_of_ble_eq_true rfl)) (fr_nil))), rfl⟩ fr_i rfl rfl rfl rfl ?_
      refine V.pop dX10_whyNotDone_62 rfl ?_
      refine V.aload_n (i := 0) dX10_whyNotDone_63 rfl rfl ?_
      refine V.getfield (kf := 0) (v := .ref 1) fl_RX10 dX10_whyNotDone_64 w181 (Nat.le_of_ble_eq_true rfl) rfl rfl ?_
      refine V.aload_n (i := 0) dX10_whyNotDone_67 rfl rfl ?_
      refine V.getfield (kf := 4) (v := .ref 9) fl_RX10 dX10_whyNotDone_68 w185 (Nat.le_of_ble_eq_true rfl) rfl rfl ?_
      refine V.iload (i := 4) dX10_whyNotDone_71 rfl ?_
      obtain ⟨v11, hv11, hf⟩ := fbind hf
      refine V.callSn (pl := [1, 2, 9, 10]) (σ' := [.inl (5, [.ref 1, .ref 3, .ref 6, .ref 8, .ref 9]), .inl (3, [.ref 2]), .inr (910, .inl State_cells), .inl (1, [.ref 4, .ref 5, .int History_oldest, .int History_size, .int History_snapshotTaken]), .inr (5460, .inl History_saved), .inr (910, .inl History_snapshot), .inl (0, [.ref 7, .int Buffer_size]), .inr (60, .inl Buffer_codes), .inl (2, [.ref (Reader_pattern + 1000), .int Reader_place]), .inl (4, [.ref 10, .int v10.2.1]), .inr (8, .inl v10.2.2)]) (st2 := [.int v11]) (cl2 := 0) (sl2 := 0) (ct_X4_whyNotTied (a2 := v3) (State_cells := State_cells) (Word_size := v10.2.1) (Word_letters := v10.2.2) hv11) dX10_whyNotDone_73 w612 w613 cal_X4_whyNotTied ⟨⟨Nat.le_of_ble_eq_true rfl, Nat.le_of_ble_eq_true rfl⟩, Nat.le_of_ble_eq_true rfl, Nat.le_of_ble_eq_true rfl⟩ (Nat.le_of_ble_eq_true rfl) rfl ⟨rfl, ⟨by decide, by decide⟩, rfl, (fr_cons (Or.inl (Nat.le_of_ble_eq_true rfl)) (fr_cons (Or.inl (Nat.le_of_ble_eq_true rfl)) (fr_nil))), rfl⟩ fr_i rfl rfl rfl rfl ?_
      obtain rfl := Option.some.inj hf
      exact V.iret dX10_whyNotDone_76 rfl (Nat.le_of_ble_eq_true rfl) (Nat.le_of_ble_eq_true rfl) rfl
  · have hf := fif_t h hf
    refine V.iconst (v := 0) dX10_whyNotDone_32 rfl ?_
    obtain rfl := Option.some.inj hf
    exact V.iret dX10_whyNotDone_33 rfl (Nat.le_of_ble_eq_true rfl) (Nat.le_of_ble_eq_true rfl) rfl
def k_X10_doPart : fK := (yX10_doPart, cX10_doPart, 6, none, [], (5, 121), (0, 0), (0, 0))
theorem cal_X10_doPart : fCal k_X10_doPart 1 := ⟨⟨wc889, w67⟩, ⟨by decide +kernel, by decide +kernel⟩, by decide +kernel, by decide +kernel⟩
def s_X10_doPart (a1 : Int32) (State_cells : Nat → Int32) (Buffer_size : Int32) (Buffer_codes : Nat → Int32) (Word_size : Int32) (Word_letters : Nat → Int32) : Option ((Nat → Int32)) := (s_X1_at a1 Buffer_size Buffer_codes).bind fun v1 => (s_X5_placeOfFisher v1).bind fun v2 => (s_X1_digitAt (a1 + v2) Buffer_size Buffer_codes).bind fun v3 => (s_X1_digitAt ((a1 + v2) + 2) Buffer_size Buffer_codes).bind fun v4 => if (v1 = 102 : Prop) then ((s_X4_tighten v3 v4 State_cells).bind fun v5 => some v5.2) else (if (v1 = 103 : Prop) then ((s_X1_digitAt ((a1 + v2) + 4) Buffer_size Buffer_codes).bind fun v6 => (s_X4_handOver v3 v4 v6 State_cells Word_size Word_letters).bind fun v7 => some v7.2) else (if (v1 = 115 : Prop) then ((s_X6_comeOver v3 State_cells).bind fun v8 => some v8.2) else (if (v1 = 116 : Prop) then ((s_X4_tieOn v3 State_cells Word_size Word_letters).bind fun v9 => some v9.2) else ((s_X4_takeOff v3 v4 State_cells).bind fun v10 => some v10.2))))
set_option maxHeartbeats 4000000 in
set_option maxRecDepth 100000 in
theorem ct_X10_doPart {a1 : Int32} {State_cells : Nat → Int32} {History_oldest : Int32} {History_size : Int32} {History_snapshotTaken : Int32} {History_saved : Nat → Int32} {History_snapshot : Nat → Int32} {Buffer_size : Int32} {Buffer_codes : Nat → Int32} {Reader_pattern : Nat} {Reader_place : Int32} {Word_size : Int32} {Word_letters : Nat → Int32} {res : (Nat → Int32)} (hf : s_X10_doPart a1 State_cells Buffer_size Buffer_codes Word_size Word_letters = some res) : Ct k_X10_doPart [.ref 0, .int a1] [.inl (5, [.ref 1, .ref 3, .ref 6, .ref 8, .ref 9]), .inl (3, [.ref 2]), .inr (910, .inl State_cells), .inl (1, [.ref 4, .ref 5, .int History_oldest, .int History_size, .int History_snapshotTaken]), .inr (5460, .inl History_saved), .inr (910, .inl History_snapshot), .inl (0, [.ref 7, .int Buffer_size]), .inr (60, .inl Buffer_codes), .inl (2, [.ref (Reader_pattern + 1000), .int Reader_place]), .inl (4, [.ref 10, .int Word_size]), .inr (8, .inl Word_letters)] (.inl none) [.inl (5, [.ref 1, .ref 3, .ref 6, .ref 8, .ref 9]), .inl (3, [.ref 2]), .inr (910, .inl res), .inl (1, [.ref 4, .ref 5, .int History_oldest, .int History_size, .int History_snapshotTaken]), .inr (5460, .inl History_saved), .inr (910, .inl History_snapshot), .inl (0, [.ref 7, .int Buffer_size]), .inr (60, .inl Buffer_codes), .inl (2, [.ref (Reader_pattern + 1000), .int Reader_place]), .inl (4, [.ref 10, .int Word_size]), .inr (8, .inl Word_letters)] := by
  unfold s_X10_doPart at hf
  refine Ct.of (L := [some (.ref 0), some (.int a1), none, none, none, none]) cal_X10_doPart (fent_pad (j := 4) rfl) (Nat.le_of_ble_eq_true rfl) ?_
  refine V.aload_n (i := 0) dX10_doPart_0 rfl rfl ?_
  refine V.getfield (kf := 2) (v := .ref 6) fl_RX10 dX10_doPart_1 w183 (Nat.le_of_ble_eq_true rfl) rfl rfl ?_
  refine V.iload_n (i := 1) dX10_doPart_4 rfl rfl ?_
  obtain ⟨v1, hv1, hf⟩ := fbind hf
  refine V.callVn (pl := [6, 7]) (σ' := [.inl (5, [.ref 1, .ref 3, .ref 6, .ref 8, .ref 9]), .inl (3, [.ref 2]), .inr (910, .inl State_cells), .inl (1, [.ref 4, .ref 5, .int History_oldest, .int History_size, .int History_snapshotTaken]), .inr (5460, .inl History_saved), .inr (910, .inl History_snapshot), .inl (0, [.ref 7, .int Buffer_size]), .inr (60, .inl Buffer_codes), .inl (2, [.ref (Reader_pattern + 1000), .int Reader_place]), .inl (4, [.ref 10, .int Word_size]), .inr (8, .inl Word_letters)]) (st2 := [.int v1]) (cl2 := 0) (sl2 := 0) (ct_X1_at (a1 := a1) (Buffer_size := Buffer_size) (Buffer_codes := Buffer_codes) hv1) dX10_doPart_5 w814 ⟨w218, w219⟩ cal_X1_at rfl ⟨⟨Nat.le_of_ble_eq_true rfl, Nat.le_of_ble_eq_true rfl⟩, Nat.le_of_ble_eq_true rfl, Nat.le_of_ble_eq_true rfl⟩ (Nat.le_of_ble_eq_true rfl) (Or.inl ⟨_, _, _, _, rfl, rfl⟩) rfl ⟨rfl, ⟨by decide, by decide⟩, rfl, (fr_cons (Or.inl (Nat.le_of_ble_eq_true rfl)) (fr_nil)), rfl⟩ fr_i rfl rfl rfl rfl ?_
  refine V.istore_n (i := 2) (L' := [some (.ref 0), some (.int a1), some (.int v1), none, none, none]) dX10_doPart_8 rfl (Nat.le_of_ble_eq_true rfl) rfl rfl ?_
  refine V.iload_n (i := 1) dX10_doPart_9 rfl rfl ?_
  refine V.iload_n (i := 2) dX10_doPart_10 rfl rfl ?_
  obtain ⟨v2, hv2, hf⟩ := fbind hf
  refine V.callSn (pl := []) (σ' := [.inl (5, [.ref 1, .ref 3, .ref 6, .ref 8, .ref 9]), .inl (3, [.ref 2]), .inr (910, .inl State_cells), .inl (1, [.ref 4, .ref 5, .int History_oldest, .int History_size, .int History_snapshotTaken]), .inr (5460, .inl History_saved), .inr (910, .inl History_snapshot), .inl (0, [.ref 7, .int Buffer_size]), .inr (60, .inl Buffer_codes), .inl (2, [.ref (Reader_pattern + 1000), .int Reader_place]), .inl (4, [.ref 10, .int Word_size]), .inr (8, .inl Word_letters)]) (st2 := [.int v2, .int a1]) (cl2 := 0) (sl2 := 0) (ct_X5_placeOfFisher (a0 := v1) hv2) dX10_doPart_11 w815 w816 cal_X5_placeOfFisher ⟨⟨Nat.le_of_ble_eq_true rfl, Nat.le_of_ble_eq_true rfl⟩, Nat.le_of_ble_eq_true rfl, Nat.le_of_ble_eq_true rfl⟩ (Nat.le_of_ble_eq_true rfl) rfl ⟨rfl, ⟨by decide, by decide⟩, rfl, (fr_nil), rfl⟩ fr_i rfl rfl rfl rfl ?_
  refine V.iadd dX10_doPart_14 ?_
  refine V.istore_n (i := 3) (L' := [some (.ref 0), some (.int a1), some (.int v1), some (.int (a1 + v2)), none, none]) dX10_doPart_15 rfl (Nat.le_of_ble_eq_true rfl) rfl rfl ?_
  refine V.aload_n (i := 0) dX10_doPart_16 rfl rfl ?_
  refine V.getfield (kf := 2) (v := .ref 6) fl_RX10 dX10_doPart_17 w183 (Nat.le_of_ble_eq_true rfl) rfl rfl ?_
  refine V.iload_n (i := 3) dX10_doPart_20 rfl rfl ?_
  obtain ⟨v3, hv3, hf⟩ := fbind hf
  refine V.callVn (pl := [6, 7]) (σ' := [.inl (5, [.ref 1, .ref 3, .ref 6, .ref 8, .ref 9]), .inl (3, [.ref 2]), .inr (910, .inl State_cells), .inl (1, [.ref 4, .ref 5, .int History_oldest, .int History_size, .int History_snapshotTaken]), .inr (5460, .inl History_saved), .inr (910, .inl History_snapshot), .inl (0, [.ref 7, .int Buffer_size]), .inr (60, .inl Buffer_codes), .inl (2, [.ref (Reader_pattern + 1000), .int Reader_place]), .inl (4, [.ref 10, .int Word_size]), .inr (8, .inl Word_letters)]) (st2 := [.int v3]) (cl2 := 0) (sl2 := 0) (ct_X1_digitAt (a1 := (a1 + v2)) (Buffer_size := Buffer_size) (Buffer_codes := Buffer_codes) hv3) dX10_doPart_21 w877 ⟨w878, w879⟩ cal_X1_digitAt rfl ⟨⟨Nat.le_of_ble_eq_true rfl, Nat.le_of_ble_eq_true rfl⟩, Nat.le_of_ble_eq_true rfl, Nat.le_of_ble_eq_true rfl⟩ (Nat.le_of_ble_eq_true rfl) (Or.inl ⟨_, _, _, _, rfl, rfl⟩) rfl ⟨rfl, ⟨by decide, by decide⟩, rfl, (fr_cons (Or.inl (Nat.le_of_ble_eq_true rfl)) (fr_nil)), rfl⟩ fr_i rfl rfl rfl rfl ?_
  refine V.istore (i := 4) (L' := [some (.ref 0), some (.int a1), some (.int v1), some (.int (a1 + v2)), some (.int v3), none]) dX10_doPart_24 (Nat.le_of_ble_eq_true rfl) rfl rfl ?_
  refine V.aload_n (i := 0) dX10_doPart_26 rfl rfl ?_
  refine V.getfield (kf := 2) (v := .ref 6) fl_RX10 dX10_doPart_27 w183 (Nat.le_of_ble_eq_true rfl) rfl rfl ?_
  refine V.iload_n (i := 3) dX10_doPart_30 rfl rfl ?_
  refine V.iconst (v := 2) dX10_doPart_31 rfl ?_
  refine V.iadd dX10_doPart_32 ?_
  obtain ⟨v4, hv4, hf⟩ := fbind hf
  refine V.callVn (pl := [6, 7]) (σ' := [.inl (5, [.ref 1, .ref 3, .ref 6, .ref 8, .ref 9]), .inl (3, [.ref 2]), .inr (910, .inl State_cells), .inl (1, [.ref 4, .ref 5, .int History_oldest, .int History_size, .int History_snapshotTaken]), .inr (5460, .inl History_saved), .inr (910, .inl History_snapshot), .inl (0, [.ref 7, .int Buffer_size]), .inr (60, .inl Buffer_codes), .inl (2, [.ref (Reader_pattern + 1000), .int Reader_place]), .inl (4, [.ref 10, .int Word_size]), .inr (8, .inl Word_letters)]) (st2 := [.int v4]) (cl2 := 0) (sl2 := 0) (ct_X1_digitAt (a1 := ((a1 + v2) + 2)) (Buffer_size := Buffer_size) (Buffer_codes := Buffer_codes) hv4) dX10_doPart_33 w877 ⟨w878, w879⟩ cal_X1_digitAt rfl ⟨⟨Nat.le_of_ble_eq_true rfl, Nat.le_of_ble_eq_true rfl⟩, Nat.le_of_ble_eq_true rfl, Nat.le_of_ble_eq_true rfl⟩ (Nat.le_of_ble_eq_true rfl) (Or.inl ⟨_, _, _, _, rfl, rfl⟩) rfl ⟨rfl, ⟨by decide, by decide⟩, rfl, (fr_cons (Or.inl (Nat.le_of_ble_eq_true rfl)) (fr_nil)), rfl⟩ fr_i rfl rfl rfl rfl ?_
  refine V.istore (i := 5) (L' := [some (.ref 0), some (.int a1), some (.int v1), some (.int (a1 + v2)), some (.int v3), some (.int v4)]) dX10_doPart_36 (Nat.le_of_ble_eq_true rfl) rfl rfl ?_
  refine V.iload_n (i := 2) dX10_doPart_38 rfl rfl ?_
  by_cases h102 : v1 = 102
  · have hf := fif_t h102 hf
    refine V.cgi h102 (V.lookup (off := 100) (tgt := 139) dX10_doPart_39 rfl rfl (by decide) ?_)
    refine V.aload_n (i := 0) dX10_doPart_139 rfl rfl ?_
    refine V.getfield (kf := 0) (v := .ref 1) fl_RX10 dX10_doPart_140 w181 (Nat.le_of_ble_eq_true rfl) rfl rfl ?_
    refine V.iload (i := 4) dX10_doPart_143 rfl ?_
    refine V.iload (i := 5) dX10_doPart_145 rfl ?_
    obtain ⟨v5, hv5, hf⟩ := fbind hf
    refine V.callSn (pl := [1, 2]) (σ' := [.inl (5, [.ref 1, .ref 3, .ref 6, .ref 8, .ref 9]), .inl (3, [.ref 2]), .inr (910, .inl v5.2), .inl (1, [.ref 4, .ref 5, .int History_oldest, .int History_size, .int History_snapshotTaken]), .inr (5460, .inl History_saved), .inr (910, .inl History_snapshot), .inl (0, [.ref 7, .int Buffer_size]), .inr (60, .inl Buffer_codes), .inl (2, [.ref (Reader_pattern + 1000), .int Reader_place]), .inl (4, [.ref 10, .int Word_size]), .inr (8, .inl Word_letters)]) (st2 := [.int v5.1]) (cl2 := 0) (sl2 := 0) (ct_X4_tighten (a1 := v3) (a2 := v4) (State_cells := State_cells) hv5) dX10_doPart_147 w712 w713 cal_X4_tighten ⟨⟨Nat.le_of_ble_eq_true rfl, Nat.le_of_ble_eq_true rfl⟩, Nat.le_of_ble_eq_true rfl, Nat.le_of_ble_eq_true rfl⟩ (Nat.le_of_ble_eq_true rfl) rfl ⟨rfl, ⟨by decide, by decide⟩, rfl, (fr_cons (Or.inl (Nat.le_of_ble_eq_true rfl)) (fr_nil)), rfl⟩ fr_i rfl rfl rfl rfl ?_
    refine V.pop dX10_doPart_150 rfl ?_
    refine V.goto (tgt := 166) dX10_doPart_151 (by decide) ?_
    obtain rfl := Option.some.inj hf
    exact V.vret dX10_doPart_166 rfl (Nat.le_of_ble_eq_true rfl) (Nat.le_of_ble_eq_true rfl) rfl
  · have hf := fif_f h102 hf
    by_cases h103 : v1 = 103
    · have hf := fif_t h103 hf
      refine V.cgi h103 (V.lookup (off := 71) (tgt := 110) dX10_doPart_39 rfl rfl (by decide) ?_)
      refine V.aload_n (i := 0) dX10_doPart_110 rfl rfl ?_
      refine V.getfield (kf := 0) (v := .ref 1) fl_RX10 dX10_doPart_111 w181 (Nat.le_of_ble_eq_true rfl) rfl rfl ?_
      refine V.aload_n (i := 0) dX10_doPart_114 rfl rfl ?_
      refine V.getfield (kf := 4) (v := .ref 9) fl_RX10 dX10_doPart_115 w185 (Nat.le_of_ble_eq_true rfl) rfl rfl ?_
      refine V.iload (i := 4) dX10_doPart_118 rfl ?_
      refine V.iload (i := 5) dX10_doPart_120 rfl ?_
      refine V.aload_n (i := 0) dX10_doPart_122 rfl rfl ?_
      refine V.getfield (kf := 2) (v := .ref 6) fl_RX10 dX10_doPart_123 w183 (Nat.le_of_ble_eq_true rfl) rfl rfl ?_
      refine V.iload_n (i := 3) dX10_doPart_126 rfl rfl ?_
      refine V.iconst (v := 4) dX10_doPart_127 rfl ?_
      refine V.iadd dX10_doPart_128 ?_
      obtain ⟨v6, hv6, hf⟩ := fbind hf
      refine V.callVn (pl := [6, 7]) (σ' := [.inl (5, [.ref 1, .ref 3, .ref 6, .ref 8, .ref 9]), .inl (3, [.ref 2]), .inr (910, .inl State_cells), .inl (1, [.ref 4, .ref 5, .int History_oldest, .int History_size, .int History_snapshotTaken]), .inr (5460, .inl History_saved), .inr (910, .inl History_snapshot), .inl (0, [.ref 7, .int Buffer_size]), .inr (60, .inl Buffer_codes), .inl (2, [.ref (Reader_pattern + 1000), .int Reader_place]), .inl (4, [.ref 10, .int Word_size]), .inr (8, .inl Word_letters)]) (st2 := [.int v6, .int v4, .int v3, .ref 9, .ref 1]) (cl2 := 0) (sl2 := 0) (ct_X1_digitAt (a1 := ((a1 + v2) + 4)) (Buffer_size := Buffer_size) (Buffer_codes := Buffer_codes) hv6) dX10_doPart_129 w877 ⟨w878, w879⟩ cal_X1_digitAt rfl ⟨⟨Nat.le_of_ble_eq_true rfl, Nat.le_of_ble_eq_true rfl⟩, Nat.le_of_ble_eq_true rfl, Nat.le_of_ble_eq_true rfl⟩ (Nat.le_of_ble_eq_true rfl) (Or.inl ⟨_, _, _, _, rfl, rfl⟩) rfl ⟨rfl, ⟨by decide, by decide⟩, rfl, (fr_cons (Or.inl (Nat.le_of_ble_eq_true rfl)) (fr_nil)), rfl⟩ fr_i rfl rfl rfl rfl ?_
      obtain ⟨v7, hv7, hf⟩ := fbind hf
      refine V.callSn (pl := [1, 2, 9, 10]) (σ' := [.inl (5, [.ref 1, .ref 3, .ref 6, .ref 8, .ref 9]), .inl (3, [.ref 2]), .inr (910, .inl v7.2), .inl (1, [.ref 4, .ref 5, .int History_oldest, .int History_size, .int History_snapshotTaken]), .inr (5460, .inl History_saved), .inr (910, .inl History_snapshot), .inl (0, [.ref 7, .int Buffer_size]), .inr (60, .inl Buffer_codes), .inl (2, [.ref (Reader_pattern + 1000), .int Reader_place]), .inl (4, [.ref 10, .int Word_size]), .inr (8, .inl Word_letters)]) (st2 := [.int v7.1]) (cl2 := 0) (sl2 := 0) (ct_X4_handOver (a2 := v3) (a3 := v4) (a4 := v6) (State_cells := State_cells) (Word_size := Word_size) (Word_letters := Word_letters) hv7) dX10_doPart_132 w729 w730 cal_X4_handOver ⟨⟨Nat.le_of_ble_eq_true rfl, Nat.le_of_ble_eq_true rfl⟩, Nat.le_of_ble_eq_true rfl, Nat.le_of_ble_eq_true rfl⟩ (Nat.le_of_ble_eq_true rfl) rfl ⟨rfl, ⟨by decide, by decide⟩, rfl, (fr_cons (Or.inl (Nat.le_of_ble_eq_true rfl)) (fr_cons (Or.inl (Nat.le_of_ble_eq_true rfl)) (fr_nil))), rfl⟩ fr_i rfl rfl rfl rfl ?_
      refine V.pop dX10_doPart_135 rfl ?_
      refine V.goto (tgt := 166) dX10_doPart_136 (by decide) ?_
      obtain rfl := Option.some.inj hf
      exact V.vret dX10_doPart_166 rfl (Nat.le_of_ble_eq_true rfl) (Nat.le_of_ble_eq_true rfl) rfl
    · have hf := fif_f h103 hf
      by_cases h115 : v1 = 115
      · have hf := fif_t h115 hf
        refine V.cgi h115 (V.lookup (off := 58) (tgt := 97) dX10_doPart_39 rfl rfl (by decide) ?_)
        refine V.aload_n (i := 0) dX10_doPart_97 rfl rfl ?_
        refine V.getfield (kf := 0) (v := .ref 1) fl_RX10 dX10_doPart_98 w181 (Nat.le_of_ble_eq_true rfl) rfl rfl ?_
        refine V.iload (i := 4) dX10_doPart_101 rfl ?_
        obtain ⟨v8, hv8, hf⟩ := fbind hf
        refine V.callSn (pl := [1, 2]) (σ' := [.inl (5, [.ref 1, .ref 3, .ref 6, .ref 8, .ref 9]), .inl (3, [.ref 2]), .inr (910, .inl v8.2), .inl (1, [.ref 4, .ref 5, .int History_oldest, .int History_size, .int History_snapshotTaken]), .inr (5460, .inl History_saved), .inr (910, .inl History_snapshot), .inl (0, [.ref 7, .int Buffer_size]), .inr (60, .inl Buffer_codes), .inl (2, [.ref (Reader_pattern + 1000), .int Reader_place]), .inl (4, [.ref 10, .int Word_size]), .inr (8, .inl Word_letters)]) (st2 := [.int v8.1]) (cl2 := 0) (sl2 := 0) (ct_X6_comeOver (a1 := v3) (State_cells := State_cells) hv8) dX10_doPart_103 w741 w742 cal_X6_comeOver ⟨⟨Nat.le_of_ble_eq_true rfl, Nat.le_of_ble_eq_true rfl⟩, Nat.le_of_ble_eq_true rfl, Nat.le_of_ble_eq_true rfl⟩ (Nat.le_of_ble_eq_true rfl) rfl ⟨rfl, ⟨by decide, by decide⟩, rfl, (fr_cons (Or.inl (Nat.le_of_ble_eq_true rfl)) (fr_nil)), rfl⟩ fr_i rfl rfl rfl rfl ?_
        refine V.pop dX10_doPart_106 rfl ?_
        refine V.goto (tgt := 166) dX10_doPart_107 (by decide) ?_
        obtain rfl := Option.some.inj hf
        exact V.vret dX10_doPart_166 rfl (Nat.le_of_ble_eq_true rfl) (Nat.le_of_ble_eq_true rfl) rfl
      · have hf := fif_f h115 hf
        by_cases h116 : v1 = 116
        · have hf := fif_t h116 hf
          refine V.cgi h116 (V.lookup (off := 41) (tgt := 80) dX10_doPart_39 rfl rfl (by decide) ?_)
          refine V.aload_n (i := 0) dX10_doPart_80 rfl rfl ?_
          refine V.getfield (kf := 0) (v := .ref 1) fl_RX10 dX10_doPart_81 w181 (Nat.le_of_ble_eq_true rfl) rfl rfl ?_
          refine V.aload_n (i := 0) dX10_doPart_84 rfl rfl ?_
          refine V.getfield (kf := 4) (v := .ref 9) fl_RX10 dX10_doPart_85 w185 (Nat.le_of_ble_eq_true rfl) rfl rfl ?_
          refine V.iload (i := 4) dX10_doPart_88 rfl ?_
          obtain ⟨v9, hv9, hf⟩ := fbind hf
          refine V.callSn (pl := [1, 2, 9, 10]) (σ' := [.inl (5, [.ref 1, .ref 3, .ref 6, .ref 8, .ref 9]), .inl (3, [.ref 2]), .inr (910, .inl v9.2), .inl (1, [.ref 4, .ref 5, .int History_oldest, .int History_size, .int History_snapshotTaken]), .inr (5460, .inl History_saved), .inr (910, .inl History_snapshot), .inl (0, [.ref 7, .int Buffer_size]), .inr (60, .inl Buffer_codes), .inl (2, [.ref (Reader_pattern + 1000), .int Reader_place]), .inl (4, [.ref 10, .int Word_size]), .inr (8, .inl Word_letters)]) (st2 := [.int v9.1]) (cl2 := 0) (sl2 := 0) (ct_X4_tieOn (a2 := v3) (State_cells := State_cells) (Word_size := Word_size) (Word_letters := Word_letters) hv9) dX10_doPart_90 w660 w661 cal_X4_tieOn ⟨⟨Nat.le_of_ble_eq_true rfl, Nat.le_of_ble_eq_true rfl⟩, Nat.le_of_ble_eq_true rfl, Nat.le_of_ble_eq_true rfl⟩ (Nat.le_of_ble_eq_true rfl) rfl ⟨rfl, ⟨by decide, by decide⟩, rfl, (fr_cons (Or.inl (Nat.le_of_ble_eq_true rfl)) (fr_cons (Or.inl (Nat.le_of_ble_eq_true rfl)) (fr_nil))), rfl⟩ fr_i rfl rfl rfl rfl ?_
          refine V.pop dX10_doPart_93 rfl ?_
          refine V.goto (tgt := 166) dX10_doPart_94 (by decide) ?_
          obtain rfl := Option.some.inj hf
          exact V.vret dX10_doPart_166 rfl (Nat.le_of_ble_eq_true rfl) (Nat.le_of_ble_eq_true rfl) rfl
        · have hf := fif_f h116 hf
          refine V.lookup (off := 115) (tgt := 154) dX10_doPart_39 rfl (by simp only [Array.toList]; rw [lv_osw h102 (by decide), lv_osw h103 (by decide), lv_osw h115 (by decide), lv_osw h116 (by decide)]; rfl) (by decide) ?_
          refine V.aload_n (i := 0) dX10_doPart_154 rfl rfl ?_
          refine V.getfield (kf := 0) (v := .ref 1) fl_RX10 dX10_doPart_155 w181 (Nat.le_of_ble_eq_true rfl) rfl rfl ?_
          refine V.iload (i := 4) dX10_doPart_158 rfl ?_
          refine V.iload (i := 5) dX10_doPart_160 rfl ?_
          obtain ⟨v10, hv10, hf⟩ := fbind hf
          refine V.callSn (pl := [1, 2]) (σ' := [.inl (5, [.ref 1, .ref 3, .ref 6, .ref 8, .ref 9]), .inl (3, [.ref 2]), .inr (910, .inl v10.2), .inl (1, [.ref 4, .ref 5, .int History_oldest, .int History_size, .int History_snapshotTaken]), .inr (5460, .inl History_saved), .inr (910, .inl History_snapshot), .inl (0, [.ref 7, .int Buffer_size]), .inr (60, .inl Buffer_codes), .inl (2, [.ref (Reader_pattern + 1000), .int Reader_place]), .inl (4, [.ref 10, .int Word_size]), .inr (8, .inl Word_letters)]) (st2 := [.int v10.1]) (cl2 := 0) (sl2 := 0) (ct_X4_takeOff (a1 := v3) (a2 := v4) (State_cells := State_cells) hv10) dX10_doPart_162 w687 w688 cal_X4_takeOff ⟨⟨Nat.le_of_ble_eq_true rfl, Nat.le_of_ble_eq_true rfl⟩, Nat.le_of_ble_eq_true rfl, Nat.le_of_ble_eq_true rfl⟩ (Nat.le_of_ble_eq_true rfl) rfl ⟨rfl, ⟨by decide, by decide⟩, rfl, (fr_cons (Or.inl (Nat.le_of_ble_eq_true rfl)) (fr_nil)), rfl⟩ fr_i rfl rfl rfl rfl ?_
          refine V.pop dX10_doPart_165 rfl ?_
          obtain rfl := Option.some.inj hf
          exact V.vret dX10_doPart_166 rfl (Nat.le_of_ble_eq_true rfl) (Nat.le_of_ble_eq_true rfl) rfl
def k_X10_work : fK := (yX10_work, cX10_work, 4, (some .int), [], (8, 169), (0, 0), (1, 6))
theorem cal_X10_work : fCal k_X10_work 0 := ⟨⟨wc802, w67⟩, ⟨by decide +kernel, by decide +kernel⟩, by decide +kernel, by decide +kernel⟩
def s_X10_work_L58 (Buffer_size : Int32) (Buffer_codes : Nat → Int32) : Nat → Int32 → Int32 → Int32 → (Nat → Int32) → (Int32) → (Nat → Int32) → Option (Int32 × Int32 × Int32 × (Nat → Int32) × (Int32) × (Nat → Int32))
  | 0, _, _, _, _, _, _ => none
  | n + 1, x1, x2, x3, State_cells, Word_size, Word_letters => (s_X1_size Buffer_size).bind fun v5 => if (v5 ≤ x3 : Prop) then (some (x1, x2, x3, State_cells, Word_size, Word_letters)) else (if (x2 = 0 : Prop) then ((s_X1_beginsPart x3 Buffer_size Buffer_codes).bind fun v6 => if (v6 = 0 : Prop) then (s_X10_work_L58 Buffer_size Buffer_codes n x1 x2 (x3 + 1) State_cells Word_size Word_letters) else ((s_X10_whyNotDone x3 State_cells Buffer_size Buffer_codes Word_size Word_letters).bind fun v7 => if (v7.1 = 0 : Prop) then ((s_X10_doPart x3 State_cells Buffer_size Buffer_codes v7.2.1 v7.2.2).bind fun v8 => s_X10_work_L58 Buffer_size Buffer_codes n (x1 + 1) v7.1 (x3 + 1) v8 v7.2.1 v7.2.2) else (s_X10_work_L58 Buffer_size Buffer_codes n x1 v7.1 (x3 + 1) State_cells v7.2.1 v7.2.2))) else (some (x1, x2, x3, State_cells, Word_size, Word_letters)))
set_option maxHeartbeats 4000000 in
set_option maxRecDepth 100000 in
theorem v_X10_work_L58 {out : fO} {σ' : List fE} {History_oldest : Int32} {History_size : Int32} {History_snapshotTaken : Int32} {History_saved : Nat → Int32} {History_snapshot : Nat → Int32} {Buffer_size : Int32} {Buffer_codes : Nat → Int32} {Reader_pattern : Nat} {Reader_place : Int32} : ∀ (n : Nat) {x1 : Int32} {x2 : Int32} {x3 : Int32} {State_cells : (Nat → Int32)} {Word_size : (Int32)} {Word_letters : (Nat → Int32)} {res : Int32 × Int32 × Int32 × (Nat → Int32) × (Int32) × (Nat → Int32)} (hf : s_X10_work_L58 Buffer_size Buffer_codes n x1 x2 x3 State_cells Word_size Word_letters = some res) (hx : V (fXm 11 k_X10_work out σ') (krm k_X10_work) k_X10_work 11 111 [some (.ref 0), some (.int res.1), some (.int res.2.1), some (.int res.2.2.1)] [] [.inl (5, [.ref 1, .ref 3, .ref 6, .ref 8, .ref 9]), .inl (3, [.ref 2]), .inr (910, .inl res.2.2.2.1), .inl (1, [.ref 4, .ref 5, .int History_oldest, .int History_size, .int History_snapshotTaken]), .inr (5460, .inl History_saved), .inr (910, .inl History_snapshot), .inl (0, [.ref 7, .int Buffer_size]), .inr (60, .inl Buffer_codes), .inl (2, [.ref (Reader_pattern + 1000), .int Reader_place]), .inl (4, [.ref 10, .int res.2.2.2.2.1]), .inr (8, .inl res.2.2.2.2.2)] 0 0), V (fXm 11 k_X10_work out σ') (krm k_X10_work) k_X10_work 11 58 [some (.ref 0), some (.int x1), some (.int x2), some (.int x3)] [] [.inl (5, [.ref 1, .ref 3, .ref 6, .ref 8, .ref 9]), .inl (3, [.ref 2]), .inr (910, .inl State_cells), .inl (1, [.ref 4, .ref 5, .int History_oldest, .int History_size, .int History_snapshotTaken]), .inr (5460, .inl History_saved), .inr (910, .inl History_snapshot), .inl (0, [.ref 7, .int Buffer_size]), .inr (60, .inl Buffer_codes), .inl (2, [.ref (Reader_pattern + 1000), .int Reader_place]), .inl (4, [.ref 10, .int Word_size]), .inr (8, .inl Word_letters)] 0 0 := by
  intro n
  induction n with
  | zero =>
    intro x1 x2 x3 State_cells Word_size Word_letters res hf hx
    rw [s_X10_work_L58] at hf
    cases hf
  | succ n ih =>
    intro x1 x2 x3 State_cells Word_size Word_letters res hf hx
    rw [s_X10_work_L58] at hf
    refine V.iload_n (i := 3) dX10_work_58 rfl rfl ?_
    refine V.aload_n (i := 0) dX10_work_59 rfl rfl ?_
    refine V.getfield (kf := 2) (v := .ref 6) fl_RX10 dX10_work_60 w183 (Nat.le_of_ble_eq_true rfl) rfl rfl ?_
    obtain ⟨v5, hv5, hf⟩ := fbind hf
    refine V.callVn (pl := [6, 7]) (σ' := [.inl (5, [.ref 1, .ref 3, .ref 6, .ref 8, .ref 9]), .inl (3, [.ref 2]), .inr (910, .inl State_cells), .inl (1, [.ref 4, .ref 5, .int History_oldest, .int History_size, .int History_snapshotTaken]), .inr (5460, .inl History_saved), .inr (910, .inl History_snapshot), .inl (0, [.ref 7, .int Buffer_size]), .inr (60, .inl Buffer_codes), .inl (2, [.ref (Reader_pattern + 1000), .int Reader_place]), .inl (4, [.ref 10, .int Word_size]), .inr (8, .inl Word_letters)]) (st2 := [.int v5, .int x3]) (cl2 := 0) (sl2 := 0) (ct_X1_size (Buffer_size := Buffer_size) (Buffer_codes := Buffer_codes) hv5) dX10_work_63 w803 ⟨w214, w215⟩ cal_X1_size rfl ⟨⟨Nat.le_of_ble_eq_true rfl, Nat.le_of_ble_eq_true rfl⟩, Nat.le_of_ble_eq_true rfl, Nat.le_of_ble_eq_true rfl⟩ (Nat.le_of_ble_eq_true rfl) (Or.inl ⟨_, _, _, _, rfl, rfl⟩) rfl ⟨rfl, ⟨by decide, by decide⟩, rfl, (fr_cons (Or.inl (Nat.le_of_ble_eq_true rfl)) (fr_nil)), rfl⟩ fr_i rfl rfl rfl rfl ?_
    refine V.icmp_ge (tgt := 111) dX10_work_66 (by decide) (fun h => ?_) (fun h => ?_)
    · have hf := fif_t h hf
      obtain rfl := Option.some.inj hf
      exact hx
    · have hf := fif_f h hf
      refine V.iload_n (i := 2) dX10_work_69 rfl rfl ?_
      refine V.if_ne (tgt := 111) dX10_work_70 (by decide) (fun h => ?_) (fun h => ?_)
      · have hf := fif_f h hf
        obtain rfl := Option.some.inj hf
        exact hx
      · have hf := fif_t h hf
        refine V.aload_n (i := 0) dX10_work_73 rfl rfl ?_
        refine V.getfield (kf := 2) (v := .ref 6) fl_RX10 dX10_work_74 w183 (Nat.le_of_ble_eq_true rfl) rfl rfl ?_
        refine V.iload_n (i := 3) dX10_work_77 rfl rfl ?_
        obtain ⟨v6, hv6, hf⟩ := fbind hf
        refine V.callVn (pl := [6, 7]) (σ' := [.inl (5, [.ref 1, .ref 3, .ref 6, .ref 8, .ref 9]), .inl (3, [.ref 2]), .inr (910, .inl State_cells), .inl (1, [.ref 4, .ref 5, .int History_oldest, .int History_size, .int History_snapshotTaken]), .inr (5460, .inl History_saved), .inr (910, .inl History_snapshot), .inl (0, [.ref 7, .int Buffer_size]), .inr (60, .inl Buffer_codes), .inl (2, [.ref (Reader_pattern + 1000), .int Reader_place]), .inl (4, [.ref 10, .int Word_size]), .inr (8, .inl Word_letters)]) (st2 := [.int v6]) (cl2 := 0) (sl2 := 0) (ct_X1_beginsPart (a1 := x3) (Buffer_size := Buffer_size) (Buffer_codes := Buffer_codes) hv6) dX10_work_78 w806 ⟨w807, w808⟩ cal_X1_beginsPart rfl ⟨⟨Nat.le_of_ble_eq_true rfl, Nat.le_of_ble_eq_true rfl⟩, Nat.le_of_ble_eq_true rfl, Nat.le_of_ble_eq_true rfl⟩ (Nat.le_of_ble_eq_true rfl) (Or.inl ⟨_, _, _, _, rfl, rfl⟩) rfl ⟨rfl, ⟨by decide, by decide⟩, rfl, (fr_cons (Or.inl (Nat.le_of_ble_eq_true rfl)) (fr_nil)), rfl⟩ fr_i rfl rfl rfl rfl ?_
        refine V.if_ne (tgt := 87) dX10_work_81 (by decide) (fun h => ?_) (fun h => ?_)
        · have hf := fif_f h hf
          refine V.aload_n (i := 0) dX10_work_87 rfl rfl ?_
          refine V.iload_n (i := 3) dX10_work_88 rfl rfl ?_
          obtain ⟨v7, hv7, hf⟩ := fbind hf
          refine V.callVn (pl := [0, 1, 2, 3, 4, 5, 6, 7, 8, 9, 10]) (σ' := [.inl (5, [.ref 1, .ref 3, .ref 6, .ref 8, .ref 9]), .inl (3, [.ref 2]), .inr (910, .inl State_cells), .inl (1, [.ref 4, .ref 5, .int History_oldest, .int History_size, .int History_snapshotTaken]), .inr (5460, .inl History_saved), .inr (910, .inl History_snapshot), .inl (0, [.ref 7, .int Buffer_size]), .inr (60, .inl Buffer_codes), .inl (2, [.ref (Reader_pattern + 1000), .int Reader_place]), .inl (4, [.ref 10, .int v7.2.1]), .inr (8, .inl v7.2.2)]) (st2 := [.int v7.1]) (cl2 := 0) (sl2 := 0) (ct_X10_whyNotDone (a1 := x3) (State_cells := State_cells) (History_oldest := History_oldest) (History_size := History_size) (History_snapshotTaken := History_snapshotTaken) (History_saved := History_saved) (History_snapshot := History_snapshot) (Buffer_size := Buffer_size) (Buffer_codes := Buffer_codes) (Reader_pattern := Reader_pattern) (Reader_place := Reader_place) (Word_size := Word_size) (Word_letters := Word_letters) hv7) dX10_work_89 w810 ⟨w812, w6⟩ cal_X10_whyNotDone rfl ⟨⟨Nat.le_of_ble_eq_true rfl, Nat.le_of_ble_eq_true rfl⟩, Nat.le_of_ble_eq_true rfl, Nat.le_of_ble_eq_true rfl⟩ (Nat.le_of_ble_eq_true rfl) (Or.inl ⟨_, _, _, _, rfl, rfl⟩) rfl ⟨rfl, ⟨by decide, by decide⟩, rfl, (fr_cons (Or.inl (Nat.le_of_ble_eq_true rfl)) (fr_cons (Or.inl (Nat.le_of_ble_eq_true rfl)) (fr_cons (Or.inl (Nat.le_of_ble_eq_true rfl)) (fr_cons (Or.inl (Nat.le_of_ble_eq_true rfl)) (fr_cons (Or.inl (Nat.le_of_ble_eq_true rfl)) (fr_cons (Or.inl (Nat.le_of_ble_eq_true rfl)) (fr_cons (Or.inl (Nat.le_of_ble_eq_true rfl)) (fr_cons (Or.inl (Nat.le_of_ble_eq_true rfl)) (fr_cons (Or.inl (Nat.le_of_ble_eq_true rfl)) (fr_cons (Or.inr (Nat.le_add_left 1000 _)) (fr_cons (Or.inl (Nat.le_of_ble_eq_true rfl)) (fr_nil)))))))))))), rfl⟩ fr_i rfl rfl rfl rfl ?_
          refine V.istore_n (i := 2) (L' := [some (.ref 0), some (.int x1), some (.int v7.1), some (.int x3)]) dX10_work_92 rfl (Nat.le_of_ble_eq_true rfl) rfl rfl ?_
          refine V.iload_n (i := 2) dX10_work_93 rfl rfl ?_
          refine V.if_ne (tgt := 105) dX10_work_94 (by decide) (fun h => ?_) (fun h => ?_)
          · have hf := fif_f h hf
            refine V.iinc (i := 3) (v := (x3 + 1)) (L' := [some (.ref 0), some (.int x1), some (.int v7.1), some (.int (x3 + 1))]) dX10_work_105 rfl rfl (Nat.le_of_ble_eq_true rfl) rfl rfl ?_
            refine V.goto (tgt := 58) dX10_work_108 (by decide) ?_
            exact ih hf hx
          · have hf := fif_t h hf
            refine V.aload_n (i := 0) dX10_work_97 rfl rfl ?_
            refine V.iload_n (i := 3) dX10_work_98 rfl rfl ?_
            obtain ⟨v8, hv8, hf⟩ := fbind hf
            refine V.callVn (pl := [0, 1, 2, 3, 4, 5, 6, 7, 8, 9, 10]) (σ' := [.inl (5, [.ref 1, .ref 3, .ref 6, .ref 8, .ref 9]), .inl (3, [.ref 2]), .inr (910, .inl v8), .inl (1, [.ref 4, .ref 5, .int History_oldest, .int History_size, .int History_snapshotTaken]), .inr (5460, .inl History_saved), .inr (910, .inl History_snapshot), .inl (0, [.ref 7, .int Buffer_size]), .inr (60, .inl Buffer_codes), .inl (2, [.ref (Reader_pattern + 1000), .int Reader_place]), .inl (4, [.ref 10, .int v7.2.1]), .inr (8, .inl v7.2.2)]) (st2 := []) (cl2 := 0) (sl2 := 0) (ct_X10_doPart (a1 := x3) (State_cells := State_cells) (History_oldest := History_oldest) (History_size := History_size) (History_snapshotTaken := History_snapshotTaken) (History_saved := History_saved) (History_snapshot := History_snapshot) (Buffer_size := Buffer_size) (Buffer_codes := Buffer_codes) (Reader_pattern := Reader_pattern) (Reader_place := Reader_place) (Word_size := v7.2.1) (Word_letters := v7.2.2) hv8) dX10_work_99 w886 ⟨w888, w7⟩ cal_X10_doPart rfl ⟨⟨Nat.le_of_ble_eq_true rfl, Nat.le_of_ble_eq_true rfl⟩, Nat.le_of_ble_eq_true rfl, Nat.le_of_ble_eq_true rfl⟩ (Nat.le_of_ble_eq_true rfl) (Or.inl ⟨_, _, _, _, rfl, rfl⟩) rfl ⟨rfl, ⟨by decide, by decide⟩, rfl, (fr_cons (Or.inl (Nat.le_of_ble_eq_true rfl)) (fr_cons (Or.inl (Nat.le_of_ble_eq_true rfl)) (fr_cons (Or.inl (Nat.le_of_ble_eq_true rfl)) (fr_cons (Or.inl (Nat.le_of_ble_eq_true rfl)) (fr_cons (Or.inl (Nat.le_of_ble_eq_true rfl)) (fr_cons (Or.inl (Nat.le_of_ble_eq_true rfl)) (fr_cons (Or.inl (Nat.le_of_ble_eq_true rfl)) (fr_cons (Or.inl (Nat.le_of_ble_eq_true rfl)) (fr_cons (Or.inl (Nat.le_of_ble_eq_true rfl)) (fr_cons (Or.inr (Nat.le_add_left 1000 _)) (fr_cons (Or.inl (Nat.le_of_ble_eq_true rfl)) (fr_nil)))))))))))), rfl⟩ fr_v rfl rfl rfl rfl ?_
            refine V.iinc (i := 1) (v := (x1 + 1)) (L' := [some (.ref 0), some (.int (x1 + 1)), some (.int v7.1), some (.int x3)]) dX10_work_102 rfl rfl (Nat.le_of_ble_eq_true rfl) rfl rfl ?_
            refine V.iinc (i := 3) (v := (x3 + 1)) (L' := [some (.ref 0), some (.int (x1 + 1)), some (.int v7.1), some (.int (x3 + 1))]) dX10_work_105 rfl rfl (Nat.le_of_ble_eq_true rfl) rfl rfl ?_
            refine V.goto (tgt := 58) dX10_work_108 (by decide) ?_
            exact ih hf hx
        · have hf := fif_t h hf
          refine V.goto (tgt := 105) dX10_work_84 (by decide) ?_
          refine V.iinc (i := 3) (v := (x3 + 1)) (L' := [some (.ref 0), some (.int x1), some (.int x2), some (.int (x3 + 1))]) dX10_work_105 rfl rfl (Nat.le_of_ble_eq_true rfl) rfl rfl ?_
          refine V.goto (tgt := 58) dX10_work_108 (by decide) ?_
          exact ih hf hx
def s_X10_work (State_cells : Nat → Int32) (History_oldest : Int32) (History_size : Int32) (History_saved : Nat → Int32) (Buffer_size : Int32) (Buffer_codes : Nat → Int32) (Reader_pattern : Nat) (Reader_place : Int32) (Word_size : Int32) (Word_letters : Nat → Int32) : Option ((Int32 ⊕ String) × (Nat → Int32) × (Int32) × (Int32) × (Nat → Int32) × (Int32) × (Nat) × (Int32) × (Int32) × (Nat → Int32)) := (s_X5_readAll Reader_pattern Reader_place Buffer_size Buffer_codes).bind fun v1 => (s_X1_size Buffer_size).bind fun v2 => if (v1.1 < v2 : Prop) then (some (.inr "java/lang/IllegalArgumentException", State_cells, History_oldest, History_size, History_saved, Buffer_size, v1.2.1, v1.2.2, Word_size, Word_letters)) else ((s_X5_mayEnd v1.2.1 v1.2.2).bind fun v3 => if (v3 = 0 : Prop) then (some (.inr "java/lang/IllegalArgumentException", State_cells, History_oldest, History_size, History_saved, Buffer_size, v1.2.1, v1.2.2, Word_size, Word_letters)) else ((s_X3_push History_oldest History_size History_saved State_cells).bind fun v4 => (s_X10_work_L58 Buffer_size Buffer_codes gF 0 0 0 State_cells Word_size Word_letters).bind fun r9 => (s_X7_put 5 r9.1 r9.2.2.2.1).bind fun v10 => (s_X7_put 6 r9.2.1 v10).bind fun v11 => (s_X1_empty Buffer_size).bind fun v12 => some (.inl r9.1, v11, v4.1, v4.2.1, v4.2.2, v12.2, v1.2.1, v1.2.2, r9.2.2.2.2.1, r9.2.2.2.2.2)))
set_option maxHeartbeats 4000000 in
set_option maxRecDepth 100000 in
theorem ct_X10_work {State_cells : Nat → Int32} {History_oldest : Int32} {History_size : Int32} {History_snapshotTaken : Int32} {History_saved : Nat → Int32} {History_snapshot : Nat → Int32} {Buffer_size : Int32} {Buffer_codes : Nat → Int32} {Reader_pattern : Nat} {Reader_place : Int32} {Word_size : Int32} {Word_letters : Nat → Int32} {res : (Int32 ⊕ String) × (Nat → Int32) × (Int32) × (Int32) × (Nat → Int32) × (Int32) × (Nat) × (Int32) × (Int32) × (Nat → Int32)} (hf : s_X10_work State_cells History_oldest History_size History_saved Buffer_size Buffer_codes Reader_pattern Reader_place Word_size Word_letters = some res) : Ct k_X10_work [.ref 0] [.inl (5, [.ref 1, .ref 3, .ref 6, .ref 8, .ref 9]), .inl (3, [.ref 2]), .inr (910, .inl State_cells), .inl (1, [.ref 4, .ref 5, .int History_oldest, .int History_size, .int History_snapshotTaken]), .inr (5460, .inl History_saved), .inr (910, .inl History_snapshot), .inl (0, [.ref 7, .int Buffer_size]), .inr (60, .inl Buffer_codes), .inl (2, [.ref (Reader_pattern + 1000), .int Reader_place]), .inl (4, [.ref 10, .int Word_size]), .inr (8, .inl Word_letters)] (foI res.1) [.inl (5, [.ref 1, .ref 3, .ref 6, .ref 8, .ref 9]), .inl (3, [.ref 2]), .inr (910, .inl res.2.1), .inl (1, [.ref 4, .ref 5, .int res.2.2.1, .int res.2.2.2.1, .int History_snapshotTaken]), .inr (5460, .inl res.2.2.2.2.1), .inr (910, .inl History_snapshot), .inl (0, [.ref 7, .int res.2.2.2.2.2.1]), .inr (60, .inl Buffer_codes), .inl (2, [.ref (res.2.2.2.2.2.2.1 + 1000), .int res.2.2.2.2.2.2.2.1]), .inl (4, [.ref 10, .int res.2.2.2.2.2.2.2.2.1]), .inr (8, .inl res.2.2.2.2.2.2.2.2.2)] := by
  unfold s_X10_work at hf
  refine Ct.of (L := [some (.ref 0), none, none, none]) cal_X10_work (fent_pad (j := 3) rfl) (Nat.le_of_ble_eq_true rfl) ?_
  refine V.aload_n (i := 0) dX10_work_0 rfl rfl ?_
  refine V.getfield (kf := 3) (v := .ref 8) fl_RX10 dX10_work_1 w184 (Nat.le_of_ble_eq_true rfl) rfl rfl ?_
  refine V.aload_n (i := 0) dX10_work_4 rfl rfl ?_
  refine V.getfield (kf := 2) (v := .ref 6) fl_RX10 dX10_work_5 w183 (Nat.le_of_ble_eq_true rfl) rfl rfl ?_
  obtain ⟨v1, hv1, hf⟩ := fbind hf
  refine V.callVn (pl := [8, 6, 7]) (σ' := [.inl (5, [.ref 1, .ref 3, .ref 6, .ref 8, .ref 9]), .inl (3, [.ref 2]), .inr (910, .inl State_cells), .inl (1, [.ref 4, .ref 5, .int History_oldest, .int History_size, .int History_snapshotTaken]), .inr (5460, .inl History_saved), .inr (910, .inl History_snapshot), .inl (0, [.ref 7, .int Buffer_size]), .inr (60, .inl Buffer_codes), .inl (2, [.ref (v1.2.1 + 1000), .int v1.2.2]), .inl (4, [.ref 10, .int Word_size]), .inr (8, .inl Word_letters)]) (st2 := [.int v1.1]) (cl2 := 0) (sl2 := 0) (ct_X5_readAll (Reader_pattern := Reader_pattern) (Reader_place := Reader_place) (Buffer_size := Buffer_size) (Buffer_codes := Buffer_codes) hv1) dX10_work_8 w209 ⟨w210, w211⟩ cal_X5_readAll rfl ⟨⟨Nat.le_of_ble_eq_true rfl, Nat.le_of_ble_eq_true rfl⟩, Nat.le_of_ble_eq_true rfl, Nat.le_of_ble_eq_true rfl⟩ (Nat.le_of_ble_eq_true rfl) (Or.inl ⟨_, _, _, _, rfl, rfl⟩) rfl ⟨rfl, ⟨by decide, by decide⟩, rfl, (fr_cons (Or.inr (Nat.le_add_left 1000 _)) (fr_cons (Or.inl (Nat.le_of_ble_eq_true rfl)) (fr_nil))), rfl⟩ fr_i rfl rfl rfl rfl ?_
  refine V.aload_n (i := 0) dX10_work_11 rfl rfl ?_
  refine V.getfield (kf := 2) (v := .ref 6) fl_RX10 dX10_work_12 w183 (Nat.le_of_ble_eq_true rfl) rfl rfl ?_
  obtain ⟨v2, hv2, hf⟩ := fbind hf
  refine V.callVn (pl := [6, 7]) (σ' := [.inl (5, [.ref 1, .ref 3, .ref 6, .ref 8, .ref 9]), .inl (3, [.ref 2]), .inr (910, .inl State_cells), .inl (1, [.ref 4, .ref 5, .int History_oldest, .int History_size, .int History_snapshotTaken]), .inr (5460, .inl History_saved), .inr (910, .inl History_snapshot), .inl (0, [.ref 7, .int Buffer_size]), .inr (60, .inl Buffer_codes), .inl (2, [.ref (v1.2.1 + 1000), .int v1.2.2]), .inl (4, [.ref 10, .int Word_size]), .inr (8, .inl Word_letters)]) (st2 := [.int v2, .int v1.1]) (cl2 := 0) (sl2 := 0) (ct_X1_size (Buffer_size := Buffer_size) (Buffer_codes := Buffer_codes) hv2) dX10_work_15 w803 ⟨w214, w215⟩ cal_X1_size rfl ⟨⟨Nat.le_of_ble_eq_true rfl, Nat.le_of_ble_eq_true rfl⟩, Nat.le_of_ble_eq_true rfl, Nat.le_of_ble_eq_true rfl⟩ (Nat.le_of_ble_eq_true rfl) (Or.inl ⟨_, _, _, _, rfl, rfl⟩) rfl ⟨rfl, ⟨by decide, by decide⟩, rfl, (fr_cons (Or.inl (Nat.le_of_ble_eq_true rfl)) (fr_nil)), rfl⟩ fr_i rfl rfl rfl rfl ?_
  refine V.icmp_lt (tgt := 31) dX10_work_18 (by decide) (fun h => ?_) (fun h => ?_)
  · have hf := fif_t h hf
    obtain rfl := Option.some.inj hf
    exact V.throwS (i := 18) th_RX10_IllegalArgumentException_110 (List.mem_of_getElem? (i := 18) rfl) dX10_work_31 dX10_work_34 dX10_work_35 dX10_work_37 dX10_work_40 rfl (Nat.le_of_ble_eq_true rfl) (Nat.le_of_ble_eq_true rfl) ⟨Nat.le_of_ble_eq_true rfl, Nat.le_of_ble_eq_true rfl⟩ (Nat.le_of_ble_eq_true rfl) (Nat.le_of_ble_eq_true rfl) rfl
  · have hf := fif_f h hf
    refine V.aload_n (i := 0) dX10_work_21 rfl rfl ?_
    refine V.getfield (kf := 3) (v := .ref 8) fl_RX10 dX10_work_22 w184 (Nat.le_of_ble_eq_true rfl) rfl rfl ?_
    obtain ⟨v3, hv3, hf⟩ := fbind hf
    refine V.callVn (pl := [8]) (σ' := [.inl (5, [.ref 1, .ref 3, .ref 6, .ref 8, .ref 9]), .inl (3, [.ref 2]), .inr (910, .inl State_cells), .inl (1, [.ref 4, .ref 5, .int History_oldest, .int History_size, .int History_snapshotTaken]), .inr (5460, .inl History_saved), .inr (910, .inl History_snapshot), .inl (0, [.ref 7, .int Buffer_size]), .inr (60, .inl Buffer_codes), .inl (2, [.ref (v1.2.1 + 1000), .int v1.2.2]), .inl (4, [.ref 10, .int Word_size]), .inr (8, .inl Word_letters)]) (st2 := [.int v3]) (cl2 := 0) (sl2 := 0) (ct_X5_mayEnd (Reader_pattern := v1.2.1) (Reader_place := v1.2.2) hv3) dX10_work_25 w804 ⟨w226, w227⟩ cal_X5_mayEnd rfl ⟨⟨Nat.le_of_ble_eq_true rfl, Nat.le_of_ble_eq_true rfl⟩, Nat.le_of_ble_eq_true rfl, Nat.le_of_ble_eq_true rfl⟩ (Nat.le_of_ble_eq_true rfl) (Or.inl ⟨_, _, _, _, rfl, rfl⟩) rfl ⟨rfl, ⟨by decide, by decide⟩, rfl, (fr_cons (Or.inr (Nat.le_add_left 1000 _)) (fr_nil)), rfl⟩ fr_i rfl rfl rfl rfl ?_
    refine V.if_ne (tgt := 41) dX10_work_28 (by decide) (fun h => ?_) (fun h => ?_)
    · have hf := fif_f h hf
      refine V.aload_n (i := 0) dX10_work_41 rfl rfl ?_
      refine V.getfield (kf := 1) (v := .ref 3) fl_RX10 dX10_work_42 w182 (Nat.le_of_ble_eq_true rfl) rfl rfl ?_
      refine V.aload_n (i := 0) dX10_work_45 rfl rfl ?_
      refine V.getfield (kf := 0) (v := .ref 1) fl_RX10 dX10_work_46 w181 (Nat.le_of_ble_eq_true rfl) rfl rfl ?_
      obtain ⟨v4, hv4, hf⟩ := fbind hf
      refine V.callVn (pl := [3, 4, 5, 1, 2]) (σ' := [.inl (5, [.ref 1, .ref 3, .ref 6, .ref 8, .ref 9]), .inl (3, [.ref 2]), .inr (910, .inl State_cells), .inl (1, [.ref 4, .ref 5, .int v4.1, .int v4.2.1, .int History_snapshotTaken]), .inr (5460, .inl v4.2.2), .inr (910, .inl History_snapshot), .inl (0, [.ref 7, .int Buffer_size]), .inr (60, .inl Buffer_codes), .inl (2, [.ref (v1.2.1 + 1000), .int v1.2.2]), .inl (4, [.ref 10, .int Word_size]), .inr (8, .inl Word_letters)]) (st2 := []) (cl2 := 0) (sl2 := 0) (ct_X3_push (History_oldest := History_oldest) (History_size := History_size) (History_snapshotTaken := History_snapshotTaken) (History_saved := History_saved) (History_snapshot := History_snapshot) (State_cells := State_cells) hv4) dX10_work_49 w652 ⟨w653, w654⟩ cal_X3_push rfl ⟨⟨Nat.le_of_ble_eq_true rfl, Nat.le_of_ble_eq_true rfl⟩, Nat.le_of_ble_eq_true rfl, Nat.le_of_ble_eq_true rfl⟩ (Nat.le_of_ble_eq_true rfl) (Or.inl ⟨_, _, _, _, rfl, rfl⟩) rfl ⟨rfl, ⟨by decide, by decide⟩, rfl, (fr_cons (Or.inl (Nat.le_of_ble_eq_true rfl)) (fr_cons (Or.inl (Nat.le_of_ble_eq_true rfl)) (fr_cons (Or.inl (Nat.le_of_ble_eq_true rfl)) (fr_nil)))), rfl⟩ fr_v rfl rfl rfl rfl ?_
      refine V.iconst (v := 0) dX10_work_52 rfl ?_
      refine V.istore_n (i := 1) (L' := [some (.ref 0), some (.int 0), none, none]) dX10_work_53 rfl (Nat.le_of_ble_eq_true rfl) rfl rfl ?_
      refine V.iconst (v := 0) dX10_work_54 rfl ?_
      refine V.istore_n (i := 2) (L' := [some (.ref 0), some (.int 0), some (.int 0), none]) dX10_work_55 rfl (Nat.le_of_ble_eq_true rfl) rfl rfl ?_
      refine V.iconst (v := 0) dX10_work_56 rfl ?_
      refine V.istore_n (i := 3) (L' := [some (.ref 0), some (.int 0), some (.int 0), some (.int 0)]) dX10_work_57 rfl (Nat.le_of_ble_eq_true rfl) rfl rfl ?_
      obtain ⟨r9, hr9, hf⟩ := fbind hf
      refine v_X10_work_L58 gF hr9 ?_
      refine V.aload_n (i := 0) dX10_work_111 rfl rfl ?_
      refine V.getfield (kf := 0) (v := .ref 1) fl_RX10 dX10_work_112 w181 (Nat.le_of_ble_eq_true rfl) rfl rfl ?_
      refine V.iconst (v := 5) dX10_work_115 rfl ?_
      refine V.iload_n (i := 1) dX10_work_116 rfl rfl ?_
      obtain ⟨v10, hv10, hf⟩ := fbind hf
      refine V.callVn (pl := [1, 2]) (σ' := [.inl (5, [.ref 1, .ref 3, .ref 6, .ref 8, .ref 9]), .inl (3, [.ref 2]), .inr (910, .inl v10), .inl (1, [.ref 4, .ref 5, .int v4.1, .int v4.2.1, .int History_snapshotTaken]), .inr (5460, .inl v4.2.2), .inr (910, .inl History_snapshot), .inl (0, [.ref 7, .int Buffer_size]), .inr (60, .inl Buffer_codes), .inl (2, [.ref (v1.2.1 + 1000), .int v1.2.2]), .inl (4, [.ref 10, .int r9.2.2.2.2.1]), .inr (8, .inl r9.2.2.2.2.2)]) (st2 := []) (cl2 := 0) (sl2 := 0) (ct_X7_put (a1 := 5) (a2 := r9.1) (State_cells := r9.2.2.2.1) hv10) dX10_work_117 w769 ⟨w107, w108⟩ cal_X7_put rfl ⟨⟨Nat.le_of_ble_eq_true rfl, Nat.le_of_ble_eq_true rfl⟩, Nat.le_of_ble_eq_true rfl, Nat.le_of_ble_eq_true rfl⟩ (Nat.le_of_ble_eq_true rfl) (Or.inl ⟨_, _, _, _, rfl, rfl⟩) rfl ⟨rfl, ⟨by decide, by decide⟩, rfl, (fr_cons (Or.inl (Nat.le_of_ble_eq_true rfl)) (fr_nil)), rfl⟩ fr_v rfl rfl rfl rfl ?_
      refine V.aload_n (i := 0) dX10_work_120 rfl rfl ?_
      refine V.getfield (kf := 0) (v := .ref 1) fl_RX10 dX10_work_121 w181 (Nat.le_of_ble_eq_true rfl) rfl rfl ?_
      refine V.bipush (v := 6) dX10_work_124 rfl ?_
      refine V.iload_n (i := 2) dX10_work_126 rfl rfl ?_
      obtain ⟨v11, hv11, hf⟩ := fbind hf
      refine V.callVn (pl := [1, 2]) (σ' := [.inl (5, [.ref 1, .ref 3, .ref 6, .ref 8, .ref 9]), .inl (3, [.ref 2]), .inr (910, .inl v11), .inl (1, [.ref 4, .ref 5, .int v4.1, .int v4.2.1, .int History_snapshotTaken]), .inr (5460, .inl v4.2.2), .inr (910, .inl History_snapshot), .inl (0, [.ref 7, .int Buffer_size]), .inr (60, .inl Buffer_codes), .inl (2, [.ref (v1.2.1 + 1000), .int v1.2.2]), .inl (4, [.ref 10, .int r9.2.2.2.2.1]), .inr (8, .inl r9.2.2.2.2.2)]) (st2 := []) (cl2 := 0) (sl2 := 0) (ct_X7_put (a1 := 6) (a2 := r9.2.1) (State_cells := v10) hv11) dX10_work_127 w769 ⟨w107, w108⟩ cal_X7_put rfl ⟨⟨Nat.le_of_ble_eq_true rfl, Nat.le_of_ble_eq_true rfl⟩, Nat.le_of_ble_eq_true rfl, Nat.le_of_ble_eq_true rfl⟩ (Nat.le_of_ble_eq_true rfl) (Or.inl ⟨_, _, _, _, rfl, rfl⟩) rfl ⟨rfl, ⟨by decide, by decide⟩, rfl, (fr_cons (Or.inl (Nat.le_of_ble_eq_true rfl)) (fr_nil)), rfl⟩ fr_v rfl rfl rfl rfl ?_
      refine V.aload_n (i := 0) dX10_work_130 rfl rfl ?_
      refine V.getfield (kf := 2) (v := .ref 6) fl_RX10 dX10_work_131 w183 (Nat.le_of_ble_eq_true rfl) rfl rfl ?_
      obtain ⟨v12, hv12, hf⟩ := fbind hf
      refine V.callVn (pl := [6, 7]) (σ' := [.inl (5, [.ref 1, .ref 3, .ref 6, .ref 8, .ref 9]), .inl (3, [.ref 2]), .inr (910, .inl v11), .inl (1, [.ref 4, .ref 5, .int v4.1, .int v4.2.1, .int History_snapshotTaken]), .inr (5460, .inl v4.2.2), .inr (910, .inl History_snapshot), .inl (0, [.ref 7, .int v12.2]), .inr (60, .inl Buffer_codes), .inl (2, [.ref (v1.2.1 + 1000), .int v1.2.2]), .inl (4, [.ref 10, .int r9.2.2.2.2.1]), .inr (8, .inl r9.2.2.2.2.2)]) (st2 := [.int v12.1]) (cl2 := 0) (sl2 := 0) (ct_X1_empty (Buffer_size := Buffer_size) (Buffer_codes := Buffer_codes) hv12) dX10_work_134 w201 ⟨w202, w203⟩ cal_X1_empty rfl ⟨⟨Nat.le_of_ble_eq_true rfl, Nat.le_of_ble_eq_true rfl⟩, Nat.le_of_ble_eq_true rfl, Nat.le_of_ble_eq_true rfl⟩ (Nat.le_of_ble_eq_true rfl) (Or.inl ⟨_, _, _, _, rfl, rfl⟩) rfl ⟨rfl, ⟨by decide, by decide⟩, rfl, (fr_cons (Or.inl (Nat.le_of_ble_eq_true rfl)) (fr_nil)), rfl⟩ fr_i rfl rfl rfl rfl ?_
      refine V.pop dX10_work_137 rfl ?_
      refine V.iload_n (i := 1) dX10_work_138 rfl rfl ?_
      obtain rfl := Option.some.inj hf
      exact V.iret dX10_work_139 rfl (Nat.le_of_ble_eq_true rfl) (Nat.le_of_ble_eq_true rfl) rfl
    · have hf := fif_t h hf
      obtain rfl := Option.some.inj hf
      exact V.throwS (i := 18) th_RX10_IllegalArgumentException_110 (List.mem_of_getElem? (i := 18) rfl) dX10_work_31 dX10_work_34 dX10_work_35 dX10_work_37 dX10_work_40 rfl (Nat.le_of_ble_eq_true rfl) (Nat.le_of_ble_eq_true rfl) ⟨Nat.le_of_ble_eq_true rfl, Nat.le_of_ble_eq_true rfl⟩ (Nat.le_of_ble_eq_true rfl) (Nat.le_of_ble_eq_true rfl) rfl
def k_X10_numberOfStop : fK := (yX10_numberOfStop, cX10_numberOfStop, 2, (some .int), [], (1, 21), (0, 0), (0, 0))
theorem cal_X10_numberOfStop : fCal k_X10_numberOfStop 1 := ⟨⟨wc481, w67⟩, ⟨by decide +kernel, by decide +kernel⟩, by decide +kernel, by decide +kernel⟩
def s_X10_numberOfStop (a1 : Int32) (State_cells : Nat → Int32) : Option (Int32) := (s_X7_at 6 State_cells).bind fun v1 => if (v1 = 0 : Prop) then (some (-1)) else (if (a1 = 0 : Prop) then ((s_X7_at 5 State_cells).bind fun v3 => some v3) else ((s_X7_at 6 State_cells).bind fun v2 => some v2))
set_option maxHeartbeats 4000000 in
set_option maxRecDepth 100000 in
theorem ct_X10_numberOfStop {a1 : Int32} {State_cells : Nat → Int32} {History_oldest : Int32} {History_size : Int32} {History_snapshotTaken : Int32} {History_saved : Nat → Int32} {History_snapshot : Nat → Int32} {Buffer_size : Int32} {Buffer_codes : Nat → Int32} {Reader_pattern : Nat} {Reader_place : Int32} {Word_size : Int32} {Word_letters : Nat → Int32} {res : Int32} (hf : s_X10_numberOfStop a1 State_cells = some res) : Ct k_X10_numberOfStop [.ref 0, .int a1] [.inl (5, [.ref 1, .ref 3, .ref 6, .ref 8, .ref 9]), .inl (3, [.ref 2]), .inr (910, .inl State_cells), .inl (1, [.ref 4, .ref 5, .int History_oldest, .int History_size, .int History_snapshotTaken]), .inr (5460, .inl History_saved), .inr (910, .inl History_snapshot), .inl (0, [.ref 7, .int Buffer_size]), .inr (60, .inl Buffer_codes), .inl (2, [.ref (Reader_pattern + 1000), .int Reader_place]), .inl (4, [.ref 10, .int Word_size]), .inr (8, .inl Word_letters)] (.inl (some (.int res))) [.inl (5, [.ref 1, .ref 3, .ref 6, .ref 8, .ref 9]), .inl (3, [.ref 2]), .inr (910, .inl State_cells), .inl (1, [.ref 4, .ref 5, .int History_oldest, .int History_size, .int History_snapshotTaken]), .inr (5460, .inl History_saved), .inr (910, .inl History_snapshot), .inl (0, [.ref 7, .int Buffer_size]), .inr (60, .inl Buffer_codes), .inl (2, [.ref (Reader_pattern + 1000), .int Reader_place]), .inl (4, [.ref 10, .int Word_size]), .inr (8, .inl Word_letters)] := by
  unfold s_X10_numberOfStop at hf
  refine Ct.of (L := [some (.ref 0), some (.int a1)]) cal_X10_numberOfStop (fent_pad (j := 0) rfl) (Nat.le_of_ble_eq_true rfl) ?_
  refine V.aload_n (i := 0) dX10_numberOfStop_0 rfl rfl ?_
  refine V.getfield (kf := 0) (v := .ref 1) fl_RX10 dX10_numberOfStop_1 w181 (Nat.le_of_ble_eq_true rfl) rfl rfl ?_
  refine V.bipush (v := 6) dX10_numberOfStop_4 rfl ?_
  obtain ⟨v1, hv1, hf⟩ := fbind hf
  refine V.callVn (pl := [1, 2]) (σ' := [.inl (5, [.ref 1, .ref 3, .ref 6, .ref 8, .ref 9]), .inl (3, [.ref 2]), .inr (910, .inl State_cells), .inl (1, [.ref 4, .ref 5, .int History_oldest, .int History_size, .int History_snapshotTaken]), .inr (5460, .inl History_saved), .inr (910, .inl History_snapshot), .inl (0, [.ref 7, .int Buffer_size]), .inr (60, .inl Buffer_codes), .inl (2, [.ref (Reader_pattern + 1000), .int Reader_place]), .inl (4, [.ref 10, .int Word_size]), .inr (8, .inl Word_letters)]) (st2 := [.int v1]) (cl2 := 0) (sl2 := 0) (ct_X7_at (a1 := 6) (State_cells := State_cells) hv1) dX10_numberOfStop_6 w482 ⟨w314, w315⟩ cal_X7_at rfl ⟨⟨Nat.le_of_ble_eq_true rfl, Nat.le_of_ble_eq_true rfl⟩, Nat.le_of_ble_eq_true rfl, Nat.le_of_ble_eq_true rfl⟩ (Nat.le_of_ble_eq_true rfl) (Or.inl ⟨_, _, _, _, rfl, rfl⟩) rfl ⟨rfl, ⟨by decide, by decide⟩, rfl, (fr_cons (Or.inl (Nat.le_of_ble_eq_true rfl)) (fr_nil)), rfl⟩ fr_i rfl rfl rfl rfl ?_
  refine V.if_ne (tgt := 14) dX10_numberOfStop_9 (by decide) (fun h => ?_) (fun h => ?_)
  · have hf := fif_f h hf
    refine V.aload_n (i := 0) dX10_numberOfStop_14 rfl rfl ?_
    refine V.getfield (kf := 0) (v := .ref 1) fl_RX10 dX10_numberOfStop_15 w181 (Nat.le_of_ble_eq_true rfl) rfl rfl ?_
    refine V.iload_n (i := 1) dX10_numberOfStop_18 rfl rfl ?_
    refine V.if_ne (tgt := 26) dX10_numberOfStop_19 (by decide) (fun h => ?_) (fun h => ?_)
    · have hf := fif_f h hf
      refine V.bipush (v := 6) dX10_numberOfStop_26 rfl ?_
      obtain ⟨v2, hv2, hf⟩ := fbind hf
      refine V.callVn (pl := [1, 2]) (σ' := [.inl (5, [.ref 1, .ref 3, .ref 6, .ref 8, .ref 9]), .inl (3, [.ref 2]), .inr (910, .inl State_cells), .inl (1, [.ref 4, .ref 5, .int History_oldest, .int History_size, .int History_snapshotTaken]), .inr (5460, .inl History_saved), .inr (910, .inl History_snapshot), .inl (0, [.ref 7, .int Buffer_size]), .inr (60, .inl Buffer_codes), .inl (2, [.ref (Reader_pattern + 1000), .int Reader_place]), .inl (4, [.ref 10, .int Word_size]), .inr (8, .inl Word_letters)]) (st2 := [.int v2]) (cl2 := 0) (sl2 := 0) (ct_X7_at (a1 := 6) (State_cells := State_cells) hv2) dX10_numberOfStop_28 w482 ⟨w314, w315⟩ cal_X7_at rfl ⟨⟨Nat.le_of_ble_eq_true rfl, Nat.le_of_ble_eq_true rfl⟩, Nat.le_of_ble_eq_true rfl, Nat.le_of_ble_eq_true rfl⟩ (Nat.le_of_ble_eq_true rfl) (Or.inl ⟨_, _, _, _, rfl, rfl⟩) rfl ⟨rfl, ⟨by decide, by decide⟩, rfl, (fr_cons (Or.inl (Nat.le_of_ble_eq_true rfl)) (fr_nil)), rfl⟩ fr_i rfl rfl rfl rfl ?_
      obtain rfl := Option.some.inj hf
      exact V.iret dX10_numberOfStop_31 rfl (Nat.le_of_ble_eq_true rfl) (Nat.le_of_ble_eq_true rfl) rfl
    · have hf := fif_t h hf
      refine V.iconst (v := 5) dX10_numberOfStop_22 rfl ?_
      refine V.goto (tgt := 28) dX10_numberOfStop_23 (by decide) ?_
      obtain ⟨v3, hv3, hf⟩ := fbind hf
      refine V.callVn (pl := [1, 2]) (σ' := [.inl (5, [.ref 1, .ref 3, .ref 6, .ref 8, .ref 9]), .inl (3, [.ref 2]), .inr (910, .inl State_cells), .inl (1, [.ref 4, .ref 5, .int History_oldest, .int History_size, .int History_snapshotTaken]), .inr (5460, .inl History_saved), .inr (910, .inl History_snapshot), .inl (0, [.ref 7, .int Buffer_size]), .inr (60, .inl Buffer_codes), .inl (2, [.ref (Reader_pattern + 1000), .int Reader_place]), .inl (4, [.ref 10, .int Word_size]), .inr (8, .inl Word_letters)]) (st2 := [.int v3]) (cl2 := 0) (sl2 := 0) (ct_X7_at (a1 := 5) (State_cells := State_cells) hv3) dX10_numberOfStop_28 w482 ⟨w314, w315⟩ cal_X7_at rfl ⟨⟨Nat.le_of_ble_eq_true rfl, Nat.le_of_ble_eq_true rfl⟩, Nat.le_of_ble_eq_true rfl, Nat.le_of_ble_eq_true rfl⟩ (Nat.le_of_ble_eq_true rfl) (Or.inl ⟨_, _, _, _, rfl, rfl⟩) rfl ⟨rfl, ⟨by decide, by decide⟩, rfl, (fr_cons (Or.inl (Nat.le_of_ble_eq_true rfl)) (fr_nil)), rfl⟩ fr_i rfl rfl rfl rfl ?_
      obtain rfl := Option.some.inj hf
      exact V.iret dX10_numberOfStop_31 rfl (Nat.le_of_ble_eq_true rfl) (Nat.le_of_ble_eq_true rfl) rfl
  · have hf := fif_t h hf
    refine V.iconst (v := (-1)) dX10_numberOfStop_12 rfl ?_
    obtain rfl := Option.some.inj hf
    exact V.iret dX10_numberOfStop_13 rfl (Nat.le_of_ble_eq_true rfl) (Nat.le_of_ble_eq_true rfl) rfl
def k_X10_stopped : fK := (yX10_stopped, cX10_stopped, 2, (some .int), [], (6, 82), (0, 0), (1, 6))
theorem cal_X10_stopped : fCal k_X10_stopped 1 := ⟨⟨wc896, w67⟩, ⟨by decide +kernel, by decide +kernel⟩, by decide +kernel, by decide +kernel⟩
def s_X10_stopped (a1 : Int32) (State_cells : Nat → Int32) : Option ((Int32 ⊕ String)) := if (a1 = 0 : Prop) then ((s_X10_numberOfStop a1 State_cells).bind fun v1 => some (.inl v1)) else (if (a1 = 1 : Prop) then ((s_X10_numberOfStop a1 State_cells).bind fun v2 => some (.inl v2)) else (some (.inr "java/lang/IllegalArgumentException")))
set_option maxHeartbeats 4000000 in
set_option maxRecDepth 100000 in
theorem ct_X10_stopped {a1 : Int32} {State_cells : Nat → Int32} {History_oldest : Int32} {History_size : Int32} {History_snapshotTaken : Int32} {History_saved : Nat → Int32} {History_snapshot : Nat → Int32} {Buffer_size : Int32} {Buffer_codes : Nat → Int32} {Reader_pattern : Nat} {Reader_place : Int32} {Word_size : Int32} {Word_letters : Nat → Int32} {res : (Int32 ⊕ String)} (hf : s_X10_stopped a1 State_cells = some res) : Ct k_X10_stopped [.ref 0, .int a1] [.inl (5, [.ref 1, .ref 3, .ref 6, .ref 8, .ref 9]), .inl (3, [.ref 2]), .inr (910, .inl State_cells), .inl (1, [.ref 4, .ref 5, .int History_oldest, .int History_size, .int History_snapshotTaken]), .inr (5460, .inl History_saved), .inr (910, .inl History_snapshot), .inl (0, [.ref 7, .int Buffer_size]), .inr (60, .inl Buffer_codes), .inl (2, [.ref (Reader_pattern + 1000), .int Reader_place]), .inl (4, [.ref 10, .int Word_size]), .inr (8, .inl Word_letters)] (foI res) [.inl (5, [.ref 1, .ref 3, .ref 6, .ref 8, .ref 9]), .inl (3, [.ref 2]), .inr (910, .inl State_cells), .inl (1, [.ref 4, .ref 5, .int History_oldest, .int History_size, .int History_snapshotTaken]), .inr (5460, .inl History_saved), .inr (910, .inl History_snapshot), .inl (0, [.ref 7, .int Buffer_size]), .inr (60, .inl Buffer_codes), .inl (2, [.ref (Reader_pattern + 1000), .int Reader_place]), .inl (4, [.ref 10, .int Word_size]), .inr (8, .inl Word_letters)] := by
  unfold s_X10_stopped at hf
  refine Ct.of (L := [some (.ref 0), some (.int a1)]) cal_X10_stopped (fent_pad (j := 0) rfl) (Nat.le_of_ble_eq_true rfl) ?_
  refine V.iload_n (i := 1) dX10_stopped_0 rfl rfl ?_
  refine V.if_eq (tgt := 19) dX10_stopped_1 (by decide) (fun h => ?_) (fun h => ?_)
  · have hf := fif_t h hf
    refine V.aload_n (i := 0) dX10_stopped_19 rfl rfl ?_
    refine V.iload_n (i := 1) dX10_stopped_20 rfl rfl ?_
    obtain ⟨v1, hv1, hf⟩ := fbind hf
    refine V.callVn (pl := [0, 1, 2, 3, 4, 5, 6, 7, 8, 9, 10]) (σ' := [.inl (5, [.ref 1, .ref 3, .ref 6, .ref 8, .ref 9]), .inl (3, [.ref 2]), .inr (910, .inl State_cells), .inl (1, [.ref 4, .ref 5, .int History_oldest, .int History_size, .int History_snapshotTaken]), .inr (5460, .inl History_saved), .inr (910, .inl History_snapshot), .inl (0, [.ref 7, .int Buffer_size]), .inr (60, .inl Buffer_codes), .inl (2, [.ref (Reader_pattern + 1000), .int Reader_place]), .inl (4, [.ref 10, .int Word_size]), .inr (8, .inl Word_letters)]) (st2 := [.int v1]) (cl2 := 0) (sl2 := 0) (ct_X10_numberOfStop (a1 := a1) (State_cells := State_cells) (History_oldest := History_oldest) (History_size := History_size) (History_snapshotTaken := History_snapshotTaken) (History_saved := History_saved) (History_snapshot := History_snapshot) (Buffer_size := Buffer_size) (Buffer_codes := Buffer_codes) (Reader_pattern := Reader_pattern) (Reader_place := Reader_place) (Word_size := Word_size) (Word_letters := Word_letters) hv1) dX10_stopped_21 w478 ⟨w480, w1⟩ cal_X10_numberOfStop rfl ⟨⟨Nat.le_of_ble_eq_true rfl, Nat.le_of_ble_eq_true rfl⟩, Nat.le_of_ble_eq_true rfl, Nat.le_of_ble_eq_true rfl⟩ (Nat.le_of_ble_eq_true rfl) (Or.inl ⟨_, _, _, _, rfl, rfl⟩) rfl ⟨rfl, ⟨by decide, by decide⟩, rfl, (fr_cons (Or.inl (Nat.le_of_ble_eq_true rfl)) (fr_cons (Or.inl (Nat.le_of_ble_eq_true rfl)) (fr_cons (Or.inl (Nat.le_of_ble_eq_true rfl)) (fr_cons (Or.inl (Nat.le_of_ble_eq_true rfl)) (fr_cons (Or.inl (Nat.le_of_ble_eq_true rfl)) (fr_cons (Or.inl (Nat.le_of_ble_eq_true rfl)) (fr_cons (Or.inl (Nat.le_of_ble_eq_true rfl)) (fr_cons (Or.inl (Nat.le_of_ble_eq_true rfl)) (fr_cons (Or.inl (Nat.le_of_ble_eq_true rfl)) (fr_cons (Or.inr (Nat.le_add_left 1000 _)) (fr_cons (Or.inl (Nat.le_of_ble_eq_true rfl)) (fr_nil)))))))))))), rfl⟩ fr_i rfl rfl rfl rfl ?_
    obtain rfl := Option.some.inj hf
    exact V.iret dX10_stopped_24 rfl (Nat.le_of_ble_eq_true rfl) (Nat.le_of_ble_eq_true rfl) rfl
  · have hf := fif_f h hf
    refine V.iload_n (i := 1) dX10_stopped_4 rfl rfl ?_
    refine V.iconst (v := 1) dX10_stopped_5 rfl ?_
    refine V.icmp_eq (tgt := 19) dX10_stopped_6 (by decide) (fun h => ?_) (fun h => ?_)
    · have hf := fif_t h hf
      refine V.aload_n (i := 0) dX10_stopped_19 rfl rfl ?_
      refine V.iload_n (i := 1) dX10_stopped_20 rfl rfl ?_
      obtain ⟨v2, hv2, hf⟩ := fbind hf
      refine V.callVn (pl := [0, 1, 2, 3, 4, 5, 6, 7, 8, 9, 10]) (σ' := [.inl (5, [.ref 1, .ref 3, .ref 6, .ref 8, .ref 9]), .inl (3, [.ref 2]), .inr (910, .inl State_cells), .inl (1, [.ref 4, .ref 5, .int History_oldest, .int History_size, .int History_snapshotTaken]), .inr (5460, .inl History_saved), .inr (910, .inl History_snapshot), .inl (0, [.ref 7, .int Buffer_size]), .inr (60, .inl Buffer_codes), .inl (2, [.ref (Reader_pattern + 1000), .int Reader_place]), .inl (4, [.ref 10, .int Word_size]), .inr (8, .inl Word_letters)]) (st2 := [.int v2]) (cl2 := 0) (sl2 := 0) (ct_X10_numberOfStop (a1 := a1) (State_cells := State_cells) (History_oldest := History_oldest) (History_size := History_size) (History_snapshotTaken := History_snapshotTaken) (History_saved := History_saved) (History_snapshot := History_snapshot) (Buffer_size := Buffer_size) (Buffer_codes := Buffer_codes) (Reader_pattern := Reader_pattern) (Reader_place := Reader_place) (Word_size := Word_size) (Word_letters := Word_letters) hv2) dX10_stopped_21 w478 ⟨w480, w1⟩ cal_X10_numberOfStop rfl ⟨⟨Nat.le_of_ble_eq_true rfl, Nat.le_of_ble_eq_true rfl⟩, Nat.le_of_ble_eq_true rfl, Nat.le_of_ble_eq_true rfl⟩ (Nat.le_of_ble_eq_true rfl) (Or.inl ⟨_, _, _, _, rfl, rfl⟩) rfl ⟨rfl, ⟨by decide, by decide⟩, rfl, (fr_cons (Or.inl (Nat.le_of_ble_eq_true rfl)) (fr_cons (Or.inl (Nat.le_of_ble_eq_true rfl)) (fr_cons (Or.inl (Nat.le_of_ble_eq_true rfl)) (fr_cons (Or.inl (Nat.le_of_ble_eq_true rfl)) (fr_cons (Or.inl (Nat.le_of_ble_eq_true rfl)) (fr_cons (Or.inl (Nat.le_of_ble_eq_true rfl)) (fr_cons (Or.inl (Nat.le_of_ble_eq_true rfl)) (fr_cons (Or.inl (Nat.le_of_ble_eq_true rfl)) (fr_cons (Or.inl (Nat.le_of_ble_eq_true rfl)) (fr_cons (Or.inr (Nat.le_add_left 1000 _)) (fr_cons (Or.inl (Nat.le_of_ble_eq_true rfl)) (fr_nil)))))))))))), rfl⟩ fr_i rfl rfl rfl rfl ?_
      obtain rfl := Option.some.inj hf
      exact V.iret dX10_stopped_24 rfl (Nat.le_of_ble_eq_true rfl) (Nat.le_of_ble_eq_true rfl) rfl
    · have hf := fif_f h hf
      obtain rfl := Option.some.inj hf
      exact V.throwS (i := 19) th_RX10_IllegalArgumentException_110 (List.mem_of_getElem? (i := 19) rfl) dX10_stopped_9 dX10_stopped_12 dX10_stopped_13 dX10_stopped_15 dX10_stopped_18 rfl (Nat.le_of_ble_eq_true rfl) (Nat.le_of_ble_eq_true rfl) ⟨Nat.le_of_ble_eq_true rfl, Nat.le_of_ble_eq_true rfl⟩ (Nat.le_of_ble_eq_true rfl) (Nat.le_of_ble_eq_true rfl) rfl
def k_X10_told : fK := (yX10_told, cX10_told, 3, (some .int), [], (7, 102), (0, 0), (1, 6))
theorem cal_X10_told : fCal k_X10_told 2 := ⟨⟨wc904, w67⟩, ⟨by decide +kernel, by decide +kernel⟩, by decide +kernel, by decide +kernel⟩
def s_X10_told (a1 : Int32) (a2 : Int32) (State_cells : Nat → Int32) : Option ((Int32 ⊕ String)) := (s_X10_needFisher a1).bind fun v1 => fth v1 (fun v2 => if (0 ≤ a2 : Prop) then ((s_X8_codeOfBelt a1 a2 State_cells).bind fun v3 => some (.inl v3)) else (some (.inr "java/lang/IllegalArgumentException"))) (fun E9 => some (.inr E9))
set_option maxHeartbeats 4000000 in
set_option maxRecDepth 100000 in
theorem ct_X10_told {a1 : Int32} {a2 : Int32} {State_cells : Nat → Int32} {History_oldest : Int32} {History_size : Int32} {History_snapshotTaken : Int32} {History_saved : Nat → Int32} {History_snapshot : Nat → Int32} {Buffer_size : Int32} {Buffer_codes : Nat → Int32} {Reader_pattern : Nat} {Reader_place : Int32} {Word_size : Int32} {Word_letters : Nat → Int32} {res : (Int32 ⊕ String)} (hf : s_X10_told a1 a2 State_cells = some res) : Ct k_X10_told [.ref 0, .int a1, .int a2] [.inl (5, [.ref 1, .ref 3, .ref 6, .ref 8, .ref 9]), .inl (3, [.ref 2]), .inr (910, .inl State_cells), .inl (1, [.ref 4, .ref 5, .int History_oldest, .int History_size, .int History_snapshotTaken]), .inr (5460, .inl History_saved), .inr (910, .inl History_snapshot), .inl (0, [.ref 7, .int Buffer_size]), .inr (60, .inl Buffer_codes), .inl (2, [.ref (Reader_pattern + 1000), .int Reader_place]), .inl (4, [.ref 10, .int Word_size]), .inr (8, .inl Word_letters)] (foI res) [.inl (5, [.ref 1, .ref 3, .ref 6, .ref 8, .ref 9]), .inl (3, [.ref 2]), .inr (910, .inl State_cells), .inl (1, [.ref 4, .ref 5, .int History_oldest, .int History_size, .int History_snapshotTaken]), .inr (5460, .inl History_saved), .inr (910, .inl History_snapshot), .inl (0, [.ref 7, .int Buffer_size]), .inr (60, .inl Buffer_codes), .inl (2, [.ref (Reader_pattern + 1000), .int Reader_place]), .inl (4, [.ref 10, .int Word_size]), .inr (8, .inl Word_letters)] := by
  unfold s_X10_told at hf
  refine Ct.of (L := [some (.ref 0), some (.int a1), some (.int a2)]) cal_X10_told (fent_pad (j := 0) rfl) (Nat.le_of_ble_eq_true rfl) ?_
  refine V.iload_n (i := 1) dX10_told_0 rfl rfl ?_
  obtain ⟨v1, hv1, hf⟩ := fbind hf
  have hc := ct_X10_needFisher (a0 := a1) hv1
  rcases hv1b : v1 with v2 | E9
  · rw [hv1b] at hc hf
    dsimp only [fth] at hf
    refine V.callSn (pl := []) (σ' := [.inl (5, [.ref 1, .ref 3, .ref 6, .ref 8, .ref 9]), .inl (3, [.ref 2]), .inr (910, .inl State_cells), .inl (1, [.ref 4, .ref 5, .int History_oldest, .int History_size, .int History_snapshotTaken]), .inr (5460, .inl History_saved), .inr (910, .inl History_snapshot), .inl (0, [.ref 7, .int Buffer_size]), .inr (60, .inl Buffer_codes), .inl (2, [.ref (Reader_pattern + 1000), .int Reader_place]), .inl (4, [.ref 10, .int Word_size]), .inr (8, .inl Word_letters)]) (st2 := []) (cl2 := 0) (sl2 := 0) hc dX10_told_1 w504 w505 cal_X10_needFisher ⟨⟨Nat.le_of_ble_eq_true rfl, Nat.le_of_ble_eq_true rfl⟩, Nat.le_of_ble_eq_true rfl, Nat.le_of_ble_eq_true rfl⟩ (Nat.le_of_ble_eq_true rfl) rfl ⟨rfl, ⟨by decide, by decide⟩, rfl, (fr_nil), rfl⟩ fr_v rfl rfl rfl rfl ?_
    refine V.iload_n (i := 2) dX10_told_4 rfl rfl ?_
    refine V.if_ge (tgt := 18) dX10_told_5 (by decide) (fun h => ?_) (fun h => ?_)
    · have hf := fif_t h hf
      refine V.aload_n (i := 0) dX10_told_18 rfl rfl ?_
      refine V.getfield (kf := 0) (v := .ref 1) fl_RX10 dX10_told_19 w181 (Nat.le_of_ble_eq_true rfl) rfl rfl ?_
      refine V.iload_n (i := 1) dX10_told_22 rfl rfl ?_
      refine V.iload_n (i := 2) dX10_told_23 rfl rfl ?_
      obtain ⟨v3, hv3, hf⟩ := fbind hf
      refine V.callSn (pl := [1, 2]) (σ' := [.inl (5, [.ref 1, .ref 3, .ref 6, .ref 8, .ref 9]), .inl (3, [.ref 2]), .inr (910, .inl State_cells), .inl (1, [.ref 4, .ref 5, .int History_oldest, .int History_size, .int History_snapshotTaken]), .inr (5460, .inl History_saved), .inr (910, .inl History_snapshot), .inl (0, [.ref 7, .int Buffer_size]), .inr (60, .inl Buffer_codes), .inl (2, [.ref (Reader_pattern + 1000), .int Reader_place]), .inl (4, [.ref 10, .int Word_size]), .inr (8, .inl Word_letters)]) (st2 := [.int v3]) (cl2 := 0) (sl2 := 0) (ct_X8_codeOfBelt (a1 := a1) (a2 := a2) (State_cells := State_cells) hv3) dX10_told_24 w906 w444 cal_X8_codeOfBelt ⟨⟨Nat.le_of_ble_eq_true rfl, Nat.le_of_ble_eq_true rfl⟩, Nat.le_of_ble_eq_true rfl, Nat.le_of_ble_eq_true rfl⟩ (Nat.le_of_ble_eq_true rfl) rfl ⟨rfl, ⟨by decide, by decide⟩, rfl, (fr_cons (Or.inl (Nat.le_of_ble_eq_true rfl)) (fr_nil)), rfl⟩ fr_i rfl rfl rfl rfl ?_
      obtain rfl := Option.some.inj hf
      exact V.iret dX10_told_27 rfl (Nat.le_of_ble_eq_true rfl) (Nat.le_of_ble_eq_true rfl) rfl
    · have hf := fif_f h hf
      obtain rfl := Option.some.inj hf
      exact V.throwS (i := 20) th_RX10_IllegalArgumentException_110 (List.mem_of_getElem? (i := 20) rfl) dX10_told_8 dX10_told_11 dX10_told_12 dX10_told_14 dX10_told_17 rfl (Nat.le_of_ble_eq_true rfl) (Nat.le_of_ble_eq_true rfl) ⟨Nat.le_of_ble_eq_true rfl, Nat.le_of_ble_eq_true rfl⟩ (Nat.le_of_ble_eq_true rfl) (Nat.le_of_ble_eq_true rfl) rfl
  · rw [hv1b] at hc hf
    dsimp only [fth] at hf
    obtain rfl := Option.some.inj hf
    refine V.callSx (pl := []) (σ' := [.inl (5, [.ref 1, .ref 3, .ref 6, .ref 8, .ref 9]), .inl (3, [.ref 2]), .inr (910, .inl State_cells), .inl (1, [.ref 4, .ref 5, .int History_oldest, .int History_size, .int History_snapshotTaken]), .inr (5460, .inl History_saved), .inr (910, .inl History_snapshot), .inl (0, [.ref 7, .int Buffer_size]), .inr (60, .inl Buffer_codes), .inl (2, [.ref (Reader_pattern + 1000), .int Reader_place]), .inl (4, [.ref 10, .int Word_size]), .inr (8, .inl Word_letters)]) hc dX10_told_1 w504 w505 cal_X10_needFisher ⟨⟨Nat.le_of_ble_eq_true rfl, Nat.le_of_ble_eq_true rfl⟩, Nat.le_of_ble_eq_true rfl, Nat.le_of_ble_eq_true rfl⟩ (Nat.le_of_ble_eq_true rfl) rfl ⟨rfl, ⟨by decide, by decide⟩, rfl, (fr_nil), rfl⟩ ?_
    exact VX.out rfl (Nat.le_of_ble_eq_true rfl) (Nat.le_of_ble_eq_true rfl) rfl
def k_X10_undo : fK := (yX10_undo, cX10_undo, 1, (some .int), [], (6, 83), (0, 0), (1, 6))
theorem cal_X10_undo : fCal k_X10_undo 0 := ⟨⟨wc913, w67⟩, ⟨by decide +kernel, by decide +kernel⟩, by decide +kernel, by decide +kernel⟩
def s_X10_undo (State_cells : Nat → Int32) (History_oldest : Int32) (History_size : Int32) (History_saved : Nat → Int32) : Option ((Int32 ⊕ String) × (Nat → Int32) × (Int32)) := (s_X3_size History_size).bind fun v1 => if (v1 = 0 : Prop) then (some (.inr "java/lang/IllegalStateException", State_cells, History_size)) else ((s_X3_pop History_oldest History_size History_saved State_cells).bind fun v2 => (s_X3_size v2.1).bind fun v3 => some (.inl v3, v2.2, v2.1))
set_option maxHeartbeats 4000000 in
set_option maxRecDepth 100000 in
theorem ct_X10_undo {State_cells : Nat → Int32} {History_oldest : Int32} {History_size : Int32} {History_snapshotTaken : Int32} {History_saved : Nat → Int32} {History_snapshot : Nat → Int32} {Buffer_size : Int32} {Buffer_codes : Nat → Int32} {Reader_pattern : Nat} {Reader_place : Int32} {Word_size : Int32} {Word_letters : Nat → Int32} {res : (Int32 ⊕ String) × (Nat → Int32) × (Int32)} (hf : s_X10_undo State_cells History_oldest History_size History_saved = some res) : Ct k_X10_undo [.ref 0] [.inl (5, [.ref 1, .ref 3, .ref 6, .ref 8, .ref 9]), .inl (3, [.ref 2]), .inr (910, .inl State_cells), .inl (1, [.ref 4, .ref 5, .int History_oldest, .int History_size, .int History_snapshotTaken]), .inr (5460, .inl History_saved), .inr (910, .inl History_snapshot), .inl (0, [.ref 7, .int Buffer_size]), .inr (60, .inl Buffer_codes), .inl (2, [.ref (Reader_pattern + 1000), .int Reader_place]), .inl (4, [.ref 10, .int Word_size]), .inr (8, .inl Word_letters)] (foI res.1) [.inl (5, [.ref 1, .ref 3, .ref 6, .ref 8, .ref 9]), .inl (3, [.ref 2]), .inr (910, .inl res.2.1), .inl (1, [.ref 4, .ref 5, .int History_oldest, .int res.2.2, .int History_snapshotTaken]), .inr (5460, .inl History_saved), .inr (910, .inl History_snapshot), .inl (0, [.ref 7, .int Buffer_size]), .inr (60, .inl Buffer_codes), .inl (2, [.ref (Reader_pattern + 1000), .int Reader_place]), .inl (4, [.ref 10, .int Word_size]), .inr (8, .inl Word_letters)] := by
  unfold s_X10_undo at hf
  refine Ct.of (L := [some (.ref 0)]) cal_X10_undo (fent_pad (j := 0) rfl) (Nat.le_of_ble_eq_true rfl) ?_
  refine V.aload_n (i := 0) dX10_undo_0 rfl rfl ?_
  refine V.getfield (kf := 1) (v := .ref 3) fl_RX10 dX10_undo_1 w182 (Nat.le_of_ble_eq_true rfl) rfl rfl ?_
  obtain ⟨v1, hv1, hf⟩ := fbind hf
  refine V.callVn (pl := [3, 4, 5]) (σ' := [.inl (5, [.ref 1, .ref 3, .ref 6, .ref 8, .ref 9]), .inl (3, [.ref 2]), .inr (910, .inl State_cells), .inl (1, [.ref 4, .ref 5, .int History_oldest, .int History_size, .int History_snapshotTaken]), .inr (5460, .inl History_saved), .inr (910, .inl History_snapshot), .inl (0, [.ref 7, .int Buffer_size]), .inr (60, .inl Buffer_codes), .inl (2, [.ref (Reader_pattern + 1000), .int Reader_place]), .inl (4, [.ref 10, .int Word_size]), .inr (8, .inl Word_letters)]) (st2 := [.int v1]) (cl2 := 0) (sl2 := 0) (ct_X3_size (History_oldest := History_oldest) (History_size := History_size) (History_snapshotTaken := History_snapshotTaken) (History_saved := History_saved) (History_snapshot := History_snapshot) hv1) dX10_undo_4 w390 ⟨w391, w392⟩ cal_X3_size rfl ⟨⟨Nat.le_of_ble_eq_true rfl, Nat.le_of_ble_eq_true rfl⟩, Nat.le_of_ble_eq_true rfl, Nat.le_of_ble_eq_true rfl⟩ (Nat.le_of_ble_eq_true rfl) (Or.inl ⟨_, _, _, _, rfl, rfl⟩) rfl ⟨rfl, ⟨by decide, by decide⟩, rfl, (fr_cons (Or.inl (Nat.le_of_ble_eq_true rfl)) (fr_cons (Or.inl (Nat.le_of_ble_eq_true rfl)) (fr_nil))), rfl⟩ fr_i rfl rfl rfl rfl ?_
  refine V.if_ne (tgt := 20) dX10_undo_7 (by decide) (fun h => ?_) (fun h => ?_)
  · have hf := fif_f h hf
    refine V.aload_n (i := 0) dX10_undo_20 rfl rfl ?_
    refine V.getfield (kf := 1) (v := .ref 3) fl_RX10 dX10_undo_21 w182 (Nat.le_of_ble_eq_true rfl) rfl rfl ?_
    refine V.aload_n (i := 0) dX10_undo_24 rfl rfl ?_
    refine V.getfield (kf := 0) (v := .ref 1) fl_RX10 dX10_undo_25 w181 (Nat.le_of_ble_eq_true rfl) rfl rfl ?_
    obtain ⟨v2, hv2, hf⟩ := fbind hf
    refine V.callVn (pl := [3, 4, 5, 1, 2]) (σ' := [.inl (5, [.ref 1, .ref 3, .ref 6, .ref 8, .ref 9]), .inl (3, [.ref 2]), .inr (910, .inl v2.2), .inl (1, [.ref 4, .ref 5, .int History_oldest, .int v2.1, .int History_snapshotTaken]), .inr (5460, .inl History_saved), .inr (910, .inl History_snapshot), .inl (0, [.ref 7, .int Buffer_size]), .inr (60, .inl Buffer_codes), .inl (2, [.ref (Reader_pattern + 1000), .int Reader_place]), .inl (4, [.ref 10, .int Word_size]), .inr (8, .inl Word_letters)]) (st2 := []) (cl2 := 0) (sl2 := 0) (ct_X3_pop (History_oldest := History_oldest) (History_size := History_size) (History_snapshotTaken := History_snapshotTaken) (History_saved := History_saved) (History_snapshot := History_snapshot) (State_cells := State_cells) hv2) dX10_undo_28 w915 ⟨w916, w917⟩ cal_X3_pop rfl ⟨⟨Nat.le_of_ble_eq_true rfl, Nat.le_of_ble_eq_true rfl⟩, Nat.le_of_ble_eq_true rfl, Nat.le_of_ble_eq_true rfl⟩ (Nat.le_of_ble_eq_true rfl) (Or.inl ⟨_, _, _, _, rfl, rfl⟩) rfl ⟨rfl, ⟨by decide, by decide⟩, rfl, (fr_cons (Or.inl (Nat.le_of_ble_eq_true rfl)) (fr_cons (Or.inl (Nat.le_of_ble_eq_true rfl)) (fr_cons (Or.inl (Nat.le_of_ble_eq_true rfl)) (fr_nil)))), rfl⟩ fr_v rfl rfl rfl rfl ?_
    refine V.aload_n (i := 0) dX10_undo_31 rfl rfl ?_
    refine V.getfield (kf := 1) (v := .ref 3) fl_RX10 dX10_undo_32 w182 (Nat.le_of_ble_eq_true rfl) rfl rfl ?_
    obtain ⟨v3, hv3, hf⟩ := fbind hf
    refine V.callVn (pl := [3, 4, 5]) (σ' := [.inl (5, [.ref 1, .ref 3, .ref 6, .ref 8, .ref 9]), .inl (3, [.ref 2]), .inr (910, .inl v2.2), .inl (1, [.ref 4, .ref 5, .int History_oldest, .int v2.1, .int History_snapshotTaken]), .inr (5460, .inl History_saved), .inr (910, .inl History_snapshot), .inl (0, [.ref 7, .int Buffer_size]), .inr (60, .inl Buffer_codes), .inl (2, [.ref (Reader_pattern + 1000), .int Reader_place]), .inl (4, [.ref 10, .int Word_size]), .inr (8, .inl Word_letters)]) (st2 := [.int v3]) (cl2 := 0) (sl2 := 0) (ct_X3_size (History_oldest := History_oldest) (History_size := v2.1) (History_snapshotTaken := History_snapshotTaken) (History_saved := History_saved) (History_snapshot := History_snapshot) hv3) dX10_undo_35 w390 ⟨w391, w392⟩ cal_X3_size rfl ⟨⟨Nat.le_of_ble_eq_true rfl, Nat.le_of_ble_eq_true rfl⟩, Nat.le_of_ble_eq_true rfl, Nat.le_of_ble_eq_true rfl⟩ (Nat.le_of_ble_eq_true rfl) (Or.inl ⟨_, _, _, _, rfl, rfl⟩) rfl ⟨rfl, ⟨by decide, by decide⟩, rfl, (fr_cons (Or.inl (Nat.le_of_ble_eq_true rfl)) (fr_cons (Or.inl (Nat.le_of_ble_eq_true rfl)) (fr_nil))), rfl⟩ fr_i rfl rfl rfl rfl ?_
    obtain rfl := Option.some.inj hf
    exact V.iret dX10_undo_38 rfl (Nat.le_of_ble_eq_true rfl) (Nat.le_of_ble_eq_true rfl) rfl
  · have hf := fif_t h hf
    obtain rfl := Option.some.inj hf
    exact V.throwS (i := 21) th_RX10_IllegalStateException_61 (List.mem_of_getElem? (i := 21) rfl) dX10_undo_10 dX10_undo_13 dX10_undo_14 dX10_undo_16 dX10_undo_19 rfl (Nat.le_of_ble_eq_true rfl) (Nat.le_of_ble_eq_true rfl) ⟨Nat.le_of_ble_eq_true rfl, Nat.le_of_ble_eq_true rfl⟩ (Nat.le_of_ble_eq_true rfl) (Nat.le_of_ble_eq_true rfl) rfl
def k_X10_keep : fK := (yX10_keep, cX10_keep, 1, (some .int), [], (3, 83), (0, 0), (0, 0))
theorem cal_X10_keep : fCal k_X10_keep 0 := ⟨⟨wc294, w67⟩, ⟨by decide +kernel, by decide +kernel⟩, by decide +kernel, by decide +kernel⟩
def s_X10_keep (State_cells : Nat → Int32) (History_snapshotTaken : Int32) (History_snapshot : Nat → Int32) : Option (Int32 × (Int32) × (Nat → Int32)) := (s_X3_takeSnapshot History_snapshotTaken History_snapshot State_cells).bind fun v1 => (s_X8_names State_cells).bind fun v2 => some (v2, v1.1, v1.2)
set_option maxHeartbeats 4000000 in
set_option maxRecDepth 100000 in
theorem ct_X10_keep {State_cells : Nat → Int32} {History_oldest : Int32} {History_size : Int32} {History_snapshotTaken : Int32} {History_saved : Nat → Int32} {History_snapshot : Nat → Int32} {Buffer_size : Int32} {Buffer_codes : Nat → Int32} {Reader_pattern : Nat} {Reader_place : Int32} {Word_size : Int32} {Word_letters : Nat → Int32} {res : Int32 × (Int32) × (Nat → Int32)} (hf : s_X10_keep State_cells History_snapshotTaken History_snapshot = some res) : Ct k_X10_keep [.ref 0] [.inl (5, [.ref 1, .ref 3, .ref 6, .ref 8, .ref 9]), .inl (3, [.ref 2]), .inr (910, .inl State_cells), .inl (1, [.ref 4, .ref 5, .int History_oldest, .int History_size, .int History_snapshotTaken]), .inr (5460, .inl History_saved), .inr (910, .inl History_snapshot), .inl (0, [.ref 7, .int Buffer_size]), .inr (60, .inl Buffer_codes), .inl (2, [.ref (Reader_pattern + 1000), .int Reader_place]), .inl (4, [.ref 10, .int Word_size]), .inr (8, .inl Word_letters)] (.inl (some (.int res.1))) [.inl (5, [.ref 1, .ref 3, .ref 6, .ref 8, .ref 9]), .inl (3, [.ref 2]), .inr (910, .inl State_cells), .inl (1, [.ref 4, .ref 5, .int History_oldest, .int History_size, .int res.2.1]), .inr (5460, .inl History_saved), .inr (910, .inl res.2.2), .inl (0, [.ref 7, .int Buffer_size]), .inr (60, .inl Buffer_codes), .inl (2, [.ref (Reader_pattern + 1000), .int Reader_place]), .inl (4, [.ref 10, .int Word_size]), .inr (8, .inl Word_letters)] := by
  unfold s_X10_keep at hf
  refine Ct.of (L := [some (.ref 0)]) cal_X10_keep (fent_pad (j := 0) rfl) (Nat.le_of_ble_eq_true rfl) ?_
  refine V.aload_n (i := 0) dX10_keep_0 rfl rfl ?_
  refine V.getfield (kf := 1) (v := .ref 3) fl_RX10 dX10_keep_1 w182 (Nat.le_of_ble_eq_true rfl) rfl rfl ?_
  refine V.aload_n (i := 0) dX10_keep_4 rfl rfl ?_
  refine V.getfield (kf := 0) (v := .ref 1) fl_RX10 dX10_keep_5 w181 (Nat.le_of_ble_eq_true rfl) rfl rfl ?_
  obtain ⟨v1, hv1, hf⟩ := fbind hf
  refine V.callVn (pl := [3, 4, 5, 1, 2]) (σ' := [.inl (5, [.ref 1, .ref 3, .ref 6, .ref 8, .ref 9]), .inl (3, [.ref 2]), .inr (910, .inl State_cells), .inl (1, [.ref 4, .ref 5, .int History_oldest, .int History_size, .int v1.1]), .inr (5460, .inl History_saved), .inr (910, .inl v1.2), .inl (0, [.ref 7, .int Buffer_size]), .inr (60, .inl Buffer_codes), .inl (2, [.ref (Reader_pattern + 1000), .int Reader_place]), .inl (4, [.ref 10, .int Word_size]), .inr (8, .inl Word_letters)]) (st2 := []) (cl2 := 0) (sl2 := 0) (ct_X3_takeSnapshot (History_oldest := History_oldest) (History_size := History_size) (History_snapshotTaken := History_snapshotTaken) (History_saved := History_saved) (History_snapshot := History_snapshot) (State_cells := State_cells) hv1) dX10_keep_8 w295 ⟨w296, w297⟩ cal_X3_takeSnapshot rfl ⟨⟨Nat.le_of_ble_eq_true rfl, Nat.le_of_ble_eq_true rfl⟩, Nat.le_of_ble_eq_true rfl, Nat.le_of_ble_eq_true rfl⟩ (Nat.le_of_ble_eq_true rfl) (Or.inl ⟨_, _, _, _, rfl, rfl⟩) rfl ⟨rfl, ⟨by decide, by decide⟩, rfl, (fr_cons (Or.inl (Nat.le_of_ble_eq_true rfl)) (fr_cons (Or.inl (Nat.le_of_ble_eq_true rfl)) (fr_cons (Or.inl (Nat.le_of_ble_eq_true rfl)) (fr_nil)))), rfl⟩ fr_v rfl rfl rfl rfl ?_
  refine V.aload_n (i := 0) dX10_keep_11 rfl rfl ?_
  refine V.getfield (kf := 0) (v := .ref 1) fl_RX10 dX10_keep_12 w181 (Nat.le_of_ble_eq_true rfl) rfl rfl ?_
  obtain ⟨v2, hv2, hf⟩ := fbind hf
  refine V.callSn (pl := [1, 2]) (σ' := [.inl (5, [.ref 1, .ref 3, .ref 6, .ref 8, .ref 9]), .inl (3, [.ref 2]), .inr (910, .inl State_cells), .inl (1, [.ref 4, .ref 5, .int History_oldest, .int History_size, .int v1.1]), .inr (5460, .inl History_saved), .inr (910, .inl v1.2), .inl (0, [.ref 7, .int Buffer_size]), .inr (60, .inl Buffer_codes), .inl (2, [.ref (Reader_pattern + 1000), .int Reader_place]), .inl (4, [.ref 10, .int Word_size]), .inr (8, .inl Word_letters)]) (st2 := [.int v2]) (cl2 := 0) (sl2 := 0) (ct_X8_names (State_cells := State_cells) hv2) dX10_keep_15 w306 w307 cal_X8_names ⟨⟨Nat.le_of_ble_eq_true rfl, Nat.le_of_ble_eq_true rfl⟩, Nat.le_of_ble_eq_true rfl, Nat.le_of_ble_eq_true rfl⟩ (Nat.le_of_ble_eq_true rfl) rfl ⟨rfl, ⟨by decide, by decide⟩, rfl, (fr_cons (Or.inl (Nat.le_of_ble_eq_true rfl)) (fr_nil)), rfl⟩ fr_i rfl rfl rfl rfl ?_
  obtain rfl := Option.some.inj hf
  exact V.iret dX10_keep_18 rfl (Nat.le_of_ble_eq_true rfl) (Nat.le_of_ble_eq_true rfl) rfl
def k_X10_restore : fK := (yX10_restore, cX10_restore, 1, (some .int), [], (6, 83), (0, 0), (1, 6))
theorem cal_X10_restore : fCal k_X10_restore 0 := ⟨⟨wc929, w67⟩, ⟨by decide +kernel, by decide +kernel⟩, by decide +kernel, by decide +kernel⟩
def s_X10_restore (State_cells : Nat → Int32) (History_oldest : Int32) (History_size : Int32) (History_snapshotTaken : Int32) (History_saved : Nat → Int32) (History_snapshot : Nat → Int32) : Option ((Int32 ⊕ String) × (Nat → Int32) × (Int32) × (Int32) × (Nat → Int32)) := (s_X3_hasSnapshot History_snapshotTaken).bind fun v1 => if (v1 = 0 : Prop) then (some (.inr "java/lang/IllegalStateException", State_cells, History_oldest, History_size, History_saved)) else ((s_X3_push History_oldest History_size History_saved State_cells).bind fun v2 => (s_X3_loadSnapshot History_snapshot State_cells).bind fun v3 => (s_X8_names v3).bind fun v4 => some (.inl v4, v3, v2.1, v2.2.1, v2.2.2))
set_option maxHeartbeats 4000000 in
set_option maxRecDepth 100000 in
theorem ct_X10_restore {State_cells : Nat → Int32} {History_oldest : Int32} {History_size : Int32} {History_snapshotTaken : Int32} {History_saved : Nat → Int32} {History_snapshot : Nat → Int32} {Buffer_size : Int32} {Buffer_codes : Nat → Int32} {Reader_pattern : Nat} {Reader_place : Int32} {Word_size : Int32} {Word_letters : Nat → Int32} {res : (Int32 ⊕ String) × (Nat → Int32) × (Int32) × (Int32) × (Nat → Int32)} (hf : s_X10_restore State_cells History_oldest History_size History_snapshotTaken History_saved History_snapshot = some res) : Ct k_X10_restore [.ref 0] [.inl (5, [.ref 1, .ref 3, .ref 6, .ref 8, .ref 9]), .inl (3, [.ref 2]), .inr (910, .inl State_cells), .inl (1, [.ref 4, .ref 5, .int History_oldest, .int History_size, .int History_snapshotTaken]), .inr (5460, .inl History_saved), .inr (910, .inl History_snapshot), .inl (0, [.ref 7, .int Buffer_size]), .inr (60, .inl Buffer_codes), .inl (2, [.ref (Reader_pattern + 1000), .int Reader_place]), .inl (4, [.ref 10, .int Word_size]), .inr (8, .inl Word_letters)] (foI res.1) [.inl (5, [.ref 1, .ref 3, .ref 6, .ref 8, .ref 9]), .inl (3, [.ref 2]), .inr (910, .inl res.2.1), .inl (1, [.ref 4, .ref 5, .int res.2.2.1, .int res.2.2.2.1, .int History_snapshotTaken]), .inr (5460, .inl res.2.2.2.2), .inr (910, .inl History_snapshot), .inl (0, [.ref 7, .int Buffer_size]), .inr (60, .inl Buffer_codes), .inl (2, [.ref (Reader_pattern + 1000), .int Reader_place]), .inl (4, [.ref 10, .int Word_size]), .inr (8, .inl Word_letters)] := by
  unfold s_X10_restore at hf
  refine Ct.of (L := [some (.ref 0)]) cal_X10_restore (fent_pad (j := 0) rfl) (Nat.le_of_ble_eq_true rfl) ?_
  refine V.aload_n (i := 0) dX10_restore_0 rfl rfl ?_
  refine V.getfield (kf := 1) (v := .ref 3) fl_RX10 dX10_restore_1 w182 (Nat.le_of_ble_eq_true rfl) rfl rfl ?_
  obtain ⟨v1, hv1, hf⟩ := fbind hf
  refine V.callVn (pl := [3, 4, 5]) (σ' := [.inl (5, [.ref 1, .ref 3, .ref 6, .ref 8, .ref 9]), .inl (3, [.ref 2]), .inr (910, .inl State_cells), .inl (1, [.ref 4, .ref 5, .int History_oldest, .int History_size, .int History_snapshotTaken]), .inr (5460, .inl History_saved), .inr (910, .inl History_snapshot), .inl (0, [.ref 7, .int Buffer_size]), .inr (60, .inl Buffer_codes), .inl (2, [.ref (Reader_pattern + 1000), .int Reader_place]), .inl (4, [.ref 10, .int Word_size]), .inr (8, .inl Word_letters)]) (st2 := [.int v1]) (cl2 := 0) (sl2 := 0) (ct_X3_hasSnapshot (History_oldest := History_oldest) (History_size := History_size) (History_snapshotTaken := History_snapshotTaken) (History_saved := History_saved) (History_snapshot := History_snapshot) hv1) dX10_restore_4 w930 ⟨w931, w932⟩ cal_X3_hasSnapshot rfl ⟨⟨Nat.le_of_ble_eq_true rfl, Nat.le_of_ble_eq_true rfl⟩, Nat.le_of_ble_eq_true rfl, Nat.le_of_ble_eq_true rfl⟩ (Nat.le_of_ble_eq_true rfl) (Or.inl ⟨_, _, _, _, rfl, rfl⟩) rfl ⟨rfl, ⟨by decide, by decide⟩, rfl, (fr_cons (Or.inl (Nat.le_of_ble_eq_true rfl)) (fr_cons (Or.inl (Nat.le_of_ble_eq_true rfl)) (fr_nil))), rfl⟩ fr_i rfl rfl rfl rfl ?_
  refine V.if_ne (tgt := 20) dX10_restore_7 (by decide) (fun h => ?_) (fun h => ?_)
  · have hf := fif_f h hf
    refine V.aload_n (i := 0) dX10_restore_20 rfl rfl ?_
    refine V.getfield (kf := 1) (v := .ref 3) fl_RX10 dX10_restore_21 w182 (Nat.le_of_ble_eq_true rfl) rfl rfl ?_
    refine V.aload_n (i := 0) dX10_restore_24 rfl rfl ?_
    refine V.getfield (kf := 0) (v := .ref 1) fl_RX10 dX10_restore_25 w181 (Nat.le_of_ble_eq_true rfl) rfl rfl ?_
    obtain ⟨v2, hv2, hf⟩ := fbind hf
    refine V.callVn (pl := [3, 4, 5, 1, 2]) (σ' := [.inl (5, [.ref 1, .ref 3, .ref 6, .ref 8, .ref 9]), .inl (3, [.ref 2]), .inr (910, .inl State_cells), .inl (1, [.ref 4, .ref 5, .int v2.1, .int v2.2.1, .int History_snapshotTaken]), .inr (5460, .inl v2.2.2), .inr (910, .inl History_snapshot), .inl (0, [.ref 7, .int Buffer_size]), .inr (60, .inl Buffer_codes), .inl (2, [.ref (Reader_pattern + 1000), .int Reader_place]), .inl (4, [.ref 10, .int Word_size]), .inr (8, .inl Word_letters)]) (st2 := []) (cl2 := 0) (sl2 := 0) (ct_X3_push (History_oldest := History_oldest) (History_size := History_size) (History_snapshotTaken := History_snapshotTaken) (History_saved := History_saved) (History_snapshot := History_snapshot) (State_cells := State_cells) hv2) dX10_restore_28 w652 ⟨w653, w654⟩ cal_X3_push rfl ⟨⟨Nat.le_of_ble_eq_true rfl, Nat.le_of_ble_eq_true rfl⟩, Nat.le_of_ble_eq_true rfl, Nat.le_of_ble_eq_true rfl⟩ (Nat.le_of_ble_eq_true rfl) (Or.inl ⟨_, _, _, _, rfl, rfl⟩) rfl ⟨rfl, ⟨by decide, by decide⟩, rfl, (fr_cons (Or.inl (Nat.le_of_ble_eq_true rfl)) (fr_cons (Or.inl (Nat.le_of_ble_eq_true rfl)) (fr_cons (Or.inl (Nat.le_of_ble_eq_true rfl)) (fr_nil)))), rfl⟩ fr_v rfl rfl rfl rfl ?_
    refine V.aload_n (i := 0) dX10_restore_31 rfl rfl ?_
    refine V.getfield (kf := 1) (v := .ref 3) fl_RX10 dX10_restore_32 w182 (Nat.le_of_ble_eq_true rfl) rfl rfl ?_
    refine V.aload_n (i := 0) dX10_restore_35 rfl rfl ?_
    refine V.getfield (kf := 0) (v := .ref 1) fl_RX10 dX10_restore_36 w181 (Nat.le_of_ble_eq_true rfl) rfl rfl ?_
    obtain ⟨v3, hv3, hf⟩ := fbind hf
    refine V.callVn (pl := [3, 4, 5, 1, 2]) (σ' := [.inl (5, [.ref 1, .ref 3, .ref 6, .ref 8, .ref 9]), .inl (3, [.ref 2]), .inr (910, .inl v3), .inl (1, [.ref 4, .ref 5, .int v2.1, .int v2.2.1, .int History_snapshotTaken]), .inr (5460, .inl v2.2.2), .inr (910, .inl History_snapshot), .inl (0, [.ref 7, .int Buffer_size]), .inr (60, .inl Buffer_codes), .inl (2, [.ref (Reader_pattern + 1000), .int Reader_place]), .inl (4, [.ref 10, .int Word_size]), .inr (8, .inl Word_letters)]) (st2 := []) (cl2 := 0) (sl2 := 0) (ct_X3_loadSnapshot (History_oldest := v2.1) (History_size := v2.2.1) (History_snapshotTaken := History_snapshotTaken) (History_saved := v2.2.2) (History_snapshot := History_snapshot) (State_cells := State_cells) hv3) dX10_restore_39 w935 ⟨w936, w937⟩ cal_X3_loadSnapshot rfl ⟨⟨Nat.le_of_ble_eq_true rfl, Nat.le_of_ble_eq_true rfl⟩, Nat.le_of_ble_eq_true rfl, Nat.le_of_ble_eq_true rfl⟩ (Nat.le_of_ble_eq_true rfl) (Or.inl ⟨_, _, _, _, rfl, rfl⟩) rfl ⟨rfl, ⟨by decide, by decide⟩, rfl, (fr_cons (Or.inl (Nat.le_of_ble_eq_true rfl)) (fr_cons (Or.inl (Nat.le_of_ble_eq_true rfl)) (fr_cons (Or.inl (Nat.le_of_ble_eq_true rfl)) (fr_nil)))), rfl⟩ fr_v rfl rfl rfl rfl ?_
    refine V.aload_n (i := 0) dX10_restore_42 rfl rfl ?_
    refine V.getfield (kf := 0) (v := .ref 1) fl_RX10 dX10_restore_43 w181 (Nat.le_of_ble_eq_true rfl) rfl rfl ?_
    obtain ⟨v4, hv4, hf⟩ := fbind hf
    refine V.callSn (pl := [1, 2]) (σ' := [.inl (5, [.ref 1, .ref 3, .ref 6, .ref 8, .ref 9]), .inl (3, [.ref 2]), .inr (910, .inl v3), .inl (1, [.ref 4, .ref 5, .int v2.1, .int v2.2.1, .int History_snapshotTaken]), .inr (5460, .inl v2.2.2), .inr (910, .inl History_snapshot), .inl (0, [.ref 7, .int Buffer_size]), .inr (60, .inl Buffer_codes), .inl (2, [.ref (Reader_pattern + 1000), .int Reader_place]), .inl (4, [.ref 10, .int Word_size]), .inr (8, .inl Word_letters)]) (st2 := [.int v4]) (cl2 := 0) (sl2 := 0) (ct_X8_names (State_cells := v3) hv4) dX10_restore_46 w306 w307 cal_X8_names ⟨⟨Nat.le_of_ble_eq_true rfl, Nat.le_of_ble_eq_true rfl⟩, Nat.le_of_ble_eq_true rfl, Nat.le_of_ble_eq_true rfl⟩ (Nat.le_of_ble_eq_true rfl) rfl ⟨rfl, ⟨by decide, by decide⟩, rfl, (fr_cons (Or.inl (Nat.le_of_ble_eq_true rfl)) (fr_nil)), rfl⟩ fr_i rfl rfl rfl rfl ?_
    obtain rfl := Option.some.inj hf
    exact V.iret dX10_restore_49 rfl (Nat.le_of_ble_eq_true rfl) (Nat.le_of_ble_eq_true rfl) rfl
  · have hf := fif_t h hf
    obtain rfl := Option.some.inj hf
    exact V.throwS (i := 22) th_RX10_IllegalStateException_61 (List.mem_of_getElem? (i := 22) rfl) dX10_restore_10 dX10_restore_13 dX10_restore_14 dX10_restore_16 dX10_restore_19 rfl (Nat.le_of_ble_eq_true rfl) (Nat.le_of_ble_eq_true rfl) ⟨Nat.le_of_ble_eq_true rfl, Nat.le_of_ble_eq_true rfl⟩ (Nat.le_of_ble_eq_true rfl) (Nat.le_of_ble_eq_true rfl) rfl
def k_X10_needWhat : fK := (yX10_needWhat, cX10_needWhat, 2, none, [], (6, 82), (0, 0), (1, 6))
theorem cal_X10_needWhat : fCal k_X10_needWhat 2 := ⟨⟨wc949, w67⟩, ⟨by decide +kernel, by decide +kernel⟩, by decide +kernel, by decide +kernel⟩
def s_X10_needWhat (a0 : Int32) (a1 : Int32) : Option ((Unit ⊕ String)) := if (a0 < 0 : Prop) then (some (.inr "java/lang/IllegalArgumentException")) else (if (a0 ≤ a1 : Prop) then (some (.inl ())) else (some (.inr "java/lang/IllegalArgumentException")))
set_option maxHeartbeats 4000000 in
set_option maxRecDepth 100000 in
theorem ct_X10_needWhat {a0 : Int32} {a1 : Int32} {res : (Unit ⊕ String)} (hf : s_X10_needWhat a0 a1 = some res) : Ct k_X10_needWhat [.int a0, .int a1] [] (foV res) [] := by
  unfold s_X10_needWhat at hf
  refine Ct.of (L := [some (.int a0), some (.int a1)]) cal_X10_needWhat (fent_pad (j := 0) rfl) (Nat.le_of_ble_eq_true rfl) ?_
  refine V.iload_n (i := 0) dX10_needWhat_0 rfl rfl ?_
  refine V.if_lt (tgt := 9) dX10_needWhat_1 (by decide) (fun h => ?_) (fun h => ?_)
  · have hf := fif_t h hf
    obtain rfl := Option.some.inj hf
    exact V.throwSW (i := 24) th_RX10_IllegalArgumentException_110 (List.mem_of_getElem? (i := 24) rfl) dX10_needWhat_9 dX10_needWhat_12 dX10_needWhat_13 dX10_needWhat_16 dX10_needWhat_19 rfl (Nat.le_of_ble_eq_true rfl) (Nat.le_of_ble_eq_true rfl) ⟨Nat.le_of_ble_eq_true rfl, Nat.le_of_ble_eq_true rfl⟩ (Nat.le_of_ble_eq_true rfl) (Nat.le_of_ble_eq_true rfl) rfl
  · have hf := fif_f h hf
    refine V.iload_n (i := 0) dX10_needWhat_4 rfl rfl ?_
    refine V.iload_n (i := 1) dX10_needWhat_5 rfl rfl ?_
    refine V.icmp_le (tgt := 20) dX10_needWhat_6 (by decide) (fun h => ?_) (fun h => ?_)
    · have hf := fif_t h hf
      obtain rfl := Option.some.inj hf
      exact V.vret dX10_needWhat_20 rfl (Nat.le_of_ble_eq_true rfl) (Nat.le_of_ble_eq_true rfl) rfl
    · have hf := fif_f h hf
      obtain rfl := Option.some.inj hf
      exact V.throwSW (i := 24) th_RX10_IllegalArgumentException_110 (List.mem_of_getElem? (i := 24) rfl) dX10_needWhat_9 dX10_needWhat_12 dX10_needWhat_13 dX10_needWhat_16 dX10_needWhat_19 rfl (Nat.le_of_ble_eq_true rfl) (Nat.le_of_ble_eq_true rfl) ⟨Nat.le_of_ble_eq_true rfl, Nat.le_of_ble_eq_true rfl⟩ (Nat.le_of_ble_eq_true rfl) (Nat.le_of_ble_eq_true rfl) rfl
def k_X10_letter : fK := (yX10_letter, cX10_letter, 3, (some .int), [], (7, 121), (0, 0), (1, 6))
theorem cal_X10_letter : fCal k_X10_letter 2 := ⟨⟨wc945, w67⟩, ⟨by decide +kernel, by decide +kernel⟩, by decide +kernel, by decide +kernel⟩
def s_X10_letter (a1 : Int32) (a2 : Int32) (State_cells : Nat → Int32) : Option ((Int32 ⊕ String)) := if (a1 < 0 : Prop) then (some (.inr "java/lang/IndexOutOfBoundsException")) else (if (a1 < 16 : Prop) then ((s_X10_needWhat a2 5).bind fun v1 => fth v1 (fun v2 => (s_X8_ofLetter a1 a2 State_cells).bind fun v3 => some (.inl v3)) (fun E9 => some (.inr E9))) else (some (.inr "java/lang/IndexOutOfBoundsException")))
set_option maxHeartbeats 4000000 in
set_option maxRecDepth 100000 in
theorem ct_X10_letter {a1 : Int32} {a2 : Int32} {State_cells : Nat → Int32} {History_oldest : Int32} {History_size : Int32} {History_snapshotTaken : Int32} {History_saved : Nat → Int32} {History_snapshot : Nat → Int32} {Buffer_size : Int32} {Buffer_codes : Nat → Int32} {Reader_pattern : Nat} {Reader_place : Int32} {Word_size : Int32} {Word_letters : Nat → Int32} {res : (Int32 ⊕ String)} (hf : s_X10_letter a1 a2 State_cells = some res) : Ct k_X10_letter [.ref 0, .int a1, .int a2] [.inl (5, [.ref 1, .ref 3, .ref 6, .ref 8, .ref 9]), .inl (3, [.ref 2]), .inr (910, .inl State_cells), .inl (1, [.ref 4, .ref 5, .int History_oldest, .int History_size, .int History_snapshotTaken]), .inr (5460, .inl History_saved), .inr (910, .inl History_snapshot), .inl (0, [.ref 7, .int Buffer_size]), .inr (60, .inl Buffer_codes), .inl (2, [.ref (Reader_pattern + 1000), .int Reader_place]), .inl (4, [.ref 10, .int Word_size]), .inr (8, .inl Word_letters)] (foI res) [.inl (5, [.ref 1, .ref 3, .ref 6, .ref 8, .ref 9]), .inl (3, [.ref 2]), .inr (910, .inl State_cells), .inl (1, [.ref 4, .ref 5, .int History_oldest, .int History_size, .int History_snapshotTaken]), .inr (5460, .inl History_saved), .inr (910, .inl History_snapshot), .inl (0, [.ref 7, .int Buffer_size]), .inr (60, .inl Buffer_codes), .inl (2, [.ref (Reader_pattern + 1000), .int Reader_place]), .inl (4, [.ref 10, .int Word_size]), .inr (8, .inl Word_letters)] := by
  unfold s_X10_letter at hf
  refine Ct.of (L := [some (.ref 0), some (.int a1), some (.int a2)]) cal_X10_letter (fent_pad (j := 0) rfl) (Nat.le_of_ble_eq_true rfl) ?_
  refine V.iload_n (i := 1) dX10_letter_0 rfl rfl ?_
  refine V.if_lt (tgt := 10) dX10_letter_1 (by decide) (fun h => ?_) (fun h => ?_)
  · have hf := fif_t h hf
    obtain rfl := Option.some.inj hf
    exact V.throwS (i := 23) th_RX10_IndexOutOfBoundsException_131 (List.mem_of_getElem? (i := 23) rfl) dX10_letter_10 dX10_letter_13 dX10_letter_14 dX10_letter_16 dX10_letter_19 rfl (Nat.le_of_ble_eq_true rfl) (Nat.le_of_ble_eq_true rfl) ⟨Nat.le_of_ble_eq_true rfl, Nat.le_of_ble_eq_true rfl⟩ (Nat.le_of_ble_eq_true rfl) (Nat.le_of_ble_eq_true rfl) rfl
  · have hf := fif_f h hf
    refine V.iload_n (i := 1) dX10_letter_4 rfl rfl ?_
    refine V.bipush (v := 16) dX10_letter_5 rfl ?_
    refine V.icmp_lt (tgt := 20) dX10_letter_7 (by decide) (fun h => ?_) (fun h => ?_)
    · have hf := fif_t h hf
      refine V.iload_n (i := 2) dX10_letter_20 rfl rfl ?_
      refine V.iconst (v := 5) dX10_letter_21 rfl ?_
      obtain ⟨v1, hv1, hf⟩ := fbind hf
      have hc := ct_X10_needWhat (a0 := a2) (a1 := 5) hv1
      rcases hv1b : v1 with v2 | E9
      · rw [hv1b] at hc hf
        dsimp only [fth] at hf
        refine V.callSn (pl := []) (σ' := [.inl (5, [.ref 1, .ref 3, .ref 6, .ref 8, .ref 9]), .inl (3, [.ref 2]), .inr (910, .inl State_cells), .inl (1, [.ref 4, .ref 5, .int History_oldest, .int History_size, .int History_snapshotTaken]), .inr (5460, .inl History_saved), .inr (910, .inl History_snapshot), .inl (0, [.ref 7, .int Buffer_size]), .inr (60, .inl Buffer_codes), .inl (2, [.ref (Reader_pattern + 1000), .int Reader_place]), .inl (4, [.ref 10, .int Word_size]), .inr (8, .inl Word_letters)]) (st2 := []) (cl2 := 0) (sl2 := 0) hc dX10_letter_22 w947 w948 cal_X10_needWhat ⟨⟨Nat.le_of_ble_eq_true rfl, Nat.le_of_ble_eq_true rfl⟩, Nat.le_of_ble_eq_true rfl, Nat.le_of_ble_eq_true rfl⟩ (Nat.le_of_ble_eq_true rfl) rfl ⟨rfl, ⟨by decide, by decide⟩, rfl, (fr_nil), rfl⟩ fr_v rfl rfl rfl rfl ?_
        refine V.aload_n (i := 0) dX10_letter_25 rfl rfl ?_
        refine V.getfield (kf := 0) (v := .ref 1) fl_RX10 dX10_letter_26 w181 (Nat.le_of_ble_eq_true rfl) rfl rfl ?_
        refine V.iload_n (i := 1) dX10_letter_29 rfl rfl ?_
        refine V.iload_n (i := 2) dX10_letter_30 rfl rfl ?_
        obtain ⟨v3, hv3, hf⟩ := fbind hf
        refine V.callSn (pl := [1, 2]) (σ' := [.inl (5, [.ref 1, .ref 3, .ref 6, .ref 8, .ref 9]), .inl (3, [.ref 2]), .inr (910, .inl State_cells), .inl (1, [.ref 4, .ref 5, .int History_oldest, .int History_size, .int History_snapshotTaken]), .inr (5460, .inl History_saved), .inr (910, .inl History_snapshot), .inl (0, [.ref 7, .int Buffer_size]), .inr (60, .inl Buffer_codes), .inl (2, [.ref (Reader_pattern + 1000), .int Reader_place]), .inl (4, [.ref 10, .int Word_size]), .inr (8, .inl Word_letters)]) (st2 := [.int v3]) (cl2 := 0) (sl2 := 0) (ct_X8_ofLetter (a1 := a1) (a2 := a2) (State_cells := State_cells) hv3) dX10_letter_31 w951 w399 cal_X8_ofLetter ⟨⟨Nat.le_of_ble_eq_true rfl, Nat.le_of_ble_eq_true rfl⟩, Nat.le_of_ble_eq_true rfl, Nat.le_of_ble_eq_true rfl⟩ (Nat.le_of_ble_eq_true rfl) rfl ⟨rfl, ⟨by decide, by decide⟩, rfl, (fr_cons (Or.inl (Nat.le_of_ble_eq_true rfl)) (fr_nil)), rfl⟩ fr_i rfl rfl rfl rfl ?_
        obtain rfl := Option.some.inj hf
        exact V.iret dX10_letter_34 rfl (Nat.le_of_ble_eq_true rfl) (Nat.le_of_ble_eq_true rfl) rfl
      · rw [hv1b] at hc hf
        dsimp only [fth] at hf
        obtain rfl := Option.some.inj hf
        refine V.callSx (pl := []) (σ' := [.inl (5, [.ref 1, .ref 3, .ref 6, .ref 8, .ref 9]), .inl (3, [.ref 2]), .inr (910, .inl State_cells), .inl (1, [.ref 4, .ref 5, .int History_oldest, .int History_size, .int History_snapshotTaken]), .inr (5460, .inl History_saved), .inr (910, .inl History_snapshot), .inl (0, [.ref 7, .int Buffer_size]), .inr (60, .inl Buffer_codes), .inl (2, [.ref (Reader_pattern + 1000), .int Reader_place]), .inl (4, [.ref 10, .int Word_size]), .inr (8, .inl Word_letters)]) hc dX10_letter_22 w947 w948 cal_X10_needWhat ⟨⟨Nat.le_of_ble_eq_true rfl, Nat.le_of_ble_eq_true rfl⟩, Nat.le_of_ble_eq_true rfl, Nat.le_of_ble_eq_true rfl⟩ (Nat.le_of_ble_eq_true rfl) rfl ⟨rfl, ⟨by decide, by decide⟩, rfl, (fr_nil), rfl⟩ ?_
        exact VX.out rfl (Nat.le_of_ble_eq_true rfl) (Nat.le_of_ble_eq_true rfl) rfl
    · have hf := fif_f h hf
      obtain rfl := Option.some.inj hf
      exact V.throwS (i := 23) th_RX10_IndexOutOfBoundsException_131 (List.mem_of_getElem? (i := 23) rfl) dX10_letter_10 dX10_letter_13 dX10_letter_14 dX10_letter_16 dX10_letter_19 rfl (Nat.le_of_ble_eq_true rfl) (Nat.le_of_ble_eq_true rfl) ⟨Nat.le_of_ble_eq_true rfl, Nat.le_of_ble_eq_true rfl⟩ (Nat.le_of_ble_eq_true rfl) (Nat.le_of_ble_eq_true rfl) rfl
def k_X10_knot : fK := (yX10_knot, cX10_knot, 5, (some .int), [], (8, 124), (0, 0), (1, 6))
theorem cal_X10_knot : fCal k_X10_knot 4 := ⟨⟨wc958, w67⟩, ⟨by decide +kernel, by decide +kernel⟩, by decide +kernel, by decide +kernel⟩
def s_X10_knot (a1 : Int32) (a2 : Int32) (a3 : Int32) (a4 : Int32) (State_cells : Nat → Int32) : Option ((Int32 ⊕ String)) := (s_X10_needName a1 a2 State_cells).bind fun v1 => fth v1 (fun v2 => if (a3 < 0 : Prop) then (some (.inr "java/lang/IllegalArgumentException")) else (if (a3 < 8 : Prop) then ((s_X10_needWhat a4 2).bind fun v3 => fth v3 (fun v4 => (s_X8_ofKnot a1 a2 a3 a4 State_cells).bind fun v5 => some (.inl v5)) (fun E9 => some (.inr E9))) else (some (.inr "java/lang/IllegalArgumentException")))) (fun E9 => some (.inr E9))
set_option maxHeartbeats 4000000 in
set_option maxRecDepth 100000 in
theorem ct_X10_knot {a1 : Int32} {a2 : Int32} {a3 : Int32} {a4 : Int32} {State_cells : Nat → Int32} {History_oldest : Int32} {History_size : Int32} {History_snapshotTaken : Int32} {History_saved : Nat → Int32} {History_snapshot : Nat → Int32} {Buffer_size : Int32} {Buffer_codes : Nat → Int32} {Reader_pattern : Nat} {Reader_place : Int32} {Word_size : Int32} {Word_letters : Nat → Int32} {res : (Int32 ⊕ String)} (hf : s_X10_knot a1 a2 a3 a4 State_cells = some res) : Ct k_X10_knot [.ref 0, .int a1, .int a2, .int a3, .int a4] [.inl (5, [.ref 1, .ref 3, .ref 6, .ref 8, .ref 9]), .inl (3, [.ref 2]), .inr (910, .inl State_cells), .inl (1, [.ref 4, .ref 5, .int History_oldest, .int History_size, .int History_snapshotTaken]), .inr (5460, .inl History_saved), .inr (910, .inl History_snapshot), .inl (0, [.ref 7, .int Buffer_size]), .inr (60, .inl Buffer_codes), .inl (2, [.ref (Reader_pattern + 1000), .int Reader_place]), .inl (4, [.ref 10, .int Word_size]), .inr (8, .inl Word_letters)] (foI res) [.inl (5, [.ref 1, .ref 3, .ref 6, .ref 8, .ref 9]), .inl (3, [.ref 2]), .inr (910, .inl State_cells), .inl (1, [.ref 4, .ref 5, .int History_oldest, .int History_size, .int History_snapshotTaken]), .inr (5460, .inl History_saved), .inr (910, .inl History_snapshot), .inl (0, [.ref 7, .int Buffer_size]), .inr (60, .inl Buffer_codes), .inl (2, [.ref (Reader_pattern + 1000), .int Reader_place]), .inl (4, [.ref 10, .int Word_size]), .inr (8, .inl Word_letters)] := by
  unfold s_X10_knot at hf
  refine Ct.of (L := [some (.ref 0), some (.int a1), some (.int a2), some (.int a3), some (.int a4)]) cal_X10_knot (fent_pad (j := 0) rfl) (Nat.le_of_ble_eq_true rfl) ?_
  refine V.aload_n (i := 0) dX10_knot_0 rfl rfl ?_
  refine V.iload_n (i := 1) dX10_knot_1 rfl rfl ?_
  refine V.iload_n (i := 2) dX10_knot_2 rfl rfl ?_
  obtain ⟨v1, hv1, hf⟩ := fbind hf
  have hc := ct_X10_needName (a1 := a1) (a2 := a2) (State_cells := State_cells) (History_oldest := History_oldest) (History_size := History_size) (History_snapshotTaken := History_snapshotTaken) (History_saved := History_saved) (History_snapshot := History_snapshot) (Buffer_size := Buffer_size) (Buffer_codes := Buffer_codes) (Reader_pattern := Reader_pattern) (Reader_place := Reader_place) (Word_size := Word_size) (Word_letters := Word_letters) hv1
  rcases hv1b : v1 with v2 | E9
  · rw [hv1b] at hc hf
    dsimp only [fth] at hf
    refine V.callVn (pl := [0, 1, 2, 3, 4, 5, 6, 7, 8, 9, 10]) (σ' := [.inl (5, [.ref 1, .ref 3, .ref 6, .ref 8, .ref 9]), .inl (3, [.ref 2]), .inr (910, .inl State_cells), .inl (1, [.ref 4, .ref 5, .int History_oldest, .int History_size, .int History_snapshotTaken]), .inr (5460, .inl History_saved), .inr (910, .inl History_snapshot), .inl (0, [.ref 7, .int Buffer_size]), .inr (60, .inl Buffer_codes), .inl (2, [.ref (Reader_pattern + 1000), .int Reader_place]), .inl (4, [.ref 10, .int Word_size]), .inr (8, .inl Word_letters)]) (st2 := []) (cl2 := 0) (sl2 := 0) hc dX10_knot_3 w678 ⟨w680, w5⟩ cal_X10_needName rfl ⟨⟨Nat.le_of_ble_eq_true rfl, Nat.le_of_ble_eq_true rfl⟩, Nat.le_of_ble_eq_true rfl, Nat.le_of_ble_eq_true rfl⟩ (Nat.le_of_ble_eq_true rfl) (Or.inl ⟨_, _, _, _, rfl, rfl⟩) rfl ⟨rfl, ⟨by decide, by decide⟩, rfl, (fr_cons (Or.inl (Nat.le_of_ble_eq_true rfl)) (fr_cons (Or.inl (Nat.le_of_ble_eq_true rfl)) (fr_cons (Or.inl (Nat.le_of_ble_eq_true rfl)) (fr_cons (Or.inl (Nat.le_of_ble_eq_true rfl)) (fr_cons (Or.inl (Nat.le_of_ble_eq_true rfl)) (fr_cons (Or.inl (Nat.le_of_ble_eq_true rfl)) (fr_cons (Or.inl (Nat.le_of_ble_eq_true rfl)) (fr_cons (Or.inl (Nat.le_of_ble_eq_true rfl)) (fr_cons (Or.inl (Nat.le_of_ble_eq_true rfl)) (fr_cons (Or.inr (Nat.le_add_left 1000 _)) (fr_cons (Or.inl (Nat.le_of_ble_eq_true rfl)) (fr_nil)))))))))))), rfl⟩ fr_v rfl rfl rfl rfl ?_
    refine V.iload_n (i := 3) dX10_knot_6 rfl rfl ?_
    refine V.if_lt (tgt := 16) dX10_knot_7 (by decide) (fun h => ?_) (fun h => ?_)
    · have hf := fif_t h hf
      obtain rfl := Option.some.inj hf
      exact V.throwS (i := 25) th_RX10_IllegalArgumentException_110 (List.mem_of_getElem? (i := 25) rfl) dX10_knot_16 dX10_knot_19 dX10_knot_20 dX10_knot_22 dX10_knot_25 rfl (Nat.le_of_ble_eq_true rfl) (Nat.le_of_ble_eq_true rfl) ⟨Nat.le_of_ble_eq_true rfl, Nat.le_of_ble_eq_true rfl⟩ (Nat.le_of_ble_eq_true rfl) (Nat.le_of_ble_eq_true rfl) rfl
    · have hf := fif_f h hf
      refine V.iload_n (i := 3) dX10_knot_10 rfl rfl ?_
      refine V.bipush (v := 8) dX10_knot_11 rfl ?_
      refine V.icmp_lt (tgt := 26) dX10_knot_13 (by decide) (fun h => ?_) (fun h => ?_)
      · have hf := fif_t h hf
        refine V.iload (i := 4) dX10_knot_26 rfl ?_
        refine V.iconst (v := 2) dX10_knot_28 rfl ?_
        obtain ⟨v3, hv3, hf⟩ := fbind hf
        have hc := ct_X10_needWhat (a0 := a4) (a1 := 2) hv3
        rcases hv3b : v3 with v4 | E9
        · rw [hv3b] at hc hf
          dsimp only [fth] at hf
          refine V.callSn (pl := []) (σ' := [.inl (5, [.ref 1, .ref 3, .ref 6, .ref 8, .ref 9]), .inl (3, [.ref 2]), .inr (910, .inl State_cells), .inl (1, [.ref 4, .ref 5, .int History_oldest, .int History_size, .int History_snapshotTaken]), .inr (5460, .inl History_saved), .inr (910, .inl History_snapshot), .inl (0, [.ref 7, .int Buffer_size]), .inr (60, .inl Buffer_codes), .inl (2, [.ref (Reader_pattern + 1000), .int Reader_place]), .inl (4, [.ref 10, .int Word_size]), .inr (8, .inl Word_letters)]) (st2 := []) (cl2 := 0) (sl2 := 0) hc dX10_knot_29 w947 w948 cal_X10_needWhat ⟨⟨Nat.le_of_ble_eq_true rfl, Nat.le_of_ble_eq_true rfl⟩, Nat.le_of_ble_eq_true rfl, Nat.le_of_ble_eq_true rfl⟩ (Nat.le_of_ble_eq_true rfl) rfl ⟨rfl, ⟨by decide, by decide⟩, rfl, (fr_nil), rfl⟩ fr_v rfl rfl rfl rfl ?_
          refine V.aload_n (i := 0) dX10_knot_32 rfl rfl ?_
          refine V.getfield (kf := 0) (v := .ref 1) fl_RX10 dX10_knot_33 w181 (Nat.le_of_ble_eq_true rfl) rfl rfl ?_
          refine V.iload_n (i := 1) dX10_knot_36 rfl rfl ?_
          refine V.iload_n (i := 2) dX10_knot_37 rfl rfl ?_
          refine V.iload_n (i := 3) dX10_knot_38 rfl rfl ?_
          refine V.iload (i := 4) dX10_knot_39 rfl ?_
          obtain ⟨v5, hv5, hf⟩ := fbind hf
          refine V.callSn (pl := [1, 2]) (σ' := [.inl (5, [.ref 1, .ref 3, .ref 6, .ref 8, .ref 9]), .inl (3, [.ref 2]), .inr (910, .inl State_cells), .inl (1, [.ref 4, .ref 5, .int History_oldest, .int History_size, .int History_snapshotTaken]), .inr (5460, .inl History_saved), .inr (910, .inl History_snapshot), .inl (0, [.ref 7, .int Buffer_size]), .inr (60, .inl Buffer_codes), .inl (2, [.ref (Reader_pattern + 1000), .int Reader_place]), .inl (4, [.ref 10, .int Word_size]), .inr (8, .inl Word_letters)]) (st2 := [.int v5]) (cl2 := 0) (sl2 := 0) (ct_X8_ofKnot (a1 := a1) (a2 := a2) (a3 := a3) (a4 := a4) (State_cells := State_cells) hv5) dX10_knot_41 w960 w465 cal_X8_ofKnot ⟨⟨Nat.le_of_ble_eq_true rfl, Nat.le_of_ble_eq_true rfl⟩, Nat.le_of_ble_eq_true rfl, Nat.le_of_ble_eq_true rfl⟩ (Nat.le_of_ble_eq_true rfl) rfl ⟨rfl, ⟨by decide, by decide⟩, rfl, (fr_cons (Or.inl (Nat.le_of_ble_eq_true rfl)) (fr_nil)), rfl⟩ fr_i rfl rfl rfl rfl ?_
          obtain rfl := Option.some.inj hf
          exact V.iret dX10_knot_44 rfl (Nat.le_of_ble_eq_true rfl) (Nat.le_of_ble_eq_true rfl) rfl
        · rw [hv3b] at hc hf
          dsimp only [fth] at hf
          obtain rfl := Option.some.inj hf
          refine V.callSx (pl := []) (σ' := [.inl (5, [.ref 1, .ref 3, .ref 6, .ref 8, .ref 9]), .inl (3, [.ref 2]), .inr (910, .inl State_cells), .inl (1, [.ref 4, .ref 5, .int History_oldest, .int History_size, .int History_snapshotTaken]), .inr (5460, .inl History_saved), .inr (910, .inl History_snapshot), .inl (0, [.ref 7, .int Buffer_size]), .inr (60, .inl Buffer_codes), .inl (2, [.ref (Reader_pattern + 1000), .int Reader_place]), .inl (4, [.ref 10, .int Word_size]), .inr (8, .inl Word_letters)]) hc dX10_knot_29 w947 w948 cal_X10_needWhat ⟨⟨Nat.le_of_ble_eq_true rfl, Nat.le_of_ble_eq_true rfl⟩, Nat.le_of_ble_eq_true rfl, Nat.le_of_ble_eq_true rfl⟩ (Nat.le_of_ble_eq_true rfl) rfl ⟨rfl, ⟨by decide, by decide⟩, rfl, (fr_nil), rfl⟩ ?_
          exact VX.out rfl (Nat.le_of_ble_eq_true rfl) (Nat.le_of_ble_eq_true rfl) rfl
      · have hf := fif_f h hf
        obtain rfl := Option.some.inj hf
        exact V.throwS (i := 25) th_RX10_IllegalArgumentException_110 (List.mem_of_getElem? (i := 25) rfl) dX10_knot_16 dX10_knot_19 dX10_knot_20 dX10_knot_22 dX10_knot_25 rfl (Nat.le_of_ble_eq_true rfl) (Nat.le_of_ble_eq_true rfl) ⟨Nat.le_of_ble_eq_true rfl, Nat.le_of_ble_eq_true rfl⟩ (Nat.le_of_ble_eq_true rfl) (Nat.le_of_ble_eq_true rfl) rfl
  · rw [hv1b] at hc hf
    dsimp only [fth] at hf
    obtain rfl := Option.some.inj hf
    refine V.callVx (pl := [0, 1, 2, 3, 4, 5, 6, 7, 8, 9, 10]) (σ' := [.inl (5, [.ref 1, .ref 3, .ref 6, .ref 8, .ref 9]), .inl (3, [.ref 2]), .inr (910, .inl State_cells), .inl (1, [.ref 4, .ref 5, .int History_oldest, .int History_size, .int History_snapshotTaken]), .inr (5460, .inl History_saved), .inr (910, .inl History_snapshot), .inl (0, [.ref 7, .int Buffer_size]), .inr (60, .inl Buffer_codes), .inl (2, [.ref (Reader_pattern + 1000), .int Reader_place]), .inl (4, [.ref 10, .int Word_size]), .inr (8, .inl Word_letters)]) hc dX10_knot_3 w678 ⟨w680, w5⟩ cal_X10_needName rfl ⟨⟨Nat.le_of_ble_eq_true rfl, Nat.le_of_ble_eq_true rfl⟩, Nat.le_of_ble_eq_true rfl, Nat.le_of_ble_eq_true rfl⟩ (Nat.le_of_ble_eq_true rfl) (Or.inl ⟨_, _, _, _, rfl, rfl⟩) rfl ⟨rfl, ⟨by decide, by decide⟩, rfl, (fr_cons (Or.inl (Nat.le_of_ble_eq_true rfl)) (fr_cons (Or.inl (Nat.le_of_ble_eq_true rfl)) (fr_cons (Or.inl (Nat.le_of_ble_eq_true rfl)) (fr_cons (Or.inl (Nat.le_of_ble_eq_true rfl)) (fr_cons (Or.inl (Nat.le_of_ble_eq_true rfl)) (fr_cons (Or.inl (Nat.le_of_ble_eq_true rfl)) (fr_cons (Or.inl (Nat.le_of_ble_eq_true rfl)) (fr_cons (Or.inl (Nat.le_of_ble_eq_true rfl)) (fr_cons (Or.inl (Nat.le_of_ble_eq_true rfl)) (fr_cons (Or.inr (Nat.le_add_left 1000 _)) (fr_cons (Or.inl (Nat.le_of_ble_eq_true rfl)) (fr_nil)))))))))))), rfl⟩ ?_
    exact VX.out rfl (Nat.le_of_ble_eq_true rfl) (Nat.le_of_ble_eq_true rfl) rfl
def k_X10_name : fK := (yX10_name, cX10_name, 4, (some .int), [], (8, 124), (0, 0), (1, 6))
theorem cal_X10_name : fCal k_X10_name 3 := ⟨⟨wc967, w67⟩, ⟨by decide +kernel, by decide +kernel⟩, by decide +kernel, by decide +kernel⟩
def s_X10_name (a1 : Int32) (a2 : Int32) (a3 : Int32) (State_cells : Nat → Int32) : Option ((Int32 ⊕ String)) := (s_X10_needName a1 a2 State_cells).bind fun v1 => fth v1 (fun v2 => (s_X10_needWhat a3 4).bind fun v3 => fth v3 (fun v4 => (s_X8_ofName a1 a2 a3 State_cells).bind fun v5 => some (.inl v5)) (fun E9 => some (.inr E9))) (fun E9 => some (.inr E9))
set_option maxHeartbeats 4000000 in
set_option maxRecDepth 100000 in
theorem ct_X10_name {a1 : Int32} {a2 : Int32} {a3 : Int32} {State_cells : Nat → Int32} {History_oldest : Int32} {History_size : Int32} {History_snapshotTaken : Int32} {History_saved : Nat → Int32} {History_snapshot : Nat → Int32} {Buffer_size : Int32} {Buffer_codes : Nat → Int32} {Reader_pattern : Nat} {Reader_place : Int32} {Word_size : Int32} {Word_letters : Nat → Int32} {res : (Int32 ⊕ String)} (hf : s_X10_name a1 a2 a3 State_cells = some res) : Ct k_X10_name [.ref 0, .int a1, .int a2, .int a3] [.inl (5, [.ref 1, .ref 3, .ref 6, .ref 8, .ref 9]), .inl (3, [.ref 2]), .inr (910, .inl State_cells), .inl (1, [.ref 4, .ref 5, .int History_oldest, .int History_size, .int History_snapshotTaken]), .inr (5460, .inl History_saved), .inr (910, .inl History_snapshot), .inl (0, [.ref 7, .int Buffer_size]), .inr (60, .inl Buffer_codes), .inl (2, [.ref (Reader_pattern + 1000), .int Reader_place]), .inl (4, [.ref 10, .int Word_size]), .inr (8, .inl Word_letters)] (foI res) [.inl (5, [.ref 1, .ref 3, .ref 6, .ref 8, .ref 9]), .inl (3, [.ref 2]), .inr (910, .inl State_cells), .inl (1, [.ref 4, .ref 5, .int History_oldest, .int History_size, .int History_snapshotTaken]), .inr (5460, .inl History_saved), .inr (910, .inl History_snapshot), .inl (0, [.ref 7, .int Buffer_size]), .inr (60, .inl Buffer_codes), .inl (2, [.ref (Reader_pattern + 1000), .int Reader_place]), .inl (4, [.ref 10, .int Word_size]), .inr (8, .inl Word_letters)] := by
  unfold s_X10_name at hf
  refine Ct.of (L := [some (.ref 0), some (.int a1), some (.int a2), some (.int a3)]) cal_X10_name (fent_pad (j := 0) rfl) (Nat.le_of_ble_eq_true rfl) ?_
  refine V.aload_n (i := 0) dX10_name_0 rfl rfl ?_
  refine V.iload_n (i := 1) dX10_name_1 rfl rfl ?_
  refine V.iload_n (i := 2) dX10_name_2 rfl rfl ?_
  obtain ⟨v1, hv1, hf⟩ := fbind hf
  have hc := ct_X10_needName (a1 := a1) (a2 := a2) (State_cells := State_cells) (History_oldest := History_oldest) (History_size := History_size) (History_snapshotTaken := History_snapshotTaken) (History_saved := History_saved) (History_snapshot := History_snapshot) (Buffer_size := Buffer_size) (Buffer_codes := Buffer_codes) (Reader_pattern := Reader_pattern) (Reader_place := Reader_place) (Word_size := Word_size) (Word_letters := Word_letters) hv1
  rcases hv1b : v1 with v2 | E9
  · rw [hv1b] at hc hf
    dsimp only [fth] at hf
    refine V.callVn (pl := [0, 1, 2, 3, 4, 5, 6, 7, 8, 9, 10]) (σ' := [.inl (5, [.ref 1, .ref 3, .ref 6, .ref 8, .ref 9]), .inl (3, [.ref 2]), .inr (910, .inl State_cells), .inl (1, [.ref 4, .ref 5, .int History_oldest, .int History_size, .int History_snapshotTaken]), .inr (5460, .inl History_saved), .inr (910, .inl History_snapshot), .inl (0, [.ref 7, .int Buffer_size]), .inr (60, .inl Buffer_codes), .inl (2, [.ref (Reader_pattern + 1000), .int Reader_place]), .inl (4, [.ref 10, .int Word_size]), .inr (8, .inl Word_letters)]) (st2 := []) (cl2 := 0) (sl2 := 0) hc dX10_name_3 w678 ⟨w680, w5⟩ cal_X10_needName rfl ⟨⟨Nat.le_of_ble_eq_true rfl, Nat.le_of_ble_eq_true rfl⟩, Nat.le_of_ble_eq_true rfl, Nat.le_of_ble_eq_true rfl⟩ (Nat.le_of_ble_eq_true rfl) (Or.inl ⟨_, _, _, _, rfl, rfl⟩) rfl ⟨rfl, ⟨by decide, by decide⟩, rfl, (fr_cons (Or.inl (Nat.le_of_ble_eq_true rfl)) (fr_cons (Or.inl (Nat.le_of_ble_eq_true rfl)) (fr_cons (Or.inl (Nat.le_of_ble_eq_true rfl)) (fr_cons (Or.inl (Nat.le_of_ble_eq_true rfl)) (fr_cons (Or.inl (Nat.le_of_ble_eq_true rfl)) (fr_cons (Or.inl (Nat.le_of_ble_eq_true rfl)) (fr_cons (Or.inl (Nat.le_of_ble_eq_true rfl)) (fr_cons (Or.inl (Nat.le_of_ble_eq_true rfl)) (fr_cons (Or.inl (Nat.le_of_ble_eq_true rfl)) (fr_cons (Or.inr (Nat.le_add_left 1000 _)) (fr_cons (Or.inl (Nat.le_of_ble_eq_true rfl)) (fr_nil)))))))))))), rfl⟩ fr_v rfl rfl rfl rfl ?_
    refine V.iload_n (i := 3) dX10_name_6 rfl rfl ?_
    refine V.iconst (v := 4) dX10_name_7 rfl ?_
    obtain ⟨v3, hv3, hf⟩ := fbind hf
    have hc := ct_X10_needWhat (a0 := a3) (a1 := 4) hv3
    rcases hv3b : v3 with v4 | E9
    · rw [hv3b] at hc hf
      dsimp only [fth] at hf
      refine V.callSn (pl := []) (σ' := [.inl (5, [.ref 1, .ref 3, .ref 6, .ref 8, .ref 9]), .inl (3, [.ref 2]), .inr (910, .inl State_cells), .inl (1, [.ref 4, .ref 5, .int History_oldest, .int History_size, .int History_snapshotTaken]), .inr (5460, .inl History_saved), .inr (910, .inl History_snapshot), .inl (0, [.ref 7, .int Buffer_size]), .inr (60, .inl Buffer_codes), .inl (2, [.ref (Reader_pattern + 1000), .int Reader_place]), .inl (4, [.ref 10, .int Word_size]), .inr (8, .inl Word_letters)]) (st2 := []) (cl2 := 0) (sl2 := 0) hc dX10_name_8 w947 w948 cal_X10_needWhat ⟨⟨Nat.le_of_ble_eq_true rfl, Nat.le_of_ble_eq_true rfl⟩, Nat.le_of_ble_eq_true rfl, Nat.le_of_ble_eq_true rfl⟩ (Nat.le_of_ble_eq_true rfl) rfl ⟨rfl, ⟨by decide, by decide⟩, rfl, (fr_nil), rfl⟩ fr_v rfl rfl rfl rfl ?_
      refine V.aload_n (i := 0) dX10_name_11 rfl rfl ?_
      refine V.getfield (kf := 0) (v := .ref 1) fl_RX10 dX10_name_12 w181 (Nat.le_of_ble_eq_true rfl) rfl rfl ?_
      refine V.iload_n (i := 1) dX10_name_15 rfl rfl ?_
      refine V.iload_n (i := 2) dX10_name_16 rfl rfl ?_
      refine V.iload_n (i := 3) dX10_name_17 rfl rfl ?_
      obtain ⟨v5, hv5, hf⟩ := fbind hf
      refine V.callSn (pl := [1, 2]) (σ' := [.inl (5, [.ref 1, .ref 3, .ref 6, .ref 8, .ref 9]), .inl (3, [.ref 2]), .inr (910, .inl State_cells), .inl (1, [.ref 4, .ref 5, .int History_oldest, .int History_size, .int History_snapshotTaken]), .inr (5460, .inl History_saved), .inr (910, .inl History_snapshot), .inl (0, [.ref 7, .int Buffer_size]), .inr (60, .inl Buffer_codes), .inl (2, [.ref (Reader_pattern + 1000), .int Reader_place]), .inl (4, [.ref 10, .int Word_size]), .inr (8, .inl Word_letters)]) (st2 := [.int v5]) (cl2 := 0) (sl2 := 0) (ct_X8_ofName (a1 := a1) (a2 := a2) (a3 := a3) (State_cells := State_cells) hv5) dX10_name_18 w968 w454 cal_X8_ofName ⟨⟨Nat.le_of_ble_eq_true rfl, Nat.le_of_ble_eq_true rfl⟩, Nat.le_of_ble_eq_true rfl, Nat.le_of_ble_eq_true rfl⟩ (Nat.le_of_ble_eq_true rfl) rfl ⟨rfl, ⟨by decide, by decide⟩, rfl, (fr_cons (Or.inl (Nat.le_of_ble_eq_true rfl)) (fr_nil)), rfl⟩ fr_i rfl rfl rfl rfl ?_
      obtain rfl := Option.some.inj hf
      exact V.iret dX10_name_21 rfl (Nat.le_of_ble_eq_true rfl) (Nat.le_of_ble_eq_true rfl) rfl
    · rw [hv3b] at hc hf
      dsimp only [fth] at hf
      obtain rfl := Option.some.inj hf
      refine V.callSx (pl := []) (σ' := [.inl (5, [.ref 1, .ref 3, .ref 6, .ref 8, .ref 9]), .inl (3, [.ref 2]), .inr (910, .inl State_cells), .inl (1, [.ref 4, .ref 5, .int History_oldest, .int History_size, .int History_snapshotTaken]), .inr (5460, .inl History_saved), .inr (910, .inl History_snapshot), .inl (0, [.ref 7, .int Buffer_size]), .inr (60, .inl Buffer_codes), .inl (2, [.ref (Reader_pattern + 1000), .int Reader_place]), .inl (4, [.ref 10, .int Word_size]), .inr (8, .inl Word_letters)]) hc dX10_name_8 w947 w948 cal_X10_needWhat ⟨⟨Nat.le_of_ble_eq_true rfl, Nat.le_of_ble_eq_true rfl⟩, Nat.le_of_ble_eq_true rfl, Nat.le_of_ble_eq_true rfl⟩ (Nat.le_of_ble_eq_true rfl) rfl ⟨rfl, ⟨by decide, by decide⟩, rfl, (fr_nil), rfl⟩ ?_
      exact VX.out rfl (Nat.le_of_ble_eq_true rfl) (Nat.le_of_ble_eq_true rfl) rfl
  · rw [hv1b] at hc hf
    dsimp only [fth] at hf
    obtain rfl := Option.some.inj hf
    refine V.callVx (pl := [0, 1, 2, 3, 4, 5, 6, 7, 8, 9, 10]) (σ' := [.inl (5, [.ref 1, .ref 3, .ref 6, .ref 8, .ref 9]), .inl (3, [.ref 2]), .inr (910, .inl State_cells), .inl (1, [.ref 4, .ref 5, .int History_oldest, .int History_size, .int History_snapshotTaken]), .inr (5460, .inl History_saved), .inr (910, .inl History_snapshot), .inl (0, [.ref 7, .int Buffer_size]), .inr (60, .inl Buffer_codes), .inl (2, [.ref (Reader_pattern + 1000), .int Reader_place]), .inl (4, [.ref 10, .int Word_size]), .inr (8, .inl Word_letters)]) hc dX10_name_3 w678 ⟨w680, w5⟩ cal_X10_needName rfl ⟨⟨Nat.le_of_ble_eq_true rfl, Nat.le_of_ble_eq_true rfl⟩, Nat.le_of_ble_eq_true rfl, Nat.le_of_ble_eq_true rfl⟩ (Nat.le_of_ble_eq_true rfl) (Or.inl ⟨_, _, _, _, rfl, rfl⟩) rfl ⟨rfl, ⟨by decide, by decide⟩, rfl, (fr_cons (Or.inl (Nat.le_of_ble_eq_true rfl)) (fr_cons (Or.inl (Nat.le_of_ble_eq_true rfl)) (fr_cons (Or.inl (Nat.le_of_ble_eq_true rfl)) (fr_cons (Or.inl (Nat.le_of_ble_eq_true rfl)) (fr_cons (Or.inl (Nat.le_of_ble_eq_true rfl)) (fr_cons (Or.inl (Nat.le_of_ble_eq_true rfl)) (fr_cons (Or.inl (Nat.le_of_ble_eq_true rfl)) (fr_cons (Or.inl (Nat.le_of_ble_eq_true rfl)) (fr_cons (Or.inl (Nat.le_of_ble_eq_true rfl)) (fr_cons (Or.inr (Nat.le_add_left 1000 _)) (fr_cons (Or.inl (Nat.le_of_ble_eq_true rfl)) (fr_nil)))))))))))), rfl⟩ ?_
    exact VX.out rfl (Nat.le_of_ble_eq_true rfl) (Nat.le_of_ble_eq_true rfl) rfl
def k_X10_fisher : fK := (yX10_fisher, cX10_fisher, 3, (some .int), [], (7, 103), (0, 0), (1, 6))
theorem cal_X10_fisher : fCal k_X10_fisher 2 := ⟨⟨wc975, w67⟩, ⟨by decide +kernel, by decide +kernel⟩, by decide +kernel, by decide +kernel⟩
def s_X10_fisher (a1 : Int32) (a2 : Int32) (State_cells : Nat → Int32) : Option ((Int32 ⊕ String)) := (s_X10_needFisher a1).bind fun v1 => fth v1 (fun v2 => (s_X10_needWhat a2 4).bind fun v3 => fth v3 (fun v4 => (s_X8_ofFisher a1 a2 State_cells).bind fun v5 => some (.inl v5)) (fun E9 => some (.inr E9))) (fun E9 => some (.inr E9))
set_option maxHeartbeats 4000000 in
set_option maxRecDepth 100000 in
theorem ct_X10_fisher {a1 : Int32} {a2 : Int32} {State_cells : Nat → Int32} {History_oldest : Int32} {History_size : Int32} {History_snapshotTaken : Int32} {History_saved : Nat → Int32} {History_snapshot : Nat → Int32} {Buffer_size : Int32} {Buffer_codes : Nat → Int32} {Reader_pattern : Nat} {Reader_place : Int32} {Word_size : Int32} {Word_letters : Nat → Int32} {res : (Int32 ⊕ String)} (hf : s_X10_fisher a1 a2 State_cells = some res) : Ct k_X10_fisher [.ref 0, .int a1, .int a2] [.inl (5, [.ref 1, .ref 3, .ref 6, .ref 8, .ref 9]), .inl (3, [.ref 2]), .inr (910, .inl State_cells), .inl (1, [.ref 4, .ref 5, .int History_oldest, .int History_size, .int History_snapshotTaken]), .inr (5460, .inl History_saved), .inr (910, .inl History_snapshot), .inl (0, [.ref 7, .int Buffer_size]), .inr (60, .inl Buffer_codes), .inl (2, [.ref (Reader_pattern + 1000), .int Reader_place]), .inl (4, [.ref 10, .int Word_size]), .inr (8, .inl Word_letters)] (foI res) [.inl (5, [.ref 1, .ref 3, .ref 6, .ref 8, .ref 9]), .inl (3, [.ref 2]), .inr (910, .inl State_cells), .inl (1, [.ref 4, .ref 5, .int History_oldest, .int History_size, .int History_snapshotTaken]), .inr (5460, .inl History_saved), .inr (910, .inl History_snapshot), .inl (0, [.ref 7, .int Buffer_size]), .inr (60, .inl Buffer_codes), .inl (2, [.ref (Reader_pattern + 1000), .int Reader_place]), .inl (4, [.ref 10, .int Word_size]), .inr (8, .inl Word_letters)] := by
  unfold s_X10_fisher at hf
  refine Ct.of (L := [some (.ref 0), some (.int a1), some (.int a2)]) cal_X10_fisher (fent_pad (j := 0) rfl) (Nat.le_of_ble_eq_true rfl) ?_
  refine V.iload_n (i := 1) dX10_fisher_0 rfl rfl ?_
  obtain ⟨v1, hv1, hf⟩ := fbind hf
  have hc := ct_X10_needFisher (a0 := a1) hv1
  rcases hv1b : v1 with v2 | E9
  · rw [hv1b] at hc hf
    dsimp only [fth] at hf
    refine V.callSn (pl := []) (σ' := [.inl (5, [.ref 1, .ref 3, .ref 6, .ref 8, .ref 9]), .inl (3, [.ref 2]), .inr (910, .inl State_cells), .inl (1, [.ref 4, .ref 5, .int History_oldest, .int History_size, .int History_snapshotTaken]), .inr (5460, .inl History_saved), .inr (910, .inl History_snapshot), .inl (0, [.ref 7, .int Buffer_size]), .inr (60, .inl Buffer_codes), .inl (2, [.ref (Reader_pattern + 1000), .int Reader_place]), .inl (4, [.ref 10, .int Word_size]), .inr (8, .inl Word_letters)]) (st2 := []) (cl2 := 0) (sl2 := 0) hc dX10_fisher_1 w504 w505 cal_X10_needFisher ⟨⟨Nat.le_of_ble_eq_true rfl, Nat.le_of_ble_eq_true rfl⟩, Nat.le_of_ble_eq_true rfl, Nat.le_of_ble_eq_true rfl⟩ (Nat.le_of_ble_eq_true rfl) rfl ⟨rfl, ⟨by decide, by decide⟩, rfl, (fr_nil), rfl⟩ fr_v rfl rfl rfl rfl ?_
    refine V.iload_n (i := 2) dX10_fisher_4 rfl rfl ?_
    refine V.iconst (v := 4) dX10_fisher_5 rfl ?_
    obtain ⟨v3, hv3, hf⟩ := fbind hf
    have hc := ct_X10_needWhat (a0 := a2) (a1 := 4) hv3
    rcases hv3b : v3 with v4 | E9
    · rw [hv3b] at hc hf
      dsimp only [fth] at hf
      refine V.callSn (pl := []) (σ' := [.inl (5, [.ref 1, .ref 3, .ref 6, .ref 8, .ref 9]), .inl (3, [.ref 2]), .inr (910, .inl State_cells), .inl (1, [.ref 4, .ref 5, .int History_oldest, .int History_size, .int History_snapshotTaken]), .inr (5460, .inl History_saved), .inr (910, .inl History_snapshot), .inl (0, [.ref 7, .int Buffer_size]), .inr (60, .inl Buffer_codes), .inl (2, [.ref (Reader_pattern + 1000), .int Reader_place]), .inl (4, [.ref 10, .int Word_size]), .inr (8, .inl Word_letters)]) (st2 := []) (cl2 := 0) (sl2 := 0) hc dX10_fisher_6 w947 w948 cal_X10_needWhat ⟨⟨Nat.le_of_ble_eq_true rfl, Nat.le_of_ble_eq_true rfl⟩, Nat.le_of_ble_eq_true rfl, Nat.le_of_ble_eq_true rfl⟩ (Nat.le_of_ble_eq_true rfl) rfl ⟨rfl, ⟨by decide, by decide⟩, rfl, (fr_nil), rfl⟩ fr_v rfl rfl rfl rfl ?_
      refine V.aload_n (i := 0) dX10_fisher_9 rfl rfl ?_
      refine V.getfield (kf := 0) (v := .ref 1) fl_RX10 dX10_fisher_10 w181 (Nat.le_of_ble_eq_true rfl) rfl rfl ?_
      refine V.iload_n (i := 1) dX10_fisher_13 rfl rfl ?_
      refine V.iload_n (i := 2) dX10_fisher_14 rfl rfl ?_
      obtain ⟨v5, hv5, hf⟩ := fbind hf
      refine V.callSn (pl := [1, 2]) (σ' := [.inl (5, [.ref 1, .ref 3, .ref 6, .ref 8, .ref 9]), .inl (3, [.ref 2]), .inr (910, .inl State_cells), .inl (1, [.ref 4, .ref 5, .int History_oldest, .int History_size, .int History_snapshotTaken]), .inr (5460, .inl History_saved), .inr (910, .inl History_snapshot), .inl (0, [.ref 7, .int Buffer_size]), .inr (60, .inl Buffer_codes), .inl (2, [.ref (Reader_pattern + 1000), .int Reader_place]), .inl (4, [.ref 10, .int Word_size]), .inr (8, .inl Word_letters)]) (st2 := [.int v5]) (cl2 := 0) (sl2 := 0) (ct_X8_ofFisher (a1 := a1) (a2 := a2) (State_cells := State_cells) hv5) dX10_fisher_15 w976 w414 cal_X8_ofFisher ⟨⟨Nat.le_of_ble_eq_true rfl, Nat.le_of_ble_eq_true rfl⟩, Nat.le_of_ble_eq_true rfl, Nat.le_of_ble_eq_true rfl⟩ (Nat.le_of_ble_eq_true rfl) rfl ⟨rfl, ⟨by decide, by decide⟩, rfl, (fr_cons (Or.inl (Nat.le_of_ble_eq_true rfl)) (fr_nil)), rfl⟩ fr_i rfl rfl rfl rfl ?_
      obtain rfl := Option.some.inj hf
      exact V.iret dX10_fisher_18 rfl (Nat.le_of_ble_eq_true rfl) (Nat.le_of_ble_eq_true rfl) rfl
    · rw [hv3b] at hc hf
      dsimp only [fth] at hf
      obtain rfl := Option.some.inj hf
      refine V.callSx (pl := []) (σ' := [.inl (5, [.ref 1, .ref 3, .ref 6, .ref 8, .ref 9]), .inl (3, [.ref 2]), .inr (910, .inl State_cells), .inl (1, [.ref 4, .ref 5, .int History_oldest, .int History_size, .int History_snapshotTaken]), .inr (5460, .inl History_saved), .inr (910, .inl History_snapshot), .inl (0, [.ref 7, .int Buffer_size]), .inr (60, .inl Buffer_codes), .inl (2, [.ref (Reader_pattern + 1000), .int Reader_place]), .inl (4, [.ref 10, .int Word_size]), .inr (8, .inl Word_letters)]) hc dX10_fisher_6 w947 w948 cal_X10_needWhat ⟨⟨Nat.le_of_ble_eq_true rfl, Nat.le_of_ble_eq_true rfl⟩, Nat.le_of_ble_eq_true rfl, Nat.le_of_ble_eq_true rfl⟩ (Nat.le_of_ble_eq_true rfl) rfl ⟨rfl, ⟨by decide, by decide⟩, rfl, (fr_nil), rfl⟩ ?_
      exact VX.out rfl (Nat.le_of_ble_eq_true rfl) (Nat.le_of_ble_eq_true rfl) rfl
  · rw [hv1b] at hc hf
    dsimp only [fth] at hf
    obtain rfl := Option.some.inj hf
    refine V.callSx (pl := []) (σ' := [.inl (5, [.ref 1, .ref 3, .ref 6, .ref 8, .ref 9]), .inl (3, [.ref 2]), .inr (910, .inl State_cells), .inl (1, [.ref 4, .ref 5, .int History_oldest, .int History_size, .int History_snapshotTaken]), .inr (5460, .inl History_saved), .inr (910, .inl History_snapshot), .inl (0, [.ref 7, .int Buffer_size]), .inr (60, .inl Buffer_codes), .inl (2, [.ref (Reader_pattern + 1000), .int Reader_place]), .inl (4, [.ref 10, .int Word_size]), .inr (8, .inl Word_letters)]) hc dX10_fisher_1 w504 w505 cal_X10_needFisher ⟨⟨Nat.le_of_ble_eq_true rfl, Nat.le_of_ble_eq_true rfl⟩, Nat.le_of_ble_eq_true rfl, Nat.le_of_ble_eq_true rfl⟩ (Nat.le_of_ble_eq_true rfl) rfl ⟨rfl, ⟨by decide, by decide⟩, rfl, (fr_nil), rfl⟩ ?_
    exact VX.out rfl (Nat.le_of_ble_eq_true rfl) (Nat.le_of_ble_eq_true rfl) rfl
def k_X10_drowned : fK := (yX10_drowned, cX10_drowned, 3, (some .int), [], (7, 103), (0, 0), (1, 6))
theorem cal_X10_drowned : fCal k_X10_drowned 2 := ⟨⟨wc983, w67⟩, ⟨by decide +kernel, by decide +kernel⟩, by decide +kernel, by decide +kernel⟩
def s_X10_drowned (a1 : Int32) (a2 : Int32) (State_cells : Nat → Int32) : Option ((Int32 ⊕ String)) := if (0 ≤ a1 : Prop) then ((s_X10_needWhat a2 3).bind fun v1 => fth v1 (fun v2 => (s_X6_ofEntry a1 a2 State_cells).bind fun v3 => some (.inl v3)) (fun E9 => some (.inr E9))) else (some (.inr "java/lang/IllegalArgumentException"))
set_option maxHeartbeats 4000000 in
set_option maxRecDepth 100000 in
theorem ct_X10_drowned {a1 : Int32} {a2 : Int32} {State_cells : Nat → Int32} {History_oldest : Int32} {History_size : Int32} {History_snapshotTaken : Int32} {History_saved : Nat → Int32} {History_snapshot : Nat → Int32} {Buffer_size : Int32} {Buffer_codes : Nat → Int32} {Reader_pattern : Nat} {Reader_place : Int32} {Word_size : Int32} {Word_letters : Nat → Int32} {res : (Int32 ⊕ String)} (hf : s_X10_drowned a1 a2 State_cells = some res) : Ct k_X10_drowned [.ref 0, .int a1, .int a2] [.inl (5, [.ref 1, .ref 3, .ref 6, .ref 8, .ref 9]), .inl (3, [.ref 2]), .inr (910, .inl State_cells), .inl (1, [.ref 4, .ref 5, .int History_oldest, .int History_size, .int History_snapshotTaken]), .inr (5460, .inl History_saved), .inr (910, .inl History_snapshot), .inl (0, [.ref 7, .int Buffer_size]), .inr (60, .inl Buffer_codes), .inl (2, [.ref (Reader_pattern + 1000), .int Reader_place]), .inl (4, [.ref 10, .int Word_size]), .inr (8, .inl Word_letters)] (foI res) [.inl (5, [.ref 1, .ref 3, .ref 6, .ref 8, .ref 9]), .inl (3, [.ref 2]), .inr (910, .inl State_cells), .inl (1, [.ref 4, .ref 5, .int History_oldest, .int History_size, .int History_snapshotTaken]), .inr (5460, .inl History_saved), .inr (910, .inl History_snapshot), .inl (0, [.ref 7, .int Buffer_size]), .inr (60, .inl Buffer_codes), .inl (2, [.ref (Reader_pattern + 1000), .int Reader_place]), .inl (4, [.ref 10, .int Word_size]), .inr (8, .inl Word_letters)] := by
  unfold s_X10_drowned at hf
  refine Ct.of (L := [some (.ref 0), some (.int a1), some (.int a2)]) cal_X10_drowned (fent_pad (j := 0) rfl) (Nat.le_of_ble_eq_true rfl) ?_
  refine V.iload_n (i := 1) dX10_drowned_0 rfl rfl ?_
  refine V.if_ge (tgt := 14) dX10_drowned_1 (by decide) (fun h => ?_) (fun h => ?_)
  · have hf := fif_t h hf
    refine V.iload_n (i := 2) dX10_drowned_14 rfl rfl ?_
    refine V.iconst (v := 3) dX10_drowned_15 rfl ?_
    obtain ⟨v1, hv1, hf⟩ := fbind hf
    have hc := ct_X10_needWhat (a0 := a2) (a1 := 3) hv1
    rcases hv1b : v1 with v2 | E9
    · rw [hv1b] at hc hf
      dsimp only [fth] at hf
      refine V.callSn (pl := []) (σ' := [.inl (5, [.ref 1, .ref 3, .ref 6, .ref 8, .ref 9]), .inl (3, [.ref 2]), .inr (910, .inl State_cells), .inl (1, [.ref 4, .ref 5, .int History_oldest, .int History_size, .int History_snapshotTaken]), .inr (5460, .inl History_saved), .inr (910, .inl History_snapshot), .inl (0, [.ref 7, .int Buffer_size]), .inr (60, .inl Buffer_codes), .inl (2, [.ref (Reader_pattern + 1000), .int Reader_place]), .inl (4, [.ref 10, .int Word_size]), .inr (8, .inl Word_letters)]) (st2 := []) (cl2 := 0) (sl2 := 0) hc dX10_drowned_16 w947 w948 cal_X10_needWhat ⟨⟨Nat.le_of_ble_eq_true rfl, Nat.le_of_ble_eq_true rfl⟩, Nat.le_of_ble_eq_true rfl, Nat.le_of_ble_eq_true rfl⟩ (Nat.le_of_ble_eq_true rfl) rfl ⟨rfl, ⟨by decide, by decide⟩, rfl, (fr_nil), rfl⟩ fr_v rfl rfl rfl rfl ?_
      refine V.aload_n (i := 0) dX10_drowned_19 rfl rfl ?_
      refine V.getfield (kf := 0) (v := .ref 1) fl_RX10 dX10_drowned_20 w181 (Nat.le_of_ble_eq_true rfl) rfl rfl ?_
      refine V.iload_n (i := 1) dX10_drowned_23 rfl rfl ?_
      refine V.iload_n (i := 2) dX10_drowned_24 rfl rfl ?_
      obtain ⟨v3, hv3, hf⟩ := fbind hf
      refine V.callSn (pl := [1, 2]) (σ' := [.inl (5, [.ref 1, .ref 3, .ref 6, .ref 8, .ref 9]), .inl (3, [.ref 2]), .inr (910, .inl State_cells), .inl (1, [.ref 4, .ref 5, .int History_oldest, .int History_size, .int History_snapshotTaken]), .inr (5460, .inl History_saved), .inr (910, .inl History_snapshot), .inl (0, [.ref 7, .int Buffer_size]), .inr (60, .inl Buffer_codes), .inl (2, [.ref (Reader_pattern + 1000), .int Reader_place]), .inl (4, [.ref 10, .int Word_size]), .inr (8, .inl Word_letters)]) (st2 := [.int v3]) (cl2 := 0) (sl2 := 0) (ct_X6_ofEntry (a1 := a1) (a2 := a2) (State_cells := State_cells) hv3) dX10_drowned_25 w985 w473 cal_X6_ofEntry ⟨⟨Nat.le_of_ble_eq_true rfl, Nat.le_of_ble_eq_true rfl⟩, Nat.le_of_ble_eq_true rfl, Nat.le_of_ble_eq_true rfl⟩ (Nat.le_of_ble_eq_true rfl) rfl ⟨rfl, ⟨by decide, by decide⟩, rfl, (fr_cons (Or.inl (Nat.le_of_ble_eq_true rfl)) (fr_nil)), rfl⟩ fr_i rfl rfl rfl rfl ?_
      obtain rfl := Option.some.inj hf
      exact V.iret dX10_drowned_28 rfl (Nat.le_of_ble_eq_true rfl) (Nat.le_of_ble_eq_true rfl) rfl
    · rw [hv1b] at hc hf
      dsimp only [fth] at hf
      obtain rfl := Option.some.inj hf
      refine V.callSx (pl := []) (σ' := [.inl (5, [.ref 1, .ref 3, .ref 6, .ref 8, .ref 9]), .inl (3, [.ref 2]), .inr (910, .inl State_cells), .inl (1, [.ref 4, .ref 5, .int History_oldest, .int History_size, .int History_snapshotTaken]), .inr (5460, .inl History_saved), .inr (910, .inl History_snapshot), .inl (0, [.ref 7, .int Buffer_size]), .inr (60, .inl Buffer_codes), .inl (2, [.ref (Reader_pattern + 1000), .int Reader_place]), .inl (4, [.ref 10, .int Word_size]), .inr (8, .inl Word_letters)]) hc dX10_drowned_16 w947 w948 cal_X10_needWhat ⟨⟨Nat.le_of_ble_eq_true rfl, Nat.le_of_ble_eq_true rfl⟩, Nat.le_of_ble_eq_true rfl, Nat.le_of_ble_eq_true rfl⟩ (Nat.le_of_ble_eq_true rfl) rfl ⟨rfl, ⟨by decide, by decide⟩, rfl, (fr_nil), rfl⟩ ?_
      exact VX.out rfl (Nat.le_of_ble_eq_true rfl) (Nat.le_of_ble_eq_true rfl) rfl
  · have hf := fif_f h hf
    obtain rfl := Option.some.inj hf
    exact V.throwS (i := 26) th_RX10_IllegalArgumentException_110 (List.mem_of_getElem? (i := 26) rfl) dX10_drowned_4 dX10_drowned_7 dX10_drowned_8 dX10_drowned_10 dX10_drowned_13 rfl (Nat.le_of_ble_eq_true rfl) (Nat.le_of_ble_eq_true rfl) ⟨Nat.le_of_ble_eq_true rfl, Nat.le_of_ble_eq_true rfl⟩ (Nat.le_of_ble_eq_true rfl) (Nat.le_of_ble_eq_true rfl) rfl
def k_X10_find : fK := (yX10_find, cX10_find, 1, (some .int), [], (7, 102), (0, 0), (1, 6))
theorem cal_X10_find : fCal k_X10_find 0 := ⟨⟨wc992, w67⟩, ⟨by decide +kernel, by decide +kernel⟩, by decide +kernel, by decide +kernel⟩
def s_X10_find (State_cells : Nat → Int32) (Buffer_size : Int32) (Buffer_codes : Nat → Int32) (Word_size : Int32) (Word_letters : Nat → Int32) : Option ((Int32 ⊕ String) × (Int32) × (Nat → Int32)) := (s_X10_needWord Buffer_size Buffer_codes Word_size Word_letters).bind fun v1 => fth v1.1 (fun v2 => (s_X6_latestWith State_cells v1.2.1 v1.2.2).bind fun v3 => some (.inl v3, v1.2.1, v1.2.2)) (fun E9 => some (.inr E9, v1.2.1, v1.2.2))
set_option maxHeartbeats 4000000 in
set_option maxRecDepth 100000 in
theorem ct_X10_find {State_cells : Nat → Int32} {History_oldest : Int32} {History_size : Int32} {History_snapshotTaken : Int32} {History_saved : Nat → Int32} {History_snapshot : Nat → Int32} {Buffer_size : Int32} {Buffer_codes : Nat → Int32} {Reader_pattern : Nat} {Reader_place : Int32} {Word_size : Int32} {Word_letters : Nat → Int32} {res : (Int32 ⊕ String) × (Int32) × (Nat → Int32)} (hf : s_X10_find State_cells Buffer_size Buffer_codes Word_size Word_letters = some res) : Ct k_X10_find [.ref 0] [.inl (5, [.ref 1, .ref 3, .ref 6, .ref 8, .ref 9]), .inl (3, [.ref 2]), .inr (910, .inl State_cells), .inl (1, [.ref 4, .ref 5, .int History_oldest, .int History_size, .int History_snapshotTaken]), .inr (5460, .inl History_saved), .inr (910, .inl History_snapshot), .inl (0, [.ref 7, .int Buffer_size]), .inr (60, .inl Buffer_codes), .inl (2, [.ref (Reader_pattern + 1000), .int Reader_place]), .inl (4, [.ref 10, .int Word_size]), .inr (8, .inl Word_letters)] (foI res.1) [.inl (5, [.ref 1, .ref 3, .ref 6, .ref 8, .ref 9]), .inl (3, [.ref 2]), .inr (910, .inl State_cells), .inl (1, [.ref 4, .ref 5, .int History_oldest, .int History_size, .int History_snapshotTaken]), .inr (5460, .inl History_saved), .inr (910, .inl History_snapshot), .inl (0, [.ref 7, .int Buffer_size]), .inr (60, .inl Buffer_codes), .inl (2, [.ref (Reader_pattern + 1000), .int Reader_place]), .inl (4, [.ref 10, .int res.2.1]), .inr (8, .inl res.2.2)] := by
  unfold s_X10_find at hf
  refine Ct.of (L := [some (.ref 0)]) cal_X10_find (fent_pad (j := 0) rfl) (Nat.le_of_ble_eq_true rfl) ?_
  refine V.aload_n (i := 0) dX10_find_0 rfl rfl ?_
  obtain ⟨v1, hv1, hf⟩ := fbind hf
  have hc := ct_X10_needWord (State_cells := State_cells) (History_oldest := History_oldest) (History_size := History_size) (History_snapshotTaken := History_snapshotTaken) (History_saved := History_saved) (History_snapshot := History_snapshot) (Buffer_size := Buffer_size) (Buffer_codes := Buffer_codes) (Reader_pattern := Reader_pattern) (Reader_place := Reader_place) (Word_size := Word_size) (Word_letters := Word_letters) hv1
  rcases hv1b : v1.1 with v2 | E9
  · rw [hv1b] at hc hf
    dsimp only [fth] at hf
    refine V.callVn (pl := [0, 1, 2, 3, 4, 5, 6, 7, 8, 9, 10]) (σ' := [.inl (5, [.ref 1, .ref 3, .ref 6, .ref 8, .ref 9]), .inl (3, [.ref 2]), .inr (910, .inl State_cells), .inl (1, [.ref 4, .ref 5, .int History_oldest, .int History_size, .int History_snapshotTaken]), .inr (5460, .inl History_saved), .inr (910, .inl History_snapshot), .inl (0, [.ref 7, .int Buffer_size]), .inr (60, .inl Buffer_codes), .inl (2, [.ref (Reader_pattern + 1000), .int Reader_place]), .inl (4, [.ref 10, .int v1.2.1]), .inr (8, .inl v1.2.2)]) (st2 := []) (cl2 := 0) (sl2 := 0) hc dX10_find_1 w574 ⟨w576, w3⟩ cal_X10_needWord rfl ⟨⟨Nat.le_of_ble_eq_true rfl, Nat.le_of_ble_eq_true rfl⟩, Nat.le_of_ble_eq_true rfl, Nat.le_of_ble_eq_true rfl⟩ (Nat.le_of_ble_eq_true rfl) (Or.inl ⟨_, _, _, _, rfl, rfl⟩) rfl ⟨rfl, ⟨by decide, by decide⟩, rfl, (fr_cons (Or.inl (Nat.le_of_ble_eq_true rfl)) (fr_cons (Or.inl (Nat.le_of_ble_eq_true rfl)) (fr_cons (Or.inl (Nat.le_of_ble_eq_true rfl)) (fr_cons (Or.inl (Nat.le_of_ble_eq_true rfl)) (fr_cons (Or.inl (Nat.le_of_ble_eq_true rfl)) (fr_cons (Or.inl (Nat.le_of_ble_eq_true rfl)) (fr_cons (Or.inl (Nat.le_of_ble_eq_true rfl)) (fr_cons (Or.inl (Nat.le_of_ble_eq_true rfl)) (fr_cons (Or.inl (Nat.le_of_ble_eq_true rfl)) (fr_cons (Or.inr (Nat.le_add_left 1000 _)) (fr_cons (Or.inl (Nat.le_of_ble_eq_true rfl)) (fr_nil)))))))))))), rfl⟩ fr_v rfl rfl rfl rfl ?_
    refine V.aload_n (i := 0) dX10_find_4 rfl rfl ?_
    refine V.getfield (kf := 0) (v := .ref 1) fl_RX10 dX10_find_5 w181 (Nat.le_of_ble_eq_true rfl) rfl rfl ?_
    refine V.aload_n (i := 0) dX10_find_8 rfl rfl ?_
    refine V.getfield (kf := 4) (v := .ref 9) fl_RX10 dX10_find_9 w185 (Nat.le_of_ble_eq_true rfl) rfl rfl ?_
    obtain ⟨v3, hv3, hf⟩ := fbind hf
    refine V.callSn (pl := [1, 2, 9, 10]) (σ' := [.inl (5, [.ref 1, .ref 3, .ref 6, .ref 8, .ref 9]), .inl (3, [.ref 2]), .inr (910, .inl State_cells), .inl (1, [.ref 4, .ref 5, .int History_oldest, .int History_size, .int History_snapshotTaken]), .inr (5460, .inl History_saved), .inr (910, .inl History_snapshot), .inl (0, [.ref 7, .int Buffer_size]), .inr (60, .inl Buffer_codes), .inl (2, [.ref (Reader_pattern + 1000), .int Reader_place]), .inl (4, [.ref 10, .int v1.2.1]), .inr (8, .inl v1.2.2)]) (st2 := [.int v3]) (cl2 := 0) (sl2 := 0) (ct_X6_latestWith (State_cells := State_cells) (Word_size := v1.2.1) (Word_letters := v1.2.2) hv3) dX10_find_12 w993 w994 cal_X6_latestWith ⟨⟨Nat.le_of_ble_eq_true rfl, Nat.le_of_ble_eq_true rfl⟩, Nat.le_of_ble_eq_true rfl, Nat.le_of_ble_eq_true rfl⟩ (Nat.le_of_ble_eq_true rfl) rfl ⟨rfl, ⟨by decide, by decide⟩, rfl, (fr_cons (Or.inl (Nat.le_of_ble_eq_true rfl)) (fr_cons (Or.inl (Nat.le_of_ble_eq_true rfl)) (fr_nil))), rfl⟩ fr_i rfl rfl rfl rfl ?_
    obtain rfl := Option.some.inj hf
    exact V.iret dX10_find_15 rfl (Nat.le_of_ble_eq_true rfl) (Nat.le_of_ble_eq_true rfl) rfl
  · rw [hv1b] at hc hf
    dsimp only [fth] at hf
    obtain rfl := Option.some.inj hf
    refine V.callVx (pl := [0, 1, 2, 3, 4, 5, 6, 7, 8, 9, 10]) (σ' := [.inl (5, [.ref 1, .ref 3, .ref 6, .ref 8, .ref 9]), .inl (3, [.ref 2]), .inr (910, .inl State_cells), .inl (1, [.ref 4, .ref 5, .int History_oldest, .int History_size, .int History_snapshotTaken]), .inr (5460, .inl History_saved), .inr (910, .inl History_snapshot), .inl (0, [.ref 7, .int Buffer_size]), .inr (60, .inl Buffer_codes), .inl (2, [.ref (Reader_pattern + 1000), .int Reader_place]), .inl (4, [.ref 10, .int v1.2.1]), .inr (8, .inl v1.2.2)]) hc dX10_find_1 w574 ⟨w576, w3⟩ cal_X10_needWord rfl ⟨⟨Nat.le_of_ble_eq_true rfl, Nat.le_of_ble_eq_true rfl⟩, Nat.le_of_ble_eq_true rfl, Nat.le_of_ble_eq_true rfl⟩ (Nat.le_of_ble_eq_true rfl) (Or.inl ⟨_, _, _, _, rfl, rfl⟩) rfl ⟨rfl, ⟨by decide, by decide⟩, rfl, (fr_cons (Or.inl (Nat.le_of_ble_eq_true rfl)) (fr_cons (Or.inl (Nat.le_of_ble_eq_true rfl)) (fr_cons (Or.inl (Nat.le_of_ble_eq_true rfl)) (fr_cons (Or.inl (Nat.le_of_ble_eq_true rfl)) (fr_cons (Or.inl (Nat.le_of_ble_eq_true rfl)) (fr_cons (Or.inl (Nat.le_of_ble_eq_true rfl)) (fr_cons (Or.inl (Nat.le_of_ble_eq_true rfl)) (fr_cons (Or.inl (Nat.le_of_ble_eq_true rfl)) (fr_cons (Or.inl (Nat.le_of_ble_eq_true rfl)) (fr_cons (Or.inr (Nat.le_add_left 1000 _)) (fr_cons (Or.inl (Nat.le_of_ble_eq_true rfl)) (fr_nil)))))))))))), rfl⟩ ?_
    exact VX.out rfl (Nat.le_of_ble_eq_true rfl) (Nat.le_of_ble_eq_true rfl) rfl
def k_X10_count : fK := (yX10_count, cX10_count, 2, (some .int), [], (7, 143), (0, 0), (1, 6))
theorem cal_X10_count : fCal k_X10_count 1 := ⟨⟨wc1007, w67⟩, ⟨by decide +kernel, by decide +kernel⟩, by decide +kernel, by decide +kernel⟩
def s_X10_count (a1 : Int32) (State_cells : Nat → Int32) (History_size : Int32) : Option ((Int32 ⊕ String)) := (s_X10_needWhat a1 13).bind fun v1 => fth v1 (fun v2 => if (a1 = 13 : Prop) then ((s_X3_size History_size).bind fun v4 => some (.inl v4)) else ((s_X8_ofAll a1 State_cells).bind fun v3 => some (.inl v3))) (fun E9 => some (.inr E9))
set_option maxHeartbeats 4000000 in
set_option maxRecDepth 100000 in
theorem ct_X10_count {a1 : Int32} {State_cells : Nat → Int32} {History_oldest : Int32} {History_size : Int32} {History_snapshotTaken : Int32} {History_saved : Nat → Int32} {History_snapshot : Nat → Int32} {Buffer_size : Int32} {Buffer_codes : Nat → Int32} {Reader_pattern : Nat} {Reader_place : Int32} {Word_size : Int32} {Word_letters : Nat → Int32} {res : (Int32 ⊕ String)} (hf : s_X10_count a1 State_cells History_size = some res) : Ct k_X10_count [.ref 0, .int a1] [.inl (5, [.ref 1, .ref 3, .ref 6, .ref 8, .ref 9]), .inl (3, [.ref 2]), .inr (910, .inl State_cells), .inl (1, [.ref 4, .ref 5, .int History_oldest, .int History_size, .int History_snapshotTaken]), .inr (5460, .inl History_saved), .inr (910, .inl History_snapshot), .inl (0, [.ref 7, .int Buffer_size]), .inr (60, .inl Buffer_codes), .inl (2, [.ref (Reader_pattern + 1000), .int Reader_place]), .inl (4, [.ref 10, .int Word_size]), .inr (8, .inl Word_letters)] (foI res) [.inl (5, [.ref 1, .ref 3, .ref 6, .ref 8, .ref 9]), .inl (3, [.ref 2]), .inr (910, .inl State_cells), .inl (1, [.ref 4, .ref 5, .int History_oldest, .int History_size, .int History_snapshotTaken]), .inr (5460, .inl History_saved), .inr (910, .inl History_snapshot), .inl (0, [.ref 7, .int Buffer_size]), .inr (60, .inl Buffer_codes), .inl (2, [.ref (Reader_pattern + 1000), .int Reader_place]), .inl (4, [.ref 10, .int Word_size]), .inr (8, .inl Word_letters)] := by
  unfold s_X10_count at hf
  refine Ct.of (L := [some (.ref 0), some (.int a1)]) cal_X10_count (fent_pad (j := 0) rfl) (Nat.le_of_ble_eq_true rfl) ?_
  refine V.iload_n (i := 1) dX10_count_0 rfl rfl ?_
  refine V.bipush (v := 13) dX10_count_1 rfl ?_
  obtain ⟨v1, hv1, hf⟩ := fbind hf
  have hc := ct_X10_needWhat (a0 := a1) (a1 := 13) hv1
  rcases hv1b : v1 with v2 | E9
  · rw [hv1b] at hc hf
    dsimp only [fth] at hf
    refine V.callSn (pl := []) (σ' := [.inl (5, [.ref 1, .ref 3, .ref 6, .ref 8, .ref 9]), .inl (3, [.ref 2]), .inr (910, .inl State_cells), .inl (1, [.ref 4, .ref 5, .int History_oldest, .int History_size, .int History_snapshotTaken]), .inr (5460, .inl History_saved), .inr (910, .inl History_snapshot), .inl (0, [.ref 7, .int Buffer_size]), .inr (60, .inl Buffer_codes), .inl (2, [.ref (Reader_pattern + 1000), .int Reader_place]), .inl (4, [.ref 10, .int Word_size]), .inr (8, .inl Word_letters)]) (st2 := []) (cl2 := 0) (sl2 := 0) hc dX10_count_3 w947 w948 cal_X10_needWhat ⟨⟨Nat.le_of_ble_eq_true rfl, Nat.le_of_ble_eq_true rfl⟩, Nat.le_of_ble_eq_true rfl, Nat.le_of_ble_eq_true rfl⟩ (Nat.le_of_ble_eq_true rfl) rfl ⟨rfl, ⟨by decide, by decide⟩, rfl, (fr_nil), rfl⟩ fr_v rfl rfl rfl rfl ?_
    refine V.iload_n (i := 1) dX10_count_6 rfl rfl ?_
    refine V.bipush (v := 13) dX10_count_7 rfl ?_
    refine V.icmp_ne (tgt := 22) dX10_count_9 (by decide) (fun h => ?_) (fun h => ?_)
    · have hf := fif_f h hf
      refine V.aload_n (i := 0) dX10_count_22 rfl rfl ?_
      refine V.getfield (kf := 0) (v := .ref 1) fl_RX10 dX10_count_23 w181 (Nat.le_of_ble_eq_true rfl) rfl rfl ?_
      refine V.iload_n (i := 1) dX10_count_26 rfl rfl ?_
      obtain ⟨v3, hv3, hf⟩ := fbind hf
      refine V.callSn (pl := [1, 2]) (σ' := [.inl (5, [.ref 1, .ref 3, .ref 6, .ref 8, .ref 9]), .inl (3, [.ref 2]), .inr (910, .inl State_cells), .inl (1, [.ref 4, .ref 5, .int History_oldest, .int History_size, .int History_snapshotTaken]), .inr (5460, .inl History_saved), .inr (910, .inl History_snapshot), .inl (0, [.ref 7, .int Buffer_size]), .inr (60, .inl Buffer_codes), .inl (2, [.ref (Reader_pattern + 1000), .int Reader_place]), .inl (4, [.ref 10, .int Word_size]), .inr (8, .inl Word_letters)]) (st2 := [.int v3]) (cl2 := 0) (sl2 := 0) (ct_X8_ofAll (a1 := a1) (State_cells := State_cells) hv3) dX10_count_27 w357 w358 cal_X8_ofAll ⟨⟨Nat.le_of_ble_eq_true rfl, Nat.le_of_ble_eq_true rfl⟩, Nat.le_of_ble_eq_true rfl, Nat.le_of_ble_eq_true rfl⟩ (Nat.le_of_ble_eq_true rfl) rfl ⟨rfl, ⟨by decide, by decide⟩, rfl, (fr_cons (Or.inl (Nat.le_of_ble_eq_true rfl)) (fr_nil)), rfl⟩ fr_i rfl rfl rfl rfl ?_
      obtain rfl := Option.some.inj hf
      exact V.iret dX10_count_30 rfl (Nat.le_of_ble_eq_true rfl) (Nat.le_of_ble_eq_true rfl) rfl
    · have hf := fif_t h hf
      refine V.aload_n (i := 0) dX10_count_12 rfl rfl ?_
      refine V.getfield (kf := 1) (v := .ref 3) fl_RX10 dX10_count_13 w182 (Nat.le_of_ble_eq_true rfl) rfl rfl ?_
      obtain ⟨v4, hv4, hf⟩ := fbind hf
      refine V.callVn (pl := [3, 4, 5]) (σ' := [.inl (5, [.ref 1, .ref 3, .ref 6, .ref 8, .ref 9]), .inl (3, [.ref 2]), .inr (910, .inl State_cells), .inl (1, [.ref 4, .ref 5, .int History_oldest, .int History_size, .int History_snapshotTaken]), .inr (5460, .inl History_saved), .inr (910, .inl History_snapshot), .inl (0, [.ref 7, .int Buffer_size]), .inr (60, .inl Buffer_codes), .inl (2, [.ref (Reader_pattern + 1000), .int Reader_place]), .inl (4, [.ref 10, .int Word_size]), .inr (8, .inl Word_letters)]) (st2 := [.int v4]) (cl2 := 0) (sl2 := 0) (ct_X3_size (History_oldest := History_oldest) (History_size := History_size) (History_snapshotTaken := History_snapshotTaken) (History_saved := History_saved) (History_snapshot := History_snapshot) hv4) dX10_count_16 w390 ⟨w391, w392⟩ cal_X3_size rfl ⟨⟨Nat.le_of_ble_eq_true rfl, Nat.le_of_ble_eq_true rfl⟩, Nat.le_of_ble_eq_true rfl, Nat.le_of_ble_eq_true rfl⟩ (Nat.le_of_ble_eq_true rfl) (Or.inl ⟨_, _, _, _, rfl, rfl⟩) rfl ⟨rfl, ⟨by decide, by decide⟩, rfl, (fr_cons (Or.inl (Nat.le_of_ble_eq_true rfl)) (fr_cons (Or.inl (Nat.le_of_ble_eq_true rfl)) (fr_nil))), rfl⟩ fr_i rfl rfl rfl rfl ?_
      refine V.goto (tgt := 30) dX10_count_19 (by decide) ?_
      obtain rfl := Option.some.inj hf
      exact V.iret dX10_count_30 rfl (Nat.le_of_ble_eq_true rfl) (Nat.le_of_ble_eq_true rfl) rfl
  · rw [hv1b] at hc hf
    dsimp only [fth] at hf
    obtain rfl := Option.some.inj hf
    refine V.callSx (pl := []) (σ' := [.inl (5, [.ref 1, .ref 3, .ref 6, .ref 8, .ref 9]), .inl (3, [.ref 2]), .inr (910, .inl State_cells), .inl (1, [.ref 4, .ref 5, .int History_oldest, .int History_size, .int History_snapshotTaken]), .inr (5460, .inl History_saved), .inr (910, .inl History_snapshot), .inl (0, [.ref 7, .int Buffer_size]), .inr (60, .inl Buffer_codes), .inl (2, [.ref (Reader_pattern + 1000), .int Reader_place]), .inl (4, [.ref 10, .int Word_size]), .inr (8, .inl Word_letters)]) hc dX10_count_3 w947 w948 cal_X10_needWhat ⟨⟨Nat.le_of_ble_eq_true rfl, Nat.le_of_ble_eq_true rfl⟩, Nat.le_of_ble_eq_true rfl, Nat.le_of_ble_eq_true rfl⟩ (Nat.le_of_ble_eq_true rfl) rfl ⟨rfl, ⟨by decide, by decide⟩, rfl, (fr_nil), rfl⟩ ?_
    exact VX.out rfl (Nat.le_of_ble_eq_true rfl) (Nat.le_of_ble_eq_true rfl) rfl
def k_X10_whyNot : fK := (yX10_whyNot, cX10_whyNot, 2, (some .int), [], (7, 102), (0, 0), (1, 6))
theorem cal_X10_whyNot : fCal k_X10_whyNot 1 := ⟨⟨wc1014, w67⟩, ⟨by decide +kernel, by decide +kernel⟩, by decide +kernel, by decide +kernel⟩
def s_X10_whyNot (a1 : Int32) (State_cells : Nat → Int32) (Buffer_size : Int32) (Buffer_codes : Nat → Int32) (Word_size : Int32) (Word_letters : Nat → Int32) : Option ((Int32 ⊕ String) × (Int32) × (Nat → Int32)) := (s_X10_needFisher a1).bind fun v1 => fth v1 (fun v2 => (s_X10_needWord Buffer_size Buffer_codes Word_size Word_letters).bind fun v3 => fth v3.1 (fun v4 => (s_X4_whyNotTied a1 State_cells v3.2.1 v3.2.2).bind fun v5 => some (.inl v5, v3.2.1, v3.2.2)) (fun E9 => some (.inr E9, v3.2.1, v3.2.2))) (fun E9 => some (.inr E9, Word_size, Word_letters))
set_option maxHeartbeats 4000000 in
set_option maxRecDepth 100000 in
theorem ct_X10_whyNot {a1 : Int32} {State_cells : Nat → Int32} {History_oldest : Int32} {History_size : Int32} {History_snapshotTaken : Int32} {History_saved : Nat → Int32} {History_snapshot : Nat → Int32} {Buffer_size : Int32} {Buffer_codes : Nat → Int32} {Reader_pattern : Nat} {Reader_place : Int32} {Word_size : Int32} {Word_letters : Nat → Int32} {res : (Int32 ⊕ String) × (Int32) × (Nat → Int32)} (hf : s_X10_whyNot a1 State_cells Buffer_size Buffer_codes Word_size Word_letters = some res) : Ct k_X10_whyNot [.ref 0, .int a1] [.inl (5, [.ref 1, .ref 3, .ref 6, .ref 8, .ref 9]), .inl (3, [.ref 2]), .inr (910, .inl State_cells), .inl (1, [.ref 4, .ref 5, .int History_oldest, .int History_size, .int History_snapshotTaken]), .inr (5460, .inl History_saved), .inr (910, .inl History_snapshot), .inl (0, [.ref 7, .int Buffer_size]), .inr (60, .inl Buffer_codes), .inl (2, [.ref (Reader_pattern + 1000), .int Reader_place]), .inl (4, [.ref 10, .int Word_size]), .inr (8, .inl Word_letters)] (foI res.1) [.inl (5, [.ref 1, .ref 3, .ref 6, .ref 8, .ref 9]), .inl (3, [.ref 2]), .inr (910, .inl State_cells), .inl (1, [.ref 4, .ref 5, .int History_oldest, .int History_size, .int History_snapshotTaken]), .inr (5460, .inl History_saved), .inr (910, .inl History_snapshot), .inl (0, [.ref 7, .int Buffer_size]), .inr (60, .inl Buffer_codes), .inl (2, [.ref (Reader_pattern + 1000), .int Reader_place]), .inl (4, [.ref 10, .int res.2.1]), .inr (8, .inl res.2.2)] := by
  unfold s_X10_whyNot at hf
  refine Ct.of (L := [some (.ref 0), some (.int a1)]) cal_X10_whyNot (fent_pad (j := 0) rfl) (Nat.le_of_ble_eq_true rfl) ?_
  refine V.iload_n (i := 1) dX10_whyNot_0 rfl rfl ?_
  obtain ⟨v1, hv1, hf⟩ := fbind hf
  have hc := ct_X10_needFisher (a0 := a1) hv1
  rcases hv1b : v1 with v2 | E9
  · rw [hv1b] at hc hf
    dsimp only [fth] at hf
    refine V.callSn (pl := []) (σ' := [.inl (5, [.ref 1, .ref 3, .ref 6, .ref 8, .ref 9]), .inl (3, [.ref 2]), .inr (910, .inl State_cells), .inl (1, [.ref 4, .ref 5, .int History_oldest, .int History_size, .int History_snapshotTaken]), .inr (5460, .inl History_saved), .inr (910, .inl History_snapshot), .inl (0, [.ref 7, .int Buffer_size]), .inr (60, .inl Buffer_codes), .inl (2, [.ref (Reader_pattern + 1000), .int Reader_place]), .inl (4, [.ref 10, .int Word_size]), .inr (8, .inl Word_letters)]) (st2 := []) (cl2 := 0) (sl2 := 0) hc dX10_whyNot_1 w504 w505 cal_X10_needFisher ⟨⟨Nat.le_of_ble_eq_true rfl, Nat.le_of_ble_eq_true rfl⟩, Nat.le_of_ble_eq_true rfl, Nat.le_of_ble_eq_true rfl⟩ (Nat.le_of_ble_eq_true rfl) rfl ⟨rfl, ⟨by decide, by decide⟩, rfl, (fr_nil), rfl⟩ fr_v rfl rfl rfl rfl ?_
    refine V.aload_n (i := 0) dX10_whyNot_4 rfl rfl ?_
    obtain ⟨v3, hv3, hf⟩ := fbind hf
    have hc := ct_X10_needWord (State_cells := State_cells) (History_oldest := History_oldest) (History_size := History_size) (History_snapshotTaken := History_snapshotTaken) (History_saved := History_saved) (History_snapshot := History_snapshot) (Buffer_size := Buffer_size) (Buffer_codes := Buffer_codes) (Reader_pattern := Reader_pattern) (Reader_place := Reader_place) (Word_size := Word_size) (Word_letters := Word_letters) hv3
    rcases hv3b : v3.1 with v4 | E9
    · rw [hv3b] at hc hf
      dsimp only [fth] at hf
      refine V.callVn (pl := [0, 1, 2, 3, 4, 5, 6, 7, 8, 9, 10]) (σ' := [.inl (5, [.ref 1, .ref 3, .ref 6, .ref 8, .ref 9]), .inl (3, [.ref 2]), .inr (910, .inl State_cells), .inl (1, [.ref 4, .ref 5, .int History_oldest, .int History_size, .int History_snapshotTaken]), .inr (5460, .inl History_saved), .inr (910, .inl History_snapshot), .inl (0, [.ref 7, .int Buffer_size]), .inr (60, .inl Buffer_codes), .inl (2, [.ref (Reader_pattern + 1000), .int Reader_place]), .inl (4, [.ref 10, .int v3.2.1]), .inr (8, .inl v3.2.2)]) (st2 := []) (cl2 := 0) (sl2 := 0) hc dX10_whyNot_5 w574 ⟨w576, w3⟩ cal_X10_needWord rfl ⟨⟨Nat.le_of_ble_eq_true rfl, Nat.le_of_ble_eq_true rfl⟩, Nat.le_of_ble_eq_true rfl, Nat.le_of_ble_eq_true rfl⟩ (Nat.le_of_ble_eq_true rfl) (Or.inl ⟨_, _, _, _, rfl, rfl⟩) rfl ⟨rfl, ⟨by decide, by decide⟩, rfl, (fr_cons (Or.inl (Nat.le_of_ble_eq_true rfl)) (fr_cons (Or.inl (Nat.le_of_ble_eq_true rfl)) (fr_cons (Or.inl (Nat.le_of_ble_eq_true rfl)) (fr_cons (Or.inl (Nat.le_of_ble_eq_true rfl)) (fr_cons (Or.inl (Nat.le_of_ble_eq_true rfl)) (fr_cons (Or.inl (Nat.le_of_ble_eq_true rfl)) (fr_cons (Or.inl (Nat.le_of_ble_eq_true rfl)) (fr_cons (Or.inl (Nat.le_of_ble_eq_true rfl)) (fr_cons (Or.inl (Nat.le_of_ble_eq_true rfl)) (fr_cons (Or.inr (Nat.le_add_left 1000 _)) (fr_cons (Or.inl (Nat.le_of_ble_eq_true rfl)) (fr_nil)))))))))))), rfl⟩ fr_v rfl rfl rfl rfl ?_
      refine V.aload_n (i := 0) dX10_whyNot_8 rfl rfl ?_
      refine V.getfield (kf := 0) (v := .ref 1) fl_RX10 dX10_whyNot_9 w181 (Nat.le_of_ble_eq_true rfl) rfl rfl ?_
      refine V.aload_n (i := 0) dX10_whyNot_12 rfl rfl ?_
      refine V.getfield (kf := 4) (v := .ref 9) fl_RX10 dX10_whyNot_13 w185 (Nat.le_of_ble_eq_true rfl) rfl rfl ?_
      refine V.iload_n (i := 1) dX10_whyNot_16 rfl rfl ?_
      obtain ⟨v5, hv5, hf⟩ := fbind hf
      refine V.callSn (pl := [1, 2, 9, 10]) (σ' := [.inl (5, [.ref 1, .ref 3, .ref 6, .ref 8, .ref 9]), .inl (3, [.ref 2]), .inr (910, .inl State_cells), .inl (1, [.ref 4, .ref 5, .int History_oldest, .int History_size, .int History_snapshotTaken]), .inr (5460, .inl History_saved), .inr (910, .inl History_snapshot), .inl (0, [.ref 7, .int Buffer_size]), .inr (60, .inl Buffer_codes), .inl (2, [.ref (Reader_pattern + 1000), .int Reader_place]), .inl (4, [.ref 10, .int v3.2.1]), .inr (8, .inl v3.2.2)]) (st2 := [.int v5]) (cl2 := 0) (sl2 := 0) (ct_X4_whyNotTied (a2 := a1) (State_cells := State_cells) (Word_size := v3.2.1) (Word_letters := v3.2.2) hv5) dX10_whyNot_17 w612 w613 cal_X4_whyNotTied ⟨⟨Nat.le_of_ble_eq_true rfl, Nat.le_of_ble_eq_true rfl⟩, Nat.le_of_ble_eq_true rfl, Nat.le_of_ble_eq_true rfl⟩ (Nat.le_of_ble_eq_true rfl) rfl ⟨rfl, ⟨by decide, by decide⟩, rfl, (fr_cons (Or.inl (Nat.le_of_ble_eq_true rfl)) (fr_cons (Or.inl (Nat.le_of_ble_eq_true rfl)) (fr_nil))), rfl⟩ fr_i rfl rfl rfl rfl ?_
      obtain rfl := Option.some.inj hf
      exact V.iret dX10_whyNot_20 rfl (Nat.le_of_ble_eq_true rfl) (Nat.le_of_ble_eq_true rfl) rfl
    · rw [hv3b] at hc hf
      dsimp only [fth] at hf
      obtain rfl := Option.some.inj hf
      refine V.callVx (pl := [0, 1, 2, 3, 4, 5, 6, 7, 8, 9, 10]) (σ' := [.inl (5, [.ref 1, .ref 3, .ref 6, .ref 8, .ref 9]), .inl (3, [.ref 2]), .inr (910, .inl State_cells), .inl (1, [.ref 4, .ref 5, .int History_oldest, .int History_size, .int History_snapshotTaken]), .inr (5460, .inl History_saved), .inr (910, .inl History_snapshot), .inl (0, [.ref 7, .int Buffer_size]), .inr (60, .inl Buffer_codes), .inl (2, [.ref (Reader_pattern + 1000), .int Reader_place]), .inl (4, [.ref 10, .int v3.2.1]), .inr (8, .inl v3.2.2)]) hc dX10_whyNot_5 w574 ⟨w576, w3⟩ cal_X10_needWord rfl ⟨⟨Nat.le_of_ble_eq_true rfl, Nat.le_of_ble_eq_true rfl⟩, Nat.le_of_ble_eq_true rfl, Nat.le_of_ble_eq_true rfl⟩ (Nat.le_of_ble_eq_true rfl) (Or.inl ⟨_, _, _, _, rfl, rfl⟩) rfl ⟨rfl, ⟨by decide, by decide⟩, rfl, (fr_cons (Or.inl (Nat.le_of_ble_eq_true rfl)) (fr_cons (Or.inl (Nat.le_of_ble_eq_true rfl)) (fr_cons (Or.inl (Nat.le_of_ble_eq_true rfl)) (fr_cons (Or.inl (Nat.le_of_ble_eq_true rfl)) (fr_cons (Or.inl (Nat.le_of_ble_eq_true rfl)) (fr_cons (Or.inl (Nat.le_of_ble_eq_true rfl)) (fr_cons (Or.inl (Nat.le_of_ble_eq_true rfl)) (fr_cons (Or.inl (Nat.le_of_ble_eq_true rfl)) (fr_cons (Or.inl (Nat.le_of_ble_eq_true rfl)) (fr_cons (Or.inr (Nat.le_add_left 1000 _)) (fr_cons (Or.inl (Nat.le_of_ble_eq_true rfl)) (fr_nil)))))))))))), rfl⟩ ?_
      exact VX.out rfl (Nat.le_of_ble_eq_true rfl) (Nat.le_of_ble_eq_true rfl) rfl
  · rw [hv1b] at hc hf
    dsimp only [fth] at hf
    obtain rfl := Option.some.inj hf
    refine V.callSx (pl := []) (σ' := [.inl (5, [.ref 1, .ref 3, .ref 6, .ref 8, .ref 9]), .inl (3, [.ref 2]), .inr (910, .inl State_cells), .inl (1, [.ref 4, .ref 5, .int History_oldest, .int History_size, .int History_snapshotTaken]), .inr (5460, .inl History_saved), .inr (910, .inl History_snapshot), .inl (0, [.ref 7, .int Buffer_size]), .inr (60, .inl Buffer_codes), .inl (2, [.ref (Reader_pattern + 1000), .int Reader_place]), .inl (4, [.ref 10, .int Word_size]), .inr (8, .inl Word_letters)]) hc dX10_whyNot_1 w504 w505 cal_X10_needFisher ⟨⟨Nat.le_of_ble_eq_true rfl, Nat.le_of_ble_eq_true rfl⟩, Nat.le_of_ble_eq_true rfl, Nat.le_of_ble_eq_true rfl⟩ (Nat.le_of_ble_eq_true rfl) rfl ⟨rfl, ⟨by decide, by decide⟩, rfl, (fr_nil), rfl⟩ ?_
    exact VX.out rfl (Nat.le_of_ble_eq_true rfl) (Nat.le_of_ble_eq_true rfl) rfl
def k_X10_noGift : fK := (yX10_noGift, cX10_noGift, 4, (some .int), [], (8, 124), (0, 0), (1, 6))
theorem cal_X10_noGift : fCal k_X10_noGift 3 := ⟨⟨wc1021, w67⟩, ⟨by decide +kernel, by decide +kernel⟩, by decide +kernel, by decide +kernel⟩
def s_X10_noGift (a1 : Int32) (a2 : Int32) (a3 : Int32) (State_cells : Nat → Int32) (Word_size : Int32) (Word_letters : Nat → Int32) : Option ((Int32 ⊕ String) × (Int32) × (Nat → Int32)) := (s_X10_needName a1 a2 State_cells).bind fun v1 => fth v1 (fun v2 => (s_X10_needFisher a3).bind fun v3 => fth v3 (fun v4 => (s_X4_whyNotGiven a1 a2 a3 State_cells Word_size Word_letters).bind fun v5 => some (.inl v5.1, v5.2.1, v5.2.2)) (fun E9 => some (.inr E9, Word_size, Word_letters))) (fun E9 => some (.inr E9, Word_size, Word_letters))
set_option maxHeartbeats 4000000 in
set_option maxRecDepth 100000 in
theorem ct_X10_noGift {a1 : Int32} {a2 : Int32} {a3 : Int32} {State_cells : Nat → Int32} {History_oldest : Int32} {History_size : Int32} {History_snapshotTaken : Int32} {History_saved : Nat → Int32} {History_snapshot : Nat → Int32} {Buffer_size : Int32} {Buffer_codes : Nat → Int32} {Reader_pattern : Nat} {Reader_place : Int32} {Word_size : Int32} {Word_letters : Nat → Int32} {res : (Int32 ⊕ String) × (Int32) × (Nat → Int32)} (hf : s_X10_noGift a1 a2 a3 State_cells Word_size Word_letters = some res) : Ct k_X10_noGift [.ref 0, .int a1, .int a2, .int a3] [.inl (5, [.ref 1, .ref 3, .ref 6, .ref 8, .ref 9]), .inl (3, [.ref 2]), .inr (910, .inl State_cells), .inl (1, [.ref 4, .ref 5, .int History_oldest, .int History_size, .int History_snapshotTaken]), .inr (5460, .inl History_saved), .inr (910, .inl History_snapshot), .inl (0, [.ref 7, .int Buffer_size]), .inr (60, .inl Buffer_codes), .inl (2, [.ref (Reader_pattern + 1000), .int Reader_place]), .inl (4, [.ref 10, .int Word_size]), .inr (8, .inl Word_letters)] (foI res.1) [.inl (5, [.ref 1, .ref 3, .ref 6, .ref 8, .ref 9]), .inl (3, [.ref 2]), .inr (910, .inl State_cells), .inl (1, [.ref 4, .ref 5, .int History_oldest, .int History_size, .int History_snapshotTaken]), .inr (5460, .inl History_saved), .inr (910, .inl History_snapshot), .inl (0, [.ref 7, .int Buffer_size]), .inr (60, .inl Buffer_codes), .inl (2, [.ref (Reader_pattern + 1000), .int Reader_place]), .inl (4, [.ref 10, .int res.2.1]), .inr (8, .inl res.2.2)] := by
  unfold s_X10_noGift at hf
  refine Ct.of (L := [some (.ref 0), some (.int a1), some (.int a2), some (.int a3)]) cal_X10_noGift (fent_pad (j := 0) rfl) (Nat.le_of_ble_eq_true rfl) ?_
  refine V.aload_n (i := 0) dX10_noGift_0 rfl rfl ?_
  refine V.iload_n (i := 1) dX10_noGift_1 rfl rfl ?_
  refine V.iload_n (i := 2) dX10_noGift_2 rfl rfl ?_
  obtain ⟨v1, hv1, hf⟩ := fbind hf
  have hc := ct_X10_needName (a1 := a1) (a2 := a2) (State_cells := State_cells) (History_oldest := History_oldest) (History_size := History_size) (History_snapshotTaken := History_snapshotTaken) (History_saved := History_saved) (History_snapshot := History_snapshot) (Buffer_size := Buffer_size) (Buffer_codes := Buffer_codes) (Reader_pattern := Reader_pattern) (Reader_place := Reader_place) (Word_size := Word_size) (Word_letters := Word_letters) hv1
  rcases hv1b : v1 with v2 | E9
  · rw [hv1b] at hc hf
    dsimp only [fth] at hf
    refine V.callVn (pl := [0, 1, 2, 3, 4, 5, 6, 7, 8, 9, 10]) (σ' := [.inl (5, [.ref 1, .ref 3, .ref 6, .ref 8, .ref 9]), .inl (3, [.ref 2]), .inr (910, .inl State_cells), .inl (1, [.ref 4, .ref 5, .int History_oldest, .int History_size, .int History_snapshotTaken]), .inr (5460, .inl History_saved), .inr (910, .inl History_snapshot), .inl (0, [.ref 7, .int Buffer_size]), .inr (60, .inl Buffer_codes), .inl (2, [.ref (Reader_pattern + 1000), .int Reader_place]), .inl (4, [.ref 10, .int Word_size]), .inr (8, .inl Word_letters)]) (st2 := []) (cl2 := 0) (sl2 := 0) hc dX10_noGift_3 w678 ⟨w680, w5⟩ cal_X10_needName rfl ⟨⟨Nat.le_of_ble_eq_true rfl, Nat.le_of_ble_eq_true rfl⟩, Nat.le_of_ble_eq_true rfl, Nat.le_of_ble_eq_true rfl⟩ (Nat.le_of_ble_eq_true rfl) (Or.inl ⟨_, _, _, _, rfl, rfl⟩) rfl ⟨rfl, ⟨by decide, by decide⟩, rfl, (fr_cons (Or.inl (Nat.le_of_ble_eq_true rfl)) (fr_cons (Or.inl (Nat.le_of_ble_eq_true rfl)) (fr_cons (Or.inl (Nat.le_of_ble_eq_true rfl)) (fr_cons (Or.inl (Nat.le_of_ble_eq_true rfl)) (fr_cons (Or.inl (Nat.le_of_ble_eq_true rfl)) (fr_cons (Or.inl (Nat.le_of_ble_eq_true rfl)) (fr_cons (Or.inl (Nat.le_of_ble_eq_true rfl)) (fr_cons (Or.inl (Nat.le_of_ble_eq_true rfl)) (fr_cons (Or.inl (Nat.le_of_ble_eq_true rfl)) (fr_cons (Or.inr (Nat.le_add_left 1000 _)) (fr_cons (Or.inl (Nat.le_of_ble_eq_true rfl)) (fr_nil)))))))))))), rfl⟩ fr_v rfl rfl rfl rfl ?_
    refine V.iload_n (i := 3) dX10_noGift_6 rfl rfl ?_
    obtain ⟨v3, hv3, hf⟩ := fbind hf
    have hc := ct_X10_needFisher (a0 := a3) hv3
    rcases hv3b : v3 with v4 | E9
    · rw [hv3b] at hc hf
      dsimp only [fth] at hf
      refine V.callSn (pl := []) (σ' := [.inl (5, [.ref 1, .ref 3, .ref 6, .ref 8, .ref 9]), .inl (3, [.ref 2]), .inr (910, .inl State_cells), .inl (1, [.ref 4, .ref 5, .int History_oldest, .int History_size, .int History_snapshotTaken]), .inr (5460, .inl History_saved), .inr (910, .inl History_snapshot), .inl (0, [.ref 7, .int Buffer_size]), .inr (60, .inl Buffer_codes), .inl (2, [.ref (Reader_pattern + 1000), .int Reader_place]), .inl (4, [.ref 10, .int Word_size]), .inr (8, .inl Word_letters)]) (st2 := []) (cl2 := 0) (sl2 := 0) hc dX10_noGift_7 w504 w505 cal_X10_needFisher ⟨⟨Nat.le_of_ble_eq_true rfl, Nat.le_of_ble_eq_true rfl⟩, Nat.le_of_ble_eq_true rfl, Nat.le_of_ble_eq_true rfl⟩ (Nat.le_of_ble_eq_true rfl) rfl ⟨rfl, ⟨by decide, by decide⟩, rfl, (fr_nil), rfl⟩ fr_v rfl rfl rfl rfl ?_
      refine V.aload_n (i := 0) dX10_noGift_10 rfl rfl ?_
      refine V.getfield (kf := 0) (v := .ref 1) fl_RX10 dX10_noGift_11 w181 (Nat.le_of_ble_eq_true rfl) rfl rfl ?_
      refine V.aload_n (i := 0) dX10_noGift_14 rfl rfl ?_
      refine V.getfield (kf := 4) (v := .ref 9) fl_RX10 dX10_noGift_15 w185 (Nat.le_of_ble_eq_true rfl) rfl rfl ?_
      refine V.iload_n (i := 1) dX10_noGift_18 rfl rfl ?_
      refine V.iload_n (i := 2) dX10_noGift_19 rfl rfl ?_
      refine V.iload_n (i := 3) dX10_noGift_20 rfl rfl ?_
      obtain ⟨v5, hv5, hf⟩ := fbind hf
      refine V.callSn (pl := [1, 2, 9, 10]) (σ' := [.inl (5, [.ref 1, .ref 3, .ref 6, .ref 8, .ref 9]), .inl (3, [.ref 2]), .inr (910, .inl State_cells), .inl (1, [.ref 4, .ref 5, .int History_oldest, .int History_size, .int History_snapshotTaken]), .inr (5460, .inl History_saved), .inr (910, .inl History_snapshot), .inl (0, [.ref 7, .int Buffer_size]), .inr (60, .inl Buffer_codes), .inl (2, [.ref (Reader_pattern + 1000), .int Reader_place]), .inl (4, [.ref 10, .int v5.2.1]), .inr (8, .inl v5.2.2)]) (st2 := [.int v5.1]) (cl2 := 0) (sl2 := 0) (ct_X4_whyNotGiven (a2 := a1) (a3 := a2) (a4 := a3) (State_cells := State_cells) (Word_size := Word_size) (Word_letters := Word_letters) hv5) dX10_noGift_21 w722 w723 cal_X4_whyNotGiven ⟨⟨Nat.le_of_ble_eq_true rfl, Nat.le_of_ble_eq_true rfl⟩, Nat.le_of_ble_eq_true rfl, Nat.le_of_ble_eq_true rfl⟩ (Nat.le_of_ble_eq_true rfl) rfl ⟨rfl, ⟨by decide, by decide⟩, rfl, (fr_cons (Or.inl (Nat.le_of_ble_eq_true rfl)) (fr_cons (Or.inl (Nat.le_of_ble_eq_true rfl)) (fr_nil))), rfl⟩ fr_i rfl rfl rfl rfl ?_
      obtain rfl := Option.some.inj hf
      exact V.iret dX10_noGift_24 rfl (Nat.le_of_ble_eq_true rfl) (Nat.le_of_ble_eq_true rfl) rfl
    · rw [hv3b] at hc hf
      dsimp only [fth] at hf
      obtain rfl := Option.some.inj hf
      refine V.callSx (pl := []) (σ' := [.inl (5, [.ref 1, .ref 3, .ref 6, .ref 8, .ref 9]), .inl (3, [.ref 2]), .inr (910, .inl State_cells), .inl (1, [.ref 4, .ref 5, .int History_oldest, .int History_size, .int History_snapshotTaken]), .inr (5460, .inl History_saved), .inr (910, .inl History_snapshot), .inl (0, [.ref 7, .int Buffer_size]), .inr (60, .inl Buffer_codes), .inl (2, [.ref (Reader_pattern + 1000), .int Reader_place]), .inl (4, [.ref 10, .int Word_size]), .inr (8, .inl Word_letters)]) hc dX10_noGift_7 w504 w505 cal_X10_needFisher ⟨⟨Nat.le_of_ble_eq_true rfl, Nat.le_of_ble_eq_true rfl⟩, Nat.le_of_ble_eq_true rfl, Nat.le_of_ble_eq_true rfl⟩ (Nat.le_of_ble_eq_true rfl) rfl ⟨rfl, ⟨by decide, by decide⟩, rfl, (fr_nil), rfl⟩ ?_
      exact VX.out rfl (Nat.le_of_ble_eq_true rfl) (Nat.le_of_ble_eq_true rfl) rfl
  · rw [hv1b] at hc hf
    dsimp only [fth] at hf
    obtain rfl := Option.some.inj hf
    refine V.callVx (pl := [0, 1, 2, 3, 4, 5, 6, 7, 8, 9, 10]) (σ' := [.inl (5, [.ref 1, .ref 3, .ref 6, .ref 8, .ref 9]), .inl (3, [.ref 2]), .inr (910, .inl State_cells), .inl (1, [.ref 4, .ref 5, .int History_oldest, .int History_size, .int History_snapshotTaken]), .inr (5460, .inl History_saved), .inr (910, .inl History_snapshot), .inl (0, [.ref 7, .int Buffer_size]), .inr (60, .inl Buffer_codes), .inl (2, [.ref (Reader_pattern + 1000), .int Reader_place]), .inl (4, [.ref 10, .int Word_size]), .inr (8, .inl Word_letters)]) hc dX10_noGift_3 w678 ⟨w680, w5⟩ cal_X10_needName rfl ⟨⟨Nat.le_of_ble_eq_true rfl, Nat.le_of_ble_eq_true rfl⟩, Nat.le_of_ble_eq_true rfl, Nat.le_of_ble_eq_true rfl⟩ (Nat.le_of_ble_eq_true rfl) (Or.inl ⟨_, _, _, _, rfl, rfl⟩) rfl ⟨rfl, ⟨by decide, by decide⟩, rfl, (fr_cons (Or.inl (Nat.le_of_ble_eq_true rfl)) (fr_cons (Or.inl (Nat.le_of_ble_eq_true rfl)) (fr_cons (Or.inl (Nat.le_of_ble_eq_true rfl)) (fr_cons (Or.inl (Nat.le_of_ble_eq_true rfl)) (fr_cons (Or.inl (Nat.le_of_ble_eq_true rfl)) (fr_cons (Or.inl (Nat.le_of_ble_eq_true rfl)) (fr_cons (Or.inl (Nat.le_of_ble_eq_true rfl)) (fr_cons (Or.inl (Nat.le_of_ble_eq_true rfl)) (fr_cons (Or.inl (Nat.le_of_ble_eq_true rfl)) (fr_cons (Or.inr (Nat.le_add_left 1000 _)) (fr_cons (Or.inl (Nat.le_of_ble_eq_true rfl)) (fr_nil)))))))))))), rfl⟩ ?_
    exact VX.out rfl (Nat.le_of_ble_eq_true rfl) (Nat.le_of_ble_eq_true rfl) rfl
def k_X10_ifStorm : fK := (yX10_ifStorm, cX10_ifStorm, 3, (some .int), [], (7, 104), (0, 0), (1, 6))
theorem cal_X10_ifStorm : fCal k_X10_ifStorm 2 := ⟨⟨wc1028, w67⟩, ⟨by decide +kernel, by decide +kernel⟩, by decide +kernel, by decide +kernel⟩
def s_X10_ifStorm (a1 : Int32) (a2 : Int32) (State_cells : Nat → Int32) : Option ((Int32 ⊕ String)) := (s_X10_needFisher a1).bind fun v1 => fth v1 (fun v2 => (s_X10_needWhat a2 1).bind fun v3 => fth v3 (fun v4 => (s_X6_ofNextStorm a1 a2 State_cells).bind fun v5 => some (.inl v5)) (fun E9 => some (.inr E9))) (fun E9 => some (.inr E9))
set_option maxHeartbeats 4000000 in
set_option maxRecDepth 100000 in
theorem ct_X10_ifStorm {a1 : Int32} {a2 : Int32} {State_cells : Nat → Int32} {History_oldest : Int32} {History_size : Int32} {History_snapshotTaken : Int32} {History_saved : Nat → Int32} {History_snapshot : Nat → Int32} {Buffer_size : Int32} {Buffer_codes : Nat → Int32} {Reader_pattern : Nat} {Reader_place : Int32} {Word_size : Int32} {Word_letters : Nat → Int32} {res : (Int32 ⊕ String)} (hf : s_X10_ifStorm a1 a2 State_cells = some res) : Ct k_X10_ifStorm [.ref 0, .int a1, .int a2] [.inl (5, [.ref 1, .ref 3, .ref 6, .ref 8, .ref 9]), .inl (3, [.ref 2]), .inr (910, .inl State_cells), .inl (1, [.ref 4, .ref 5, .int History_oldest, .int History_size, .int History_snapshotTaken]), .inr (5460, .inl History_saved), .inr (910, .inl History_snapshot), .inl (0, [.ref 7, .int Buffer_size]), .inr (60, .inl Buffer_codes), .inl (2, [.ref (Reader_pattern + 1000), .int Reader_place]), .inl (4, [.ref 10, .int Word_size]), .inr (8, .inl Word_letters)] (foI res) [.inl (5, [.ref 1, .ref 3, .ref 6, .ref 8, .ref 9]), .inl (3, [.ref 2]), .inr (910, .inl State_cells), .inl (1, [.ref 4, .ref 5, .int History_oldest, .int History_size, .int History_snapshotTaken]), .inr (5460, .inl History_saved), .inr (910, .inl History_snapshot), .inl (0, [.ref 7, .int Buffer_size]), .inr (60, .inl Buffer_codes), .inl (2, [.ref (Reader_pattern + 1000), .int Reader_place]), .inl (4, [.ref 10, .int Word_size]), .inr (8, .inl Word_letters)] := by
  unfold s_X10_ifStorm at hf
  refine Ct.of (L := [some (.ref 0), some (.int a1), some (.int a2)]) cal_X10_ifStorm (fent_pad (j := 0) rfl) (Nat.le_of_ble_eq_true rfl) ?_
  refine V.iload_n (i := 1) dX10_ifStorm_0 rfl rfl ?_
  obtain ⟨v1, hv1, hf⟩ := fbind hf
  have hc := ct_X10_needFisher (a0 := a1) hv1
  rcases hv1b : v1 with v2 | E9
  · rw [hv1b] at hc hf
    dsimp only [fth] at hf
    refine V.callSn (pl := []) (σ' := [.inl (5, [.ref 1, .ref 3, .ref 6, .ref 8, .ref 9]), .inl (3, [.ref 2]), .inr (910, .inl State_cells), .inl (1, [.ref 4, .ref 5, .int History_oldest, .int History_size, .int History_snapshotTaken]), .inr (5460, .inl History_saved), .inr (910, .inl History_snapshot), .inl (0, [.ref 7, .int Buffer_size]), .inr (60, .inl Buffer_codes), .inl (2, [.ref (Reader_pattern + 1000), .int Reader_place]), .inl (4, [.ref 10, .int Word_size]), .inr (8, .inl Word_letters)]) (st2 := []) (cl2 := 0) (sl2 := 0) hc dX10_ifStorm_1 w504 w505 cal_X10_needFisher ⟨⟨Nat.le_of_ble_eq_true rfl, Nat.le_of_ble_eq_true rfl⟩, Nat.le_of_ble_eq_true rfl, Nat.le_of_ble_eq_true rfl⟩ (Nat.le_of_ble_eq_true rfl) rfl ⟨rfl, ⟨by decide, by decide⟩, rfl, (fr_nil), rfl⟩ fr_v rfl rfl rfl rfl ?_
    refine V.iload_n (i := 2) dX10_ifStorm_4 rfl rfl ?_
    refine V.iconst (v := 1) dX10_ifStorm_5 rfl ?_
    obtain ⟨v3, hv3, hf⟩ := fbind hf
    have hc := ct_X10_needWhat (a0 := a2) (a1 := 1) hv3
    rcases hv3b : v3 with v4 | E9
    · rw [hv3b] at hc hf
      dsimp only [fth] at hf
      refine V.callSn (pl := []) (σ' := [.inl (5, [.ref 1, .ref 3, .ref 6, .ref 8, .ref 9]), .inl (3, [.ref 2]), .inr (910, .inl State_cells), .inl (1, [.ref 4, .ref 5, .int History_oldest, .int History_size, .int History_snapshotTaken]), .inr (5460, .inl History_saved), .inr (910, .inl History_snapshot), .inl (0, [.ref 7, .int Buffer_size]), .inr (60, .inl Buffer_codes), .inl (2, [.ref (Reader_pattern + 1000), .int Reader_place]), .inl (4, [.ref 10, .int Word_size]), .inr (8, .inl Word_letters)]) (st2 := []) (cl2 := 0) (sl2 := 0) hc dX10_ifStorm_6 w947 w948 cal_X10_needWhat ⟨⟨Nat.le_of_ble_eq_true rfl, Nat.le_of_ble_eq_true rfl⟩, Nat.le_of_ble_eq_true rfl, Nat.le_of_ble_eq_true rfl⟩ (Nat.le_of_ble_eq_true rfl) rfl ⟨rfl, ⟨by decide, by decide⟩, rfl, (fr_nil), rfl⟩ fr_v rfl rfl rfl rfl ?_
      refine V.aload_n (i := 0) dX10_ifStorm_9 rfl rfl ?_
      refine V.getfield (kf := 0) (v := .ref 1) fl_RX10 dX10_ifStorm_10 w181 (Nat.le_of_ble_eq_true rfl) rfl rfl ?_
      refine V.iload_n (i := 1) dX10_ifStorm_13 rfl rfl ?_
      refine V.iload_n (i := 2) dX10_ifStorm_14 rfl rfl ?_
      obtain ⟨v5, hv5, hf⟩ := fbind hf
      refine V.callSn (pl := [1, 2]) (σ' := [.inl (5, [.ref 1, .ref 3, .ref 6, .ref 8, .ref 9]), .inl (3, [.ref 2]), .inr (910, .inl State_cells), .inl (1, [.ref 4, .ref 5, .int History_oldest, .int History_size, .int History_snapshotTaken]), .inr (5460, .inl History_saved), .inr (910, .inl History_snapshot), .inl (0, [.ref 7, .int Buffer_size]), .inr (60, .inl Buffer_codes), .inl (2, [.ref (Reader_pattern + 1000), .int Reader_place]), .inl (4, [.ref 10, .int Word_size]), .inr (8, .inl Word_letters)]) (st2 := [.int v5]) (cl2 := 0) (sl2 := 0) (ct_X6_ofNextStorm (a1 := a1) (a2 := a2) (State_cells := State_cells) hv5) dX10_ifStorm_15 w1029 w423 cal_X6_ofNextStorm ⟨⟨Nat.le_of_ble_eq_true rfl, Nat.le_of_ble_eq_true rfl⟩, Nat.le_of_ble_eq_true rfl, Nat.le_of_ble_eq_true rfl⟩ (Nat.le_of_ble_eq_true rfl) rfl ⟨rfl, ⟨by decide, by decide⟩, rfl, (fr_cons (Or.inl (Nat.le_of_ble_eq_true rfl)) (fr_nil)), rfl⟩ fr_i rfl rfl rfl rfl ?_
      obtain rfl := Option.some.inj hf
      exact V.iret dX10_ifStorm_18 rfl (Nat.le_of_ble_eq_true rfl) (Nat.le_of_ble_eq_true rfl) rfl
    · rw [hv3b] at hc hf
      dsimp only [fth] at hf
      obtain rfl := Option.some.inj hf
      refine V.callSx (pl := []) (σ' := [.inl (5, [.ref 1, .ref 3, .ref 6, .ref 8, .ref 9]), .inl (3, [.ref 2]), .inr (910, .inl State_cells), .inl (1, [.ref 4, .ref 5, .int History_oldest, .int History_size, .int History_snapshotTaken]), .inr (5460, .inl History_saved), .inr (910, .inl History_snapshot), .inl (0, [.ref 7, .int Buffer_size]), .inr (60, .inl Buffer_codes), .inl (2, [.ref (Reader_pattern + 1000), .int Reader_place]), .inl (4, [.ref 10, .int Word_size]), .inr (8, .inl Word_letters)]) hc dX10_ifStorm_6 w947 w948 cal_X10_needWhat ⟨⟨Nat.le_of_ble_eq_true rfl, Nat.le_of_ble_eq_true rfl⟩, Nat.le_of_ble_eq_true rfl, Nat.le_of_ble_eq_true rfl⟩ (Nat.le_of_ble_eq_true rfl) rfl ⟨rfl, ⟨by decide, by decide⟩, rfl, (fr_nil), rfl⟩ ?_
      exact VX.out rfl (Nat.le_of_ble_eq_true rfl) (Nat.le_of_ble_eq_true rfl) rfl
  · rw [hv1b] at hc hf
    dsimp only [fth] at hf
    obtain rfl := Option.some.inj hf
    refine V.callSx (pl := []) (σ' := [.inl (5, [.ref 1, .ref 3, .ref 6, .ref 8, .ref 9]), .inl (3, [.ref 2]), .inr (910, .inl State_cells), .inl (1, [.ref 4, .ref 5, .int History_oldest, .int History_size, .int History_snapshotTaken]), .inr (5460, .inl History_saved), .inr (910, .inl History_snapshot), .inl (0, [.ref 7, .int Buffer_size]), .inr (60, .inl Buffer_codes), .inl (2, [.ref (Reader_pattern + 1000), .int Reader_place]), .inl (4, [.ref 10, .int Word_size]), .inr (8, .inl Word_letters)]) hc dX10_ifStorm_1 w504 w505 cal_X10_needFisher ⟨⟨Nat.le_of_ble_eq_true rfl, Nat.le_of_ble_eq_true rfl⟩, Nat.le_of_ble_eq_true rfl, Nat.le_of_ble_eq_true rfl⟩ (Nat.le_of_ble_eq_true rfl) rfl ⟨rfl, ⟨by decide, by decide⟩, rfl, (fr_nil), rfl⟩ ?_
    exact VX.out rfl (Nat.le_of_ble_eq_true rfl) (Nat.le_of_ble_eq_true rfl) rfl
def k_X10_bestBelt : fK := (yX10_bestBelt, cX10_bestBelt, 4, (some .int), [], (7, 102), (0, 0), (1, 6))
theorem cal_X10_bestBelt : fCal k_X10_bestBelt 0 := ⟨⟨wc1036, w67⟩, ⟨by decide +kernel, by decide +kernel⟩, by decide +kernel, by decide +kernel⟩
def s_X10_bestBelt_L8 (State_cells : Nat → Int32) (Word_size : Int32) (Word_letters : Nat → Int32) : Nat → Int32 → Int32 → Option (Int32 × Int32)
  | 0, _, _ => none
  | n + 1, x1, x2 => if (5 ≤ x2 : Prop) then (some (x1, x2)) else ((s_X4_whyNotTied x2 State_cells Word_size Word_letters).bind fun v3 => if (v3 = 0 : Prop) then (if (x1 = (-1) : Prop) then (s_X10_bestBelt_L8 State_cells Word_size Word_letters n x2 (x2 + 1)) else ((s_X7_left x2 State_cells).bind fun v4 => (s_X7_left x1 State_cells).bind fun v5 => if (v4 ≤ v5 : Prop) then (s_X10_bestBelt_L8 State_cells Word_size Word_letters n x1 (x2 + 1)) else (s_X10_bestBelt_L8 State_cells Word_size Word_letters n x2 (x2 + 1)))) else (s_X10_bestBelt_L8 State_cells Word_size Word_letters n x1 (x2 + 1)))
set_option maxHeartbeats 4000000 in
set_option maxRecDepth 100000 in
theorem v_X10_bestBelt_L8 {out : fO} {σ' : List fE} {State_cells : Nat → Int32} {History_oldest : Int32} {History_size : Int32} {History_snapshotTaken : Int32} {History_saved : Nat → Int32} {History_snapshot : Nat → Int32} {Buffer_size : Int32} {Buffer_codes : Nat → Int32} {Reader_pattern : Nat} {Reader_place : Int32} {Word_size : Int32} {Word_letters : Nat → Int32} : ∀ (n : Nat) {x1 : Int32} {x2 : Int32} {res : Int32 × Int32} (hf : s_X10_bestBelt_L8 State_cells Word_size Word_letters n x1 x2 = some res) (hx : V (fXm 11 k_X10_bestBelt out σ') (krm k_X10_bestBelt) k_X10_bestBelt 11 70 [some (.ref 0), some (.int res.1), some (.int res.2), none] [] [.inl (5, [.ref 1, .ref 3, .ref 6, .ref 8, .ref 9]), .inl (3, [.ref 2]), .inr (910, .inl State_cells), .inl (1, [.ref 4, .ref 5, .int History_oldest, .int History_size, .int History_snapshotTaken]), .inr (5460, .inl History_saved), .inr (910, .inl History_snapshot), .inl (0, [.ref 7, .int Buffer_size]), .inr (60, .inl Buffer_codes), .inl (2, [.ref (Reader_pattern + 1000), .int Reader_place]), .inl (4, [.ref 10, .int Word_size]), .inr (8, .inl Word_letters)] 0 0), V (fXm 11 k_X10_bestBelt out σ') (krm k_X10_bestBelt) k_X10_bestBelt 11 8 [some (.ref 0), some (.int x1), some (.int x2), none] [] [.inl (5, [.ref 1, .ref 3, .ref 6, .ref 8, .ref 9]), .inl (3, [.ref 2]), .inr (910, .inl State_cells), .inl (1, [.ref 4, .ref 5, .int History_oldest, .int History_size, .int History_snapshotTaken]), .inr (5460, .inl History_saved), .inr (910, .inl History_snapshot), .inl (0, [.ref 7, .int Buffer_size]), .inr (60, .inl Buffer_codes), .inl (2, [.ref (Reader_pattern + 1000), .int Reader_place]), .inl (4, [.ref 10, .int Word_size]), .inr (8, .inl Word_letters)] 0 0 := by
  intro n
  induction n with
  | zero =>
    intro x1 x2 res hf hx
    rw [s_X10_bestBelt_L8] at hf
    cases hf
  | succ n ih =>
    intro x1 x2 res hf hx
    rw [s_X10_bestBelt_L8] at hf
    refine V.iload_n (i := 2) dX10_bestBelt_8 rfl rfl ?_
    refine V.iconst (v := 5) dX10_bestBelt_9 rfl ?_
    refine V.icmp_ge (tgt := 70) dX10_bestBelt_10 (by decide) (fun h => ?_) (fun h => ?_)
    · have hf := fif_t h hf
      obtain rfl := Option.some.inj hf
      exact hx
    · have hf := fif_f h hf
      refine V.aload_n (i := 0) dX10_bestBelt_13 rfl rfl ?_
      refine V.getfield (kf := 0) (v := .ref 1) fl_RX10 dX10_bestBelt_14 w181 (Nat.le_of_ble_eq_true rfl) rfl rfl ?_
      refine V.aload_n (i := 0) dX10_bestBelt_17 rfl rfl ?_
      refine V.getfield (kf := 4) (v := .ref 9) fl_RX10 dX10_bestBelt_18 w185 (Nat.le_of_ble_eq_true rfl) rfl rfl ?_
      refine V.iload_n (i := 2) dX10_bestBelt_21 rfl rfl ?_
      obtain ⟨v3, hv3, hf⟩ := fbind hf
      refine V.callSn (pl := [1, 2, 9, 10]) (σ' := [.inl (5, [.ref 1, .ref 3, .ref 6, .ref 8, .ref 9]), .inl (3, [.ref 2]), .inr (910, .inl State_cells), .inl (1, [.ref 4, .ref 5, .int History_oldest, .int History_size, .int History_snapshotTaken]), .inr (5460, .inl History_saved), .inr (910, .inl History_snapshot), .inl (0, [.ref 7, .int Buffer_size]), .inr (60, .inl Buffer_codes), .inl (2, [.ref (Reader_pattern + 1000), .int Reader_place]), .inl (4, [.ref 10, .int Word_size]), .inr (8, .inl Word_letters)]) (st2 := [.int v3]) (cl2 := 0) (sl2 := 0) (ct_X4_whyNotTied (a2 := x2) (State_cells := State_cells) (Word_size := Word_size) (Word_letters := Word_letters) hv3) dX10_bestBelt_22 w612 w613 cal_X4_whyNotTied ⟨⟨Nat.le_of_ble_eq_true rfl, Nat.le_of_ble_eq_true rfl⟩, Nat.le_of_ble_eq_true rfl, Nat.le_of_ble_eq_true rfl⟩ (Nat.le_of_ble_eq_true rfl) rfl ⟨rfl, ⟨by decide, by decide⟩, rfl, (fr_cons (Or.inl (Nat.le_of_ble_eq_true rfl)) (fr_cons (Or.inl (Nat.le_of_ble_eq_true rfl)) (fr_nil))), rfl⟩ fr_i rfl rfl rfl rfl ?_
      refine V.if_ne (tgt := 32) dX10_bestBelt_25 (by decide) (fun h => ?_) (fun h => ?_)
      · have hf := fif_f h hf
        refine V.iconst (v := 0) dX10_bestBelt_32 rfl ?_
        refine V.istore_n (i := 3) (L' := [some (.ref 0), some (.int x1), some (.int x2), some (.int 0)]) dX10_bestBelt_33 rfl (Nat.le_of_ble_eq_true rfl) rfl rfl ?_
        refine V.iload_n (i := 3) dX10_bestBelt_34 rfl rfl ?_
        refine V.if_eq (tgt := 64) dX10_bestBelt_35 (by decide) (fun _ => ?_) (fun h => absurd h (by decide))
        refine V.iinc (i := 2) (v := (x2 + 1)) (L' := [some (.ref 0), some (.int x1), some (.int (x2 + 1)), some (.int 0)]) dX10_bestBelt_64 rfl rfl (Nat.le_of_ble_eq_true rfl) rfl rfl ?_
        refine V.goto (tgt := 8) dX10_bestBelt_67 (by decide) ?_
        exact V.locs (L' := [some (.ref 0), some (.int x1), some (.int (x2 + 1)), none]) ⟨rfl, ⟨rfl, ⟨rfl, trivial⟩⟩⟩ (ih hf hx)
      · have hf := fif_t h hf
        refine V.iconst (v := 1) dX10_bestBelt_28 rfl ?_
        refine V.goto (tgt := 33) dX10_bestBelt_29 (by decide) ?_
        refine V.istore_n (i := 3) (L' := [some (.ref 0), some (.int x1), some (.int x2), some (.int 1)]) dX10_bestBelt_33 rfl (Nat.le_of_ble_eq_true rfl) rfl rfl ?_
        refine V.iload_n (i := 3) dX10_bestBelt_34 rfl rfl ?_
        refine V.if_eq (tgt := 64) dX10_bestBelt_35 (by decide) (fun h => absurd h (by decide)) (fun _ => ?_)
        refine V.iload_n (i := 1) dX10_bestBelt_38 rfl rfl ?_
        refine V.iconst (v := (-1)) dX10_bestBelt_39 rfl ?_
        refine V.icmp_eq (tgt := 62) dX10_bestBelt_40 (by decide) (fun h => ?_) (fun h => ?_)
        · have hf := fif_t h hf
          refine V.iload_n (i := 2) dX10_bestBelt_62 rfl rfl ?_
          refine V.istore_n (i := 1) (L' := [some (.ref 0), some (.int x2), some (.int x2), some (.int 1)]) dX10_bestBelt_63 rfl (Nat.le_of_ble_eq_true rfl) rfl rfl ?_
          refine V.iinc (i := 2) (v := (x2 + 1)) (L' := [some (.ref 0), some (.int x2), some (.int (x2 + 1)), some (.int 1)]) dX10_bestBelt_64 rfl rfl (Nat.le_of_ble_eq_true rfl) rfl rfl ?_
          refine V.goto (tgt := 8) dX10_bestBelt_67 (by decide) ?_
          exact V.locs (L' := [some (.ref 0), some (.int x2), some (.int (x2 + 1)), none]) ⟨rfl, ⟨rfl, ⟨rfl, trivial⟩⟩⟩ (ih hf hx)
        · have hf := fif_f h hf
          refine V.aload_n (i := 0) dX10_bestBelt_43 rfl rfl ?_
          refine V.getfield (kf := 0) (v := .ref 1) fl_RX10 dX10_bestBelt_44 w181 (Nat.le_of_ble_eq_true rfl) rfl rfl ?_
          refine V.iload_n (i := 2) dX10_bestBelt_47 rfl rfl ?_
          obtain ⟨v4, hv4, hf⟩ := fbind hf
          refine V.callVn (pl := [1, 2]) (σ' := [.inl (5, [.ref 1, .ref 3, .ref 6, .ref 8, .ref 9]), .inl (3, [.ref 2]), .inr (910, .inl State_cells), .inl (1, [.ref 4, .ref 5, .int History_oldest, .int History_size, .int History_snapshotTaken]), .inr (5460, .inl History_saved), .inr (910, .inl History_snapshot), .inl (0, [.ref 7, .int Buffer_size]), .inr (60, .inl Buffer_codes), .inl (2, [.ref (Reader_pattern + 1000), .int Reader_place]), .inl (4, [.ref 10, .int Word_size]), .inr (8, .inl Word_letters)]) (st2 := [.int v4]) (cl2 := 0) (sl2 := 0) (ct_X7_left (a1 := x2) (State_cells := State_cells) hv4) dX10_bestBelt_48 w767 ⟨w417, w418⟩ cal_X7_left rfl ⟨⟨Nat.le_of_ble_eq_true rfl, Nat.le_of_ble_eq_true rfl⟩, Nat.le_of_ble_eq_true rfl, Nat.le_of_ble_eq_true rfl⟩ (Nat.le_of_ble_eq_true rfl) (Or.inl ⟨_, _, _, _, rfl, rfl⟩) rfl ⟨rfl, ⟨by decide, by decide⟩, rfl, (fr_cons (Or.inl (Nat.le_of_ble_eq_true rfl)) (fr_nil)), rfl⟩ fr_i rfl rfl rfl rfl ?_
          refine V.aload_n (i := 0) dX10_bestBelt_51 rfl rfl ?_
          refine V.getfield (kf := 0) (v := .ref 1) fl_RX10 dX10_bestBelt_52 w181 (Nat.le_of_ble_eq_true rfl) rfl rfl ?_
          refine V.iload_n (i := 1) dX10_bestBelt_55 rfl rfl ?_
          obtain ⟨v5, hv5, hf⟩ := fbind hf
          refine V.callVn (pl := [1, 2]) (σ' := [.inl (5, [.ref 1, .ref 3, .ref 6, .ref 8, .ref 9]), .inl (3, [.ref 2]), .inr (910, .inl State_cells), .inl (1, [.ref 4, .ref 5, .int History_oldest, .int History_size, .int History_snapshotTaken]), .inr (5460, .inl History_saved), .inr (910, .inl History_snapshot), .inl (0, [.ref 7, .int Buffer_size]), .inr (60, .inl Buffer_codes), .inl (2, [.ref (Reader_pattern + 1000), .int Reader_place]), .inl (4, [.ref 10, .int Word_size]), .inr (8, .inl Word_letters)]) (st2 := [.int v5, .int v4]) (cl2 := 0) (sl2 := 0) (ct_X7_left (a1 := x1) (State_cells := State_cells) hv5) dX10_bestBelt_56 w767 ⟨w417, w418⟩ cal_X7_left rfl ⟨⟨Nat.le_of_ble_eq_true rfl, Nat.le_of_ble_eq_true rfl⟩, Nat.le_of_ble_eq_true rfl, Nat.le_of_ble_eq_true rfl⟩ (Nat.le_of_ble_eq_true rfl) (Or.inl ⟨_, _, _, _, rfl, rfl⟩) rfl ⟨rfl, ⟨by decide, by decide⟩, rfl, (fr_cons (Or.inl (Nat.le_of_ble_eq_true rfl)) (fr_nil)), rfl⟩ fr_i rfl rfl rfl rfl ?_
          refine V.icmp_le (tgt := 64) dX10_bestBelt_59 (by decide) (fun h => ?_) (fun h => ?_)
          · have hf := fif_t h hf
            refine V.iinc (i := 2) (v := (x2 + 1)) (L' := [some (.ref 0), some (.int x1), some (.int (x2 + 1)), some (.int 1)]) dX10_bestBelt_64 rfl rfl (Nat.le_of_ble_eq_true rfl) rfl rfl ?_
            refine V.goto (tgt := 8) dX10_bestBelt_67 (by decide) ?_
            exact V.locs (L' := [some (.ref 0), some (.int x1), some (.int (x2 + 1)), none]) ⟨rfl, ⟨rfl, ⟨rfl, trivial⟩⟩⟩ (ih hf hx)
          · have hf := fif_f h hf
            refine V.iload_n (i := 2) dX10_bestBelt_62 rfl rfl ?_
            refine V.istore_n (i := 1) (L' := [some (.ref 0), some (.int x2), some (.int x2), some (.int 1)]) dX10_bestBelt_63 rfl (Nat.le_of_ble_eq_true rfl) rfl rfl ?_
            refine V.iinc (i := 2) (v := (x2 + 1)) (L' := [some (.ref 0), some (.int x2), some (.int (x2 + 1)), some (.int 1)]) dX10_bestBelt_64 rfl rfl (Nat.le_of_ble_eq_true rfl) rfl rfl ?_
            refine V.goto (tgt := 8) dX10_bestBelt_67 (by decide) ?_
            exact V.locs (L' := [some (.ref 0), some (.int x2), some (.int (x2 + 1)), none]) ⟨rfl, ⟨rfl, ⟨rfl, trivial⟩⟩⟩ (ih hf hx)
def s_X10_bestBelt (State_cells : Nat → Int32) (Buffer_size : Int32) (Buffer_codes : Nat → Int32) (Word_size : Int32) (Word_letters : Nat → Int32) : Option ((Int32 ⊕ String) × (Int32) × (Nat → Int32)) := (s_X10_needWord Buffer_size Buffer_codes Word_size Word_letters).bind fun v1 => fth v1.1 (fun v2 => (s_X10_bestBelt_L8 State_cells v1.2.1 v1.2.2 gF (-1) 0).bind fun r6 => some (.inl r6.1, v1.2.1, v1.2.2)) (fun E9 => some (.inr E9, v1.2.1, v1.2.2))
set_option maxHeartbeats 4000000 in
set_option maxRecDepth 100000 in
theorem ct_X10_bestBelt {State_cells : Nat → Int32} {History_oldest : Int32} {History_size : Int32} {History_snapshotTaken : Int32} {History_saved : Nat → Int32} {History_snapshot : Nat → Int32} {Buffer_size : Int32} {Buffer_codes : Nat → Int32} {Reader_pattern : Nat} {Reader_place : Int32} {Word_size : Int32} {Word_letters : Nat → Int32} {res : (Int32 ⊕ String) × (Int32) × (Nat → Int32)} (hf : s_X10_bestBelt State_cells Buffer_size Buffer_codes Word_size Word_letters = some res) : Ct k_X10_bestBelt [.ref 0] [.inl (5, [.ref 1, .ref 3, .ref 6, .ref 8, .ref 9]), .inl (3, [.ref 2]), .inr (910, .inl State_cells), .inl (1, [.ref 4, .ref 5, .int History_oldest, .int History_size, .int History_snapshotTaken]), .inr (5460, .inl History_saved), .inr (910, .inl History_snapshot), .inl (0, [.ref 7, .int Buffer_size]), .inr (60, .inl Buffer_codes), .inl (2, [.ref (Reader_pattern + 1000), .int Reader_place]), .inl (4, [.ref 10, .int Word_size]), .inr (8, .inl Word_letters)] (foI res.1) [.inl (5, [.ref 1, .ref 3, .ref 6, .ref 8, .ref 9]), .inl (3, [.ref 2]), .inr (910, .inl State_cells), .inl (1, [.ref 4, .ref 5, .int History_oldest, .int History_size, .int History_snapshotTaken]), .inr (5460, .inl History_saved), .inr (910, .inl History_snapshot), .inl (0, [.ref 7, .int Buffer_size]), .inr (60, .inl Buffer_codes), .inl (2, [.ref (Reader_pattern + 1000), .int Reader_place]), .inl (4, [.ref 10, .int res.2.1]), .inr (8, .inl res.2.2)] := by
  unfold s_X10_bestBelt at hf
  refine Ct.of (L := [some (.ref 0), none, none, none]) cal_X10_bestBelt (fent_pad (j := 3) rfl) (Nat.le_of_ble_eq_true rfl) ?_
  refine V.aload_n (i := 0) dX10_bestBelt_0 rfl rfl ?_
  obtain ⟨v1, hv1, hf⟩ := fbind hf
  have hc := ct_X10_needWord (State_cells := State_cells) (History_oldest := History_oldest) (History_size := History_size) (History_snapshotTaken := History_snapshotTaken) (History_saved := History_saved) (History_snapshot := History_snapshot) (Buffer_size := Buffer_size) (Buffer_codes := Buffer_codes) (Reader_pattern := Reader_pattern) (Reader_place := Reader_place) (Word_size := Word_size) (Word_letters := Word_letters) hv1
  rcases hv1b : v1.1 with v2 | E9
  · rw [hv1b] at hc hf
    dsimp only [fth] at hf
    refine V.callVn (pl := [0, 1, 2, 3, 4, 5, 6, 7, 8, 9, 10]) (σ' := [.inl (5, [.ref 1, .ref 3, .ref 6, .ref 8, .ref 9]), .inl (3, [.ref 2]), .inr (910, .inl State_cells), .inl (1, [.ref 4, .ref 5, .int History_oldest, .int History_size, .int History_snapshotTaken]), .inr (5460, .inl History_saved), .inr (910, .inl History_snapshot), .inl (0, [.ref 7, .int Buffer_size]), .inr (60, .inl Buffer_codes), .inl (2, [.ref (Reader_pattern + 1000), .int Reader_place]), .inl (4, [.ref 10, .int v1.2.1]), .inr (8, .inl v1.2.2)]) (st2 := []) (cl2 := 0) (sl2 := 0) hc dX10_bestBelt_1 w574 ⟨w576, w3⟩ cal_X10_needWord rfl ⟨⟨Nat.le_of_ble_eq_true rfl, Nat.le_of_ble_eq_true rfl⟩, Nat.le_of_ble_eq_true rfl, Nat.le_of_ble_eq_true rfl⟩ (Nat.le_of_ble_eq_true rfl) (Or.inl ⟨_, _, _, _, rfl, rfl⟩) rfl ⟨rfl, ⟨by decide, by decide⟩, rfl, (fr_cons (Or.inl (Nat.le_of_ble_eq_true rfl)) (fr_cons (Or.inl (Nat.le_of_ble_eq_true rfl)) (fr_cons (Or.inl (Nat.le_of_ble_eq_true rfl)) (fr_cons (Or.inl (Nat.le_of_ble_eq_true rfl)) (fr_cons (Or.inl (Nat.le_of_ble_eq_true rfl)) (fr_cons (Or.inl (Nat.le_of_ble_eq_true rfl)) (fr_cons (Or.inl (Nat.le_of_ble_eq_true rfl)) (fr_cons (Or.inl (Nat.le_of_ble_eq_true rfl)) (fr_cons (Or.inl (Nat.le_of_ble_eq_true rfl)) (fr_cons (Or.inr (Nat.le_add_left 1000 _)) (fr_cons (Or.inl (Nat.le_of_ble_eq_true rfl)) (fr_nil)))))))))))), rfl⟩ fr_v rfl rfl rfl rfl ?_
    refine V.iconst (v := (-1)) dX10_bestBelt_4 rfl ?_
    refine V.istore_n (i := 1) (L' := [some (.ref 0), some (.int (-1)), none, none]) dX10_bestBelt_5 rfl (Nat.le_of_ble_eq_true rfl) rfl rfl ?_
    refine V.iconst (v := 0) dX10_bestBelt_6 rfl ?_
    refine V.istore_n (i := 2) (L' := [some (.ref 0), some (.int (-1)), some (.int 0), none]) dX10_bestBelt_7 rfl (Nat.le_of_ble_eq_true rfl) rfl rfl ?_
    obtain ⟨r6, hr6, hf⟩ := fbind hf
    refine v_X10_bestBelt_L8 gF hr6 ?_
    refine V.iload_n (i := 1) dX10_bestBelt_70 rfl rfl ?_
    obtain rfl := Option.some.inj hf
    exact V.iret dX10_bestBelt_71 rfl (Nat.le_of_ble_eq_true rfl) (Nat.le_of_ble_eq_true rfl) rfl
  · rw [hv1b] at hc hf
    dsimp only [fth] at hf
    obtain rfl := Option.some.inj hf
    refine V.callVx (pl := [0, 1, 2, 3, 4, 5, 6, 7, 8, 9, 10]) (σ' := [.inl (5, [.ref 1, .ref 3, .ref 6, .ref 8, .ref 9]), .inl (3, [.ref 2]), .inr (910, .inl State_cells), .inl (1, [.ref 4, .ref 5, .int History_oldest, .int History_size, .int History_snapshotTaken]), .inr (5460, .inl History_saved), .inr (910, .inl History_snapshot), .inl (0, [.ref 7, .int Buffer_size]), .inr (60, .inl Buffer_codes), .inl (2, [.ref (Reader_pattern + 1000), .int Reader_place]), .inl (4, [.ref 10, .int v1.2.1]), .inr (8, .inl v1.2.2)]) hc dX10_bestBelt_1 w574 ⟨w576, w3⟩ cal_X10_needWord rfl ⟨⟨Nat.le_of_ble_eq_true rfl, Nat.le_of_ble_eq_true rfl⟩, Nat.le_of_ble_eq_true rfl, Nat.le_of_ble_eq_true rfl⟩ (Nat.le_of_ble_eq_true rfl) (Or.inl ⟨_, _, _, _, rfl, rfl⟩) rfl ⟨rfl, ⟨by decide, by decide⟩, rfl, (fr_cons (Or.inl (Nat.le_of_ble_eq_true rfl)) (fr_cons (Or.inl (Nat.le_of_ble_eq_true rfl)) (fr_cons (Or.inl (Nat.le_of_ble_eq_true rfl)) (fr_cons (Or.inl (Nat.le_of_ble_eq_true rfl)) (fr_cons (Or.inl (Nat.le_of_ble_eq_true rfl)) (fr_cons (Or.inl (Nat.le_of_ble_eq_true rfl)) (fr_cons (Or.inl (Nat.le_of_ble_eq_true rfl)) (fr_cons (Or.inl (Nat.le_of_ble_eq_true rfl)) (fr_cons (Or.inl (Nat.le_of_ble_eq_true rfl)) (fr_cons (Or.inr (Nat.le_add_left 1000 _)) (fr_cons (Or.inl (Nat.le_of_ble_eq_true rfl)) (fr_nil)))))))))))), rfl⟩ ?_
    exact VX.out rfl (Nat.le_of_ble_eq_true rfl) (Nat.le_of_ble_eq_true rfl) rfl
def k_X10_trueShare : fK := (yX10_trueShare, cX10_trueShare, 1, (some .double), [], (5, 121), (0, 0), (0, 0))
theorem cal_X10_trueShare : fCal k_X10_trueShare 0 := ⟨⟨wc320, w67⟩, ⟨by decide +kernel, by decide +kernel⟩, by decide +kernel, by decide +kernel⟩
def s_X10_trueShare (State_cells : Nat → Int32) : Option (UInt64) := (s_X8_shareThatReadsTrue State_cells).bind fun v1 => some v1
set_option maxHeartbeats 4000000 in
set_option maxRecDepth 100000 in
theorem ct_X10_trueShare {State_cells : Nat → Int32} {History_oldest : Int32} {History_size : Int32} {History_snapshotTaken : Int32} {History_saved : Nat → Int32} {History_snapshot : Nat → Int32} {Buffer_size : Int32} {Buffer_codes : Nat → Int32} {Reader_pattern : Nat} {Reader_place : Int32} {Word_size : Int32} {Word_letters : Nat → Int32} {res : UInt64} (hf : s_X10_trueShare State_cells = some res) : Ct k_X10_trueShare [.ref 0] [.inl (5, [.ref 1, .ref 3, .ref 6, .ref 8, .ref 9]), .inl (3, [.ref 2]), .inr (910, .inl State_cells), .inl (1, [.ref 4, .ref 5, .int History_oldest, .int History_size, .int History_snapshotTaken]), .inr (5460, .inl History_saved), .inr (910, .inl History_snapshot), .inl (0, [.ref 7, .int Buffer_size]), .inr (60, .inl Buffer_codes), .inl (2, [.ref (Reader_pattern + 1000), .int Reader_place]), .inl (4, [.ref 10, .int Word_size]), .inr (8, .inl Word_letters)] (.inl (some (.double res))) [.inl (5, [.ref 1, .ref 3, .ref 6, .ref 8, .ref 9]), .inl (3, [.ref 2]), .inr (910, .inl State_cells), .inl (1, [.ref 4, .ref 5, .int History_oldest, .int History_size, .int History_snapshotTaken]), .inr (5460, .inl History_saved), .inr (910, .inl History_snapshot), .inl (0, [.ref 7, .int Buffer_size]), .inr (60, .inl Buffer_codes), .inl (2, [.ref (Reader_pattern + 1000), .int Reader_place]), .inl (4, [.ref 10, .int Word_size]), .inr (8, .inl Word_letters)] := by
  unfold s_X10_trueShare at hf
  refine Ct.of (L := [some (.ref 0)]) cal_X10_trueShare (fent_pad (j := 0) rfl) (Nat.le_of_ble_eq_true rfl) ?_
  refine V.aload_n (i := 0) dX10_trueShare_0 rfl rfl ?_
  refine V.getfield (kf := 0) (v := .ref 1) fl_RX10 dX10_trueShare_1 w181 (Nat.le_of_ble_eq_true rfl) rfl rfl ?_
  obtain ⟨v1, hv1, hf⟩ := fbind hf
  refine V.callSn (pl := [1, 2]) (σ' := [.inl (5, [.ref 1, .ref 3, .ref 6, .ref 8, .ref 9]), .inl (3, [.ref 2]), .inr (910, .inl State_cells), .inl (1, [.ref 4, .ref 5, .int History_oldest, .int History_size, .int History_snapshotTaken]), .inr (5460, .inl History_saved), .inr (910, .inl History_snapshot), .inl (0, [.ref 7, .int Buffer_size]), .inr (60, .inl Buffer_codes), .inl (2, [.ref (Reader_pattern + 1000), .int Reader_place]), .inl (4, [.ref 10, .int Word_size]), .inr (8, .inl Word_letters)]) (st2 := [.double v1]) (cl2 := 0) (sl2 := 0) (ct_X8_shareThatReadsTrue (State_cells := State_cells) hv1) dX10_trueShare_4 w321 w322 cal_X8_shareThatReadsTrue ⟨⟨Nat.le_of_ble_eq_true rfl, Nat.le_of_ble_eq_true rfl⟩, Nat.le_of_ble_eq_true rfl, Nat.le_of_ble_eq_true rfl⟩ (Nat.le_of_ble_eq_true rfl) rfl ⟨rfl, ⟨by decide, by decide⟩, rfl, (fr_cons (Or.inl (Nat.le_of_ble_eq_true rfl)) (fr_nil)), rfl⟩ fr_d rfl rfl rfl rfl ?_
  obtain rfl := Option.some.inj hf
  exact V.dret dX10_trueShare_7 rfl (Nat.le_of_ble_eq_true rfl) (Nat.le_of_ble_eq_true rfl) rfl
def k_X10_digest : fK := (yX10_digest, cX10_digest, 4, (some .long), [], (6, 152), (0, 0), (0, 0))
theorem cal_X10_digest : fCal k_X10_digest 0 := ⟨⟨wc354, w67⟩, ⟨by decide +kernel, by decide +kernel⟩, by decide +kernel, by decide +kernel⟩
def s_X10_digest_L6 (State_cells : Nat → Int32) : Nat → Int64 → Int32 → Option (Int64 × Int32)
  | 0, _, _ => none
  | n + 1, x1, x3 => if (12 < x3 : Prop) then (some (x1, x3)) else ((s_X8_ofAll x3 State_cells).bind fun v1 => s_X10_digest_L6 State_cells n ((31 * x1) + (Int32.toInt64 v1)) (x3 + 1))
set_option maxHeartbeats 4000000 in
set_option maxRecDepth 100000 in
theorem v_X10_digest_L6 {out : fO} {σ' : List fE} {State_cells : Nat → Int32} {History_oldest : Int32} {History_size : Int32} {History_snapshotTaken : Int32} {History_saved : Nat → Int32} {History_snapshot : Nat → Int32} {Buffer_size : Int32} {Buffer_codes : Nat → Int32} {Reader_pattern : Nat} {Reader_place : Int32} {Word_size : Int32} {Word_letters : Nat → Int32} : ∀ (n : Nat) {x1 : Int64} {x3 : Int32} {res : Int64 × Int32} (hf : s_X10_digest_L6 State_cells n x1 x3 = some res) (hx : V (fXm 11 k_X10_digest out σ') (krm k_X10_digest) k_X10_digest 11 34 [some (.ref 0), some (.long res.1), none, some (.int res.2)] [] [.inl (5, [.ref 1, .ref 3, .ref 6, .ref 8, .ref 9]), .inl (3, [.ref 2]), .inr (910, .inl State_cells), .inl (1, [.ref 4, .ref 5, .int History_oldest, .int History_size, .int History_snapshotTaken]), .inr (5460, .inl History_saved), .inr (910, .inl History_snapshot), .inl (0, [.ref 7, .int Buffer_size]), .inr (60, .inl Buffer_codes), .inl (2, [.ref (Reader_pattern + 1000), .int Reader_place]), .inl (4, [.ref 10, .int Word_size]), .inr (8, .inl Word_letters)] 0 0), V (fXm 11 k_X10_digest out σ') (krm k_X10_digest) k_X10_digest 11 6 [some (.ref 0), some (.long x1), none, some (.int x3)] [] [.inl (5, [.ref 1, .ref 3, .ref 6, .ref 8, .ref 9]), .inl (3, [.ref 2]), .inr (910, .inl State_cells), .inl (1, [.ref 4, .ref 5, .int History_oldest, .int History_size, .int History_snapshotTaken]), .inr (5460, .inl History_saved), .inr (910, .inl History_snapshot), .inl (0, [.ref 7, .int Buffer_size]), .inr (60, .inl Buffer_codes), .inl (2, [.ref (Reader_pattern + 1000), .int Reader_place]), .inl (4, [.ref 10, .int Word_size]), .inr (8, .inl Word_letters)] 0 0 := by
  intro n
  induction n with
  | zero =>
    intro x1 x3 res hf hx
    rw [s_X10_digest_L6] at hf
    cases hf
  | succ n ih =>
    intro x1 x3 res hf hx
    rw [s_X10_digest_L6] at hf
    refine V.iload_n (i := 3) dX10_digest_6 rfl rfl ?_
    refine V.bipush (v := 12) dX10_digest_7 rfl ?_
    refine V.icmp_gt (tgt := 34) dX10_digest_9 (by decide) (fun h => ?_) (fun h => ?_)
    · have hf := fif_t h hf
      obtain rfl := Option.some.inj hf
      exact hx
    · have hf := fif_f h hf
      refine V.ldc2 (v := 31) dX10_digest_12 w356 ?_
      refine V.lload_n (i := 1) dX10_digest_15 rfl rfl ?_
      refine V.lmul dX10_digest_16 ?_
      refine V.aload_n (i := 0) dX10_digest_17 rfl rfl ?_
      refine V.getfield (kf := 0) (v := .ref 1) fl_RX10 dX10_digest_18 w181 (Nat.le_of_ble_eq_true rfl) rfl rfl ?_
      refine V.iload_n (i := 3) dX10_digest_21 rfl rfl ?_
      obtain ⟨v1, hv1, hf⟩ := fbind hf
      refine V.callSn (pl := [1, 2]) (σ' := [.inl (5, [.ref 1, .ref 3, .ref 6, .ref 8, .ref 9]), .inl (3, [.ref 2]), .inr (910, .inl State_cells), .inl (1, [.ref 4, .ref 5, .int History_oldest, .int History_size, .int History_snapshotTaken]), .inr (5460, .inl History_saved), .inr (910, .inl History_snapshot), .inl (0, [.ref 7, .int Buffer_size]), .inr (60, .inl Buffer_codes), .inl (2, [.ref (Reader_pattern + 1000), .int Reader_place]), .inl (4, [.ref 10, .int Word_size]), .inr (8, .inl Word_letters)]) (st2 := [.int v1, .long (31 * x1)]) (cl2 := 0) (sl2 := 0) (ct_X8_ofAll (a1 := x3) (State_cells := State_cells) hv1) dX10_digest_22 w357 w358 cal_X8_ofAll ⟨⟨Nat.le_of_ble_eq_true rfl, Nat.le_of_ble_eq_true rfl⟩, Nat.le_of_ble_eq_true rfl, Nat.le_of_ble_eq_true rfl⟩ (Nat.le_of_ble_eq_true rfl) rfl ⟨rfl, ⟨by decide, by decide⟩, rfl, (fr_cons (Or.inl (Nat.le_of_ble_eq_true rfl)) (fr_nil)), rfl⟩ fr_i rfl rfl rfl rfl ?_
      refine V.i2l dX10_digest_25 ?_
      refine V.ladd dX10_digest_26 ?_
      refine V.lstore_n (i := 1) (L' := [some (.ref 0), some (.long ((31 * x1) + (Int32.toInt64 v1))), none, some (.int x3)]) dX10_digest_27 rfl (Nat.le_of_ble_eq_true rfl) rfl rfl ?_
      refine V.iinc (i := 3) (v := (x3 + 1)) (L' := [some (.ref 0), some (.long ((31 * x1) + (Int32.toInt64 v1))), none, some (.int (x3 + 1))]) dX10_digest_28 rfl rfl (Nat.le_of_ble_eq_true rfl) rfl rfl ?_
      refine V.goto (tgt := 6) dX10_digest_31 (by decide) ?_
      exact ih hf hx
def s_X10_digest_L60 (State_cells : Nat → Int32) : Nat → Int64 → Int32 → Option (Int64 × Int32)
  | 0, _, _ => none
  | n + 1, x1, x3 => if (5 ≤ x3 : Prop) then (some (x1, x3)) else ((s_X2_withFisher x3 x1 State_cells).bind fun v5 => (s_X2_withNames x3 v5 State_cells).bind fun v6 => s_X10_digest_L60 State_cells n v6 (x3 + 1))
set_option maxHeartbeats 4000000 in
set_option maxRecDepth 100000 in
theorem v_X10_digest_L60 {out : fO} {σ' : List fE} {State_cells : Nat → Int32} {History_oldest : Int32} {History_size : Int32} {History_snapshotTaken : Int32} {History_saved : Nat → Int32} {History_snapshot : Nat → Int32} {Buffer_size : Int32} {Buffer_codes : Nat → Int32} {Reader_pattern : Nat} {Reader_place : Int32} {Word_size : Int32} {Word_letters : Nat → Int32} : ∀ (n : Nat) {x1 : Int64} {x3 : Int32} {res : Int64 × Int32} (hf : s_X10_digest_L60 State_cells n x1 x3 = some res) (hx : V (fXm 11 k_X10_digest out σ') (krm k_X10_digest) k_X10_digest 11 91 [some (.ref 0), some (.long res.1), none, some (.int res.2)] [] [.inl (5, [.ref 1, .ref 3, .ref 6, .ref 8, .ref 9]), .inl (3, [.ref 2]), .inr (910, .inl State_cells), .inl (1, [.ref 4, .ref 5, .int History_oldest, .int History_size, .int History_snapshotTaken]), .inr (5460, .inl History_saved), .inr (910, .inl History_snapshot), .inl (0, [.ref 7, .int Buffer_size]), .inr (60, .inl Buffer_codes), .inl (2, [.ref (Reader_pattern + 1000), .int Reader_place]), .inl (4, [.ref 10, .int Word_size]), .inr (8, .inl Word_letters)] 0 0), V (fXm 11 k_X10_digest out σ') (krm k_X10_digest) k_X10_digest 11 60 [some (.ref 0), some (.long x1), none, some (.int x3)] [] [.inl (5, [.ref 1, .ref 3, .ref 6, .ref 8, .ref 9]), .inl (3, [.ref 2]), .inr (910, .inl State_cells), .inl (1, [.ref 4, .ref 5, .int History_oldest, .int History_size, .int History_snapshotTaken]), .inr (5460, .inl History_saved), .inr (910, .inl History_snapshot), .inl (0, [.ref 7, .int Buffer_size]), .inr (60, .inl Buffer_codes), .inl (2, [.ref (Reader_pattern + 1000), .int Reader_place]), .inl (4, [.ref 10, .int Word_size]), .inr (8, .inl Word_letters)] 0 0 := by
  intro n
  induction n with
  | zero =>
    intro x1 x3 res hf hx
    rw [s_X10_digest_L60] at hf
    cases hf
  | succ n ih =>
    intro x1 x3 res hf hx
    rw [s_X10_digest_L60] at hf
    refine V.iload_n (i := 3) dX10_digest_60 rfl rfl ?_
    refine V.iconst (v := 5) dX10_digest_61 rfl ?_
    refine V.icmp_ge (tgt := 91) dX10_digest_62 (by decide) (fun h => ?_) (fun h => ?_)
    · have hf := fif_t h hf
      obtain rfl := Option.some.inj hf
      exact hx
    · have hf := fif_f h hf
      refine V.aload_n (i := 0) dX10_digest_65 rfl rfl ?_
      refine V.getfield (kf := 0) (v := .ref 1) fl_RX10 dX10_digest_66 w181 (Nat.le_of_ble_eq_true rfl) rfl rfl ?_
      refine V.iload_n (i := 3) dX10_digest_69 rfl rfl ?_
      refine V.lload_n (i := 1) dX10_digest_70 rfl rfl ?_
      obtain ⟨v5, hv5, hf⟩ := fbind hf
      refine V.callSn (pl := [1, 2]) (σ' := [.inl (5, [.ref 1, .ref 3, .ref 6, .ref 8, .ref 9]), .inl (3, [.ref 2]), .inr (910, .inl State_cells), .inl (1, [.ref 4, .ref 5, .int History_oldest, .int History_size, .int History_snapshotTaken]), .inr (5460, .inl History_saved), .inr (910, .inl History_snapshot), .inl (0, [.ref 7, .int Buffer_size]), .inr (60, .inl Buffer_codes), .inl (2, [.ref (Reader_pattern + 1000), .int Reader_place]), .inl (4, [.ref 10, .int Word_size]), .inr (8, .inl Word_letters)]) (st2 := [.long v5]) (cl2 := 0) (sl2 := 0) (ct_X2_withFisher (a1 := x3) (a2 := x1) (State_cells := State_cells) hv5) dX10_digest_71 w410 w411 cal_X2_withFisher ⟨⟨Nat.le_of_ble_eq_true rfl, Nat.le_of_ble_eq_true rfl⟩, Nat.le_of_ble_eq_true rfl, Nat.le_of_ble_eq_true rfl⟩ (Nat.le_of_ble_eq_true rfl) rfl ⟨rfl, ⟨by decide, by decide⟩, rfl, (fr_cons (Or.inl (Nat.le_of_ble_eq_true rfl)) (fr_nil)), rfl⟩ fr_l rfl rfl rfl rfl ?_
      refine V.lstore_n (i := 1) (L' := [some (.ref 0), some (.long v5), none, some (.int x3)]) dX10_digest_74 rfl (Nat.le_of_ble_eq_true rfl) rfl rfl ?_
      refine V.aload_n (i := 0) dX10_digest_75 rfl rfl ?_
      refine V.getfield (kf := 0) (v := .ref 1) fl_RX10 dX10_digest_76 w181 (Nat.le_of_ble_eq_true rfl) rfl rfl ?_
      refine V.iload_n (i := 3) dX10_digest_79 rfl rfl ?_
      refine V.lload_n (i := 1) dX10_digest_80 rfl rfl ?_
      obtain ⟨v6, hv6, hf⟩ := fbind hf
      refine V.callSn (pl := [1, 2]) (σ' := [.inl (5, [.ref 1, .ref 3, .ref 6, .ref 8, .ref 9]), .inl (3, [.ref 2]), .inr (910, .inl State_cells), .inl (1, [.ref 4, .ref 5, .int History_oldest, .int History_size, .int History_snapshotTaken]), .inr (5460, .inl History_saved), .inr (910, .inl History_snapshot), .inl (0, [.ref 7, .int Buffer_size]), .inr (60, .inl Buffer_codes), .inl (2, [.ref (Reader_pattern + 1000), .int Reader_place]), .inl (4, [.ref 10, .int Word_size]), .inr (8, .inl Word_letters)]) (st2 := [.long v6]) (cl2 := 0) (sl2 := 0) (ct_X2_withNames (a1 := x3) (a2 := v5) (State_cells := State_cells) hv6) dX10_digest_81 w449 w450 cal_X2_withNames ⟨⟨Nat.le_of_ble_eq_true rfl, Nat.le_of_ble_eq_true rfl⟩, Nat.le_of_ble_eq_true rfl, Nat.le_of_ble_eq_true rfl⟩ (Nat.le_of_ble_eq_true rfl) rfl ⟨rfl, ⟨by decide, by decide⟩, rfl, (fr_cons (Or.inl (Nat.le_of_ble_eq_true rfl)) (fr_nil)), rfl⟩ fr_l rfl rfl rfl rfl ?_
      refine V.lstore_n (i := 1) (L' := [some (.ref 0), some (.long v6), none, some (.int x3)]) dX10_digest_84 rfl (Nat.le_of_ble_eq_true rfl) rfl rfl ?_
      refine V.iinc (i := 3) (v := (x3 + 1)) (L' := [some (.ref 0), some (.long v6), none, some (.int (x3 + 1))]) dX10_digest_85 rfl rfl (Nat.le_of_ble_eq_true rfl) rfl rfl ?_
      refine V.goto (tgt := 60) dX10_digest_88 (by decide) ?_
      exact ih hf hx
def s_X10_digest_L102 (State_cells : Nat → Int32) : Nat → Int64 → Int32 → Option (Int64 × Int32)
  | 0, _, _ => none
  | n + 1, x1, x3 => if (1 < x3 : Prop) then (some (x1, x3)) else ((s_X10_numberOfStop x3 State_cells).bind fun v9 => s_X10_digest_L102 State_cells n ((31 * x1) + (Int32.toInt64 v9)) (x3 + 1))
set_option maxHeartbeats 4000000 in
set_option maxRecDepth 100000 in
theorem v_X10_digest_L102 {out : fO} {σ' : List fE} {State_cells : Nat → Int32} {History_oldest : Int32} {History_size : Int32} {History_snapshotTaken : Int32} {History_saved : Nat → Int32} {History_snapshot : Nat → Int32} {Buffer_size : Int32} {Buffer_codes : Nat → Int32} {Reader_pattern : Nat} {Reader_place : Int32} {Word_size : Int32} {Word_letters : Nat → Int32} : ∀ (n : Nat) {x1 : Int64} {x3 : Int32} {res : Int64 × Int32} (hf : s_X10_digest_L102 State_cells n x1 x3 = some res) (hx : V (fXm 11 k_X10_digest out σ') (krm k_X10_digest) k_X10_digest 11 126 [some (.ref 0), some (.long res.1), none, some (.int res.2)] [] [.inl (5, [.ref 1, .ref 3, .ref 6, .ref 8, .ref 9]), .inl (3, [.ref 2]), .inr (910, .inl State_cells), .inl (1, [.ref 4, .ref 5, .int History_oldest, .int History_size, .int History_snapshotTaken]), .inr (5460, .inl History_saved), .inr (910, .inl History_snapshot), .inl (0, [.ref 7, .int Buffer_size]), .inr (60, .inl Buffer_codes), .inl (2, [.ref (Reader_pattern + 1000), .int Reader_place]), .inl (4, [.ref 10, .int Word_size]), .inr (8, .inl Word_letters)] 0 0), V (fXm 11 k_X10_digest out σ') (krm k_X10_digest) k_X10_digest 11 102 [some (.ref 0), some (.long x1), none, some (.int x3)] [] [.inl (5, [.ref 1, .ref 3, .ref 6, .ref 8, .ref 9]), .inl (3, [.ref 2]), .inr (910, .inl State_cells), .inl (1, [.ref 4, .ref 5, .int History_oldest, .int History_size, .int History_snapshotTaken]), .inr (5460, .inl History_saved), .inr (910, .inl History_snapshot), .inl (0, [.ref 7, .int Buffer_size]), .inr (60, .inl Buffer_codes), .inl (2, [.ref (Reader_pattern + 1000), .int Reader_place]), .inl (4, [.ref 10, .int Word_size]), .inr (8, .inl Word_letters)] 0 0 := by
  intro n
  induction n with
  | zero =>
    intro x1 x3 res hf hx
    rw [s_X10_digest_L102] at hf
    cases hf
  | succ n ih =>
    intro x1 x3 res hf hx
    rw [s_X10_digest_L102] at hf
    refine V.iload_n (i := 3) dX10_digest_102 rfl rfl ?_
    refine V.iconst (v := 1) dX10_digest_103 rfl ?_
    refine V.icmp_gt (tgt := 126) dX10_digest_104 (by decide) (fun h => ?_) (fun h => ?_)
    · have hf := fif_t h hf
      obtain rfl := Option.some.inj hf
      exact hx
    · have hf := fif_f h hf
      refine V.ldc2 (v := 31) dX10_digest_107 w356 ?_
      refine V.lload_n (i := 1) dX10_digest_110 rfl rfl ?_
      refine V.lmul dX10_digest_111 ?_
      refine V.aload_n (i := 0) dX10_digest_112 rfl rfl ?_
      refine V.iload_n (i := 3) dX10_digest_113 rfl rfl ?_
      obtain ⟨v9, hv9, hf⟩ := fbind hf
      refine V.callVn (pl := [0, 1, 2, 3, 4, 5, 6, 7, 8, 9, 10]) (σ' := [.inl (5, [.ref 1, .ref 3, .ref 6, .ref 8, .ref 9]), .inl (3, [.ref 2]), .inr (910, .inl State_cells), .inl (1, [.ref 4, .ref 5, .int History_oldest, .int History_size, .int History_snapshotTaken]), .inr (5460, .inl History_saved), .inr (910, .inl History_snapshot), .inl (0, [.ref 7, .int Buffer_size]), .inr (60, .inl Buffer_codes), .inl (2, [.ref (Reader_pattern + 1000), .int Reader_place]), .inl (4, [.ref 10, .int Word_size]), .inr (8, .inl Word_letters)]) (st2 := [.int v9, .long (31 * x1)]) (cl2 := 0) (sl2 := 0) (ct_X10_numberOfStop (a1 := x3) (State_cells := State_cells) (History_oldest := History_oldest) (History_size := History_size) (History_snapshotTaken := History_snapshotTaken) (History_saved := History_saved) (History_snapshot := History_snapshot) (Buffer_size := Buffer_size) (Buffer_codes := Buffer_codes) (Reader_pattern := Reader_pattern) (Reader_place := Reader_place) (Word_size := Word_size) (Word_letters := Word_letters) hv9) dX10_digest_114 w478 ⟨w480, w1⟩ cal_X10_numberOfStop rfl ⟨⟨Nat.le_of_ble_eq_true rfl, Nat.le_of_ble_eq_true rfl⟩, Nat.le_of_ble_eq_true rfl, Nat.le_of_ble_eq_true rfl⟩ (Nat.le_of_ble_eq_true rfl) (Or.inl ⟨_, _, _, _, rfl, rfl⟩) rfl ⟨rfl, ⟨by decide, by decide⟩, rfl, (fr_cons (Or.inl (Nat.le_of_ble_eq_true rfl)) (fr_cons (Or.inl (Nat.le_of_ble_eq_true rfl)) (fr_cons (Or.inl (Nat.le_of_ble_eq_true rfl)) (fr_cons (Or.inl (Nat.le_of_ble_eq_true rfl)) (fr_cons (Or.inl (Nat.le_of_ble_eq_true rfl)) (fr_cons (Or.inl (Nat.le_of_ble_eq_true rfl)) (fr_cons (Or.inl (Nat.le_of_ble_eq_true rfl)) (fr_cons (Or.inl (Nat.le_of_ble_eq_true rfl)) (fr_cons (Or.inl (Nat.le_of_ble_eq_true rfl)) (fr_cons (Or.inr (Nat.le_add_left 1000 _)) (fr_cons (Or.inl (Nat.le_of_ble_eq_true rfl)) (fr_nil)))))))))))), rfl⟩ fr_i rfl rfl rfl rfl ?_
      refine V.i2l dX10_digest_117 ?_
      refine V.ladd dX10_digest_118 ?_
      refine V.lstore_n (i := 1) (L' := [some (.ref 0), some (.long ((31 * x1) + (Int32.toInt64 v9))), none, some (.int x3)]) dX10_digest_119 rfl (Nat.le_of_ble_eq_true rfl) rfl rfl ?_
      refine V.iinc (i := 3) (v := (x3 + 1)) (L' := [some (.ref 0), some (.long ((31 * x1) + (Int32.toInt64 v9))), none, some (.int (x3 + 1))]) dX10_digest_120 rfl rfl (Nat.le_of_ble_eq_true rfl) rfl rfl ?_
      refine V.goto (tgt := 102) dX10_digest_123 (by decide) ?_
      exact ih hf hx
def s_X10_digest (State_cells : Nat → Int32) (History_size : Int32) (Buffer_size : Int32) (Buffer_codes : Nat → Int32) : Option (Int64) := (s_X10_digest_L6 State_cells gF 3917 0).bind fun r2 => (s_X3_size History_size).bind fun v3 => (s_X2_withLetters ((31 * r2.1) + (Int32.toInt64 v3)) State_cells).bind fun v4 => (s_X10_digest_L60 State_cells gF v4 0).bind fun r7 => (s_X2_withEntries r7.1 State_cells).bind fun v8 => (s_X10_digest_L102 State_cells gF v8 0).bind fun r10 => (s_X8_shareThatReadsTrue State_cells).bind fun v11 => (s_X2_bitsOfShare v11).bind fun v12 => (s_X2_withBuffer ((31 * r10.1) + v12) Buffer_size Buffer_codes).bind fun v13 => some v13
set_option maxHeartbeats 4000000 in
set_option maxRecDepth 100000 in
theorem ct_X10_digest {State_cells : Nat → Int32} {History_oldest : Int32} {History_size : Int32} {History_snapshotTaken : Int32} {History_saved : Nat → Int32} {History_snapshot : Nat → Int32} {Buffer_size : Int32} {Buffer_codes : Nat → Int32} {Reader_pattern : Nat} {Reader_place : Int32} {Word_size : Int32} {Word_letters : Nat → Int32} {res : Int64} (hf : s_X10_digest State_cells History_size Buffer_size Buffer_codes = some res) : Ct k_X10_digest [.ref 0] [.inl (5, [.ref 1, .ref 3, .ref 6, .ref 8, .ref 9]), .inl (3, [.ref 2]), .inr (910, .inl State_cells), .inl (1, [.ref 4, .ref 5, .int History_oldest, .int History_size, .int History_snapshotTaken]), .inr (5460, .inl History_saved), .inr (910, .inl History_snapshot), .inl (0, [.ref 7, .int Buffer_size]), .inr (60, .inl Buffer_codes), .inl (2, [.ref (Reader_pattern + 1000), .int Reader_place]), .inl (4, [.ref 10, .int Word_size]), .inr (8, .inl Word_letters)] (.inl (some (.long res))) [.inl (5, [.ref 1, .ref 3, .ref 6, .ref 8, .ref 9]), .inl (3, [.ref 2]), .inr (910, .inl State_cells), .inl (1, [.ref 4, .ref 5, .int History_oldest, .int History_size, .int History_snapshotTaken]), .inr (5460, .inl History_saved), .inr (910, .inl History_snapshot), .inl (0, [.ref 7, .int Buffer_size]), .inr (60, .inl Buffer_codes), .inl (2, [.ref (Reader_pattern + 1000), .int Reader_place]), .inl (4, [.ref 10, .int Word_size]), .inr (8, .inl Word_letters)] := by
  unfold s_X10_digest at hf
  refine Ct.of (L := [some (.ref 0), none, none, none]) cal_X10_digest (fent_pad (j := 3) rfl) (Nat.le_of_ble_eq_true rfl) ?_
  refine V.ldc2 (v := 3917) dX10_digest_0 w355 ?_
  refine V.lstore_n (i := 1) (L' := [some (.ref 0), some (.long 3917), none, none]) dX10_digest_3 rfl (Nat.le_of_ble_eq_true rfl) rfl rfl ?_
  refine V.iconst (v := 0) dX10_digest_4 rfl ?_
  refine V.istore_n (i := 3) (L' := [some (.ref 0), some (.long 3917), none, some (.int 0)]) dX10_digest_5 rfl (Nat.le_of_ble_eq_true rfl) rfl rfl ?_
  obtain ⟨r2, hr2, hf⟩ := fbind hf
  refine v_X10_digest_L6 gF hr2 ?_
  refine V.ldc2 (v := 31) dX10_digest_34 w356 ?_
  refine V.lload_n (i := 1) dX10_digest_37 rfl rfl ?_
  refine V.lmul dX10_digest_38 ?_
  refine V.aload_n (i := 0) dX10_digest_39 rfl rfl ?_
  refine V.getfield (kf := 1) (v := .ref 3) fl_RX10 dX10_digest_40 w182 (Nat.le_of_ble_eq_true rfl) rfl rfl ?_
  obtain ⟨v3, hv3, hf⟩ := fbind hf
  refine V.callVn (pl := [3, 4, 5]) (σ' := [.inl (5, [.ref 1, .ref 3, .ref 6, .ref 8, .ref 9]), .inl (3, [.ref 2]), .inr (910, .inl State_cells), .inl (1, [.ref 4, .ref 5, .int History_oldest, .int History_size, .int History_snapshotTaken]), .inr (5460, .inl History_saved), .inr (910, .inl History_snapshot), .inl (0, [.ref 7, .int Buffer_size]), .inr (60, .inl Buffer_codes), .inl (2, [.ref (Reader_pattern + 1000), .int Reader_place]), .inl (4, [.ref 10, .int Word_size]), .inr (8, .inl Word_letters)]) (st2 := [.int v3, .long (31 * r2.1)]) (cl2 := 0) (sl2 := 0) (ct_X3_size (History_oldest := History_oldest) (History_size := History_size) (History_snapshotTaken := History_snapshotTaken) (History_saved := History_saved) (History_snapshot := History_snapshot) hv3) dX10_digest_43 w390 ⟨w391, w392⟩ cal_X3_size rfl ⟨⟨Nat.le_of_ble_eq_true rfl, Nat.le_of_ble_eq_true rfl⟩, Nat.le_of_ble_eq_true rfl, Nat.le_of_ble_eq_true rfl⟩ (Nat.le_of_ble_eq_true rfl) (Or.inl ⟨_, _, _, _, rfl, rfl⟩) rfl ⟨rfl, ⟨by decide, by decide⟩, rfl, (fr_cons (Or.inl (Nat.le_of_ble_eq_true rfl)) (fr_cons (Or.inl (Nat.le_of_ble_eq_true rfl)) (fr_nil))), rfl⟩ fr_i rfl rfl rfl rfl ?_
  refine V.i2l dX10_digest_46 ?_
  refine V.ladd dX10_digest_47 ?_
  refine V.lstore_n (i := 1) (L' := [some (.ref 0), some (.long ((31 * r2.1) + (Int32.toInt64 v3))), none, some (.int r2.2)]) dX10_digest_48 rfl (Nat.le_of_ble_eq_true rfl) rfl rfl ?_
  refine V.aload_n (i := 0) dX10_digest_49 rfl rfl ?_
  refine V.getfield (kf := 0) (v := .ref 1) fl_RX10 dX10_digest_50 w181 (Nat.le_of_ble_eq_true rfl) rfl rfl ?_
  refine V.lload_n (i := 1) dX10_digest_53 rfl rfl ?_
  obtain ⟨v4, hv4, hf⟩ := fbind hf
  refine V.callSn (pl := [1, 2]) (σ' := [.inl (5, [.ref 1, .ref 3, .ref 6, .ref 8, .ref 9]), .inl (3, [.ref 2]), .inr (910, .inl State_cells), .inl (1, [.ref 4, .ref 5, .int History_oldest, .int History_size, .int History_snapshotTaken]), .inr (5460, .inl History_saved), .inr (910, .inl History_snapshot), .inl (0, [.ref 7, .int Buffer_size]), .inr (60, .inl Buffer_codes), .inl (2, [.ref (Reader_pattern + 1000), .int Reader_place]), .inl (4, [.ref 10, .int Word_size]), .inr (8, .inl Word_letters)]) (st2 := [.long v4]) (cl2 := 0) (sl2 := 0) (ct_X2_withLetters (a1 := ((31 * r2.1) + (Int32.toInt64 v3))) (State_cells := State_cells) hv4) dX10_digest_54 w394 w395 cal_X2_withLetters ⟨⟨Nat.le_of_ble_eq_true rfl, Nat.le_of_ble_eq_true rfl⟩, Nat.le_of_ble_eq_true rfl, Nat.le_of_ble_eq_true rfl⟩ (Nat.le_of_ble_eq_true rfl) rfl ⟨rfl, ⟨by decide, by decide⟩, rfl, (fr_cons (Or.inl (Nat.le_of_ble_eq_true rfl)) (fr_nil)), rfl⟩ fr_l rfl rfl rfl rfl ?_
  refine V.lstore_n (i := 1) (L' := [some (.ref 0), some (.long v4), none, some (.int r2.2)]) dX10_digest_57 rfl (Nat.le_of_ble_eq_true rfl) rfl rfl ?_
  refine V.iconst (v := 0) dX10_digest_58 rfl ?_
  refine V.istore_n (i := 3) (L' := [some (.ref 0), some (.long v4), none, some (.int 0)]) dX10_digest_59 rfl (Nat.le_of_ble_eq_true rfl) rfl rfl ?_
  obtain ⟨r7, hr7, hf⟩ := fbind hf
  refine v_X10_digest_L60 gF hr7 ?_
  refine V.aload_n (i := 0) dX10_digest_91 rfl rfl ?_
  refine V.getfield (kf := 0) (v := .ref 1) fl_RX10 dX10_digest_92 w181 (Nat.le_of_ble_eq_true rfl) rfl rfl ?_
  refine V.lload_n (i := 1) dX10_digest_95 rfl rfl ?_
  obtain ⟨v8, hv8, hf⟩ := fbind hf
  refine V.callSn (pl := [1, 2]) (σ' := [.inl (5, [.ref 1, .ref 3, .ref 6, .ref 8, .ref 9]), .inl (3, [.ref 2]), .inr (910, .inl State_cells), .inl (1, [.ref 4, .ref 5, .int History_oldest, .int History_size, .int History_snapshotTaken]), .inr (5460, .inl History_saved), .inr (910, .inl History_snapshot), .inl (0, [.ref 7, .int Buffer_size]), .inr (60, .inl Buffer_codes), .inl (2, [.ref (Reader_pattern + 1000), .int Reader_place]), .inl (4, [.ref 10, .int Word_size]), .inr (8, .inl Word_letters)]) (st2 := [.long v8]) (cl2 := 0) (sl2 := 0) (ct_X2_withEntries (a1 := r7.1) (State_cells := State_cells) hv8) dX10_digest_96 w468 w469 cal_X2_withEntries ⟨⟨Nat.le_of_ble_eq_true rfl, Nat.le_of_ble_eq_true rfl⟩, Nat.le_of_ble_eq_true rfl, Nat.le_of_ble_eq_true rfl⟩ (Nat.le_of_ble_eq_true rfl) rfl ⟨rfl, ⟨by decide, by decide⟩, rfl, (fr_cons (Or.inl (Nat.le_of_ble_eq_true rfl)) (fr_nil)), rfl⟩ fr_l rfl rfl rfl rfl ?_
  refine V.lstore_n (i := 1) (L' := [some (.ref 0), some (.long v8), none, some (.int r7.2)]) dX10_digest_99 rfl (Nat.le_of_ble_eq_true rfl) rfl rfl ?_
  refine V.iconst (v := 0) dX10_digest_100 rfl ?_
  refine V.istore_n (i := 3) (L' := [some (.ref 0), some (.long v8), none, some (.int 0)]) dX10_digest_101 rfl (Nat.le_of_ble_eq_true rfl) rfl rfl ?_
  obtain ⟨r10, hr10, hf⟩ := fbind hf
  refine v_X10_digest_L102 gF hr10 ?_
  refine V.ldc2 (v := 31) dX10_digest_126 w356 ?_
  refine V.lload_n (i := 1) dX10_digest_129 rfl rfl ?_
  refine V.lmul dX10_digest_130 ?_
  refine V.aload_n (i := 0) dX10_digest_131 rfl rfl ?_
  refine V.getfield (kf := 0) (v := .ref 1) fl_RX10 dX10_digest_132 w181 (Nat.le_of_ble_eq_true rfl) rfl rfl ?_
  obtain ⟨v11, hv11, hf⟩ := fbind hf
  refine V.callSn (pl := [1, 2]) (σ' := [.inl (5, [.ref 1, .ref 3, .ref 6, .ref 8, .ref 9]), .inl (3, [.ref 2]), .inr (910, .inl State_cells), .inl (1, [.ref 4, .ref 5, .int History_oldest, .int History_size, .int History_snapshotTaken]), .inr (5460, .inl History_saved), .inr (910, .inl History_snapshot), .inl (0, [.ref 7, .int Buffer_size]), .inr (60, .inl Buffer_codes), .inl (2, [.ref (Reader_pattern + 1000), .int Reader_place]), .inl (4, [.ref 10, .int Word_size]), .inr (8, .inl Word_letters)]) (st2 := [.double v11, .long (31 * r10.1)]) (cl2 := 0) (sl2 := 0) (ct_X8_shareThatReadsTrue (State_cells := State_cells) hv11) dX10_digest_135 w321 w322 cal_X8_shareThatReadsTrue ⟨⟨Nat.le_of_ble_eq_true rfl, Nat.le_of_ble_eq_true rfl⟩, Nat.le_of_ble_eq_true rfl, Nat.le_of_ble_eq_true rfl⟩ (Nat.le_of_ble_eq_true rfl) rfl ⟨rfl, ⟨by decide, by decide⟩, rfl, (fr_cons (Or.inl (Nat.le_of_ble_eq_true rfl)) (fr_nil)), rfl⟩ fr_d rfl rfl rfl rfl ?_
  obtain ⟨v12, hv12, hf⟩ := fbind hf
  refine V.callSn (pl := []) (σ' := [.inl (5, [.ref 1, .ref 3, .ref 6, .ref 8, .ref 9]), .inl (3, [.ref 2]), .inr (910, .inl State_cells), .inl (1, [.ref 4, .ref 5, .int History_oldest, .int History_size, .int History_snapshotTaken]), .inr (5460, .inl History_saved), .inr (910, .inl History_snapshot), .inl (0, [.ref 7, .int Buffer_size]), .inr (60, .inl Buffer_codes), .inl (2, [.ref (Reader_pattern + 1000), .int Reader_place]), .inl (4, [.ref 10, .int Word_size]), .inr (8, .inl Word_letters)]) (st2 := [.long v12, .long (31 * r10.1)]) (cl2 := 0) (sl2 := 0) (ct_X2_bitsOfShare (a0 := v11) hv12) dX10_digest_138 w483 w484 cal_X2_bitsOfShare ⟨⟨Nat.le_of_ble_eq_true rfl, Nat.le_of_ble_eq_true rfl⟩, Nat.le_of_ble_eq_true rfl, Nat.le_of_ble_eq_true rfl⟩ (Nat.le_of_ble_eq_true rfl) rfl ⟨rfl, ⟨by decide, by decide⟩, rfl, (fr_nil), rfl⟩ fr_l rfl rfl rfl rfl ?_
  refine V.ladd dX10_digest_141 ?_
  refine V.lstore_n (i := 1) (L' := [some (.ref 0), some (.long ((31 * r10.1) + v12)), none, some (.int r10.2)]) dX10_digest_142 rfl (Nat.le_of_ble_eq_true rfl) rfl rfl ?_
  refine V.aload_n (i := 0) dX10_digest_143 rfl rfl ?_
  refine V.getfield (kf := 2) (v := .ref 6) fl_RX10 dX10_digest_144 w183 (Nat.le_of_ble_eq_true rfl) rfl rfl ?_
  refine V.lload_n (i := 1) dX10_digest_147 rfl rfl ?_
  obtain ⟨v13, hv13, hf⟩ := fbind hf
  refine V.callSn (pl := [6, 7]) (σ' := [.inl (5, [.ref 1, .ref 3, .ref 6, .ref 8, .ref 9]), .inl (3, [.ref 2]), .inr (910, .inl State_cells), .inl (1, [.ref 4, .ref 5, .int History_oldest, .int History_size, .int History_snapshotTaken]), .inr (5460, .inl History_saved), .inr (910, .inl History_snapshot), .inl (0, [.ref 7, .int Buffer_size]), .inr (60, .inl Buffer_codes), .inl (2, [.ref (Reader_pattern + 1000), .int Reader_place]), .inl (4, [.ref 10, .int Word_size]), .inr (8, .inl Word_letters)]) (st2 := [.long v13]) (cl2 := 0) (sl2 := 0) (ct_X2_withBuffer (a1 := ((31 * r10.1) + v12)) (Buffer_size := Buffer_size) (Buffer_codes := Buffer_codes) hv13) dX10_digest_148 w489 w490 cal_X2_withBuffer ⟨⟨Nat.le_of_ble_eq_true rfl, Nat.le_of_ble_eq_true rfl⟩, Nat.le_of_ble_eq_true rfl, Nat.le_of_ble_eq_true rfl⟩ (Nat.le_of_ble_eq_true rfl) rfl ⟨rfl, ⟨by decide, by decide⟩, rfl, (fr_cons (Or.inl (Nat.le_of_ble_eq_true rfl)) (fr_nil)), rfl⟩ fr_l rfl rfl rfl rfl ?_
  obtain rfl := Option.some.inj hf
  exact V.lret dX10_digest_151 rfl (Nat.le_of_ble_eq_true rfl) (Nat.le_of_ble_eq_true rfl) rfl
