/-! laid by program: shallow functions and contracts -/
def k_X5_init : fK := (yX5_init, cX5_init, 1, none, [], (1, 12), (0, 0), (0, 0))
theorem cal_X5_init : fCal k_X5_init 0 := ⟨⟨wc88, w10⟩, ⟨by decide +kernel, by decide +kernel⟩, by decide +kernel, by decide +kernel⟩
def s_X5_init : Option ((Nat) × (Int32)) := some (0, 0)
set_option maxHeartbeats 4000000 in
set_option maxRecDepth 100000 in
theorem ct_X5_init {res : (Nat) × (Int32)} (hf : s_X5_init = some res) : Ct k_X5_init [.ref 0] [.inl (2, [.null, .int 0])] (.inl none) [.inl (2, [.ref (res.1 + 1000), .int res.2])] := by
  unfold s_X5_init at hf
  refine Ct.of (L := [some (.ref 0)]) cal_X5_init (fent_pad (j := 0) rfl) (Nat.le_of_ble_eq_true rfl) ?_
  refine V.aload_n (i := 0) dX5_init_0 rfl rfl ?_
  refine V.objInit dX5_init_1 w89 w29 w30 (Nat.le_of_ble_eq_true rfl) (Nat.le_of_ble_eq_true rfl) ?_
  refine V.aload_n (i := 0) dX5_init_4 rfl rfl ?_
  refine V.ldcS (i := 0) dX5_init_5 (List.mem_of_getElem? (i := 0) rfl) ?_
  refine V.putfield (ty := tyX5) (kf := 0) (σ' := [.inl (2, [.ref 1000, .int 0])]) fl_RX5 dX5_init_7 w91 (Nat.le_of_ble_eq_true rfl) rfl (fun _ => ⟨rfl, rfl⟩) rfl (Nat.le_of_ble_eq_true rfl) rfl ?_
  refine V.aload_n (i := 0) dX5_init_10 rfl rfl ?_
  refine V.iconst (v := 0) dX5_init_11 rfl ?_
  refine V.putfield (ty := tyX5) (kf := 1) (σ' := [.inl (2, [.ref 1000, .int 0])]) fl_RX5 dX5_init_12 w92 (Nat.le_of_ble_eq_true rfl) rfl (fun _ => ⟨rfl, rfl⟩) rfl (Nat.le_of_ble_eq_true rfl) rfl ?_
  obtain rfl := Option.some.inj hf
  exact V.vret dX5_init_15 rfl (Nat.le_of_ble_eq_true rfl) (Nat.le_of_ble_eq_true rfl) rfl
