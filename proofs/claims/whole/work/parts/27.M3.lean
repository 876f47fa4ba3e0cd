/-! laid by program: shallow functions and contracts -/
def k_X11_fisherNumber : fK := (yX11_fisherNumber, cX11_fisherNumber, 3, (some .int), [], (6, 128), (0, 0), (0, 0))
theorem cal_X11_fisherNumber : fCal k_X11_fisherNumber 2 := ⟨⟨wc1390, w73⟩, ⟨by decide +kernel, by decide +kernel⟩, by decide +kernel, by decide +kernel⟩
def s_X11_fisherNumber (a1 : Int32) (a2 : Int32) (M_s : Nat → Int32) : Option (Int32) := if (a2 = 2 : Prop) then ((s_X11_left a1 M_s).bind fun v3 => some v3) else (if (2 ≤ a2 : Prop) then ((s_X11_of a1 (a2 - 1) M_s).bind fun v1 => some v1) else ((s_X11_of a1 a2 M_s).bind fun v2 => some v2))
set_option maxHeartbeats 4000000 in
set_option maxRecDepth 100000 in
theorem ct_X11_fisherNumber {a1 : Int32} {a2 : Int32} {M_savedMany : Int32} {M_isTaken : Int32} {M_length : Int32} {M_thrown : Int32} {M_spelt : Int32} {M_speltMany : Int32} {M_place : Int32} {M_kind : Int32} {M_one : Int32} {M_two : Int32} {M_three : Int32} {M_begins : Int32} {M_done : Int32} {M_stopBy : Int32} {M_hash : Int64} {M_s : Nat → Int32} {M_saved : Nat → Int32} {M_snapshot : Nat → Int32} {M_text : Nat → Int32} {res : Int32} (hf : s_X11_fisherNumber a1 a2 M_s = some res) : Ct k_X11_fisherNumber [.ref 0, .int a1, .int a2] [.inl (6, [.ref 1, .ref 2, .int M_savedMany, .ref 3, .int M_isTaken, .ref 4, .int M_length, .int M_thrown, .int M_spelt, .int M_speltMany, .int M_place, .int M_kind, .int M_one, .int M_two, .int M_three, .int M_begins, .int M_done, .int M_stopBy, .long M_hash]), .inr (406, .inl M_s), .inr (2436, .inl M_saved), .inr (406, .inl M_snapshot), .inr (60, .inl M_text)] (.inl (some (.int res))) [.inl (6, [.ref 1, .ref 2, .int M_savedMany, .ref 3, .int M_isTaken, .ref 4, .int M_length, .int M_thrown, .int M_spelt, .int M_speltMany, .int M_place, .int M_kind, .int M_one, .int M_two, .int M_three, .int M_begins, .int M_done, .int M_stopBy, .long M_hash]), .inr (406, .inl M_s), .inr (2436, .inl M_saved), .inr (406, .inl M_snapshot), .inr (60, .inl M_text)] := by
  unfold s_X11_fisherNumber at hf
  refine Ct.of (L := [some (.ref 0), some (.int a1), some (.int a2)]) cal_X11_fisherNumber (fent_pad (j := 0) rfl) (Nat.le_of_ble_eq_true rfl) ?_
  refine V.iload_n (i := 2) dX11_fisherNumber_0 rfl rfl ?_
  refine V.iconst (v := 2) dX11_fisherNumber_1 rfl ?_
  refine V.icmp_ne (tgt := 13) dX11_fisherNumber_2 (by decide) (fun h => ?_) (fun h => ?_)
  · have hf := fif_f h hf
    refine V.aload_n (i := 0) dX11_fisherNumber_13 rfl rfl ?_
    refine V.iload_n (i := 1) dX11_fisherNumber_14 rfl rfl ?_
    refine V.iload_n (i := 2) dX11_fisherNumber_15 rfl rfl ?_
    refine V.iconst (v := 2) dX11_fisherNumber_16 rfl ?_
    refine V.icmp_ge (tgt := 24) dX11_fisherNumber_17 (by decide) (fun h => ?_) (fun h => ?_)
    · have hf := fif_t h hf
      refine V.iload_n (i := 2) dX11_fisherNumber_24 rfl rfl ?_
      refine V.iconst (v := 1) dX11_fisherNumber_25 rfl ?_
      refine V.isub dX11_fisherNumber_26 ?_
      obtain ⟨v1, hv1, hf⟩ := fbind hf
      refine V.callVn (pl := [0, 1, 2, 3, 4]) (σ' := [.inl (6, [.ref 1, .ref 2, .int M_savedMany, .ref 3, .int M_isTaken, .ref 4, .int M_length, .int M_thrown, .int M_spelt, .int M_speltMany, .int M_place, .int M_kind, .int M_one, .int M_two, .int M_three, .int M_begins, .int M_done, .int M_stopBy, .long M_hash]), .inr (406, .inl M_s), .inr (2436, .inl M_saved), .inr (406, .inl M_snapshot), .inr (60, .inl M_text)]) (st2 := [.int v1]) (cl2 := 0) (sl2 := 0) (ct_X11_of (a1 := a1) (a2 := (a2 - 1)) (M_savedMany := M_savedMany) (M_isTaken := M_isTaken) (M_length := M_length) (M_thrown := M_thrown) (M_spelt := M_spelt) (M_speltMany := M_speltMany) (M_place := M_place) (M_kind := M_kind) (M_one := M_one) (M_two := M_two) (M_three := M_three) (M_begins := M_begins) (M_done := M_done) (M_stopBy := M_stopBy) (M_hash := M_hash) (M_s := M_s) (M_saved := M_saved) (M_snapshot := M_snapshot) (M_text := M_text) hv1) dX11_fisherNumber_27 w1123 ⟨w1125, w10⟩ cal_X11_of rfl ⟨⟨Nat.le_of_ble_eq_true rfl, Nat.le_of_ble_eq_true rfl⟩, Nat.le_of_ble_eq_true rfl, Nat.le_of_ble_eq_true rfl⟩ (Nat.le_of_ble_eq_true rfl) (Or.inl ⟨_, _, _, _, rfl, rfl⟩) rfl ⟨rfl, ⟨by decide, by decide⟩, rfl, (fr_cons (Or.inl (Nat.le_of_ble_eq_true rfl)) (fr_cons (Or.inl (Nat.le_of_ble_eq_true rfl)) (fr_cons (Or.inl (Nat.le_of_ble_eq_true rfl)) (fr_cons (Or.inl (Nat.le_of_ble_eq_true rfl)) (fr_nil))))), rfl⟩ fr_i rfl rfl rfl rfl ?_
      obtain rfl := Option.some.inj hf
      exact V.iret dX11_fisherNumber_30 rfl (Nat.le_of_ble_eq_true rfl) (Nat.le_of_ble_eq_true rfl) rfl
    · have hf := fif_f h hf
      refine V.iload_n (i := 2) dX11_fisherNumber_20 rfl rfl ?_
      refine V.goto (tgt := 27) dX11_fisherNumber_21 (by decide) ?_
      obtain ⟨v2, hv2, hf⟩ := fbind hf
      refine V.callVn (pl := [0, 1, 2, 3, 4]) (σ' := [.inl (6, [.ref 1, .ref 2, .int M_savedMany, .ref 3, .int M_isTaken, .ref 4, .int M_length, .int M_thrown, .int M_spelt, .int M_speltMany, .int M_place, .int M_kind, .int M_one, .int M_two, .int M_three, .int M_begins, .int M_done, .int M_stopBy, .long M_hash]), .inr (406, .inl M_s), .inr (2436, .inl M_saved), .inr (406, .inl M_snapshot), .inr (60, .inl M_text)]) (st2 := [.int v2]) (cl2 := 0) (sl2 := 0) (ct_X11_of (a1 := a1) (a2 := a2) (M_savedMany := M_savedMany) (M_isTaken := M_isTaken) (M_length := M_length) (M_thrown := M_thrown) (M_spelt := M_spelt) (M_speltMany := M_speltMany) (M_place := M_place) (M_kind := M_kind) (M_one := M_one) (M_two := M_two) (M_three := M_three) (M_begins := M_begins) (M_done := M_done) (M_stopBy := M_stopBy) (M_hash := M_hash) (M_s := M_s) (M_saved := M_saved) (M_snapshot := M_snapshot) (M_text := M_text) hv2) dX11_fisherNumber_27 w1123 ⟨w1125, w10⟩ cal_X11_of rfl ⟨⟨Nat.le_of_ble_eq_true rfl, Nat.le_of_ble_eq_true rfl⟩, Nat.le_of_ble_eq_true rfl, Nat.le_of_ble_eq_true rfl⟩ (Nat.le_of_ble_eq_true rfl) (Or.inl ⟨_, _, _, _, rfl, rfl⟩) rfl ⟨rfl, ⟨by decide, by decide⟩, rfl, (fr_cons (Or.inl (Nat.le_of_ble_eq_true rfl)) (fr_cons (Or.inl (Nat.le_of_ble_eq_true rfl)) (fr_cons (Or.inl (Nat.le_of_ble_eq_true rfl)) (fr_cons (Or.inl (Nat.le_of_ble_eq_true rfl)) (fr_nil))))), rfl⟩ fr_i rfl rfl rfl rfl ?_
      obtain rfl := Option.some.inj hf
      exact V.iret dX11_fisherNumber_30 rfl (Nat.le_of_ble_eq_true rfl) (Nat.le_of_ble_eq_true rfl) rfl
  · have hf := fif_t h hf
    refine V.aload_n (i := 0) dX11_fisherNumber_5 rfl rfl ?_
    refine V.iload_n (i := 1) dX11_fisherNumber_6 rfl rfl ?_
    obtain ⟨v3, hv3, hf⟩ := fbind hf
    refine V.callVn (pl := [0, 1, 2, 3, 4]) (σ' := [.inl (6, [.ref 1, .ref 2, .int M_savedMany, .ref 3, .int M_isTaken, .ref 4, .int M_length, .int M_thrown, .int M_spelt, .int M_speltMany, .int M_place, .int M_kind, .int M_one, .int M_two, .int M_three, .int M_begins, .int M_done, .int M_stopBy, .long M_hash]), .inr (406, .inl M_s), .inr (2436, .inl M_saved), .inr (406, .inl M_snapshot), .inr (60, .inl M_text)]) (st2 := [.int v3]) (cl2 := 0) (sl2 := 0) (ct_X11_left (a1 := a1) (M_savedMany := M_savedMany) (M_isTaken := M_isTaken) (M_length := M_length) (M_thrown := M_thrown) (M_spelt := M_spelt) (M_speltMany := M_speltMany) (M_place := M_place) (M_kind := M_kind) (M_one := M_one) (M_two := M_two) (M_three := M_three) (M_begins := M_begins) (M_done := M_done) (M_stopBy := M_stopBy) (M_hash := M_hash) (M_s := M_s) (M_saved := M_saved) (M_snapshot := M_snapshot) (M_text := M_text) hv3) dX11_fisherNumber_7 w1139 ⟨w1141, w11⟩ cal_X11_left rfl ⟨⟨Nat.le_of_ble_eq_true rfl, Nat.le_of_ble_eq_true rfl⟩, Nat.le_of_ble_eq_true rfl, Nat.le_of_ble_eq_true rfl⟩ (Nat.le_of_ble_eq_true rfl) (Or.inl ⟨_, _, _, _, rfl, rfl⟩) rfl ⟨rfl, ⟨by decide, by decide⟩, rfl, (fr_cons (Or.inl (Nat.le_of_ble_eq_true rfl)) (fr_cons (Or.inl (Nat.le_of_ble_eq_true rfl)) (fr_cons (Or.inl (Nat.le_of_ble_eq_true rfl)) (fr_cons (Or.inl (Nat.le_of_ble_eq_true rfl)) (fr_nil))))), rfl⟩ fr_i rfl rfl rfl rfl ?_
    refine V.goto (tgt := 30) dX11_fisherNumber_10 (by decide) ?_
    obtain rfl := Option.some.inj hf
    exact V.iret dX11_fisherNumber_30 rfl (Nat.le_of_ble_eq_true rfl) (Nat.le_of_ble_eq_true rfl) rfl
def k_X11_fisher : fK := (yX11_fisher, cX11_fisher, 3, (some .int), [], (7, 150), (0, 0), (0, 0))
theorem cal_X11_fisher : fCal k_X11_fisher 2 := ⟨⟨wc1386, w73⟩, ⟨by decide +kernel, by decide +kernel⟩, by decide +kernel, by decide +kernel⟩
def s_X11_fisher (a1 : Int32) (a2 : Int32) (M_thrown : Int32) (M_s : Nat → Int32) : Option (Int32 × (Int32)) := (s_X11_isFisher a1).bind fun v1 => if (v1 = 0 : Prop) then ((s_X11_holds 1 M_thrown).bind fun v7 => if (v7.1 = 0 : Prop) then (some (0, v7.2)) else ((s_X11_fisherNumber a1 a2 M_s).bind fun v8 => some (v8, v7.2))) else ((s_X11_in a2 0 4).bind fun v2 => if (v2 = 0 : Prop) then ((s_X11_holds 2 M_thrown).bind fun v3 => if (v3.1 = 0 : Prop) then (some (0, v3.2)) else ((s_X11_fisherNumber a1 a2 M_s).bind fun v4 => some (v4, v3.2))) else ((s_X11_holds 0 M_thrown).bind fun v5 => if (v5.1 = 0 : Prop) then (some (0, v5.2)) else ((s_X11_fisherNumber a1 a2 M_s).bind fun v6 => some (v6, v5.2))))
set_option maxHeartbeats 4000000 in
set_option maxRecDepth 100000 in
theorem ct_X11_fisher {a1 : Int32} {a2 : Int32} {M_savedMany : Int32} {M_isTaken : Int32} {M_length : Int32} {M_thrown : Int32} {M_spelt : Int32} {M_speltMany : Int32} {M_place : Int32} {M_kind : Int32} {M_one : Int32} {M_two : Int32} {M_three : Int32} {M_begins : Int32} {M_done : Int32} {M_stopBy : Int32} {M_hash : Int64} {M_s : Nat → Int32} {M_saved : Nat → Int32} {M_snapshot : Nat → Int32} {M_text : Nat → Int32} {res : Int32 × (Int32)} (hf : s_X11_fisher a1 a2 M_thrown M_s = some res) : Ct k_X11_fisher [.ref 0, .int a1, .int a2] [.inl (6, [.ref 1, .ref 2, .int M_savedMany, .ref 3, .int M_isTaken, .ref 4, .int M_length, .int M_thrown, .int M_spelt, .int M_speltMany, .int M_place, .int M_kind, .int M_one, .int M_two, .int M_three, .int M_begins, .int M_done, .int M_stopBy, .long M_hash]), .inr (406, .inl M_s), .inr (2436, .inl M_saved), .inr (406, .inl M_snapshot), .inr (60, .inl M_text)] (.inl (some (.int res.1))) [.inl (6, [.ref 1, .ref 2, .int M_savedMany, .ref 3, .int M_isTaken, .ref 4, .int M_length, .int res.2, .int M_spelt, .int M_speltMany, .int M_place, .int M_kind, .int M_one, .int M_two, .int M_three, .int M_begins, .int M_done, .int M_stopBy, .long M_hash]), .inr (406, .inl M_s), .inr (2436, .inl M_saved), .inr (406, .inl M_snapshot), .inr (60, .inl M_text)] := by
  unfold s_X11_fisher at hf
  refine Ct.of (L := [some (.ref 0), some (.int a1), some (.int a2)]) cal_X11_fisher (fent_pad (j := 0) rfl) (Nat.le_of_ble_eq_true rfl) ?_
  refine V.aload_n (i := 0) dX11_fisher_0 rfl rfl ?_
  refine V.iload_n (i := 1) dX11_fisher_1 rfl rfl ?_
  obtain ⟨v1, hv1, hf⟩ := fbind hf
  refine V.callSn (pl := []) (σ' := [.inl (6, [.ref 1, .ref 2, .int M_savedMany, .ref 3, .int M_isTaken, .ref 4, .int M_length, .int M_thrown, .int M_spelt, .int M_speltMany, .int M_place, .int M_kind, .int M_one, .int M_two, .int M_three, .int M_begins, .int M_done, .int M_stopBy, .long M_hash]), .inr (406, .inl M_s), .inr (2436, .inl M_saved), .inr (406, .inl M_snapshot), .inr (60, .inl M_text)]) (st2 := [.int v1, .ref 0]) (cl2 := 0) (sl2 := 0) (ct_X11_isFisher (a0 := a1) hv1) dX11_fisher_2 w1116 w1117 cal_X11_isFisher ⟨⟨Nat.le_of_ble_eq_true rfl, Nat.le_of_ble_eq_true rfl⟩, Nat.le_of_ble_eq_true rfl, Nat.le_of_ble_eq_true rfl⟩ (Nat.le_of_ble_eq_true rfl) rfl ⟨rfl, ⟨by decide, by decide⟩, rfl, (fr_nil), rfl⟩ fr_i rfl rfl rfl rfl ?_
  refine V.if_ne (tgt := 12) dX11_fisher_5 (by decide) (fun h => ?_) (fun h => ?_)
  · have hf := fif_f h hf
    refine V.iload_n (i := 2) dX11_fisher_12 rfl rfl ?_
    refine V.iconst (v := 0) dX11_fisher_13 rfl ?_
    refine V.iconst (v := 4) dX11_fisher_14 rfl ?_
    obtain ⟨v2, hv2, hf⟩ := fbind hf
    refine V.callSn (pl := []) (σ' := [.inl (6, [.ref 1, .ref 2, .int M_savedMany, .ref 3, .int M_isTaken, .ref 4, .int M_length, .int M_thrown, .int M_spelt, .int M_speltMany, .int M_place, .int M_kind, .int M_one, .int M_two, .int M_three, .int M_begins, .int M_done, .int M_stopBy, .long M_hash]), .inr (406, .inl M_s), .inr (2436, .inl M_saved), .inr (406, .inl M_snapshot), .inr (60, .inl M_text)]) (st2 := [.int v2, .ref 0]) (cl2 := 0) (sl2 := 0) (ct_X11_in (a0 := a2) (a1 := 0) (a2 := 4) hv2) dX11_fisher_15 w1113 w1114 cal_X11_in ⟨⟨Nat.le_of_ble_eq_true rfl, Nat.le_of_ble_eq_true rfl⟩, Nat.le_of_ble_eq_true rfl, Nat.le_of_ble_eq_true rfl⟩ (Nat.le_of_ble_eq_true rfl) rfl ⟨rfl, ⟨by decide, by decide⟩, rfl, (fr_nil), rfl⟩ fr_i rfl rfl rfl rfl ?_
    refine V.if_eq (tgt := 25) dX11_fisher_18 (by decide) (fun h => ?_) (fun h => ?_)
    · have hf := fif_t h hf
      refine V.iconst (v := 2) dX11_fisher_25 rfl ?_
      obtain ⟨v3, hv3, hf⟩ := fbind hf
      refine V.callVn (pl := [0, 1, 2, 3, 4]) (σ' := [.inl (6, [.ref 1, .ref 2, .int M_savedMany, .ref 3, .int M_isTaken, .ref 4, .int M_length, .int v3.2, .int M_spelt, .int M_speltMany, .int M_place, .int M_kind, .int M_one, .int M_two, .int M_three, .int M_begins, .int M_done, .int M_stopBy, .long M_hash]), .inr (406, .inl M_s), .inr (2436, .inl M_saved), .inr (406, .inl M_snapshot), .inr (60, .inl M_text)]) (st2 := [.int v3.1]) (cl2 := 0) (sl2 := 0) (ct_X11_holds (a1 := 2) (M_savedMany := M_savedMany) (M_isTaken := M_isTaken) (M_length := M_length) (M_thrown := M_thrown) (M_spelt := M_spelt) (M_speltMany := M_speltMany) (M_place := M_place) (M_kind := M_kind) (M_one := M_one) (M_two := M_two) (M_three := M_three) (M_begins := M_begins) (M_done := M_done) (M_stopBy := M_stopBy) (M_hash := M_hash) (M_s := M_s) (M_saved := M_saved) (M_snapshot := M_snapshot) (M_text := M_text) hv3) dX11_fisher_26 w1181 ⟨w1183, w20⟩ cal_X11_holds rfl ⟨⟨Nat.le_of_ble_eq_true rfl, Nat.le_of_ble_eq_true rfl⟩, Nat.le_of_ble_eq_true rfl, Nat.le_of_ble_eq_true rfl⟩ (Nat.le_of_ble_eq_true rfl) (Or.inl ⟨_, _, _, _, rfl, rfl⟩) rfl ⟨rfl, ⟨by decide, by decide⟩, rfl, (fr_cons (Or.inl (Nat.le_of_ble_eq_true rfl)) (fr_cons (Or.inl (Nat.le_of_ble_eq_true rfl)) (fr_cons (Or.inl (Nat.le_of_ble_eq_true rfl)) (fr_cons (Or.inl (Nat.le_of_ble_eq_true rfl)) (fr_nil))))), rfl⟩ fr_i rfl rfl rfl rfl ?_
      refine V.if_eq (tgt := 41) dX11_fisher_29 (by decide) (fun h => ?_) (fun h => ?_)
      · have hf := fif_t h hf
        refine V.iconst (v := 0) dX11_fisher_41 rfl ?_
        obtain rfl := Option.some.inj hf
        exact V.iret dX11_fisher_42 rfl (Nat.le_of_ble_eq_true rfl) (Nat.le_of_ble_eq_true rfl) rfl
      · have hf := fif_f h hf
        refine V.aload_n (i := 0) dX11_fisher_32 rfl rfl ?_
        refine V.iload_n (i := 1) dX11_fisher_33 rfl rfl ?_
        refine V.iload_n (i := 2) dX11_fisher_34 rfl rfl ?_
        obtain ⟨v4, hv4, hf⟩ := fbind hf
        refine V.callVn (pl := [0, 1, 2, 3, 4]) (σ' := [.inl (6, [.ref 1, .ref 2, .int M_savedMany, .ref 3, .int M_isTaken, .ref 4, .int M_length, .int v3.2, .int M_spelt, .int M_speltMany, .int M_place, .int M_kind, .int M_one, .int M_two, .int M_three, .int M_begins, .int M_done, .int M_stopBy, .long M_hash]), .inr (406, .inl M_s), .inr (2436, .inl M_saved), .inr (406, .inl M_snapshot), .inr (60, .inl M_text)]) (st2 := [.int v4]) (cl2 := 0) (sl2 := 0) (ct_X11_fisherNumber (a1 := a1) (a2 := a2) (M_savedMany := M_savedMany) (M_isTaken := M_isTaken) (M_length := M_length) (M_thrown := v3.2) (M_spelt := M_spelt) (M_speltMany := M_speltMany) (M_place := M_place) (M_kind := M_kind) (M_one := M_one) (M_two := M_two) (M_three := M_three) (M_begins := M_begins) (M_done := M_done) (M_stopBy := M_stopBy) (M_hash := M_hash) (M_s := M_s) (M_saved := M_saved) (M_snapshot := M_snapshot) (M_text := M_text) hv4) dX11_fisher_35 w1387 ⟨w1389, w51⟩ cal_X11_fisherNumber rfl ⟨⟨Nat.le_of_ble_eq_true rfl, Nat.le_of_ble_eq_true rfl⟩, Nat.le_of_ble_eq_true rfl, Nat.le_of_ble_eq_true rfl⟩ (Nat.le_of_ble_eq_true rfl) (Or.inl ⟨_, _, _, _, rfl, rfl⟩) rfl ⟨rfl, ⟨by decide, by decide⟩, rfl, (fr_cons (Or.inl (Nat.le_of_ble_eq_true rfl)) (fr_cons (Or.inl (Nat.le_of_ble_eq_true rfl)) (fr_cons (Or.inl (Nat.le_of_ble_eq_true rfl)) (fr_cons (Or.inl (Nat.le_of_ble_eq_true rfl)) (fr_nil))))), rfl⟩ fr_i rfl rfl rfl rfl ?_
        refine V.goto (tgt := 42) dX11_fisher_38 (by decide) ?_
        obtain rfl := Option.some.inj hf
        exact V.iret dX11_fisher_42 rfl (Nat.le_of_ble_eq_true rfl) (Nat.le_of_ble_eq_true rfl) rfl
    · have hf := fif_f h hf
      refine V.iconst (v := 0) dX11_fisher_21 rfl ?_
      refine V.goto (tgt := 26) dX11_fisher_22 (by decide) ?_
      obtain ⟨v5, hv5, hf⟩ := fbind hf
      refine V.callVn (pl := [0, 1, 2, 3, 4]) (σ' := [.inl (6, [.ref 1, .ref 2, .int M_savedMany, .ref 3, .int M_isTaken, .ref 4, .int M_length, .int v5.2, .int M_spelt, .int M_speltMany, .int M_place, .int M_kind, .int M_one, .int M_two, .int M_three, .int M_begins, .int M_done, .int M_stopBy, .long M_hash]), .inr (406, .inl M_s), .inr (2436, .inl M_saved), .inr (406, .inl M_snapshot), .inr (60, .inl M_text)]) (st2 := [.int v5.1]) (cl2 := 0) (sl2 := 0) (ct_X11_holds (a1 := 0) (M_savedMany := M_savedMany) (M_isTaken := M_isTaken) (M_length := M_length) (M_thrown := M_thrown) (M_spelt := M_spelt) (M_speltMany := M_speltMany) (M_place := M_place) (M_kind := M_kind) (M_one := M_one) (M_two := M_two) (M_three := M_three) (M_begins := M_begins) (M_done := M_done) (M_stopBy := M_stopBy) (M_hash := M_hash) (M_s := M_s) (M_saved := M_saved) (M_snapshot := M_snapshot) (M_text := M_text) hv5) dX11_fisher_26 w1181 ⟨w1183, w20⟩ cal_X11_holds rfl ⟨⟨Nat.le_of_ble_eq_true rfl, Nat.le_of_ble_eq_true rfl⟩, Nat.le_of_ble_eq_true rfl, Nat.le_of_ble_eq_true rfl⟩ (Nat.le_of_ble_eq_true rfl) (Or.inl ⟨_, _, _, _, rfl, rfl⟩) rfl ⟨rfl, ⟨by decide, by decide⟩, rfl, (fr_cons (Or.inl (Nat.le_of_ble_eq_true rfl)) (fr_cons (Or.inl (Nat.le_of_ble_eq_true rfl)) (fr_cons (Or.inl (Nat.le_of_ble_eq_true rfl)) (fr_cons (Or.inl (Nat.le_of_ble_eq_true rfl)) (fr_nil))))), rfl⟩ fr_i rfl rfl rfl rfl ?_
      refine V.if_eq (tgt := 41) dX11_fisher_29 (by decide) (fun h => ?_) (fun h => ?_)
      · have hf := fif_t h hf
        refine V.iconst (v := 0) dX11_fisher_41 rfl ?_
        obtain rfl := Option.some.inj hf
        exact V.iret dX11_fisher_42 rfl (Nat.le_of_ble_eq_true rfl) (Nat.le_of_ble_eq_true rfl) rfl
      · have hf := fif_f h hf
        refine V.aload_n (i := 0) dX11_fisher_32 rfl rfl ?_
        refine V.iload_n (i := 1) dX11_fisher_33 rfl rfl ?_
        refine V.iload_n (i := 2) dX11_fisher_34 rfl rfl ?_
        obtain ⟨v6, hv6, hf⟩ := fbind hf
        refine V.callVn (pl := [0, 1, 2, 3, 4]) (σ' := [.inl (6, [.ref 1, .ref 2, .int M_savedMany, .ref 3, .int M_isTaken, .ref 4, .int M_length, .int v5.2, .int M_spelt, .int M_speltMany, .int M_place, .int M_kind, .int M_one, .int M_two, .int M_three, .int M_begins, .int M_done, .int M_stopBy, .long M_hash]), .inr (406, .inl M_s), .inr (2436, .inl M_saved), .inr (406, .inl M_snapshot), .inr (60, .inl M_text)]) (st2 := [.int v6]) (cl2 := 0) (sl2 := 0) (ct_X11_fisherNumber (a1 := a1) (a2 := a2) (M_savedMany := M_savedMany) (M_isTaken := M_isTaken) (M_length := M_length) (M_thrown := v5.2) (M_spelt := M_spelt) (M_speltMany := M_speltMany) (M_place := M_place) (M_kind := M_kind) (M_one := M_one) (M_two := M_two) (M_three := M_three) (M_begins := M_begins) (M_done := M_done) (M_stopBy := M_stopBy) (M_hash := M_hash) (M_s := M_s) (M_saved := M_saved) (M_snapshot := M_snapshot) (M_text := M_text) hv6) dX11_fisher_35 w1387 ⟨w1389, w51⟩ cal_X11_fisherNumber rfl ⟨⟨Nat.le_of_ble_eq_true rfl, Nat.le_of_ble_eq_true rfl⟩, Nat.le_of_ble_eq_true rfl, Nat.le_of_ble_eq_true rfl⟩ (Nat.le_of_ble_eq_true rfl) (Or.inl ⟨_, _, _, _, rfl, rfl⟩) rfl ⟨rfl, ⟨by decide, by decide⟩, rfl, (fr_cons (Or.inl (Nat.le_of_ble_eq_true rfl)) (fr_cons (Or.inl (Nat.le_of_ble_eq_true rfl)) (fr_cons (Or.inl (Nat.le_of_ble_eq_true rfl)) (fr_cons (Or.inl (Nat.le_of_ble_eq_true rfl)) (fr_nil))))), rfl⟩ fr_i rfl rfl rfl rfl ?_
        refine V.goto (tgt := 42) dX11_fisher_38 (by decide) ?_
        obtain rfl := Option.some.inj hf
        exact V.iret dX11_fisher_42 rfl (Nat.le_of_ble_eq_true rfl) (Nat.le_of_ble_eq_true rfl) rfl
  · have hf := fif_t h hf
    refine V.iconst (v := 1) dX11_fisher_8 rfl ?_
    refine V.goto (tgt := 26) dX11_fisher_9 (by decide) ?_
    obtain ⟨v7, hv7, hf⟩ := fbind hf
    refine V.callVn (pl := [0, 1, 2, 3, 4]) (σ' := [.inl (6, [.ref 1, .ref 2, .int M_savedMany, .ref 3, .int M_isTaken, .ref 4, .int M_length, .int v7.2, .int M_spelt, .int M_speltMany, .int M_place, .int M_kind, .int M_one, .int M_two, .int M_three, .int M_begins, .int M_done, .int M_stopBy, .long M_hash]), .inr (406, .inl M_s), .inr (2436, .inl M_saved), .inr (406, .inl M_snapshot), .inr (60, .inl M_text)]) (st2 := [.int v7.1]) (cl2 := 0) (sl2 := 0) (ct_X11_holds (a1 := 1) (M_savedMany := M_savedMany) (M_isTaken := M_isTaken) (M_length := M_length) (M_thrown := M_thrown) (M_spelt := M_spelt) (M_speltMany := M_speltMany) (M_place := M_place) (M_kind := M_kind) (M_one := M_one) (M_two := M_two) (M_three := M_three) (M_begins := M_begins) (M_done := M_done) (M_stopBy := M_stopBy) (M_hash := M_hash) (M_s := M_s) (M_saved := M_saved) (M_snapshot := M_snapshot) (M_text := M_text) hv7) dX11_fisher_26 w1181 ⟨w1183, w20⟩ cal_X11_holds rfl ⟨⟨Nat.le_of_ble_eq_true rfl, Nat.le_of_ble_eq_true rfl⟩, Nat.le_of_ble_eq_true rfl, Nat.le_of_ble_eq_true rfl⟩ (Nat.le_of_ble_eq_true rfl) (Or.inl ⟨_, _, _, _, rfl, rfl⟩) rfl ⟨rfl, ⟨by decide, by decide⟩, rfl, (fr_cons (Or.inl (Nat.le_of_ble_eq_true rfl)) (fr_cons (Or.inl (Nat.le_of_ble_eq_true rfl)) (fr_cons (Or.inl (Nat.le_of_ble_eq_true rfl)) (fr_cons (Or.inl (Nat.le_of_ble_eq_true rfl)) (fr_nil))))), rfl⟩ fr_i rfl rfl rfl rfl ?_
    refine V.if_eq (tgt := 41) dX11_fisher_29 (by decide) (fun h => ?_) (fun h => ?_)
    · have hf := fif_t h hf
      refine V.iconst (v := 0) dX11_fisher_41 rfl ?_
      obtain rfl := Option.some.inj hf
      exact V.iret dX11_fisher_42 rfl (Nat.le_of_ble_eq_true rfl) (Nat.le_of_ble_eq_true rfl) rfl
    · have hf := fif_f h hf
      refine V.aload_n (i := 0) dX11_fisher_32 rfl rfl ?_
      refine V.iload_n (i := 1) dX11_fisher_33 rfl rfl ?_
      refine V.iload_n (i := 2) dX11_fisher_34 rfl rfl ?_
      obtain ⟨v8, hv8, hf⟩ := fbind hf
      refine V.callVn (pl := [0, 1, 2, 3, 4]) (σ' := [.inl (6, [.ref 1, .ref 2, .int M_savedMany, .ref 3, .int M_isTaken, .ref 4, .int M_length, .int v7.2, .int M_spelt, .int M_speltMany, .int M_place, .int M_kind, .int M_one, .int M_two, .int M_three, .int M_begins, .int M_done, .int M_stopBy, .long M_hash]), .inr (406, .inl M_s), .inr (2436, .inl M_saved), .inr (406, .inl M_snapshot), .inr (60, .inl M_text)]) (st2 := [.int v8]) (cl2 := 0) (sl2 := 0) (ct_X11_fisherNumber (a1 := a1) (a2 := a2) (M_savedMany := M_savedMany) (M_isTaken := M_isTaken) (M_length := M_length) (M_thrown := v7.2) (M_spelt := M_spelt) (M_speltMany := M_speltMany) (M_place := M_place) (M_kind := M_kind) (M_one := M_one) (M_two := M_two) (M_three := M_three) (M_begins := M_begins) (M_done := M_done) (M_stopBy := M_stopBy) (M_hash := M_hash) (M_s := M_s) (M_saved := M_saved) (M_snapshot := M_snapshot) (M_text := M_text) hv8) dX11_fisher_35 w1387 ⟨w1389, w51⟩ cal_X11_fisherNumber rfl ⟨⟨Nat.le_of_ble_eq_true rfl, Nat.le_of_ble_eq_true rfl⟩, Nat.le_of_ble_eq_true rfl, Nat.le_of_ble_eq_true rfl⟩ (Nat.le_of_ble_eq_true rfl) (Or.inl ⟨_, _, _, _, rfl, rfl⟩) rfl ⟨rfl, ⟨by decide, by decide⟩, rfl, (fr_cons (Or.inl (Nat.le_of_ble_eq_true rfl)) (fr_cons (Or.inl (Nat.le_of_ble_eq_true rfl)) (fr_cons (Or.inl (Nat.le_of_ble_eq_true rfl)) (fr_cons (Or.inl (Nat.le_of_ble_eq_true rfl)) (fr_nil))))), rfl⟩ fr_i rfl rfl rfl rfl ?_
      refine V.goto (tgt := 42) dX11_fisher_38 (by decide) ?_
      obtain rfl := Option.some.inj hf
      exact V.iret dX11_fisher_42 rfl (Nat.le_of_ble_eq_true rfl) (Nat.le_of_ble_eq_true rfl) rfl
def k_X11_entryNumber : fK := (yX11_entryNumber, cX11_entryNumber, 4, (some .int), [], (1, 21), (0, 0), (0, 0))
theorem cal_X11_entryNumber : fCal k_X11_entryNumber 2 := ⟨⟨wc1398, w73⟩, ⟨by decide +kernel, by decide +kernel⟩, by decide +kernel, by decide +kernel⟩
def s_X11_entryNumber (a1 : Int32) (a2 : Int32) (M_s : Nat → Int32) : Option (Int32) := fld 406 M_s ((358 + (4 * a1)) + a2) fun v1 => if (a2 = 3 : Prop) then ((s_X11_letterAt v1 0).bind fun v2 => some v2) else (some v1)
set_option maxHeartbeats 4000000 in
set_option maxRecDepth 100000 in
theorem ct_X11_entryNumber {a1 : Int32} {a2 : Int32} {M_savedMany : Int32} {M_isTaken : Int32} {M_length : Int32} {M_thrown : Int32} {M_spelt : Int32} {M_speltMany : Int32} {M_place : Int32} {M_kind : Int32} {M_one : Int32} {M_two : Int32} {M_three : Int32} {M_begins : Int32} {M_done : Int32} {M_stopBy : Int32} {M_hash : Int64} {M_s : Nat → Int32} {M_saved : Nat → Int32} {M_snapshot : Nat → Int32} {M_text : Nat → Int32} {res : Int32} (hf : s_X11_entryNumber a1 a2 M_s = some res) : Ct k_X11_entryNumber [.ref 0, .int a1, .int a2] [.inl (6, [.ref 1, .ref 2, .int M_savedMany, .ref 3, .int M_isTaken, .ref 4, .int M_length, .int M_thrown, .int M_spelt, .int M_speltMany, .int M_place, .int M_kind, .int M_one, .int M_two, .int M_three, .int M_begins, .int M_done, .int M_stopBy, .long M_hash]), .inr (406, .inl M_s), .inr (2436, .inl M_saved), .inr (406, .inl M_snapshot), .inr (60, .inl M_text)] (.inl (some (.int res))) [.inl (6, [.ref 1, .ref 2, .int M_savedMany, .ref 3, .int M_isTaken, .ref 4, .int M_length, .int M_thrown, .int M_spelt, .int M_speltMany, .int M_place, .int M_kind, .int M_one, .int M_two, .int M_three, .int M_begins, .int M_done, .int M_stopBy, .long M_hash]), .inr (406, .inl M_s), .inr (2436, .inl M_saved), .inr (406, .inl M_snapshot), .inr (60, .inl M_text)] := by
  unfold s_X11_entryNumber at hf
  refine Ct.of (L := [some (.ref 0), some (.int a1), some (.int a2), none]) cal_X11_entryNumber (fent_pad (j := 1) rfl) (Nat.le_of_ble_eq_true rfl) ?_
  refine V.aload_n (i := 0) dX11_entryNumber_0 rfl rfl ?_
  refine V.getfield (kf := 0) (v := .ref 1) fl_RX11 dX11_entryNumber_1 w1043 (Nat.le_of_ble_eq_true rfl) rfl rfl ?_
  refine V.sipush (v := 358) dX11_entryNumber_4 rfl ?_
  refine V.iconst (v := 4) dX11_entryNumber_7 rfl ?_
  refine V.iload_n (i := 1) dX11_entryNumber_8 rfl rfl ?_
  refine V.imul dX11_entryNumber_9 ?_
  refine V.iadd dX11_entryNumber_10 ?_
  refine V.iload_n (i := 2) dX11_entryNumber_11 rfl rfl ?_
  refine V.iadd dX11_entryNumber_12 ?_
  obtain ⟨hi, v1, ev1, hf⟩ := fld_e hf
  refine V.fld dX11_entryNumber_13 rfl hi ev1 ?_
  refine V.istore_n (i := 3) (L' := [some (.ref 0), some (.int a1), some (.int a2), some (.int v1)]) dX11_entryNumber_14 rfl (Nat.le_of_ble_eq_true rfl) rfl rfl ?_
  refine V.iload_n (i := 2) dX11_entryNumber_15 rfl rfl ?_
  refine V.iconst (v := 3) dX11_entryNumber_16 rfl ?_
  refine V.icmp_ne (tgt := 28) dX11_entryNumber_17 (by decide) (fun h => ?_) (fun h => ?_)
  · have hf := fif_f h hf
    refine V.iload_n (i := 3) dX11_entryNumber_28 rfl rfl ?_
    obtain rfl := Option.some.inj hf
    exact V.iret dX11_entryNumber_29 rfl (Nat.le_of_ble_eq_true rfl) (Nat.le_of_ble_eq_true rfl) rfl
  · have hf := fif_t h hf
    refine V.iload_n (i := 3) dX11_entryNumber_20 rfl rfl ?_
    refine V.iconst (v := 0) dX11_entryNumber_21 rfl ?_
    obtain ⟨v2, hv2, hf⟩ := fbind hf
    refine V.callSn (pl := []) (σ' := [.inl (6, [.ref 1, .ref 2, .int M_savedMany, .ref 3, .int M_isTaken, .ref 4, .int M_length, .int M_thrown, .int M_spelt, .int M_speltMany, .int M_place, .int M_kind, .int M_one, .int M_two, .int M_three, .int M_begins, .int M_done, .int M_stopBy, .long M_hash]), .inr (406, .inl M_s), .inr (2436, .inl M_saved), .inr (406, .inl M_snapshot), .inr (60, .inl M_text)]) (st2 := [.int v2]) (cl2 := 0) (sl2 := 0) (ct_X11_letterAt (a0 := v1) (a1 := 0) hv2) dX11_entryNumber_22 w1130 w1131 cal_X11_letterAt ⟨⟨Nat.le_of_ble_eq_true rfl, Nat.le_of_ble_eq_true rfl⟩, Nat.le_of_ble_eq_true rfl, Nat.le_of_ble_eq_true rfl⟩ (Nat.le_of_ble_eq_true rfl) rfl ⟨rfl, ⟨by decide, by decide⟩, rfl, (fr_nil), rfl⟩ fr_i rfl rfl rfl rfl ?_
    refine V.goto (tgt := 29) dX11_entryNumber_25 (by decide) ?_
    obtain rfl := Option.some.inj hf
    exact V.iret dX11_entryNumber_29 rfl (Nat.le_of_ble_eq_true rfl) (Nat.le_of_ble_eq_true rfl) rfl
def k_X11_drowned : fK := (yX11_drowned, cX11_drowned, 3, (some .int), [], (2, 44), (0, 0), (0, 0))
theorem cal_X11_drowned : fCal k_X11_drowned 2 := ⟨⟨wc1394, w73⟩, ⟨by decide +kernel, by decide +kernel⟩, by decide +kernel, by decide +kernel⟩
def s_X11_drowned (a1 : Int32) (a2 : Int32) (M_thrown : Int32) (M_s : Nat → Int32) : Option (Int32 × (Int32)) := if (a1 < 0 : Prop) then ((s_X11_holds 1 M_thrown).bind fun v1 => if (v1.1 = 0 : Prop) then (some (0, v1.2)) else (fld 406 M_s 1 fun v2 => if (v2 ≤ a1 : Prop) then (some ((-1), v1.2)) else ((s_X11_entryNumber a1 a2 M_s).bind fun v3 => some (v3, v1.2)))) else ((s_X11_in a2 0 3).bind fun v4 => if (v4 = 0 : Prop) then ((s_X11_holds 1 M_thrown).bind fun v8 => if (v8.1 = 0 : Prop) then (some (0, v8.2)) else (fld 406 M_s 1 fun v9 => if (v9 ≤ a1 : Prop) then (some ((-1), v8.2)) else ((s_X11_entryNumber a1 a2 M_s).bind fun v10 => some (v10, v8.2)))) else ((s_X11_holds 0 M_thrown).bind fun v5 => if (v5.1 = 0 : Prop) then (some (0, v5.2)) else (fld 406 M_s 1 fun v6 => if (v6 ≤ a1 : Prop) then (some ((-1), v5.2)) else ((s_X11_entryNumber a1 a2 M_s).bind fun v7 => some (v7, v5.2)))))
set_option maxHeartbeats 4000000 in
set_option maxRecDepth 100000 in
theorem ct_X11_drowned {a1 : Int32} {a2 : Int32} {M_savedMany : Int32} {M_isTaken : Int32} {M_length : Int32} {M_thrown : Int32} {M_spelt : Int32} {M_speltMany : Int32} {M_place : Int32} {M_kind : Int32} {M_one : Int32} {M_two : Int32} {M_three : Int32} {M_begins : Int32} {M_done : Int32} {M_stopBy : Int32} {M_hash : Int64} {M_s : Nat → Int32} {M_saved : Nat → Int32} {M_snapshot : Nat → Int32} {M_text : Nat → Int32} {res : Int32 × (Int32)} (hf : s_X11_drowned a1 a2 M_thrown M_s = some res) : Ct k_X11_drowned [.ref 0, .int a1, .int a2] [.inl (6, [.ref 1, .ref 2, .int M_savedMany, .ref 3, .int M_isTaken, .ref 4, .int M_length, .int M_thrown, .int M_spelt, .int M_speltMany, .int M_place, .int M_kind, .int M_one, .int M_two, .int M_three, .int M_begins, .int M_done, .int M_stopBy, .long M_hash]), .inr (406, .inl M_s), .inr (2436, .inl M_saved), .inr (406, .inl M_snapshot), .inr (60, .inl M_text)] (.inl (some (.int res.1))) [.inl (6, [.ref 1, .ref 2, .int M_savedMany, .ref 3, .int M_isTaken, .ref 4, .int M_length, .int res.2, .int M_spelt, .int M_speltMany, .int M_place, .int M_kind, .int M_one, .int M_two, .int M_three, .int M_begins, .int M_done, .int M_stopBy, .long M_hash]), .inr (406, .inl M_s), .inr (2436, .inl M_saved), .inr (406, .inl M_snapshot), .inr (60, .inl M_text)] := by
  unfold s_X11_drowned at hf
  refine Ct.of (L := [some (.ref 0), some (.int a1), some (.int a2)]) cal_X11_drowned (fent_pad (j := 0) rfl) (Nat.le_of_ble_eq_true rfl) ?_
  refine V.aload_n (i := 0) dX11_drowned_0 rfl rfl ?_
  refine V.iload_n (i := 1) dX11_drowned_1 rfl rfl ?_
  refine V.if_lt (tgt := 14) dX11_drowned_2 (by decide) (fun h => ?_) (fun h => ?_)
  · have hf := fif_t h hf
    refine V.iconst (v := 1) dX11_drowned_14 rfl ?_
    refine V.goto (tgt := 19) dX11_drowned_15 (by decide) ?_
    obtain ⟨v1, hv1, hf⟩ := fbind hf
    refine V.callVn (pl := [0, 1, 2, 3, 4]) (σ' := [.inl (6, [.ref 1, .ref 2, .int M_savedMany, .ref 3, .int M_isTaken, .ref 4, .int M_length, .int v1.2, .int M_spelt, .int M_speltMany, .int M_place, .int M_kind, .int M_one, .int M_two, .int M_three, .int M_begins, .int M_done, .int M_stopBy, .long M_hash]), .inr (406, .inl M_s), .inr (2436, .inl M_saved), .inr (406, .inl M_snapshot), .inr (60, .inl M_text)]) (st2 := [.int v1.1]) (cl2 := 0) (sl2 := 0) (ct_X11_holds (a1 := 1) (M_savedMany := M_savedMany) (M_isTaken := M_isTaken) (M_length := M_length) (M_thrown := M_thrown) (M_spelt := M_spelt) (M_speltMany := M_speltMany) (M_place := M_place) (M_kind := M_kind) (M_one := M_one) (M_two := M_two) (M_three := M_three) (M_begins := M_begins) (M_done := M_done) (M_stopBy := M_stopBy) (M_hash := M_hash) (M_s := M_s) (M_saved := M_saved) (M_snapshot := M_snapshot) (M_text := M_text) hv1) dX11_drowned_19 w1181 ⟨w1183, w20⟩ cal_X11_holds rfl ⟨⟨Nat.le_of_ble_eq_true rfl, Nat.le_of_ble_eq_true rfl⟩, Nat.le_of_ble_eq_true rfl, Nat.le_of_ble_eq_true rfl⟩ (Nat.le_of_ble_eq_true rfl) (Or.inl ⟨_, _, _, _, rfl, rfl⟩) rfl ⟨rfl, ⟨by decide, by decide⟩, rfl, (fr_cons (Or.inl (Nat.le_of_ble_eq_true rfl)) (fr_cons (Or.inl (Nat.le_of_ble_eq_true rfl)) (fr_cons (Or.inl (Nat.le_of_ble_eq_true rfl)) (fr_cons (Or.inl (Nat.le_of_ble_eq_true rfl)) (fr_nil))))), rfl⟩ fr_i rfl rfl rfl rfl ?_
    refine V.if_ne (tgt := 27) dX11_drowned_22 (by decide) (fun h => ?_) (fun h => ?_)
    · have hf := fif_f h hf
      refine V.iload_n (i := 1) dX11_drowned_27 rfl rfl ?_
      refine V.aload_n (i := 0) dX11_drowned_28 rfl rfl ?_
      refine V.getfield (kf := 0) (v := .ref 1) fl_RX11 dX11_drowned_29 w1043 (Nat.le_of_ble_eq_true rfl) rfl rfl ?_
      refine V.iconst (v := 1) dX11_drowned_32 rfl ?_
      obtain ⟨hi, v2, ev2, hf⟩ := fld_e hf
      refine V.fld dX11_drowned_33 rfl hi ev2 ?_
      refine V.icmp_ge (tgt := 46) dX11_drowned_34 (by decide) (fun h => ?_) (fun h => ?_)
      · have hf := fif_t h hf
        refine V.iconst (v := (-1)) dX11_drowned_46 rfl ?_
        obtain rfl := Option.some.inj hf
        exact V.iret dX11_drowned_47 rfl (Nat.le_of_ble_eq_true rfl) (Nat.le_of_ble_eq_true rfl) rfl
      · have hf := fif_f h hf
        refine V.aload_n (i := 0) dX11_drowned_37 rfl rfl ?_
        refine V.iload_n (i := 1) dX11_drowned_38 rfl rfl ?_
        refine V.iload_n (i := 2) dX11_drowned_39 rfl rfl ?_
        obtain ⟨v3, hv3, hf⟩ := fbind hf
        refine V.callVn (pl := [0, 1, 2, 3, 4]) (σ' := [.inl (6, [.ref 1, .ref 2, .int M_savedMany, .ref 3, .int M_isTaken, .ref 4, .int M_length, .int v1.2, .int M_spelt, .int M_speltMany, .int M_place, .int M_kind, .int M_one, .int M_two, .int M_three, .int M_begins, .int M_done, .int M_stopBy, .long M_hash]), .inr (406, .inl M_s), .inr (2436, .inl M_saved), .inr (406, .inl M_snapshot), .inr (60, .inl M_text)]) (st2 := [.int v3]) (cl2 := 0) (sl2 := 0) (ct_X11_entryNumber (a1 := a1) (a2 := a2) (M_savedMany := M_savedMany) (M_isTaken := M_isTaken) (M_length := M_length) (M_thrown := v1.2) (M_spelt := M_spelt) (M_speltMany := M_speltMany) (M_place := M_place) (M_kind := M_kind) (M_one := M_one) (M_two := M_two) (M_three := M_three) (M_begins := M_begins) (M_done := M_done) (M_stopBy := M_stopBy) (M_hash := M_hash) (M_s := M_s) (M_saved := M_saved) (M_snapshot := M_snapshot) (M_text := M_text) hv3) dX11_drowned_40 w1395 ⟨w1397, w52⟩ cal_X11_entryNumber rfl ⟨⟨Nat.le_of_ble_eq_true rfl, Nat.le_of_ble_eq_true rfl⟩, Nat.le_of_ble_eq_true rfl, Nat.le_of_ble_eq_true rfl⟩ (Nat.le_of_ble_eq_true rfl) (Or.inl ⟨_, _, _, _, rfl, rfl⟩) rfl ⟨rfl, ⟨by decide, by decide⟩, rfl, (fr_cons (Or.inl (Nat.le_of_ble_eq_true rfl)) (fr_cons (Or.inl (Nat.le_of_ble_eq_true rfl)) (fr_cons (Or.inl (Nat.le_of_ble_eq_true rfl)) (fr_cons (Or.inl (Nat.le_of_ble_eq_true rfl)) (fr_nil))))), rfl⟩ fr_i rfl rfl rfl rfl ?_
        refine V.goto (tgt := 47) dX11_drowned_43 (by decide) ?_
        obtain rfl := Option.some.inj hf
        exact V.iret dX11_drowned_47 rfl (Nat.le_of_ble_eq_true rfl) (Nat.le_of_ble_eq_true rfl) rfl
    · have hf := fif_t h hf
      refine V.iconst (v := 0) dX11_drowned_25 rfl ?_
      obtain rfl := Option.some.inj hf
      exact V.iret dX11_drowned_26 rfl (Nat.le_of_ble_eq_true rfl) (Nat.le_of_ble_eq_true rfl) rfl
  · have hf := fif_f h hf
    refine V.iload_n (i := 2) dX11_drowned_5 rfl rfl ?_
    refine V.iconst (v := 0) dX11_drowned_6 rfl ?_
    refine V.iconst (v := 3) dX11_drowned_7 rfl ?_
    obtain ⟨v4, hv4, hf⟩ := fbind hf
    refine V.callSn (pl := []) (σ' := [.inl (6, [.ref 1, .ref 2, .int M_savedMany, .ref 3, .int M_isTaken, .ref 4, .int M_length, .int M_thrown, .int M_spelt, .int M_speltMany, .int M_place, .int M_kind, .int M_one, .int M_two, .int M_three, .int M_begins, .int M_done, .int M_stopBy, .long M_hash]), .inr (406, .inl M_s), .inr (2436, .inl M_saved), .inr (406, .inl M_snapshot), .inr (60, .inl M_text)]) (st2 := [.int v4, .ref 0]) (cl2 := 0) (sl2 := 0) (ct_X11_in (a0 := a2) (a1 := 0) (a2 := 3) hv4) dX11_drowned_8 w1113 w1114 cal_X11_in ⟨⟨Nat.le_of_ble_eq_true rfl, Nat.le_of_ble_eq_true rfl⟩, Nat.le_of_ble_eq_true rfl, Nat.le_of_ble_eq_true rfl⟩ (Nat.le_of_ble_eq_true rfl) rfl ⟨rfl, ⟨by decide, by decide⟩, rfl, (fr_nil), rfl⟩ fr_i rfl rfl rfl rfl ?_
    refine V.if_ne (tgt := 18) dX11_drowned_11 (by decide) (fun h => ?_) (fun h => ?_)
    · have hf := fif_f h hf
      refine V.iconst (v := 0) dX11_drowned_18 rfl ?_
      obtain ⟨v5, hv5, hf⟩ := fbind hf
      refine V.callVn (pl := [0, 1, 2, 3, 4]) (σ' := [.inl (6, [.ref 1, .ref 2, .int M_savedMany, .ref 3, .int M_isTaken, .ref 4, .int M_length, .int v5.2, .int M_spelt, .int M_speltMany, .int M_place, .int M_kind, .int M_one, .int M_two, .int M_three, .int M_begins, .int M_done, .int M_stopBy, .long M_hash]), .inr (406, .inl M_s), .inr (2436, .inl M_saved), .inr (406, .inl M_snapshot), .inr (60, .inl M_text)]) (st2 := [.int v5.1]) (cl2 := 0) (sl2 := 0) (ct_X11_holds (a1 := 0) (M_savedMany := M_savedMany) (M_isTaken := M_isTaken) (M_length := M_length) (M_thrown := M_thrown) (M_spelt := M_spelt) (M_speltMany := M_speltMany) (M_place := M_place) (M_kind := M_kind) (M_one := M_one) (M_two := M_two) (M_three := M_three) (M_begins := M_begins) (M_done := M_done) (M_stopBy := M_stopBy) (M_hash := M_hash) (M_s := M_s) (M_saved := M_saved) (M_snapshot := M_snapshot) (M_text := M_text) hv5) dX11_drowned_19 w1181 ⟨w1183, w20⟩ cal_X11_holds rfl ⟨⟨Nat.le_of_ble_eq_true rfl, Nat.le_of_ble_eq_true rfl⟩, Nat.le_of_ble_eq_true rfl, Nat.le_of_ble_eq_true rfl⟩ (Nat.le_of_ble_eq_true rfl) (Or.inl ⟨_, _, _, _, rfl, rfl⟩) rfl ⟨rfl, ⟨by decide, by decide⟩, rfl, (fr_cons (Or.inl (Nat.le_of_ble_eq_true rfl)) (fr_cons (Or.inl (Nat.le_of_ble_eq_true rfl)) (fr_cons (Or.inl (Nat.le_of_ble_eq_true rfl)) (fr_cons (Or.inl (Nat.le_of_ble_eq_true rfl)) (fr_nil))))), rfl⟩ fr_i rfl rfl rfl rfl ?_
      refine V.if_ne (tgt := 27) dX11_drowned_22 (by decide) (fun h => ?_) (fun h => ?_)
      · have hf := fif_f h hf
        refine V.iload_n (i := 1) dX11_drowned_27 rfl rfl ?_
        refine V.aload_n (i := 0) dX11_drowned_28 rfl rfl ?_
        refine V.getfield (kf := 0) (v := .ref 1) fl_RX11 dX11_drowned_29 w1043 (Nat.le_of_ble_eq_true rfl) rfl rfl ?_
        refine V.iconst (v := 1) dX11_drowned_32 rfl ?_
        obtain ⟨hi, v6, ev6, hf⟩ := fld_e hf
        refine V.fld dX11_drowned_33 rfl hi ev6 ?_
        refine V.icmp_ge (tgt := 46) dX11_drowned_34 (by decide) (fun h => ?_) (fun h => ?_)
        · have hf := fif_t h hf
          refine V.iconst (v := (-1)) dX11_drowned_46 rfl ?_
          obtain rfl := Option.some.inj hf
          exact V.iret dX11_drowned_47 rfl (Nat.le_of_ble_eq_true rfl) (Nat.le_of_ble_eq_true rfl) rfl
        · have hf := fif_f h hf
          refine V.aload_n (i := 0) dX11_drowned_37 rfl rfl ?_
          refine V.iload_n (i := 1) dX11_drowned_38 rfl rfl ?_
          refine V.iload_n (i := 2) dX11_drowned_39 rfl rfl ?_
          obtain ⟨v7, hv7, hf⟩ := fbind hf
          refine V.callVn (pl := [0, 1, 2, 3, 4]) (σ' := [.inl (6, [.ref 1, .ref 2, .int M_savedMany, .ref 3, .int M_isTaken, .ref 4, .int M_length, .int v5.2, .int M_spelt, .int M_speltMany, .int M_place, .int M_kind, .int M_one, .int M_two, .int M_three, .int M_begins, .int M_done, .int M_stopBy, .long M_hash]), .inr (406, .inl M_s), .inr (2436, .inl M_saved), .inr (406, .inl M_snapshot), .inr (60, .inl M_text)]) (st2 := [.int v7]) (cl2 := 0) (sl2 := 0) (ct_X11_entryNumber (a1 := a1) (a2 := a2) (M_savedMany := M_savedMany) (M_isTaken := M_isTaken) (M_length := M_length) (M_thrown := v5.2) (M_spelt := M_spelt) (M_speltMany := M_speltMany) (M_place := M_place) (M_kind := M_kind) (M_one := M_one) (M_two := M_two) (M_three := M_three) (M_begins := M_begins) (M_done := M_done) (M_stopBy := M_stopBy) (M_hash := M_hash) (M_s := M_s) (M_saved := M_saved) (M_snapshot := M_snapshot) (M_text := M_text) hv7) dX11_drowned_40 w1395 ⟨w1397, w52⟩ cal_X11_entryNumber rfl ⟨⟨Nat.le_of_ble_eq_true rfl, Nat.le_of_ble_eq_true rfl⟩, Nat.le_of_ble_eq_true rfl, Nat.le_of_ble_eq_true rfl⟩ (Nat.le_of_ble_eq_true rfl) (Or.inl ⟨_, _, _, _, rfl, rfl⟩) rfl ⟨rfl, ⟨by decide, by decide⟩, rfl, (fr_cons (Or.inl (Nat.le_of_ble_eq_true rfl)) (fr_cons (Or.inl (Nat.le_of_ble_eq_true rfl)) (fr_cons (Or.inl (Nat.le_of_ble_eq_true rfl)) (fr_cons (Or.inl (Nat.le_of_ble_eq_true rfl)) (fr_nil))))), rfl⟩ fr_i rfl rfl rfl rfl ?_
          refine V.goto (tgt := 47) dX11_drowned_43 (by decide) ?_
          obtain rfl := Option.some.inj hf
          exact V.iret dX11_drowned_47 rfl (Nat.le_of_ble_eq_true rfl) (Nat.le_of_ble_eq_true rfl) rfl
      · have hf := fif_t h hf
        refine V.iconst (v := 0) dX11_drowned_25 rfl ?_
        obtain rfl := Option.some.inj hf
        exact V.iret dX11_drowned_26 rfl (Nat.le_of_ble_eq_true rfl) (Nat.le_of_ble_eq_true rfl) rfl
    · have hf := fif_t h hf
      refine V.iconst (v := 1) dX11_drowned_14 rfl ?_
      refine V.goto (tgt := 19) dX11_drowned_15 (by decide) ?_
      obtain ⟨v8, hv8, hf⟩ := fbind hf
      refine V.callVn (pl := [0, 1, 2, 3, 4]) (σ' := [.inl (6, [.ref 1, .ref 2, .int M_savedMany, .ref 3, .int M_isTaken, .ref 4, .int M_length, .int v8.2, .int M_spelt, .int M_speltMany, .int M_place, .int M_kind, .int M_one, .int M_two, .int M_three, .int M_begins, .int M_done, .int M_stopBy, .long M_hash]), .inr (406, .inl M_s), .inr (2436, .inl M_saved), .inr (406, .inl M_snapshot), .inr (60, .inl M_text)]) (st2 := [.int v8.1]) (cl2 := 0) (sl2 := 0) (ct_X11_holds (a1 := 1) (M_savedMany := M_savedMany) (M_isTaken := M_isTaken) (M_length := M_length) (M_thrown := M_thrown) (M_spelt := M_spelt) (M_speltMany := M_speltMany) (M_place := M_place) (M_kind := M_kind) (M_one := M_one) (M_two := M_two) (M_three := M_three) (M_begins := M_begins) (M_done := M_done) (M_stopBy := M_stopBy) (M_hash := M_hash) (M_s := M_s) (M_saved := M_saved) (M_snapshot := M_snapshot) (M_text := M_text) hv8) dX11_drowned_19 w1181 ⟨w1183, w20⟩ cal_X11_holds rfl ⟨⟨Nat.le_of_ble_eq_true rfl, Nat.le_of_ble_eq_true rfl⟩, Nat.le_of_ble_eq_true rfl, Nat.le_of_ble_eq_true rfl⟩ (Nat.le_of_ble_eq_true rfl) (Or.inl ⟨_, _, _, _, rfl, rfl⟩) rfl ⟨rfl, ⟨by decide, by decide⟩, rfl, (fr_cons (Or.inl (Nat.le_of_ble_eq_true rfl)) (fr_cons (Or.inl (Nat.le_of_ble_eq_true rfl)) (fr_cons (Or.inl (Nat.le_of_ble_eq_true rfl)) (fr_cons (Or.inl (Nat.le_of_ble_eq_true rfl)) (fr_nil))))), rfl⟩ fr_i rfl rfl rfl rfl ?_
      refine V.if_ne (tgt := 27) dX11_drowned_22 (by decide) (fun h => ?_) (fun h => ?_)
      · have hf := fif_f h hf
        refine V.iload_n (i := 1) dX11_drowned_27 rfl rfl ?_
        refine V.aload_n (i := 0) dX11_drowned_28 rfl rfl ?_
        refine V.getfield (kf := 0) (v := .ref 1) fl_RX11 dX11_drowned_29 w1043 (Nat.le_of_ble_eq_true rfl) rfl rfl ?_
        refine V.iconst (v := 1) dX11_drowned_32 rfl ?_
        obtain ⟨hi, v9, ev9, hf⟩ := fld_e hf
        refine V.fld dX11_drowned_33 rfl hi ev9 ?_
        refine V.icmp_ge (tgt := 46) dX11_drowned_34 (by decide) (fun h => ?_) (fun h => ?_)
        · have hf := fif_t h hf
          refine V.iconst (v := (-1)) dX11_drowned_46 rfl ?_
          obtain rfl := Option.some.inj hf
          exact V.iret dX11_drowned_47 rfl (Nat.le_of_ble_eq_true rfl) (Nat.le_of_ble_eq_true rfl) rfl
        · have hf := fif_f h hf
          refine V.aload_n (i := 0) dX11_drowned_37 rfl rfl ?_
          refine V.iload_n (i := 1) dX11_drowned_38 rfl rfl ?_
          refine V.iload_n (i := 2) dX11_drowned_39 rfl rfl ?_
          obtain ⟨v10, hv10, hf⟩ := fbind hf
          refine V.callVn (pl := [0, 1, 2, 3, 4]) (σ' := [.inl (6, [.ref 1, .ref 2, .int M_savedMany, .ref 3, .int M_isTaken, .ref 4, .int M_length, .int v8.2, .int M_spelt, .int M_speltMany, .int M_place, .int M_kind, .int M_one, .int M_two, .int M_three, .int M_begins, .int M_done, .int M_stopBy, .long M_hash]), .inr (406, .inl M_s), .inr (2436, .inl M_saved), .inr (406, .inl M_snapshot), .inr (60, .inl M_text)]) (st2 := [.int v10]) (cl2 := 0) (sl2 := 0) (ct_X11_entryNumber (a1 := a1) (a2 := a2) (M_savedMany := M_savedMany) (M_isTaken := M_isTaken) (M_length := M_length) (M_thrown := v8.2) (M_spelt := M_spelt) (M_speltMany := M_speltMany) (M_place := M_place) (M_kind := M_kind) (M_one := M_one) (M_two := M_two) (M_three := M_three) (M_begins := M_begins) (M_done := M_done) (M_stopBy := M_stopBy) (M_hash := M_hash) (M_s := M_s) (M_saved := M_saved) (M_snapshot := M_snapshot) (M_text := M_text) hv10) dX11_drowned_40 w1395 ⟨w1397, w52⟩ cal_X11_entryNumber rfl ⟨⟨Nat.le_of_ble_eq_true rfl, Nat.le_of_ble_eq_true rfl⟩, Nat.le_of_ble_eq_true rfl, Nat.le_of_ble_eq_true rfl⟩ (Nat.le_of_ble_eq_true rfl) (Or.inl ⟨_, _, _, _, rfl, rfl⟩) rfl ⟨rfl, ⟨by decide, by decide⟩, rfl, (fr_cons (Or.inl (Nat.le_of_ble_eq_true rfl)) (fr_cons (Or.inl (Nat.le_of_ble_eq_true rfl)) (fr_cons (Or.inl (Nat.le_of_ble_eq_true rfl)) (fr_cons (Or.inl (Nat.le_of_ble_eq_true rfl)) (fr_nil))))), rfl⟩ fr_i rfl rfl rfl rfl ?_
          refine V.goto (tgt := 47) dX11_drowned_43 (by decide) ?_
          obtain rfl := Option.some.inj hf
          exact V.iret dX11_drowned_47 rfl (Nat.le_of_ble_eq_true rfl) (Nat.le_of_ble_eq_true rfl) rfl
      · have hf := fif_t h hf
        refine V.iconst (v := 0) dX11_drowned_25 rfl ?_
        obtain rfl := Option.some.inj hf
        exact V.iret dX11_drowned_26 rfl (Nat.le_of_ble_eq_true rfl) (Nat.le_of_ble_eq_true rfl) rfl
def k_X11_find : fK := (yX11_find, cX11_find, 4, (some .int), [], (2, 46), (0, 0), (0, 0))
theorem cal_X11_find : fCal k_X11_find 0 := ⟨⟨wc1402, w73⟩, ⟨by decide +kernel, by decide +kernel⟩, by decide +kernel, by decide +kernel⟩
def s_X11_find_L30 (M_spelt : Int32) (M_speltMany : Int32) (M_s : Nat → Int32) : Nat → Int32 → Int32 → Option (Int32 × Int32)
  | 0, _, _ => none
  | n + 1, x1, x2 => fld 406 M_s 1 fun v3 => if (v3 ≤ x2 : Prop) then (some (x1, x2)) else (fld 406 M_s (358 + (4 * x2)) fun v4 => if (v4 = M_speltMany : Prop) then (fld 406 M_s ((358 + (4 * x2)) + 3) fun v5 => if (v5 = M_spelt : Prop) then (s_X11_find_L30 M_spelt M_speltMany M_s n x2 (x2 + 1)) else (s_X11_find_L30 M_spelt M_speltMany M_s n x1 (x2 + 1))) else (s_X11_find_L30 M_spelt M_speltMany M_s n x1 (x2 + 1)))
set_option maxHeartbeats 4000000 in
set_option maxRecDepth 100000 in
theorem v_X11_find_L30 {out : fO} {σ' : List fE} {M_savedMany : Int32} {M_isTaken : Int32} {M_length : Int32} {M_thrown : Int32} {M_spelt : Int32} {M_speltMany : Int32} {M_place : Int32} {M_kind : Int32} {M_one : Int32} {M_two : Int32} {M_three : Int32} {M_begins : Int32} {M_done : Int32} {M_stopBy : Int32} {M_hash : Int64} {M_s : Nat → Int32} {M_saved : Nat → Int32} {M_snapshot : Nat → Int32} {M_text : Nat → Int32} : ∀ (n : Nat) {x1 : Int32} {x2 : Int32} {res : Int32 × Int32} (hf : s_X11_find_L30 M_spelt M_speltMany M_s n x1 x2 = some res) (hx : V (fXm 5 k_X11_find out σ') (krm k_X11_find) k_X11_find 5 88 [some (.ref 0), some (.int res.1), some (.int res.2), none] [] [.inl (6, [.ref 1, .ref 2, .int M_savedMany, .ref 3, .int M_isTaken, .ref 4, .int M_length, .int M_thrown, .int M_spelt, .int M_speltMany, .int M_place, .int M_kind, .int M_one, .int M_two, .int M_three, .int M_begins, .int M_done, .int M_stopBy, .long M_hash]), .inr (406, .inl M_s), .inr (2436, .inl M_saved), .inr (406, .inl M_snapshot), .inr (60, .inl M_text)] 0 0), V (fXm 5 k_X11_find out σ') (krm k_X11_find) k_X11_find 5 30 [some (.ref 0), some (.int x1), some (.int x2), none] [] [.inl (6, [.ref 1, .ref 2, .int M_savedMany, .ref 3, .int M_isTaken, .ref 4, .int M_length, .int M_thrown, .int M_spelt, .int M_speltMany, .int M_place, .int M_kind, .int M_one, .int M_two, .int M_three, .int M_begins, .int M_done, .int M_stopBy, .long M_hash]), .inr (406, .inl M_s), .inr (2436, .inl M_saved), .inr (406, .inl M_snapshot), .inr (60, .inl M_text)] 0 0 := by
  intro n
  induction n with
  | zero =>
    intro x1 x2 res hf hx
    rw [s_X11_find_L30] at hf
    cases hf
  | succ n ih =>
    intro x1 x2 res hf hx
    rw [s_X11_find_L30] at hf
    refine V.iload_n (i := 2) dX11_find_30 rfl rfl ?_
    refine V.aload_n (i := 0) dX11_find_31 rfl rfl ?_
    refine V.getfield (kf := 0) (v := .ref 1) fl_RX11 dX11_find_32 w1043 (Nat.le_of_ble_eq_true rfl) rfl rfl ?_
    refine V.iconst (v := 1) dX11_find_35 rfl ?_
    obtain ⟨hi, v3, ev3, hf⟩ := fld_e hf
    refine V.fld dX11_find_36 rfl hi ev3 ?_
    refine V.icmp_ge (tgt := 88) dX11_find_37 (by decide) (fun h => ?_) (fun h => ?_)
    · have hf := fif_t h hf
      obtain rfl := Option.some.inj hf
      exact hx
    · have hf := fif_f h hf
      refine V.sipush (v := 358) dX11_find_40 rfl ?_
      refine V.iconst (v := 4) dX11_find_43 rfl ?_
      refine V.iload_n (i := 2) dX11_find_44 rfl rfl ?_
      refine V.imul dX11_find_45 ?_
      refine V.iadd dX11_find_46 ?_
      refine V.istore_n (i := 3) (L' := [some (.ref 0), some (.int x1), some (.int x2), some (.int (358 + (4 * x2)))]) dX11_find_47 rfl (Nat.le_of_ble_eq_true rfl) rfl rfl ?_
      refine V.aload_n (i := 0) dX11_find_48 rfl rfl ?_
      refine V.getfield (kf := 0) (v := .ref 1) fl_RX11 dX11_find_49 w1043 (Nat.le_of_ble_eq_true rfl) rfl rfl ?_
      refine V.iload_n (i := 3) dX11_find_52 rfl rfl ?_
      obtain ⟨hi, v4, ev4, hf⟩ := fld_e hf
      refine V.fld dX11_find_53 rfl hi ev4 ?_
      refine V.aload_n (i := 0) dX11_find_54 rfl rfl ?_
      refine V.getfield (kf := 9) (v := .int M_speltMany) fl_RX11 dX11_find_55 w1052 (Nat.le_of_ble_eq_true rfl) rfl rfl ?_
      refine V.icmp_ne (tgt := 80) dX11_find_58 (by decide) (fun h => ?_) (fun h => ?_)
      · have hf := fif_f h hf
        refine V.iload_n (i := 1) dX11_find_80 rfl rfl ?_
        refine V.istore_n (i := 1) (L' := [some (.ref 0), some (.int x1), some (.int x2), some (.int (358 + (4 * x2)))]) dX11_find_81 rfl (Nat.le_of_ble_eq_true rfl) rfl rfl ?_
        refine V.iinc (i := 2) (v := (x2 + 1)) (L' := [some (.ref 0), some (.int x1), some (.int (x2 + 1)), some (.int (358 + (4 * x2)))]) dX11_find_82 rfl rfl (Nat.le_of_ble_eq_true rfl) rfl rfl ?_
        refine V.goto (tgt := 30) dX11_find_85 (by decide) ?_
        exact V.locs (L' := [some (.ref 0), some (.int x1), some (.int (x2 + 1)), none]) ⟨rfl, ⟨rfl, ⟨rfl, trivial⟩⟩⟩ (ih hf hx)
      · have hf := fif_t h hf
        refine V.aload_n (i := 0) dX11_find_61 rfl rfl ?_
        refine V.getfield (kf := 0) (v := .ref 1) fl_RX11 dX11_find_62 w1043 (Nat.le_of_ble_eq_true rfl) rfl rfl ?_
        refine V.iload_n (i := 3) dX11_find_65 rfl rfl ?_
        refine V.iconst (v := 3) dX11_find_66 rfl ?_
        refine V.iadd dX11_find_67 ?_
        obtain ⟨hi, v5, ev5, hf⟩ := fld_e hf
        refine V.fld dX11_find_68 rfl hi ev5 ?_
        refine V.aload_n (i := 0) dX11_find_69 rfl rfl ?_
        refine V.getfield (kf := 8) (v := .int M_spelt) fl_RX11 dX11_find_70 w1051 (Nat.le_of_ble_eq_true rfl) rfl rfl ?_
        refine V.icmp_ne (tgt := 80) dX11_find_73 (by decide) (fun h => ?_) (fun h => ?_)
        · have hf := fif_f h hf
          refine V.iload_n (i := 1) dX11_find_80 rfl rfl ?_
          refine V.istore_n (i := 1) (L' := [some (.ref 0), some (.int x1), some (.int x2), some (.int (358 + (4 * x2)))]) dX11_find_81 rfl (Nat.le_of_ble_eq_true rfl) rfl rfl ?_
          refine V.iinc (i := 2) (v := (x2 + 1)) (L' := [some (.ref 0), some (.int x1), some (.int (x2 + 1)), some (.int (358 + (4 * x2)))]) dX11_find_82 rfl rfl (Nat.le_of_ble_eq_true rfl) rfl rfl ?_
          refine V.goto (tgt := 30) dX11_find_85 (by decide) ?_
          exact V.locs (L' := [some (.ref 0), some (.int x1), some (.int (x2 + 1)), none]) ⟨rfl, ⟨rfl, ⟨rfl, trivial⟩⟩⟩ (ih hf hx)
        · have hf := fif_t h hf
          refine V.iload_n (i := 2) dX11_find_76 rfl rfl ?_
          refine V.goto (tgt := 81) dX11_find_77 (by decide) ?_
          refine V.istore_n (i := 1) (L' := [some (.ref 0), some (.int x2), some (.int x2), some (.int (358 + (4 * x2)))]) dX11_find_81 rfl (Nat.le_of_ble_eq_true rfl) rfl rfl ?_
          refine V.iinc (i := 2) (v := (x2 + 1)) (L' := [some (.ref 0), some (.int x2), some (.int (x2 + 1)), some (.int (358 + (4 * x2)))]) dX11_find_82 rfl rfl (Nat.le_of_ble_eq_true rfl) rfl rfl ?_
          refine V.goto (tgt := 30) dX11_find_85 (by decide) ?_
          exact V.locs (L' := [some (.ref 0), some (.int x2), some (.int (x2 + 1)), none]) ⟨rfl, ⟨rfl, ⟨rfl, trivial⟩⟩⟩ (ih hf hx)
def s_X11_find (M_length : Int32) (M_thrown : Int32) (M_spelt : Int32) (M_speltMany : Int32) (M_s : Nat → Int32) (M_text : Nat → Int32) : Option (Int32 × (Int32) × (Int32) × (Int32)) := (s_X11_isSpelt 0 M_length M_spelt M_speltMany M_text).bind fun v1 => if (v1.1 = 0 : Prop) then ((s_X11_holds 1 M_thrown).bind fun v2 => if (v2.1 = 0 : Prop) then (some (0, v2.2, v1.2.1, v1.2.2)) else ((s_X11_find_L30 v1.2.1 v1.2.2 M_s gF (-1) 0).bind fun r6 => some (r6.1, v2.2, v1.2.1, v1.2.2))) else ((s_X11_holds 0 M_thrown).bind fun v7 => if (v7.1 = 0 : Prop) then (some (0, v7.2, v1.2.1, v1.2.2)) else ((s_X11_find_L30 v1.2.1 v1.2.2 M_s gF (-1) 0).bind fun r8 => some (r8.1, v7.2, v1.2.1, v1.2.2)))
set_option maxHeartbeats 4000000 in
set_option maxRecDepth 100000 in
theorem ct_X11_find {M_savedMany : Int32} {M_isTaken : Int32} {M_length : Int32} {M_thrown : Int32} {M_spelt : Int32} {M_speltMany : Int32} {M_place : Int32} {M_kind : Int32} {M_one : Int32} {M_two : Int32} {M_three : Int32} {M_begins : Int32} {M_done : Int32} {M_stopBy : Int32} {M_hash : Int64} {M_s : Nat → Int32} {M_saved : Nat → Int32} {M_snapshot : Nat → Int32} {M_text : Nat → Int32} {res : Int32 × (Int32) × (Int32) × (Int32)} (hf : s_X11_find M_length M_thrown M_spelt M_speltMany M_s M_text = some res) : Ct k_X11_find [.ref 0] [.inl (6, [.ref 1, .ref 2, .int M_savedMany, .ref 3, .int M_isTaken, .ref 4, .int M_length, .int M_thrown, .int M_spelt, .int M_speltMany, .int M_place, .int M_kind, .int M_one, .int M_two, .int M_three, .int M_begins, .int M_done, .int M_stopBy, .long M_hash]), .inr (406, .inl M_s), .inr (2436, .inl M_saved), .inr (406, .inl M_snapshot), .inr (60, .inl M_text)] (.inl (some (.int res.1))) [.inl (6, [.ref 1, .ref 2, .int M_savedMany, .ref 3, .int M_isTaken, .ref 4, .int M_length, .int res.2.1, .int res.2.2.1, .int res.2.2.2, .int M_place, .int M_kind, .int M_one, .int M_two, .int M_three, .int M_begins, .int M_done, .int M_stopBy, .long M_hash]), .inr (406, .inl M_s), .inr (2436, .inl M_saved), .inr (406, .inl M_snapshot), .inr (60, .inl M_text)] := by
  unfold s_X11_find at hf
  refine Ct.of (L := [some (.ref 0), none, none, none]) cal_X11_find (fent_pad (j := 3) rfl) (Nat.le_of_ble_eq_true rfl) ?_
  refine V.aload_n (i := 0) dX11_find_0 rfl rfl ?_
  refine V.aload_n (i := 0) dX11_find_1 rfl rfl ?_
  refine V.iconst (v := 0) dX11_find_2 rfl ?_
  refine V.aload_n (i := 0) dX11_find_3 rfl rfl ?_
  refine V.getfield (kf := 6) (v := .int M_length) fl_RX11 dX11_find_4 w1049 (Nat.le_of_ble_eq_true rfl) rfl rfl ?_
  obtain ⟨v1, hv1, hf⟩ := fbind hf
  refine V.callVn (pl := [0, 1, 2, 3, 4]) (σ' := [.inl (6, [.ref 1, .ref 2, .int M_savedMany, .ref 3, .int M_isTaken, .ref 4, .int M_length, .int M_thrown, .int v1.2.1, .int v1.2.2, .int M_place, .int M_kind, .int M_one, .int M_two, .int M_three, .int M_begins, .int M_done, .int M_stopBy, .long M_hash]), .inr (406, .inl M_s), .inr (2436, .inl M_saved), .inr (406, .inl M_snapshot), .inr (60, .inl M_text)]) (st2 := [.int v1.1, .ref 0]) (cl2 := 0) (sl2 := 0) (ct_X11_isSpelt (a1 := 0) (a2 := M_length) (M_savedMany := M_savedMany) (M_isTaken := M_isTaken) (M_length := M_length) (M_thrown := M_thrown) (M_spelt := M_spelt) (M_speltMany := M_speltMany) (M_place := M_place) (M_kind := M_kind) (M_one := M_one) (M_two := M_two) (M_three := M_three) (M_begins := M_begins) (M_done := M_done) (M_stopBy := M_stopBy) (M_hash := M_hash) (M_s := M_s) (M_saved := M_saved) (M_snapshot := M_snapshot) (M_text := M_text) hv1) dX11_find_7 w1109 ⟨w1111, w8⟩ cal_X11_isSpelt rfl ⟨⟨Nat.le_of_ble_eq_true rfl, Nat.le_of_ble_eq_true rfl⟩, Nat.le_of_ble_eq_true rfl, Nat.le_of_ble_eq_true rfl⟩ (Nat.le_of_ble_eq_true rfl) (Or.inl ⟨_, _, _, _, rfl, rfl⟩) rfl ⟨rfl, ⟨by decide, by decide⟩, rfl, (fr_cons (Or.inl (Nat.le_of_ble_eq_true rfl)) (fr_cons (Or.inl (Nat.le_of_ble_eq_true rfl)) (fr_cons (Or.inl (Nat.le_of_ble_eq_true rfl)) (fr_cons (Or.inl (Nat.le_of_ble_eq_true rfl)) (fr_nil))))), rfl⟩ fr_i rfl rfl rfl rfl ?_
  refine V.if_eq (tgt := 17) dX11_find_10 (by decide) (fun h => ?_) (fun h => ?_)
  · have hf := fif_t h hf
    refine V.iconst (v := 1) dX11_find_17 rfl ?_
    obtain ⟨v2, hv2, hf⟩ := fbind hf
    refine V.callVn (pl := [0, 1, 2, 3, 4]) (σ' := [.inl (6, [.ref 1, .ref 2, .int M_savedMany, .ref 3, .int M_isTaken, .ref 4, .int M_length, .int v2.2, .int v1.2.1, .int v1.2.2, .int M_place, .int M_kind, .int M_one, .int M_two, .int M_three, .int M_begins, .int M_done, .int M_stopBy, .long M_hash]), .inr (406, .inl M_s), .inr (2436, .inl M_saved), .inr (406, .inl M_snapshot), .inr (60, .inl M_text)]) (st2 := [.int v2.1]) (cl2 := 0) (sl2 := 0) (ct_X11_holds (a1 := 1) (M_savedMany := M_savedMany) (M_isTaken := M_isTaken) (M_length := M_length) (M_thrown := M_thrown) (M_spelt := v1.2.1) (M_speltMany := v1.2.2) (M_place := M_place) (M_kind := M_kind) (M_one := M_one) (M_two := M_two) (M_three := M_three) (M_begins := M_begins) (M_done := M_done) (M_stopBy := M_stopBy) (M_hash := M_hash) (M_s := M_s) (M_saved := M_saved) (M_snapshot := M_snapshot) (M_text := M_text) hv2) dX11_find_18 w1181 ⟨w1183, w20⟩ cal_X11_holds rfl ⟨⟨Nat.le_of_ble_eq_true rfl, Nat.le_of_ble_eq_true rfl⟩, Nat.le_of_ble_eq_true rfl, Nat.le_of_ble_eq_true rfl⟩ (Nat.le_of_ble_eq_true rfl) (Or.inl ⟨_, _, _, _, rfl, rfl⟩) rfl ⟨rfl, ⟨by decide, by decide⟩, rfl, (fr_cons (Or.inl (Nat.le_of_ble_eq_true rfl)) (fr_cons (Or.inl (Nat.le_of_ble_eq_true rfl)) (fr_cons (Or.inl (Nat.le_of_ble_eq_true rfl)) (fr_cons (Or.inl (Nat.le_of_ble_eq_true rfl)) (fr_nil))))), rfl⟩ fr_i rfl rfl rfl rfl ?_
    refine V.if_ne (tgt := 26) dX11_find_21 (by decide) (fun h => ?_) (fun h => ?_)
    · have hf := fif_f h hf
      refine V.iconst (v := (-1)) dX11_find_26 rfl ?_
      refine V.istore_n (i := 1) (L' := [some (.ref 0), some (.int (-1)), none, none]) dX11_find_27 rfl (Nat.le_of_ble_eq_true rfl) rfl rfl ?_
      refine V.iconst (v := 0) dX11_find_28 rfl ?_
      refine V.istore_n (i := 2) (L' := [some (.ref 0), some (.int (-1)), some (.int 0), none]) dX11_find_29 rfl (Nat.le_of_ble_eq_true rfl) rfl rfl ?_
      obtain ⟨r6, hr6, hf⟩ := fbind hf
      refine v_X11_find_L30 gF hr6 ?_
      refine V.iload_n (i := 1) dX11_find_88 rfl rfl ?_
      obtain rfl := Option.some.inj hf
      exact V.iret dX11_find_89 rfl (Nat.le_of_ble_eq_true rfl) (Nat.le_of_ble_eq_true rfl) rfl
    · have hf := fif_t h hf
      refine V.iconst (v := 0) dX11_find_24 rfl ?_
      obtain rfl := Option.some.inj hf
      exact V.iret dX11_find_25 rfl (Nat.le_of_ble_eq_true rfl) (Nat.le_of_ble_eq_true rfl) rfl
  · have hf := fif_f h hf
    refine V.iconst (v := 0) dX11_find_13 rfl ?_
    refine V.goto (tgt := 18) dX11_find_14 (by decide) ?_
    obtain ⟨v7, hv7, hf⟩ := fbind hf
    refine V.callVn (pl := [0, 1, 2, 3, 4]) (σ' := [.inl (6, [.ref 1, .ref 2, .int M_savedMany, .ref 3, .int M_isTaken, .ref 4, .int M_length, .int v7.2, .int v1.2.1, .int v1.2.2, .int M_place, .int M_kind, .int M_one, .int M_two, .int M_three, .int M_begins, .int M_done, .int M_stopBy, .long M_hash]), .inr (406, .inl M_s), .inr (2436, .inl M_saved), .inr (406, .inl M_snapshot), .inr (60, .inl M_text)]) (st2 := [.int v7.1]) (cl2 := 0) (sl2 := 0) (ct_X11_holds (a1 := 0) (M_savedMany := M_savedMany) (M_isTaken := M_isTaken) (M_length := M_length) (M_thrown := M_thrown) (M_spelt := v1.2.1) (M_speltMany := v1.2.2) (M_place := M_place) (M_kind := M_kind) (M_one := M_one) (M_two := M_two) (M_three := M_three) (M_begins := M_begins) (M_done := M_done) (M_stopBy := M_stopBy) (M_hash := M_hash) (M_s := M_s) (M_saved := M_saved) (M_snapshot := M_snapshot) (M_text := M_text) hv7) dX11_find_18 w1181 ⟨w1183, w20⟩ cal_X11_holds rfl ⟨⟨Nat.le_of_ble_eq_true rfl, Nat.le_of_ble_eq_true rfl⟩, Nat.le_of_ble_eq_true rfl, Nat.le_of_ble_eq_true rfl⟩ (Nat.le_of_ble_eq_true rfl) (Or.inl ⟨_, _, _, _, rfl, rfl⟩) rfl ⟨rfl, ⟨by decide, by decide⟩, rfl, (fr_cons (Or.inl (Nat.le_of_ble_eq_true rfl)) (fr_cons (Or.inl (Nat.le_of_ble_eq_true rfl)) (fr_cons (Or.inl (Nat.le_of_ble_eq_true rfl)) (fr_cons (Or.inl (Nat.le_of_ble_eq_true rfl)) (fr_nil))))), rfl⟩ fr_i rfl rfl rfl rfl ?_
    refine V.if_ne (tgt := 26) dX11_find_21 (by decide) (fun h => ?_) (fun h => ?_)
    · have hf := fif_f h hf
      refine V.iconst (v := (-1)) dX11_find_26 rfl ?_
      refine V.istore_n (i := 1) (L' := [some (.ref 0), some (.int (-1)), none, none]) dX11_find_27 rfl (Nat.le_of_ble_eq_true rfl) rfl rfl ?_
      refine V.iconst (v := 0) dX11_find_28 rfl ?_
      refine V.istore_n (i := 2) (L' := [some (.ref 0), some (.int (-1)), some (.int 0), none]) dX11_find_29 rfl (Nat.le_of_ble_eq_true rfl) rfl rfl ?_
      obtain ⟨r8, hr8, hf⟩ := fbind hf
      refine v_X11_find_L30 gF hr8 ?_
      refine V.iload_n (i := 1) dX11_find_88 rfl rfl ?_
      obtain rfl := Option.some.inj hf
      exact V.iret dX11_find_89 rfl (Nat.le_of_ble_eq_true rfl) (Nat.le_of_ble_eq_true rfl) rfl
    · have hf := fif_t h hf
      refine V.iconst (v := 0) dX11_find_24 rfl ?_
      obtain rfl := Option.some.inj hf
      exact V.iret dX11_find_25 rfl (Nat.le_of_ble_eq_true rfl) (Nat.le_of_ble_eq_true rfl) rfl
def k_X11_allLoosened : fK := (yX11_allLoosened, cX11_allLoosened, 5, (some .int), [], (2, 45), (0, 0), (0, 0))
theorem cal_X11_allLoosened : fCal k_X11_allLoosened 1 := ⟨⟨wc1422, w73⟩, ⟨by decide +kernel, by decide +kernel⟩, by decide +kernel, by decide +kernel⟩
def s_X11_allLoosened_L12 (p1 : Int32) (p3 : Int32) (M_s : Nat → Int32) : Nat → Int32 → Int32 → Option (Int32 × Int32)
  | 0, _, _ => none
  | n + 1, x2, x4 => (s_X11_of p3 1 M_s).bind fun v1 => if (v1 ≤ x4 : Prop) then (some (x2, x4)) else ((s_X11_whereIs p3 x4).bind fun v2 => (s_X11_loosened v2 p1 M_s).bind fun v3 => s_X11_allLoosened_L12 p1 p3 M_s n (x2 + v3) (x4 + 1))
set_option maxHeartbeats 4000000 in
set_option maxRecDepth 100000 in
theorem v_X11_allLoosened_L12 {out : fO} {σ' : List fE} {p1 : Int32} {p3 : Int32} {M_savedMany : Int32} {M_isTaken : Int32} {M_length : Int32} {M_thrown : Int32} {M_spelt : Int32} {M_speltMany : Int32} {M_place : Int32} {M_kind : Int32} {M_one : Int32} {M_two : Int32} {M_three : Int32} {M_begins : Int32} {M_done : Int32} {M_stopBy : Int32} {M_hash : Int64} {M_s : Nat → Int32} {M_saved : Nat → Int32} {M_snapshot : Nat → Int32} {M_text : Nat → Int32} : ∀ (n : Nat) {x2 : Int32} {x4 : Int32} {res : Int32 × Int32} (hf : s_X11_allLoosened_L12 p1 p3 M_s n x2 x4 = some res) (hx : V (fXm 5 k_X11_allLoosened out σ') (krm k_X11_allLoosened) k_X11_allLoosened 5 43 [some (.ref 0), some (.int p1), some (.int res.1), some (.int p3), some (.int res.2)] [] [.inl (6, [.ref 1, .ref 2, .int M_savedMany, .ref 3, .int M_isTaken, .ref 4, .int M_length, .int M_thrown, .int M_spelt, .int M_speltMany, .int M_place, .int M_kind, .int M_one, .int M_two, .int M_three, .int M_begins, .int M_done, .int M_stopBy, .long M_hash]), .inr (406, .inl M_s), .inr (2436, .inl M_saved), .inr (406, .inl M_snapshot), .inr (60, .inl M_text)] 0 0), V (fXm 5 k_X11_allLoosened out σ') (krm k_X11_allLoosened) k_X11_allLoosened 5 12 [some (.ref 0), some (.int p1), some (.int x2), some (.int p3), some (.int x4)] [] [.inl (6, [.ref 1, .ref 2, .int M_savedMany, .ref 3, .int M_isTaken, .ref 4, .int M_length, .int M_thrown, .int M_spelt, .int M_speltMany, .int M_place, .int M_kind, .int M_one, .int M_two, .int M_three, .int M_begins, .int M_done, .int M_stopBy, .long M_hash]), .inr (406, .inl M_s), .inr (2436, .inl M_saved), .inr (406, .inl M_snapshot), .inr (60, .inl M_text)] 0 0 := by
  intro n
  induction n with
  | zero =>
    intro x2 x4 res hf hx
    rw [s_X11_allLoosened_L12] at hf
    cases hf
  | succ n ih =>
    intro x2 x4 res hf hx
    rw [s_X11_allLoosened_L12] at hf
    refine V.iload (i := 4) dX11_allLoosened_12 rfl ?_
    refine V.aload_n (i := 0) dX11_allLoosened_14 rfl rfl ?_
    refine V.iload_n (i := 3) dX11_allLoosened_15 rfl rfl ?_
    refine V.iconst (v := 1) dX11_allLoosened_16 rfl ?_
    obtain ⟨v1, hv1, hf⟩ := fbind hf
    refine V.callVn (pl := [0, 1, 2, 3, 4]) (σ' := [.inl (6, [.ref 1, .ref 2, .int M_savedMany, .ref 3, .int M_isTaken, .ref 4, .int M_length, .int M_thrown, .int M_spelt, .int M_speltMany, .int M_place, .int M_kind, .int M_one, .int M_two, .int M_three, .int M_begins, .int M_done, .int M_stopBy, .long M_hash]), .inr (406, .inl M_s), .inr (2436, .inl M_saved), .inr (406, .inl M_snapshot), .inr (60, .inl M_text)]) (st2 := [.int v1, .int x4]) (cl2 := 0) (sl2 := 0) (ct_X11_of (a1 := p3) (a2 := 1) (M_savedMany := M_savedMany) (M_isTaken := M_isTaken) (M_length := M_length) (M_thrown := M_thrown) (M_spelt := M_spelt) (M_speltMany := M_speltMany) (M_place := M_place) (M_kind := M_kind) (M_one := M_one) (M_two := M_two) (M_three := M_three) (M_begins := M_begins) (M_done := M_done) (M_stopBy := M_stopBy) (M_hash := M_hash) (M_s := M_s) (M_saved := M_saved) (M_snapshot := M_snapshot) (M_text := M_text) hv1) dX11_allLoosened_17 w1123 ⟨w1125, w10⟩ cal_X11_of rfl ⟨⟨Nat.le_of_ble_eq_true rfl, Nat.le_of_ble_eq_true rfl⟩, Nat.le_of_ble_eq_true rfl, Nat.le_of_ble_eq_true rfl⟩ (Nat.le_of_ble_eq_true rfl) (Or.inl ⟨_, _, _, _, rfl, rfl⟩) rfl ⟨rfl, ⟨by decide, by decide⟩, rfl, (fr_cons (Or.inl (Nat.le_of_ble_eq_true rfl)) (fr_cons (Or.inl (Nat.le_of_ble_eq_true rfl)) (fr_cons (Or.inl (Nat.le_of_ble_eq_true rfl)) (fr_cons (Or.inl (Nat.le_of_ble_eq_true rfl)) (fr_nil))))), rfl⟩ fr_i rfl rfl rfl rfl ?_
    refine V.icmp_ge (tgt := 43) dX11_allLoosened_20 (by decide) (fun h => ?_) (fun h => ?_)
    · have hf := fif_t h hf
      obtain rfl := Option.some.inj hf
      exact hx
    · have hf := fif_f h hf
      refine V.iload_n (i := 2) dX11_allLoosened_23 rfl rfl ?_
      refine V.aload_n (i := 0) dX11_allLoosened_24 rfl rfl ?_
      refine V.iload_n (i := 3) dX11_allLoosened_25 rfl rfl ?_
      refine V.iload (i := 4) dX11_allLoosened_26 rfl ?_
      obtain ⟨v2, hv2, hf⟩ := fbind hf
      refine V.callSn (pl := []) (σ' := [.inl (6, [.ref 1, .ref 2, .int M_savedMany, .ref 3, .int M_isTaken, .ref 4, .int M_length, .int M_thrown, .int M_spelt, .int M_speltMany, .int M_place, .int M_kind, .int M_one, .int M_two, .int M_three, .int M_begins, .int M_done, .int M_stopBy, .long M_hash]), .inr (406, .inl M_s), .inr (2436, .inl M_saved), .inr (406, .inl M_snapshot), .inr (60, .inl M_text)]) (st2 := [.int v2, .ref 0, .int x2]) (cl2 := 0) (sl2 := 0) (ct_X11_whereIs (a0 := p3) (a1 := x4) hv2) dX11_allLoosened_28 w1147 w1148 cal_X11_whereIs ⟨⟨Nat.le_of_ble_eq_true rfl, Nat.le_of_ble_eq_true rfl⟩, Nat.le_of_ble_eq_true rfl, Nat.le_of_ble_eq_true rfl⟩ (Nat.le_of_ble_eq_true rfl) rfl ⟨rfl, ⟨by decide, by decide⟩, rfl, (fr_nil), rfl⟩ fr_i rfl rfl rfl rfl ?_
      refine V.iload_n (i := 1) dX11_allLoosened_31 rfl rfl ?_
      obtain ⟨v3, hv3, hf⟩ := fbind hf
      refine V.callVn (pl := [0, 1, 2, 3, 4]) (σ' := [.inl (6, [.ref 1, .ref 2, .int M_savedMany, .ref 3, .int M_isTaken, .ref 4, .int M_length, .int M_thrown, .int M_spelt, .int M_speltMany, .int M_place, .int M_kind, .int M_one, .int M_two, .int M_three, .int M_begins, .int M_done, .int M_stopBy, .long M_hash]), .inr (406, .inl M_s), .inr (2436, .inl M_saved), .inr (406, .inl M_snapshot), .inr (60, .inl M_text)]) (st2 := [.int v3, .int x2]) (cl2 := 0) (sl2 := 0) (ct_X11_loosened (a1 := v2) (a2 := p1) (M_savedMany := M_savedMany) (M_isTaken := M_isTaken) (M_length := M_length) (M_thrown := M_thrown) (M_spelt := M_spelt) (M_speltMany := M_speltMany) (M_place := M_place) (M_kind := M_kind) (M_one := M_one) (M_two := M_two) (M_three := M_three) (M_begins := M_begins) (M_done := M_done) (M_stopBy := M_stopBy) (M_hash := M_hash) (M_s := M_s) (M_saved := M_saved) (M_snapshot := M_snapshot) (M_text := M_text) hv3) dX11_allLoosened_32 w1162 ⟨w1164, w16⟩ cal_X11_loosened rfl ⟨⟨Nat.le_of_ble_eq_true rfl, Nat.le_of_ble_eq_true rfl⟩, Nat.le_of_ble_eq_true rfl, Nat.le_of_ble_eq_true rfl⟩ (Nat.le_of_ble_eq_true rfl) (Or.inl ⟨_, _, _, _, rfl, rfl⟩) rfl ⟨rfl, ⟨by decide, by decide⟩, rfl, (fr_cons (Or.inl (Nat.le_of_ble_eq_true rfl)) (fr_cons (Or.inl (Nat.le_of_ble_eq_true rfl)) (fr_cons (Or.inl (Nat.le_of_ble_eq_true rfl)) (fr_cons (Or.inl (Nat.le_of_ble_eq_true rfl)) (fr_nil))))), rfl⟩ fr_i rfl rfl rfl rfl ?_
      refine V.iadd dX11_allLoosened_35 ?_
      refine V.istore_n (i := 2) (L' := [some (.ref 0), some (.int p1), some (.int (x2 + v3)), some (.int p3), some (.int x4)]) dX11_allLoosened_36 rfl (Nat.le_of_ble_eq_true rfl) rfl rfl ?_
      refine V.iinc (i := 4) (v := (x4 + 1)) (L' := [some (.ref 0), some (.int p1), some (.int (x2 + v3)), some (.int p3), some (.int (x4 + 1))]) dX11_allLoosened_37 rfl rfl (Nat.le_of_ble_eq_true rfl) rfl rfl ?_
      refine V.goto (tgt := 12) dX11_allLoosened_40 (by decide) ?_
      exact ih hf hx
def s_X11_allLoosened_L4 (p1 : Int32) (M_s : Nat → Int32) : Nat → Int32 → Int32 → Option (Int32 × Int32)
  | 0, _, _ => none
  | n + 1, x2, x3 => if (5 ≤ x3 : Prop) then (some (x2, x3)) else ((s_X11_allLoosened_L12 p1 x3 M_s gF x2 0).bind fun r4 => s_X11_allLoosened_L4 p1 M_s n r4.1 (x3 + 1))
set_option maxHeartbeats 4000000 in
set_option maxRecDepth 100000 in
theorem v_X11_allLoosened_L4 {out : fO} {σ' : List fE} {p1 : Int32} {M_savedMany : Int32} {M_isTaken : Int32} {M_length : Int32} {M_thrown : Int32} {M_spelt : Int32} {M_speltMany : Int32} {M_place : Int32} {M_kind : Int32} {M_one : Int32} {M_two : Int32} {M_three : Int32} {M_begins : Int32} {M_done : Int32} {M_stopBy : Int32} {M_hash : Int64} {M_s : Nat → Int32} {M_saved : Nat → Int32} {M_snapshot : Nat → Int32} {M_text : Nat → Int32} : ∀ (n : Nat) {x2 : Int32} {x3 : Int32} {res : Int32 × Int32} (hf : s_X11_allLoosened_L4 p1 M_s n x2 x3 = some res) (hx : V (fXm 5 k_X11_allLoosened out σ') (krm k_X11_allLoosened) k_X11_allLoosened 5 49 [some (.ref 0), some (.int p1), some (.int res.1), some (.int res.2), none] [] [.inl (6, [.ref 1, .ref 2, .int M_savedMany, .ref 3, .int M_isTaken, .ref 4, .int M_length, .int M_thrown, .int M_spelt, .int M_speltMany, .int M_place, .int M_kind, .int M_one, .int M_two, .int M_three, .int M_begins, .int M_done, .int M_stopBy, .long M_hash]), .inr (406, .inl M_s), .inr (2436, .inl M_saved), .inr (406, .inl M_snapshot), .inr (60, .inl M_text)] 0 0), V (fXm 5 k_X11_allLoosened out σ') (krm k_X11_allLoosened) k_X11_allLoosened 5 4 [some (.ref 0), some (.int p1), some (.int x2), some (.int x3), none] [] [.inl (6, [.ref 1, .ref 2, .int M_savedMany, .ref 3, .int M_isTaken, .ref 4, .int M_length, .int M_thrown, .int M_spelt, .int M_speltMany, .int M_place, .int M_kind, .int M_one, .int M_two, .int M_three, .int M_begins, .int M_done, .int M_stopBy, .long M_hash]), .inr (406, .inl M_s), .inr (2436, .inl M_saved), .inr (406, .inl M_snapshot), .inr (60, .inl M_text)] 0 0 := by
  intro n
  induction n with
  | zero =>
    intro x2 x3 res hf hx
    rw [s_X11_allLoosened_L4] at hf
    cases hf
  | succ n ih =>
    intro x2 x3 res hf hx
    rw [s_X11_allLoosened_L4] at hf
    refine V.iload_n (i := 3) dX11_allLoosened_4 rfl rfl ?_
    refine V.iconst (v := 5) dX11_allLoosened_5 rfl ?_
    refine V.icmp_ge (tgt := 49) dX11_allLoosened_6 (by decide) (fun h => ?_) (fun h => ?_)
    · have hf := fif_t h hf
      obtain rfl := Option.some.inj hf
      exact hx
    · have hf := fif_f h hf
      refine V.iconst (v := 0) dX11_allLoosened_9 rfl ?_
      refine V.istore (i := 4) (L' := [some (.ref 0), some (.int p1), some (.int x2), some (.int x3), some (.int 0)]) dX11_allLoosened_10 (Nat.le_of_ble_eq_true rfl) rfl rfl ?_
      obtain ⟨r4, hr4, hf⟩ := fbind hf
      refine v_X11_allLoosened_L12 gF hr4 ?_
      refine V.iinc (i := 3) (v := (x3 + 1)) (L' := [some (.ref 0), some (.int p1), some (.int r4.1), some (.int (x3 + 1)), some (.int r4.2)]) dX11_allLoosened_43 rfl rfl (Nat.le_of_ble_eq_true rfl) rfl rfl ?_
      refine V.goto (tgt := 4) dX11_allLoosened_46 (by decide) ?_
      exact V.locs (L' := [some (.ref 0), some (.int p1), some (.int r4.1), some (.int (x3 + 1)), none]) ⟨rfl, ⟨rfl, ⟨rfl, ⟨rfl, trivial⟩⟩⟩⟩ (ih hf hx)
def s_X11_allLoosened (a1 : Int32) (M_s : Nat → Int32) : Option (Int32) := (s_X11_allLoosened_L4 a1 M_s gF 0 0).bind fun r5 => some r5.1
set_option maxHeartbeats 4000000 in
set_option maxRecDepth 100000 in
theorem ct_X11_allLoosened {a1 : Int32} {M_savedMany : Int32} {M_isTaken : Int32} {M_length : Int32} {M_thrown : Int32} {M_spelt : Int32} {M_speltMany : Int32} {M_place : Int32} {M_kind : Int32} {M_one : Int32} {M_two : Int32} {M_three : Int32} {M_begins : Int32} {M_done : Int32} {M_stopBy : Int32} {M_hash : Int64} {M_s : Nat → Int32} {M_saved : Nat → Int32} {M_snapshot : Nat → Int32} {M_text : Nat → Int32} {res : Int32} (hf : s_X11_allLoosened a1 M_s = some res) : Ct k_X11_allLoosened [.ref 0, .int a1] [.inl (6, [.ref 1, .ref 2, .int M_savedMany, .ref 3, .int M_isTaken, .ref 4, .int M_length, .int M_thrown, .int M_spelt, .int M_speltMany, .int M_place, .int M_kind, .int M_one, .int M_two, .int M_three, .int M_begins, .int M_done, .int M_stopBy, .long M_hash]), .inr (406, .inl M_s), .inr (2436, .inl M_saved), .inr (406, .inl M_snapshot), .inr (60, .inl M_text)] (.inl (some (.int res))) [.inl (6, [.ref 1, .ref 2, .int M_savedMany, .ref 3, .int M_isTaken, .ref 4, .int M_length, .int M_thrown, .int M_spelt, .int M_speltMany, .int M_place, .int M_kind, .int M_one, .int M_two, .int M_three, .int M_begins, .int M_done, .int M_stopBy, .long M_hash]), .inr (406, .inl M_s), .inr (2436, .inl M_saved), .inr (406, .inl M_snapshot), .inr (60, .inl M_text)] := by
  unfold s_X11_allLoosened at hf
  refine Ct.of (L := [some (.ref 0), some (.int a1), none, none, none]) cal_X11_allLoosened (fent_pad (j := 3) rfl) (Nat.le_of_ble_eq_true rfl) ?_
  refine V.iconst (v := 0) dX11_allLoosened_0 rfl ?_
  refine V.istore_n (i := 2) (L' := [some (.ref 0), some (.int a1), some (.int 0), none, none]) dX11_allLoosened_1 rfl (Nat.le_of_ble_eq_true rfl) rfl rfl ?_
  refine V.iconst (v := 0) dX11_allLoosened_2 rfl ?_
  refine V.istore_n (i := 3) (L' := [some (.ref 0), some (.int a1), some (.int 0), some (.int 0), none]) dX11_allLoosened_3 rfl (Nat.le_of_ble_eq_true rfl) rfl rfl ?_
  obtain ⟨r5, hr5, hf⟩ := fbind hf
  refine v_X11_allLoosened_L4 gF hr5 ?_
  refine V.iload_n (i := 2) dX11_allLoosened_49 rfl rfl ?_
  obtain rfl := Option.some.inj hf
  exact V.iret dX11_allLoosened_50 rfl (Nat.le_of_ble_eq_true rfl) (Nat.le_of_ble_eq_true rfl) rfl
def k_X11_allKnots : fK := (yX11_allKnots, cX11_allKnots, 3, (some .int), [], (4, 93), (0, 0), (0, 0))
theorem cal_X11_allKnots : fCal k_X11_allKnots 0 := ⟨⟨wc1466, w73⟩, ⟨by decide +kernel, by decide +kernel⟩, by decide +kernel, by decide +kernel⟩
def s_X11_allKnots_L4 (M_s : Nat → Int32) : Nat → Int32 → Int32 → Option (Int32 × Int32)
  | 0, _, _ => none
  | n + 1, x1, x2 => if (16 ≤ x2 : Prop) then (some (x1, x2)) else ((s_X11_knotsOf x2 0 M_s).bind fun v1 => s_X11_allKnots_L4 M_s n (x1 + v1) (x2 + 1))
set_option maxHeartbeats 4000000 in
set_option maxRecDepth 100000 in
theorem v_X11_allKnots_L4 {out : fO} {σ' : List fE} {M_savedMany : Int32} {M_isTaken : Int32} {M_length : Int32} {M_thrown : Int32} {M_spelt : Int32} {M_speltMany : Int32} {M_place : Int32} {M_kind : Int32} {M_one : Int32} {M_two : Int32} {M_three : Int32} {M_begins : Int32} {M_done : Int32} {M_stopBy : Int32} {M_hash : Int64} {M_s : Nat → Int32} {M_saved : Nat → Int32} {M_snapshot : Nat → Int32} {M_text : Nat → Int32} : ∀ (n : Nat) {x1 : Int32} {x2 : Int32} {res : Int32 × Int32} (hf : s_X11_allKnots_L4 M_s n x1 x2 = some res) (hx : V (fXm 5 k_X11_allKnots out σ') (krm k_X11_allKnots) k_X11_allKnots 5 25 [some (.ref 0), some (.int res.1), some (.int res.2)] [] [.inl (6, [.ref 1, .ref 2, .int M_savedMany, .ref 3, .int M_isTaken, .ref 4, .int M_length, .int M_thrown, .int M_spelt, .int M_speltMany, .int M_place, .int M_kind, .int M_one, .int M_two, .int M_three, .int M_begins, .int M_done, .int M_stopBy, .long M_hash]), .inr (406, .inl M_s), .inr (2436, .inl M_saved), .inr (406, .inl M_snapshot), .inr (60, .inl M_text)] 0 0), V (fXm 5 k_X11_allKnots out σ') (krm k_X11_allKnots) k_X11_allKnots 5 4 [some (.ref 0), some (.int x1), some (.int x2)] [] [.inl (6, [.ref 1, .ref 2, .int M_savedMany, .ref 3, .int M_isTaken, .ref 4, .int M_length, .int M_thrown, .int M_spelt, .int M_speltMany, .int M_place, .int M_kind, .int M_one, .int M_two, .int M_three, .int M_begins, .int M_done, .int M_stopBy, .long M_hash]), .inr (406, .inl M_s), .inr (2436, .inl M_saved), .inr (406, .inl M_snapshot), .inr (60, .inl M_text)] 0 0 := by
  intro n
  induction n with
  | zero =>
    intro x1 x2 res hf hx
    rw [s_X11_allKnots_L4] at hf
    cases hf
  | succ n ih =>
    intro x1 x2 res hf hx
    rw [s_X11_allKnots_L4] at hf
    refine V.iload_n (i := 2) dX11_allKnots_4 rfl rfl ?_
    refine V.bipush (v := 16) dX11_allKnots_5 rfl ?_
    refine V.icmp_ge (tgt := 25) dX11_allKnots_7 (by decide) (fun h => ?_) (fun h => ?_)
    · have hf := fif_t h hf
      obtain rfl := Option.some.inj hf
      exact hx
    · have hf := fif_f h hf
      refine V.iload_n (i := 1) dX11_allKnots_10 rfl rfl ?_
      refine V.aload_n (i := 0) dX11_allKnots_11 rfl rfl ?_
      refine V.iload_n (i := 2) dX11_allKnots_12 rfl rfl ?_
      refine V.iconst (v := 0) dX11_allKnots_13 rfl ?_
      obtain ⟨v1, hv1, hf⟩ := fbind hf
      refine V.callVn (pl := [0, 1, 2, 3, 4]) (σ' := [.inl (6, [.ref 1, .ref 2, .int M_savedMany, .ref 3, .int M_isTaken, .ref 4, .int M_length, .int M_thrown, .int M_spelt, .int M_speltMany, .int M_place, .int M_kind, .int M_one, .int M_two, .int M_three, .int M_begins, .int M_done, .int M_stopBy, .long M_hash]), .inr (406, .inl M_s), .inr (2436, .inl M_saved), .inr (406, .inl M_snapshot), .inr (60, .inl M_text)]) (st2 := [.int v1, .int x1]) (cl2 := 0) (sl2 := 0) (ct_X11_knotsOf (a1 := x2) (a2 := 0) (M_savedMany := M_savedMany) (M_isTaken := M_isTaken) (M_length := M_length) (M_thrown := M_thrown) (M_spelt := M_spelt) (M_speltMany := M_speltMany) (M_place := M_place) (M_kind := M_kind) (M_one := M_one) (M_two := M_two) (M_three := M_three) (M_begins := M_begins) (M_done := M_done) (M_stopBy := M_stopBy) (M_hash := M_hash) (M_s := M_s) (M_saved := M_saved) (M_snapshot := M_snapshot) (M_text := M_text) hv1) dX11_allKnots_14 w1359 ⟨w1361, w47⟩ cal_X11_knotsOf rfl ⟨⟨Nat.le_of_ble_eq_true rfl, Nat.le_of_ble_eq_true rfl⟩, Nat.le_of_ble_eq_true rfl, Nat.le_of_ble_eq_true rfl⟩ (Nat.le_of_ble_eq_true rfl) (Or.inl ⟨_, _, _, _, rfl, rfl⟩) rfl ⟨rfl, ⟨by decide, by decide⟩, rfl, (fr_cons (Or.inl (Nat.le_of_ble_eq_true rfl)) (fr_cons (Or.inl (Nat.le_of_ble_eq_true rfl)) (fr_cons (Or.inl (Nat.le_of_ble_eq_true rfl)) (fr_cons (Or.inl (Nat.le_of_ble_eq_true rfl)) (fr_nil))))), rfl⟩ fr_i rfl rfl rfl rfl ?_
      refine V.iadd dX11_allKnots_17 ?_
      refine V.istore_n (i := 1) (L' := [some (.ref 0), some (.int (x1 + v1)), some (.int x2)]) dX11_allKnots_18 rfl (Nat.le_of_ble_eq_true rfl) rfl rfl ?_
      refine V.iinc (i := 2) (v := (x2 + 1)) (L' := [some (.ref 0), some (.int (x1 + v1)), some (.int (x2 + 1))]) dX11_allKnots_19 rfl rfl (Nat.le_of_ble_eq_true rfl) rfl rfl ?_
      refine V.goto (tgt := 4) dX11_allKnots_22 (by decide) ?_
      exact ih hf hx
def s_X11_allKnots (M_s : Nat → Int32) : Option (Int32) := (s_X11_allKnots_L4 M_s gF 0 0).bind fun r2 => some r2.1
set_option maxHeartbeats 4000000 in
set_option maxRecDepth 100000 in
theorem ct_X11_allKnots {M_savedMany : Int32} {M_isTaken : Int32} {M_length : Int32} {M_thrown : Int32} {M_spelt : Int32} {M_speltMany : Int32} {M_place : Int32} {M_kind : Int32} {M_one : Int32} {M_two : Int32} {M_three : Int32} {M_begins : Int32} {M_done : Int32} {M_stopBy : Int32} {M_hash : Int64} {M_s : Nat → Int32} {M_saved : Nat → Int32} {M_snapshot : Nat → Int32} {M_text : Nat → Int32} {res : Int32} (hf : s_X11_allKnots M_s = some res) : Ct k_X11_allKnots [.ref 0] [.inl (6, [.ref 1, .ref 2, .int M_savedMany, .ref 3, .int M_isTaken, .ref 4, .int M_length, .int M_thrown, .int M_spelt, .int M_speltMany, .int M_place, .int M_kind, .int M_one, .int M_two, .int M_three, .int M_begins, .int M_done, .int M_stopBy, .long M_hash]), .inr (406, .inl M_s), .inr (2436, .inl M_saved), .inr (406, .inl M_snapshot), .inr (60, .inl M_text)] (.inl (some (.int res))) [.inl (6, [.ref 1, .ref 2, .int M_savedMany, .ref 3, .int M_isTaken, .ref 4, .int M_length, .int M_thrown, .int M_spelt, .int M_speltMany, .int M_place, .int M_kind, .int M_one, .int M_two, .int M_three, .int M_begins, .int M_done, .int M_stopBy, .long M_hash]), .inr (406, .inl M_s), .inr (2436, .inl M_saved), .inr (406, .inl M_snapshot), .inr (60, .inl M_text)] := by
  unfold s_X11_allKnots at hf
  refine Ct.of (L := [some (.ref 0), none, none]) cal_X11_allKnots (fent_pad (j := 2) rfl) (Nat.le_of_ble_eq_true rfl) ?_
  refine V.iconst (v := 0) dX11_allKnots_0 rfl ?_
  refine V.istore_n (i := 1) (L' := [some (.ref 0), some (.int 0), none]) dX11_allKnots_1 rfl (Nat.le_of_ble_eq_true rfl) rfl rfl ?_
  refine V.iconst (v := 0) dX11_allKnots_2 rfl ?_
  refine V.istore_n (i := 2) (L' := [some (.ref 0), some (.int 0), some (.int 0)]) dX11_allKnots_3 rfl (Nat.le_of_ble_eq_true rfl) rfl rfl ?_
  obtain ⟨r2, hr2, hf⟩ := fbind hf
  refine v_X11_allKnots_L4 gF hr2 ?_
  refine V.iload_n (i := 1) dX11_allKnots_25 rfl rfl ?_
  obtain rfl := Option.some.inj hf
  exact V.iret dX11_allKnots_26 rfl (Nat.le_of_ble_eq_true rfl) (Nat.le_of_ble_eq_true rfl) rfl
def k_X11_cordByLetters : fK := (yX11_cordByLetters, cX11_cordByLetters, 3, (some .int), [], (4, 93), (0, 0), (0, 0))
theorem cal_X11_cordByLetters : fCal k_X11_cordByLetters 0 := ⟨⟨wc1418, w73⟩, ⟨by decide +kernel, by decide +kernel⟩, by decide +kernel, by decide +kernel⟩
def s_X11_cordByLetters_L10 (M_s : Nat → Int32) : Nat → Int32 → Int32 → Option (Int32 × Int32)
  | 0, _, _ => none
  | n + 1, x1, x2 => if (16 ≤ x2 : Prop) then (some (x1, x2)) else ((s_X11_knotsOf x2 0 M_s).bind fun v2 => (s_X11_cordOfLetter x2).bind fun v3 => s_X11_cordByLetters_L10 M_s n (x1 + (v2 * (v3 + 1))) (x2 + 1))
set_option maxHeartbeats 4000000 in
set_option maxRecDepth 100000 in
theorem v_X11_cordByLetters_L10 {out : fO} {σ' : List fE} {M_savedMany : Int32} {M_isTaken : Int32} {M_length : Int32} {M_thrown : Int32} {M_spelt : Int32} {M_speltMany : Int32} {M_place : Int32} {M_kind : Int32} {M_one : Int32} {M_two : Int32} {M_three : Int32} {M_begins : Int32} {M_done : Int32} {M_stopBy : Int32} {M_hash : Int64} {M_s : Nat → Int32} {M_saved : Nat → Int32} {M_snapshot : Nat → Int32} {M_text : Nat → Int32} : ∀ (n : Nat) {x1 : Int32} {x2 : Int32} {res : Int32 × Int32} (hf : s_X11_cordByLetters_L10 M_s n x1 x2 = some res) (hx : V (fXm 5 k_X11_cordByLetters out σ') (krm k_X11_cordByLetters) k_X11_cordByLetters 5 38 [some (.ref 0), some (.int res.1), some (.int res.2)] [] [.inl (6, [.ref 1, .ref 2, .int M_savedMany, .ref 3, .int M_isTaken, .ref 4, .int M_length, .int M_thrown, .int M_spelt, .int M_speltMany, .int M_place, .int M_kind, .int M_one, .int M_two, .int M_three, .int M_begins, .int M_done, .int M_stopBy, .long M_hash]), .inr (406, .inl M_s), .inr (2436, .inl M_saved), .inr (406, .inl M_snapshot), .inr (60, .inl M_text)] 0 0), V (fXm 5 k_X11_cordByLetters out σ') (krm k_X11_cordByLetters) k_X11_cordByLetters 5 10 [some (.ref 0), some (.int x1), some (.int x2)] [] [.inl (6, [.ref 1, .ref 2, .int M_savedMany, .ref 3, .int M_isTaken, .ref 4, .int M_length, .int M_thrown, .int M_spelt, .int M_speltMany, .int M_place, .int M_kind, .int M_one, .int M_two, .int M_three, .int M_begins, .int M_done, .int M_stopBy, .long M_hash]), .inr (406, .inl M_s), .inr (2436, .inl M_saved), .inr (406, .inl M_snapshot), .inr (60, .inl M_text)] 0 0 := by
  intro n
  induction n with
  | zero =>
    intro x1 x2 res hf hx
    rw [s_X11_cordByLetters_L10] at hf
    cases hf
  | succ n ih =>
    intro x1 x2 res hf hx
    rw [s_X11_cordByLetters_L10] at hf
    refine V.iload_n (i := 2) dX11_cordByLetters_10 rfl rfl ?_
    refine V.bipush (v := 16) dX11_cordByLetters_11 rfl ?_
    refine V.icmp_ge (tgt := 38) dX11_cordByLetters_13 (by decide) (fun h => ?_) (fun h => ?_)
    · have hf := fif_t h hf
      obtain rfl := Option.some.inj hf
      exact hx
    · have hf := fif_f h hf
      refine V.iload_n (i := 1) dX11_cordByLetters_16 rfl rfl ?_
      refine V.aload_n (i := 0) dX11_cordByLetters_17 rfl rfl ?_
      refine V.iload_n (i := 2) dX11_cordByLetters_18 rfl rfl ?_
      refine V.iconst (v := 0) dX11_cordByLetters_19 rfl ?_
      obtain ⟨v2, hv2, hf⟩ := fbind hf
      refine V.callVn (pl := [0, 1, 2, 3, 4]) (σ' := [.inl (6, [.ref 1, .ref 2, .int M_savedMany, .ref 3, .int M_isTaken, .ref 4, .int M_length, .int M_thrown, .int M_spelt, .int M_speltMany, .int M_place, .int M_kind, .int M_one, .int M_two, .int M_three, .int M_begins, .int M_done, .int M_stopBy, .long M_hash]), .inr (406, .inl M_s), .inr (2436, .inl M_saved), .inr (406, .inl M_snapshot), .inr (60, .inl M_text)]) (st2 := [.int v2, .int x1]) (cl2 := 0) (sl2 := 0) (ct_X11_knotsOf (a1 := x2) (a2 := 0) (M_savedMany := M_savedMany) (M_isTaken := M_isTaken) (M_length := M_length) (M_thrown := M_thrown) (M_spelt := M_spelt) (M_speltMany := M_speltMany) (M_place := M_place) (M_kind := M_kind) (M_one := M_one) (M_two := M_two) (M_three := M_three) (M_begins := M_begins) (M_done := M_done) (M_stopBy := M_stopBy) (M_hash := M_hash) (M_s := M_s) (M_saved := M_saved) (M_snapshot := M_snapshot) (M_text := M_text) hv2) dX11_cordByLetters_20 w1359 ⟨w1361, w47⟩ cal_X11_knotsOf rfl ⟨⟨Nat.le_of_ble_eq_true rfl, Nat.le_of_ble_eq_true rfl⟩, Nat.le_of_ble_eq_true rfl, Nat.le_of_ble_eq_true rfl⟩ (Nat.le_of_ble_eq_true rfl) (Or.inl ⟨_, _, _, _, rfl, rfl⟩) rfl ⟨rfl, ⟨by decide, by decide⟩, rfl, (fr_cons (Or.inl (Nat.le_of_ble_eq_true rfl)) (fr_cons (Or.inl (Nat.le_of_ble_eq_true rfl)) (fr_cons (Or.inl (Nat.le_of_ble_eq_true rfl)) (fr_cons (Or.inl (Nat.le_of_ble_eq_true rfl)) (fr_nil))))), rfl⟩ fr_i rfl rfl rfl rfl ?_
      refine V.iload_n (i := 2) dX11_cordByLetters_23 rfl rfl ?_
      obtain ⟨v3, hv3, hf⟩ := fbind hf
      refine V.callSn (pl := []) (σ' := [.inl (6, [.ref 1, .ref 2, .int M_savedMany, .ref 3, .int M_isTaken, .ref 4, .int M_length, .int M_thrown, .int M_spelt, .int M_speltMany, .int M_place, .int M_kind, .int M_one, .int M_two, .int M_three, .int M_begins, .int M_done, .int M_stopBy, .long M_hash]), .inr (406, .inl M_s), .inr (2436, .inl M_saved), .inr (406, .inl M_snapshot), .inr (60, .inl M_text)]) (st2 := [.int v3, .int v2, .int x1]) (cl2 := 0) (sl2 := 0) (ct_X11_cordOfLetter (a0 := x2) hv3) dX11_cordByLetters_24 w1133 w1134 cal_X11_cordOfLetter ⟨⟨Nat.le_of_ble_eq_true rfl, Nat.le_of_ble_eq_true rfl⟩, Nat.le_of_ble_eq_true rfl, Nat.le_of_ble_eq_true rfl⟩ (Nat.le_of_ble_eq_true rfl) rfl ⟨rfl, ⟨by decide, by decide⟩, rfl, (fr_nil), rfl⟩ fr_i rfl rfl rfl rfl ?_
      refine V.iconst (v := 1) dX11_cordByLetters_27 rfl ?_
      refine V.iadd dX11_cordByLetters_28 ?_
      refine V.imul dX11_cordByLetters_29 ?_
      refine V.iadd dX11_cordByLetters_30 ?_
      refine V.istore_n (i := 1) (L' := [some (.ref 0), some (.int (x1 + (v2 * (v3 + 1)))), some (.int x2)]) dX11_cordByLetters_31 rfl (Nat.le_of_ble_eq_true rfl) rfl rfl ?_
      refine V.iinc (i := 2) (v := (x2 + 1)) (L' := [some (.ref 0), some (.int (x1 + (v2 * (v3 + 1)))), some (.int (x2 + 1))]) dX11_cordByLetters_32 rfl rfl (Nat.le_of_ble_eq_true rfl) rfl rfl ?_
      refine V.goto (tgt := 10) dX11_cordByLetters_35 (by decide) ?_
      exact ih hf hx
def s_X11_cordByLetters (M_s : Nat → Int32) : Option (Int32) := (s_X11_sumOf 1 M_s).bind fun v1 => (s_X11_cordByLetters_L10 M_s gF (2 * v1) 0).bind fun r4 => some r4.1
set_option maxHeartbeats 4000000 in
set_option maxRecDepth 100000 in
theorem ct_X11_cordByLetters {M_savedMany : Int32} {M_isTaken : Int32} {M_length : Int32} {M_thrown : Int32} {M_spelt : Int32} {M_speltMany : Int32} {M_place : Int32} {M_kind : Int32} {M_one : Int32} {M_two : Int32} {M_three : Int32} {M_begins : Int32} {M_done : Int32} {M_stopBy : Int32} {M_hash : Int64} {M_s : Nat → Int32} {M_saved : Nat → Int32} {M_snapshot : Nat → Int32} {M_text : Nat → Int32} {res : Int32} (hf : s_X11_cordByLetters M_s = some res) : Ct k_X11_cordByLetters [.ref 0] [.inl (6, [.ref 1, .ref 2, .int M_savedMany, .ref 3, .int M_isTaken, .ref 4, .int M_length, .int M_thrown, .int M_spelt, .int M_speltMany, .int M_place, .int M_kind, .int M_one, .int M_two, .int M_three, .int M_begins, .int M_done, .int M_stopBy, .long M_hash]), .inr (406, .inl M_s), .inr (2436, .inl M_saved), .inr (406, .inl M_snapshot), .inr (60, .inl M_text)] (.inl (some (.int res))) [.inl (6, [.ref 1, .ref 2, .int M_savedMany, .ref 3, .int M_isTaken, .ref 4, .int M_length, .int M_thrown, .int M_spelt, .int M_speltMany, .int M_place, .int M_kind, .int M_one, .int M_two, .int M_three, .int M_begins, .int M_done, .int M_stopBy, .long M_hash]), .inr (406, .inl M_s), .inr (2436, .inl M_saved), .inr (406, .inl M_snapshot), .inr (60, .inl M_text)] := by
  unfold s_X11_cordByLetters at hf
  refine Ct.of (L := [some (.ref 0), none, none]) cal_X11_cordByLetters (fent_pad (j := 2) rfl) (Nat.le_of_ble_eq_true rfl) ?_
  refine V.iconst (v := 2) dX11_cordByLetters_0 rfl ?_
  refine V.aload_n (i := 0) dX11_cordByLetters_1 rfl rfl ?_
  refine V.iconst (v := 1) dX11_cordByLetters_2 rfl ?_
  obtain ⟨v1, hv1, hf⟩ := fbind hf
  refine V.callVn (pl := [0, 1, 2, 3, 4]) (σ' := [.inl (6, [.ref 1, .ref 2, .int M_savedMany, .ref 3, .int M_isTaken, .ref 4, .int M_length, .int M_thrown, .int M_spelt, .int M_speltMany, .int M_place, .int M_kind, .int M_one, .int M_two, .int M_three, .int M_begins, .int M_done, .int M_stopBy, .long M_hash]), .inr (406, .inl M_s), .inr (2436, .inl M_saved), .inr (406, .inl M_snapshot), .inr (60, .inl M_text)]) (st2 := [.int v1, .int 2]) (cl2 := 0) (sl2 := 0) (ct_X11_sumOf (a1 := 1) (M_savedMany := M_savedMany) (M_isTaken := M_isTaken) (M_length := M_length) (M_thrown := M_thrown) (M_spelt := M_spelt) (M_speltMany := M_speltMany) (M_place := M_place) (M_kind := M_kind) (M_one := M_one) (M_two := M_two) (M_three := M_three) (M_begins := M_begins) (M_done := M_done) (M_stopBy := M_stopBy) (M_hash := M_hash) (M_s := M_s) (M_saved := M_saved) (M_snapshot := M_snapshot) (M_text := M_text) hv1) dX11_cordByLetters_3 w1343 ⟨w1345, w45⟩ cal_X11_sumOf rfl ⟨⟨Nat.le_of_ble_eq_true rfl, Nat.le_of_ble_eq_true rfl⟩, Nat.le_of_ble_eq_true rfl, Nat.le_of_ble_eq_true rfl⟩ (Nat.le_of_ble_eq_true rfl) (Or.inl ⟨_, _, _, _, rfl, rfl⟩) rfl ⟨rfl, ⟨by decide, by decide⟩, rfl, (fr_cons (Or.inl (Nat.le_of_ble_eq_true rfl)) (fr_cons (Or.inl (Nat.le_of_ble_eq_true rfl)) (fr_cons (Or.inl (Nat.le_of_ble_eq_true rfl)) (fr_cons (Or.inl (Nat.le_of_ble_eq_true rfl)) (fr_nil))))), rfl⟩ fr_i rfl rfl rfl rfl ?_
  refine V.imul dX11_cordByLetters_6 ?_
  refine V.istore_n (i := 1) (L' := [some (.ref 0), some (.int (2 * v1)), none]) dX11_cordByLetters_7 rfl (Nat.le_of_ble_eq_true rfl) rfl rfl ?_
  refine V.iconst (v := 0) dX11_cordByLetters_8 rfl ?_
  refine V.istore_n (i := 2) (L' := [some (.ref 0), some (.int (2 * v1)), some (.int 0)]) dX11_cordByLetters_9 rfl (Nat.le_of_ble_eq_true rfl) rfl rfl ?_
  obtain ⟨r4, hr4, hf⟩ := fbind hf
  refine v_X11_cordByLetters_L10 gF hr4 ?_
  refine V.iload_n (i := 1) dX11_cordByLetters_38 rfl rfl ?_
  obtain rfl := Option.some.inj hf
  exact V.iret dX11_cordByLetters_39 rfl (Nat.le_of_ble_eq_true rfl) (Nat.le_of_ble_eq_true rfl) rfl
def k_X11_cordByNames : fK := (yX11_cordByNames, cX11_cordByNames, 3, (some .int), [], (5, 107), (0, 0), (0, 0))
theorem cal_X11_cordByNames : fCal k_X11_cordByNames 0 := ⟨⟨wc1414, w73⟩, ⟨by decide +kernel, by decide +kernel⟩, by decide +kernel, by decide +kernel⟩
def s_X11_cordByNames_L4 (M_s : Nat → Int32) : Nat → Int32 → Int32 → Option (Int32 × Int32)
  | 0, _, _ => none
  | n + 1, x1, x2 => if (5 ≤ x2 : Prop) then (some (x1, x2)) else ((s_X11_cordOn x2 M_s).bind fun v1 => s_X11_cordByNames_L4 M_s n (x1 + v1) (x2 + 1))
set_option maxHeartbeats 4000000 in
set_option maxRecDepth 100000 in
theorem v_X11_cordByNames_L4 {out : fO} {σ' : List fE} {M_savedMany : Int32} {M_isTaken : Int32} {M_length : Int32} {M_thrown : Int32} {M_spelt : Int32} {M_speltMany : Int32} {M_place : Int32} {M_kind : Int32} {M_one : Int32} {M_two : Int32} {M_three : Int32} {M_begins : Int32} {M_done : Int32} {M_stopBy : Int32} {M_hash : Int64} {M_s : Nat → Int32} {M_saved : Nat → Int32} {M_snapshot : Nat → Int32} {M_text : Nat → Int32} : ∀ (n : Nat) {x1 : Int32} {x2 : Int32} {res : Int32 × Int32} (hf : s_X11_cordByNames_L4 M_s n x1 x2 = some res) (hx : V (fXm 5 k_X11_cordByNames out σ') (krm k_X11_cordByNames) k_X11_cordByNames 5 23 [some (.ref 0), some (.int res.1), some (.int res.2)] [] [.inl (6, [.ref 1, .ref 2, .int M_savedMany, .ref 3, .int M_isTaken, .ref 4, .int M_length, .int M_thrown, .int M_spelt, .int M_speltMany, .int M_place, .int M_kind, .int M_one, .int M_two, .int M_three, .int M_begins, .int M_done, .int M_stopBy, .long M_hash]), .inr (406, .inl M_s), .inr (2436, .inl M_saved), .inr (406, .inl M_snapshot), .inr (60, .inl M_text)] 0 0), V (fXm 5 k_X11_cordByNames out σ') (krm k_X11_cordByNames) k_X11_cordByNames 5 4 [some (.ref 0), some (.int x1), some (.int x2)] [] [.inl (6, [.ref 1, .ref 2, .int M_savedMany, .ref 3, .int M_isTaken, .ref 4, .int M_length, .int M_thrown, .int M_spelt, .int M_speltMany, .int M_place, .int M_kind, .int M_one, .int M_two, .int M_three, .int M_begins, .int M_done, .int M_stopBy, .long M_hash]), .inr (406, .inl M_s), .inr (2436, .inl M_saved), .inr (406, .inl M_snapshot), .inr (60, .inl M_text)] 0 0 := by
  intro n
  induction n with
  | zero =>
    intro x1 x2 res hf hx
    rw [s_X11_cordByNames_L4] at hf
    cases hf
  | succ n ih =>
    intro x1 x2 res hf hx
    rw [s_X11_cordByNames_L4] at hf
    refine V.iload_n (i := 2) dX11_cordByNames_4 rfl rfl ?_
    refine V.iconst (v := 5) dX11_cordByNames_5 rfl ?_
    refine V.icmp_ge (tgt := 23) dX11_cordByNames_6 (by decide) (fun h => ?_) (fun h => ?_)
    · have hf := fif_t h hf
      obtain rfl := Option.some.inj hf
      exact hx
    · have hf := fif_f h hf
      refine V.iload_n (i := 1) dX11_cordByNames_9 rfl rfl ?_
      refine V.aload_n (i := 0) dX11_cordByNames_10 rfl rfl ?_
      refine V.iload_n (i := 2) dX11_cordByNames_11 rfl rfl ?_
      obtain ⟨v1, hv1, hf⟩ := fbind hf
      refine V.callVn (pl := [0, 1, 2, 3, 4]) (σ' := [.inl (6, [.ref 1, .ref 2, .int M_savedMany, .ref 3, .int M_isTaken, .ref 4, .int M_length, .int M_thrown, .int M_spelt, .int M_speltMany, .int M_place, .int M_kind, .int M_one, .int M_two, .int M_three, .int M_begins, .int M_done, .int M_stopBy, .long M_hash]), .inr (406, .inl M_s), .inr (2436, .inl M_saved), .inr (406, .inl M_snapshot), .inr (60, .inl M_text)]) (st2 := [.int v1, .int x1]) (cl2 := 0) (sl2 := 0) (ct_X11_cordOn (a1 := x2) (M_savedMany := M_savedMany) (M_isTaken := M_isTaken) (M_length := M_length) (M_thrown := M_thrown) (M_spelt := M_spelt) (M_speltMany := M_speltMany) (M_place := M_place) (M_kind := M_kind) (M_one := M_one) (M_two := M_two) (M_three := M_three) (M_begins := M_begins) (M_done := M_done) (M_stopBy := M_stopBy) (M_hash := M_hash) (M_s := M_s) (M_saved := M_saved) (M_snapshot := M_snapshot) (M_text := M_text) hv1) dX11_cordByNames_12 w1143 ⟨w1145, w12⟩ cal_X11_cordOn rfl ⟨⟨Nat.le_of_ble_eq_true rfl, Nat.le_of_ble_eq_true rfl⟩, Nat.le_of_ble_eq_true rfl, Nat.le_of_ble_eq_true rfl⟩ (Nat.le_of_ble_eq_true rfl) (Or.inl ⟨_, _, _, _, rfl, rfl⟩) rfl ⟨rfl, ⟨by decide, by decide⟩, rfl, (fr_cons (Or.inl (Nat.le_of_ble_eq_true rfl)) (fr_cons (Or.inl (Nat.le_of_ble_eq_true rfl)) (fr_cons (Or.inl (Nat.le_of_ble_eq_true rfl)) (fr_cons (Or.inl (Nat.le_of_ble_eq_true rfl)) (fr_nil))))), rfl⟩ fr_i rfl rfl rfl rfl ?_
      refine V.iadd dX11_cordByNames_15 ?_
      refine V.istore_n (i := 1) (L' := [some (.ref 0), some (.int (x1 + v1)), some (.int x2)]) dX11_cordByNames_16 rfl (Nat.le_of_ble_eq_true rfl) rfl rfl ?_
      refine V.iinc (i := 2) (v := (x2 + 1)) (L' := [some (.ref 0), some (.int (x1 + v1)), some (.int (x2 + 1))]) dX11_cordByNames_17 rfl rfl (Nat.le_of_ble_eq_true rfl) rfl rfl ?_
      refine V.goto (tgt := 4) dX11_cordByNames_20 (by decide) ?_
      exact ih hf hx
def s_X11_cordByNames (M_s : Nat → Int32) : Option (Int32) := (s_X11_cordByNames_L4 M_s gF 0 0).bind fun r2 => some r2.1
set_option maxHeartbeats 4000000 in
set_option maxRecDepth 100000 in
theorem ct_X11_cordByNames {M_savedMany : Int32} {M_isTaken : Int32} {M_length : Int32} {M_thrown : Int32} {M_spelt : Int32} {M_speltMany : Int32} {M_place : Int32} {M_kind : Int32} {M_one : Int32} {M_two : Int32} {M_three : Int32} {M_begins : Int32} {M_done : Int32} {M_stopBy : Int32} {M_hash : Int64} {M_s : Nat → Int32} {M_saved : Nat → Int32} {M_snapshot : Nat → Int32} {M_text : Nat → Int32} {res : Int32} (hf : s_X11_cordByNames M_s = some res) : Ct k_X11_cordByNames [.ref 0] [.inl (6, [.ref 1, .ref 2, .int M_savedMany, .ref 3, .int M_isTaken, .ref 4, .int M_length, .int M_thrown, .int M_spelt, .int M_speltMany, .int M_place, .int M_kind, .int M_one, .int M_two, .int M_three, .int M_begins, .int M_done, .int M_stopBy, .long M_hash]), .inr (406, .inl M_s), .inr (2436, .inl M_saved), .inr (406, .inl M_snapshot), .inr (60, .inl M_text)] (.inl (some (.int res))) [.inl (6, [.ref 1, .ref 2, .int M_savedMany, .ref 3, .int M_isTaken, .ref 4, .int M_length, .int M_thrown, .int M_spelt, .int M_speltMany, .int M_place, .int M_kind, .int M_one, .int M_two, .int M_three, .int M_begins, .int M_done, .int M_stopBy, .long M_hash]), .inr (406, .inl M_s), .inr (2436, .inl M_saved), .inr (406, .inl M_snapshot), .inr (60, .inl M_text)] := by
  unfold s_X11_cordByNames at hf
  refine Ct.of (L := [some (.ref 0), none, none]) cal_X11_cordByNames (fent_pad (j := 2) rfl) (Nat.le_of_ble_eq_true rfl) ?_
  refine V.iconst (v := 0) dX11_cordByNames_0 rfl ?_
  refine V.istore_n (i := 1) (L' := [some (.ref 0), some (.int 0), none]) dX11_cordByNames_1 rfl (Nat.le_of_ble_eq_true rfl) rfl rfl ?_
  refine V.iconst (v := 0) dX11_cordByNames_2 rfl ?_
  refine V.istore_n (i := 2) (L' := [some (.ref 0), some (.int 0), some (.int 0)]) dX11_cordByNames_3 rfl (Nat.le_of_ble_eq_true rfl) rfl rfl ?_
  obtain ⟨r2, hr2, hf⟩ := fbind hf
  refine v_X11_cordByNames_L4 gF hr2 ?_
  refine V.iload_n (i := 1) dX11_cordByNames_23 rfl rfl ?_
  obtain rfl := Option.some.inj hf
  exact V.iret dX11_cordByNames_24 rfl (Nat.le_of_ble_eq_true rfl) (Nat.le_of_ble_eq_true rfl) rfl
def k_X11_hasCommon : fK := (yX11_hasCommon, cX11_hasCommon, 6, (some .boolean), [], (4, 90), (0, 0), (0, 0))
theorem cal_X11_hasCommon : fCal k_X11_hasCommon 2 := ⟨⟨wc1430, w73⟩, ⟨by decide +kernel, by decide +kernel⟩, by decide +kernel, by decide +kernel⟩
def s_X11_hasCommon_L19 (p1 : Int32) (p2 : Int32) (p4 : Int32) (M_s : Nat → Int32) : Nat → Int32 → Int32 → Option (Int32 × Int32)
  | 0, _, _ => none
  | n + 1, x3, x5 => (s_X11_of p2 1 M_s).bind fun v2 => if (v2 ≤ x5 : Prop) then (some (x3, x5)) else (if (x3 = 0 : Prop) then ((s_X11_whereIs p1 p4).bind fun v3 => (s_X11_whereIs p2 x5).bind fun v4 => (s_X11_readAlike v3 v4 M_s).bind fun v5 => if (v5 = 0 : Prop) then (s_X11_hasCommon_L19 p1 p2 p4 M_s n 0 (x5 + 1)) else (s_X11_hasCommon_L19 p1 p2 p4 M_s n 1 (x5 + 1))) else (s_X11_hasCommon_L19 p1 p2 p4 M_s n 1 (x5 + 1)))
set_option maxHeartbeats 4000000 in
set_option maxRecDepth 100000 in
theorem v_X11_hasCommon_L19 {out : fO} {σ' : List fE} {p1 : Int32} {p2 : Int32} {p4 : Int32} {M_savedMany : Int32} {M_isTaken : Int32} {M_length : Int32} {M_thrown : Int32} {M_spelt : Int32} {M_speltMany : Int32} {M_place : Int32} {M_kind : Int32} {M_one : Int32} {M_two : Int32} {M_three : Int32} {M_begins : Int32} {M_done : Int32} {M_stopBy : Int32} {M_hash : Int64} {M_s : Nat → Int32} {M_saved : Nat → Int32} {M_snapshot : Nat → Int32} {M_text : Nat → Int32} : ∀ (n : Nat) {x3 : Int32} {x5 : Int32} {res : Int32 × Int32} (hf : s_X11_hasCommon_L19 p1 p2 p4 M_s n x3 x5 = some res) (hx : V (fXm 5 k_X11_hasCommon out σ') (krm k_X11_hasCommon) k_X11_hasCommon 5 65 [some (.ref 0), some (.int p1), some (.int p2), some (.int res.1), some (.int p4), some (.int res.2)] [] [.inl (6, [.ref 1, .ref 2, .int M_savedMany, .ref 3, .int M_isTaken, .ref 4, .int M_length, .int M_thrown, .int M_spelt, .int M_speltMany, .int M_place, .int M_kind, .int M_one, .int M_two, .int M_three, .int M_begins, .int M_done, .int M_stopBy, .long M_hash]), .inr (406, .inl M_s), .inr (2436, .inl M_saved), .inr (406, .inl M_snapshot), .inr (60, .inl M_text)] 0 0), V (fXm 5 k_X11_hasCommon out σ') (krm k_X11_hasCommon) k_X11_hasCommon 5 19 [some (.ref 0), some (.int p1), some (.int p2), some (.int x3), some (.int p4), some (.int x5)] [] [.inl (6, [.ref 1, .ref 2, .int M_savedMany, .ref 3, .int M_isTaken, .ref 4, .int M_length, .int M_thrown, .int M_spelt, .int M_speltMany, .int M_place, .int M_kind, .int M_one, .int M_two, .int M_three, .int M_begins, .int M_done, .int M_stopBy, .long M_hash]), .inr (406, .inl M_s), .inr (2436, .inl M_saved), .inr (406, .inl M_snapshot), .inr (60, .inl M_text)] 0 0 := by
  intro n
  induction n with
  | zero =>
    intro x3 x5 res hf hx
    rw [s_X11_hasCommon_L19] at hf
    cases hf
  | succ n ih =>
    intro x3 x5 res hf hx
    rw [s_X11_hasCommon_L19] at hf
    refine V.iload (i := 5) dX11_hasCommon_19 rfl ?_
    refine V.aload_n (i := 0) dX11_hasCommon_21 rfl rfl ?_
    refine V.iload_n (i := 2) dX11_hasCommon_22 rfl rfl ?_
    refine V.iconst (v := 1) dX11_hasCommon_23 rfl ?_
    obtain ⟨v2, hv2, hf⟩ := fbind hf
    refine V.callVn (pl := [0, 1, 2, 3, 4]) (σ' := [.inl (6, [.ref 1, .ref 2, .int M_savedMany, .ref 3, .int M_isTaken, .ref 4, .int M_length, .int M_thrown, .int M_spelt, .int M_speltMany, .int M_place, .int M_kind, .int M_one, .int M_two, .int M_three, .int M_begins, .int M_done, .int M_stopBy, .long M_hash]), .inr (406, .inl M_s), .inr (2436, .inl M_saved), .inr (406, .inl M_snapshot), .inr (60, .inl M_text)]) (st2 := [.int v2, .int x5]) (cl2 := 0) (sl2 := 0) (ct_X11_of (a1 := p2) (a2 := 1) (M_savedMany := M_savedMany) (M_isTaken := M_isTaken) (M_length := M_length) (M_thrown := M_thrown) (M_spelt := M_spelt) (M_speltMany := M_speltMany) (M_place := M_place) (M_kind := M_kind) (M_one := M_one) (M_two := M_two) (M_three := M_three) (M_begins := M_begins) (M_done := M_done) (M_stopBy := M_stopBy) (M_hash := M_hash) (M_s := M_s) (M_saved := M_saved) (M_snapshot := M_snapshot) (M_text := M_text) hv2) dX11_hasCommon_24 w1123 ⟨w1125, w10⟩ cal_X11_of rfl ⟨⟨Nat.le_of_ble_eq_true rfl, Nat.le_of_ble_eq_true rfl⟩, Nat.le_of_ble_eq_true rfl, Nat.le_of_ble_eq_true rfl⟩ (Nat.le_of_ble_eq_true rfl) (Or.inl ⟨_, _, _, _, rfl, rfl⟩) rfl ⟨rfl, ⟨by decide, by decide⟩, rfl, (fr_cons (Or.inl (Nat.le_of_ble_eq_true rfl)) (fr_cons (Or.inl (Nat.le_of_ble_eq_true rfl)) (fr_cons (Or.inl (Nat.le_of_ble_eq_true rfl)) (fr_cons (Or.inl (Nat.le_of_ble_eq_true rfl)) (fr_nil))))), rfl⟩ fr_i rfl rfl rfl rfl ?_
    refine V.icmp_ge (tgt := 65) dX11_hasCommon_27 (by decide) (fun h => ?_) (fun h => ?_)
    · have hf := fif_t h hf
      obtain rfl := Option.some.inj hf
      exact hx
    · have hf := fif_f h hf
      refine V.iload_n (i := 3) dX11_hasCommon_30 rfl rfl ?_
      refine V.if_ne (tgt := 53) dX11_hasCommon_31 (by decide) (fun h => ?_) (fun h => ?_)
      · have hf := fif_f h hf
        refine V.iconst (v := 1) dX11_hasCommon_53 rfl ?_
        refine V.goto (tgt := 58) dX11_hasCommon_54 (by decide) ?_
        refine V.istore_n (i := 3) (L' := [some (.ref 0), some (.int p1), some (.int p2), some (.int 1), some (.int p4), some (.int x5)]) dX11_hasCommon_58 rfl (Nat.le_of_ble_eq_true rfl) rfl rfl ?_
        refine V.iinc (i := 5) (v := (x5 + 1)) (L' := [some (.ref 0), some (.int p1), some (.int p2), some (.int 1), some (.int p4), some (.int (x5 + 1))]) dX11_hasCommon_59 rfl rfl (Nat.le_of_ble_eq_true rfl) rfl rfl ?_
        refine V.goto (tgt := 19) dX11_hasCommon_62 (by decide) ?_
        exact ih hf hx
      · have hf := fif_t h hf
        refine V.aload_n (i := 0) dX11_hasCommon_34 rfl rfl ?_
        refine V.iload_n (i := 1) dX11_hasCommon_35 rfl rfl ?_
        refine V.iload (i := 4) dX11_hasCommon_36 rfl ?_
        obtain ⟨v3, hv3, hf⟩ := fbind hf
        refine V.callSn (pl := []) (σ' := [.inl (6, [.ref 1, .ref 2, .int M_savedMany, .ref 3, .int M_isTaken, .ref 4, .int M_length, .int M_thrown, .int M_spelt, .int M_speltMany, .int M_place, .int M_kind, .int M_one, .int M_two, .int M_three, .int M_begins, .int M_done, .int M_stopBy, .long M_hash]), .inr (406, .inl M_s), .inr (2436, .inl M_saved), .inr (406, .inl M_snapshot), .inr (60, .inl M_text)]) (st2 := [.int v3, .ref 0]) (cl2 := 0) (sl2 := 0) (ct_X11_whereIs (a0 := p1) (a1 := p4) hv3) dX11_hasCommon_38 w1147 w1148 cal_X11_whereIs ⟨⟨Nat.le_of_ble_eq_true rfl, Nat.le_of_ble_eq_true rfl⟩, Nat.le_of_ble_eq_true rfl, Nat.le_of_ble_eq_true rfl⟩ (Nat.le_of_ble_eq_true rfl) rfl ⟨rfl, ⟨by decide, by decide⟩, rfl, (fr_nil), rfl⟩ fr_i rfl rfl rfl rfl ?_
        refine V.iload_n (i := 2) dX11_hasCommon_41 rfl rfl ?_
        refine V.iload (i := 5) dX11_hasCommon_42 rfl ?_
        obtain ⟨v4, hv4, hf⟩ := fbind hf
        refine V.callSn (pl := []) (σ' := [.inl (6, [.ref 1, .ref 2, .int M_savedMany, .ref 3, .int M_isTaken, .ref 4, .int M_length, .int M_thrown, .int M_spelt, .int M_speltMany, .int M_place, .int M_kind, .int M_one, .int M_two, .int M_three, .int M_begins, .int M_done, .int M_stopBy, .long M_hash]), .inr (406, .inl M_s), .inr (2436, .inl M_saved), .inr (406, .inl M_snapshot), .inr (60, .inl M_text)]) (st2 := [.int v4, .int v3, .ref 0]) (cl2 := 0) (sl2 := 0) (ct_X11_whereIs (a0 := p2) (a1 := x5) hv4) dX11_hasCommon_44 w1147 w1148 cal_X11_whereIs ⟨⟨Nat.le_of_ble_eq_true rfl, Nat.le_of_ble_eq_true rfl⟩, Nat.le_of_ble_eq_true rfl, Nat.le_of_ble_eq_true rfl⟩ (Nat.le_of_ble_eq_true rfl) rfl ⟨rfl, ⟨by decide, by decide⟩, rfl, (fr_nil), rfl⟩ fr_i rfl rfl rfl rfl ?_
        obtain ⟨v5, hv5, hf⟩ := fbind hf
        refine V.callVn (pl := [0, 1, 2, 3, 4]) (σ' := [.inl (6, [.ref 1, .ref 2, .int M_savedMany, .ref 3, .int M_isTaken, .ref 4, .int M_length, .int M_thrown, .int M_spelt, .int M_speltMany, .int M_place, .int M_kind, .int M_one, .int M_two, .int M_three, .int M_begins, .int M_done, .int M_stopBy, .long M_hash]), .inr (406, .inl M_s), .inr (2436, .inl M_saved), .inr (406, .inl M_snapshot), .inr (60, .inl M_text)]) (st2 := [.int v5]) (cl2 := 0) (sl2 := 0) (ct_X11_readAlike (a1 := v3) (a2 := v4) (M_savedMany := M_savedMany) (M_isTaken := M_isTaken) (M_length := M_length) (M_thrown := M_thrown) (M_spelt := M_spelt) (M_speltMany := M_speltMany) (M_place := M_place) (M_kind := M_kind) (M_one := M_one) (M_two := M_two) (M_three := M_three) (M_begins := M_begins) (M_done := M_done) (M_stopBy := M_stopBy) (M_hash := M_hash) (M_s := M_s) (M_saved := M_saved) (M_snapshot := M_snapshot) (M_text := M_text) hv5) dX11_hasCommon_47 w1431 ⟨w1433, w59⟩ cal_X11_readAlike rfl ⟨⟨Nat.le_of_ble_eq_true rfl, Nat.le_of_ble_eq_true rfl⟩, Nat.le_of_ble_eq_true rfl, Nat.le_of_ble_eq_true rfl⟩ (Nat.le_of_ble_eq_true rfl) (Or.inl ⟨_, _, _, _, rfl, rfl⟩) rfl ⟨rfl, ⟨by decide, by decide⟩, rfl, (fr_cons (Or.inl (Nat.le_of_ble_eq_true rfl)) (fr_cons (Or.inl (Nat.le_of_ble_eq_true rfl)) (fr_cons (Or.inl (Nat.le_of_ble_eq_true rfl)) (fr_cons (Or.inl (Nat.le_of_ble_eq_true rfl)) (fr_nil))))), rfl⟩ fr_i rfl rfl rfl rfl ?_
        refine V.if_eq (tgt := 57) dX11_hasCommon_50 (by decide) (fun h => ?_) (fun h => ?_)
        · have hf := fif_t h hf
          refine V.iconst (v := 0) dX11_hasCommon_57 rfl ?_
          refine V.istore_n (i := 3) (L' := [some (.ref 0), some (.int p1), some (.int p2), some (.int 0), some (.int p4), some (.int x5)]) dX11_hasCommon_58 rfl (Nat.le_of_ble_eq_true rfl) rfl rfl ?_
          refine V.iinc (i := 5) (v := (x5 + 1)) (L' := [some (.ref 0), some (.int p1), some (.int p2), some (.int 0), some (.int p4), some (.int (x5 + 1))]) dX11_hasCommon_59 rfl rfl (Nat.le_of_ble_eq_true rfl) rfl rfl ?_
          refine V.goto (tgt := 19) dX11_hasCommon_62 (by decide) ?_
          exact ih hf hx
        · have hf := fif_f h hf
          refine V.iconst (v := 1) dX11_hasCommon_53 rfl ?_
          refine V.goto (tgt := 58) dX11_hasCommon_54 (by decide) ?_
          refine V.istore_n (i := 3) (L' := [some (.ref 0), some (.int p1), some (.int p2), some (.int 1), some (.int p4), some (.int x5)]) dX11_hasCommon_58 rfl (Nat.le_of_ble_eq_true rfl) rfl rfl ?_
          refine V.iinc (i := 5) (v := (x5 + 1)) (L' := [some (.ref 0), some (.int p1), some (.int p2), some (.int 1), some (.int p4), some (.int (x5 + 1))]) dX11_hasCommon_59 rfl rfl (Nat.le_of_ble_eq_true rfl) rfl rfl ?_
          refine V.goto (tgt := 19) dX11_hasCommon_62 (by decide) ?_
          exact ih hf hx
def s_X11_hasCommon_L5 (p1 : Int32) (p2 : Int32) (M_s : Nat → Int32) : Nat → Int32 → Int32 → Option (Int32 × Int32)
  | 0, _, _ => none
  | n + 1, x3, x4 => (s_X11_of p1 1 M_s).bind fun v1 => if (v1 ≤ x4 : Prop) then (some (x3, x4)) else ((s_X11_hasCommon_L19 p1 p2 x4 M_s gF x3 0).bind fun r6 => s_X11_hasCommon_L5 p1 p2 M_s n r6.1 (x4 + 1))
set_option maxHeartbeats 4000000 in
set_option maxRecDepth 100000 in
theorem v_X11_hasCommon_L5 {out : fO} {σ' : List fE} {p1 : Int32} {p2 : Int32} {M_savedMany : Int32} {M_isTaken : Int32} {M_length : Int32} {M_thrown : Int32} {M_spelt : Int32} {M_speltMany : Int32} {M_place : Int32} {M_kind : Int32} {M_one : Int32} {M_two : Int32} {M_three : Int32} {M_begins : Int32} {M_done : Int32} {M_stopBy : Int32} {M_hash : Int64} {M_s : Nat → Int32} {M_saved : Nat → Int32} {M_snapshot : Nat → Int32} {M_text : Nat → Int32} : ∀ (n : Nat) {x3 : Int32} {x4 : Int32} {res : Int32 × Int32} (hf : s_X11_hasCommon_L5 p1 p2 M_s n x3 x4 = some res) (hx : V (fXm 5 k_X11_hasCommon out σ') (krm k_X11_hasCommon) k_X11_hasCommon 5 71 [some (.ref 0), some (.int p1), some (.int p2), some (.int res.1), some (.int res.2), none] [] [.inl (6, [.ref 1, .ref 2, .int M_savedMany, .ref 3, .int M_isTaken, .ref 4, .int M_length, .int M_thrown, .int M_spelt, .int M_speltMany, .int M_place, .int M_kind, .int M_one, .int M_two, .int M_three, .int M_begins, .int M_done, .int M_stopBy, .long M_hash]), .inr (406, .inl M_s), .inr (2436, .inl M_saved), .inr (406, .inl M_snapshot), .inr (60, .inl M_text)] 0 0), V (fXm 5 k_X11_hasCommon out σ') (krm k_X11_hasCommon) k_X11_hasCommon 5 5 [some (.ref 0), some (.int p1), some (.int p2), some (.int x3), some (.int x4), none] [] [.inl (6, [.ref 1, .ref 2, .int M_savedMany, .ref 3, .int M_isTaken, .ref 4, .int M_length, .int M_thrown, .int M_spelt, .int M_speltMany, .int M_place, .int M_kind, .int M_one, .int M_two, .int M_three, .int M_begins, .int M_done, .int M_stopBy, .long M_hash]), .inr (406, .inl M_s), .inr (2436, .inl M_saved), .inr (406, .inl M_snapshot), .inr (60, .inl M_text)] 0 0 := by
  intro n
  induction n with
  | zero =>
    intro x3 x4 res hf hx
    rw [s_X11_hasCommon_L5] at hf
    cases hf
  | succ n ih =>
    intro x3 x4 res hf hx
    rw [s_X11_hasCommon_L5] at hf
    refine V.iload (i := 4) dX11_hasCommon_5 rfl ?_
    refine V.aload_n (i := 0) dX11_hasCommon_7 rfl rfl ?_
    refine V.iload_n (i := 1) dX11_hasCommon_8 rfl rfl ?_
    refine V.iconst (v := 1) dX11_hasCommon_9 rfl ?_
    obtain ⟨v1, hv1, hf⟩ := fbind hf
    refine V.callVn (pl := [0, 1, 2, 3, 4]) (σ' := [.inl (6, [.ref 1, .ref 2, .int M_savedMany, .ref 3, .int M_isTaken, .ref 4, .int M_length, .int M_thrown, .int M_spelt, .int M_speltMany, .int M_place, .int M_kind, .int M_one, .int M_two, .int M_three, .int M_begins, .int M_done, .int M_stopBy, .long M_hash]), .inr (406, .inl M_s), .inr (2436, .inl M_saved), .inr (406, .inl M_snapshot), .inr (60, .inl M_text)]) (st2 := [.int v1, .int x4]) (cl2 := 0) (sl2 := 0) (ct_X11_of (a1 := p1) (a2 := 1) (M_savedMany := M_savedMany) (M_isTaken := M_isTaken) (M_length := M_length) (M_thrown := M_thrown) (M_spelt := M_spelt) (M_speltMany := M_speltMany) (M_place := M_place) (M_kind := M_kind) (M_one := M_one) (M_two := M_two) (M_three := M_three) (M_begins := M_begins) (M_done := M_done) (M_stopBy := M_stopBy) (M_hash := M_hash) (M_s := M_s) (M_saved := M_saved) (M_snapshot := M_snapshot) (M_text := M_text) hv1) dX11_hasCommon_10 w1123 ⟨w1125, w10⟩ cal_X11_of rfl ⟨⟨Nat.le_of_ble_eq_true rfl, Nat.le_of_ble_eq_true rfl⟩, Nat.le_of_ble_eq_true rfl, Nat.le_of_ble_eq_true rfl⟩ (Nat.le_of_ble_eq_true rfl) (Or.inl ⟨_, _, _, _, rfl, rfl⟩) rfl ⟨rfl, ⟨by decide, by decide⟩, rfl, (fr_cons (Or.inl (Nat.le_of_ble_eq_true rfl)) (fr_cons (Or.inl (Nat.le_of_ble_eq_true rfl)) (fr_cons (Or.inl (Nat.le_of_ble_eq_true rfl)) (fr_cons (Or.inl (Nat.le_of_ble_eq_true rfl)) (fr_nil))))), rfl⟩ fr_i rfl rfl rfl rfl ?_
    refine V.icmp_ge (tgt := 71) dX11_hasCommon_13 (by decide) (fun h => ?_) (fun h => ?_)
    · have hf := fif_t h hf
      obtain rfl := Option.some.inj hf
      exact hx
    · have hf := fif_f h hf
      refine V.iconst (v := 0) dX11_hasCommon_16 rfl ?_
      refine V.istore (i := 5) (L' := [some (.ref 0), some (.int p1), some (.int p2), some (.int x3), some (.int x4), some (.int 0)]) dX11_hasCommon_17 (Nat.le_of_ble_eq_true rfl) rfl rfl ?_
      obtain ⟨r6, hr6, hf⟩ := fbind hf
      refine v_X11_hasCommon_L19 gF hr6 ?_
      refine V.iinc (i := 4) (v := (x4 + 1)) (L' := [some (.ref 0), some (.int p1), some (.int p2), some (.int r6.1), some (.int (x4 + 1)), some (.int r6.2)]) dX11_hasCommon_65 rfl rfl (Nat.le_of_ble_eq_true rfl) rfl rfl ?_
      refine V.goto (tgt := 5) dX11_hasCommon_68 (by decide) ?_
      exact V.locs (L' := [some (.ref 0), some (.int p1), some (.int p2), some (.int r6.1), some (.int (x4 + 1)), none]) ⟨rfl, ⟨rfl, ⟨rfl, ⟨rfl, ⟨rfl, trivial⟩⟩⟩⟩⟩ (ih hf hx)
def s_X11_hasCommon (a1 : Int32) (a2 : Int32) (M_s : Nat → Int32) : Option (Int32) := (s_X11_hasCommon_L5 a1 a2 M_s gF 0 0).bind fun r7 => fz r7.1 (some r7.1)
set_option maxHeartbeats 4000000 in
set_option maxRecDepth 100000 in
theorem ct_X11_hasCommon {a1 : Int32} {a2 : Int32} {M_savedMany : Int32} {M_isTaken : Int32} {M_length : Int32} {M_thrown : Int32} {M_spelt : Int32} {M_speltMany : Int32} {M_place : Int32} {M_kind : Int32} {M_one : Int32} {M_two : Int32} {M_three : Int32} {M_begins : Int32} {M_done : Int32} {M_stopBy : Int32} {M_hash : Int64} {M_s : Nat → Int32} {M_saved : Nat → Int32} {M_snapshot : Nat → Int32} {M_text : Nat → Int32} {res : Int32} (hf : s_X11_hasCommon a1 a2 M_s = some res) : Ct k_X11_hasCommon [.ref 0, .int a1, .int a2] [.inl (6, [.ref 1, .ref 2, .int M_savedMany, .ref 3, .int M_isTaken, .ref 4, .int M_length, .int M_thrown, .int M_spelt, .int M_speltMany, .int M_place, .int M_kind, .int M_one, .int M_two, .int M_three, .int M_begins, .int M_done, .int M_stopBy, .long M_hash]), .inr (406, .inl M_s), .inr (2436, .inl M_saved), .inr (406, .inl M_snapshot), .inr (60, .inl M_text)] (.inl (some (.int res))) [.inl (6, [.ref 1, .ref 2, .int M_savedMany, .ref 3, .int M_isTaken, .ref 4, .int M_length, .int M_thrown, .int M_spelt, .int M_speltMany, .int M_place, .int M_kind, .int M_one, .int M_two, .int M_three, .int M_begins, .int M_done, .int M_stopBy, .long M_hash]), .inr (406, .inl M_s), .inr (2436, .inl M_saved), .inr (406, .inl M_snapshot), .inr (60, .inl M_text)] := by
  unfold s_X11_hasCommon at hf
  refine Ct.of (L := [some (.ref 0), some (.int a1), some (.int a2), none, none, none]) cal_X11_hasCommon (fent_pad (j := 3) rfl) (Nat.le_of_ble_eq_true rfl) ?_
  refine V.iconst (v := 0) dX11_hasCommon_0 rfl ?_
  refine V.istore_n (i := 3) (L' := [some (.ref 0), some (.int a1), some (.int a2), some (.int 0), none, none]) dX11_hasCommon_1 rfl (Nat.le_of_ble_eq_true rfl) rfl rfl ?_
  refine V.iconst (v := 0) dX11_hasCommon_2 rfl ?_
  refine V.istore (i := 4) (L' := [some (.ref 0), some (.int a1), some (.int a2), some (.int 0), some (.int 0), none]) dX11_hasCommon_3 (Nat.le_of_ble_eq_true rfl) rfl rfl ?_
  obtain ⟨r7, hr7, hf⟩ := fbind hf
  refine v_X11_hasCommon_L5 gF hr7 ?_
  refine V.iload_n (i := 3) dX11_hasCommon_71 rfl rfl ?_
  obtain ⟨hz, hf⟩ := fz_e hf
  obtain rfl := Option.some.inj hf
  exact V.zret (v := r7.1) dX11_hasCommon_72 rfl hz (Nat.le_of_ble_eq_true rfl) (Nat.le_of_ble_eq_true rfl) rfl
def k_X11_withCommon : fK := (yX11_withCommon, cX11_withCommon, 4, (some .int), [], (5, 115), (0, 0), (0, 0))
theorem cal_X11_withCommon : fCal k_X11_withCommon 0 := ⟨⟨wc1426, w73⟩, ⟨by decide +kernel, by decide +kernel⟩, by decide +kernel, by decide +kernel⟩
def s_X11_withCommon_L11 (p2 : Int32) (M_s : Nat → Int32) : Nat → Int32 → Int32 → Option (Int32 × Int32)
  | 0, _, _ => none
  | n + 1, x1, x3 => if (5 ≤ x3 : Prop) then (some (x1, x3)) else (if (p2 = x3 : Prop) then (s_X11_withCommon_L11 p2 M_s n (x1 ||| 0) (x3 + 1)) else ((s_X11_hasCommon p2 x3 M_s).bind fun v1 => if (v1 = 0 : Prop) then (s_X11_withCommon_L11 p2 M_s n (x1 ||| 0) (x3 + 1)) else (s_X11_withCommon_L11 p2 M_s n (x1 ||| (1 <<< (p2 &&& 31))) (x3 + 1))))
set_option maxHeartbeats 4000000 in
set_option maxRecDepth 100000 in
theorem v_X11_withCommon_L11 {out : fO} {σ' : List fE} {p2 : Int32} {M_savedMany : Int32} {M_isTaken : Int32} {M_length : Int32} {M_thrown : Int32} {M_spelt : Int32} {M_speltMany : Int32} {M_place : Int32} {M_kind : Int32} {M_one : Int32} {M_two : Int32} {M_three : Int32} {M_begins : Int32} {M_done : Int32} {M_stopBy : Int32} {M_hash : Int64} {M_s : Nat → Int32} {M_saved : Nat → Int32} {M_snapshot : Nat → Int32} {M_text : Nat → Int32} : ∀ (n : Nat) {x1 : Int32} {x3 : Int32} {res : Int32 × Int32} (hf : s_X11_withCommon_L11 p2 M_s n x1 x3 = some res) (hx : V (fXm 5 k_X11_withCommon out σ') (krm k_X11_withCommon) k_X11_withCommon 5 46 [some (.ref 0), some (.int res.1), some (.int p2), some (.int res.2)] [] [.inl (6, [.ref 1, .ref 2, .int M_savedMany, .ref 3, .int M_isTaken, .ref 4, .int M_length, .int M_thrown, .int M_spelt, .int M_speltMany, .int M_place, .int M_kind, .int M_one, .int M_two, .int M_three, .int M_begins, .int M_done, .int M_stopBy, .long M_hash]), .inr (406, .inl M_s), .inr (2436, .inl M_saved), .inr (406, .inl M_snapshot), .inr (60, .inl M_text)] 0 0), V (fXm 5 k_X11_withCommon out σ') (krm k_X11_withCommon) k_X11_withCommon 5 11 [some (.ref 0), some (.int x1), some (.int p2), some (.int x3)] [] [.inl (6, [.ref 1, .ref 2, .int M_savedMany, .ref 3, .int M_isTaken, .ref 4, .int M_length, .int M_thrown, .int M_spelt, .int M_speltMany, .int M_place, .int M_kind, .int M_one, .int M_two, .int M_three, .int M_begins, .int M_done, .int M_stopBy, .long M_hash]), .inr (406, .inl M_s), .inr (2436, .inl M_saved), .inr (406, .inl M_snapshot), .inr (60, .inl M_text)] 0 0 := by
  intro n
  induction n with
  | zero =>
    intro x1 x3 res hf hx
    rw [s_X11_withCommon_L11] at hf
    cases hf
  | succ n ih =>
    intro x1 x3 res hf hx
    rw [s_X11_withCommon_L11] at hf
    refine V.iload_n (i := 3) dX11_withCommon_11 rfl rfl ?_
    refine V.iconst (v := 5) dX11_withCommon_12 rfl ?_
    refine V.icmp_ge (tgt := 46) dX11_withCommon_13 (by decide) (fun h => ?_) (fun h => ?_)
    · have hf := fif_t h hf
      obtain rfl := Option.some.inj hf
      exact hx
    · have hf := fif_f h hf
      refine V.iload_n (i := 1) dX11_withCommon_16 rfl rfl ?_
      refine V.iload_n (i := 2) dX11_withCommon_17 rfl rfl ?_
      refine V.iload_n (i := 3) dX11_withCommon_18 rfl rfl ?_
      refine V.icmp_eq (tgt := 37) dX11_withCommon_19 (by decide) (fun h => ?_) (fun h => ?_)
      · have hf := fif_t h hf
        refine V.iconst (v := 0) dX11_withCommon_37 rfl ?_
        refine V.ior dX11_withCommon_38 ?_
        refine V.istore_n (i := 1) (L' := [some (.ref 0), some (.int (x1 ||| 0)), some (.int p2), some (.int x3)]) dX11_withCommon_39 rfl (Nat.le_of_ble_eq_true rfl) rfl rfl ?_
        refine V.iinc (i := 3) (v := (x3 + 1)) (L' := [some (.ref 0), some (.int (x1 ||| 0)), some (.int p2), some (.int (x3 + 1))]) dX11_withCommon_40 rfl rfl (Nat.le_of_ble_eq_true rfl) rfl rfl ?_
        refine V.goto (tgt := 11) dX11_withCommon_43 (by decide) ?_
        exact ih hf hx
      · have hf := fif_f h hf
        refine V.aload_n (i := 0) dX11_withCommon_22 rfl rfl ?_
        refine V.iload_n (i := 2) dX11_withCommon_23 rfl rfl ?_
        refine V.iload_n (i := 3) dX11_withCommon_24 rfl rfl ?_
        obtain ⟨v1, hv1, hf⟩ := fbind hf
        refine V.callVn (pl := [0, 1, 2, 3, 4]) (σ' := [.inl (6, [.ref 1, .ref 2, .int M_savedMany, .ref 3, .int M_isTaken, .ref 4, .int M_length, .int M_thrown, .int M_spelt, .int M_speltMany, .int M_place, .int M_kind, .int M_one, .int M_two, .int M_three, .int M_begins, .int M_done, .int M_stopBy, .long M_hash]), .inr (406, .inl M_s), .inr (2436, .inl M_saved), .inr (406, .inl M_snapshot), .inr (60, .inl M_text)]) (st2 := [.int v1, .int x1]) (cl2 := 0) (sl2 := 0) (ct_X11_hasCommon (a1 := p2) (a2 := x3) (M_savedMany := M_savedMany) (M_isTaken := M_isTaken) (M_length := M_length) (M_thrown := M_thrown) (M_spelt := M_spelt) (M_speltMany := M_speltMany) (M_place := M_place) (M_kind := M_kind) (M_one := M_one) (M_two := M_two) (M_three := M_three) (M_begins := M_begins) (M_done := M_done) (M_stopBy := M_stopBy) (M_hash := M_hash) (M_s := M_s) (M_saved := M_saved) (M_snapshot := M_snapshot) (M_text := M_text) hv1) dX11_withCommon_25 w1427 ⟨w1429, w58⟩ cal_X11_hasCommon rfl ⟨⟨Nat.le_of_ble_eq_true rfl, Nat.le_of_ble_eq_true rfl⟩, Nat.le_of_ble_eq_true rfl, Nat.le_of_ble_eq_true rfl⟩ (Nat.le_of_ble_eq_true rfl) (Or.inl ⟨_, _, _, _, rfl, rfl⟩) rfl ⟨rfl, ⟨by decide, by decide⟩, rfl, (fr_cons (Or.inl (Nat.le_of_ble_eq_true rfl)) (fr_cons (Or.inl (Nat.le_of_ble_eq_true rfl)) (fr_cons (Or.inl (Nat.le_of_ble_eq_true rfl)) (fr_cons (Or.inl (Nat.le_of_ble_eq_true rfl)) (fr_nil))))), rfl⟩ fr_i rfl rfl rfl rfl ?_
        refine V.if_eq (tgt := 37) dX11_withCommon_28 (by decide) (fun h => ?_) (fun h => ?_)
        · have hf := fif_t h hf
          refine V.iconst (v := 0) dX11_withCommon_37 rfl ?_
          refine V.ior dX11_withCommon_38 ?_
          refine V.istore_n (i := 1) (L' := [some (.ref 0), some (.int (x1 ||| 0)), some (.int p2), some (.int x3)]) dX11_withCommon_39 rfl (Nat.le_of_ble_eq_true rfl) rfl rfl ?_
          refine V.iinc (i := 3) (v := (x3 + 1)) (L' := [some (.ref 0), some (.int (x1 ||| 0)), some (.int p2), some (.int (x3 + 1))]) dX11_withCommon_40 rfl rfl (Nat.le_of_ble_eq_true rfl) rfl rfl ?_
          refine V.goto (tgt := 11) dX11_withCommon_43 (by decide) ?_
          exact ih hf hx
        · have hf := fif_f h hf
          refine V.iconst (v := 1) dX11_withCommon_31 rfl ?_
          refine V.iload_n (i := 2) dX11_withCommon_32 rfl rfl ?_
          refine V.ishl dX11_withCommon_33 ?_
          refine V.goto (tgt := 38) dX11_withCommon_34 (by decide) ?_
          refine V.ior dX11_withCommon_38 ?_
          refine V.istore_n (i := 1) (L' := [some (.ref 0), some (.int (x1 ||| (1 <<< (p2 &&& 31)))), some (.int p2), some (.int x3)]) dX11_withCommon_39 rfl (Nat.le_of_ble_eq_true rfl) rfl rfl ?_
          refine V.iinc (i := 3) (v := (x3 + 1)) (L' := [some (.ref 0), some (.int (x1 ||| (1 <<< (p2 &&& 31)))), some (.int p2), some (.int (x3 + 1))]) dX11_withCommon_40 rfl rfl (Nat.le_of_ble_eq_true rfl) rfl rfl ?_
          refine V.goto (tgt := 11) dX11_withCommon_43 (by decide) ?_
          exact ih hf hx
def s_X11_withCommon_L4 (M_s : Nat → Int32) : Nat → Int32 → Int32 → Option (Int32 × Int32)
  | 0, _, _ => none
  | n + 1, x1, x2 => if (5 ≤ x2 : Prop) then (some (x1, x2)) else ((s_X11_withCommon_L11 x2 M_s gF x1 0).bind fun r2 => s_X11_withCommon_L4 M_s n r2.1 (x2 + 1))
set_option maxHeartbeats 4000000 in
set_option maxRecDepth 100000 in
theorem v_X11_withCommon_L4 {out : fO} {σ' : List fE} {M_savedMany : Int32} {M_isTaken : Int32} {M_length : Int32} {M_thrown : Int32} {M_spelt : Int32} {M_speltMany : Int32} {M_place : Int32} {M_kind : Int32} {M_one : Int32} {M_two : Int32} {M_three : Int32} {M_begins : Int32} {M_done : Int32} {M_stopBy : Int32} {M_hash : Int64} {M_s : Nat → Int32} {M_saved : Nat → Int32} {M_snapshot : Nat → Int32} {M_text : Nat → Int32} : ∀ (n : Nat) {x1 : Int32} {x2 : Int32} {res : Int32 × Int32} (hf : s_X11_withCommon_L4 M_s n x1 x2 = some res) (hx : V (fXm 5 k_X11_withCommon out σ') (krm k_X11_withCommon) k_X11_withCommon 5 52 [some (.ref 0), some (.int res.1), some (.int res.2), none] [] [.inl (6, [.ref 1, .ref 2, .int M_savedMany, .ref 3, .int M_isTaken, .ref 4, .int M_length, .int M_thrown, .int M_spelt, .int M_speltMany, .int M_place, .int M_kind, .int M_one, .int M_two, .int M_three, .int M_begins, .int M_done, .int M_stopBy, .long M_hash]), .inr (406, .inl M_s), .inr (2436, .inl M_saved), .inr (406, .inl M_snapshot), .inr (60, .inl M_text)] 0 0), V (fXm 5 k_X11_withCommon out σ') (krm k_X11_withCommon) k_X11_withCommon 5 4 [some (.ref 0), some (.int x1), some (.int x2), none] [] [.inl (6, [.ref 1, .ref 2, .int M_savedMany, .ref 3, .int M_isTaken, .ref 4, .int M_length, .int M_thrown, .int M_spelt, .int M_speltMany, .int M_place, .int M_kind, .int M_one, .int M_two, .int M_three, .int M_begins, .int M_done, .int M_stopBy, .long M_hash]), .inr (406, .inl M_s), .inr (2436, .inl M_saved), .inr (406, .inl M_snapshot), .inr (60, .inl M_text)] 0 0 := by
  intro n
  induction n with
  | zero =>
    intro x1 x2 res hf hx
    rw [s_X11_withCommon_L4] at hf
    cases hf
  | succ n ih =>
    intro x1 x2 res hf hx
    rw [s_X11_withCommon_L4] at hf
    refine V.iload_n (i := 2) dX11_withCommon_4 rfl rfl ?_
    refine V.iconst (v := 5) dX11_withCommon_5 rfl ?_
    refine V.icmp_ge (tgt := 52) dX11_withCommon_6 (by decide) (fun h => ?_) (fun h => ?_)
    · have hf := fif_t h hf
      obtain rfl := Option.some.inj hf
      exact hx
    · have hf := fif_f h hf
      refine V.iconst (v := 0) dX11_withCommon_9 rfl ?_
      refine V.istore_n (i := 3) (L' := [some (.ref 0), some (.int x1), some (.int x2), some (.int 0)]) dX11_withCommon_10 rfl (Nat.le_of_ble_eq_true rfl) rfl rfl ?_
      obtain ⟨r2, hr2, hf⟩ := fbind hf
      refine v_X11_withCommon_L11 gF hr2 ?_
      refine V.iinc (i := 2) (v := (x2 + 1)) (L' := [some (.ref 0), some (.int r2.1), some (.int (x2 + 1)), some (.int r2.2)]) dX11_withCommon_46 rfl rfl (Nat.le_of_ble_eq_true rfl) rfl rfl ?_
      refine V.goto (tgt := 4) dX11_withCommon_49 (by decide) ?_
      exact V.locs (L' := [some (.ref 0), some (.int r2.1), some (.int (x2 + 1)), none]) ⟨rfl, ⟨rfl, ⟨rfl, trivial⟩⟩⟩ (ih hf hx)
def s_X11_withCommon (M_s : Nat → Int32) : Option (Int32) := (s_X11_withCommon_L4 M_s gF 0 0).bind fun r3 => some r3.1
set_option maxHeartbeats 4000000 in
set_option maxRecDepth 100000 in
theorem ct_X11_withCommon {M_savedMany : Int32} {M_isTaken : Int32} {M_length : Int32} {M_thrown : Int32} {M_spelt : Int32} {M_speltMany : Int32} {M_place : Int32} {M_kind : Int32} {M_one : Int32} {M_two : Int32} {M_three : Int32} {M_begins : Int32} {M_done : Int32} {M_stopBy : Int32} {M_hash : Int64} {M_s : Nat → Int32} {M_saved : Nat → Int32} {M_snapshot : Nat → Int32} {M_text : Nat → Int32} {res : Int32} (hf : s_X11_withCommon M_s = some res) : Ct k_X11_withCommon [.ref 0] [.inl (6, [.ref 1, .ref 2, .int M_savedMany, .ref 3, .int M_isTaken, .ref 4, .int M_length, .int M_thrown, .int M_spelt, .int M_speltMany, .int M_place, .int M_kind, .int M_one, .int M_two, .int M_three, .int M_begins, .int M_done, .int M_stopBy, .long M_hash]), .inr (406, .inl M_s), .inr (2436, .inl M_saved), .inr (406, .inl M_snapshot), .inr (60, .inl M_text)] (.inl (some (.int res))) [.inl (6, [.ref 1, .ref 2, .int M_savedMany, .ref 3, .int M_isTaken, .ref 4, .int M_length, .int M_thrown, .int M_spelt, .int M_speltMany, .int M_place, .int M_kind, .int M_one, .int M_two, .int M_three, .int M_begins, .int M_done, .int M_stopBy, .long M_hash]), .inr (406, .inl M_s), .inr (2436, .inl M_saved), .inr (406, .inl M_snapshot), .inr (60, .inl M_text)] := by
  unfold s_X11_withCommon at hf
  refine Ct.of (L := [some (.ref 0), none, none, none]) cal_X11_withCommon (fent_pad (j := 3) rfl) (Nat.le_of_ble_eq_true rfl) ?_
  refine V.iconst (v := 0) dX11_withCommon_0 rfl ?_
  refine V.istore_n (i := 1) (L' := [some (.ref 0), some (.int 0), none, none]) dX11_withCommon_1 rfl (Nat.le_of_ble_eq_true rfl) rfl rfl ?_
  refine V.iconst (v := 0) dX11_withCommon_2 rfl ?_
  refine V.istore_n (i := 2) (L' := [some (.ref 0), some (.int 0), some (.int 0), none]) dX11_withCommon_3 rfl (Nat.le_of_ble_eq_true rfl) rfl rfl ?_
  obtain ⟨r3, hr3, hf⟩ := fbind hf
  refine v_X11_withCommon_L4 gF hr3 ?_
  refine V.iload_n (i := 1) dX11_withCommon_52 rfl rfl ?_
  obtain rfl := Option.some.inj hf
  exact V.iret dX11_withCommon_53 rfl (Nat.le_of_ble_eq_true rfl) (Nat.le_of_ble_eq_true rfl) rfl
def k_X11_countNumber : fK := (yX11_countNumber, cX11_countNumber, 2, (some .int), [], (6, 138), (0, 0), (0, 0))
theorem cal_X11_countNumber : fCal k_X11_countNumber 1 := ⟨⟨wc1410, w73⟩, ⟨by decide +kernel, by decide +kernel⟩, by decide +kernel, by decide +kernel⟩
def s_X11_countNumber (a1 : Int32) (M_savedMany : Int32) (M_s : Nat → Int32) : Option (Int32) := if (a1 = 0 : Prop) then ((s_X11_sumOf 1 M_s).bind fun v1 => some v1) else (if (a1 = 1 : Prop) then (fld 406 M_s 0 fun v2 => some v2) else (if (a1 = 2 : Prop) then ((s_X11_cordByNames M_s).bind fun v3 => some v3) else (if (a1 = 3 : Prop) then ((s_X11_cordByLetters M_s).bind fun v4 => some v4) else (if (a1 = 4 : Prop) then (fld 406 M_s 3 fun v5 => some v5) else (if (a1 = 5 : Prop) then ((s_X11_allLoosened 1 M_s).bind fun v6 => some v6) else (if (a1 = 6 : Prop) then (fld 406 M_s 1 fun v7 => some v7) else (if (a1 = 7 : Prop) then ((s_X11_sumOf 2 M_s).bind fun v8 => some v8) else (if (a1 = 8 : Prop) then ((s_X11_sumOf 3 M_s).bind fun v9 => some v9) else (if (a1 = 9 : Prop) then (fld 406 M_s 2 fun v10 => some v10) else (if (a1 = 10 : Prop) then ((s_X11_withCommon M_s).bind fun v11 => some v11) else (if (a1 = 11 : Prop) then (fld 406 M_s ((4 + a1) - 11) fun v12 => some v12) else (if (a1 = 12 : Prop) then (fld 406 M_s ((4 + a1) - 11) fun v13 => some v13) else (if (a1 = 13 : Prop) then (some M_savedMany) else (fld 406 M_s ((4 + a1) - 11) fun v14 => some v14))))))))))))))
set_option maxHeartbeats 4000000 in
set_option maxRecDepth 100000 in
theorem ct_X11_countNumber {a1 : Int32} {M_savedMany : Int32} {M_isTaken : Int32} {M_length : Int32} {M_thrown : Int32} {M_spelt : Int32} {M_speltMany : Int32} {M_place : Int32} {M_kind : Int32} {M_one : Int32} {M_two : Int32} {M_three : Int32} {M_begins : Int32} {M_done : Int32} {M_stopBy : Int32} {M_hash : Int64} {M_s : Nat → Int32} {M_saved : Nat → Int32} {M_snapshot : Nat → Int32} {M_text : Nat → Int32} {res : Int32} (hf : s_X11_countNumber a1 M_savedMany M_s = some res) : Ct k_X11_countNumber [.ref 0, .int a1] [.inl (6, [.ref 1, .ref 2, .int M_savedMany, .ref 3, .int M_isTaken, .ref 4, .int M_length, .int M_thrown, .int M_spelt, .int M_speltMany, .int M_place, .int M_kind, .int M_one, .int M_two, .int M_three, .int M_begins, .int M_done, .int M_stopBy, .long M_hash]), .inr (406, .inl M_s), .inr (2436, .inl M_saved), .inr (406, .inl M_snapshot), .inr (60, .inl M_text)] (.inl (some (.int res))) [.inl (6, [.ref 1, .ref 2, .int M_savedMany, .ref 3, .int M_isTaken, .ref 4, .int M_length, .int M_thrown, .int M_spelt, .int M_speltMany, .int M_place, .int M_kind, .int M_one, .int M_two, .int M_three, .int M_begins, .int M_done, .int M_stopBy, .long M_hash]), .inr (406, .inl M_s), .inr (2436, .inl M_saved), .inr (406, .inl M_snapshot), .inr (60, .inl M_text)] := by
  unfold s_X11_countNumber at hf
  refine Ct.of (L := [some (.ref 0), some (.int a1)]) cal_X11_countNumber (fent_pad (j := 0) rfl) (Nat.le_of_ble_eq_true rfl) ?_
  refine V.iload_n (i := 1) dX11_countNumber_0 rfl rfl ?_
  by_cases h0 : a1 = 0
  · have hf := fif_t h0 hf
    refine V.cgi h0 (V.tableIn (off := 71) (tgt := 72) dX11_countNumber_1 (by decide) (by decide) rfl (by decide) ?_)
    refine V.aload_n (i := 0) dX11_countNumber_72 rfl rfl ?_
    refine V.iconst (v := 1) dX11_countNumber_73 rfl ?_
    obtain ⟨v1, hv1, hf⟩ := fbind hf
    refine V.callVn (pl := [0, 1, 2, 3, 4]) (σ' := [.inl (6, [.ref 1, .ref 2, .int M_savedMany, .ref 3, .int M_isTaken, .ref 4, .int M_length, .int M_thrown, .int M_spelt, .int M_speltMany, .int M_place, .int M_kind, .int M_one, .int M_two, .int M_three, .int M_begins, .int M_done, .int M_stopBy, .long M_hash]), .inr (406, .inl M_s), .inr (2436, .inl M_saved), .inr (406, .inl M_snapshot), .inr (60, .inl M_text)]) (st2 := [.int v1]) (cl2 := 0) (sl2 := 0) (ct_X11_sumOf (a1 := 1) (M_savedMany := M_savedMany) (M_isTaken := M_isTaken) (M_length := M_length) (M_thrown := M_thrown) (M_spelt := M_spelt) (M_speltMany := M_speltMany) (M_place := M_place) (M_kind := M_kind) (M_one := M_one) (M_two := M_two) (M_three := M_three) (M_begins := M_begins) (M_done := M_done) (M_stopBy := M_stopBy) (M_hash := M_hash) (M_s := M_s) (M_saved := M_saved) (M_snapshot := M_snapshot) (M_text := M_text) hv1) dX11_countNumber_74 w1343 ⟨w1345, w45⟩ cal_X11_sumOf rfl ⟨⟨Nat.le_of_ble_eq_true rfl, Nat.le_of_ble_eq_true rfl⟩, Nat.le_of_ble_eq_true rfl, Nat.le_of_ble_eq_true rfl⟩ (Nat.le_of_ble_eq_true rfl) (Or.inl ⟨_, _, _, _, rfl, rfl⟩) rfl ⟨rfl, ⟨by decide, by decide⟩, rfl, (fr_cons (Or.inl (Nat.le_of_ble_eq_true rfl)) (fr_cons (Or.inl (Nat.le_of_ble_eq_true rfl)) (fr_cons (Or.inl (Nat.le_of_ble_eq_true rfl)) (fr_cons (Or.inl (Nat.le_of_ble_eq_true rfl)) (fr_nil))))), rfl⟩ fr_i rfl rfl rfl rfl ?_
    obtain rfl := Option.some.inj hf
    exact V.iret dX11_countNumber_77 rfl (Nat.le_of_ble_eq_true rfl) (Nat.le_of_ble_eq_true rfl) rfl
  · have hf := fif_f h0 hf
    by_cases h1 : a1 = 1
    · have hf := fif_t h1 hf
      refine V.cgi h1 (V.tableIn (off := 77) (tgt := 78) dX11_countNumber_1 (by decide) (by decide) rfl (by decide) ?_)
      refine V.aload_n (i := 0) dX11_countNumber_78 rfl rfl ?_
      refine V.getfield (kf := 0) (v := .ref 1) fl_RX11 dX11_countNumber_79 w1043 (Nat.le_of_ble_eq_true rfl) rfl rfl ?_
      refine V.iconst (v := 0) dX11_countNumber_82 rfl ?_
      obtain ⟨hi, v2, ev2, hf⟩ := fld_e hf
      refine V.fld dX11_countNumber_83 rfl hi ev2 ?_
      obtain rfl := Option.some.inj hf
      exact V.iret dX11_countNumber_84 rfl (Nat.le_of_ble_eq_true rfl) (Nat.le_of_ble_eq_true rfl) rfl
    · have hf := fif_f h1 hf
      by_cases h2 : a1 = 2
      · have hf := fif_t h2 hf
        refine V.cgi h2 (V.tableIn (off := 84) (tgt := 85) dX11_countNumber_1 (by decide) (by decide) rfl (by decide) ?_)
        refine V.aload_n (i := 0) dX11_countNumber_85 rfl rfl ?_
        obtain ⟨v3, hv3, hf⟩ := fbind hf
        refine V.callVn (pl := [0, 1, 2, 3, 4]) (σ' := [.inl (6, [.ref 1, .ref 2, .int M_savedMany, .ref 3, .int M_isTaken, .ref 4, .int M_length, .int M_thrown, .int M_spelt, .int M_speltMany, .int M_place, .int M_kind, .int M_one, .int M_two, .int M_three, .int M_begins, .int M_done, .int M_stopBy, .long M_hash]), .inr (406, .inl M_s), .inr (2436, .inl M_saved), .inr (406, .inl M_snapshot), .inr (60, .inl M_text)]) (st2 := [.int v3]) (cl2 := 0) (sl2 := 0) (ct_X11_cordByNames (M_savedMany := M_savedMany) (M_isTaken := M_isTaken) (M_length := M_length) (M_thrown := M_thrown) (M_spelt := M_spelt) (M_speltMany := M_speltMany) (M_place := M_place) (M_kind := M_kind) (M_one := M_one) (M_two := M_two) (M_three := M_three) (M_begins := M_begins) (M_done := M_done) (M_stopBy := M_stopBy) (M_hash := M_hash) (M_s := M_s) (M_saved := M_saved) (M_snapshot := M_snapshot) (M_text := M_text) hv3) dX11_countNumber_86 w1411 ⟨w1413, w54⟩ cal_X11_cordByNames rfl ⟨⟨Nat.le_of_ble_eq_true rfl, Nat.le_of_ble_eq_true rfl⟩, Nat.le_of_ble_eq_true rfl, Nat.le_of_ble_eq_true rfl⟩ (Nat.le_of_ble_eq_true rfl) (Or.inl ⟨_, _, _, _, rfl, rfl⟩) rfl ⟨rfl, ⟨by decide, by decide⟩, rfl, (fr_cons (Or.inl (Nat.le_of_ble_eq_true rfl)) (fr_cons (Or.inl (Nat.le_of_ble_eq_true rfl)) (fr_cons (Or.inl (Nat.le_of_ble_eq_true rfl)) (fr_cons (Or.inl (Nat.le_of_ble_eq_true rfl)) (fr_nil))))), rfl⟩ fr_i rfl rfl rfl rfl ?_
        obtain rfl := Option.some.inj hf
        exact V.iret dX11_countNumber_89 rfl (Nat.le_of_ble_eq_true rfl) (Nat.le_of_ble_eq_true rfl) rfl
      · have hf := fif_f h2 hf
        by_cases h3 : a1 = 3
        · have hf := fif_t h3 hf
          refine V.cgi h3 (V.tableIn (off := 89) (tgt := 90) dX11_countNumber_1 (by decide) (by decide) rfl (by decide) ?_)
          refine V.aload_n (i := 0) dX11_countNumber_90 rfl rfl ?_
          obtain ⟨v4, hv4, hf⟩ := fbind hf
          refine V.callVn (pl := [0, 1, 2, 3, 4]) (σ' := [.inl (6, [.ref 1, .ref 2, .int M_savedMany, .ref 3, .int M_isTaken, .ref 4, .int M_length, .int M_thrown, .int M_spelt, .int M_speltMany, .int M_place, .int M_kind, .int M_one, .int M_two, .int M_three, .int M_begins, .int M_done, .int M_stopBy, .long M_hash]), .inr (406, .inl M_s), .inr (2436, .inl M_saved), .inr (406, .inl M_snapshot), .inr (60, .inl M_text)]) (st2 := [.int v4]) (cl2 := 0) (sl2 := 0) (ct_X11_cordByLetters (M_savedMany := M_savedMany) (M_isTaken := M_isTaken) (M_length := M_length) (M_thrown := M_thrown) (M_spelt := M_spelt) (M_speltMany := M_speltMany) (M_place := M_place) (M_kind := M_kind) (M_one := M_one) (M_two := M_two) (M_three := M_three) (M_begins := M_begins) (M_done := M_done) (M_stopBy := M_stopBy) (M_hash := M_hash) (M_s := M_s) (M_saved := M_saved) (M_snapshot := M_snapshot) (M_text := M_text) hv4) dX11_countNumber_91 w1415 ⟨w1417, w55⟩ cal_X11_cordByLetters rfl ⟨⟨Nat.le_of_ble_eq_true rfl, Nat.le_of_ble_eq_true rfl⟩, Nat.le_of_ble_eq_true rfl, Nat.le_of_ble_eq_true rfl⟩ (Nat.le_of_ble_eq_true rfl) (Or.inl ⟨_, _, _, _, rfl, rfl⟩) rfl ⟨rfl, ⟨by decide, by decide⟩, rfl, (fr_cons (Or.inl (Nat.le_of_ble_eq_true rfl)) (fr_cons (Or.inl (Nat.le_of_ble_eq_true rfl)) (fr_cons (Or.inl (Nat.le_of_ble_eq_true rfl)) (fr_cons (Or.inl (Nat.le_of_ble_eq_true rfl)) (fr_nil))))), rfl⟩ fr_i rfl rfl rfl rfl ?_
          obtain rfl := Option.some.inj hf
          exact V.iret dX11_countNumber_94 rfl (Nat.le_of_ble_eq_true rfl) (Nat.le_of_ble_eq_true rfl) rfl
        · have hf := fif_f h3 hf
          by_cases h4 : a1 = 4
          · have hf := fif_t h4 hf
            refine V.cgi h4 (V.tableIn (off := 94) (tgt := 95) dX11_countNumber_1 (by decide) (by decide) rfl (by decide) ?_)
            refine V.aload_n (i := 0) dX11_countNumber_95 rfl rfl ?_
            refine V.getfield (kf := 0) (v := .ref 1) fl_RX11 dX11_countNumber_96 w1043 (Nat.le_of_ble_eq_true rfl) rfl rfl ?_
            refine V.iconst (v := 3) dX11_countNumber_99 rfl ?_
            obtain ⟨hi, v5, ev5, hf⟩ := fld_e hf
            refine V.fld dX11_countNumber_100 rfl hi ev5 ?_
            obtain rfl := Option.some.inj hf
            exact V.iret dX11_countNumber_101 rfl (Nat.le_of_ble_eq_true rfl) (Nat.le_of_ble_eq_true rfl) rfl
          · have hf := fif_f h4 hf
            by_cases h5 : a1 = 5
            · have hf := fif_t h5 hf
              refine V.cgi h5 (V.tableIn (off := 101) (tgt := 102) dX11_countNumber_1 (by decide) (by decide) rfl (by decide) ?_)
              refine V.aload_n (i := 0) dX11_countNumber_102 rfl rfl ?_
              refine V.iconst (v := 1) dX11_countNumber_103 rfl ?_
              obtain ⟨v6, hv6, hf⟩ := fbind hf
              refine V.callVn (pl := [0, 1, 2, 3, 4]) (σ' := [.inl (6, [.ref 1, .ref 2, .int M_savedMany, .ref 3, .int M_isTaken, .ref 4, .int M_length, .int M_thrown, .int M_spelt, .int M_speltMany, .int M_place, .int M_kind, .int M_one, .int M_two, .int M_three, .int M_begins, .int M_done, .int M_stopBy, .long M_hash]), .inr (406, .inl M_s), .inr (2436, .inl M_saved), .inr (406, .inl M_snapshot), .inr (60, .inl M_text)]) (st2 := [.int v6]) (cl2 := 0) (sl2 := 0) (ct_X11_allLoosened (a1 := 1) (M_savedMany := M_savedMany) (M_isTaken := M_isTaken) (M_length := M_length) (M_thrown := M_thrown) (M_spelt := M_spelt) (M_speltMany := M_speltMany) (M_place := M_place) (M_kind := M_kind) (M_one := M_one) (M_two := M_two) (M_three := M_three) (M_begins := M_begins) (M_done := M_done) (M_stopBy := M_stopBy) (M_hash := M_hash) (M_s := M_s) (M_saved := M_saved) (M_snapshot := M_snapshot) (M_text := M_text) hv6) dX11_countNumber_104 w1419 ⟨w1421, w56⟩ cal_X11_allLoosened rfl ⟨⟨Nat.le_of_ble_eq_true rfl, Nat.le_of_ble_eq_true rfl⟩, Nat.le_of_ble_eq_true rfl, Nat.le_of_ble_eq_true rfl⟩ (Nat.le_of_ble_eq_true rfl) (Or.inl ⟨_, _, _, _, rfl, rfl⟩) rfl ⟨rfl, ⟨by decide, by decide⟩, rfl, (fr_cons (Or.inl (Nat.le_of_ble_eq_true rfl)) (fr_cons (Or.inl (Nat.le_of_ble_eq_true rfl)) (fr_cons (Or.inl (Nat.le_of_ble_eq_true rfl)) (fr_cons (Or.inl (Nat.le_of_ble_eq_true rfl)) (fr_nil))))), rfl⟩ fr_i rfl rfl rfl rfl ?_
              obtain rfl := Option.some.inj hf
              exact V.iret dX11_countNumber_107 rfl (Nat.le_of_ble_eq_true rfl) (Nat.le_of_ble_eq_true rfl) rfl
            · have hf := fif_f h5 hf
              by_cases h6 : a1 = 6
              · have hf := fif_t h6 hf
                refine V.cgi h6 (V.tableIn (off := 107) (tgt := 108) dX11_countNumber_1 (by decide) (by decide) rfl (by decide) ?_)
                refine V.aload_n (i := 0) dX11_countNumber_108 rfl rfl ?_
                refine V.getfield (kf := 0) (v := .ref 1) fl_RX11 dX11_countNumber_109 w1043 (Nat.le_of_ble_eq_true rfl) rfl rfl ?_
                refine V.iconst (v := 1) dX11_countNumber_112 rfl ?_
                obtain ⟨hi, v7, ev7, hf⟩ := fld_e hf
                refine V.fld dX11_countNumber_113 rfl hi ev7 ?_
                obtain rfl := Option.some.inj hf
                exact V.iret dX11_countNumber_114 rfl (Nat.le_of_ble_eq_true rfl) (Nat.le_of_ble_eq_true rfl) rfl
              · have hf := fif_f h6 hf
                by_cases h7 : a1 = 7
                · have hf := fif_t h7 hf
                  refine V.cgi h7 (V.tableIn (off := 114) (tgt := 115) dX11_countNumber_1 (by decide) (by decide) rfl (by decide) ?_)
                  refine V.aload_n (i := 0) dX11_countNumber_115 rfl rfl ?_
                  refine V.iconst (v := 2) dX11_countNumber_116 rfl ?_
                  obtain ⟨v8, hv8, hf⟩ := fbind hf
                  refine V.callVn (pl := [0, 1, 2, 3, 4]) (σ' := [.inl (6, [.ref 1, .ref 2, .int M_savedMany, .ref 3, .int M_isTaken, .ref 4, .int M_length, .int M_thrown, .int M_spelt, .int M_speltMany, .int M_place, .int M_kind, .int M_one, .int M_two, .int M_three, .int M_begins, .int M_done, .int M_stopBy, .long M_hash]), .inr (406, .inl M_s), .inr (2436, .inl M_saved), .inr (406, .inl M_snapshot), .inr (60, .inl M_text)]) (st2 := [.int v8]) (cl2 := 0) (sl2 := 0) (ct_X11_sumOf (a1 := 2) (M_savedMany := M_savedMany) (M_isTaken := M_isTaken) (M_length := M_length) (M_thrown := M_thrown) (M_spelt := M_spelt) (M_speltMany := M_speltMany) (M_place := M_place) (M_kind := M_kind) (M_one := M_one) (M_two := M_two) (M_three := M_three) (M_begins := M_begins) (M_done := M_done) (M_stopBy := M_stopBy) (M_hash := M_hash) (M_s := M_s) (M_saved := M_saved) (M_snapshot := M_snapshot) (M_text := M_text) hv8) dX11_countNumber_117 w1343 ⟨w1345, w45⟩ cal_X11_sumOf rfl ⟨⟨Nat.le_of_ble_eq_true rfl, Nat.le_of_ble_eq_true rfl⟩, Nat.le_of_ble_eq_true rfl, Nat.le_of_ble_eq_true rfl⟩ (Nat.le_of_ble_eq_true rfl) (Or.inl ⟨_, _, _, _, rfl, rfl⟩) rfl ⟨rfl, ⟨by decide, by decide⟩, rfl, (fr_cons (Or.inl (Nat.le_of_ble_eq_true rfl)) (fr_cons (Or.inl (Nat.le_of_ble_eq_true rfl)) (fr_cons (Or.inl (Nat.le_of_ble_eq_true rfl)) (fr_cons (Or.inl (Nat.le_of_ble_eq_true rfl)) (fr_nil))))), rfl⟩ fr_i rfl rfl rfl rfl ?_
                  obtain rfl := Option.some.inj hf
                  exact V.iret dX11_countNumber_120 rfl (Nat.le_of_ble_eq_true rfl) (Nat.le_of_ble_eq_true rfl) rfl
                · have hf := fif_f h7 hf
                  by_cases h8 : a1 = 8
                  · have hf := fif_t h8 hf
                    refine V.cgi h8 (V.tableIn (off := 120) (tgt := 121) dX11_countNumber_1 (by decide) (by decide) rfl (by decide) ?_)
                    refine V.aload_n (i := 0) dX11_countNumber_121 rfl rfl ?_
                    refine V.iconst (v := 3) dX11_countNumber_122 rfl ?_
                    obtain ⟨v9, hv9, hf⟩ := fbind hf
                    refine V.callVn (pl := [0, 1, 2, 3, 4]) (σ' := [.inl (6, [.ref 1, .ref 2, .int M_savedMany, .ref 3, .int M_isTaken, .ref 4, .int M_length, .int M_thrown, .int M_spelt, .int M_speltMany, .int M_place, .int M_kind, .int M_one, .int M_two, .int M_three, .int M_begins, .int M_done, .int M_stopBy, .long M_hash]), .inr (406, .inl M_s), .inr (2436, .inl M_saved), .inr (406, .inl M_snapshot), .inr (60, .inl M_text)]) (st2 := [.int v9]) (cl2 := 0) (sl2 := 0) (ct_X11_sumOf (a1 := 3) (M_savedMany := M_savedMany) (M_isTaken := M_isTaken) (M_length := M_length) (M_thrown := M_thrown) (M_spelt := M_spelt) (M_speltMany := M_speltMany) (M_place := M_place) (M_kind := M_kind) (M_one := M_one) (M_two := M_two) (M_three := M_three) (M_begins := M_begins) (M_done := M_done) (M_stopBy := M_stopBy) (M_hash := M_hash) (M_s := M_s) (M_saved := M_saved) (M_snapshot := M_snapshot) (M_text := M_text) hv9) dX11_countNumber_123 w1343 ⟨w1345, w45⟩ cal_X11_sumOf rfl ⟨⟨Nat.le_of_ble_eq_true rfl, Nat.le_of_ble_eq_true rfl⟩, Nat.le_of_ble_eq_true rfl, Nat.le_of_ble_eq_true rfl⟩ (Nat.le_of_ble_eq_true rfl) (Or.inl ⟨_, _, _, _, rfl, rfl⟩) rfl ⟨rfl, ⟨by decide, by decide⟩, rfl, (fr_cons (Or.inl (Nat.le_of_ble_eq_true rfl)) (fr_cons (Or.inl (Nat.le_of_ble_eq_true rfl)) (fr_cons (Or.inl (Nat.le_of_ble_eq_true rfl)) (fr_cons (Or.inl (Nat.le_of_ble_eq_true rfl)) (fr_nil))))), rfl⟩ fr_i rfl rfl rfl rfl ?_
                    obtain rfl := Option.some.inj hf
                    exact V.iret dX11_countNumber_126 rfl (Nat.le_of_ble_eq_true rfl) (Nat.le_of_ble_eq_true rfl) rfl
                  · have hf := fif_f h8 hf
                    by_cases h9 : a1 = 9
                    · have hf := fif_t h9 hf
                      refine V.cgi h9 (V.tableIn (off := 126) (tgt := 127) dX11_countNumber_1 (by decide) (by decide) rfl (by decide) ?_)
                      refine V.aload_n (i := 0) dX11_countNumber_127 rfl rfl ?_
                      refine V.getfield (kf := 0) (v := .ref 1) fl_RX11 dX11_countNumber_128 w1043 (Nat.le_of_ble_eq_true rfl) rfl rfl ?_
                      refine V.iconst (v := 2) dX11_countNumber_131 rfl ?_
                      obtain ⟨hi, v10, ev10, hf⟩ := fld_e hf
                      refine V.fld dX11_countNumber_132 rfl hi ev10 ?_
                      obtain rfl := Option.some.inj hf
                      exact V.iret dX11_countNumber_133 rfl (Nat.le_of_ble_eq_true rfl) (Nat.le_of_ble_eq_true rfl) rfl
                    · have hf := fif_f h9 hf
                      by_cases h10 : a1 = 10
                      · have hf := fif_t h10 hf
                        refine V.cgi h10 (V.tableIn (off := 133) (tgt := 134) dX11_countNumber_1 (by decide) (by decide) rfl (by decide) ?_)
                        refine V.aload_n (i := 0) dX11_countNumber_134 rfl rfl ?_
                        obtain ⟨v11, hv11, hf⟩ := fbind hf
                        refine V.callVn (pl := [0, 1, 2, 3, 4]) (σ' := [.inl (6, [.ref 1, .ref 2, .int M_savedMany, .ref 3, .int M_isTaken, .ref 4, .int M_length, .int M_thrown, .int M_spelt, .int M_speltMany, .int M_place, .int M_kind, .int M_one, .int M_two, .int M_three, .int M_begins, .int M_done, .int M_stopBy, .long M_hash]), .inr (406, .inl M_s), .inr (2436, .inl M_saved), .inr (406, .inl M_snapshot), .inr (60, .inl M_text)]) (st2 := [.int v11]) (cl2 := 0) (sl2 := 0) (ct_X11_withCommon (M_savedMany := M_savedMany) (M_isTaken := M_isTaken) (M_length := M_length) (M_thrown := M_thrown) (M_spelt := M_spelt) (M_speltMany := M_speltMany) (M_place := M_place) (M_kind := M_kind) (M_one := M_one) (M_two := M_two) (M_three := M_three) (M_begins := M_begins) (M_done := M_done) (M_stopBy := M_stopBy) (M_hash := M_hash) (M_s := M_s) (M_saved := M_saved) (M_snapshot := M_snapshot) (M_text := M_text) hv11) dX11_countNumber_135 w1423 ⟨w1425, w57⟩ cal_X11_withCommon rfl ⟨⟨Nat.le_of_ble_eq_true rfl, Nat.le_of_ble_eq_true rfl⟩, Nat.le_of_ble_eq_true rfl, Nat.le_of_ble_eq_true rfl⟩ (Nat.le_of_ble_eq_true rfl) (Or.inl ⟨_, _, _, _, rfl, rfl⟩) rfl ⟨rfl, ⟨by decide, by decide⟩, rfl, (fr_cons (Or.inl (Nat.le_of_ble_eq_true rfl)) (fr_cons (Or.inl (Nat.le_of_ble_eq_true rfl)) (fr_cons (Or.inl (Nat.le_of_ble_eq_true rfl)) (fr_cons (Or.inl (Nat.le_of_ble_eq_true rfl)) (fr_nil))))), rfl⟩ fr_i rfl rfl rfl rfl ?_
                        obtain rfl := Option.some.inj hf
                        exact V.iret dX11_countNumber_138 rfl (Nat.le_of_ble_eq_true rfl) (Nat.le_of_ble_eq_true rfl) rfl
                      · have hf := fif_f h10 hf
                        by_cases h11 : a1 = 11
                        · have hf := fif_t h11 hf
                          refine V.cgi h11 (V.tableIn (off := 143) (tgt := 144) dX11_countNumber_1 (by decide) (by decide) rfl (by decide) ?_)
                          refine V.aload_n (i := 0) dX11_countNumber_144 rfl rfl ?_
                          refine V.getfield (kf := 0) (v := .ref 1) fl_RX11 dX11_countNumber_145 w1043 (Nat.le_of_ble_eq_true rfl) rfl rfl ?_
                          refine V.iconst (v := 4) dX11_countNumber_148 rfl ?_
                          refine V.iload_n (i := 1) dX11_countNumber_149 rfl rfl ?_
                          refine V.iadd dX11_countNumber_150 ?_
                          refine V.bipush (v := 11) dX11_countNumber_151 rfl ?_
                          refine V.isub dX11_countNumber_153 ?_
                          obtain ⟨hi, v12, ev12, hf⟩ := fld_e hf
                          refine V.fld dX11_countNumber_154 rfl hi ev12 ?_
                          obtain rfl := Option.some.inj hf
                          exact V.iret dX11_countNumber_155 rfl (Nat.le_of_ble_eq_true rfl) (Nat.le_of_ble_eq_true rfl) rfl
                        · have hf := fif_f h11 hf
                          by_cases h12 : a1 = 12
                          · have hf := fif_t h12 hf
                            refine V.cgi h12 (V.tableIn (off := 143) (tgt := 144) dX11_countNumber_1 (by decide) (by decide) rfl (by decide) ?_)
                            refine V.aload_n (i := 0) dX11_countNumber_144 rfl rfl ?_
                            refine V.getfield (kf := 0) (v := .ref 1) fl_RX11 dX11_countNumber_145 w1043 (Nat.le_of_ble_eq_true rfl) rfl rfl ?_
                            refine V.iconst (v := 4) dX11_countNumber_148 rfl ?_
                            refine V.iload_n (i := 1) dX11_countNumber_149 rfl rfl ?_
                            refine V.iadd dX11_countNumber_150 ?_
                            refine V.bipush (v := 11) dX11_countNumber_151 rfl ?_
                            refine V.isub dX11_countNumber_153 ?_
                            obtain ⟨hi, v13, ev13, hf⟩ := fld_e hf
                            refine V.fld dX11_countNumber_154 rfl hi ev13 ?_
                            obtain rfl := Option.some.inj hf
                            exact V.iret dX11_countNumber_155 rfl (Nat.le_of_ble_eq_true rfl) (Nat.le_of_ble_eq_true rfl) rfl
                          · have hf := fif_f h12 hf
                            by_cases h13 : a1 = 13
                            · have hf := fif_t h13 hf
                              refine V.cgi h13 (V.tableIn (off := 138) (tgt := 139) dX11_countNumber_1 (by decide) (by decide) rfl (by decide) ?_)
                              refine V.aload_n (i := 0) dX11_countNumber_139 rfl rfl ?_
                              refine V.getfield (kf := 2) (v := .int M_savedMany) fl_RX11 dX11_countNumber_140 w1045 (Nat.le_of_ble_eq_true rfl) rfl rfl ?_
                              obtain rfl := Option.some.inj hf
                              exact V.iret dX11_countNumber_143 rfl (Nat.le_of_ble_eq_true rfl) (Nat.le_of_ble_eq_true rfl) rfl
                            · have hf := fif_f h13 hf
                              refine V.tableOut (tgt := 144) dX11_countNumber_1 (by have g0 := lv_neT (a := 0) h0 (by decide); have g1 := lv_neT (a := 1) h1 (by decide); have g2 := lv_neT (a := 2) h2 (by decide); have g3 := lv_neT (a := 3) h3 (by decide); have g4 := lv_neT (a := 4) h4 (by decide); have g5 := lv_neT (a := 5) h5 (by decide); have g6 := lv_neT (a := 6) h6 (by decide); have g7 := lv_neT (a := 7) h7 (by decide); have g8 := lv_neT (a := 8) h8 (by decide); have g9 := lv_neT (a := 9) h9 (by decide); have g10 := lv_neT (a := 10) h10 (by decide); have g11 := lv_neT (a := 11) h11 (by decide); have g12 := lv_neT (a := 12) h12 (by decide); have g13 := lv_neT (a := 13) h13 (by decide); omega) (by decide) ?_
                              refine V.aload_n (i := 0) dX11_countNumber_144 rfl rfl ?_
                              refine V.getfield (kf := 0) (v := .ref 1) fl_RX11 dX11_countNumber_145 w1043 (Nat.le_of_ble_eq_true rfl) rfl rfl ?_
                              refine V.iconst (v := 4) dX11_countNumber_148 rfl ?_
                              refine V.iload_n (i := 1) dX11_countNumber_149 rfl rfl ?_
                              refine V.iadd dX11_countNumber_150 ?_
                              refine V.bipush (v := 11) dX11_countNumber_151 rfl ?_
                              refine V.isub dX11_countNumber_153 ?_
                              obtain ⟨hi, v14, ev14, hf⟩ := fld_e hf
                              refine V.fld dX11_countNumber_154 rfl hi ev14 ?_
                              obtain rfl := Option.some.inj hf
                              exact V.iret dX11_countNumber_155 rfl (Nat.le_of_ble_eq_true rfl) (Nat.le_of_ble_eq_true rfl) rfl
def k_X11_count : fK := (yX11_count, cX11_count, 2, (some .int), [], (7, 159), (0, 0), (0, 0))
theorem cal_X11_count : fCal k_X11_count 1 := ⟨⟨wc1406, w73⟩, ⟨by decide +kernel, by decide +kernel⟩, by decide +kernel, by decide +kernel⟩
def s_X11_count (a1 : Int32) (M_savedMany : Int32) (M_thrown : Int32) (M_s : Nat → Int32) : Option (Int32 × (Int32)) := (s_X11_in a1 0 13).bind fun v1 => if (v1 = 0 : Prop) then ((s_X11_holds 1 M_thrown).bind fun v2 => if (v2.1 = 0 : Prop) then (some (0, v2.2)) else ((s_X11_countNumber a1 M_savedMany M_s).bind fun v3 => some (v3, v2.2))) else ((s_X11_holds 0 M_thrown).bind fun v4 => if (v4.1 = 0 : Prop) then (some (0, v4.2)) else ((s_X11_countNumber a1 M_savedMany M_s).bind fun v5 => some (v5, v4.2)))
set_option maxHeartbeats 4000000 in
set_option maxRecDepth 100000 in
theorem ct_X11_count {a1 : Int32} {M_savedMany : Int32} {M_isTaken : Int32} {M_length : Int32} {M_thrown : Int32} {M_spelt : Int32} {M_speltMany : Int32} {M_place : Int32} {M_kind : Int32} {M_one : Int32} {M_two : Int32} {M_three : Int32} {M_begins : Int32} {M_done : Int32} {M_stopBy : Int32} {M_hash : Int64} {M_s : Nat → Int32} {M_saved : Nat → Int32} {M_snapshot : Nat → Int32} {M_text : Nat → Int32} {res : Int32 × (Int32)} (hf : s_X11_count a1 M_savedMany M_thrown M_s = some res) : Ct k_X11_count [.ref 0, .int a1] [.inl (6, [.ref 1, .ref 2, .int M_savedMany, .ref 3, .int M_isTaken, .ref 4, .int M_length, .int M_thrown, .int M_spelt, .int M_speltMany, .int M_place, .int M_kind, .int M_one, .int M_two, .int M_three, .int M_begins, .int M_done, .int M_stopBy, .long M_hash]), .inr (406, .inl M_s), .inr (2436, .inl M_saved), .inr (406, .inl M_snapshot), .inr (60, .inl M_text)] (.inl (some (.int res.1))) [.inl (6, [.ref 1, .ref 2, .int M_savedMany, .ref 3, .int M_isTaken, .ref 4, .int M_length, .int res.2, .int M_spelt, .int M_speltMany, .int M_place, .int M_kind, .int M_one, .int M_two, .int M_three, .int M_begins, .int M_done, .int M_stopBy, .long M_hash]), .inr (406, .inl M_s), .inr (2436, .inl M_saved), .inr (406, .inl M_snapshot), .inr (60, .inl M_text)] := by
  unfold s_X11_count at hf
  refine Ct.of (L := [some (.ref 0), some (.int a1)]) cal_X11_count (fent_pad (j := 0) rfl) (Nat.le_of_ble_eq_true rfl) ?_
  refine V.aload_n (i := 0) dX11_count_0 rfl rfl ?_
  refine V.iload_n (i := 1) dX11_count_1 rfl rfl ?_
  refine V.iconst (v := 0) dX11_count_2 rfl ?_
  refine V.bipush (v := 13) dX11_count_3 rfl ?_
  obtain ⟨v1, hv1, hf⟩ := fbind hf
  refine V.callSn (pl := []) (σ' := [.inl (6, [.ref 1, .ref 2, .int M_savedMany, .ref 3, .int M_isTaken, .ref 4, .int M_length, .int M_thrown, .int M_spelt, .int M_speltMany, .int M_place, .int M_kind, .int M_one, .int M_two, .int M_three, .int M_begins, .int M_done, .int M_stopBy, .long M_hash]), .inr (406, .inl M_s), .inr (2436, .inl M_saved), .inr (406, .inl M_snapshot), .inr (60, .inl M_text)]) (st2 := [.int v1, .ref 0]) (cl2 := 0) (sl2 := 0) (ct_X11_in (a0 := a1) (a1 := 0) (a2 := 13) hv1) dX11_count_5 w1113 w1114 cal_X11_in ⟨⟨Nat.le_of_ble_eq_true rfl, Nat.le_of_ble_eq_true rfl⟩, Nat.le_of_ble_eq_true rfl, Nat.le_of_ble_eq_true rfl⟩ (Nat.le_of_ble_eq_true rfl) rfl ⟨rfl, ⟨by decide, by decide⟩, rfl, (fr_nil), rfl⟩ fr_i rfl rfl rfl rfl ?_
  refine V.if_eq (tgt := 15) dX11_count_8 (by decide) (fun h => ?_) (fun h => ?_)
  · have hf := fif_t h hf
    refine V.iconst (v := 1) dX11_count_15 rfl ?_
    obtain ⟨v2, hv2, hf⟩ := fbind hf
    refine V.callVn (pl := [0, 1, 2, 3, 4]) (σ' := [.inl (6, [.ref 1, .ref 2, .int M_savedMany, .ref 3, .int M_isTaken, .ref 4, .int M_length, .int v2.2, .int M_spelt, .int M_speltMany, .int M_place, .int M_kind, .int M_one, .int M_two, .int M_three, .int M_begins, .int M_done, .int M_stopBy, .long M_hash]), .inr (406, .inl M_s), .inr (2436, .inl M_saved), .inr (406, .inl M_snapshot), .inr (60, .inl M_text)]) (st2 := [.int v2.1]) (cl2 := 0) (sl2 := 0) (ct_X11_holds (a1 := 1) (M_savedMany := M_savedMany) (M_isTaken := M_isTaken) (M_length := M_length) (M_thrown := M_thrown) (M_spelt := M_spelt) (M_speltMany := M_speltMany) (M_place := M_place) (M_kind := M_kind) (M_one := M_one) (M_two := M_two) (M_three := M_three) (M_begins := M_begins) (M_done := M_done) (M_stopBy := M_stopBy) (M_hash := M_hash) (M_s := M_s) (M_saved := M_saved) (M_snapshot := M_snapshot) (M_text := M_text) hv2) dX11_count_16 w1181 ⟨w1183, w20⟩ cal_X11_holds rfl ⟨⟨Nat.le_of_ble_eq_true rfl, Nat.le_of_ble_eq_true rfl⟩, Nat.le_of_ble_eq_true rfl, Nat.le_of_ble_eq_true rfl⟩ (Nat.le_of_ble_eq_true rfl) (Or.inl ⟨_, _, _, _, rfl, rfl⟩) rfl ⟨rfl, ⟨by decide, by decide⟩, rfl, (fr_cons (Or.inl (Nat.le_of_ble_eq_true rfl)) (fr_cons (Or.inl (Nat.le_of_ble_eq_true rfl)) (fr_cons (Or.inl (Nat.le_of_ble_eq_true rfl)) (fr_cons (Or.inl (Nat.le_of_ble_eq_true rfl)) (fr_nil))))), rfl⟩ fr_i rfl rfl rfl rfl ?_
    refine V.if_eq (tgt := 30) dX11_count_19 (by decide) (fun h => ?_) (fun h => ?_)
    · have hf := fif_t h hf
      refine V.iconst (v := 0) dX11_count_30 rfl ?_
      obtain rfl := Option.some.inj hf
      exact V.iret dX11_count_31 rfl (Nat.le_of_ble_eq_true rfl) (Nat.le_of_ble_eq_true rfl) rfl
    · have hf := fif_f h hf
      refine V.aload_n (i := 0) dX11_count_22 rfl rfl ?_
      refine V.iload_n (i := 1) dX11_count_23 rfl rfl ?_
      obtain ⟨v3, hv3, hf⟩ := fbind hf
      refine V.callVn (pl := [0, 1, 2, 3, 4]) (σ' := [.inl (6, [.ref 1, .ref 2, .int M_savedMany, .ref 3, .int M_isTaken, .ref 4, .int M_length, .int v2.2, .int M_spelt, .int M_speltMany, .int M_place, .int M_kind, .int M_one, .int M_two, .int M_three, .int M_begins, .int M_done, .int M_stopBy, .long M_hash]), .inr (406, .inl M_s), .inr (2436, .inl M_saved), .inr (406, .inl M_snapshot), .inr (60, .inl M_text)]) (st2 := [.int v3]) (cl2 := 0) (sl2 := 0) (ct_X11_countNumber (a1 := a1) (M_savedMany := M_savedMany) (M_isTaken := M_isTaken) (M_length := M_length) (M_thrown := v2.2) (M_spelt := M_spelt) (M_speltMany := M_speltMany) (M_place := M_place) (M_kind := M_kind) (M_one := M_one) (M_two := M_two) (M_three := M_three) (M_begins := M_begins) (M_done := M_done) (M_stopBy := M_stopBy) (M_hash := M_hash) (M_s := M_s) (M_saved := M_saved) (M_snapshot := M_snapshot) (M_text := M_text) hv3) dX11_count_24 w1407 ⟨w1409, w53⟩ cal_X11_countNumber rfl ⟨⟨Nat.le_of_ble_eq_true rfl, Nat.le_of_ble_eq_true rfl⟩, Nat.le_of_ble_eq_true rfl, Nat.le_of_ble_eq_true rfl⟩ (Nat.le_of_ble_eq_true rfl) (Or.inl ⟨_, _, _, _, rfl, rfl⟩) rfl ⟨rfl, ⟨by decide, by decide⟩, rfl, (fr_cons (Or.inl (Nat.le_of_ble_eq_true rfl)) (fr_cons (Or.inl (Nat.le_of_ble_eq_true rfl)) (fr_cons (Or.inl (Nat.le_of_ble_eq_true rfl)) (fr_cons (Or.inl (Nat.le_of_ble_eq_true rfl)) (fr_nil))))), rfl⟩ fr_i rfl rfl rfl rfl ?_
      refine V.goto (tgt := 31) dX11_count_27 (by decide) ?_
      obtain rfl := Option.some.inj hf
      exact V.iret dX11_count_31 rfl (Nat.le_of_ble_eq_true rfl) (Nat.le_of_ble_eq_true rfl) rfl
  · have hf := fif_f h hf
    refine V.iconst (v := 0) dX11_count_11 rfl ?_
    refine V.goto (tgt := 16) dX11_count_12 (by decide) ?_
    obtain ⟨v4, hv4, hf⟩ := fbind hf
    refine V.callVn (pl := [0, 1, 2, 3, 4]) (σ' := [.inl (6, [.ref 1, .ref 2, .int M_savedMany, .ref 3, .int M_isTaken, .ref 4, .int M_length, .int v4.2, .int M_spelt, .int M_speltMany, .int M_place, .int M_kind, .int M_one, .int M_two, .int M_three, .int M_begins, .int M_done, .int M_stopBy, .long M_hash]), .inr (406, .inl M_s), .inr (2436, .inl M_saved), .inr (406, .inl M_snapshot), .inr (60, .inl M_text)]) (st2 := [.int v4.1]) (cl2 := 0) (sl2 := 0) (ct_X11_holds (a1 := 0) (M_savedMany := M_savedMany) (M_isTaken := M_isTaken) (M_length := M_length) (M_thrown := M_thrown) (M_spelt := M_spelt) (M_speltMany := M_speltMany) (M_place := M_place) (M_kind := M_kind) (M_one := M_one) (M_two := M_two) (M_three := M_three) (M_begins := M_begins) (M_done := M_done) (M_stopBy := M_stopBy) (M_hash := M_hash) (M_s := M_s) (M_saved := M_saved) (M_snapshot := M_snapshot) (M_text := M_text) hv4) dX11_count_16 w1181 ⟨w1183, w20⟩ cal_X11_holds rfl ⟨⟨Nat.le_of_ble_eq_true rfl, Nat.le_of_ble_eq_true rfl⟩, Nat.le_of_ble_eq_true rfl, Nat.le_of_ble_eq_true rfl⟩ (Nat.le_of_ble_eq_true rfl) (Or.inl ⟨_, _, _, _, rfl, rfl⟩) rfl ⟨rfl, ⟨by decide, by decide⟩, rfl, (fr_cons (Or.inl (Nat.le_of_ble_eq_true rfl)) (fr_cons (Or.inl (Nat.le_of_ble_eq_true rfl)) (fr_cons (Or.inl (Nat.le_of_ble_eq_true rfl)) (fr_cons (Or.inl (Nat.le_of_ble_eq_true rfl)) (fr_nil))))), rfl⟩ fr_i rfl rfl rfl rfl ?_
    refine V.if_eq (tgt := 30) dX11_count_19 (by decide) (fun h => ?_) (fun h => ?_)
    · have hf := fif_t h hf
      refine V.iconst (v := 0) dX11_count_30 rfl ?_
      obtain rfl := Option.some.inj hf
      exact V.iret dX11_count_31 rfl (Nat.le_of_ble_eq_true rfl) (Nat.le_of_ble_eq_true rfl) rfl
    · have hf := fif_f h hf
      refine V.aload_n (i := 0) dX11_count_22 rfl rfl ?_
      refine V.iload_n (i := 1) dX11_count_23 rfl rfl ?_
      obtain ⟨v5, hv5, hf⟩ := fbind hf
      refine V.callVn (pl := [0, 1, 2, 3, 4]) (σ' := [.inl (6, [.ref 1, .ref 2, .int M_savedMany, .ref 3, .int M_isTaken, .ref 4, .int M_length, .int v4.2, .int M_spelt, .int M_speltMany, .int M_place, .int M_kind, .int M_one, .int M_two, .int M_three, .int M_begins, .int M_done, .int M_stopBy, .long M_hash]), .inr (406, .inl M_s), .inr (2436, .inl M_saved), .inr (406, .inl M_snapshot), .inr (60, .inl M_text)]) (st2 := [.int v5]) (cl2 := 0) (sl2 := 0) (ct_X11_countNumber (a1 := a1) (M_savedMany := M_savedMany) (M_isTaken := M_isTaken) (M_length := M_length) (M_thrown := v4.2) (M_spelt := M_spelt) (M_speltMany := M_speltMany) (M_place := M_place) (M_kind := M_kind) (M_one := M_one) (M_two := M_two) (M_three := M_three) (M_begins := M_begins) (M_done := M_done) (M_stopBy := M_stopBy) (M_hash := M_hash) (M_s := M_s) (M_saved := M_saved) (M_snapshot := M_snapshot) (M_text := M_text) hv5) dX11_count_24 w1407 ⟨w1409, w53⟩ cal_X11_countNumber rfl ⟨⟨Nat.le_of_ble_eq_true rfl, Nat.le_of_ble_eq_true rfl⟩, Nat.le_of_ble_eq_true rfl, Nat.le_of_ble_eq_true rfl⟩ (Nat.le_of_ble_eq_true rfl) (Or.inl ⟨_, _, _, _, rfl, rfl⟩) rfl ⟨rfl, ⟨by decide, by decide⟩, rfl, (fr_cons (Or.inl (Nat.le_of_ble_eq_true rfl)) (fr_cons (Or.inl (Nat.le_of_ble_eq_true rfl)) (fr_cons (Or.inl (Nat.le_of_ble_eq_true rfl)) (fr_cons (Or.inl (Nat.le_of_ble_eq_true rfl)) (fr_nil))))), rfl⟩ fr_i rfl rfl rfl rfl ?_
      refine V.goto (tgt := 31) dX11_count_27 (by decide) ?_
      obtain rfl := Option.some.inj hf
      exact V.iret dX11_count_31 rfl (Nat.le_of_ble_eq_true rfl) (Nat.le_of_ble_eq_true rfl) rfl
def k_X11_whyNot : fK := (yX11_whyNot, cX11_whyNot, 3, (some .int), [], (7, 152), (0, 0), (0, 0))
theorem cal_X11_whyNot : fCal k_X11_whyNot 1 := ⟨⟨wc1438, w73⟩, ⟨by decide +kernel, by decide +kernel⟩, by decide +kernel, by decide +kernel⟩
def s_X11_whyNot (a1 : Int32) (M_length : Int32) (M_thrown : Int32) (M_spelt : Int32) (M_speltMany : Int32) (M_s : Nat → Int32) (M_text : Nat → Int32) : Option (Int32 × (Int32) × (Int32) × (Int32)) := (s_X11_isSpelt 0 M_length M_spelt M_speltMany M_text).bind fun v1 => (s_X11_isFisher a1).bind fun v2 => if (v2 = 0 : Prop) then ((s_X11_holds 1 M_thrown).bind fun v7 => if (v7.1 = 0 : Prop) then (some (0, v7.2, v1.2.1, v1.2.2)) else ((s_X11_reason a1 v1.2.1 v1.2.2 M_s).bind fun v8 => some (v8, v7.2, v1.2.1, v1.2.2))) else (if (v1.1 = 0 : Prop) then ((s_X11_holds 2 M_thrown).bind fun v3 => if (v3.1 = 0 : Prop) then (some (0, v3.2, v1.2.1, v1.2.2)) else ((s_X11_reason a1 v1.2.1 v1.2.2 M_s).bind fun v4 => some (v4, v3.2, v1.2.1, v1.2.2))) else ((s_X11_holds 0 M_thrown).bind fun v5 => if (v5.1 = 0 : Prop) then (some (0, v5.2, v1.2.1, v1.2.2)) else ((s_X11_reason a1 v1.2.1 v1.2.2 M_s).bind fun v6 => some (v6, v5.2, v1.2.1, v1.2.2))))
set_option maxHeartbeats 4000000 in
set_option maxRecDepth 100000 in
theorem ct_X11_whyNot {a1 : Int32} {M_savedMany : Int32} {M_isTaken : Int32} {M_length : Int32} {M_thrown : Int32} {M_spelt : Int32} {M_speltMany : Int32} {M_place : Int32} {M_kind : Int32} {M_one : Int32} {M_two : Int32} {M_three : Int32} {M_begins : Int32} {M_done : Int32} {M_stopBy : Int32} {M_hash : Int64} {M_s : Nat → Int32} {M_saved : Nat → Int32} {M_snapshot : Nat → Int32} {M_text : Nat → Int32} {res : Int32 × (Int32) × (Int32) × (Int32)} (hf : s_X11_whyNot a1 M_length M_thrown M_spelt M_speltMany M_s M_text = some res) : Ct k_X11_whyNot [.ref 0, .int a1] [.inl (6, [.ref 1, .ref 2, .int M_savedMany, .ref 3, .int M_isTaken, .ref 4, .int M_length, .int M_thrown, .int M_spelt, .int M_speltMany, .int M_place, .int M_kind, .int M_one, .int M_two, .int M_three, .int M_begins, .int M_done, .int M_stopBy, .long M_hash]), .inr (406, .inl M_s), .inr (2436, .inl M_saved), .inr (406, .inl M_snapshot), .inr (60, .inl M_text)] (.inl (some (.int res.1))) [.inl (6, [.ref 1, .ref 2, .int M_savedMany, .ref 3, .int M_isTaken, .ref 4, .int M_length, .int res.2.1, .int res.2.2.1, .int res.2.2.2, .int M_place, .int M_kind, .int M_one, .int M_two, .int M_three, .int M_begins, .int M_done, .int M_stopBy, .long M_hash]), .inr (406, .inl M_s), .inr (2436, .inl M_saved), .inr (406, .inl M_snapshot), .inr (60, .inl M_text)] := by
  unfold s_X11_whyNot at hf
  refine Ct.of (L := [some (.ref 0), some (.int a1), none]) cal_X11_whyNot (fent_pad (j := 1) rfl) (Nat.le_of_ble_eq_true rfl) ?_
  refine V.aload_n (i := 0) dX11_whyNot_0 rfl rfl ?_
  refine V.iconst (v := 0) dX11_whyNot_1 rfl ?_
  refine V.aload_n (i := 0) dX11_whyNot_2 rfl rfl ?_
  refine V.getfield (kf := 6) (v := .int M_length) fl_RX11 dX11_whyNot_3 w1049 (Nat.le_of_ble_eq_true rfl) rfl rfl ?_
  obtain ⟨v1, hv1, hf⟩ := fbind hf
  refine V.callVn (pl := [0, 1, 2, 3, 4]) (σ' := [.inl (6, [.ref 1, .ref 2, .int M_savedMany, .ref 3, .int M_isTaken, .ref 4, .int M_length, .int M_thrown, .int v1.2.1, .int v1.2.2, .int M_place, .int M_kind, .int M_one, .int M_two, .int M_three, .int M_begins, .int M_done, .int M_stopBy, .long M_hash]), .inr (406, .inl M_s), .inr (2436, .inl M_saved), .inr (406, .inl M_snapshot), .inr (60, .inl M_text)]) (st2 := [.int v1.1]) (cl2 := 0) (sl2 := 0) (ct_X11_isSpelt (a1 := 0) (a2 := M_length) (M_savedMany := M_savedMany) (M_isTaken := M_isTaken) (M_length := M_length) (M_thrown := M_thrown) (M_spelt := M_spelt) (M_speltMany := M_speltMany) (M_place := M_place) (M_kind := M_kind) (M_one := M_one) (M_two := M_two) (M_three := M_three) (M_begins := M_begins) (M_done := M_done) (M_stopBy := M_stopBy) (M_hash := M_hash) (M_s := M_s) (M_saved := M_saved) (M_snapshot := M_snapshot) (M_text := M_text) hv1) dX11_whyNot_6 w1109 ⟨w1111, w8⟩ cal_X11_isSpelt rfl ⟨⟨Nat.le_of_ble_eq_true rfl, Nat.le_of_ble_eq_true rfl⟩, Nat.le_of_ble_eq_true rfl, Nat.le_of_ble_eq_true rfl⟩ (Nat.le_of_ble_eq_true rfl) (Or.inl ⟨_, _, _, _, rfl, rfl⟩) rfl ⟨rfl, ⟨by decide, by decide⟩, rfl, (fr_cons (Or.inl (Nat.le_of_ble_eq_true rfl)) (fr_cons (Or.inl (Nat.le_of_ble_eq_true rfl)) (fr_cons (Or.inl (Nat.le_of_ble_eq_true rfl)) (fr_cons (Or.inl (Nat.le_of_ble_eq_true rfl)) (fr_nil))))), rfl⟩ fr_i rfl rfl rfl rfl ?_
  refine V.istore_n (i := 2) (L' := [some (.ref 0), some (.int a1), some (.int v1.1)]) dX11_whyNot_9 rfl (Nat.le_of_ble_eq_true rfl) rfl rfl ?_
  refine V.aload_n (i := 0) dX11_whyNot_10 rfl rfl ?_
  refine V.iload_n (i := 1) dX11_whyNot_11 rfl rfl ?_
  obtain ⟨v2, hv2, hf⟩ := fbind hf
  refine V.callSn (pl := []) (σ' := [.inl (6, [.ref 1, .ref 2, .int M_savedMany, .ref 3, .int M_isTaken, .ref 4, .int M_length, .int M_thrown, .int v1.2.1, .int v1.2.2, .int M_place, .int M_kind, .int M_one, .int M_two, .int M_three, .int M_begins, .int M_done, .int M_stopBy, .long M_hash]), .inr (406, .inl M_s), .inr (2436, .inl M_saved), .inr (406, .inl M_snapshot), .inr (60, .inl M_text)]) (st2 := [.int v2, .ref 0]) (cl2 := 0) (sl2 := 0) (ct_X11_isFisher (a0 := a1) hv2) dX11_whyNot_12 w1116 w1117 cal_X11_isFisher ⟨⟨Nat.le_of_ble_eq_true rfl, Nat.le_of_ble_eq_true rfl⟩, Nat.le_of_ble_eq_true rfl, Nat.le_of_ble_eq_true rfl⟩ (Nat.le_of_ble_eq_true rfl) rfl ⟨rfl, ⟨by decide, by decide⟩, rfl, (fr_nil), rfl⟩ fr_i rfl rfl rfl rfl ?_
  refine V.if_ne (tgt := 22) dX11_whyNot_15 (by decide) (fun h => ?_) (fun h => ?_)
  · have hf := fif_f h hf
    refine V.iload_n (i := 2) dX11_whyNot_22 rfl rfl ?_
    refine V.if_eq (tgt := 30) dX11_whyNot_23 (by decide) (fun h => ?_) (fun h => ?_)
    · have hf := fif_t h hf
      refine V.iconst (v := 2) dX11_whyNot_30 rfl ?_
      obtain ⟨v3, hv3, hf⟩ := fbind hf
      refine V.callVn (pl := [0, 1, 2, 3, 4]) (σ' := [.inl (6, [.ref 1, .ref 2, .int M_savedMany, .ref 3, .int M_isTaken, .ref 4, .int M_length, .int v3.2, .int v1.2.1, .int v1.2.2, .int M_place, .int M_kind, .int M_one, .int M_two, .int M_three, .int M_begins, .int M_done, .int M_stopBy, .long M_hash]), .inr (406, .inl M_s), .inr (2436, .inl M_saved), .inr (406, .inl M_snapshot), .inr (60, .inl M_text)]) (st2 := [.int v3.1]) (cl2 := 0) (sl2 := 0) (ct_X11_holds (a1 := 2) (M_savedMany := M_savedMany) (M_isTaken := M_isTaken) (M_length := M_length) (M_thrown := M_thrown) (M_spelt := v1.2.1) (M_speltMany := v1.2.2) (M_place := M_place) (M_kind := M_kind) (M_one := M_one) (M_two := M_two) (M_three := M_three) (M_begins := M_begins) (M_done := M_done) (M_stopBy := M_stopBy) (M_hash := M_hash) (M_s := M_s) (M_saved := M_saved) (M_snapshot := M_snapshot) (M_text := M_text) hv3) dX11_whyNot_31 w1181 ⟨w1183, w20⟩ cal_X11_holds rfl ⟨⟨Nat.le_of_ble_eq_true rfl, Nat.le_of_ble_eq_true rfl⟩, Nat.le_of_ble_eq_true rfl, Nat.le_of_ble_eq_true rfl⟩ (Nat.le_of_ble_eq_true rfl) (Or.inl ⟨_, _, _, _, rfl, rfl⟩) rfl ⟨rfl, ⟨by decide, by decide⟩, rfl, (fr_cons (Or.inl (Nat.le_of_ble_eq_true rfl)) (fr_cons (Or.inl (Nat.le_of_ble_eq_true rfl)) (fr_cons (Or.inl (Nat.le_of_ble_eq_true rfl)) (fr_cons (Or.inl (Nat.le_of_ble_eq_true rfl)) (fr_nil))))), rfl⟩ fr_i rfl rfl rfl rfl ?_
      refine V.if_eq (tgt := 53) dX11_whyNot_34 (by decide) (fun h => ?_) (fun h => ?_)
      · have hf := fif_t h hf
        refine V.iconst (v := 0) dX11_whyNot_53 rfl ?_
        obtain rfl := Option.some.inj hf
        exact V.iret dX11_whyNot_54 rfl (Nat.le_of_ble_eq_true rfl) (Nat.le_of_ble_eq_true rfl) rfl
      · have hf := fif_f h hf
        refine V.aload_n (i := 0) dX11_whyNot_37 rfl rfl ?_
        refine V.iload_n (i := 1) dX11_whyNot_38 rfl rfl ?_
        refine V.aload_n (i := 0) dX11_whyNot_39 rfl rfl ?_
        refine V.getfield (kf := 8) (v := .int v1.2.1) fl_RX11 dX11_whyNot_40 w1051 (Nat.le_of_ble_eq_true rfl) rfl rfl ?_
        refine V.aload_n (i := 0) dX11_whyNot_43 rfl rfl ?_
        refine V.getfield (kf := 9) (v := .int v1.2.2) fl_RX11 dX11_whyNot_44 w1052 (Nat.le_of_ble_eq_true rfl) rfl rfl ?_
        obtain ⟨v4, hv4, hf⟩ := fbind hf
        refine V.callVn (pl := [0, 1, 2, 3, 4]) (σ' := [.inl (6, [.ref 1, .ref 2, .int M_savedMany, .ref 3, .int M_isTaken, .ref 4, .int M_length, .int v3.2, .int v1.2.1, .int v1.2.2, .int M_place, .int M_kind, .int M_one, .int M_two, .int M_three, .int M_begins, .int M_done, .int M_stopBy, .long M_hash]), .inr (406, .inl M_s), .inr (2436, .inl M_saved), .inr (406, .inl M_snapshot), .inr (60, .inl M_text)]) (st2 := [.int v4]) (cl2 := 0) (sl2 := 0) (ct_X11_reason (a1 := a1) (a2 := v1.2.1) (a3 := v1.2.2) (M_savedMany := M_savedMany) (M_isTaken := M_isTaken) (M_length := M_length) (M_thrown := v3.2) (M_spelt := v1.2.1) (M_speltMany := v1.2.2) (M_place := M_place) (M_kind := M_kind) (M_one := M_one) (M_two := M_two) (M_three := M_three) (M_begins := M_begins) (M_done := M_done) (M_stopBy := M_stopBy) (M_hash := M_hash) (M_s := M_s) (M_saved := M_saved) (M_snapshot := M_snapshot) (M_text := M_text) hv4) dX11_whyNot_47 w1119 ⟨w1121, w9⟩ cal_X11_reason rfl ⟨⟨Nat.le_of_ble_eq_true rfl, Nat.le_of_ble_eq_true rfl⟩, Nat.le_of_ble_eq_true rfl, Nat.le_of_ble_eq_true rfl⟩ (Nat.le_of_ble_eq_true rfl) (Or.inl ⟨_, _, _, _, rfl, rfl⟩) rfl ⟨rfl, ⟨by decide, by decide⟩, rfl, (fr_cons (Or.inl (Nat.le_of_ble_eq_true rfl)) (fr_cons (Or.inl (Nat.le_of_ble_eq_true rfl)) (fr_cons (Or.inl (Nat.le_of_ble_eq_true rfl)) (fr_cons (Or.inl (Nat.le_of_ble_eq_true rfl)) (fr_nil))))), rfl⟩ fr_i rfl rfl rfl rfl ?_
        refine V.goto (tgt := 54) dX11_whyNot_50 (by decide) ?_
        obtain rfl := Option.some.inj hf
        exact V.iret dX11_whyNot_54 rfl (Nat.le_of_ble_eq_true rfl) (Nat.le_of_ble_eq_true rfl) rfl
    · have hf := fif_f h hf
      refine V.iconst (v := 0) dX11_whyNot_26 rfl ?_
      refine V.goto (tgt := 31) dX11_whyNot_27 (by decide) ?_
      obtain ⟨v5, hv5, hf⟩ := fbind hf
      refine V.callVn (pl := [0, 1, 2, 3, 4]) (σ' := [.inl (6, [.ref 1, .ref 2, .int M_savedMany, .ref 3, .int M_isTaken, .ref 4, .int M_length, .int v5.2, .int v1.2.1, .int v1.2.2, .int M_place, .int M_kind, .int M_one, .int M_two, .int M_three, .int M_begins, .int M_done, .int M_stopBy, .long M_hash]), .inr (406, .inl M_s), .inr (2436, .inl M_saved), .inr (406, .inl M_snapshot), .inr (60, .inl M_text)]) (st2 := [.int v5.1]) (cl2 := 0) (sl2 := 0) (ct_X11_holds (a1 := 0) (M_savedMany := M_savedMany) (M_isTaken := M_isTaken) (M_length := M_length) (M_thrown := M_thrown) (M_spelt := v1.2.1) (M_speltMany := v1.2.2) (M_place := M_place) (M_kind := M_kind) (M_one := M_one) (M_two := M_two) (M_three := M_three) (M_begins := M_begins) (M_done := M_done) (M_stopBy := M_stopBy) (M_hash := M_hash) (M_s := M_s) (M_saved := M_saved) (M_snapshot := M_snapshot) (M_text := M_text) hv5) dX11_whyNot_31 w1181 ⟨w1183, w20⟩ cal_X11_holds rfl ⟨⟨Nat.le_of_ble_eq_true rfl, Nat.le_of_ble_eq_true rfl⟩, Nat.le_of_ble_eq_true rfl, Nat.le_of_ble_eq_true rfl⟩ (Nat.le_of_ble_eq_true rfl) (Or.inl ⟨_, _, _, _, rfl, rfl⟩) rfl ⟨rfl, ⟨by decide, by decide⟩, rfl, (fr_cons (Or.inl (Nat.le_of_ble_eq_true rfl)) (fr_cons (Or.inl (Nat.le_of_ble_eq_true rfl)) (fr_cons (Or.inl (Nat.le_of_ble_eq_true rfl)) (fr_cons (Or.inl (Nat.le_of_ble_eq_true rfl)) (fr_nil))))), rfl⟩ fr_i rfl rfl rfl rfl ?_
      refine V.if_eq (tgt := 53) dX11_whyNot_34 (by decide) (fun h => ?_) (fun h => ?_)
      · have hf := fif_t h hf
        refine V.iconst (v := 0) dX11_whyNot_53 rfl ?_
        obtain rfl := Option.some.inj hf
        exact V.iret dX11_whyNot_54 rfl (Nat.le_of_ble_eq_true rfl) (Nat.le_of_ble_eq_true rfl) rfl
      · have hf := fif_f h hf
        refine V.aload_n (i := 0) dX11_whyNot_37 rfl rfl ?_
        refine V.iload_n (i := 1) dX11_whyNot_38 rfl rfl ?_
        refine V.aload_n (i := 0) dX11_whyNot_39 rfl rfl ?_
        refine V.getfield (kf := 8) (v := .int v1.2.1) fl_RX11 dX11_whyNot_40 w1051 (Nat.le_of_ble_eq_true rfl) rfl rfl ?_
        refine V.aload_n (i := 0) dX11_whyNot_43 rfl rfl ?_
        refine V.getfield (kf := 9) (v := .int v1.2.2) fl_RX11 dX11_whyNot_44 w1052 (Nat.le_of_ble_eq_true rfl) rfl rfl ?_
        obtain ⟨v6, hv6, hf⟩ := fbind hf
        refine V.callVn (pl := [0, 1, 2, 3, 4]) (σ' := [.inl (6, [.ref 1, .ref 2, .int M_savedMany, .ref 3, .int M_isTaken, .ref 4, .int M_length, .int v5.2, .int v1.2.1, .int v1.2.2, .int M_place, .int M_kind, .int M_one, .int M_two, .int M_three, .int M_begins, .int M_done, .int M_stopBy, .long M_hash]), .inr (406, .inl M_s), .inr (2436, .inl M_saved), .inr (406, .inl M_snapshot), .inr (60, .inl M_text)]) (st2 := [.int v6]) (cl2 := 0) (sl2 := 0) (ct_X11_reason (a1 := a1) (a2 := v1.2.1) (a3 := v1.2.2) (M_savedMany := M_savedMany) (M_isTaken := M_isTaken) (M_length := M_length) (M_thrown := v5.2) (M_spelt := v1.2.1) (M_speltMany := v1.2.2) (M_place := M_place) (M_kind := M_kind) (M_one := M_one) (M_two := M_two) (M_three := M_three) (M_begins := M_begins) (M_done := M_done) (M_stopBy := M_stopBy) (M_hash := M_hash) (M_s := M_s) (M_saved := M_saved) (M_snapshot := M_snapshot) (M_text := M_text) hv6) dX11_whyNot_47 w1119 ⟨w1121, w9⟩ cal_X11_reason rfl ⟨⟨Nat.le_of_ble_eq_true rfl, Nat.le_of_ble_eq_true rfl⟩, Nat.le_of_ble_eq_true rfl, Nat.le_of_ble_eq_true rfl⟩ (Nat.le_of_ble_eq_true rfl) (Or.inl ⟨_, _, _, _, rfl, rfl⟩) rfl ⟨rfl, ⟨by decide, by decide⟩, rfl, (fr_cons (Or.inl (Nat.le_of_ble_eq_true rfl)) (fr_cons (Or.inl (Nat.le_of_ble_eq_true rfl)) (fr_cons (Or.inl (Nat.le_of_ble_eq_true rfl)) (fr_cons (Or.inl (Nat.le_of_ble_eq_true rfl)) (fr_nil))))), rfl⟩ fr_i rfl rfl rfl rfl ?_
        refine V.goto (tgt := 54) dX11_whyNot_50 (by decide) ?_
        obtain rfl := Option.some.inj hf
        exact V.iret dX11_whyNot_54 rfl (Nat.le_of_ble_eq_true rfl) (Nat.le_of_ble_eq_true rfl) rfl
  · have hf := fif_t h hf
    refine V.iconst (v := 1) dX11_whyNot_18 rfl ?_
    refine V.goto (tgt := 31) dX11_whyNot_19 (by decide) ?_
    obtain ⟨v7, hv7, hf⟩ := fbind hf
    refine V.callVn (pl := [0, 1, 2, 3, 4]) (σ' := [.inl (6, [.ref 1, .ref 2, .int M_savedMany, .ref 3, .int M_isTaken, .ref 4, .int M_length, .int v7.2, .int v1.2.1, .int v1.2.2, .int M_place, .int M_kind, .int M_one, .int M_two, .int M_three, .int M_begins, .int M_done, .int M_stopBy, .long M_hash]), .inr (406, .inl M_s), .inr (2436, .inl M_saved), .inr (406, .inl M_snapshot), .inr (60, .inl M_text)]) (st2 := [.int v7.1]) (cl2 := 0) (sl2 := 0) (ct_X11_holds (a1 := 1) (M_savedMany := M_savedMany) (M_isTaken := M_isTaken) (M_length := M_length) (M_thrown := M_thrown) (M_spelt := v1.2.1) (M_speltMany := v1.2.2) (M_place := M_place) (M_kind := M_kind) (M_one := M_one) (M_two := M_two) (M_three := M_three) (M_begins := M_begins) (M_done := M_done) (M_stopBy := M_stopBy) (M_hash := M_hash) (M_s := M_s) (M_saved := M_saved) (M_snapshot := M_snapshot) (M_text := M_text) hv7) dX11_whyNot_31 w1181 ⟨w1183, w20⟩ cal_X11_holds rfl ⟨⟨Nat.le_of_ble_eq_true rfl, Nat.le_of_ble_eq_true rfl⟩, Nat.le_of_ble_eq_true rfl, Nat.le_of_ble_eq_true rfl⟩ (Nat.le_of_ble_eq_true rfl) (Or.inl ⟨_, _, _, _, rfl, rfl⟩) rfl ⟨rfl, ⟨by decide, by decide⟩, rfl, (fr_cons (Or.inl (Nat.le_of_ble_eq_true rfl)) (fr_cons (Or.inl (Nat.le_of_ble_eq_true rfl)) (fr_cons (Or.inl (Nat.le_of_ble_eq_true rfl)) (fr_cons (Or.inl (Nat.le_of_ble_eq_true rfl)) (fr_nil))))), rfl⟩ fr_i rfl rfl rfl rfl ?_
    refine V.if_eq (tgt := 53) dX11_whyNot_34 (by decide) (fun h => ?_) (fun h => ?_)
    · have hf := fif_t h hf
      refine V.iconst (v := 0) dX11_whyNot_53 rfl ?_
      obtain rfl := Option.some.inj hf
      exact V.iret dX11_whyNot_54 rfl (Nat.le_of_ble_eq_true rfl) (Nat.le_of_ble_eq_true rfl) rfl
    · have hf := fif_f h hf
      refine V.aload_n (i := 0) dX11_whyNot_37 rfl rfl ?_
      refine V.iload_n (i := 1) dX11_whyNot_38 rfl rfl ?_
      refine V.aload_n (i := 0) dX11_whyNot_39 rfl rfl ?_
      refine V.getfield (kf := 8) (v := .int v1.2.1) fl_RX11 dX11_whyNot_40 w1051 (Nat.le_of_ble_eq_true rfl) rfl rfl ?_
      refine V.aload_n (i := 0) dX11_whyNot_43 rfl rfl ?_
      refine V.getfield (kf := 9) (v := .int v1.2.2) fl_RX11 dX11_whyNot_44 w1052 (Nat.le_of_ble_eq_true rfl) rfl rfl ?_
      obtain ⟨v8, hv8, hf⟩ := fbind hf
      refine V.callVn (pl := [0, 1, 2, 3, 4]) (σ' := [.inl (6, [.ref 1, .ref 2, .int M_savedMany, .ref 3, .int M_isTaken, .ref 4, .int M_length, .int v7.2, .int v1.2.1, .int v1.2.2, .int M_place, .int M_kind, .int M_one, .int M_two, .int M_three, .int M_begins, .int M_done, .int M_stopBy, .long M_hash]), .inr (406, .inl M_s), .inr (2436, .inl M_saved), .inr (406, .inl M_snapshot), .inr (60, .inl M_text)]) (st2 := [.int v8]) (cl2 := 0) (sl2 := 0) (ct_X11_reason (a1 := a1) (a2 := v1.2.1) (a3 := v1.2.2) (M_savedMany := M_savedMany) (M_isTaken := M_isTaken) (M_length := M_length) (M_thrown := v7.2) (M_spelt := v1.2.1) (M_speltMany := v1.2.2) (M_place := M_place) (M_kind := M_kind) (M_one := M_one) (M_two := M_two) (M_three := M_three) (M_begins := M_begins) (M_done := M_done) (M_stopBy := M_stopBy) (M_hash := M_hash) (M_s := M_s) (M_saved := M_saved) (M_snapshot := M_snapshot) (M_text := M_text) hv8) dX11_whyNot_47 w1119 ⟨w1121, w9⟩ cal_X11_reason rfl ⟨⟨Nat.le_of_ble_eq_true rfl, Nat.le_of_ble_eq_true rfl⟩, Nat.le_of_ble_eq_true rfl, Nat.le_of_ble_eq_true rfl⟩ (Nat.le_of_ble_eq_true rfl) (Or.inl ⟨_, _, _, _, rfl, rfl⟩) rfl ⟨rfl, ⟨by decide, by decide⟩, rfl, (fr_cons (Or.inl (Nat.le_of_ble_eq_true rfl)) (fr_cons (Or.inl (Nat.le_of_ble_eq_true rfl)) (fr_cons (Or.inl (Nat.le_of_ble_eq_true rfl)) (fr_cons (Or.inl (Nat.le_of_ble_eq_true rfl)) (fr_nil))))), rfl⟩ fr_i rfl rfl rfl rfl ?_
      refine V.goto (tgt := 54) dX11_whyNot_50 (by decide) ?_
      obtain rfl := Option.some.inj hf
      exact V.iret dX11_whyNot_54 rfl (Nat.le_of_ble_eq_true rfl) (Nat.le_of_ble_eq_true rfl) rfl
def k_X11_noGift : fK := (yX11_noGift, cX11_noGift, 4, (some .int), [], (8, 176), (0, 0), (0, 0))
theorem cal_X11_noGift : fCal k_X11_noGift 3 := ⟨⟨wc1442, w73⟩, ⟨by decide +kernel, by decide +kernel⟩, by decide +kernel, by decide +kernel⟩
def s_X11_noGift (a1 : Int32) (a2 : Int32) (a3 : Int32) (M_thrown : Int32) (M_s : Nat → Int32) : Option (Int32 × (Int32)) := (s_X11_isName a1 a2 M_s).bind fun v1 => if (v1 = 0 : Prop) then ((s_X11_holds 1 M_thrown).bind fun v2 => if (v2.1 = 0 : Prop) then (some (0, v2.2)) else ((s_X11_gift a1 a2 a3 M_s).bind fun v3 => some (v3, v2.2))) else ((s_X11_isFisher a3).bind fun v4 => if (v4 = 0 : Prop) then ((s_X11_holds 1 M_thrown).bind fun v5 => if (v5.1 = 0 : Prop) then (some (0, v5.2)) else ((s_X11_gift a1 a2 a3 M_s).bind fun v6 => some (v6, v5.2))) else ((s_X11_holds 0 M_thrown).bind fun v7 => if (v7.1 = 0 : Prop) then (some (0, v7.2)) else ((s_X11_gift a1 a2 a3 M_s).bind fun v8 => some (v8, v7.2))))
set_option maxHeartbeats 4000000 in
set_option maxRecDepth 100000 in
theorem ct_X11_noGift {a1 : Int32} {a2 : Int32} {a3 : Int32} {M_savedMany : Int32} {M_isTaken : Int32} {M_length : Int32} {M_thrown : Int32} {M_spelt : Int32} {M_speltMany : Int32} {M_place : Int32} {M_kind : Int32} {M_one : Int32} {M_two : Int32} {M_three : Int32} {M_begins : Int32} {M_done : Int32} {M_stopBy : Int32} {M_hash : Int64} {M_s : Nat → Int32} {M_saved : Nat → Int32} {M_snapshot : Nat → Int32} {M_text : Nat → Int32} {res : Int32 × (Int32)} (hf : s_X11_noGift a1 a2 a3 M_thrown M_s = some res) : Ct k_X11_noGift [.ref 0, .int a1, .int a2, .int a3] [.inl (6, [.ref 1, .ref 2, .int M_savedMany, .ref 3, .int M_isTaken, .ref 4, .int M_length, .int M_thrown, .int M_spelt, .int M_speltMany, .int M_place, .int M_kind, .int M_one, .int M_two, .int M_three, .int M_begins, .int M_done, .int M_stopBy, .long M_hash]), .inr (406, .inl M_s), .inr (2436, .inl M_saved), .inr (406, .inl M_snapshot), .inr (60, .inl M_text)] (.inl (some (.int res.1))) [.inl (6, [.ref 1, .ref 2, .int M_savedMany, .ref 3, .int M_isTaken, .ref 4, .int M_length, .int res.2, .int M_spelt, .int M_speltMany, .int M_place, .int M_kind, .int M_one, .int M_two, .int M_three, .int M_begins, .int M_done, .int M_stopBy, .long M_hash]), .inr (406, .inl M_s), .inr (2436, .inl M_saved), .inr (406, .inl M_snapshot), .inr (60, .inl M_text)] := by
  unfold s_X11_noGift at hf
  refine Ct.of (L := [some (.ref 0), some (.int a1), some (.int a2), some (.int a3)]) cal_X11_noGift (fent_pad (j := 0) rfl) (Nat.le_of_ble_eq_true rfl) ?_
  refine V.aload_n (i := 0) dX11_noGift_0 rfl rfl ?_
  refine V.aload_n (i := 0) dX11_noGift_1 rfl rfl ?_
  refine V.iload_n (i := 1) dX11_noGift_2 rfl rfl ?_
  refine V.iload_n (i := 2) dX11_noGift_3 rfl rfl ?_
  obtain ⟨v1, hv1, hf⟩ := fbind hf
  refine V.callVn (pl := [0, 1, 2, 3, 4]) (σ' := [.inl (6, [.ref 1, .ref 2, .int M_savedMany, .ref 3, .int M_isTaken, .ref 4, .int M_length, .int M_thrown, .int M_spelt, .int M_speltMany, .int M_place, .int M_kind, .int M_one, .int M_two, .int M_three, .int M_begins, .int M_done, .int M_stopBy, .long M_hash]), .inr (406, .inl M_s), .inr (2436, .inl M_saved), .inr (406, .inl M_snapshot), .inr (60, .inl M_text)]) (st2 := [.int v1, .ref 0]) (cl2 := 0) (sl2 := 0) (ct_X11_isName (a1 := a1) (a2 := a2) (M_savedMany := M_savedMany) (M_isTaken := M_isTaken) (M_length := M_length) (M_thrown := M_thrown) (M_spelt := M_spelt) (M_speltMany := M_speltMany) (M_place := M_place) (M_kind := M_kind) (M_one := M_one) (M_two := M_two) (M_three := M_three) (M_begins := M_begins) (M_done := M_done) (M_stopBy := M_stopBy) (M_hash := M_hash) (M_s := M_s) (M_saved := M_saved) (M_snapshot := M_snapshot) (M_text := M_text) hv1) dX11_noGift_4 w1204 ⟨w1206, w24⟩ cal_X11_isName rfl ⟨⟨Nat.le_of_ble_eq_true rfl, Nat.le_of_ble_eq_true rfl⟩, Nat.le_of_ble_eq_true rfl, Nat.le_of_ble_eq_true rfl⟩ (Nat.le_of_ble_eq_true rfl) (Or.inl ⟨_, _, _, _, rfl, rfl⟩) rfl ⟨rfl, ⟨by decide, by decide⟩, rfl, (fr_cons (Or.inl (Nat.le_of_ble_eq_true rfl)) (fr_cons (Or.inl (Nat.le_of_ble_eq_true rfl)) (fr_cons (Or.inl (Nat.le_of_ble_eq_true rfl)) (fr_cons (Or.inl (Nat.le_of_ble_eq_true rfl)) (fr_nil))))), rfl⟩ fr_i rfl rfl rfl rfl ?_
  refine V.if_eq (tgt := 21) dX11_noGift_7 (by decide) (fun h => ?_) (fun h => ?_)
  · have hf := fif_t h hf
    refine V.iconst (v := 1) dX11_noGift_21 rfl ?_
    obtain ⟨v2, hv2, hf⟩ := fbind hf
    refine V.callVn (pl := [0, 1, 2, 3, 4]) (σ' := [.inl (6, [.ref 1, .ref 2, .int M_savedMany, .ref 3, .int M_isTaken, .ref 4, .int M_length, .int v2.2, .int M_spelt, .int M_speltMany, .int M_place, .int M_kind, .int M_one, .int M_two, .int M_three, .int M_begins, .int M_done, .int M_stopBy, .long M_hash]), .inr (406, .inl M_s), .inr (2436, .inl M_saved), .inr (406, .inl M_snapshot), .inr (60, .inl M_text)]) (st2 := [.int v2.1]) (cl2 := 0) (sl2 := 0) (ct_X11_holds (a1 := 1) (M_savedMany := M_savedMany) (M_isTaken := M_isTaken) (M_length := M_length) (M_thrown := M_thrown) (M_spelt := M_spelt) (M_speltMany := M_speltMany) (M_place := M_place) (M_kind := M_kind) (M_one := M_one) (M_two := M_two) (M_three := M_three) (M_begins := M_begins) (M_done := M_done) (M_stopBy := M_stopBy) (M_hash := M_hash) (M_s := M_s) (M_saved := M_saved) (M_snapshot := M_snapshot) (M_text := M_text) hv2) dX11_noGift_22 w1181 ⟨w1183, w20⟩ cal_X11_holds rfl ⟨⟨Nat.le_of_ble_eq_true rfl, Nat.le_of_ble_eq_true rfl⟩, Nat.le_of_ble_eq_true rfl, Nat.le_of_ble_eq_true rfl⟩ (Nat.le_of_ble_eq_true rfl) (Or.inl ⟨_, _, _, _, rfl, rfl⟩) rfl ⟨rfl, ⟨by decide, by decide⟩, rfl, (fr_cons (Or.inl (Nat.le_of_ble_eq_true rfl)) (fr_cons (Or.inl (Nat.le_of_ble_eq_true rfl)) (fr_cons (Or.inl (Nat.le_of_ble_eq_true rfl)) (fr_cons (Or.inl (Nat.le_of_ble_eq_true rfl)) (fr_nil))))), rfl⟩ fr_i rfl rfl rfl rfl ?_
    refine V.if_eq (tgt := 38) dX11_noGift_25 (by decide) (fun h => ?_) (fun h => ?_)
    · have hf := fif_t h hf
      refine V.iconst (v := 0) dX11_noGift_38 rfl ?_
      obtain rfl := Option.some.inj hf
      exact V.iret dX11_noGift_39 rfl (Nat.le_of_ble_eq_true rfl) (Nat.le_of_ble_eq_true rfl) rfl
    · have hf := fif_f h hf
      refine V.aload_n (i := 0) dX11_noGift_28 rfl rfl ?_
      refine V.iload_n (i := 1) dX11_noGift_29 rfl rfl ?_
      refine V.iload_n (i := 2) dX11_noGift_30 rfl rfl ?_
      refine V.iload_n (i := 3) dX11_noGift_31 rfl rfl ?_
      obtain ⟨v3, hv3, hf⟩ := fbind hf
      refine V.callVn (pl := [0, 1, 2, 3, 4]) (σ' := [.inl (6, [.ref 1, .ref 2, .int M_savedMany, .ref 3, .int M_isTaken, .ref 4, .int M_length, .int v2.2, .int M_spelt, .int M_speltMany, .int M_place, .int M_kind, .int M_one, .int M_two, .int M_three, .int M_begins, .int M_done, .int M_stopBy, .long M_hash]), .inr (406, .inl M_s), .inr (2436, .inl M_saved), .inr (406, .inl M_snapshot), .inr (60, .inl M_text)]) (st2 := [.int v3]) (cl2 := 0) (sl2 := 0) (ct_X11_gift (a1 := a1) (a2 := a2) (a3 := a3) (M_savedMany := M_savedMany) (M_isTaken := M_isTaken) (M_length := M_length) (M_thrown := v2.2) (M_spelt := M_spelt) (M_speltMany := M_speltMany) (M_place := M_place) (M_kind := M_kind) (M_one := M_one) (M_two := M_two) (M_three := M_three) (M_begins := M_begins) (M_done := M_done) (M_stopBy := M_stopBy) (M_hash := M_hash) (M_s := M_s) (M_saved := M_saved) (M_snapshot := M_snapshot) (M_text := M_text) hv3) dX11_noGift_32 w1232 ⟨w1234, w29⟩ cal_X11_gift rfl ⟨⟨Nat.le_of_ble_eq_true rfl, Nat.le_of_ble_eq_true rfl⟩, Nat.le_of_ble_eq_true rfl, Nat.le_of_ble_eq_true rfl⟩ (Nat.le_of_ble_eq_true rfl) (Or.inl ⟨_, _, _, _, rfl, rfl⟩) rfl ⟨rfl, ⟨by decide, by decide⟩, rfl, (fr_cons (Or.inl (Nat.le_of_ble_eq_true rfl)) (fr_cons (Or.inl (Nat.le_of_ble_eq_true rfl)) (fr_cons (Or.inl (Nat.le_of_ble_eq_true rfl)) (fr_cons (Or.inl (Nat.le_of_ble_eq_true rfl)) (fr_nil))))), rfl⟩ fr_i rfl rfl rfl rfl ?_
      refine V.goto (tgt := 39) dX11_noGift_35 (by decide) ?_
      obtain rfl := Option.some.inj hf
      exact V.iret dX11_noGift_39 rfl (Nat.le_of_ble_eq_true rfl) (Nat.le_of_ble_eq_true rfl) rfl
  · have hf := fif_f h hf
    refine V.iload_n (i := 3) dX11_noGift_10 rfl rfl ?_
    obtain ⟨v4, hv4, hf⟩ := fbind hf
    refine V.callSn (pl := []) (σ' := [.inl (6, [.ref 1, .ref 2, .int M_savedMany, .ref 3, .int M_isTaken, .ref 4, .int M_length, .int M_thrown, .int M_spelt, .int M_speltMany, .int M_place, .int M_kind, .int M_one, .int M_two, .int M_three, .int M_begins, .int M_done, .int M_stopBy, .long M_hash]), .inr (406, .inl M_s), .inr (2436, .inl M_saved), .inr (406, .inl M_snapshot), .inr (60, .inl M_text)]) (st2 := [.int v4, .ref 0]) (cl2 := 0) (sl2 := 0) (ct_X11_isFisher (a0 := a3) hv4) dX11_noGift_11 w1116 w1117 cal_X11_isFisher ⟨⟨Nat.le_of_ble_eq_true rfl, Nat.le_of_ble_eq_true rfl⟩, Nat.le_of_ble_eq_true rfl, Nat.le_of_ble_eq_true rfl⟩ (Nat.le_of_ble_eq_true rfl) rfl ⟨rfl, ⟨by decide, by decide⟩, rfl, (fr_nil), rfl⟩ fr_i rfl rfl rfl rfl ?_
    refine V.if_eq (tgt := 21) dX11_noGift_14 (by decide) (fun h => ?_) (fun h => ?_)
    · have hf := fif_t h hf
      refine V.iconst (v := 1) dX11_noGift_21 rfl ?_
      obtain ⟨v5, hv5, hf⟩ := fbind hf
      refine V.callVn (pl := [0, 1, 2, 3, 4]) (σ' := [.inl (6, [.ref 1, .ref 2, .int M_savedMany, .ref 3, .int M_isTaken, .ref 4, .int M_length, .int v5.2, .int M_spelt, .int M_speltMany, .int M_place, .int M_kind, .int M_one, .int M_two, .int M_three, .int M_begins, .int M_done, .int M_stopBy, .long M_hash]), .inr (406, .inl M_s), .inr (2436, .inl M_saved), .inr (406, .inl M_snapshot), .inr (60, .inl M_text)]) (st2 := [.int v5.1]) (cl2 := 0) (sl2 := 0) (ct_X11_holds (a1 := 1) (M_savedMany := M_savedMany) (M_isTaken := M_isTaken) (M_length := M_length) (M_thrown := M_thrown) (M_spelt := M_spelt) (M_speltMany := M_speltMany) (M_place := M_place) (M_kind := M_kind) (M_one := M_one) (M_two := M_two) (M_three := M_three) (M_begins := M_begins) (M_done := M_done) (M_stopBy := M_stopBy) (M_hash := M_hash) (M_s := M_s) (M_saved := M_saved) (M_snapshot := M_snapshot) (M_text := M_text) hv5) dX11_noGift_22 w1181 ⟨w1183, w20⟩ cal_X11_holds rfl ⟨⟨Nat.le_of_ble_eq_true rfl, Nat.le_of_ble_eq_true rfl⟩, Nat.le_of_ble_eq_true rfl, Nat.le_of_ble_eq_true rfl⟩ (Nat.le_of_ble_eq_true rfl) (Or.inl ⟨_, _, _, _, rfl, rfl⟩) rfl ⟨rfl, ⟨by decide, by decide⟩, rfl, (fr_cons (Or.inl (Nat.le_of_ble_eq_true rfl)) (fr_cons (Or.inl (Nat.le_of_ble_eq_true rfl)) (fr_cons (Or.inl (Nat.le_of_ble_eq_true rfl)) (fr_cons (Or.inl (Nat.le_of_ble_eq_true rfl)) (fr_nil))))), rfl⟩ fr_i rfl rfl rfl rfl ?_
      refine V.if_eq (tgt := 38) dX11_noGift_25 (by decide) (fun h => ?_) (fun h => ?_)
      · have hf := fif_t h hf
        refine V.iconst (v := 0) dX11_noGift_38 rfl ?_
        obtain rfl := Option.some.inj hf
        exact V.iret dX11_noGift_39 rfl (Nat.le_of_ble_eq_true rfl) (Nat.le_of_ble_eq_true rfl) rfl
      · have hf := fif_f h hf
        refine V.aload_n (i := 0) dX11_noGift_28 rfl rfl ?_
        refine V.iload_n (i := 1) dX11_noGift_29 rfl rfl ?_
        refine V.iload_n (i := 2) dX11_noGift_30 rfl rfl ?_
        refine V.iload_n (i := 3) dX11_noGift_31 rfl rfl ?_
        obtain ⟨v6, hv6, hf⟩ := fbind hf
        refine V.callVn (pl := [0, 1, 2, 3, 4]) (σ' := [.inl (6, [.ref 1, .ref 2, .int M_savedMany, .ref 3, .int M_isTaken, .ref 4, .int M_length, .int v5.2, .int M_spelt, .int M_speltMany, .int M_place, .int M_kind, .int M_one, .int M_two, .int M_three, .int M_begins, .int M_done, .int M_stopBy, .long M_hash]), .inr (406, .inl M_s), .inr (2436, .inl M_saved), .inr (406, .inl M_snapshot), .inr (60, .inl M_text)]) (st2 := [.int v6]) (cl2 := 0) (sl2 := 0) (ct_X11_gift (a1 := a1) (a2 := a2) (a3 := a3) (M_savedMany := M_savedMany) (M_isTaken := M_isTaken) (M_length := M_length) (M_thrown := v5.2) (M_spelt := M_spelt) (M_speltMany := M_speltMany) (M_place := M_place) (M_kind := M_kind) (M_one := M_one) (M_two := M_two) (M_three := M_three) (M_begins := M_begins) (M_done := M_done) (M_stopBy := M_stopBy) (M_hash := M_hash) (M_s := M_s) (M_saved := M_saved) (M_snapshot := M_snapshot) (M_text := M_text) hv6) dX11_noGift_32 w1232 ⟨w1234, w29⟩ cal_X11_gift rfl ⟨⟨Nat.le_of_ble_eq_true rfl, Nat.le_of_ble_eq_true rfl⟩, Nat.le_of_ble_eq_true rfl, Nat.le_of_ble_eq_true rfl⟩ (Nat.le_of_ble_eq_true rfl) (Or.inl ⟨_, _, _, _, rfl, rfl⟩) rfl ⟨rfl, ⟨by decide, by decide⟩, rfl, (fr_cons (Or.inl (Nat.le_of_ble_eq_true rfl)) (fr_cons (Or.inl (Nat.le_of_ble_eq_true rfl)) (fr_cons (Or.inl (Nat.le_of_ble_eq_true rfl)) (fr_cons (Or.inl (Nat.le_of_ble_eq_true rfl)) (fr_nil))))), rfl⟩ fr_i rfl rfl rfl rfl ?_
        refine V.goto (tgt := 39) dX11_noGift_35 (by decide) ?_
        obtain rfl := Option.some.inj hf
        exact V.iret dX11_noGift_39 rfl (Nat.le_of_ble_eq_true rfl) (Nat.le_of_ble_eq_true rfl) rfl
    · have hf := fif_f h hf
      refine V.iconst (v := 0) dX11_noGift_17 rfl ?_
      refine V.goto (tgt := 22) dX11_noGift_18 (by decide) ?_
      obtain ⟨v7, hv7, hf⟩ := fbind hf
      refine V.callVn (pl := [0, 1, 2, 3, 4]) (σ' := [.inl (6, [.ref 1, .ref 2, .int M_savedMany, .ref 3, .int M_isTaken, .ref 4, .int M_length, .int v7.2, .int M_spelt, .int M_speltMany, .int M_place, .int M_kind, .int M_one, .int M_two, .int M_three, .int M_begins, .int M_done, .int M_stopBy, .long M_hash]), .inr (406, .inl M_s), .inr (2436, .inl M_saved), .inr (406, .inl M_snapshot), .inr (60, .inl M_text)]) (st2 := [.int v7.1]) (cl2 := 0) (sl2 := 0) (ct_X11_holds (a1 := 0) (M_savedMany := M_savedMany) (M_isTaken := M_isTaken) (M_length := M_length) (M_thrown := M_thrown) (M_spelt := M_spelt) (M_speltMany := M_speltMany) (M_place := M_place) (M_kind := M_kind) (M_one := M_one) (M_two := M_two) (M_three := M_three) (M_begins := M_begins) (M_done := M_done) (M_stopBy := M_stopBy) (M_hash := M_hash) (M_s := M_s) (M_saved := M_saved) (M_snapshot := M_snapshot) (M_text := M_text) hv7) dX11_noGift_22 w1181 ⟨w1183, w20⟩ cal_X11_holds rfl ⟨⟨Nat.le_of_ble_eq_true rfl, Nat.le_of_ble_eq_true rfl⟩, Nat.le_of_ble_eq_true rfl, Nat.le_of_ble_eq_true rfl⟩ (Nat.le_of_ble_eq_true rfl) (Or.inl ⟨_, _, _, _, rfl, rfl⟩) rfl ⟨rfl, ⟨by decide, by decide⟩, rfl, (fr_cons (Or.inl (Nat.le_of_ble_eq_true rfl)) (fr_cons (Or.inl (Nat.le_of_ble_eq_true rfl)) (fr_cons (Or.inl (Nat.le_of_ble_eq_true rfl)) (fr_cons (Or.inl (Nat.le_of_ble_eq_true rfl)) (fr_nil))))), rfl⟩ fr_i rfl rfl rfl rfl ?_
      refine V.if_eq (tgt := 38) dX11_noGift_25 (by decide) (fun h => ?_) (fun h => ?_)
      · have hf := fif_t h hf
        refine V.iconst (v := 0) dX11_noGift_38 rfl ?_
        obtain rfl := Option.some.inj hf
        exact V.iret dX11_noGift_39 rfl (Nat.le_of_ble_eq_true rfl) (Nat.le_of_ble_eq_true rfl) rfl
      · have hf := fif_f h hf
        refine V.aload_n (i := 0) dX11_noGift_28 rfl rfl ?_
        refine V.iload_n (i := 1) dX11_noGift_29 rfl rfl ?_
        refine V.iload_n (i := 2) dX11_noGift_30 rfl rfl ?_
        refine V.iload_n (i := 3) dX11_noGift_31 rfl rfl ?_
        obtain ⟨v8, hv8, hf⟩ := fbind hf
        refine V.callVn (pl := [0, 1, 2, 3, 4]) (σ' := [.inl (6, [.ref 1, .ref 2, .int M_savedMany, .ref 3, .int M_isTaken, .ref 4, .int M_length, .int v7.2, .int M_spelt, .int M_speltMany, .int M_place, .int M_kind, .int M_one, .int M_two, .int M_three, .int M_begins, .int M_done, .int M_stopBy, .long M_hash]), .inr (406, .inl M_s), .inr (2436, .inl M_saved), .inr (406, .inl M_snapshot), .inr (60, .inl M_text)]) (st2 := [.int v8]) (cl2 := 0) (sl2 := 0) (ct_X11_gift (a1 := a1) (a2 := a2) (a3 := a3) (M_savedMany := M_savedMany) (M_isTaken := M_isTaken) (M_length := M_length) (M_thrown := v7.2) (M_spelt := M_spelt) (M_speltMany := M_speltMany) (M_place := M_place) (M_kind := M_kind) (M_one := M_one) (M_two := M_two) (M_three := M_three) (M_begins := M_begins) (M_done := M_done) (M_stopBy := M_stopBy) (M_hash := M_hash) (M_s := M_s) (M_saved := M_saved) (M_snapshot := M_snapshot) (M_text := M_text) hv8) dX11_noGift_32 w1232 ⟨w1234, w29⟩ cal_X11_gift rfl ⟨⟨Nat.le_of_ble_eq_true rfl, Nat.le_of_ble_eq_true rfl⟩, Nat.le_of_ble_eq_true rfl, Nat.le_of_ble_eq_true rfl⟩ (Nat.le_of_ble_eq_true rfl) (Or.inl ⟨_, _, _, _, rfl, rfl⟩) rfl ⟨rfl, ⟨by decide, by decide⟩, rfl, (fr_cons (Or.inl (Nat.le_of_ble_eq_true rfl)) (fr_cons (Or.inl (Nat.le_of_ble_eq_true rfl)) (fr_cons (Or.inl (Nat.le_of_ble_eq_true rfl)) (fr_cons (Or.inl (Nat.le_of_ble_eq_true rfl)) (fr_nil))))), rfl⟩ fr_i rfl rfl rfl rfl ?_
        refine V.goto (tgt := 39) dX11_noGift_35 (by decide) ?_
        obtain rfl := Option.some.inj hf
        exact V.iret dX11_noGift_39 rfl (Nat.le_of_ble_eq_true rfl) (Nat.le_of_ble_eq_true rfl) rfl
def k_X11_stormNumber : fK := (yX11_stormNumber, cX11_stormNumber, 9, (some .int), [], (3, 66), (0, 0), (0, 0))
theorem cal_X11_stormNumber : fCal k_X11_stormNumber 2 := ⟨⟨wc1450, w73⟩, ⟨by decide +kernel, by decide +kernel⟩, by decide +kernel, by decide +kernel⟩
def s_X11_stormNumber_L30 (p2 : Int32) (p5 : Int32) (M_s : Nat → Int32) : Nat → Int32 → Int32 → Int32 → Option (Int32 × Int32 × Int32)
  | 0, _, _, _ => none
  | n + 1, x3, x6, x7 => (s_X11_knots p5 M_s).bind fun v3 => if (v3 ≤ x7 : Prop) then (some (x3, x6, x7)) else (fld 406 M_s 0 fun v4 => (s_X11_loosens p5 x7 (v4 + 1) M_s).bind fun v5 => if (v5 = 0 : Prop) then (if (p2 = 1 : Prop) then (fld 406 M_s ((p5 + 3) + x7) fun v7 => if ((v7 + 0) ≤ 1 : Prop) then (s_X11_stormNumber_L30 p2 p5 M_s n (x3 + 0) (x6 + 0) (x7 + 1)) else (s_X11_stormNumber_L30 p2 p5 M_s n (x3 + 0) (x6 + 1) (x7 + 1))) else (fld 406 M_s ((p5 + 3) + x7) fun v6 => if ((v6 + 0) ≤ 1 : Prop) then (s_X11_stormNumber_L30 p2 p5 M_s n (x3 + 0) (x6 + 0) (x7 + 1)) else (s_X11_stormNumber_L30 p2 p5 M_s n (x3 + 0) (x6 + 1) (x7 + 1)))) else (if (p2 = 1 : Prop) then (fld 406 M_s ((p5 + 3) + x7) fun v9 => if ((v9 + 1) ≤ 1 : Prop) then (s_X11_stormNumber_L30 p2 p5 M_s n (x3 + 1) (x6 + 0) (x7 + 1)) else (s_X11_stormNumber_L30 p2 p5 M_s n (x3 + 1) (x6 + 1) (x7 + 1))) else (fld 406 M_s ((p5 + 3) + x7) fun v8 => if ((v8 + 1) ≤ 1 : Prop) then (s_X11_stormNumber_L30 p2 p5 M_s n (x3 + 0) (x6 + 0) (x7 + 1)) else (s_X11_stormNumber_L30 p2 p5 M_s n (x3 + 0) (x6 + 1) (x7 + 1)))))
set_option maxHeartbeats 4000000 in
set_option maxRecDepth 100000 in
theorem v_X11_stormNumber_L30 {out : fO} {σ' : List fE} {p1 : Int32} {p2 : Int32} {p4 : Int32} {p5 : Int32} {M_savedMany : Int32} {M_isTaken : Int32} {M_length : Int32} {M_thrown : Int32} {M_spelt : Int32} {M_speltMany : Int32} {M_place : Int32} {M_kind : Int32} {M_one : Int32} {M_two : Int32} {M_three : Int32} {M_begins : Int32} {M_done : Int32} {M_stopBy : Int32} {M_hash : Int64} {M_s : Nat → Int32} {M_saved : Nat → Int32} {M_snapshot : Nat → Int32} {M_text : Nat → Int32} : ∀ (n : Nat) {x3 : Int32} {x6 : Int32} {x7 : Int32} {res : Int32 × Int32 × Int32} (hf : s_X11_stormNumber_L30 p2 p5 M_s n x3 x6 x7 = some res) (hx : V (fXm 5 k_X11_stormNumber out σ') (krm k_X11_stormNumber) k_X11_stormNumber 5 116 [some (.ref 0), some (.int p1), some (.int p2), some (.int res.1), some (.int p4), some (.int p5), some (.int res.2.1), some (.int res.2.2), none] [] [.inl (6, [.ref 1, .ref 2, .int M_savedMany, .ref 3, .int M_isTaken, .ref 4, .int M_length, .int M_thrown, .int M_spelt, .int M_speltMany, .int M_place, .int M_kind, .int M_one, .int M_two, .int M_three, .int M_begins, .int M_done, .int M_stopBy, .long M_hash]), .inr (406, .inl M_s), .inr (2436, .inl M_saved), .inr (406, .inl M_snapshot), .inr (60, .inl M_text)] 0 0), V (fXm 5 k_X11_stormNumber out σ') (krm k_X11_stormNumber) k_X11_stormNumber 5 30 [some (.ref 0), some (.int p1), some (.int p2), some (.int x3), some (.int p4), some (.int p5), some (.int x6), some (.int x7), none] [] [.inl (6, [.ref 1, .ref 2, .int M_savedMany, .ref 3, .int M_isTaken, .ref 4, .int M_length, .int M_thrown, .int M_spelt, .int M_speltMany, .int M_place, .int M_kind, .int M_one, .int M_two, .int M_three, .int M_begins, .int M_done, .int M_stopBy, .long M_hash]), .inr (406, .inl M_s), .inr (2436, .inl M_saved), .inr (406, .inl M_snapshot), .inr (60, .inl M_text)] 0 0 := by
  intro n
  induction n with
  | zero =>
    intro x3 x6 x7 res hf hx
    rw [s_X11_stormNumber_L30] at hf
    cases hf
  | succ n ih =>
    intro x3 x6 x7 res hf hx
    rw [s_X11_stormNumber_L30] at hf
    refine V.iload (i := 7) dX11_stormNumber_30 rfl ?_
    refine V.aload_n (i := 0) dX11_stormNumber_32 rfl rfl ?_
    refine V.iload (i := 5) dX11_stormNumber_33 rfl ?_
    obtain ⟨v3, hv3, hf⟩ := fbind hf
    refine V.callVn (pl := [0, 1, 2, 3, 4]) (σ' := [.inl (6, [.ref 1, .ref 2, .int M_savedMany, .ref 3, .int M_isTaken, .ref 4, .int M_length, .int M_thrown, .int M_spelt, .int M_speltMany, .int M_place, .int M_kind, .int M_one, .int M_two, .int M_three, .int M_begins, .int M_done, .int M_stopBy, .long M_hash]), .inr (406, .inl M_s), .inr (2436, .inl M_saved), .inr (406, .inl M_snapshot), .inr (60, .inl M_text)]) (st2 := [.int v3, .int x7]) (cl2 := 0) (sl2 := 0) (ct_X11_knots (a1 := p5) (M_savedMany := M_savedMany) (M_isTaken := M_isTaken) (M_length := M_length) (M_thrown := M_thrown) (M_spelt := M_spelt) (M_speltMany := M_speltMany) (M_place := M_place) (M_kind := M_kind) (M_one := M_one) (M_two := M_two) (M_three := M_three) (M_begins := M_begins) (M_done := M_done) (M_stopBy := M_stopBy) (M_hash := M_hash) (M_s := M_s) (M_saved := M_saved) (M_snapshot := M_snapshot) (M_text := M_text) hv3) dX11_stormNumber_35 w1154 ⟨w1156, w14⟩ cal_X11_knots rfl ⟨⟨Nat.le_of_ble_eq_true rfl, Nat.le_of_ble_eq_true rfl⟩, Nat.le_of_ble_eq_true rfl, Nat.le_of_ble_eq_true rfl⟩ (Nat.le_of_ble_eq_true rfl) (Or.inl ⟨_, _, _, _, rfl, rfl⟩) rfl ⟨rfl, ⟨by decide, by decide⟩, rfl, (fr_cons (Or.inl (Nat.le_of_ble_eq_true rfl)) (fr_cons (Or.inl (Nat.le_of_ble_eq_true rfl)) (fr_cons (Or.inl (Nat.le_of_ble_eq_true rfl)) (fr_cons (Or.inl (Nat.le_of_ble_eq_true rfl)) (fr_nil))))), rfl⟩ fr_i rfl rfl rfl rfl ?_
    refine V.icmp_ge (tgt := 116) dX11_stormNumber_38 (by decide) (fun h => ?_) (fun h => ?_)
    · have hf := fif_t h hf
      obtain rfl := Option.some.inj hf
      exact hx
    · have hf := fif_f h hf
      refine V.aload_n (i := 0) dX11_stormNumber_41 rfl rfl ?_
      refine V.iload (i := 5) dX11_stormNumber_42 rfl ?_
      refine V.iload (i := 7) dX11_stormNumber_44 rfl ?_
      refine V.aload_n (i := 0) dX11_stormNumber_46 rfl rfl ?_
      refine V.getfield (kf := 0) (v := .ref 1) fl_RX11 dX11_stormNumber_47 w1043 (Nat.le_of_ble_eq_true rfl) rfl rfl ?_
      refine V.iconst (v := 0) dX11_stormNumber_50 rfl ?_
      obtain ⟨hi, v4, ev4, hf⟩ := fld_e hf
      refine V.fld dX11_stormNumber_51 rfl hi ev4 ?_
      refine V.iconst (v := 1) dX11_stormNumber_52 rfl ?_
      refine V.iadd dX11_stormNumber_53 ?_
      obtain ⟨v5, hv5, hf⟩ := fbind hf
      refine V.callVn (pl := [0, 1, 2, 3, 4]) (σ' := [.inl (6, [.ref 1, .ref 2, .int M_savedMany, .ref 3, .int M_isTaken, .ref 4, .int M_length, .int M_thrown, .int M_spelt, .int M_speltMany, .int M_place, .int M_kind, .int M_one, .int M_two, .int M_three, .int M_begins, .int M_done, .int M_stopBy, .long M_hash]), .inr (406, .inl M_s), .inr (2436, .inl M_saved), .inr (406, .inl M_snapshot), .inr (60, .inl M_text)]) (st2 := [.int v5]) (cl2 := 0) (sl2 := 0) (ct_X11_loosens (a1 := p5) (a2 := x7) (a3 := (v4 + 1)) (M_savedMany := M_savedMany) (M_isTaken := M_isTaken) (M_length := M_length) (M_thrown := M_thrown) (M_spelt := M_spelt) (M_speltMany := M_speltMany) (M_place := M_place) (M_kind := M_kind) (M_one := M_one) (M_two := M_two) (M_three := M_three) (M_begins := M_begins) (M_done := M_done) (M_stopBy := M_stopBy) (M_hash := M_hash) (M_s := M_s) (M_saved := M_saved) (M_snapshot := M_snapshot) (M_text := M_text) hv5) dX11_stormNumber_54 w1248 ⟨w1250, w32⟩ cal_X11_loosens rfl ⟨⟨Nat.le_of_ble_eq_true rfl, Nat.le_of_ble_eq_true rfl⟩, Nat.le_of_ble_eq_true rfl, Nat.le_of_ble_eq_true rfl⟩ (Nat.le_of_ble_eq_true rfl) (Or.inl ⟨_, _, _, _, rfl, rfl⟩) rfl ⟨rfl, ⟨by decide, by decide⟩, rfl, (fr_cons (Or.inl (Nat.le_of_ble_eq_true rfl)) (fr_cons (Or.inl (Nat.le_of_ble_eq_true rfl)) (fr_cons (Or.inl (Nat.le_of_ble_eq_true rfl)) (fr_cons (Or.inl (Nat.le_of_ble_eq_true rfl)) (fr_nil))))), rfl⟩ fr_i rfl rfl rfl rfl ?_
      refine V.if_eq (tgt := 64) dX11_stormNumber_57 (by decide) (fun h => ?_) (fun h => ?_)
      · have hf := fif_t h hf
        refine V.iconst (v := 0) dX11_stormNumber_64 rfl ?_
        refine V.istore (i := 8) (L' := [some (.ref 0), some (.int p1), some (.int p2), some (.int x3), some (.int p4), some (.int p5), some (.int x6), some (.int x7), some (.int 0)]) dX11_stormNumber_65 (Nat.le_of_ble_eq_true rfl) rfl rfl ?_
        refine V.iload_n (i := 3) dX11_stormNumber_67 rfl rfl ?_
        refine V.iload_n (i := 2) dX11_stormNumber_68 rfl rfl ?_
        refine V.iconst (v := 1) dX11_stormNumber_69 rfl ?_
        refine V.icmp_ne (tgt := 78) dX11_stormNumber_70 (by decide) (fun h => ?_) (fun h => ?_)
        · have hf := fif_f h hf
          refine V.iconst (v := 0) dX11_stormNumber_78 rfl ?_
          refine V.iadd dX11_stormNumber_79 ?_
          refine V.istore_n (i := 3) (L' := [some (.ref 0), some (.int p1), some (.int p2), some (.int (x3 + 0)), some (.int p4), some (.int p5), some (.int x6), some (.int x7), some (.int 0)]) dX11_stormNumber_80 rfl (Nat.le_of_ble_eq_true rfl) rfl rfl ?_
          refine V.iload (i := 6) dX11_stormNumber_81 rfl ?_
          refine V.aload_n (i := 0) dX11_stormNumber_83 rfl rfl ?_
          refine V.getfield (kf := 0) (v := .ref 1) fl_RX11 dX11_stormNumber_84 w1043 (Nat.le_of_ble_eq_true rfl) rfl rfl ?_
          refine V.iload (i := 5) dX11_stormNumber_87 rfl ?_
          refine V.iconst (v := 3) dX11_stormNumber_89 rfl ?_
          refine V.iadd dX11_stormNumber_90 ?_
          refine V.iload (i := 7) dX11_stormNumber_91 rfl ?_
          refine V.iadd dX11_stormNumber_93 ?_
          obtain ⟨hi, v6, ev6, hf⟩ := fld_e hf
          refine V.fld dX11_stormNumber_94 rfl hi ev6 ?_
          refine V.iload (i := 8) dX11_stormNumber_95 rfl ?_
          refine V.iadd dX11_stormNumber_97 ?_
          refine V.iconst (v := 1) dX11_stormNumber_98 rfl ?_
          refine V.icmp_le (tgt := 106) dX11_stormNumber_99 (by decide) (fun h => ?_) (fun h => ?_)
          · have hf := fif_t h hf
            refine V.iconst (v := 0) dX11_stormNumber_106 rfl ?_
            refine V.iadd dX11_stormNumber_107 ?_
            refine V.istore (i := 6) (L' := [some (.ref 0), some (.int p1), some (.int p2), some (.int (x3 + 0)), some (.int p4), some (.int p5), some (.int (x6 + 0)), some (.int x7), some (.int 0)]) dX11_stormNumber_108 (Nat.le_of_ble_eq_true rfl) rfl rfl ?_
            refine V.iinc (i := 7) (v := (x7 + 1)) (L' := [some (.ref 0), some (.int p1), some (.int p2), some (.int (x3 + 0)), some (.int p4), some (.int p5), some (.int (x6 + 0)), some (.int (x7 + 1)), some (.int 0)]) dX11_stormNumber_110 rfl rfl (Nat.le_of_ble_eq_true rfl) rfl rfl ?_
            refine V.goto (tgt := 30) dX11_stormNumber_113 (by decide) ?_
            exact V.locs (L' := [some (.ref 0), some (.int p1), some (.int p2), some (.int (x3 + 0)), some (.int p4), some (.int p5), some (.int (x6 + 0)), some (.int (x7 + 1)), none]) ⟨rfl, ⟨rfl, ⟨rfl, ⟨rfl, ⟨rfl, ⟨rfl, ⟨rfl, ⟨rfl, trivial⟩⟩⟩⟩⟩⟩⟩⟩ (ih hf hx)
          · have hf := fif_f h hf
            refine V.iconst (v := 1) dX11_stormNumber_102 rfl ?_
            refine V.goto (tgt := 107) dX11_stormNumber_103 (by decide) ?_
            refine V.iadd dX11_stormNumber_107 ?_
            refine V.istore (i := 6) (L' := [some (.ref 0), some (.int p1), some (.int p2), some (.int (x3 + 0)), some (.int p4), some (.int p5), some (.int (x6 + 1)), some (.int x7), some (.int 0)]) dX11_stormNumber_108 (Nat.le_of_ble_eq_true rfl) rfl rfl ?_
            refine V.iinc (i := 7) (v := (x7 + 1)) (L' := [some (.ref 0), some (.int p1), some (.int p2), some (.int (x3 + 0)), some (.int p4), some (.int p5), some (.int (x6 + 1)), some (.int (x7 + 1)), some (.int 0)]) dX11_stormNumber_110 rfl rfl (Nat.le_of_ble_eq_true rfl) rfl rfl ?_
            refine V.goto (tgt := 30) dX11_stormNumber_113 (by decide) ?_
            exact V.locs (L' := [some (.ref 0), some (.int p1), some (.int p2), some (.int (x3 + 0)), some (.int p4), some (.int p5), some (.int (x6 + 1)), some (.int (x7 + 1)), none]) ⟨rfl, ⟨rfl, ⟨rfl, ⟨rfl, ⟨rfl, ⟨rfl, ⟨rfl, ⟨rfl, trivial⟩⟩⟩⟩⟩⟩⟩⟩ (ih hf hx)
        · have hf := fif_t h hf
          refine V.iload (i := 8) dX11_stormNumber_73 rfl ?_
          refine V.goto (tgt := 79) dX11_stormNumber_75 (by decide) ?_
          refine V.iadd dX11_stormNumber_79 ?_
          refine V.istore_n (i := 3) (L' := [some (.ref 0), some (.int p1), some (.int p2), some (.int (x3 + 0)), some (.int p4), some (.int p5), some (.int x6), some (.int x7), some (.int 0)]) dX11_stormNumber_80 rfl (Nat.le_of_ble_eq_true rfl) rfl rfl ?_
          refine V.iload (i := 6) dX11_stormNumber_81 rfl ?_
          refine V.aload_n (i := 0) dX11_stormNumber_83 rfl rfl ?_
          refine V.getfield (kf := 0) (v := .ref 1) fl_RX11 dX11_stormNumber_84 w1043 (Nat.le_of_ble_eq_true rfl) rfl rfl ?_
          refine V.iload (i := 5) dX11_stormNumber_87 rfl ?_
          refine V.iconst (v := 3) dX11_stormNumber_89 rfl ?_
          refine V.iadd dX11_stormNumber_90 ?_
          refine V.iload (i := 7) dX11_stormNumber_91 rfl ?_
          refine V.iadd dX11_stormNumber_93 ?_
          obtain ⟨hi, v7, ev7, hf⟩ := fld_e hf
          refine V.fld dX11_stormNumber_94 rfl hi ev7 ?_
          refine V.iload (i := 8) dX11_stormNumber_95 rfl ?_
          refine V.iadd dX11_stormNumber_97 ?_
          refine V.iconst (v := 1) dX11_stormNumber_98 rfl ?_
          refine V.icmp_le (tgt := 106) dX11_stormNumber_99 (by decide) (fun h => ?_) (fun h => ?_)
          · have hf := fif_t h hf
            refine V.iconst (v := 0) dX11_stormNumber_106 rfl ?_
            refine V.iadd dX11_stormNumber_107 ?_
            refine V.istore (i := 6) (L' := [some (.ref 0), some (.int p1), some (.int p2), some (.int (x3 + 0)), some (.int p4), some (.int p5), some (.int (x6 + 0)), some (.int x7), some (.int 0)]) dX11_stormNumber_108 (Nat.le_of_ble_eq_true rfl) rfl rfl ?_
            refine V.iinc (i := 7) (v := (x7 + 1)) (L' := [some (.ref 0), some (.int p1), some (.int p2), some (.int (x3 + 0)), some (.int p4), some (.int p5), some (.int (x6 + 0)), some (.int (x7 + 1)), some (.int 0)]) dX11_stormNumber_110 rfl rfl (Nat.le_of_ble_eq_true rfl) rfl rfl ?_
            refine V.goto (tgt := 30) dX11_stormNumber_113 (by decide) ?_
            exact V.locs (L' := [some (.ref 0), some (.int p1), some (.int p2), some (.int (x3 + 0)), some (.int p4), some (.int p5), some (.int (x6 + 0)), some (.int (x7 + 1)), none]) ⟨rfl, ⟨rfl, ⟨rfl, ⟨rfl, ⟨rfl, ⟨rfl, ⟨rfl, ⟨rfl, trivial⟩⟩⟩⟩⟩⟩⟩⟩ (ih hf hx)
          · have hf := fif_f h hf
            refine V.iconst (v := 1) dX11_stormNumber_102 rfl ?_
            refine V.goto (tgt := 107) dX11_stormNumber_103 (by decide) ?_
            refine V.iadd dX11_stormNumber_107 ?_
            refine V.istore (i := 6) (L' := [some (.ref 0), some (.int p1), some (.int p2), some (.int (x3 + 0)), some (.int p4), some (.int p5), some (.int (x6 + 1)), some (.int x7), some (.int 0)]) dX11_stormNumber_108 (Nat.le_of_ble_eq_true rfl) rfl rfl ?_
            refine V.iinc (i := 7) (v := (x7 + 1)) (L' := [some (.ref 0), some (.int p1), some (.int p2), some (.int (x3 + 0)), some (.int p4), some (.int p5), some (.int (x6 + 1)), some (.int (x7 + 1)), some (.int 0)]) dX11_stormNumber_110 rfl rfl (Nat.le_of_ble_eq_true rfl) rfl rfl ?_
            refine V.goto (tgt := 30) dX11_stormNumber_113 (by decide) ?_
            exact V.locs (L' := [some (.ref 0), some (.int p1), some (.int p2), some (.int (x3 + 0)), some (.int p4), some (.int p5), some (.int (x6 + 1)), some (.int (x7 + 1)), none]) ⟨rfl, ⟨rfl, ⟨rfl, ⟨rfl, ⟨rfl, ⟨rfl, ⟨rfl, ⟨rfl, trivial⟩⟩⟩⟩⟩⟩⟩⟩ (ih hf hx)
      · have hf := fif_f h hf
        refine V.iconst (v := 1) dX11_stormNumber_60 rfl ?_
        refine V.goto (tgt := 65) dX11_stormNumber_61 (by decide) ?_
        refine V.istore (i := 8) (L' := [some (.ref 0), some (.int p1), some (.int p2), some (.int x3), some (.int p4), some (.int p5), some (.int x6), some (.int x7), some (.int 1)]) dX11_stormNumber_65 (Nat.le_of_ble_eq_true rfl) rfl rfl ?_
        refine V.iload_n (i := 3) dX11_stormNumber_67 rfl rfl ?_
        refine V.iload_n (i := 2) dX11_stormNumber_68 rfl rfl ?_
        refine V.iconst (v := 1) dX11_stormNumber_69 rfl ?_
        refine V.icmp_ne (tgt := 78) dX11_stormNumber_70 (by decide) (fun h => ?_) (fun h => ?_)
        · have hf := fif_f h hf
          refine V.iconst (v := 0) dX11_stormNumber_78 rfl ?_
          refine V.iadd dX11_stormNumber_79 ?_
          refine V.istore_n (i := 3) (L' := [some (.ref 0), some (.int p1), some (.int p2), some (.int (x3 + 0)), some (.int p4), some (.int p5), some (.int x6), some (.int x7), some (.int 1)]) dX11_stormNumber_80 rfl (Nat.le_of_ble_eq_true rfl) rfl rfl ?_
          refine V.iload (i := 6) dX11_stormNumber_81 rfl ?_
          refine V.aload_n (i := 0) dX11_stormNumber_83 rfl rfl ?_
          refine V.getfield (kf := 0) (v := .ref 1) fl_RX11 dX11_stormNumber_84 w1043 (Nat.le_of_ble_eq_true rfl) rfl rfl ?_
          refine V.iload (i := 5) dX11_stormNumber_87 rfl ?_
          refine V.iconst (v := 3) dX11_stormNumber_89 rfl ?_
          refine V.iadd dX11_stormNumber_90 ?_
          refine V.iload (i := 7) dX11_stormNumber_91 rfl ?_
          refine V.iadd dX11_stormNumber_93 ?_
          obtain ⟨hi, v8, ev8, hf⟩ := fld_e hf
          refine V.fld dX11_stormNumber_94 rfl hi ev8 ?_
          refine V.iload (i := 8) dX11_stormNumber_95 rfl ?_
          refine V.iadd dX11_stormNumber_97 ?_
          refine V.iconst (v := 1) dX11_stormNumber_98 rfl ?_
          refine V.icmp_le (tgt := 106) dX11_stormNumber_99 (by decide) (fun h => ?_) (fun h => ?_)
          · have hf := fif_t h hf
            refine V.iconst (v := 0) dX11_stormNumber_106 rfl ?_
            refine V.iadd dX11_stormNumber_107 ?_
            refine V.istore (i := 6) (L' := [some (.ref 0), some (.int p1), some (.int p2), some (.int (x3 + 0)), some (.int p4), some (.int p5), some (.int (x6 + 0)), some (.int x7), some (.int 1)]) dX11_stormNumber_108 (Nat.le_of_ble_eq_true rfl) rfl rfl ?_
            refine V.iinc (i := 7) (v := (x7 + 1)) (L' := [some (.ref 0), some (.int p1), some (.int p2), some (.int (x3 + 0)), some (.int p4), some (.int p5), some (.int (x6 + 0)), some (.int (x7 + 1)), some (.int 1)]) dX11_stormNumber_110 rfl rfl (Nat.le_of_ble_eq_true rfl) rfl rfl ?_
            refine V.goto (tgt := 30) dX11_stormNumber_113 (by decide) ?_
            exact V.locs (L' := [some (.ref 0), some (.int p1), some (.int p2), some (.int (x3 + 0)), some (.int p4), some (.int p5), some (.int (x6 + 0)), some (.int (x7 + 1)), none]) ⟨rfl, ⟨rfl, ⟨rfl, ⟨rfl, ⟨rfl, ⟨rfl, ⟨rfl, ⟨rfl, trivial⟩⟩⟩⟩⟩⟩⟩⟩ (ih hf hx)
          · have hf := fif_f h hf
            refine V.iconst (v := 1) dX11_stormNumber_102 rfl ?_
            refine V.goto (tgt := 107) dX11_stormNumber_103 (by decide) ?_
            refine V.iadd dX11_stormNumber_107 ?_
            refine V.istore (i := 6) (L' := [some (.ref 0), some (.int p1), some (.int p2), some (.int (x3 + 0)), some (.int p4), some (.int p5), some (.int (x6 + 1)), some (.int x7), some (.int 1)]) dX11_stormNumber_108 (Nat.le_of_ble_eq_true rfl) rfl rfl ?_
            refine V.iinc (i := 7) (v := (x7 + 1)) (L' := [some (.ref 0), some (.int p1), some (.int p2), some (.int (x3 + 0)), some (.int p4), some (.int p5), some (.int (x6 + 1)), some (.int (x7 + 1)), some (.int 1)]) dX11_stormNumber_110 rfl rfl (Nat.le_of_ble_eq_true rfl) rfl rfl ?_
            refine V.goto (tgt := 30) dX11_stormNumber_113 (by decide) ?_
            exact V.locs (L' := [some (.ref 0), some (.int p1), some (.int p2), some (.int (x3 + 0)), some (.int p4), some (.int p5), some (.int (x6 + 1)), some (.int (x7 + 1)), none]) ⟨rfl, ⟨rfl, ⟨rfl, ⟨rfl, ⟨rfl, ⟨rfl, ⟨rfl, ⟨rfl, trivial⟩⟩⟩⟩⟩⟩⟩⟩ (ih hf hx)
        · have hf := fif_t h hf
          refine V.iload (i := 8) dX11_stormNumber_73 rfl ?_
          refine V.goto (tgt := 79) dX11_stormNumber_75 (by decide) ?_
          refine V.iadd dX11_stormNumber_79 ?_
          refine V.istore_n (i := 3) (L' := [some (.ref 0), some (.int p1), some (.int p2), some (.int (x3 + 1)), some (.int p4), some (.int p5), some (.int x6), some (.int x7), some (.int 1)]) dX11_stormNumber_80 rfl (Nat.le_of_ble_eq_true rfl) rfl rfl ?_
          refine V.iload (i := 6) dX11_stormNumber_81 rfl ?_
          refine V.aload_n (i := 0) dX11_stormNumber_83 rfl rfl ?_
          refine V.getfield (kf := 0) (v := .ref 1) fl_RX11 dX11_stormNumber_84 w1043 (Nat.le_of_ble_eq_true rfl) rfl rfl ?_
          refine V.iload (i := 5) dX11_stormNumber_87 rfl ?_
          refine V.iconst (v := 3) dX11_stormNumber_89 rfl ?_
          refine V.iadd dX11_stormNumber_90 ?_
          refine V.iload (i := 7) dX11_stormNumber_91 rfl ?_
          refine V.iadd dX11_stormNumber_93 ?_
          obtain ⟨hi, v9, ev9, hf⟩ := fld_e hf
          refine V.fld dX11_stormNumber_94 rfl hi ev9 ?_
          refine V.iload (i := 8) dX11_stormNumber_95 rfl ?_
          refine V.iadd dX11_stormNumber_97 ?_
          refine V.iconst (v := 1) dX11_stormNumber_98 rfl ?_
          refine V.icmp_le (tgt := 106) dX11_stormNumber_99 (by decide) (fun h => ?_) (fun h => ?_)
          · have hf := fif_t h hf
            refine V.iconst (v := 0) dX11_stormNumber_106 rfl ?_
            refine V.iadd dX11_stormNumber_107 ?_
            refine V.istore (i := 6) (L' := [some (.ref 0), some (.int p1), some (.int p2), some (.int (x3 + 1)), some (.int p4), some (.int p5), some (.int (x6 + 0)), some (.int x7), some (.int 1)]) dX11_stormNumber_108 (Nat.le_of_ble_eq_true rfl) rfl rfl ?_
            refine V.iinc (i := 7) (v := (x7 + 1)) (L' := [some (.ref 0), some (.int p1), some (.int p2), some (.int (x3 + 1)), some (.int p4), some (.int p5), some (.int (x6 + 0)), some (.int (x7 + 1)), some (.int 1)]) dX11_stormNumber_110 rfl rfl (Nat.le_of_ble_eq_true rfl) rfl rfl ?_
            refine V.goto (tgt := 30) dX11_stormNumber_113 (by decide) ?_
            exact V.locs (L' := [some (.ref 0), some (.int p1), some (.int p2), some (.int (x3 + 1)), some (.int p4), some (.int p5), some (.int (x6 + 0)), some (.int (x7 + 1)), none]) ⟨rfl, ⟨rfl, ⟨rfl, ⟨rfl, ⟨rfl, ⟨rfl, ⟨rfl, ⟨rfl, trivial⟩⟩⟩⟩⟩⟩⟩⟩ (ih hf hx)
          · have hf := fif_f h hf
            refine V.iconst (v := 1) dX11_stormNumber_102 rfl ?_
            refine V.goto (tgt := 107) dX11_stormNumber_103 (by decide) ?_
            refine V.iadd dX11_stormNumber_107 ?_
            refine V.istore (i := 6) (L' := [some (.ref 0), some (.int p1), some (.int p2), some (.int (x3 + 1)), some (.int p4), some (.int p5), some (.int (x6 + 1)), some (.int x7), some (.int 1)]) dX11_stormNumber_108 (Nat.le_of_ble_eq_true rfl) rfl rfl ?_
            refine V.iinc (i := 7) (v := (x7 + 1)) (L' := [some (.ref 0), some (.int p1), some (.int p2), some (.int (x3 + 1)), some (.int p4), some (.int p5), some (.int (x6 + 1)), some (.int (x7 + 1)), some (.int 1)]) dX11_stormNumber_110 rfl rfl (Nat.le_of_ble_eq_true rfl) rfl rfl ?_
            refine V.goto (tgt := 30) dX11_stormNumber_113 (by decide) ?_
            exact V.locs (L' := [some (.ref 0), some (.int p1), some (.int p2), some (.int (x3 + 1)), some (.int p4), some (.int p5), some (.int (x6 + 1)), some (.int (x7 + 1)), none]) ⟨rfl, ⟨rfl, ⟨rfl, ⟨rfl, ⟨rfl, ⟨rfl, ⟨rfl, ⟨rfl, trivial⟩⟩⟩⟩⟩⟩⟩⟩ (ih hf hx)
def s_X11_stormNumber_L5 (p1 : Int32) (p2 : Int32) (M_s : Nat → Int32) : Nat → Int32 → Int32 → Option (Int32 × Int32)
  | 0, _, _ => none
  | n + 1, x3, x4 => (s_X11_of p1 1 M_s).bind fun v1 => if (v1 ≤ x4 : Prop) then (some (x3, x4)) else ((s_X11_whereIs p1 x4).bind fun v2 => (s_X11_stormNumber_L30 p2 v2 M_s gF x3 0 0).bind fun r10 => if (p2 = 0 : Prop) then (fld 406 M_s 5 fun v11 => if (r10.2.1 ≤ v11 : Prop) then (s_X11_stormNumber_L5 p1 p2 M_s n (r10.1 + 0) (x4 + 1)) else (s_X11_stormNumber_L5 p1 p2 M_s n (r10.1 + 1) (x4 + 1))) else (s_X11_stormNumber_L5 p1 p2 M_s n (r10.1 + 0) (x4 + 1)))
set_option maxHeartbeats 4000000 in
set_option maxRecDepth 100000 in
theorem v_X11_stormNumber_L5 {out : fO} {σ' : List fE} {p1 : Int32} {p2 : Int32} {M_savedMany : Int32} {M_isTaken : Int32} {M_length : Int32} {M_thrown : Int32} {M_spelt : Int32} {M_speltMany : Int32} {M_place : Int32} {M_kind : Int32} {M_one : Int32} {M_two : Int32} {M_three : Int32} {M_begins : Int32} {M_done : Int32} {M_stopBy : Int32} {M_hash : Int64} {M_s : Nat → Int32} {M_saved : Nat → Int32} {M_snapshot : Nat → Int32} {M_text : Nat → Int32} : ∀ (n : Nat) {x3 : Int32} {x4 : Int32} {res : Int32 × Int32} (hf : s_X11_stormNumber_L5 p1 p2 M_s n x3 x4 = some res) (hx : V (fXm 5 k_X11_stormNumber out σ') (krm k_X11_stormNumber) k_X11_stormNumber 5 145 [some (.ref 0), some (.int p1), some (.int p2), some (.int res.1), some (.int res.2), none, none, none, none] [] [.inl (6, [.ref 1, .ref 2, .int M_savedMany, .ref 3, .int M_isTaken, .ref 4, .int M_length, .int M_thrown, .int M_spelt, .int M_speltMany, .int M_place, .int M_kind, .int M_one, .int M_two, .int M_three, .int M_begins, .int M_done, .int M_stopBy, .long M_hash]), .inr (406, .inl M_s), .inr (2436, .inl M_saved), .inr (406, .inl M_snapshot), .inr (60, .inl M_text)] 0 0), V (fXm 5 k_X11_stormNumber out σ') (krm k_X11_stormNumber) k_X11_stormNumber 5 5 [some (.ref 0), some (.int p1), some (.int p2), some (.int x3), some (.int x4), none, none, none, none] [] [.inl (6, [.ref 1, .ref 2, .int M_savedMany, .ref 3, .int M_isTaken, .ref 4, .int M_length, .int M_thrown, .int M_spelt, .int M_speltMany, .int M_place, .int M_kind, .int M_one, .int M_two, .int M_three, .int M_begins, .int M_done, .int M_stopBy, .long M_hash]), .inr (406, .inl M_s), .inr (2436, .inl M_saved), .inr (406, .inl M_snapshot), .inr (60, .inl M_text)] 0 0 := by
  intro n
  induction n with
  | zero =>
    intro x3 x4 res hf hx
    rw [s_X11_stormNumber_L5] at hf
    cases hf
  | succ n ih =>
    intro x3 x4 res hf hx
    rw [s_X11_stormNumber_L5] at hf
    refine V.iload (i := 4) dX11_stormNumber_5 rfl ?_
    refine V.aload_n (i := 0) dX11_stormNumber_7 rfl rfl ?_
    refine V.iload_n (i := 1) dX11_stormNumber_8 rfl rfl ?_
    refine V.iconst (v := 1) dX11_stormNumber_9 rfl ?_
    obtain ⟨v1, hv1, hf⟩ := fbind hf
    refine V.callVn (pl := [0, 1, 2, 3, 4]) (σ' := [.inl (6, [.ref 1, .ref 2, .int M_savedMany, .ref 3, .int M_isTaken, .ref 4, .int M_length, .int M_thrown, .int M_spelt, .int M_speltMany, .int M_place, .int M_kind, .int M_one, .int M_two, .int M_three, .int M_begins, .int M_done, .int M_stopBy, .long M_hash]), .inr (406, .inl M_s), .inr (2436, .inl M_saved), .inr (406, .inl M_snapshot), .inr (60, .inl M_text)]) (st2 := [.int v1, .int x4]) (cl2 := 0) (sl2 := 0) (ct_X11_of (a1 := p1) (a2 := 1) (M_savedMany := M_savedMany) (M_isTaken := M_isTaken) (M_length := M_length) (M_thrown := M_thrown) (M_spelt := M_spelt) (M_speltMany := M_speltMany) (M_place := M_place) (M_kind := M_kind) (M_one := M_one) (M_two := M_two) (M_three := M_three) (M_begins := M_begins) (M_done := M_done) (M_stopBy := M_stopBy) (M_hash := M_hash) (M_s := M_s) (M_saved := M_saved) (M_snapshot := M_snapshot) (M_text := M_text) hv1) dX11_stormNumber_10 w1123 ⟨w1125, w10⟩ cal_X11_of rfl ⟨⟨Nat.le_of_ble_eq_true rfl, Nat.le_of_ble_eq_true rfl⟩, Nat.le_of_ble_eq_true rfl, Nat.le_of_ble_eq_true rfl⟩ (Nat.le_of_ble_eq_true rfl) (Or.inl ⟨_, _, _, _, rfl, rfl⟩) rfl ⟨rfl, ⟨by decide, by decide⟩, rfl, (fr_cons (Or.inl (Nat.le_of_ble_eq_true rfl)) (fr_cons (Or.inl (Nat.le_of_ble_eq_true rfl)) (fr_cons (Or.inl (Nat.le_of_ble_eq_true rfl)) (fr_cons (Or.inl (Nat.le_of_ble_eq_true rfl)) (fr_nil))))), rfl⟩ fr_i rfl rfl rfl rfl ?_
    refine V.icmp_ge (tgt := 145) dX11_stormNumber_13 (by decide) (fun h => ?_) (fun h => ?_)
    · have hf := fif_t h hf
      obtain rfl := Option.some.inj hf
      exact hx
    · have hf := fif_f h hf
      refine V.iload_n (i := 1) dX11_stormNumber_16 rfl rfl ?_
      refine V.iload (i := 4) dX11_stormNumber_17 rfl ?_
      obtain ⟨v2, hv2, hf⟩ := fbind hf
      refine V.callSn (pl := []) (σ' := [.inl (6, [.ref 1, .ref 2, .int M_savedMany, .ref 3, .int M_isTaken, .ref 4, .int M_length, .int M_thrown, .int M_spelt, .int M_speltMany, .int M_place, .int M_kind, .int M_one, .int M_two, .int M_three, .int M_begins, .int M_done, .int M_stopBy, .long M_hash]), .inr (406, .inl M_s), .inr (2436, .inl M_saved), .inr (406, .inl M_snapshot), .inr (60, .inl M_text)]) (st2 := [.int v2]) (cl2 := 0) (sl2 := 0) (ct_X11_whereIs (a0 := p1) (a1 := x4) hv2) dX11_stormNumber_19 w1147 w1148 cal_X11_whereIs ⟨⟨Nat.le_of_ble_eq_true rfl, Nat.le_of_ble_eq_true rfl⟩, Nat.le_of_ble_eq_true rfl, Nat.le_of_ble_eq_true rfl⟩ (Nat.le_of_ble_eq_true rfl) rfl ⟨rfl, ⟨by decide, by decide⟩, rfl, (fr_nil), rfl⟩ fr_i rfl rfl rfl rfl ?_
      refine V.istore (i := 5) (L' := [some (.ref 0), some (.int p1), some (.int p2), some (.int x3), some (.int x4), some (.int v2), none, none, none]) dX11_stormNumber_22 (Nat.le_of_ble_eq_true rfl) rfl rfl ?_
      refine V.iconst (v := 0) dX11_stormNumber_24 rfl ?_
      refine V.istore (i := 6) (L' := [some (.ref 0), some (.int p1), some (.int p2), some (.int x3), some (.int x4), some (.int v2), some (.int 0), none, none]) dX11_stormNumber_25 (Nat.le_of_ble_eq_true rfl) rfl rfl ?_
      refine V.iconst (v := 0) dX11_stormNumber_27 rfl ?_
      refine V.istore (i := 7) (L' := [some (.ref 0), some (.int p1), some (.int p2), some (.int x3), some (.int x4), some (.int v2), some (.int 0), some (.int 0), none]) dX11_stormNumber_28 (Nat.le_of_ble_eq_true rfl) rfl rfl ?_
      obtain ⟨r10, hr10, hf⟩ := fbind hf
      refine v_X11_stormNumber_L30 gF hr10 ?_
      refine V.iload_n (i := 3) dX11_stormNumber_116 rfl rfl ?_
      refine V.iload_n (i := 2) dX11_stormNumber_117 rfl rfl ?_
      refine V.if_ne (tgt := 136) dX11_stormNumber_118 (by decide) (fun h => ?_) (fun h => ?_)
      · have hf := fif_f h hf
        refine V.iconst (v := 0) dX11_stormNumber_136 rfl ?_
        refine V.iadd dX11_stormNumber_137 ?_
        refine V.istore_n (i := 3) (L' := [some (.ref 0), some (.int p1), some (.int p2), some (.int (r10.1 + 0)), some (.int x4), some (.int v2), some (.int r10.2.1), some (.int r10.2.2), none]) dX11_stormNumber_138 rfl (Nat.le_of_ble_eq_true rfl) rfl rfl ?_
        refine V.iinc (i := 4) (v := (x4 + 1)) (L' := [some (.ref 0), some (.int p1), some (.int p2), some (.int (r10.1 + 0)), some (.int (x4 + 1)), some (.int v2), some (.int r10.2.1), some (.int r10.2.2), none]) dX11_stormNumber_139 rfl rfl (Nat.le_of_ble_eq_true rfl) rfl rfl ?_
        refine V.goto (tgt := 5) dX11_stormNumber_142 (by decide) ?_
        exact V.locs (L' := [some (.ref 0), some (.int p1), some (.int p2), some (.int (r10.1 + 0)), some (.int (x4 + 1)), none, none, none, none]) ⟨rfl, ⟨rfl, ⟨rfl, ⟨rfl, ⟨rfl, trivial⟩⟩⟩⟩⟩ (ih hf hx)
      · have hf := fif_t h hf
        refine V.iload (i := 6) dX11_stormNumber_121 rfl ?_
        refine V.aload_n (i := 0) dX11_stormNumber_123 rfl rfl ?_
        refine V.getfield (kf := 0) (v := .ref 1) fl_RX11 dX11_stormNumber_124 w1043 (Nat.le_of_ble_eq_true rfl) rfl rfl ?_
        refine V.iconst (v := 5) dX11_stormNumber_127 rfl ?_
        obtain ⟨hi, v11, ev11, hf⟩ := fld_e hf
        refine V.fld dX11_stormNumber_128 rfl hi ev11 ?_
        refine V.icmp_le (tgt := 136) dX11_stormNumber_129 (by decide) (fun h => ?_) (fun h => ?_)
        · have hf := fif_t h hf
          refine V.iconst (v := 0) dX11_stormNumber_136 rfl ?_
          refine V.iadd dX11_stormNumber_137 ?_
          refine V.istore_n (i := 3) (L' := [some (.ref 0), some (.int p1), some (.int p2), some (.int (r10.1 + 0)), some (.int x4), some (.int v2), some (.int r10.2.1), some (.int r10.2.2), none]) dX11_stormNumber_138 rfl (Nat.le_of_ble_eq_true rfl) rfl rfl ?_
          refine V.iinc (i := 4) (v := (x4 + 1)) (L' := [some (.ref 0), some (.int p1), some (.int p2), some (.int (r10.1 + 0)), some (.int (x4 + 1)), some (.int v2), some (.int r10.2.1), some (.int r10.2.2), none]) dX11_stormNumber_139 rfl rfl (Nat.le_of_ble_eq_true rfl) rfl rfl ?_
          refine V.goto (tgt := 5) dX11_stormNumber_142 (by decide) ?_
          exact V.locs (L' := [some (.ref 0), some (.int p1), some (.int p2), some (.int (r10.1 + 0)), some (.int (x4 + 1)), none, none, none, none]) ⟨rfl, ⟨rfl, ⟨rfl, ⟨rfl, ⟨rfl, trivial⟩⟩⟩⟩⟩ (ih hf hx)
        · have hf := fif_f h hf
          refine V.iconst (v := 1) dX11_stormNumber_132 rfl ?_
          refine V.goto (tgt := 137) dX11_stormNumber_133 (by decide) ?_
          refine V.iadd dX11_stormNumber_137 ?_
          refine V.istore_n (i := 3) (L' := [some (.ref 0), some (.int p1), some (.int p2), some (.int (r10.1 + 1)), some (.int x4), some (.int v2), some (.int r10.2.1), some (.int r10.2.2), none]) dX11_stormNumber_138 rfl (Nat.le_of_ble_eq_true rfl) rfl rfl ?_
          refine V.iinc (i := 4) (v := (x4 + 1)) (L' := [some (.ref 0), some (.int p1), some (.int p2), some (.int (r10.1 + 1)), some (.int (x4 + 1)), some (.int v2), some (.int r10.2.1), some (.int r10.2.2), none]) dX11_stormNumber_139 rfl rfl (Nat.le_of_ble_eq_true rfl) rfl rfl ?_
          refine V.goto (tgt := 5) dX11_stormNumber_142 (by decide) ?_
          exact V.locs (L' := [some (.ref 0), some (.int p1), some (.int p2), some (.int (r10.1 + 1)), some (.int (x4 + 1)), none, none, none, none]) ⟨rfl, ⟨rfl, ⟨rfl, ⟨rfl, ⟨rfl, trivial⟩⟩⟩⟩⟩ (ih hf hx)
def s_X11_stormNumber (a1 : Int32) (a2 : Int32) (M_s : Nat → Int32) : Option (Int32) := (s_X11_stormNumber_L5 a1 a2 M_s gF 0 0).bind fun r12 => some r12.1
set_option maxHeartbeats 4000000 in
set_option maxRecDepth 100000 in
theorem ct_X11_stormNumber {a1 : Int32} {a2 : Int32} {M_savedMany : Int32} {M_isTaken : Int32} {M_length : Int32} {M_thrown : Int32} {M_spelt : Int32} {M_speltMany : Int32} {M_place : Int32} {M_kind : Int32} {M_one : Int32} {M_two : Int32} {M_three : Int32} {M_begins : Int32} {M_done : Int32} {M_stopBy : Int32} {M_hash : Int64} {M_s : Nat → Int32} {M_saved : Nat → Int32} {M_snapshot : Nat → Int32} {M_text : Nat → Int32} {res : Int32} (hf : s_X11_stormNumber a1 a2 M_s = some res) : Ct k_X11_stormNumber [.ref 0, .int a1, .int a2] [.inl (6, [.ref 1, .ref 2, .int M_savedMany, .ref 3, .int M_isTaken, .ref 4, .int M_length, .int M_thrown, .int M_spelt, .int M_speltMany, .int M_place, .int M_kind, .int M_one, .int M_two, .int M_three, .int M_begins, .int M_done, .int M_stopBy, .long M_hash]), .inr (406, .inl M_s), .inr (2436, .inl M_saved), .inr (406, .inl M_snapshot), .inr (60, .inl M_text)] (.inl (some (.int res))) [.inl (6, [.ref 1, .ref 2, .int M_savedMany, .ref 3, .int M_isTaken, .ref 4, .int M_length, .int M_thrown, .int M_spelt, .int M_speltMany, .int M_place, .int M_kind, .int M_one, .int M_two, .int M_three, .int M_begins, .int M_done, .int M_stopBy, .long M_hash]), .inr (406, .inl M_s), .inr (2436, .inl M_saved), .inr (406, .inl M_snapshot), .inr (60, .inl M_text)] := by
  unfold s_X11_stormNumber at hf
  refine Ct.of (L := [some (.ref 0), some (.int a1), some (.int a2), none, none, none, none, none, none]) cal_X11_stormNumber (fent_pad (j := 6) rfl) (Nat.le_of_ble_eq_true rfl) ?_
  refine V.iconst (v := 0) dX11_stormNumber_0 rfl ?_
  refine V.istore_n (i := 3) (L' := [some (.ref 0), some (.int a1), some (.int a2), some (.int 0), none, none, none, none, none]) dX11_stormNumber_1 rfl (Nat.le_of_ble_eq_true rfl) rfl rfl ?_
  refine V.iconst (v := 0) dX11_stormNumber_2 rfl ?_
  refine V.istore (i := 4) (L' := [some (.ref 0), some (.int a1), some (.int a2), some (.int 0), some (.int 0), none, none, none, none]) dX11_stormNumber_3 (Nat.le_of_ble_eq_true rfl) rfl rfl ?_
  obtain ⟨r12, hr12, hf⟩ := fbind hf
  refine v_X11_stormNumber_L5 gF hr12 ?_
  refine V.iload_n (i := 3) dX11_stormNumber_145 rfl rfl ?_
  obtain rfl := Option.some.inj hf
  exact V.iret dX11_stormNumber_146 rfl (Nat.le_of_ble_eq_true rfl) (Nat.le_of_ble_eq_true rfl) rfl
def k_X11_ifStorm : fK := (yX11_ifStorm, cX11_ifStorm, 3, (some .int), [], (4, 94), (0, 0), (0, 0))
theorem cal_X11_ifStorm : fCal k_X11_ifStorm 2 := ⟨⟨wc1446, w73⟩, ⟨by decide +kernel, by decide +kernel⟩, by decide +kernel, by decide +kernel⟩
def s_X11_ifStorm (a1 : Int32) (a2 : Int32) (M_thrown : Int32) (M_s : Nat → Int32) : Option (Int32 × (Int32)) := (s_X11_isFisher a1).bind fun v1 => if (v1 = 0 : Prop) then ((s_X11_holds 1 M_thrown).bind fun v7 => if (v7.1 = 0 : Prop) then (some (0, v7.2)) else ((s_X11_stormNumber a1 a2 M_s).bind fun v8 => some (v8, v7.2))) else ((s_X11_in a2 0 1).bind fun v2 => if (v2 = 0 : Prop) then ((s_X11_holds 2 M_thrown).bind fun v3 => if (v3.1 = 0 : Prop) then (some (0, v3.2)) else ((s_X11_stormNumber a1 a2 M_s).bind fun v4 => some (v4, v3.2))) else ((s_X11_holds 0 M_thrown).bind fun v5 => if (v5.1 = 0 : Prop) then (some (0, v5.2)) else ((s_X11_stormNumber a1 a2 M_s).bind fun v6 => some (v6, v5.2))))
set_option maxHeartbeats 4000000 in
set_option maxRecDepth 100000 in
theorem ct_X11_ifStorm {a1 : Int32} {a2 : Int32} {M_savedMany : Int32} {M_isTaken : Int32} {M_length : Int32} {M_thrown : Int32} {M_spelt : Int32} {M_speltMany : Int32} {M_place : Int32} {M_kind : Int32} {M_one : Int32} {M_two : Int32} {M_three : Int32} {M_begins : Int32} {M_done : Int32} {M_stopBy : Int32} {M_hash : Int64} {M_s : Nat → Int32} {M_saved : Nat → Int32} {M_snapshot : Nat → Int32} {M_text : Nat → Int32} {res : Int32 × (Int32)} (hf : s_X11_ifStorm a1 a2 M_thrown M_s = some res) : Ct k_X11_ifStorm [.ref 0, .int a1, .int a2] [.inl (6, [.ref 1, .ref 2, .int M_savedMany, .ref 3, .int M_isTaken, .ref 4, .int M_length, .int M_thrown, .int M_spelt, .int M_speltMany, .int M_place, .int M_kind, .int M_one, .int M_two, .int M_three, .int M_begins, .int M_done, .int M_stopBy, .long M_hash]), .inr (406, .inl M_s), .inr (2436, .inl M_saved), .inr (406, .inl M_snapshot), .inr (60, .inl M_text)] (.inl (some (.int res.1))) [.inl (6, [.ref 1, .ref 2, .int M_savedMany, .ref 3, .int M_isTaken, .ref 4, .int M_length, .int res.2, .int M_spelt, .int M_speltMany, .int M_place, .int M_kind, .int M_one, .int M_two, .int M_three, .int M_begins, .int M_done, .int M_stopBy, .long M_hash]), .inr (406, .inl M_s), .inr (2436, .inl M_saved), .inr (406, .inl M_snapshot), .inr (60, .inl M_text)] := by
  unfold s_X11_ifStorm at hf
  refine Ct.of (L := [some (.ref 0), some (.int a1), some (.int a2)]) cal_X11_ifStorm (fent_pad (j := 0) rfl) (Nat.le_of_ble_eq_true rfl) ?_
  refine V.aload_n (i := 0) dX11_ifStorm_0 rfl rfl ?_
  refine V.iload_n (i := 1) dX11_ifStorm_1 rfl rfl ?_
  obtain ⟨v1, hv1, hf⟩ := fbind hf
  refine V.callSn (pl := []) (σ' := [.inl (6, [.ref 1, .ref 2, .int M_savedMany, .ref 3, .int M_isTaken, .ref 4, .int M_length, .int M_thrown, .int M_spelt, .int M_speltMany, .int M_place, .int M_kind, .int M_one, .int M_two, .int M_three, .int M_begins, .int M_done, .int M_stopBy, .long M_hash]), .inr (406, .inl M_s), .inr (2436, .inl M_saved), .inr (406, .inl M_snapshot), .inr (60, .inl M_text)]) (st2 := [.int v1, .ref 0]) (cl2 := 0) (sl2 := 0) (ct_X11_isFisher (a0 := a1) hv1) dX11_ifStorm_2 w1116 w1117 cal_X11_isFisher ⟨⟨Nat.le_of_ble_eq_true rfl, Nat.le_of_ble_eq_true rfl⟩, Nat.le_of_ble_eq_true rfl, Nat.le_of_ble_eq_true rfl⟩ (Nat.le_of_ble_eq_true rfl) rfl ⟨rfl, ⟨by decide, by decide⟩, rfl, (fr_nil), rfl⟩ fr_i rfl rfl rfl rfl ?_
  refine V.if_ne (tgt := 12) dX11_ifStorm_5 (by decide) (fun h => ?_) (fun h => ?_)
  · have hf := fif_f h hf
    refine V.iload_n (i := 2) dX11_ifStorm_12 rfl rfl ?_
    refine V.iconst (v := 0) dX11_ifStorm_13 rfl ?_
    refine V.iconst (v := 1) dX11_ifStorm_14 rfl ?_
    obtain ⟨v2, hv2, hf⟩ := fbind hf
    refine V.callSn (pl := []) (σ' := [.inl (6, [.ref 1, .ref 2, .int M_savedMany, .ref 3, .int M_isTaken, .ref 4, .int M_length, .int M_thrown, .int M_spelt, .int M_speltMany, .int M_place, .int M_kind, .int M_one, .int M_two, .int M_three, .int M_begins, .int M_done, .int M_stopBy, .long M_hash]), .inr (406, .inl M_s), .inr (2436, .inl M_saved), .inr (406, .inl M_snapshot), .inr (60, .inl M_text)]) (st2 := [.int v2, .ref 0]) (cl2 := 0) (sl2 := 0) (ct_X11_in (a0 := a2) (a1 := 0) (a2 := 1) hv2) dX11_ifStorm_15 w1113 w1114 cal_X11_in ⟨⟨Nat.le_of_ble_eq_true rfl, Nat.le_of_ble_eq_true rfl⟩, Nat.le_of_ble_eq_true rfl, Nat.le_of_ble_eq_true rfl⟩ (Nat.le_of_ble_eq_true rfl) rfl ⟨rfl, ⟨by decide, by decide⟩, rfl, (fr_nil), rfl⟩ fr_i rfl rfl rfl rfl ?_
    refine V.if_eq (tgt := 25) dX11_ifStorm_18 (by decide) (fun h => ?_) (fun h => ?_)
    · have hf := fif_t h hf
      refine V.iconst (v := 2) dX11_ifStorm_25 rfl ?_
      obtain ⟨v3, hv3, hf⟩ := fbind hf
      refine V.callVn (pl := [0, 1, 2, 3, 4]) (σ' := [.inl (6, [.ref 1, .ref 2, .int M_savedMany, .ref 3, .int M_isTaken, .ref 4, .int M_length, .int v3.2, .int M_spelt, .int M_speltMany, .int M_place, .int M_kind, .int M_one, .int M_two, .int M_three, .int M_begins, .int M_done, .int M_stopBy, .long M_hash]), .inr (406, .inl M_s), .inr (2436, .inl M_saved), .inr (406, .inl M_snapshot), .inr (60, .inl M_text)]) (st2 := [.int v3.1]) (cl2 := 0) (sl2 := 0) (ct_X11_holds (a1 := 2) (M_savedMany := M_savedMany) (M_isTaken := M_isTaken) (M_length := M_length) (M_thrown := M_thrown) (M_spelt := M_spelt) (M_speltMany := M_speltMany) (M_place := M_place) (M_kind := M_kind) (M_one := M_one) (M_two := M_two) (M_three := M_three) (M_begins := M_begins) (M_done := M_done) (M_stopBy := M_stopBy) (M_hash := M_hash) (M_s := M_s) (M_saved := M_saved) (M_snapshot := M_snapshot) (M_text := M_text) hv3) dX11_ifStorm_26 w1181 ⟨w1183, w20⟩ cal_X11_holds rfl ⟨⟨Nat.le_of_ble_eq_true rfl, Nat.le_of_ble_eq_true rfl⟩, Nat.le_of_ble_eq_true rfl, Nat.le_of_ble_eq_true rfl⟩ (Nat.le_of_ble_eq_true rfl) (Or.inl ⟨_, _, _, _, rfl, rfl⟩) rfl ⟨rfl, ⟨by decide, by decide⟩, rfl, (fr_cons (Or.inl (Nat.le_of_ble_eq_true rfl)) (fr_cons (Or.inl (Nat.le_of_ble_eq_true rfl)) (fr_cons (Or.inl (Nat.le_of_ble_eq_true rfl)) (fr_cons (Or.inl (Nat.le_of_ble_eq_true rfl)) (fr_nil))))), rfl⟩ fr_i rfl rfl rfl rfl ?_
      refine V.if_eq (tgt := 41) dX11_ifStorm_29 (by decide) (fun h => ?_) (fun h => ?_)
      · have hf := fif_t h hf
        refine V.iconst (v := 0) dX11_ifStorm_41 rfl ?_
        obtain rfl := Option.some.inj hf
        exact V.iret dX11_ifStorm_42 rfl (Nat.le_of_ble_eq_true rfl) (Nat.le_of_ble_eq_true rfl) rfl
      · have hf := fif_f h hf
        refine V.aload_n (i := 0) dX11_ifStorm_32 rfl rfl ?_
        refine V.iload_n (i := 1) dX11_ifStorm_33 rfl rfl ?_
        refine V.iload_n (i := 2) dX11_ifStorm_34 rfl rfl ?_
        obtain ⟨v4, hv4, hf⟩ := fbind hf
        refine V.callVn (pl := [0, 1, 2, 3, 4]) (σ' := [.inl (6, [.ref 1, .ref 2, .int M_savedMany, .ref 3, .int M_isTaken, .ref 4, .int M_length, .int v3.2, .int M_spelt, .int M_speltMany, .int M_place, .int M_kind, .int M_one, .int M_two, .int M_three, .int M_begins, .int M_done, .int M_stopBy, .long M_hash]), .inr (406, .inl M_s), .inr (2436, .inl M_saved), .inr (406, .inl M_snapshot), .inr (60, .inl M_text)]) (st2 := [.int v4]) (cl2 := 0) (sl2 := 0) (ct_X11_stormNumber (a1 := a1) (a2 := a2) (M_savedMany := M_savedMany) (M_isTaken := M_isTaken) (M_length := M_length) (M_thrown := v3.2) (M_spelt := M_spelt) (M_speltMany := M_speltMany) (M_place := M_place) (M_kind := M_kind) (M_one := M_one) (M_two := M_two) (M_three := M_three) (M_begins := M_begins) (M_done := M_done) (M_stopBy := M_stopBy) (M_hash := M_hash) (M_s := M_s) (M_saved := M_saved) (M_snapshot := M_snapshot) (M_text := M_text) hv4) dX11_ifStorm_35 w1447 ⟨w1449, w60⟩ cal_X11_stormNumber rfl ⟨⟨Nat.le_of_ble_eq_true rfl, Nat.le_of_ble_eq_true rfl⟩, Nat.le_of_ble_eq_true rfl, Nat.le_of_ble_eq_true rfl⟩ (Nat.le_of_ble_eq_true rfl) (Or.inl ⟨_, _, _, _, rfl, rfl⟩) rfl ⟨rfl, ⟨by decide, by decide⟩, rfl, (fr_cons (Or.inl (Nat.le_of_ble_eq_true rfl)) (fr_cons (Or.inl (Nat.le_of_ble_eq_true rfl)) (fr_cons (Or.inl (Nat.le_of_ble_eq_true rfl)) (fr_cons (Or.inl (Nat.le_of_ble_eq_true rfl)) (fr_nil))))), rfl⟩ fr_i rfl rfl rfl rfl ?_
        refine V.goto (tgt := 42) dX11_ifStorm_38 (by decide) ?_
        obtain rfl := Option.some.inj hf
        exact V.iret dX11_ifStorm_42 rfl (Nat.le_of_ble_eq_true rfl) (Nat.le_of_ble_eq_true rfl) rfl
    · have hf := fif_f h hf
      refine V.iconst (v := 0) dX11_ifStorm_21 rfl ?_
      refine V.goto (tgt := 26) dX11_ifStorm_22 (by decide) ?_
      obtain ⟨v5, hv5, hf⟩ := fbind hf
      refine V.callVn (pl := [0, 1, 2, 3, 4]) (σ' := [.inl (6, [.ref 1, .ref 2, .int M_savedMany, .ref 3, .int M_isTaken, .ref 4, .int M_length, .int v5.2, .int M_spelt, .int M_speltMany, .int M_place, .int M_kind, .int M_one, .int M_two, .int M_three, .int M_begins, .int M_done, .int M_stopBy, .long M_hash]), .inr (406, .inl M_s), .inr (2436, .inl M_saved), .inr (406, .inl M_snapshot), .inr (60, .inl M_text)]) (st2 := [.int v5.1]) (cl2 := 0) (sl2 := 0) (ct_X11_holds (a1 := 0) (M_savedMany := M_savedMany) (M_isTaken := M_isTaken) (M_length := M_length) (M_thrown := M_thrown) (M_spelt := M_spelt) (M_speltMany := M_speltMany) (M_place := M_place) (M_kind := M_kind) (M_one := M_one) (M_two := M_two) (M_three := M_three) (M_begins := M_begins) (M_done := M_done) (M_stopBy := M_stopBy) (M_hash := M_hash) (M_s := M_s) (M_saved := M_saved) (M_snapshot := M_snapshot) (M_text := M_text) hv5) dX11_ifStorm_26 w1181 ⟨w1183, w20⟩ cal_X11_holds rfl ⟨⟨Nat.le_of_ble_eq_true rfl, Nat.le_of_ble_eq_true rfl⟩, Nat.le_of_ble_eq_true rfl, Nat.le_of_ble_eq_true rfl⟩ (Nat.le_of_ble_eq_true rfl) (Or.inl ⟨_, _, _, _, rfl, rfl⟩) rfl ⟨rfl, ⟨by decide, by decide⟩, rfl, (fr_cons (Or.inl (Nat.le_of_ble_eq_true rfl)) (fr_cons (Or.inl (Nat.le_of_ble_eq_true rfl)) (fr_cons (Or.inl (Nat.le_of_ble_eq_true rfl)) (fr_cons (Or.inl (Nat.le_of_ble_eq_true rfl)) (fr_nil))))), rfl⟩ fr_i rfl rfl rfl rfl ?_
      refine V.if_eq (tgt := 41) dX11_ifStorm_29 (by decide) (fun h => ?_) (fun h => ?_)
      · have hf := fif_t h hf
        refine V.iconst (v := 0) dX11_ifStorm_41 rfl ?_
        obtain rfl := Option.some.inj hf
        exact V.iret dX11_ifStorm_42 rfl (Nat.le_of_ble_eq_true rfl) (Nat.le_of_ble_eq_true rfl) rfl
      · have hf := fif_f h hf
        refine V.aload_n (i := 0) dX11_ifStorm_32 rfl rfl ?_
        refine V.iload_n (i := 1) dX11_ifStorm_33 rfl rfl ?_
        refine V.iload_n (i := 2) dX11_ifStorm_34 rfl rfl ?_
        obtain ⟨v6, hv6, hf⟩ := fbind hf
        refine V.callVn (pl := [0, 1, 2, 3, 4]) (σ' := [.inl (6, [.ref 1, .ref 2, .int M_savedMany, .ref 3, .int M_isTaken, .ref 4, .int M_length, .int v5.2, .int M_spelt, .int M_speltMany, .int M_place, .int M_kind, .int M_one, .int M_two, .int M_three, .int M_begins, .int M_done, .int M_stopBy, .long M_hash]), .inr (406, .inl M_s), .inr (2436, .inl M_saved), .inr (406, .inl M_snapshot), .inr (60, .inl M_text)]) (st2 := [.int v6]) (cl2 := 0) (sl2 := 0) (ct_X11_stormNumber (a1 := a1) (a2 := a2) (M_savedMany := M_savedMany) (M_isTaken := M_isTaken) (M_length := M_length) (M_thrown := v5.2) (M_spelt := M_spelt) (M_speltMany := M_speltMany) (M_place := M_place) (M_kind := M_kind) (M_one := M_one) (M_two := M_two) (M_three := M_three) (M_begins := M_begins) (M_done := M_done) (M_stopBy := M_stopBy) (M_hash := M_hash) (M_s := M_s) (M_saved := M_saved) (M_snapshot := M_snapshot) (M_text := M_text) hv6) dX11_ifStorm_35 w1447 ⟨w1449, w60⟩ cal_X11_stormNumber rfl ⟨⟨Nat.le_of_ble_eq_true rfl, Nat.le_of_ble_eq_true rfl⟩, Nat.le_of_ble_eq_true rfl, Nat.le_of_ble_eq_true rfl⟩ (Nat.le_of_ble_eq_true rfl) (Or.inl ⟨_, _, _, _, rfl, rfl⟩) rfl ⟨rfl, ⟨by decide, by decide⟩, rfl, (fr_cons (Or.inl (Nat.le_of_ble_eq_true rfl)) (fr_cons (Or.inl (Nat.le_of_ble_eq_true rfl)) (fr_cons (Or.inl (Nat.le_of_ble_eq_true rfl)) (fr_cons (Or.inl (Nat.le_of_ble_eq_true rfl)) (fr_nil))))), rfl⟩ fr_i rfl rfl rfl rfl ?_
        refine V.goto (tgt := 42) dX11_ifStorm_38 (by decide) ?_
        obtain rfl := Option.some.inj hf
        exact V.iret dX11_ifStorm_42 rfl (Nat.le_of_ble_eq_true rfl) (Nat.le_of_ble_eq_true rfl) rfl
  · have hf := fif_t h hf
    refine V.iconst (v := 1) dX11_ifStorm_8 rfl ?_
    refine V.goto (tgt := 26) dX11_ifStorm_9 (by decide) ?_
    obtain ⟨v7, hv7, hf⟩ := fbind hf
    refine V.callVn (pl := [0, 1, 2, 3, 4]) (σ' := [.inl (6, [.ref 1, .ref 2, .int M_savedMany, .ref 3, .int M_isTaken, .ref 4, .int M_length, .int v7.2, .int M_spelt, .int M_speltMany, .int M_place, .int M_kind, .int M_one, .int M_two, .int M_three, .int M_begins, .int M_done, .int M_stopBy, .long M_hash]), .inr (406, .inl M_s), .inr (2436, .inl M_saved), .inr (406, .inl M_snapshot), .inr (60, .inl M_text)]) (st2 := [.int v7.1]) (cl2 := 0) (sl2 := 0) (ct_X11_holds (a1 := 1) (M_savedMany := M_savedMany) (M_isTaken := M_isTaken) (M_length := M_length) (M_thrown := M_thrown) (M_spelt := M_spelt) (M_speltMany := M_speltMany) (M_place := M_place) (M_kind := M_kind) (M_one := M_one) (M_two := M_two) (M_three := M_three) (M_begins := M_begins) (M_done := M_done) (M_stopBy := M_stopBy) (M_hash := M_hash) (M_s := M_s) (M_saved := M_saved) (M_snapshot := M_snapshot) (M_text := M_text) hv7) dX11_ifStorm_26 w1181 ⟨w1183, w20⟩ cal_X11_holds rfl ⟨⟨Nat.le_of_ble_eq_true rfl, Nat.le_of_ble_eq_true rfl⟩, Nat.le_of_ble_eq_true rfl, Nat.le_of_ble_eq_true rfl⟩ (Nat.le_of_ble_eq_true rfl) (Or.inl ⟨_, _, _, _, rfl, rfl⟩) rfl ⟨rfl, ⟨by decide, by decide⟩, rfl, (fr_cons (Or.inl (Nat.le_of_ble_eq_true rfl)) (fr_cons (Or.inl (Nat.le_of_ble_eq_true rfl)) (fr_cons (Or.inl (Nat.le_of_ble_eq_true rfl)) (fr_cons (Or.inl (Nat.le_of_ble_eq_true rfl)) (fr_nil))))), rfl⟩ fr_i rfl rfl rfl rfl ?_
    refine V.if_eq (tgt := 41) dX11_ifStorm_29 (by decide) (fun h => ?_) (fun h => ?_)
    · have hf := fif_t h hf
      refine V.iconst (v := 0) dX11_ifStorm_41 rfl ?_
      obtain rfl := Option.some.inj hf
      exact V.iret dX11_ifStorm_42 rfl (Nat.le_of_ble_eq_true rfl) (Nat.le_of_ble_eq_true rfl) rfl
    · have hf := fif_f h hf
      refine V.aload_n (i := 0) dX11_ifStorm_32 rfl rfl ?_
      refine V.iload_n (i := 1) dX11_ifStorm_33 rfl rfl ?_
      refine V.iload_n (i := 2) dX11_ifStorm_34 rfl rfl ?_
      obtain ⟨v8, hv8, hf⟩ := fbind hf
      refine V.callVn (pl := [0, 1, 2, 3, 4]) (σ' := [.inl (6, [.ref 1, .ref 2, .int M_savedMany, .ref 3, .int M_isTaken, .ref 4, .int M_length, .int v7.2, .int M_spelt, .int M_speltMany, .int M_place, .int M_kind, .int M_one, .int M_two, .int M_three, .int M_begins, .int M_done, .int M_stopBy, .long M_hash]), .inr (406, .inl M_s), .inr (2436, .inl M_saved), .inr (406, .inl M_snapshot), .inr (60, .inl M_text)]) (st2 := [.int v8]) (cl2 := 0) (sl2 := 0) (ct_X11_stormNumber (a1 := a1) (a2 := a2) (M_savedMany := M_savedMany) (M_isTaken := M_isTaken) (M_length := M_length) (M_thrown := v7.2) (M_spelt := M_spelt) (M_speltMany := M_speltMany) (M_place := M_place) (M_kind := M_kind) (M_one := M_one) (M_two := M_two) (M_three := M_three) (M_begins := M_begins) (M_done := M_done) (M_stopBy := M_stopBy) (M_hash := M_hash) (M_s := M_s) (M_saved := M_saved) (M_snapshot := M_snapshot) (M_text := M_text) hv8) dX11_ifStorm_35 w1447 ⟨w1449, w60⟩ cal_X11_stormNumber rfl ⟨⟨Nat.le_of_ble_eq_true rfl, Nat.le_of_ble_eq_true rfl⟩, Nat.le_of_ble_eq_true rfl, Nat.le_of_ble_eq_true rfl⟩ (Nat.le_of_ble_eq_true rfl) (Or.inl ⟨_, _, _, _, rfl, rfl⟩) rfl ⟨rfl, ⟨by decide, by decide⟩, rfl, (fr_cons (Or.inl (Nat.le_of_ble_eq_true rfl)) (fr_cons (Or.inl (Nat.le_of_ble_eq_true rfl)) (fr_cons (Or.inl (Nat.le_of_ble_eq_true rfl)) (fr_cons (Or.inl (Nat.le_of_ble_eq_true rfl)) (fr_nil))))), rfl⟩ fr_i rfl rfl rfl rfl ?_
      refine V.goto (tgt := 42) dX11_ifStorm_38 (by decide) ?_
      obtain rfl := Option.some.inj hf
      exact V.iret dX11_ifStorm_42 rfl (Nat.le_of_ble_eq_true rfl) (Nat.le_of_ble_eq_true rfl) rfl
def k_X11_bestBelt : fK := (yX11_bestBelt, cX11_bestBelt, 3, (some .int), [], (7, 152), (0, 0), (0, 0))
theorem cal_X11_bestBelt : fCal k_X11_bestBelt 0 := ⟨⟨wc1454, w73⟩, ⟨by decide +kernel, by decide +kernel⟩, by decide +kernel, by decide +kernel⟩
def s_X11_bestBelt_L30 (M_spelt : Int32) (M_speltMany : Int32) (M_s : Nat → Int32) : Nat → Int32 → Int32 → Option (Int32 × Int32)
  | 0, _, _ => none
  | n + 1, x1, x2 => if (x2 < 0 : Prop) then (some (x1, x2)) else ((s_X11_reason x2 M_spelt M_speltMany M_s).bind fun v3 => if (v3 = 0 : Prop) then (if (x1 = (-1) : Prop) then (s_X11_bestBelt_L30 M_spelt M_speltMany M_s n x2 (x2 + (-1))) else ((s_X11_left x2 M_s).bind fun v4 => (s_X11_left x1 M_s).bind fun v5 => if (v4 < v5 : Prop) then (s_X11_bestBelt_L30 M_spelt M_speltMany M_s n x1 (x2 + (-1))) else (s_X11_bestBelt_L30 M_spelt M_speltMany M_s n x2 (x2 + (-1))))) else (s_X11_bestBelt_L30 M_spelt M_speltMany M_s n x1 (x2 + (-1))))
set_option maxHeartbeats 4000000 in
set_option maxRecDepth 100000 in
theorem v_X11_bestBelt_L30 {out : fO} {σ' : List fE} {M_savedMany : Int32} {M_isTaken : Int32} {M_length : Int32} {M_thrown : Int32} {M_spelt : Int32} {M_speltMany : Int32} {M_place : Int32} {M_kind : Int32} {M_one : Int32} {M_two : Int32} {M_three : Int32} {M_begins : Int32} {M_done : Int32} {M_stopBy : Int32} {M_hash : Int64} {M_s : Nat → Int32} {M_saved : Nat → Int32} {M_snapshot : Nat → Int32} {M_text : Nat → Int32} : ∀ (n : Nat) {x1 : Int32} {x2 : Int32} {res : Int32 × Int32} (hf : s_X11_bestBelt_L30 M_spelt M_speltMany M_s n x1 x2 = some res) (hx : V (fXm 5 k_X11_bestBelt out σ') (krm k_X11_bestBelt) k_X11_bestBelt 5 80 [some (.ref 0), some (.int res.1), some (.int res.2)] [] [.inl (6, [.ref 1, .ref 2, .int M_savedMany, .ref 3, .int M_isTaken, .ref 4, .int M_length, .int M_thrown, .int M_spelt, .int M_speltMany, .int M_place, .int M_kind, .int M_one, .int M_two, .int M_three, .int M_begins, .int M_done, .int M_stopBy, .long M_hash]), .inr (406, .inl M_s), .inr (2436, .inl M_saved), .inr (406, .inl M_snapshot), .inr (60, .inl M_text)] 0 0), V (fXm 5 k_X11_bestBelt out σ') (krm k_X11_bestBelt) k_X11_bestBelt 5 30 [some (.ref 0), some (.int x1), some (.int x2)] [] [.inl (6, [.ref 1, .ref 2, .int M_savedMany, .ref 3, .int M_isTaken, .ref 4, .int M_length, .int M_thrown, .int M_spelt, .int M_speltMany, .int M_place, .int M_kind, .int M_one, .int M_two, .int M_three, .int M_begins, .int M_done, .int M_stopBy, .long M_hash]), .inr (406, .inl M_s), .inr (2436, .inl M_saved), .inr (406, .inl M_snapshot), .inr (60, .inl M_text)] 0 0 := by
  intro n
  induction n with
  | zero =>
    intro x1 x2 res hf hx
    rw [s_X11_bestBelt_L30] at hf
    cases hf
  | succ n ih =>
    intro x1 x2 res hf hx
    rw [s_X11_bestBelt_L30] at hf
    refine V.iload_n (i := 2) dX11_bestBelt_30 rfl rfl ?_
    refine V.if_lt (tgt := 80) dX11_bestBelt_31 (by decide) (fun h => ?_) (fun h => ?_)
    · have hf := fif_t h hf
      obtain rfl := Option.some.inj hf
      exact hx
    · have hf := fif_f h hf
      refine V.aload_n (i := 0) dX11_bestBelt_34 rfl rfl ?_
      refine V.iload_n (i := 2) dX11_bestBelt_35 rfl rfl ?_
      refine V.aload_n (i := 0) dX11_bestBelt_36 rfl rfl ?_
      refine V.getfield (kf := 8) (v := .int M_spelt) fl_RX11 dX11_bestBelt_37 w1051 (Nat.le_of_ble_eq_true rfl) rfl rfl ?_
      refine V.aload_n (i := 0) dX11_bestBelt_40 rfl rfl ?_
      refine V.getfield (kf := 9) (v := .int M_speltMany) fl_RX11 dX11_bestBelt_41 w1052 (Nat.le_of_ble_eq_true rfl) rfl rfl ?_
      obtain ⟨v3, hv3, hf⟩ := fbind hf
      refine V.callVn (pl := [0, 1, 2, 3, 4]) (σ' := [.inl (6, [.ref 1, .ref 2, .int M_savedMany, .ref 3, .int M_isTaken, .ref 4, .int M_length, .int M_thrown, .int M_spelt, .int M_speltMany, .int M_place, .int M_kind, .int M_one, .int M_two, .int M_three, .int M_begins, .int M_done, .int M_stopBy, .long M_hash]), .inr (406, .inl M_s), .inr (2436, .inl M_saved), .inr (406, .inl M_snapshot), .inr (60, .inl M_text)]) (st2 := [.int v3]) (cl2 := 0) (sl2 := 0) (ct_X11_reason (a1 := x2) (a2 := M_spelt) (a3 := M_speltMany) (M_savedMany := M_savedMany) (M_isTaken := M_isTaken) (M_length := M_length) (M_thrown := M_thrown) (M_spelt := M_spelt) (M_speltMany := M_speltMany) (M_place := M_place) (M_kind := M_kind) (M_one := M_one) (M_two := M_two) (M_three := M_three) (M_begins := M_begins) (M_done := M_done) (M_stopBy := M_stopBy) (M_hash := M_hash) (M_s := M_s) (M_saved := M_saved) (M_snapshot := M_snapshot) (M_text := M_text) hv3) dX11_bestBelt_44 w1119 ⟨w1121, w9⟩ cal_X11_reason rfl ⟨⟨Nat.le_of_ble_eq_true rfl, Nat.le_of_ble_eq_true rfl⟩, Nat.le_of_ble_eq_true rfl, Nat.le_of_ble_eq_true rfl⟩ (Nat.le_of_ble_eq_true rfl) (Or.inl ⟨_, _, _, _, rfl, rfl⟩) rfl ⟨rfl, ⟨by decide, by decide⟩, rfl, (fr_cons (Or.inl (Nat.le_of_ble_eq_true rfl)) (fr_cons (Or.inl (Nat.le_of_ble_eq_true rfl)) (fr_cons (Or.inl (Nat.le_of_ble_eq_true rfl)) (fr_cons (Or.inl (Nat.le_of_ble_eq_true rfl)) (fr_nil))))), rfl⟩ fr_i rfl rfl rfl rfl ?_
      refine V.if_ne (tgt := 72) dX11_bestBelt_47 (by decide) (fun h => ?_) (fun h => ?_)
      · have hf := fif_f h hf
        refine V.iload_n (i := 1) dX11_bestBelt_72 rfl rfl ?_
        refine V.istore_n (i := 1) (L' := [some (.ref 0), some (.int x1), some (.int x2)]) dX11_bestBelt_73 rfl (Nat.le_of_ble_eq_true rfl) rfl rfl ?_
        refine V.iinc (i := 2) (v := (x2 + (-1))) (L' := [some (.ref 0), some (.int x1), some (.int (x2 + (-1)))]) dX11_bestBelt_74 rfl rfl (Nat.le_of_ble_eq_true rfl) rfl rfl ?_
        refine V.goto (tgt := 30) dX11_bestBelt_77 (by decide) ?_
        exact ih hf hx
      · have hf := fif_t h hf
        refine V.iload_n (i := 1) dX11_bestBelt_50 rfl rfl ?_
        refine V.iconst (v := (-1)) dX11_bestBelt_51 rfl ?_
        refine V.icmp_eq (tgt := 68) dX11_bestBelt_52 (by decide) (fun h => ?_) (fun h => ?_)
        · have hf := fif_t h hf
          refine V.iload_n (i := 2) dX11_bestBelt_68 rfl rfl ?_
          refine V.goto (tgt := 73) dX11_bestBelt_69 (by decide) ?_
          refine V.istore_n (i := 1) (L' := [some (.ref 0), some (.int x2), some (.int x2)]) dX11_bestBelt_73 rfl (Nat.le_of_ble_eq_true rfl) rfl rfl ?_
          refine V.iinc (i := 2) (v := (x2 + (-1))) (L' := [some (.ref 0), some (.int x2), some (.int (x2 + (-1)))]) dX11_bestBelt_74 rfl rfl (Nat.le_of_ble_eq_true rfl) rfl rfl ?_
          refine V.goto (tgt := 30) dX11_bestBelt_77 (by decide) ?_
          exact ih hf hx
        · have hf := fif_f h hf
          refine V.aload_n (i := 0) dX11_bestBelt_55 rfl rfl ?_
          refine V.iload_n (i := 2) dX11_bestBelt_56 rfl rfl ?_
          obtain ⟨v4, hv4, hf⟩ := fbind hf
          refine V.callVn (pl := [0, 1, 2, 3, 4]) (σ' := [.inl (6, [.ref 1, .ref 2, .int M_savedMany, .ref 3, .int M_isTaken, .ref 4, .int M_length, .int M_thrown, .int M_spelt, .int M_speltMany, .int M_place, .int M_kind, .int M_one, .int M_two, .int M_three, .int M_begins, .int M_done, .int M_stopBy, .long M_hash]), .inr (406, .inl M_s), .inr (2436, .inl M_saved), .inr (406, .inl M_snapshot), .inr (60, .inl M_text)]) (st2 := [.int v4]) (cl2 := 0) (sl2 := 0) (ct_X11_left (a1 := x2) (M_savedMany := M_savedMany) (M_isTaken := M_isTaken) (M_length := M_length) (M_thrown := M_thrown) (M_spelt := M_spelt) (M_speltMany := M_speltMany) (M_place := M_place) (M_kind := M_kind) (M_one := M_one) (M_two := M_two) (M_three := M_three) (M_begins := M_begins) (M_done := M_done) (M_stopBy := M_stopBy) (M_hash := M_hash) (M_s := M_s) (M_saved := M_saved) (M_snapshot := M_snapshot) (M_text := M_text) hv4) dX11_bestBelt_57 w1139 ⟨w1141, w11⟩ cal_X11_left rfl ⟨⟨Nat.le_of_ble_eq_true rfl, Nat.le_of_ble_eq_true rfl⟩, Nat.le_of_ble_eq_true rfl, Nat.le_of_ble_eq_true rfl⟩ (Nat.le_of_ble_eq_true rfl) (Or.inl ⟨_, _, _, _, rfl, rfl⟩) rfl ⟨rfl, ⟨by decide, by decide⟩, rfl, (fr_cons (Or.inl (Nat.le_of_ble_eq_true rfl)) (fr_cons (Or.inl (Nat.le_of_ble_eq_true rfl)) (fr_cons (Or.inl (Nat.le_of_ble_eq_true rfl)) (fr_cons (Or.inl (Nat.le_of_ble_eq_true rfl)) (fr_nil))))), rfl⟩ fr_i rfl rfl rfl rfl ?_
          refine V.aload_n (i := 0) dX11_bestBelt_60 rfl rfl ?_
          refine V.iload_n (i := 1) dX11_bestBelt_61 rfl rfl ?_
          obtain ⟨v5, hv5, hf⟩ := fbind hf
          refine V.callVn (pl := [0, 1, 2, 3, 4]) (σ' := [.inl (6, [.ref 1, .ref 2, .int M_savedMany, .ref 3, .int M_isTaken, .ref 4, .int M_length, .int M_thrown, .int M_spelt, .int M_speltMany, .int M_place, .int M_kind, .int M_one, .int M_two, .int M_three, .int M_begins, .int M_done, .int M_stopBy, .long M_hash]), .inr (406, .inl M_s), .inr (2436, .inl M_saved), .inr (406, .inl M_snapshot), .inr (60, .inl M_text)]) (st2 := [.int v5, .int v4]) (cl2 := 0) (sl2 := 0) (ct_X11_left (a1 := x1) (M_savedMany := M_savedMany) (M_isTaken := M_isTaken) (M_length := M_length) (M_thrown := M_thrown) (M_spelt := M_spelt) (M_speltMany := M_speltMany) (M_place := M_place) (M_kind := M_kind) (M_one := M_one) (M_two := M_two) (M_three := M_three) (M_begins := M_begins) (M_done := M_done) (M_stopBy := M_stopBy) (M_hash := M_hash) (M_s := M_s) (M_saved := M_saved) (M_snapshot := M_snapshot) (M_text := M_text) hv5) dX11_bestBelt_62 w1139 ⟨w1141, w11⟩ cal_X11_left rfl ⟨⟨Nat.le_of_ble_eq_true rfl, Nat.le_of_ble_eq_true rfl⟩, Nat.le_of_ble_eq_true rfl, Nat.le_of_ble_eq_true rfl⟩ (Nat.le_of_ble_eq_true rfl) (Or.inl ⟨_, _, _, _, rfl, rfl⟩) rfl ⟨rfl, ⟨by decide, by decide⟩, rfl, (fr_cons (Or.inl (Nat.le_of_ble_eq_true rfl)) (fr_cons (Or.inl (Nat.le_of_ble_eq_true rfl)) (fr_cons (Or.inl (Nat.le_of_ble_eq_true rfl)) (fr_cons (Or.inl (Nat.le_of_ble_eq_true rfl)) (fr_nil))))), rfl⟩ fr_i rfl rfl rfl rfl ?_
          refine V.icmp_lt (tgt := 72) dX11_bestBelt_65 (by decide) (fun h => ?_) (fun h => ?_)
          · have hf := fif_t h hf
            refine V.iload_n (i := 1) dX11_bestBelt_72 rfl rfl ?_
            refine V.istore_n (i := 1) (L' := [some (.ref 0), some (.int x1), some (.int x2)]) dX11_bestBelt_73 rfl (Nat.le_of_ble_eq_true rfl) rfl rfl ?_
            refine V.iinc (i := 2) (v := (x2 + (-1))) (L' := [some (.ref 0), some (.int x1), some (.int (x2 + (-1)))]) dX11_bestBelt_74 rfl rfl (Nat.le_of_ble_eq_true rfl) rfl rfl ?_
            refine V.goto (tgt := 30) dX11_bestBelt_77 (by decide) ?_
            exact ih hf hx
          · have hf := fif_f h hf
            refine V.iload_n (i := 2) dX11_bestBelt_68 rfl rfl ?_
            refine V.goto (tgt := 73) dX11_bestBelt_69 (by decide) ?_
            refine V.istore_n (i := 1) (L' := [some (.ref 0), some (.int x2), some (.int x2)]) dX11_bestBelt_73 rfl (Nat.le_of_ble_eq_true rfl) rfl rfl ?_
            refine V.iinc (i := 2) (v := (x2 + (-1))) (L' := [some (.ref 0), some (.int x2), some (.int (x2 + (-1)))]) dX11_bestBelt_74 rfl rfl (Nat.le_of_ble_eq_true rfl) rfl rfl ?_
            refine V.goto (tgt := 30) dX11_bestBelt_77 (by decide) ?_
            exact ih hf hx
def s_X11_bestBelt (M_length : Int32) (M_thrown : Int32) (M_spelt : Int32) (M_speltMany : Int32) (M_s : Nat → Int32) (M_text : Nat → Int32) : Option (Int32 × (Int32) × (Int32) × (Int32)) := (s_X11_isSpelt 0 M_length M_spelt M_speltMany M_text).bind fun v1 => if (v1.1 = 0 : Prop) then ((s_X11_holds 1 M_thrown).bind fun v2 => if (v2.1 = 0 : Prop) then (some (0, v2.2, v1.2.1, v1.2.2)) else ((s_X11_bestBelt_L30 v1.2.1 v1.2.2 M_s gF (-1) 4).bind fun r6 => some (r6.1, v2.2, v1.2.1, v1.2.2))) else ((s_X11_holds 0 M_thrown).bind fun v7 => if (v7.1 = 0 : Prop) then (some (0, v7.2, v1.2.1, v1.2.2)) else ((s_X11_bestBelt_L30 v1.2.1 v1.2.2 M_s gF (-1) 4).bind fun r8 => some (r8.1, v7.2, v1.2.1, v1.2.2)))
set_option maxHeartbeats 4000000 in
set_option maxRecDepth 100000 in
theorem ct_X11_bestBelt {M_savedMany : Int32} {M_isTaken : Int32} {M_length : Int32} {M_thrown : Int32} {M_spelt : Int32} {M_speltMany : Int32} {M_place : Int32} {M_kind : Int32} {M_one : Int32} {M_two : Int32} {M_three : Int32} {M_begins : Int32} {M_done : Int32} {M_stopBy : Int32} {M_hash : Int64} {M_s : Nat → Int32} {M_saved : Nat → Int32} {M_snapshot : Nat → Int32} {M_text : Nat → Int32} {res : Int32 × (Int32) × (Int32) × (Int32)} (hf : s_X11_bestBelt M_length M_thrown M_spelt M_speltMany M_s M_text = some res) : Ct k_X11_bestBelt [.ref 0] [.inl (6, [.ref 1, .ref 2, .int M_savedMany, .ref 3, .int M_isTaken, .ref 4, .int M_length, .int M_thrown, .int M_spelt, .int M_speltMany, .int M_place, .int M_kind, .int M_one, .int M_two, .int M_three, .int M_begins, .int M_done, .int M_stopBy, .long M_hash]), .inr (406, .inl M_s), .inr (2436, .inl M_saved), .inr (406, .inl M_snapshot), .inr (60, .inl M_text)] (.inl (some (.int res.1))) [.inl (6, [.ref 1, .ref 2, .int M_savedMany, .ref 3, .int M_isTaken, .ref 4, .int M_length, .int res.2.1, .int res.2.2.1, .int res.2.2.2, .int M_place, .int M_kind, .int M_one, .int M_two, .int M_three, .int M_begins, .int M_done, .int M_stopBy, .long M_hash]), .inr (406, .inl M_s), .inr (2436, .inl M_saved), .inr (406, .inl M_snapshot), .inr (60, .inl M_text)] := by
  unfold s_X11_bestBelt at hf
  refine Ct.of (L := [some (.ref 0), none, none]) cal_X11_bestBelt (fent_pad (j := 2) rfl) (Nat.le_of_ble_eq_true rfl) ?_
  refine V.aload_n (i := 0) dX11_bestBelt_0 rfl rfl ?_
  refine V.aload_n (i := 0) dX11_bestBelt_1 rfl rfl ?_
  refine V.iconst (v := 0) dX11_bestBelt_2 rfl ?_
  refine V.aload_n (i := 0) dX11_bestBelt_3 rfl rfl ?_
  refine V.getfield (kf := 6) (v := .int M_length) fl_RX11 dX11_bestBelt_4 w1049 (Nat.le_of_ble_eq_true rfl) rfl rfl ?_
  obtain ⟨v1, hv1, hf⟩ := fbind hf
  refine V.callVn (pl := [0, 1, 2, 3, 4]) (σ' := [.inl (6, [.ref 1, .ref 2, .int M_savedMany, .ref 3, .int M_isTaken, .ref 4, .int M_length, .int M_thrown, .int v1.2.1, .int v1.2.2, .int M_place, .int M_kind, .int M_one, .int M_two, .int M_three, .int M_begins, .int M_done, .int M_stopBy, .long M_hash]), .inr (406, .inl M_s), .inr (2436, .inl M_saved), .inr (406, .inl M_snapshot), .inr (60, .inl M_text)]) (st2 := [.int v1.1, .ref 0]) (cl2 := 0) (sl2 := 0) (ct_X11_isSpelt (a1 := 0) (a2 := M_length) (M_savedMany := M_savedMany) (M_isTaken := M_isTaken) (M_length := M_length) (M_thrown := M_thrown) (M_spelt := M_spelt) (M_speltMany := M_speltMany) (M_place := M_place) (M_kind := M_kind) (M_one := M_one) (M_two := M_two) (M_three := M_three) (M_begins := M_begins) (M_done := M_done) (M_stopBy := M_stopBy) (M_hash := M_hash) (M_s := M_s) (M_saved := M_saved) (M_snapshot := M_snapshot) (M_text := M_text) hv1) dX11_bestBelt_7 w1109 ⟨w1111, w8⟩ cal_X11_isSpelt rfl ⟨⟨Nat.le_of_ble_eq_true rfl, Nat.le_of_ble_eq_true rfl⟩, Nat.le_of_ble_eq_true rfl, Nat.le_of_ble_eq_true rfl⟩ (Nat.le_of_ble_eq_true rfl) (Or.inl ⟨_, _, _, _, rfl, rfl⟩) rfl ⟨rfl, ⟨by decide, by decide⟩, rfl, (fr_cons (Or.inl (Nat.le_of_ble_eq_true rfl)) (fr_cons (Or.inl (Nat.le_of_ble_eq_true rfl)) (fr_cons (Or.inl (Nat.le_of_ble_eq_true rfl)) (fr_cons (Or.inl (Nat.le_of_ble_eq_true rfl)) (fr_nil))))), rfl⟩ fr_i rfl rfl rfl rfl ?_
  refine V.if_eq (tgt := 17) dX11_bestBelt_10 (by decide) (fun h => ?_) (fun h => ?_)
  · have hf := fif_t h hf
    refine V.iconst (v := 1) dX11_bestBelt_17 rfl ?_
    obtain ⟨v2, hv2, hf⟩ := fbind hf
    refine V.callVn (pl := [0, 1, 2, 3, 4]) (σ' := [.inl (6, [.ref 1, .ref 2, .int M_savedMany, .ref 3, .int M_isTaken, .ref 4, .int M_length, .int v2.2, .int v1.2.1, .int v1.2.2, .int M_place, .int M_kind, .int M_one, .int M_two, .int M_three, .int M_begins, .int M_done, .int M_stopBy, .long M_hash]), .inr (406, .inl M_s), .inr (2436, .inl M_saved), .inr (406, .inl M_snapshot), .inr (60, .inl M_text)]) (st2 := [.int v2.1]) (cl2 := 0) (sl2 := 0) (ct_X11_holds (a1 := 1) (M_savedMany := M_savedMany) (M_isTaken := M_isTaken) (M_length := M_length) (M_thrown := M_thrown) (M_spelt := v1.2.1) (M_speltMany := v1.2.2) (M_place := M_place) (M_kind := M_kind) (M_one := M_one) (M_two := M_two) (M_three := M_three) (M_begins := M_begins) (M_done := M_done) (M_stopBy := M_stopBy) (M_hash := M_hash) (M_s := M_s) (M_saved := M_saved) (M_snapshot := M_snapshot) (M_text := M_text) hv2) dX11_bestBelt_18 w1181 ⟨w1183, w20⟩ cal_X11_holds rfl ⟨⟨Nat.le_of_ble_eq_true rfl, Nat.le_of_ble_eq_true rfl⟩, Nat.le_of_ble_eq_true rfl, Nat.le_of_ble_eq_true rfl⟩ (Nat.le_of_ble_eq_true rfl) (Or.inl ⟨_, _, _, _, rfl, rfl⟩) rfl ⟨rfl, ⟨by decide, by decide⟩, rfl, (fr_cons (Or.inl (Nat.le_of_ble_eq_true rfl)) (fr_cons (Or.inl (Nat.le_of_ble_eq_true rfl)) (fr_cons (Or.inl (Nat.le_of_ble_eq_true rfl)) (fr_cons (Or.inl (Nat.le_of_ble_eq_true rfl)) (fr_nil))))), rfl⟩ fr_i rfl rfl rfl rfl ?_
    refine V.if_ne (tgt := 26) dX11_bestBelt_21 (by decide) (fun h => ?_) (fun h => ?_)
    · have hf := fif_f h hf
      refine V.iconst (v := (-1)) dX11_bestBelt_26 rfl ?_
      refine V.istore_n (i := 1) (L' := [some (.ref 0), some (.int (-1)), none]) dX11_bestBelt_27 rfl (Nat.le_of_ble_eq_true rfl) rfl rfl ?_
      refine V.iconst (v := 4) dX11_bestBelt_28 rfl ?_
      refine V.istore_n (i := 2) (L' := [some (.ref 0), some (.int (-1)), some (.int 4)]) dX11_bestBelt_29 rfl (Nat.le_of_ble_eq_true rfl) rfl rfl ?_
      obtain ⟨r6, hr6, hf⟩ := fbind hf
      refine v_X11_bestBelt_L30 gF hr6 ?_
      refine V.iload_n (i := 1) dX11_bestBelt_80 rfl rfl ?_
      obtain rfl := Option.some.inj hf
      exact V.iret dX11_bestBelt_81 rfl (Nat.le_of_ble_eq_true rfl) (Nat.le_of_ble_eq_true rfl) rfl
    · have hf := fif_t h hf
      refine V.iconst (v := 0) dX11_bestBelt_24 rfl ?_
      obtain rfl := Option.some.inj hf
      exact V.iret dX11_bestBelt_25 rfl (Nat.le_of_ble_eq_true rfl) (Nat.le_of_ble_eq_true rfl) rfl
  · have hf := fif_f h hf
    refine V.iconst (v := 0) dX11_bestBelt_13 rfl ?_
    refine V.goto (tgt := 18) dX11_bestBelt_14 (by decide) ?_
    obtain ⟨v7, hv7, hf⟩ := fbind hf
    refine V.callVn (pl := [0, 1, 2, 3, 4]) (σ' := [.inl (6, [.ref 1, .ref 2, .int M_savedMany, .ref 3, .int M_isTaken, .ref 4, .int M_length, .int v7.2, .int v1.2.1, .int v1.2.2, .int M_place, .int M_kind, .int M_one, .int M_two, .int M_three, .int M_begins, .int M_done, .int M_stopBy, .long M_hash]), .inr (406, .inl M_s), .inr (2436, .inl M_saved), .inr (406, .inl M_snapshot), .inr (60, .inl M_text)]) (st2 := [.int v7.1]) (cl2 := 0) (sl2 := 0) (ct_X11_holds (a1 := 0) (M_savedMany := M_savedMany) (M_isTaken := M_isTaken) (M_length := M_length) (M_thrown := M_thrown) (M_spelt := v1.2.1) (M_speltMany := v1.2.2) (M_place := M_place) (M_kind := M_kind) (M_one := M_one) (M_two := M_two) (M_three := M_three) (M_begins := M_begins) (M_done := M_done) (M_stopBy := M_stopBy) (M_hash := M_hash) (M_s := M_s) (M_saved := M_saved) (M_snapshot := M_snapshot) (M_text := M_text) hv7) dX11_bestBelt_18 w1181 ⟨w1183, w20⟩ cal_X11_holds rfl ⟨⟨Nat.le_of_ble_eq_true rfl, Nat.le_of_ble_eq_true rfl⟩, Nat.le_of_ble_eq_true rfl, Nat.le_of_ble_eq_true rfl⟩ (Nat.le_of_ble_eq_true rfl) (Or.inl ⟨_, _, _, _, rfl, rfl⟩) rfl ⟨rfl, ⟨by decide, by decide⟩, rfl, (fr_cons (Or.inl (Nat.le_of_ble_eq_true rfl)) (fr_cons (Or.inl (Nat.le_of_ble_eq_true rfl)) (fr_cons (Or.inl (Nat.le_of_ble_eq_true rfl)) (fr_cons (Or.inl (Nat.le_of_ble_eq_true rfl)) (fr_nil))))), rfl⟩ fr_i rfl rfl rfl rfl ?_
    refine V.if_ne (tgt := 26) dX11_bestBelt_21 (by decide) (fun h => ?_) (fun h => ?_)
    · have hf := fif_f h hf
      refine V.iconst (v := (-1)) dX11_bestBelt_26 rfl ?_
      refine V.istore_n (i := 1) (L' := [some (.ref 0), some (.int (-1)), none]) dX11_bestBelt_27 rfl (Nat.le_of_ble_eq_true rfl) rfl rfl ?_
      refine V.iconst (v := 4) dX11_bestBelt_28 rfl ?_
      refine V.istore_n (i := 2) (L' := [some (.ref 0), some (.int (-1)), some (.int 4)]) dX11_bestBelt_29 rfl (Nat.le_of_ble_eq_true rfl) rfl rfl ?_
      obtain ⟨r8, hr8, hf⟩ := fbind hf
      refine v_X11_bestBelt_L30 gF hr8 ?_
      refine V.iload_n (i := 1) dX11_bestBelt_80 rfl rfl ?_
      obtain rfl := Option.some.inj hf
      exact V.iret dX11_bestBelt_81 rfl (Nat.le_of_ble_eq_true rfl) (Nat.le_of_ble_eq_true rfl) rfl
    · have hf := fif_t h hf
      refine V.iconst (v := 0) dX11_bestBelt_24 rfl ?_
      obtain rfl := Option.some.inj hf
      exact V.iret dX11_bestBelt_25 rfl (Nat.le_of_ble_eq_true rfl) (Nat.le_of_ble_eq_true rfl) rfl
def k_X11_shareNumber : fK := (yX11_shareNumber, cX11_shareNumber, 2, (some .double), [], (5, 115), (0, 0), (0, 0))
theorem cal_X11_shareNumber : fCal k_X11_shareNumber 0 := ⟨⟨wc1462, w73⟩, ⟨by decide +kernel, by decide +kernel⟩, by decide +kernel, by decide +kernel⟩
def s_X11_shareNumber (M_s : Nat → Int32) : Option (UInt64) := (s_X11_allKnots M_s).bind fun v1 => if (v1 = 0 : Prop) then (some FP.dconst1) else ((s_X11_allLoosened 1 M_s).bind fun v2 => fnn (FP.ddiv (FP.i2d (v1 - v2)) (FP.i2d v1)) fun v3 => some v3)
set_option maxHeartbeats 4000000 in
set_option maxRecDepth 100000 in
theorem ct_X11_shareNumber {M_savedMany : Int32} {M_isTaken : Int32} {M_length : Int32} {M_thrown : Int32} {M_spelt : Int32} {M_speltMany : Int32} {M_place : Int32} {M_kind : Int32} {M_one : Int32} {M_two : Int32} {M_three : Int32} {M_begins : Int32} {M_done : Int32} {M_stopBy : Int32} {M_hash : Int64} {M_s : Nat → Int32} {M_saved : Nat → Int32} {M_snapshot : Nat → Int32} {M_text : Nat → Int32} {res : UInt64} (hf : s_X11_shareNumber M_s = some res) : Ct k_X11_shareNumber [.ref 0] [.inl (6, [.ref 1, .ref 2, .int M_savedMany, .ref 3, .int M_isTaken, .ref 4, .int M_length, .int M_thrown, .int M_spelt, .int M_speltMany, .int M_place, .int M_kind, .int M_one, .int M_two, .int M_three, .int M_begins, .int M_done, .int M_stopBy, .long M_hash]), .inr (406, .inl M_s), .inr (2436, .inl M_saved), .inr (406, .inl M_snapshot), .inr (60, .inl M_text)] (.inl (some (.double res))) [.inl (6, [.ref 1, .ref 2, .int M_savedMany, .ref 3, .int M_isTaken, .ref 4, .int M_length, .int M_thrown, .int M_spelt, .int M_speltMany, .int M_place, .int M_kind, .int M_one, .int M_two, .int M_three, .int M_begins, .int M_done, .int M_stopBy, .long M_hash]), .inr (406, .inl M_s), .inr (2436, .inl M_saved), .inr (406, .inl M_snapshot), .inr (60, .inl M_text)] := by
  unfold s_X11_shareNumber at hf
  refine Ct.of (L := [some (.ref 0), none]) cal_X11_shareNumber (fent_pad (j := 1) rfl) (Nat.le_of_ble_eq_true rfl) ?_
  refine V.aload_n (i := 0) dX11_shareNumber_0 rfl rfl ?_
  obtain ⟨v1, hv1, hf⟩ := fbind hf
  refine V.callVn (pl := [0, 1, 2, 3, 4]) (σ' := [.inl (6, [.ref 1, .ref 2, .int M_savedMany, .ref 3, .int M_isTaken, .ref 4, .int M_length, .int M_thrown, .int M_spelt, .int M_speltMany, .int M_place, .int M_kind, .int M_one, .int M_two, .int M_three, .int M_begins, .int M_done, .int M_stopBy, .long M_hash]), .inr (406, .inl M_s), .inr (2436, .inl M_saved), .inr (406, .inl M_snapshot), .inr (60, .inl M_text)]) (st2 := [.int v1]) (cl2 := 0) (sl2 := 0) (ct_X11_allKnots (M_savedMany := M_savedMany) (M_isTaken := M_isTaken) (M_length := M_length) (M_thrown := M_thrown) (M_spelt := M_spelt) (M_speltMany := M_speltMany) (M_place := M_place) (M_kind := M_kind) (M_one := M_one) (M_two := M_two) (M_three := M_three) (M_begins := M_begins) (M_done := M_done) (M_stopBy := M_stopBy) (M_hash := M_hash) (M_s := M_s) (M_saved := M_saved) (M_snapshot := M_snapshot) (M_text := M_text) hv1) dX11_shareNumber_1 w1463 ⟨w1465, w62⟩ cal_X11_allKnots rfl ⟨⟨Nat.le_of_ble_eq_true rfl, Nat.le_of_ble_eq_true rfl⟩, Nat.le_of_ble_eq_true rfl, Nat.le_of_ble_eq_true rfl⟩ (Nat.le_of_ble_eq_true rfl) (Or.inl ⟨_, _, _, _, rfl, rfl⟩) rfl ⟨rfl, ⟨by decide, by decide⟩, rfl, (fr_cons (Or.inl (Nat.le_of_ble_eq_true rfl)) (fr_cons (Or.inl (Nat.le_of_ble_eq_true rfl)) (fr_cons (Or.inl (Nat.le_of_ble_eq_true rfl)) (fr_cons (Or.inl (Nat.le_of_ble_eq_true rfl)) (fr_nil))))), rfl⟩ fr_i rfl rfl rfl rfl ?_
  refine V.istore_n (i := 1) (L' := [some (.ref 0), some (.int v1)]) dX11_shareNumber_4 rfl (Nat.le_of_ble_eq_true rfl) rfl rfl ?_
  refine V.iload_n (i := 1) dX11_shareNumber_5 rfl rfl ?_
  refine V.if_ne (tgt := 13) dX11_shareNumber_6 (by decide) (fun h => ?_) (fun h => ?_)
  · have hf := fif_f h hf
    refine V.iload_n (i := 1) dX11_shareNumber_13 rfl rfl ?_
    refine V.aload_n (i := 0) dX11_shareNumber_14 rfl rfl ?_
    refine V.iconst (v := 1) dX11_shareNumber_15 rfl ?_
    obtain ⟨v2, hv2, hf⟩ := fbind hf
    refine V.callVn (pl := [0, 1, 2, 3, 4]) (σ' := [.inl (6, [.ref 1, .ref 2, .int M_savedMany, .ref 3, .int M_isTaken, .ref 4, .int M_length, .int M_thrown, .int M_spelt, .int M_speltMany, .int M_place, .int M_kind, .int M_one, .int M_two, .int M_three, .int M_begins, .int M_done, .int M_stopBy, .long M_hash]), .inr (406, .inl M_s), .inr (2436, .inl M_saved), .inr (406, .inl M_snapshot), .inr (60, .inl M_text)]) (st2 := [.int v2, .int v1]) (cl2 := 0) (sl2 := 0) (ct_X11_allLoosened (a1 := 1) (M_savedMany := M_savedMany) (M_isTaken := M_isTaken) (M_length := M_length) (M_thrown := M_thrown) (M_spelt := M_spelt) (M_speltMany := M_speltMany) (M_place := M_place) (M_kind := M_kind) (M_one := M_one) (M_two := M_two) (M_three := M_three) (M_begins := M_begins) (M_done := M_done) (M_stopBy := M_stopBy) (M_hash := M_hash) (M_s := M_s) (M_saved := M_saved) (M_snapshot := M_snapshot) (M_text := M_text) hv2) dX11_shareNumber_16 w1419 ⟨w1421, w56⟩ cal_X11_allLoosened rfl ⟨⟨Nat.le_of_ble_eq_true rfl, Nat.le_of_ble_eq_true rfl⟩, Nat.le_of_ble_eq_true rfl, Nat.le_of_ble_eq_true rfl⟩ (Nat.le_of_ble_eq_true rfl) (Or.inl ⟨_, _, _, _, rfl, rfl⟩) rfl ⟨rfl, ⟨by decide, by decide⟩, rfl, (fr_cons (Or.inl (Nat.le_of_ble_eq_true rfl)) (fr_cons (Or.inl (Nat.le_of_ble_eq_true rfl)) (fr_cons (Or.inl (Nat.le_of_ble_eq_true rfl)) (fr_cons (Or.inl (Nat.le_of_ble_eq_true rfl)) (fr_nil))))), rfl⟩ fr_i rfl rfl rfl rfl ?_
    refine V.isub dX11_shareNumber_19 ?_
    refine V.i2d dX11_shareNumber_20 ?_
    refine V.iload_n (i := 1) dX11_shareNumber_21 rfl rfl ?_
    refine V.i2d dX11_shareNumber_22 ?_
    obtain ⟨hn, v3, ev3, hf⟩ := fnn_e hf
    refine V.ddiv dX11_shareNumber_23 hn ?_
    refine V.cgd ev3 ?_
    obtain rfl := Option.some.inj hf
    exact V.dret dX11_shareNumber_24 rfl (Nat.le_of_ble_eq_true rfl) (Nat.le_of_ble_eq_true rfl) rfl
  · have hf := fif_t h hf
    refine V.dconst1 dX11_shareNumber_9 ?_
    refine V.goto (tgt := 24) dX11_shareNumber_10 (by decide) ?_
    obtain rfl := Option.some.inj hf
    exact V.dret dX11_shareNumber_24 rfl (Nat.le_of_ble_eq_true rfl) (Nat.le_of_ble_eq_true rfl) rfl
def k_X11_trueShare : fK := (yX11_trueShare, cX11_trueShare, 1, (some .double), [], (6, 136), (0, 0), (0, 0))
theorem cal_X11_trueShare : fCal k_X11_trueShare 0 := ⟨⟨wc1458, w73⟩, ⟨by decide +kernel, by decide +kernel⟩, by decide +kernel, by decide +kernel⟩
def s_X11_trueShare (M_thrown : Int32) (M_s : Nat → Int32) : Option (UInt64 × (Int32)) := (s_X11_shareNumber M_s).bind fun v1 => some (v1, 0)
set_option maxHeartbeats 4000000 in
set_option maxRecDepth 100000 in
theorem ct_X11_trueShare {M_savedMany : Int32} {M_isTaken : Int32} {M_length : Int32} {M_thrown : Int32} {M_spelt : Int32} {M_speltMany : Int32} {M_place : Int32} {M_kind : Int32} {M_one : Int32} {M_two : Int32} {M_three : Int32} {M_begins : Int32} {M_done : Int32} {M_stopBy : Int32} {M_hash : Int64} {M_s : Nat → Int32} {M_saved : Nat → Int32} {M_snapshot : Nat → Int32} {M_text : Nat → Int32} {res : UInt64 × (Int32)} (hf : s_X11_trueShare M_thrown M_s = some res) : Ct k_X11_trueShare [.ref 0] [.inl (6, [.ref 1, .ref 2, .int M_savedMany, .ref 3, .int M_isTaken, .ref 4, .int M_length, .int M_thrown, .int M_spelt, .int M_speltMany, .int M_place, .int M_kind, .int M_one, .int M_two, .int M_three, .int M_begins, .int M_done, .int M_stopBy, .long M_hash]), .inr (406, .inl M_s), .inr (2436, .inl M_saved), .inr (406, .inl M_snapshot), .inr (60, .inl M_text)] (.inl (some (.double res.1))) [.inl (6, [.ref 1, .ref 2, .int M_savedMany, .ref 3, .int M_isTaken, .ref 4, .int M_length, .int res.2, .int M_spelt, .int M_speltMany, .int M_place, .int M_kind, .int M_one, .int M_two, .int M_three, .int M_begins, .int M_done, .int M_stopBy, .long M_hash]), .inr (406, .inl M_s), .inr (2436, .inl M_saved), .inr (406, .inl M_snapshot), .inr (60, .inl M_text)] := by
  unfold s_X11_trueShare at hf
  refine Ct.of (L := [some (.ref 0)]) cal_X11_trueShare (fent_pad (j := 0) rfl) (Nat.le_of_ble_eq_true rfl) ?_
  refine V.aload_n (i := 0) dX11_trueShare_0 rfl rfl ?_
  refine V.iconst (v := 0) dX11_trueShare_1 rfl ?_
  refine V.putfield (ty := tyX11) (kf := 7) (σ' := [.inl (6, [.ref 1, .ref 2, .int M_savedMany, .ref 3, .int M_isTaken, .ref 4, .int M_length, .int 0, .int M_spelt, .int M_speltMany, .int M_place, .int M_kind, .int M_one, .int M_two, .int M_three, .int M_begins, .int M_done, .int M_stopBy, .long M_hash]), .inr (406, .inl M_s), .inr (2436, .inl M_saved), .inr (406, .inl M_snapshot), .inr (60, .inl M_text)]) fl_RX11 dX11_trueShare_2 w1050 (Nat.le_of_ble_eq_true rfl) rfl (fun _ => ⟨rfl, rfl⟩) rfl (Nat.le_of_ble_eq_true rfl) rfl ?_
  refine V.aload_n (i := 0) dX11_trueShare_5 rfl rfl ?_
  obtain ⟨v1, hv1, hf⟩ := fbind hf
  refine V.callVn (pl := [0, 1, 2, 3, 4]) (σ' := [.inl (6, [.ref 1, .ref 2, .int M_savedMany, .ref 3, .int M_isTaken, .ref 4, .int M_length, .int 0, .int M_spelt, .int M_speltMany, .int M_place, .int M_kind, .int M_one, .int M_two, .int M_three, .int M_begins, .int M_done, .int M_stopBy, .long M_hash]), .inr (406, .inl M_s), .inr (2436, .inl M_saved), .inr (406, .inl M_snapshot), .inr (60, .inl M_text)]) (st2 := [.double v1]) (cl2 := 0) (sl2 := 0) (ct_X11_shareNumber (M_savedMany := M_savedMany) (M_isTaken := M_isTaken) (M_length := M_length) (M_thrown := 0) (M_spelt := M_spelt) (M_speltMany := M_speltMany) (M_place := M_place) (M_kind := M_kind) (M_one := M_one) (M_two := M_two) (M_three := M_three) (M_begins := M_begins) (M_done := M_done) (M_stopBy := M_stopBy) (M_hash := M_hash) (M_s := M_s) (M_saved := M_saved) (M_snapshot := M_snapshot) (M_text := M_text) hv1) dX11_trueShare_6 w1459 ⟨w1461, w61⟩ cal_X11_shareNumber rfl ⟨⟨Nat.le_of_ble_eq_true rfl, Nat.le_of_ble_eq_true rfl⟩, Nat.le_of_ble_eq_true rfl, Nat.le_of_ble_eq_true rfl⟩ (Nat.le_of_ble_eq_true rfl) (Or.inl ⟨_, _, _, _, rfl, rfl⟩) rfl ⟨rfl, ⟨by decide, by decide⟩, rfl, (fr_cons (Or.inl (Nat.le_of_ble_eq_true rfl)) (fr_cons (Or.inl (Nat.le_of_ble_eq_true rfl)) (fr_cons (Or.inl (Nat.le_of_ble_eq_true rfl)) (fr_cons (Or.inl (Nat.le_of_ble_eq_true rfl)) (fr_nil))))), rfl⟩ fr_d rfl rfl rfl rfl ?_
  obtain rfl := Option.some.inj hf
  exact V.dret dX11_trueShare_9 rfl (Nat.le_of_ble_eq_true rfl) (Nat.le_of_ble_eq_true rfl) rfl
def k_X11_bitsOf : fK := (yX11_bitsOf, cX11_bitsOf, 6, (some .long), [], (0, 0), (0, 0), (0, 0))
theorem cal_X11_bitsOf : fCal k_X11_bitsOf 1 := ⟨⟨wc1487, w73⟩, ⟨by decide +kernel, by decide +kernel⟩, by decide +kernel, by decide +kernel⟩
def s_X11_bitsOf_L15 : Nat → Int64 → UInt64 → Option (Int64 × UInt64)
  | 0, _, _ => none
  | n + 1, x2, x4 => if (0 ≤ (Op.cmpValue (FP.dcmp x4 FP.dconst1) .g) : Prop) then (some (x2, x4)) else (fnn (FP.dmul x4 4611686018427387904) fun v1 => s_X11_bitsOf_L15 n (x2 - 1) v1)
set_option maxHeartbeats 4000000 in
set_option maxRecDepth 100000 in
theorem v_X11_bitsOf_L15 {out : fO} {σ' : List fE} {p0 : UInt64} : ∀ (n : Nat) {x2 : Int64} {x4 : UInt64} {res : Int64 × UInt64} (hf : s_X11_bitsOf_L15 n x2 x4 = some res) (hx : V (fXm 0 k_X11_bitsOf out σ') (krm k_X11_bitsOf) k_X11_bitsOf 0 37 [some (.double p0), none, some (.long res.1), none, some (.double res.2), none] [] [] 0 0), V (fXm 0 k_X11_bitsOf out σ') (krm k_X11_bitsOf) k_X11_bitsOf 0 15 [some (.double p0), none, some (.long x2), none, some (.double x4), none] [] [] 0 0 := by
  intro n
  induction n with
  | zero =>
    intro x2 x4 res hf hx
    rw [s_X11_bitsOf_L15] at hf
    cases hf
  | succ n ih =>
    intro x2 x4 res hf hx
    rw [s_X11_bitsOf_L15] at hf
    refine V.dload (i := 4) dX11_bitsOf_15 rfl ?_
    refine V.dconst1 dX11_bitsOf_17 ?_
    refine V.dcmp dX11_bitsOf_18 ?_
    refine V.if_ge (tgt := 37) dX11_bitsOf_19 (by decide) (fun h => ?_) (fun h => ?_)
    · have hf := fif_t h hf
      obtain rfl := Option.some.inj hf
      exact hx
    · have hf := fif_f h hf
      refine V.dload (i := 4) dX11_bitsOf_22 rfl ?_
      refine V.ldc2d (v := 4611686018427387904) dX11_bitsOf_24 w1489 ?_
      obtain ⟨hn, v1, ev1, hf⟩ := fnn_e hf
      refine V.dmul dX11_bitsOf_27 hn ?_
      refine V.cgd ev1 ?_
      refine V.dstore (i := 4) (L' := [some (.double p0), none, some (.long x2), none, some (.double v1), none]) dX11_bitsOf_28 (Nat.le_of_ble_eq_true rfl) rfl rfl ?_
      refine V.lload_n (i := 2) dX11_bitsOf_30 rfl rfl ?_
      refine V.lconst (v := 1) dX11_bitsOf_31 rfl ?_
      refine V.lsub dX11_bitsOf_32 ?_
      refine V.lstore_n (i := 2) (L' := [some (.double p0), none, some (.long (x2 - 1)), none, some (.double v1), none]) dX11_bitsOf_33 rfl (Nat.le_of_ble_eq_true rfl) rfl rfl ?_
      refine V.goto (tgt := 15) dX11_bitsOf_34 (by decide) ?_
      exact ih hf hx
def s_X11_bitsOf (a0 : UInt64) : Option (Int64) := if ((Op.cmpValue (FP.dcmp a0 FP.dconst0) .l) = 0 : Prop) then (some 0) else ((s_X11_bitsOf_L15 gF 1023 a0).bind fun r2 => fnn (FP.dsub r2.2 FP.dconst1) fun v3 => fnn (FP.dmul v3 4841369599423283200) fun v4 => some ((r2.1 * 4503599627370496) + (FP.d2l v4)))
set_option maxHeartbeats 4000000 in
set_option maxRecDepth 100000 in
theorem ct_X11_bitsOf {a0 : UInt64} {res : Int64} (hf : s_X11_bitsOf a0 = some res) : Ct k_X11_bitsOf [.double a0] [] (.inl (some (.long res))) [] := by
  unfold s_X11_bitsOf at hf
  refine Ct.of (L := [some (.double a0), none, none, none, none, none]) cal_X11_bitsOf (fent_pad (j := 4) rfl) (Nat.le_of_ble_eq_true rfl) ?_
  refine V.dload_n (i := 0) dX11_bitsOf_0 rfl rfl ?_
  refine V.dconst0 dX11_bitsOf_1 ?_
  refine V.dcmp dX11_bitsOf_2 ?_
  refine V.if_ne (tgt := 8) dX11_bitsOf_3 (by decide) (fun h => ?_) (fun h => ?_)
  · have hf := fif_f h hf
    refine V.ldc2 (v := 1023) dX11_bitsOf_8 w1488 ?_
    refine V.lstore_n (i := 2) (L' := [some (.double a0), none, some (.long 1023), none, none, none]) dX11_bitsOf_11 rfl (Nat.le_of_ble_eq_true rfl) rfl rfl ?_
    refine V.dload_n (i := 0) dX11_bitsOf_12 rfl rfl ?_
    refine V.dstore (i := 4) (L' := [some (.double a0), none, some (.long 1023), none, some (.double a0), none]) dX11_bitsOf_13 (Nat.le_of_ble_eq_true rfl) rfl rfl ?_
    obtain ⟨r2, hr2, hf⟩ := fbind hf
    refine v_X11_bitsOf_L15 gF hr2 ?_
    refine V.lload_n (i := 2) dX11_bitsOf_37 rfl rfl ?_
    refine V.ldc2 (v := 4503599627370496) dX11_bitsOf_38 w1490 ?_
    refine V.lmul dX11_bitsOf_41 ?_
    refine V.dload (i := 4) dX11_bitsOf_42 rfl ?_
    refine V.dconst1 dX11_bitsOf_44 ?_
    obtain ⟨hn, v3, ev3, hf⟩ := fnn_e hf
    refine V.dsub dX11_bitsOf_45 hn ?_
    refine V.cgd ev3 ?_
    refine V.ldc2d (v := 4841369599423283200) dX11_bitsOf_46 w1491 ?_
    obtain ⟨hn, v4, ev4, hf⟩ := fnn_e hf
    refine V.dmul dX11_bitsOf_49 hn ?_
    refine V.cgd ev4 ?_
    refine V.d2l dX11_bitsOf_50 ?_
    refine V.ladd dX11_bitsOf_51 ?_
    obtain rfl := Option.some.inj hf
    exact V.lret dX11_bitsOf_52 rfl (Nat.le_of_ble_eq_true rfl) (Nat.le_of_ble_eq_true rfl) rfl
  · have hf := fif_t h hf
    refine V.lconst (v := 0) dX11_bitsOf_6 rfl ?_
    obtain rfl := Option.some.inj hf
    exact V.lret dX11_bitsOf_7 rfl (Nat.le_of_ble_eq_true rfl) (Nat.le_of_ble_eq_true rfl) rfl
def k_X11_mix : fK := (yX11_mix, cX11_mix, 3, none, [], (0, 0), (0, 0), (0, 0))
theorem cal_X11_mix : fCal k_X11_mix 1 := ⟨⟨wc1475, w73⟩, ⟨by decide +kernel, by decide +kernel⟩, by decide +kernel, by decide +kernel⟩
def s_X11_mix (a1 : Int64) (M_hash : Int64) : Option ((Int64)) := some ((31 * M_hash) + a1)
set_option maxHeartbeats 4000000 in
set_option maxRecDepth 100000 in
theorem ct_X11_mix {a1 : Int64} {M_savedMany : Int32} {M_isTaken : Int32} {M_length : Int32} {M_thrown : Int32} {M_spelt : Int32} {M_speltMany : Int32} {M_place : Int32} {M_kind : Int32} {M_one : Int32} {M_two : Int32} {M_three : Int32} {M_begins : Int32} {M_done : Int32} {M_stopBy : Int32} {M_hash : Int64} {M_s : Nat → Int32} {M_saved : Nat → Int32} {M_snapshot : Nat → Int32} {M_text : Nat → Int32} {res : (Int64)} (hf : s_X11_mix a1 M_hash = some res) : Ct k_X11_mix [.ref 0, .long a1] [.inl (6, [.ref 1, .ref 2, .int M_savedMany, .ref 3, .int M_isTaken, .ref 4, .int M_length, .int M_thrown, .int M_spelt, .int M_speltMany, .int M_place, .int M_kind, .int M_one, .int M_two, .int M_three, .int M_begins, .int M_done, .int M_stopBy, .long M_hash]), .inr (406, .inl M_s), .inr (2436, .inl M_saved), .inr (406, .inl M_snapshot), .inr (60, .inl M_text)] (.inl none) [.inl (6, [.ref 1, .ref 2, .int M_savedMany, .ref 3, .int M_isTaken, .ref 4, .int M_length, .int M_thrown, .int M_spelt, .int M_speltMany, .int M_place, .int M_kind, .int M_one, .int M_two, .int M_three, .int M_begins, .int M_done, .int M_stopBy, .long res]), .inr (406, .inl M_s), .inr (2436, .inl M_saved), .inr (406, .inl M_snapshot), .inr (60, .inl M_text)] := by
  unfold s_X11_mix at hf
  refine Ct.of (L := [some (.ref 0), some (.long a1), none]) cal_X11_mix (fent_pad (j := 0) rfl) (Nat.le_of_ble_eq_true rfl) ?_
  refine V.aload_n (i := 0) dX11_mix_0 rfl rfl ?_
  refine V.ldc2 (v := 31) dX11_mix_1 w1476 ?_
  refine V.aload_n (i := 0) dX11_mix_4 rfl rfl ?_
  refine V.getfield (kf := 18) (v := .long M_hash) fl_RX11 dX11_mix_5 w1061 (Nat.le_of_ble_eq_true rfl) rfl rfl ?_
  refine V.lmul dX11_mix_8 ?_
  refine V.lload_n (i := 1) dX11_mix_9 rfl rfl ?_
  refine V.ladd dX11_mix_10 ?_
  refine V.putfield (ty := tyX11) (kf := 18) (σ' := [.inl (6, [.ref 1, .ref 2, .int M_savedMany, .ref 3, .int M_isTaken, .ref 4, .int M_length, .int M_thrown, .int M_spelt, .int M_speltMany, .int M_place, .int M_kind, .int M_one, .int M_two, .int M_three, .int M_begins, .int M_done, .int M_stopBy, .long ((31 * M_hash) + a1)]), .inr (406, .inl M_s), .inr (2436, .inl M_saved), .inr (406, .inl M_snapshot), .inr (60, .inl M_text)]) fl_RX11 dX11_mix_11 w1061 (Nat.le_of_ble_eq_true rfl) rfl (fun _ => ⟨rfl, rfl⟩) rfl (Nat.le_of_ble_eq_true rfl) rfl ?_
  obtain rfl := Option.some.inj hf
  exact V.vret dX11_mix_14 rfl (Nat.le_of_ble_eq_true rfl) (Nat.le_of_ble_eq_true rfl) rfl
def k_X11_mixName : fK := (yX11_mixName, cX11_mixName, 4, none, [], (5, 114), (0, 0), (0, 0))
theorem cal_X11_mixName : fCal k_X11_mixName 1 := ⟨⟨wc1484, w73⟩, ⟨by decide +kernel, by decide +kernel⟩, by decide +kernel, by decide +kernel⟩
def s_X11_mixName_L2 (p1 : Int32) (M_s : Nat → Int32) : Nat → Int32 → (Int64) → Option (Int32 × (Int64))
  | 0, _, _ => none
  | n + 1, x2, M_hash => if (5 ≤ x2 : Prop) then (some (x2, M_hash)) else ((s_X11_nameNumber p1 x2 M_s).bind fun v1 => (s_X11_mix (Int32.toInt64 v1) M_hash).bind fun v2 => s_X11_mixName_L2 p1 M_s n (x2 + 1) v2)
set_option maxHeartbeats 4000000 in
set_option maxRecDepth 100000 in
theorem v_X11_mixName_L2 {out : fO} {σ' : List fE} {p1 : Int32} {M_savedMany : Int32} {M_isTaken : Int32} {M_length : Int32} {M_thrown : Int32} {M_spelt : Int32} {M_speltMany : Int32} {M_place : Int32} {M_kind : Int32} {M_one : Int32} {M_two : Int32} {M_three : Int32} {M_begins : Int32} {M_done : Int32} {M_stopBy : Int32} {M_s : Nat → Int32} {M_saved : Nat → Int32} {M_snapshot : Nat → Int32} {M_text : Nat → Int32} : ∀ (n : Nat) {x2 : Int32} {M_hash : (Int64)} {res : Int32 × (Int64)} (hf : s_X11_mixName_L2 p1 M_s n x2 M_hash = some res) (hx : V (fXm 5 k_X11_mixName out σ') (krm k_X11_mixName) k_X11_mixName 5 24 [some (.ref 0), some (.int p1), some (.int res.1), none] [] [.inl (6, [.ref 1, .ref 2, .int M_savedMany, .ref 3, .int M_isTaken, .ref 4, .int M_length, .int M_thrown, .int M_spelt, .int M_speltMany, .int M_place, .int M_kind, .int M_one, .int M_two, .int M_three, .int M_begins, .int M_done, .int M_stopBy, .long res.2]), .inr (406, .inl M_s), .inr (2436, .inl M_saved), .inr (406, .inl M_snapshot), .inr (60, .inl M_text)] 0 0), V (fXm 5 k_X11_mixName out σ') (krm k_X11_mixName) k_X11_mixName 5 2 [some (.ref 0), some (.int p1), some (.int x2), none] [] [.inl (6, [.ref 1, .ref 2, .int M_savedMany, .ref 3, .int M_isTaken, .ref 4, .int M_length, .int M_thrown, .int M_spelt, .int M_speltMany, .int M_place, .int M_kind, .int M_one, .int M_two, .int M_three, .int M_begins, .int M_done, .int M_stopBy, .long M_hash]), .inr (406, .inl M_s), .inr (2436, .inl M_saved), .inr (406, .inl M_snapshot), .inr (60, .inl M_text)] 0 0 := by
  intro n
  induction n with
  | zero =>
    intro x2 M_hash res hf hx
    rw [s_X11_mixName_L2] at hf
    cases hf
  | succ n ih =>
    intro x2 M_hash res hf hx
    rw [s_X11_mixName_L2] at hf
    refine V.iload_n (i := 2) dX11_mixName_2 rfl rfl ?_
    refine V.iconst (v := 5) dX11_mixName_3 rfl ?_
    refine V.icmp_ge (tgt := 24) dX11_mixName_4 (by decide) (fun h => ?_) (fun h => ?_)
    · have hf := fif_t h hf
      obtain rfl := Option.some.inj hf
      exact hx
    · have hf := fif_f h hf
      refine V.aload_n (i := 0) dX11_mixName_7 rfl rfl ?_
      refine V.aload_n (i := 0) dX11_mixName_8 rfl rfl ?_
      refine V.iload_n (i := 1) dX11_mixName_9 rfl rfl ?_
      refine V.iload_n (i := 2) dX11_mixName_10 rfl rfl ?_
      obtain ⟨v1, hv1, hf⟩ := fbind hf
      refine V.callVn (pl := [0, 1, 2, 3, 4]) (σ' := [.inl (6, [.ref 1, .ref 2, .int M_savedMany, .ref 3, .int M_isTaken, .ref 4, .int M_length, .int M_thrown, .int M_spelt, .int M_speltMany, .int M_place, .int M_kind, .int M_one, .int M_two, .int M_three, .int M_begins, .int M_done, .int M_stopBy, .long M_hash]), .inr (406, .inl M_s), .inr (2436, .inl M_saved), .inr (406, .inl M_snapshot), .inr (60, .inl M_text)]) (st2 := [.int v1, .ref 0]) (cl2 := 0) (sl2 := 0) (ct_X11_nameNumber (a1 := p1) (a2 := x2) (M_savedMany := M_savedMany) (M_isTaken := M_isTaken) (M_length := M_length) (M_thrown := M_thrown) (M_spelt := M_spelt) (M_speltMany := M_speltMany) (M_place := M_place) (M_kind := M_kind) (M_one := M_one) (M_two := M_two) (M_three := M_three) (M_begins := M_begins) (M_done := M_done) (M_stopBy := M_stopBy) (M_hash := M_hash) (M_s := M_s) (M_saved := M_saved) (M_snapshot := M_snapshot) (M_text := M_text) hv1) dX11_mixName_11 w1375 ⟨w1377, w49⟩ cal_X11_nameNumber rfl ⟨⟨Nat.le_of_ble_eq_true rfl, Nat.le_of_ble_eq_true rfl⟩, Nat.le_of_ble_eq_true rfl, Nat.le_of_ble_eq_true rfl⟩ (Nat.le_of_ble_eq_true rfl) (Or.inl ⟨_, _, _, _, rfl, rfl⟩) rfl ⟨rfl, ⟨by decide, by decide⟩, rfl, (fr_cons (Or.inl (Nat.le_of_ble_eq_true rfl)) (fr_cons (Or.inl (Nat.le_of_ble_eq_true rfl)) (fr_cons (Or.inl (Nat.le_of_ble_eq_true rfl)) (fr_cons (Or.inl (Nat.le_of_ble_eq_true rfl)) (fr_nil))))), rfl⟩ fr_i rfl rfl rfl rfl ?_
      refine V.i2l dX11_mixName_14 ?_
      obtain ⟨v2, hv2, hf⟩ := fbind hf
      refine V.callVn (pl := [0, 1, 2, 3, 4]) (σ' := [.inl (6, [.ref 1, .ref 2, .int M_savedMany, .ref 3, .int M_isTaken, .ref 4, .int M_length, .int M_thrown, .int M_spelt, .int M_speltMany, .int M_place, .int M_kind, .int M_one, .int M_two, .int M_three, .int M_begins, .int M_done, .int M_stopBy, .long v2]), .inr (406, .inl M_s), .inr (2436, .inl M_saved), .inr (406, .inl M_snapshot), .inr (60, .inl M_text)]) (st2 := []) (cl2 := 0) (sl2 := 0) (ct_X11_mix (a1 := (Int32.toInt64 v1)) (M_savedMany := M_savedMany) (M_isTaken := M_isTaken) (M_length := M_length) (M_thrown := M_thrown) (M_spelt := M_spelt) (M_speltMany := M_speltMany) (M_place := M_place) (M_kind := M_kind) (M_one := M_one) (M_two := M_two) (M_three := M_three) (M_begins := M_begins) (M_done := M_done) (M_stopBy := M_stopBy) (M_hash := M_hash) (M_s := M_s) (M_saved := M_saved) (M_snapshot := M_snapshot) (M_text := M_text) hv2) dX11_mixName_15 w1472 ⟨w1474, w63⟩ cal_X11_mix rfl ⟨⟨Nat.le_of_ble_eq_true rfl, Nat.le_of_ble_eq_true rfl⟩, Nat.le_of_ble_eq_true rfl, Nat.le_of_ble_eq_true rfl⟩ (Nat.le_of_ble_eq_true rfl) (Or.inl ⟨_, _, _, _, rfl, rfl⟩) rfl ⟨rfl, ⟨by decide, by decide⟩, rfl, (fr_cons (Or.inl (Nat.le_of_ble_eq_true rfl)) (fr_cons (Or.inl (Nat.le_of_ble_eq_true rfl)) (fr_cons (Or.inl (Nat.le_of_ble_eq_true rfl)) (fr_cons (Or.inl (Nat.le_of_ble_eq_true rfl)) (fr_nil))))), rfl⟩ fr_v rfl rfl rfl rfl ?_
      refine V.iinc (i := 2) (v := (x2 + 1)) (L' := [some (.ref 0), some (.int p1), some (.int (x2 + 1)), none]) dX11_mixName_18 rfl rfl (Nat.le_of_ble_eq_true rfl) rfl rfl ?_
      refine V.goto (tgt := 2) dX11_mixName_21 (by decide) ?_
      exact ih hf hx
def s_X11_mixName_L37 (p1 : Int32) (p2 : Int32) (M_s : Nat → Int32) : Nat → Int32 → (Int64) → Option (Int32 × (Int64))
  | 0, _, _ => none
  | n + 1, x3, M_hash => if (3 ≤ x3 : Prop) then (some (x3, M_hash)) else ((s_X11_knotNumber p1 p2 x3 M_s).bind fun v5 => (s_X11_mix (Int32.toInt64 v5) M_hash).bind fun v6 => s_X11_mixName_L37 p1 p2 M_s n (x3 + 1) v6)
set_option maxHeartbeats 4000000 in
set_option maxRecDepth 100000 in
theorem v_X11_mixName_L37 {out : fO} {σ' : List fE} {p1 : Int32} {p2 : Int32} {M_savedMany : Int32} {M_isTaken : Int32} {M_length : Int32} {M_thrown : Int32} {M_spelt : Int32} {M_speltMany : Int32} {M_place : Int32} {M_kind : Int32} {M_one : Int32} {M_two : Int32} {M_three : Int32} {M_begins : Int32} {M_done : Int32} {M_stopBy : Int32} {M_s : Nat → Int32} {M_saved : Nat → Int32} {M_snapshot : Nat → Int32} {M_text : Nat → Int32} : ∀ (n : Nat) {x3 : Int32} {M_hash : (Int64)} {res : Int32 × (Int64)} (hf : s_X11_mixName_L37 p1 p2 M_s n x3 M_hash = some res) (hx : V (fXm 5 k_X11_mixName out σ') (krm k_X11_mixName) k_X11_mixName 5 60 [some (.ref 0), some (.int p1), some (.int p2), some (.int res.1)] [] [.inl (6, [.ref 1, .ref 2, .int M_savedMany, .ref 3, .int M_isTaken, .ref 4, .int M_length, .int M_thrown, .int M_spelt, .int M_speltMany, .int M_place, .int M_kind, .int M_one, .int M_two, .int M_three, .int M_begins, .int M_done, .int M_stopBy, .long res.2]), .inr (406, .inl M_s), .inr (2436, .inl M_saved), .inr (406, .inl M_snapshot), .inr (60, .inl M_text)] 0 0), V (fXm 5 k_X11_mixName out σ') (krm k_X11_mixName) k_X11_mixName 5 37 [some (.ref 0), some (.int p1), some (.int p2), some (.int x3)] [] [.inl (6, [.ref 1, .ref 2, .int M_savedMany, .ref 3, .int M_isTaken, .ref 4, .int M_length, .int M_thrown, .int M_spelt, .int M_speltMany, .int M_place, .int M_kind, .int M_one, .int M_two, .int M_three, .int M_begins, .int M_done, .int M_stopBy, .long M_hash]), .inr (406, .inl M_s), .inr (2436, .inl M_saved), .inr (406, .inl M_snapshot), .inr (60, .inl M_text)] 0 0 := by
  intro n
  induction n with
  | zero =>
    intro x3 M_hash res hf hx
    rw [s_X11_mixName_L37] at hf
    cases hf
  | succ n ih =>
    intro x3 M_hash res hf hx
    rw [s_X11_mixName_L37] at hf
    refine V.iload_n (i := 3) dX11_mixName_37 rfl rfl ?_
    refine V.iconst (v := 3) dX11_mixName_38 rfl ?_
    refine V.icmp_ge (tgt := 60) dX11_mixName_39 (by decide) (fun h => ?_) (fun h => ?_)
    · have hf := fif_t h hf
      obtain rfl := Option.some.inj hf
      exact hx
    · have hf := fif_f h hf
      refine V.aload_n (i := 0) dX11_mixName_42 rfl rfl ?_
      refine V.aload_n (i := 0) dX11_mixName_43 rfl rfl ?_
      refine V.iload_n (i := 1) dX11_mixName_44 rfl rfl ?_
      refine V.iload_n (i := 2) dX11_mixName_45 rfl rfl ?_
      refine V.iload_n (i := 3) dX11_mixName_46 rfl rfl ?_
      obtain ⟨v5, hv5, hf⟩ := fbind hf
      refine V.callVn (pl := [0, 1, 2, 3, 4]) (σ' := [.inl (6, [.ref 1, .ref 2, .int M_savedMany, .ref 3, .int M_isTaken, .ref 4, .int M_length, .int M_thrown, .int M_spelt, .int M_speltMany, .int M_place, .int M_kind, .int M_one, .int M_two, .int M_three, .int M_begins, .int M_done, .int M_stopBy, .long M_hash]), .inr (406, .inl M_s), .inr (2436, .inl M_saved), .inr (406, .inl M_snapshot), .inr (60, .inl M_text)]) (st2 := [.int v5, .ref 0]) (cl2 := 0) (sl2 := 0) (ct_X11_knotNumber (a1 := p1) (a2 := p2) (a3 := x3) (M_savedMany := M_savedMany) (M_isTaken := M_isTaken) (M_length := M_length) (M_thrown := M_thrown) (M_spelt := M_spelt) (M_speltMany := M_speltMany) (M_place := M_place) (M_kind := M_kind) (M_one := M_one) (M_two := M_two) (M_three := M_three) (M_begins := M_begins) (M_done := M_done) (M_stopBy := M_stopBy) (M_hash := M_hash) (M_s := M_s) (M_saved := M_saved) (M_snapshot := M_snapshot) (M_text := M_text) hv5) dX11_mixName_47 w1367 ⟨w1369, w48⟩ cal_X11_knotNumber rfl ⟨⟨Nat.le_of_ble_eq_true rfl, Nat.le_of_ble_eq_true rfl⟩, Nat.le_of_ble_eq_true rfl, Nat.le_of_ble_eq_true rfl⟩ (Nat.le_of_ble_eq_true rfl) (Or.inl ⟨_, _, _, _, rfl, rfl⟩) rfl ⟨rfl, ⟨by decide, by decide⟩, rfl, (fr_cons (Or.inl (Nat.le_of_ble_eq_true rfl)) (fr_cons (Or.inl (Nat.le_of_ble_eq_true rfl)) (fr_cons (Or.inl (Nat.le_of_ble_eq_true rfl)) (fr_cons (Or.inl (Nat.le_of_ble_eq_true rfl)) (fr_nil))))), rfl⟩ fr_i rfl rfl rfl rfl ?_
      refine V.i2l dX11_mixName_50 ?_
      obtain ⟨v6, hv6, hf⟩ := fbind hf
      refine V.callVn (pl := [0, 1, 2, 3, 4]) (σ' := [.inl (6, [.ref 1, .ref 2, .int M_savedMany, .ref 3, .int M_isTaken, .ref 4, .int M_length, .int M_thrown, .int M_spelt, .int M_speltMany, .int M_place, .int M_kind, .int M_one, .int M_two, .int M_three, .int M_begins, .int M_done, .int M_stopBy, .long v6]), .inr (406, .inl M_s), .inr (2436, .inl M_saved), .inr (406, .inl M_snapshot), .inr (60, .inl M_text)]) (st2 := []) (cl2 := 0) (sl2 := 0) (ct_X11_mix (a1 := (Int32.toInt64 v5)) (M_savedMany := M_savedMany) (M_isTaken := M_isTaken) (M_length := M_length) (M_thrown := M_thrown) (M_spelt := M_spelt) (M_speltMany := M_speltMany) (M_place := M_place) (M_kind := M_kind) (M_one := M_one) (M_two := M_two) (M_three := M_three) (M_begins := M_begins) (M_done := M_done) (M_stopBy := M_stopBy) (M_hash := M_hash) (M_s := M_s) (M_saved := M_saved) (M_snapshot := M_snapshot) (M_text := M_text) hv6) dX11_mixName_51 w1472 ⟨w1474, w63⟩ cal_X11_mix rfl ⟨⟨Nat.le_of_ble_eq_true rfl, Nat.le_of_ble_eq_true rfl⟩, Nat.le_of_ble_eq_true rfl, Nat.le_of_ble_eq_true rfl⟩ (Nat.le_of_ble_eq_true rfl) (Or.inl ⟨_, _, _, _, rfl, rfl⟩) rfl ⟨rfl, ⟨by decide, by decide⟩, rfl, (fr_cons (Or.inl (Nat.le_of_ble_eq_true rfl)) (fr_cons (Or.inl (Nat.le_of_ble_eq_true rfl)) (fr_cons (Or.inl (Nat.le_of_ble_eq_true rfl)) (fr_cons (Or.inl (Nat.le_of_ble_eq_true rfl)) (fr_nil))))), rfl⟩ fr_v rfl rfl rfl rfl ?_
      refine V.iinc (i := 3) (v := (x3 + 1)) (L' := [some (.ref 0), some (.int p1), some (.int p2), some (.int (x3 + 1))]) dX11_mixName_54 rfl rfl (Nat.le_of_ble_eq_true rfl) rfl rfl ?_
      refine V.goto (tgt := 37) dX11_mixName_57 (by decide) ?_
      exact ih hf hx
def s_X11_mixName_L26 (p1 : Int32) (M_s : Nat → Int32) : Nat → Int32 → (Int64) → Option (Int32 × (Int64))
  | 0, _, _ => none
  | n + 1, x2, M_hash => (s_X11_knots p1 M_s).bind fun v4 => if (v4 ≤ x2 : Prop) then (some (x2, M_hash)) else ((s_X11_mixName_L37 p1 x2 M_s gF 0 M_hash).bind fun r7 => s_X11_mixName_L26 p1 M_s n (x2 + 1) r7.2)
set_option maxHeartbeats 4000000 in
set_option maxRecDepth 100000 in
theorem v_X11_mixName_L26 {out : fO} {σ' : List fE} {p1 : Int32} {M_savedMany : Int32} {M_isTaken : Int32} {M_length : Int32} {M_thrown : Int32} {M_spelt : Int32} {M_speltMany : Int32} {M_place : Int32} {M_kind : Int32} {M_one : Int32} {M_two : Int32} {M_three : Int32} {M_begins : Int32} {M_done : Int32} {M_stopBy : Int32} {M_s : Nat → Int32} {M_saved : Nat → Int32} {M_snapshot : Nat → Int32} {M_text : Nat → Int32} : ∀ (n : Nat) {x2 : Int32} {M_hash : (Int64)} {res : Int32 × (Int64)} (hf : s_X11_mixName_L26 p1 M_s n x2 M_hash = some res) (hx : V (fXm 5 k_X11_mixName out σ') (krm k_X11_mixName) k_X11_mixName 5 66 [some (.ref 0), some (.int p1), some (.int res.1), none] [] [.inl (6, [.ref 1, .ref 2, .int M_savedMany, .ref 3, .int M_isTaken, .ref 4, .int M_length, .int M_thrown, .int M_spelt, .int M_speltMany, .int M_place, .int M_kind, .int M_one, .int M_two, .int M_three, .int M_begins, .int M_done, .int M_stopBy, .long res.2]), .inr (406, .inl M_s), .inr (2436, .inl M_saved), .inr (406, .inl M_snapshot), .inr (60, .inl M_text)] 0 0), V (fXm 5 k_X11_mixName out σ') (krm k_X11_mixName) k_X11_mixName 5 26 [some (.ref 0), some (.int p1), some (.int x2), none] [] [.inl (6, [.ref 1, .ref 2, .int M_savedMany, .ref 3, .int M_isTaken, .ref 4, .int M_length, .int M_thrown, .int M_spelt, .int M_speltMany, .int M_place, .int M_kind, .int M_one, .int M_two, .int M_three, .int M_begins, .int M_done, .int M_stopBy, .long M_hash]), .inr (406, .inl M_s), .inr (2436, .inl M_saved), .inr (406, .inl M_snapshot), .inr (60, .inl M_text)] 0 0 := by
  intro n
  induction n with
  | zero =>
    intro x2 M_hash res hf hx
    rw [s_X11_mixName_L26] at hf
    cases hf
  | succ n ih =>
    intro x2 M_hash res hf hx
    rw [s_X11_mixName_L26] at hf
    refine V.iload_n (i := 2) dX11_mixName_26 rfl rfl ?_
    refine V.aload_n (i := 0) dX11_mixName_27 rfl rfl ?_
    refine V.iload_n (i := 1) dX11_mixName_28 rfl rfl ?_
    obtain ⟨v4, hv4, hf⟩ := fbind hf
    refine V.callVn (pl := [0, 1, 2, 3, 4]) (σ' := [.inl (6, [.ref 1, .ref 2, .int M_savedMany, .ref 3, .int M_isTaken, .ref 4, .int M_length, .int M_thrown, .int M_spelt, .int M_speltMany, .int M_place, .int M_kind, .int M_one, .int M_two, .int M_three, .int M_begins, .int M_done, .int M_stopBy, .long M_hash]), .inr (406, .inl M_s), .inr (2436, .inl M_saved), .inr (406, .inl M_snapshot), .inr (60, .inl M_text)]) (st2 := [.int v4, .int x2]) (cl2 := 0) (sl2 := 0) (ct_X11_knots (a1 := p1) (M_savedMany := M_savedMany) (M_isTaken := M_isTaken) (M_length := M_length) (M_thrown := M_thrown) (M_spelt := M_spelt) (M_speltMany := M_speltMany) (M_place := M_place) (M_kind := M_kind) (M_one := M_one) (M_two := M_two) (M_three := M_three) (M_begins := M_begins) (M_done := M_done) (M_stopBy := M_stopBy) (M_hash := M_hash) (M_s := M_s) (M_saved := M_saved) (M_snapshot := M_snapshot) (M_text := M_text) hv4) dX11_mixName_29 w1154 ⟨w1156, w14⟩ cal_X11_knots rfl ⟨⟨Nat.le_of_ble_eq_true rfl, Nat.le_of_ble_eq_true rfl⟩, Nat.le_of_ble_eq_true rfl, Nat.le_of_ble_eq_true rfl⟩ (Nat.le_of_ble_eq_true rfl) (Or.inl ⟨_, _, _, _, rfl, rfl⟩) rfl ⟨rfl, ⟨by decide, by decide⟩, rfl, (fr_cons (Or.inl (Nat.le_of_ble_eq_true rfl)) (fr_cons (Or.inl (Nat.le_of_ble_eq_true rfl)) (fr_cons (Or.inl (Nat.le_of_ble_eq_true rfl)) (fr_cons (Or.inl (Nat.le_of_ble_eq_true rfl)) (fr_nil))))), rfl⟩ fr_i rfl rfl rfl rfl ?_
    refine V.icmp_ge (tgt := 66) dX11_mixName_32 (by decide) (fun h => ?_) (fun h => ?_)
    · have hf := fif_t h hf
      obtain rfl := Option.some.inj hf
      exact hx
    · have hf := fif_f h hf
      refine V.iconst (v := 0) dX11_mixName_35 rfl ?_
      refine V.istore_n (i := 3) (L' := [some (.ref 0), some (.int p1), some (.int x2), some (.int 0)]) dX11_mixName_36 rfl (Nat.le_of_ble_eq_true rfl) rfl rfl ?_
      obtain ⟨r7, hr7, hf⟩ := fbind hf
      refine v_X11_mixName_L37 gF hr7 ?_
      refine V.iinc (i := 2) (v := (x2 + 1)) (L' := [some (.ref 0), some (.int p1), some (.int (x2 + 1)), some (.int r7.1)]) dX11_mixName_60 rfl rfl (Nat.le_of_ble_eq_true rfl) rfl rfl ?_
      refine V.goto (tgt := 26) dX11_mixName_63 (by decide) ?_
      exact V.locs (L' := [some (.ref 0), some (.int p1), some (.int (x2 + 1)), none]) ⟨rfl, ⟨rfl, ⟨rfl, trivial⟩⟩⟩ (ih hf hx)
def s_X11_mixName (a1 : Int32) (M_hash : Int64) (M_s : Nat → Int32) : Option ((Int64)) := (s_X11_mixName_L2 a1 M_s gF 0 M_hash).bind fun r3 => (s_X11_mixName_L26 a1 M_s gF 0 r3.2).bind fun r8 => some r8.2
set_option maxHeartbeats 4000000 in
set_option maxRecDepth 100000 in
theorem ct_X11_mixName {a1 : Int32} {M_savedMany : Int32} {M_isTaken : Int32} {M_length : Int32} {M_thrown : Int32} {M_spelt : Int32} {M_speltMany : Int32} {M_place : Int32} {M_kind : Int32} {M_one : Int32} {M_two : Int32} {M_three : Int32} {M_begins : Int32} {M_done : Int32} {M_stopBy : Int32} {M_hash : Int64} {M_s : Nat → Int32} {M_saved : Nat → Int32} {M_snapshot : Nat → Int32} {M_text : Nat → Int32} {res : (Int64)} (hf : s_X11_mixName a1 M_hash M_s = some res) : Ct k_X11_mixName [.ref 0, .int a1] [.inl (6, [.ref 1, .ref 2, .int M_savedMany, .ref 3, .int M_isTaken, .ref 4, .int M_length, .int M_thrown, .int M_spelt, .int M_speltMany, .int M_place, .int M_kind, .int M_one, .int M_two, .int M_three, .int M_begins, .int M_done, .int M_stopBy, .long M_hash]), .inr (406, .inl M_s), .inr (2436, .inl M_saved), .inr (406, .inl M_snapshot), .inr (60, .inl M_text)] (.inl none) [.inl (6, [.ref 1, .ref 2, .int M_savedMany, .ref 3, .int M_isTaken, .ref 4, .int M_length, .int M_thrown, .int M_spelt, .int M_speltMany, .int M_place, .int M_kind, .int M_one, .int M_two, .int M_three, .int M_begins, .int M_done, .int M_stopBy, .long res]), .inr (406, .inl M_s), .inr (2436, .inl M_saved), .inr (406, .inl M_snapshot), .inr (60, .inl M_text)] := by
  unfold s_X11_mixName at hf
  refine Ct.of (L := [some (.ref 0), some (.int a1), none, none]) cal_X11_mixName (fent_pad (j := 2) rfl) (Nat.le_of_ble_eq_true rfl) ?_
  refine V.iconst (v := 0) dX11_mixName_0 rfl ?_
  refine V.istore_n (i := 2) (L' := [some (.ref 0), some (.int a1), some (.int 0), none]) dX11_mixName_1 rfl (Nat.le_of_ble_eq_true rfl) rfl rfl ?_
  obtain ⟨r3, hr3, hf⟩ := fbind hf
  refine v_X11_mixName_L2 gF hr3 ?_
  refine V.iconst (v := 0) dX11_mixName_24 rfl ?_
  refine V.istore_n (i := 2) (L' := [some (.ref 0), some (.int a1), some (.int 0), none]) dX11_mixName_25 rfl (Nat.le_of_ble_eq_true rfl) rfl rfl ?_
  obtain ⟨r8, hr8, hf⟩ := fbind hf
  refine v_X11_mixName_L26 gF hr8 ?_
  obtain rfl := Option.some.inj hf
  exact V.vret dX11_mixName_66 rfl (Nat.le_of_ble_eq_true rfl) (Nat.le_of_ble_eq_true rfl) rfl
def k_X11_mixFisher : fK := (yX11_mixFisher, cX11_mixFisher, 3, none, [], (7, 150), (0, 0), (0, 0))
theorem cal_X11_mixFisher : fCal k_X11_mixFisher 1 := ⟨⟨wc1480, w73⟩, ⟨by decide +kernel, by decide +kernel⟩, by decide +kernel, by decide +kernel⟩
def s_X11_mixFisher_L2 (p1 : Int32) (M_s : Nat → Int32) : Nat → Int32 → (Int64) → Option (Int32 × (Int64))
  | 0, _, _ => none
  | n + 1, x2, M_hash => if (5 ≤ x2 : Prop) then (some (x2, M_hash)) else ((s_X11_fisherNumber p1 x2 M_s).bind fun v1 => (s_X11_mix (Int32.toInt64 v1) M_hash).bind fun v2 => s_X11_mixFisher_L2 p1 M_s n (x2 + 1) v2)
set_option maxHeartbeats 4000000 in
set_option maxRecDepth 100000 in
theorem v_X11_mixFisher_L2 {out : fO} {σ' : List fE} {p1 : Int32} {M_savedMany : Int32} {M_isTaken : Int32} {M_length : Int32} {M_thrown : Int32} {M_spelt : Int32} {M_speltMany : Int32} {M_place : Int32} {M_kind : Int32} {M_one : Int32} {M_two : Int32} {M_three : Int32} {M_begins : Int32} {M_done : Int32} {M_stopBy : Int32} {M_s : Nat → Int32} {M_saved : Nat → Int32} {M_snapshot : Nat → Int32} {M_text : Nat → Int32} : ∀ (n : Nat) {x2 : Int32} {M_hash : (Int64)} {res : Int32 × (Int64)} (hf : s_X11_mixFisher_L2 p1 M_s n x2 M_hash = some res) (hx : V (fXm 5 k_X11_mixFisher out σ') (krm k_X11_mixFisher) k_X11_mixFisher 5 24 [some (.ref 0), some (.int p1), some (.int res.1)] [] [.inl (6, [.ref 1, .ref 2, .int M_savedMany, .ref 3, .int M_isTaken, .ref 4, .int M_length, .int M_thrown, .int M_spelt, .int M_speltMany, .int M_place, .int M_kind, .int M_one, .int M_two, .int M_three, .int M_begins, .int M_done, .int M_stopBy, .long res.2]), .inr (406, .inl M_s), .inr (2436, .inl M_saved), .inr (406, .inl M_snapshot), .inr (60, .inl M_text)] 0 0), V (fXm 5 k_X11_mixFisher out σ') (krm k_X11_mixFisher) k_X11_mixFisher 5 2 [some (.ref 0), some (.int p1), some (.int x2)] [] [.inl (6, [.ref 1, .ref 2, .int M_savedMany, .ref 3, .int M_isTaken, .ref 4, .int M_length, .int M_thrown, .int M_spelt, .int M_speltMany, .int M_place, .int M_kind, .int M_one, .int M_two, .int M_three, .int M_begins, .int M_done, .int M_stopBy, .long M_hash]), .inr (406, .inl M_s), .inr (2436, .inl M_saved), .inr (406, .inl M_snapshot), .inr (60, .inl M_text)] 0 0 := by
  intro n
  induction n with
  | zero =>
    intro x2 M_hash res hf hx
    rw [s_X11_mixFisher_L2] at hf
    cases hf
  | succ n ih =>
    intro x2 M_hash res hf hx
    rw [s_X11_mixFisher_L2] at hf
    refine V.iload_n (i := 2) dX11_mixFisher_2 rfl rfl ?_
    refine V.iconst (v := 5) dX11_mixFisher_3 rfl ?_
    refine V.icmp_ge (tgt := 24) dX11_mixFisher_4 (by decide) (fun h => ?_) (fun h => ?_)
    · have hf := fif_t h hf
      obtain rfl := Option.some.inj hf
      exact hx
    · have hf := fif_f h hf
      refine V.aload_n (i := 0) dX11_mixFisher_7 rfl rfl ?_
      refine V.aload_n (i := 0) dX11_mixFisher_8 rfl rfl ?_
      refine V.iload_n (i := 1) dX11_mixFisher_9 rfl rfl ?_
      refine V.iload_n (i := 2) dX11_mixFisher_10 rfl rfl ?_
      obtain ⟨v1, hv1, hf⟩ := fbind hf
      refine V.callVn (pl := [0, 1, 2, 3, 4]) (σ' := [.inl (6, [.ref 1, .ref 2, .int M_savedMany, .ref 3, .int M_isTaken, .ref 4, .int M_length, .int M_thrown, .int M_spelt, .int M_speltMany, .int M_place, .int M_kind, .int M_one, .int M_two, .int M_three, .int M_begins, .int M_done, .int M_stopBy, .long M_hash]), .inr (406, .inl M_s), .inr (2436, .inl M_saved), .inr (406, .inl M_snapshot), .inr (60, .inl M_text)]) (st2 := [.int v1, .ref 0]) (cl2 := 0) (sl2 := 0) (ct_X11_fisherNumber (a1 := p1) (a2 := x2) (M_savedMany := M_savedMany) (M_isTaken := M_isTaken) (M_length := M_length) (M_thrown := M_thrown) (M_spelt := M_spelt) (M_speltMany := M_speltMany) (M_place := M_place) (M_kind := M_kind) (M_one := M_one) (M_two := M_two) (M_three := M_three) (M_begins := M_begins) (M_done := M_done) (M_stopBy := M_stopBy) (M_hash := M_hash) (M_s := M_s) (M_saved := M_saved) (M_snapshot := M_snapshot) (M_text := M_text) hv1) dX11_mixFisher_11 w1387 ⟨w1389, w51⟩ cal_X11_fisherNumber rfl ⟨⟨Nat.le_of_ble_eq_true rfl, Nat.le_of_ble_eq_true rfl⟩, Nat.le_of_ble_eq_true rfl, Nat.le_of_ble_eq_true rfl⟩ (Nat.le_of_ble_eq_true rfl) (Or.inl ⟨_, _, _, _, rfl, rfl⟩) rfl ⟨rfl, ⟨by decide, by decide⟩, rfl, (fr_cons (Or.inl (Nat.le_of_ble_eq_true rfl)) (fr_cons (Or.inl (Nat.le_of_ble_eq_true rfl)) (fr_cons (Or.inl (Nat.le_of_ble_eq_true rfl)) (fr_cons (Or.inl (Nat.le_of_ble_eq_true rfl)) (fr_nil))))), rfl⟩ fr_i rfl rfl rfl rfl ?_
      refine V.i2l dX11_mixFisher_14 ?_
      obtain ⟨v2, hv2, hf⟩ := fbind hf
      refine V.callVn (pl := [0, 1, 2, 3, 4]) (σ' := [.inl (6, [.ref 1, .ref 2, .int M_savedMany, .ref 3, .int M_isTaken, .ref 4, .int M_length, .int M_thrown, .int M_spelt, .int M_speltMany, .int M_place, .int M_kind, .int M_one, .int M_two, .int M_three, .int M_begins, .int M_done, .int M_stopBy, .long v2]), .inr (406, .inl M_s), .inr (2436, .inl M_saved), .inr (406, .inl M_snapshot), .inr (60, .inl M_text)]) (st2 := []) (cl2 := 0) (sl2 := 0) (ct_X11_mix (a1 := (Int32.toInt64 v1)) (M_savedMany := M_savedMany) (M_isTaken := M_isTaken) (M_length := M_length) (M_thrown := M_thrown) (M_spelt := M_spelt) (M_speltMany := M_speltMany) (M_place := M_place) (M_kind := M_kind) (M_one := M_one) (M_two := M_two) (M_three := M_three) (M_begins := M_begins) (M_done := M_done) (M_stopBy := M_stopBy) (M_hash := M_hash) (M_s := M_s) (M_saved := M_saved) (M_snapshot := M_snapshot) (M_text := M_text) hv2) dX11_mixFisher_15 w1472 ⟨w1474, w63⟩ cal_X11_mix rfl ⟨⟨Nat.le_of_ble_eq_true rfl, Nat.le_of_ble_eq_true rfl⟩, Nat.le_of_ble_eq_true rfl, Nat.le_of_ble_eq_true rfl⟩ (Nat.le_of_ble_eq_true rfl) (Or.inl ⟨_, _, _, _, rfl, rfl⟩) rfl ⟨rfl, ⟨by decide, by decide⟩, rfl, (fr_cons (Or.inl (Nat.le_of_ble_eq_true rfl)) (fr_cons (Or.inl (Nat.le_of_ble_eq_true rfl)) (fr_cons (Or.inl (Nat.le_of_ble_eq_true rfl)) (fr_cons (Or.inl (Nat.le_of_ble_eq_true rfl)) (fr_nil))))), rfl⟩ fr_v rfl rfl rfl rfl ?_
      refine V.iinc (i := 2) (v := (x2 + 1)) (L' := [some (.ref 0), some (.int p1), some (.int (x2 + 1))]) dX11_mixFisher_18 rfl rfl (Nat.le_of_ble_eq_true rfl) rfl rfl ?_
      refine V.goto (tgt := 2) dX11_mixFisher_21 (by decide) ?_
      exact ih hf hx
def s_X11_mixFisher_L48 (p1 : Int32) (M_s : Nat → Int32) : Nat → Int32 → (Int64) → Option (Int32 × (Int64))
  | 0, _, _ => none
  | n + 1, x2, M_hash => (s_X11_characterAt p1 x2 M_s).bind fun v8 => if (v8 = (-1) : Prop) then (some (x2, M_hash)) else ((s_X11_characterAt p1 x2 M_s).bind fun v9 => (s_X11_mix (Int32.toInt64 v9) M_hash).bind fun v10 => s_X11_mixFisher_L48 p1 M_s n (x2 + 1) v10)
set_option maxHeartbeats 4000000 in
set_option maxRecDepth 100000 in
theorem v_X11_mixFisher_L48 {out : fO} {σ' : List fE} {p1 : Int32} {M_savedMany : Int32} {M_isTaken : Int32} {M_length : Int32} {M_thrown : Int32} {M_spelt : Int32} {M_speltMany : Int32} {M_place : Int32} {M_kind : Int32} {M_one : Int32} {M_two : Int32} {M_three : Int32} {M_begins : Int32} {M_done : Int32} {M_stopBy : Int32} {M_s : Nat → Int32} {M_saved : Nat → Int32} {M_snapshot : Nat → Int32} {M_text : Nat → Int32} : ∀ (n : Nat) {x2 : Int32} {M_hash : (Int64)} {res : Int32 × (Int64)} (hf : s_X11_mixFisher_L48 p1 M_s n x2 M_hash = some res) (hx : V (fXm 5 k_X11_mixFisher out σ') (krm k_X11_mixFisher) k_X11_mixFisher 5 75 [some (.ref 0), some (.int p1), some (.int res.1)] [] [.inl (6, [.ref 1, .ref 2, .int M_savedMany, .ref 3, .int M_isTaken, .ref 4, .int M_length, .int M_thrown, .int M_spelt, .int M_speltMany, .int M_place, .int M_kind, .int M_one, .int M_two, .int M_three, .int M_begins, .int M_done, .int M_stopBy, .long res.2]), .inr (406, .inl M_s), .inr (2436, .inl M_saved), .inr (406, .inl M_snapshot), .inr (60, .inl M_text)] 0 0), V (fXm 5 k_X11_mixFisher out σ') (krm k_X11_mixFisher) k_X11_mixFisher 5 48 [some (.ref 0), some (.int p1), some (.int x2)] [] [.inl (6, [.ref 1, .ref 2, .int M_savedMany, .ref 3, .int M_isTaken, .ref 4, .int M_length, .int M_thrown, .int M_spelt, .int M_speltMany, .int M_place, .int M_kind, .int M_one, .int M_two, .int M_three, .int M_begins, .int M_done, .int M_stopBy, .long M_hash]), .inr (406, .inl M_s), .inr (2436, .inl M_saved), .inr (406, .inl M_snapshot), .inr (60, .inl M_text)] 0 0 := by
  intro n
  induction n with
  | zero =>
    intro x2 M_hash res hf hx
    rw [s_X11_mixFisher_L48] at hf
    cases hf
  | succ n ih =>
    intro x2 M_hash res hf hx
    rw [s_X11_mixFisher_L48] at hf
    refine V.aload_n (i := 0) dX11_mixFisher_48 rfl rfl ?_
    refine V.iload_n (i := 1) dX11_mixFisher_49 rfl rfl ?_
    refine V.iload_n (i := 2) dX11_mixFisher_50 rfl rfl ?_
    obtain ⟨v8, hv8, hf⟩ := fbind hf
    refine V.callVn (pl := [0, 1, 2, 3, 4]) (σ' := [.inl (6, [.ref 1, .ref 2, .int M_savedMany, .ref 3, .int M_isTaken, .ref 4, .int M_length, .int M_thrown, .int M_spelt, .int M_speltMany, .int M_place, .int M_kind, .int M_one, .int M_two, .int M_three, .int M_begins, .int M_done, .int M_stopBy, .long M_hash]), .inr (406, .inl M_s), .inr (2436, .inl M_saved), .inr (406, .inl M_snapshot), .inr (60, .inl M_text)]) (st2 := [.int v8]) (cl2 := 0) (sl2 := 0) (ct_X11_characterAt (a1 := p1) (a2 := x2) (M_savedMany := M_savedMany) (M_isTaken := M_isTaken) (M_length := M_length) (M_thrown := M_thrown) (M_spelt := M_spelt) (M_speltMany := M_speltMany) (M_place := M_place) (M_kind := M_kind) (M_one := M_one) (M_two := M_two) (M_three := M_three) (M_begins := M_begins) (M_done := M_done) (M_stopBy := M_stopBy) (M_hash := M_hash) (M_s := M_s) (M_saved := M_saved) (M_snapshot := M_snapshot) (M_text := M_text) hv8) dX11_mixFisher_51 w1331 ⟨w1333, w44⟩ cal_X11_characterAt rfl ⟨⟨Nat.le_of_ble_eq_true rfl, Nat.le_of_ble_eq_true rfl⟩, Nat.le_of_ble_eq_true rfl, Nat.le_of_ble_eq_true rfl⟩ (Nat.le_of_ble_eq_true rfl) (Or.inl ⟨_, _, _, _, rfl, rfl⟩) rfl ⟨rfl, ⟨by decide, by decide⟩, rfl, (fr_cons (Or.inl (Nat.le_of_ble_eq_true rfl)) (fr_cons (Or.inl (Nat.le_of_ble_eq_true rfl)) (fr_cons (Or.inl (Nat.le_of_ble_eq_true rfl)) (fr_cons (Or.inl (Nat.le_of_ble_eq_true rfl)) (fr_nil))))), rfl⟩ fr_i rfl rfl rfl rfl ?_
    refine V.iconst (v := (-1)) dX11_mixFisher_54 rfl ?_
    refine V.icmp_eq (tgt := 75) dX11_mixFisher_55 (by decide) (fun h => ?_) (fun h => ?_)
    · have hf := fif_t h hf
      obtain rfl := Option.some.inj hf
      exact hx
    · have hf := fif_f h hf
      refine V.aload_n (i := 0) dX11_mixFisher_58 rfl rfl ?_
      refine V.aload_n (i := 0) dX11_mixFisher_59 rfl rfl ?_
      refine V.iload_n (i := 1) dX11_mixFisher_60 rfl rfl ?_
      refine V.iload_n (i := 2) dX11_mixFisher_61 rfl rfl ?_
      obtain ⟨v9, hv9, hf⟩ := fbind hf
      refine V.callVn (pl := [0, 1, 2, 3, 4]) (σ' := [.inl (6, [.ref 1, .ref 2, .int M_savedMany, .ref 3, .int M_isTaken, .ref 4, .int M_length, .int M_thrown, .int M_spelt, .int M_speltMany, .int M_place, .int M_kind, .int M_one, .int M_two, .int M_three, .int M_begins, .int M_done, .int M_stopBy, .long M_hash]), .inr (406, .inl M_s), .inr (2436, .inl M_saved), .inr (406, .inl M_snapshot), .inr (60, .inl M_text)]) (st2 := [.int v9, .ref 0]) (cl2 := 0) (sl2 := 0) (ct_X11_characterAt (a1 := p1) (a2 := x2) (M_savedMany := M_savedMany) (M_isTaken := M_isTaken) (M_length := M_length) (M_thrown := M_thrown) (M_spelt := M_spelt) (M_speltMany := M_speltMany) (M_place := M_place) (M_kind := M_kind) (M_one := M_one) (M_two := M_two) (M_three := M_three) (M_begins := M_begins) (M_done := M_done) (M_stopBy := M_stopBy) (M_hash := M_hash) (M_s := M_s) (M_saved := M_saved) (M_snapshot := M_snapshot) (M_text := M_text) hv9) dX11_mixFisher_62 w1331 ⟨w1333, w44⟩ cal_X11_characterAt rfl ⟨⟨Nat.le_of_ble_eq_true rfl, Nat.le_of_ble_eq_true rfl⟩, Nat.le_of_ble_eq_true rfl, Nat.le_of_ble_eq_true rfl⟩ (Nat.le_of_ble_eq_true rfl) (Or.inl ⟨_, _, _, _, rfl, rfl⟩) rfl ⟨rfl, ⟨by decide, by decide⟩, rfl, (fr_cons (Or.inl (Nat.le_of_ble_eq_true rfl)) (fr_cons (Or.inl (Nat.le_of_ble_eq_true rfl)) (fr_cons (Or.inl (Nat.le_of_ble_eq_true rfl)) (fr_cons (Or.inl (Nat.le_of_ble_eq_true rfl)) (fr_nil))))), rfl⟩ fr_i rfl rfl rfl rfl ?_
      refine V.i2l dX11_mixFisher_65 ?_
      obtain ⟨v10, hv10, hf⟩ := fbind hf
      refine V.callVn (pl := [0, 1, 2, 3, 4]) (σ' := [.inl (6, [.ref 1, .ref 2, .int M_savedMany, .ref 3, .int M_isTaken, .ref 4, .int M_length, .int M_thrown, .int M_spelt, .int M_speltMany, .int M_place, .int M_kind, .int M_one, .int M_two, .int M_three, .int M_begins, .int M_done, .int M_stopBy, .long v10]), .inr (406, .inl M_s), .inr (2436, .inl M_saved), .inr (406, .inl M_snapshot), .inr (60, .inl M_text)]) (st2 := []) (cl2 := 0) (sl2 := 0) (ct_X11_mix (a1 := (Int32.toInt64 v9)) (M_savedMany := M_savedMany) (M_isTaken := M_isTaken) (M_length := M_length) (M_thrown := M_thrown) (M_spelt := M_spelt) (M_speltMany := M_speltMany) (M_place := M_place) (M_kind := M_kind) (M_one := M_one) (M_two := M_two) (M_three := M_three) (M_begins := M_begins) (M_done := M_done) (M_stopBy := M_stopBy) (M_hash := M_hash) (M_s := M_s) (M_saved := M_saved) (M_snapshot := M_snapshot) (M_text := M_text) hv10) dX11_mixFisher_66 w1472 ⟨w1474, w63⟩ cal_X11_mix rfl ⟨⟨Nat.le_of_ble_eq_true rfl, Nat.le_of_ble_eq_true rfl⟩, Nat.le_of_ble_eq_true rfl, Nat.le_of_ble_eq_true rfl⟩ (Nat.le_of_ble_eq_true rfl) (Or.inl ⟨_, _, _, _, rfl, rfl⟩) rfl ⟨rfl, ⟨by decide, by decide⟩, rfl, (fr_cons (Or.inl (Nat.le_of_ble_eq_true rfl)) (fr_cons (Or.inl (Nat.le_of_ble_eq_true rfl)) (fr_cons (Or.inl (Nat.le_of_ble_eq_true rfl)) (fr_cons (Or.inl (Nat.le_of_ble_eq_true rfl)) (fr_nil))))), rfl⟩ fr_v rfl rfl rfl rfl ?_
      refine V.iinc (i := 2) (v := (x2 + 1)) (L' := [some (.ref 0), some (.int p1), some (.int (x2 + 1))]) dX11_mixFisher_69 rfl rfl (Nat.le_of_ble_eq_true rfl) rfl rfl ?_
      refine V.goto (tgt := 48) dX11_mixFisher_72 (by decide) ?_
      exact ih hf hx
def s_X11_mixFisher_L77 (p1 : Int32) (M_s : Nat → Int32) : Nat → Int32 → (Int64) → Option (Int32 × (Int64))
  | 0, _, _ => none
  | n + 1, x2, M_hash => (s_X11_of p1 1 M_s).bind fun v12 => if (v12 ≤ x2 : Prop) then (some (x2, M_hash)) else ((s_X11_whereIs p1 x2).bind fun v13 => (s_X11_mixName v13 M_hash M_s).bind fun v14 => s_X11_mixFisher_L77 p1 M_s n (x2 + 1) v14)
set_option maxHeartbeats 4000000 in
set_option maxRecDepth 100000 in
theorem v_X11_mixFisher_L77 {out : fO} {σ' : List fE} {p1 : Int32} {M_savedMany : Int32} {M_isTaken : Int32} {M_length : Int32} {M_thrown : Int32} {M_spelt : Int32} {M_speltMany : Int32} {M_place : Int32} {M_kind : Int32} {M_one : Int32} {M_two : Int32} {M_three : Int32} {M_begins : Int32} {M_done : Int32} {M_stopBy : Int32} {M_s : Nat → Int32} {M_saved : Nat → Int32} {M_snapshot : Nat → Int32} {M_text : Nat → Int32} : ∀ (n : Nat) {x2 : Int32} {M_hash : (Int64)} {res : Int32 × (Int64)} (hf : s_X11_mixFisher_L77 p1 M_s n x2 M_hash = some res) (hx : V (fXm 5 k_X11_mixFisher out σ') (krm k_X11_mixFisher) k_X11_mixFisher 5 102 [some (.ref 0), some (.int p1), some (.int res.1)] [] [.inl (6, [.ref 1, .ref 2, .int M_savedMany, .ref 3, .int M_isTaken, .ref 4, .int M_length, .int M_thrown, .int M_spelt, .int M_speltMany, .int M_place, .int M_kind, .int M_one, .int M_two, .int M_three, .int M_begins, .int M_done, .int M_stopBy, .long res.2]), .inr (406, .inl M_s), .inr (2436, .inl M_saved), .inr (406, .inl M_snapshot), .inr (60, .inl M_text)] 0 0), V (fXm 5 k_X11_mixFisher out σ') (krm k_X11_mixFisher) k_X11_mixFisher 5 77 [some (.ref 0), some (.int p1), some (.int x2)] [] [.inl (6, [.ref 1, .ref 2, .int M_savedMany, .ref 3, .int M_isTaken, .ref 4, .int M_length, .int M_thrown, .int M_spelt, .int M_speltMany, .int M_place, .int M_kind, .int M_one, .int M_two, .int M_three, .int M_begins, .int M_done, .int M_stopBy, .long M_hash]), .inr (406, .inl M_s), .inr (2436, .inl M_saved), .inr (406, .inl M_snapshot), .inr (60, .inl M_text)] 0 0 := by
  intro n
  induction n with
  | zero =>
    intro x2 M_hash res hf hx
    rw [s_X11_mixFisher_L77] at hf
    cases hf
  | succ n ih =>
    intro x2 M_hash res hf hx
    rw [s_X11_mixFisher_L77] at hf
    refine V.iload_n (i := 2) dX11_mixFisher_77 rfl rfl ?_
    refine V.aload_n (i := 0) dX11_mixFisher_78 rfl rfl ?_
    refine V.iload_n (i := 1) dX11_mixFisher_79 rfl rfl ?_
    refine V.iconst (v := 1) dX11_mixFisher_80 rfl ?_
    obtain ⟨v12, hv12, hf⟩ := fbind hf
    refine V.callVn (pl := [0, 1, 2, 3, 4]) (σ' := [.inl (6, [.ref 1, .ref 2, .int M_savedMany, .ref 3, .int M_isTaken, .ref 4, .int M_length, .int M_thrown, .int M_spelt, .int M_speltMany, .int M_place, .int M_kind, .int M_one, .int M_two, .int M_three, .int M_begins, .int M_done, .int M_stopBy, .long M_hash]), .inr (406, .inl M_s), .inr (2436, .inl M_saved), .inr (406, .inl M_snapshot), .inr (60, .inl M_text)]) (st2 := [.int v12, .int x2]) (cl2 := 0) (sl2 := 0) (ct_X11_of (a1 := p1) (a2 := 1) (M_savedMany := M_savedMany) (M_isTaken := M_isTaken) (M_length := M_length) (M_thrown := M_thrown) (M_spelt := M_spelt) (M_speltMany := M_speltMany) (M_place := M_place) (M_kind := M_kind) (M_one := M_one) (M_two := M_two) (M_three := M_three) (M_begins := M_begins) (M_done := M_done) (M_stopBy := M_stopBy) (M_hash := M_hash) (M_s := M_s) (M_saved := M_saved) (M_snapshot := M_snapshot) (M_text := M_text) hv12) dX11_mixFisher_81 w1123 ⟨w1125, w10⟩ cal_X11_of rfl ⟨⟨Nat.le_of_ble_eq_true rfl, Nat.le_of_ble_eq_true rfl⟩, Nat.le_of_ble_eq_true rfl, Nat.le_of_ble_eq_true rfl⟩ (Nat.le_of_ble_eq_true rfl) (Or.inl ⟨_, _, _, _, rfl, rfl⟩) rfl ⟨rfl, ⟨by decide, by decide⟩, rfl, (fr_cons (Or.inl (Nat.le_of_ble_eq_true rfl)) (fr_cons (Or.inl (Nat.le_of_ble_eq_true rfl)) (fr_cons (Or.inl (Nat.le_of_ble_eq_true rfl)) (fr_cons (Or.inl (Nat.le_of_ble_eq_true rfl)) (fr_nil))))), rfl⟩ fr_i rfl rfl rfl rfl ?_
    refine V.icmp_ge (tgt := 102) dX11_mixFisher_84 (by decide) (fun h => ?_) (fun h => ?_)
    · have hf := fif_t h hf
      obtain rfl := Option.some.inj hf
      exact hx
    · have hf := fif_f h hf
      refine V.aload_n (i := 0) dX11_mixFisher_87 rfl rfl ?_
      refine V.iload_n (i := 1) dX11_mixFisher_88 rfl rfl ?_
      refine V.iload_n (i := 2) dX11_mixFisher_89 rfl rfl ?_
      obtain ⟨v13, hv13, hf⟩ := fbind hf
      refine V.callSn (pl := []) (σ' := [.inl (6, [.ref 1, .ref 2, .int M_savedMany, .ref 3, .int M_isTaken, .ref 4, .int M_length, .int M_thrown, .int M_spelt, .int M_speltMany, .int M_place, .int M_kind, .int M_one, .int M_two, .int M_three, .int M_begins, .int M_done, .int M_stopBy, .long M_hash]), .inr (406, .inl M_s), .inr (2436, .inl M_saved), .inr (406, .inl M_snapshot), .inr (60, .inl M_text)]) (st2 := [.int v13, .ref 0]) (cl2 := 0) (sl2 := 0) (ct_X11_whereIs (a0 := p1) (a1 := x2) hv13) dX11_mixFisher_90 w1147 w1148 cal_X11_whereIs ⟨⟨Nat.le_of_ble_eq_true rfl, Nat.le_of_ble_eq_true rfl⟩, Nat.le_of_ble_eq_true rfl, Nat.le_of_ble_eq_true rfl⟩ (Nat.le_of_ble_eq_true rfl) rfl ⟨rfl, ⟨by decide, by decide⟩, rfl, (fr_nil), rfl⟩ fr_i rfl rfl rfl rfl ?_
      obtain ⟨v14, hv14, hf⟩ := fbind hf
      refine V.callVn (pl := [0, 1, 2, 3, 4]) (σ' := [.inl (6, [.ref 1, .ref 2, .int M_savedMany, .ref 3, .int M_isTaken, .ref 4, .int M_length, .int M_thrown, .int M_spelt, .int M_speltMany, .int M_place, .int M_kind, .int M_one, .int M_two, .int M_three, .int M_begins, .int M_done, .int M_stopBy, .long v14]), .inr (406, .inl M_s), .inr (2436, .inl M_saved), .inr (406, .inl M_snapshot), .inr (60, .inl M_text)]) (st2 := []) (cl2 := 0) (sl2 := 0) (ct_X11_mixName (a1 := v13) (M_savedMany := M_savedMany) (M_isTaken := M_isTaken) (M_length := M_length) (M_thrown := M_thrown) (M_spelt := M_spelt) (M_speltMany := M_speltMany) (M_place := M_place) (M_kind := M_kind) (M_one := M_one) (M_two := M_two) (M_three := M_three) (M_begins := M_begins) (M_done := M_done) (M_stopBy := M_stopBy) (M_hash := M_hash) (M_s := M_s) (M_saved := M_saved) (M_snapshot := M_snapshot) (M_text := M_text) hv14) dX11_mixFisher_93 w1481 ⟨w1483, w65⟩ cal_X11_mixName rfl ⟨⟨Nat.le_of_ble_eq_true rfl, Nat.le_of_ble_eq_true rfl⟩, Nat.le_of_ble_eq_true rfl, Nat.le_of_ble_eq_true rfl⟩ (Nat.le_of_ble_eq_true rfl) (Or.inl ⟨_, _, _, _, rfl, rfl⟩) rfl ⟨rfl, ⟨by decide, by decide⟩, rfl, (fr_cons (Or.inl (Nat.le_of_ble_eq_true rfl)) (fr_cons (Or.inl (Nat.le_of_ble_eq_true rfl)) (fr_cons (Or.inl (Nat.le_of_ble_eq_true rfl)) (fr_cons (Or.inl (Nat.le_of_ble_eq_true rfl)) (fr_nil))))), rfl⟩ fr_v rfl rfl rfl rfl ?_
      refine V.iinc (i := 2) (v := (x2 + 1)) (L' := [some (.ref 0), some (.int p1), some (.int (x2 + 1))]) dX11_mixFisher_96 rfl rfl (Nat.le_of_ble_eq_true rfl) rfl rfl ?_
      refine V.goto (tgt := 77) dX11_mixFisher_99 (by decide) ?_
      exact ih hf hx
def s_X11_mixFisher (a1 : Int32) (M_hash : Int64) (M_s : Nat → Int32) : Option ((Int64)) := (s_X11_mixFisher_L2 a1 M_s gF 0 M_hash).bind fun r3 => (s_X11_stormNumber a1 0 M_s).bind fun v4 => (s_X11_mix (Int32.toInt64 v4) r3.2).bind fun v5 => (s_X11_stormNumber a1 1 M_s).bind fun v6 => (s_X11_mix (Int32.toInt64 v6) v5).bind fun v7 => (s_X11_mixFisher_L48 a1 M_s gF 0 v7).bind fun r11 => (s_X11_mixFisher_L77 a1 M_s gF 0 r11.2).bind fun r15 => some r15.2
set_option maxHeartbeats 4000000 in
set_option maxRecDepth 100000 in
theorem ct_X11_mixFisher {a1 : Int32} {M_savedMany : Int32} {M_isTaken : Int32} {M_length : Int32} {M_thrown : Int32} {M_spelt : Int32} {M_speltMany : Int32} {M_place : Int32} {M_kind : Int32} {M_one : Int32} {M_two : Int32} {M_three : Int32} {M_begins : Int32} {M_done : Int32} {M_stopBy : Int32} {M_hash : Int64} {M_s : Nat → Int32} {M_saved : Nat → Int32} {M_snapshot : Nat → Int32} {M_text : Nat → Int32} {res : (Int64)} (hf : s_X11_mixFisher a1 M_hash M_s = some res) : Ct k_X11_mixFisher [.ref 0, .int a1] [.inl (6, [.ref 1, .ref 2, .int M_savedMany, .ref 3, .int M_isTaken, .ref 4, .int M_length, .int M_thrown, .int M_spelt, .int M_speltMany, .int M_place, .int M_kind, .int M_one, .int M_two, .int M_three, .int M_begins, .int M_done, .int M_stopBy, .long M_hash]), .inr (406, .inl M_s), .inr (2436, .inl M_saved), .inr (406, .inl M_snapshot), .inr (60, .inl M_text)] (.inl none) [.inl (6, [.ref 1, .ref 2, .int M_savedMany, .ref 3, .int M_isTaken, .ref 4, .int M_length, .int M_thrown, .int M_spelt, .int M_speltMany, .int M_place, .int M_kind, .int M_one, .int M_two, .int M_three, .int M_begins, .int M_done, .int M_stopBy, .long res]), .inr (406, .inl M_s), .inr (2436, .inl M_saved), .inr (406, .inl M_snapshot), .inr (60, .inl M_text)] := by
  unfold s_X11_mixFisher at hf
  refine Ct.of (L := [some (.ref 0), some (.int a1), none]) cal_X11_mixFisher (fent_pad (j := 1) rfl) (Nat.le_of_ble_eq_true rfl) ?_
  refine V.iconst (v := 0) dX11_mixFisher_0 rfl ?_
  refine V.istore_n (i := 2) (L' := [some (.ref 0), some (.int a1), some (.int 0)]) dX11_mixFisher_1 rfl (Nat.le_of_ble_eq_true rfl) rfl rfl ?_
  obtain ⟨r3, hr3, hf⟩ := fbind hf
  refine v_X11_mixFisher_L2 gF hr3 ?_
  refine V.aload_n (i := 0) dX11_mixFisher_24 rfl rfl ?_
  refine V.aload_n (i := 0) dX11_mixFisher_25 rfl rfl ?_
  refine V.iload_n (i := 1) dX11_mixFisher_26 rfl rfl ?_
  refine V.iconst (v := 0) dX11_mixFisher_27 rfl ?_
  obtain ⟨v4, hv4, hf⟩ := fbind hf
  refine V.callVn (pl := [0, 1, 2, 3, 4]) (σ' := [.inl (6, [.ref 1, .ref 2, .int M_savedMany, .ref 3, .int M_isTaken, .ref 4, .int M_length, .int M_thrown, .int M_spelt, .int M_speltMany, .int M_place, .int M_kind, .int M_one, .int M_two, .int M_three, .int M_begins, .int M_done, .int M_stopBy, .long r3.2]), .inr (406, .inl M_s), .inr (2436, .inl M_saved), .inr (406, .inl M_snapshot), .inr (60, .inl M_text)]) (st2 := [.int v4, .ref 0]) (cl2 := 0) (sl2 := 0) (ct_X11_stormNumber (a1 := a1) (a2 := 0) (M_savedMany := M_savedMany) (M_isTaken := M_isTaken) (M_length := M_length) (M_thrown := M_thrown) (M_spelt := M_spelt) (M_speltMany := M_speltMany) (M_place := M_place) (M_kind := M_kind) (M_one := M_one) (M_two := M_two) (M_three := M_three) (M_begins := M_begins) (M_done := M_done) (M_stopBy := M_stopBy) (M_hash := r3.2) (M_s := M_s) (M_saved := M_saved) (M_snapshot := M_snapshot) (M_text := M_text) hv4) dX11_mixFisher_28 w1447 ⟨w1449, w60⟩ cal_X11_stormNumber rfl ⟨⟨Nat.le_of_ble_eq_true rfl, Nat.le_of_ble_eq_true rfl⟩, Nat.le_of_ble_eq_true rfl, Nat.le_of_ble_eq_true rfl⟩ (Nat.le_of_ble_eq_true rfl) (Or.inl ⟨_, _, _, _, rfl, rfl⟩) rfl ⟨rfl, ⟨by decide, by decide⟩, rfl, (fr_cons (Or.inl (Nat.le_of_ble_eq_true rfl)) (fr_cons (Or.inl (Nat.le_of_ble_eq_true rfl)) (fr_cons (Or.inl (Nat.le_of_ble_eq_true rfl)) (fr_cons (Or.inl (Nat.le_of_ble_eq_true rfl)) (fr_nil))))), rfl⟩ fr_i rfl rfl rfl rfl ?_
  refine V.i2l dX11_mixFisher_31 ?_
  obtain ⟨v5, hv5, hf⟩ := fbind hf
  refine V.callVn (pl := [0, 1, 2, 3, 4]) (σ' := [.inl (6, [.ref 1, .ref 2, .int M_savedMany, .ref 3, .int M_isTaken, .ref 4, .int M_length, .int M_thrown, .int M_spelt, .int M_speltMany, .int M_place, .int M_kind, .int M_one, .int M_two, .int M_three, .int M_begins, .int M_done, .int M_stopBy, .long v5]), .inr (406, .inl M_s), .inr (2436, .inl M_saved), .inr (406, .inl M_snapshot), .inr (60, .inl M_text)]) (st2 := []) (cl2 := 0) (sl2 := 0) (ct_X11_mix (a1 := (Int32.toInt64 v4)) (M_savedMany := M_savedMany) (M_isTaken := M_isTaken) (M_length := M_length) (M_thrown := M_thrown) (M_spelt := M_spelt) (M_speltMany := M_speltMany) (M_place := M_place) (M_kind := M_kind) (M_one := M_one) (M_two := M_two) (M_three := M_three) (M_begins := M_begins) (M_done := M_done) (M_stopBy := M_stopBy) (M_hash := r3.2) (M_s := M_s) (M_saved := M_saved) (M_snapshot := M_snapshot) (M_text := M_text) hv5) dX11_mixFisher_32 w1472 ⟨w1474, w63⟩ cal_X11_mix rfl ⟨⟨Nat.le_of_ble_eq_true rfl, Nat.le_of_ble_eq_true rfl⟩, Nat.le_of_ble_eq_true rfl, Nat.le_of_ble_eq_true rfl⟩ (Nat.le_of_ble_eq_true rfl) (Or.inl ⟨_, _, _, _, rfl, rfl⟩) rfl ⟨rfl, ⟨by decide, by decide⟩, rfl, (fr_cons (Or.inl (Nat.le_of_ble_eq_true rfl)) (fr_cons (Or.inl (Nat.le_of_ble_eq_true rfl)) (fr_cons (Or.inl (Nat.le_of_ble_eq_true rfl)) (fr_cons (Or.inl (Nat.le_of_ble_eq_true rfl)) (fr_nil))))), rfl⟩ fr_v rfl rfl rfl rfl ?_
  refine V.aload_n (i := 0) dX11_mixFisher_35 rfl rfl ?_
  refine V.aload_n (i := 0) dX11_mixFisher_36 rfl rfl ?_
  refine V.iload_n (i := 1) dX11_mixFisher_37 rfl rfl ?_
  refine V.iconst (v := 1) dX11_mixFisher_38 rfl ?_
  obtain ⟨v6, hv6, hf⟩ := fbind hf
  refine V.callVn (pl := [0, 1, 2, 3, 4]) (σ' := [.inl (6, [.ref 1, .ref 2, .int M_savedMany, .ref 3, .int M_isTaken, .ref 4, .int M_length, .int M_thrown, .int M_spelt, .int M_speltMany, .int M_place, .int M_kind, .int M_one, .int M_two, .int M_three, .int M_begins, .int M_done, .int M_stopBy, .long v5]), .inr (406, .inl M_s), .inr (2436, .inl M_saved), .inr (406, .inl M_snapshot), .inr (60, .inl M_text)]) (st2 := [.int v6, .ref 0]) (cl2 := 0) (sl2 := 0) (ct_X11_stormNumber (a1 := a1) (a2 := 1) (M_savedMany := M_savedMany) (M_isTaken := M_isTaken) (M_length := M_length) (M_thrown := M_thrown) (M_spelt := M_spelt) (M_speltMany := M_speltMany) (M_place := M_place) (M_kind := M_kind) (M_one := M_one) (M_two := M_two) (M_three := M_three) (M_begins := M_begins) (M_done := M_done) (M_stopBy := M_stopBy) (M_hash := v5) (M_s := M_s) (M_saved := M_saved) (M_snapshot := M_snapshot) (M_text := M_text) hv6) dX11_mixFisher_39 w1447 ⟨w1449, w60⟩ cal_X11_stormNumber rfl ⟨⟨Nat.le_of_ble_eq_true rfl, Nat.le_of_ble_eq_true rfl⟩, Nat.le_of_ble_eq_true rfl, Nat.le_of_ble_eq_true rfl⟩ (Nat.le_of_ble_eq_true rfl) (Or.inl ⟨_, _, _, _, rfl, rfl⟩) rfl ⟨rfl, ⟨by decide, by decide⟩, rfl, (fr_cons (Or.inl (Nat.le_of_ble_eq_true rfl)) (fr_cons (Or.inl (Nat.le_of_ble_eq_true rfl)) (fr_cons (Or.inl (Nat.le_of_ble_eq_true rfl)) (fr_cons (Or.inl (Nat.le_of_ble_eq_true rfl)) (fr_nil))))), rfl⟩ fr_i rfl rfl rfl rfl ?_
  refine V.i2l dX11_mixFisher_42 ?_
  obtain ⟨v7, hv7, hf⟩ := fbind hf
  refine V.callVn (pl := [0, 1, 2, 3, 4]) (σ' := [.inl (6, [.ref 1, .ref 2, .int M_savedMany, .ref 3, .int M_isTaken, .ref 4, .int M_length, .int M_thrown, .int M_spelt, .int M_speltMany, .int M_place, .int M_kind, .int M_one, .int M_two, .int M_three, .int M_begins, .int M_done, .int M_stopBy, .long v7]), .inr (406, .inl M_s), .inr (2436, .inl M_saved), .inr (406, .inl M_snapshot), .inr (60, .inl M_text)]) (st2 := []) (cl2 := 0) (sl2 := 0) (ct_X11_mix (a1 := (Int32.toInt64 v6)) (M_savedMany := M_savedMany) (M_isTaken := M_isTaken) (M_length := M_length) (M_thrown := M_thrown) (M_spelt := M_spelt) (M_speltMany := M_speltMany) (M_place := M_place) (M_kind := M_kind) (M_one := M_one) (M_two := M_two) (M_three := M_three) (M_begins := M_begins) (M_done := M_done) (M_stopBy := M_stopBy) (M_hash := v5) (M_s := M_s) (M_saved := M_saved) (M_snapshot := M_snapshot) (M_text := M_text) hv7) dX11_mixFisher_43 w1472 ⟨w1474, w63⟩ cal_X11_mix rfl ⟨⟨Nat.le_of_ble_eq_true rfl, Nat.le_of_ble_eq_true rfl⟩, Nat.le_of_ble_eq_true rfl, Nat.le_of_ble_eq_true rfl⟩ (Nat.le_of_ble_eq_true rfl) (Or.inl ⟨_, _, _, _, rfl, rfl⟩) rfl ⟨rfl, ⟨by decide, by decide⟩, rfl, (fr_cons (Or.inl (Nat.le_of_ble_eq_true rfl)) (fr_cons (Or.inl (Nat.le_of_ble_eq_true rfl)) (fr_cons (Or.inl (Nat.le_of_ble_eq_true rfl)) (fr_cons (Or.inl (Nat.le_of_ble_eq_true rfl)) (fr_nil))))), rfl⟩ fr_v rfl rfl rfl rfl ?_
  refine V.iconst (v := 0) dX11_mixFisher_46 rfl ?_
  refine V.istore_n (i := 2) (L' := [some (.ref 0), some (.int a1), some (.int 0)]) dX11_mixFisher_47 rfl (Nat.le_of_ble_eq_true rfl) rfl rfl ?_
  obtain ⟨r11, hr11, hf⟩ := fbind hf
  refine v_X11_mixFisher_L48 gF hr11 ?_
  refine V.iconst (v := 0) dX11_mixFisher_75 rfl ?_
  refine V.istore_n (i := 2) (L' := [some (.ref 0), some (.int a1), some (.int 0)]) dX11_mixFisher_76 rfl (Nat.le_of_ble_eq_true rfl) rfl rfl ?_
  obtain ⟨r15, hr15, hf⟩ := fbind hf
  refine v_X11_mixFisher_L77 gF hr15 ?_
  obtain rfl := Option.some.inj hf
  exact V.vret dX11_mixFisher_102 rfl (Nat.le_of_ble_eq_true rfl) (Nat.le_of_ble_eq_true rfl) rfl
def k_X11_digest : fK := (yX11_digest, cX11_digest, 2, (some .long), [], (8, 172), (0, 0), (0, 0))
theorem cal_X11_digest : fCal k_X11_digest 0 := ⟨⟨wc1470, w73⟩, ⟨by decide +kernel, by decide +kernel⟩, by decide +kernel, by decide +kernel⟩
def s_X11_digest_L14 (M_savedMany : Int32) (M_s : Nat → Int32) : Nat → Int32 → (Int64) → Option (Int32 × (Int64))
  | 0, _, _ => none
  | n + 1, x1, M_hash => if (14 ≤ x1 : Prop) then (some (x1, M_hash)) else ((s_X11_countNumber x1 M_savedMany M_s).bind fun v1 => (s_X11_mix (Int32.toInt64 v1) M_hash).bind fun v2 => s_X11_digest_L14 M_savedMany M_s n (x1 + 1) v2)
set_option maxHeartbeats 4000000 in
set_option maxRecDepth 100000 in
theorem v_X11_digest_L14 {out : fO} {σ' : List fE} {M_savedMany : Int32} {M_isTaken : Int32} {M_length : Int32} {M_thrown : Int32} {M_spelt : Int32} {M_speltMany : Int32} {M_place : Int32} {M_kind : Int32} {M_one : Int32} {M_two : Int32} {M_three : Int32} {M_begins : Int32} {M_done : Int32} {M_stopBy : Int32} {M_s : Nat → Int32} {M_saved : Nat → Int32} {M_snapshot : Nat → Int32} {M_text : Nat → Int32} : ∀ (n : Nat) {x1 : Int32} {M_hash : (Int64)} {res : Int32 × (Int64)} (hf : s_X11_digest_L14 M_savedMany M_s n x1 M_hash = some res) (hx : V (fXm 5 k_X11_digest out σ') (krm k_X11_digest) k_X11_digest 5 36 [some (.ref 0), some (.int res.1)] [] [.inl (6, [.ref 1, .ref 2, .int M_savedMany, .ref 3, .int M_isTaken, .ref 4, .int M_length, .int M_thrown, .int M_spelt, .int M_speltMany, .int M_place, .int M_kind, .int M_one, .int M_two, .int M_three, .int M_begins, .int M_done, .int M_stopBy, .long res.2]), .inr (406, .inl M_s), .inr (2436, .inl M_saved), .inr (406, .inl M_snapshot), .inr (60, .inl M_text)] 0 0), V (fXm 5 k_X11_digest out σ') (krm k_X11_digest) k_X11_digest 5 14 [some (.ref 0), some (.int x1)] [] [.inl (6, [.ref 1, .ref 2, .int M_savedMany, .ref 3, .int M_isTaken, .ref 4, .int M_length, .int M_thrown, .int M_spelt, .int M_speltMany, .int M_place, .int M_kind, .int M_one, .int M_two, .int M_three, .int M_begins, .int M_done, .int M_stopBy, .long M_hash]), .inr (406, .inl M_s), .inr (2436, .inl M_saved), .inr (406, .inl M_snapshot), .inr (60, .inl M_text)] 0 0 := by
  intro n
  induction n with
  | zero =>
    intro x1 M_hash res hf hx
    rw [s_X11_digest_L14] at hf
    cases hf
  | succ n ih =>
    intro x1 M_hash res hf hx
    rw [s_X11_digest_L14] at hf
    refine V.iload_n (i := 1) dX11_digest_14 rfl rfl ?_
    refine V.bipush (v := 14) dX11_digest_15 rfl ?_
    refine V.icmp_ge (tgt := 36) dX11_digest_17 (by decide) (fun h => ?_) (fun h => ?_)
    · have hf := fif_t h hf
      obtain rfl := Option.some.inj hf
      exact hx
    · have hf := fif_f h hf
      refine V.aload_n (i := 0) dX11_digest_20 rfl rfl ?_
      refine V.aload_n (i := 0) dX11_digest_21 rfl rfl ?_
      refine V.iload_n (i := 1) dX11_digest_22 rfl rfl ?_
      obtain ⟨v1, hv1, hf⟩ := fbind hf
      refine V.callVn (pl := [0, 1, 2, 3, 4]) (σ' := [.inl (6, [.ref 1, .ref 2, .int M_savedMany, .ref 3, .int M_isTaken, .ref 4, .int M_length, .int M_thrown, .int M_spelt, .int M_speltMany, .int M_place, .int M_kind, .int M_one, .int M_two, .int M_three, .int M_begins, .int M_done, .int M_stopBy, .long M_hash]), .inr (406, .inl M_s), .inr (2436, .inl M_saved), .inr (406, .inl M_snapshot), .inr (60, .inl M_text)]) (st2 := [.int v1, .ref 0]) (cl2 := 0) (sl2 := 0) (ct_X11_countNumber (a1 := x1) (M_savedMany := M_savedMany) (M_isTaken := M_isTaken) (M_length := M_length) (M_thrown := M_thrown) (M_spelt := M_spelt) (M_speltMany := M_speltMany) (M_place := M_place) (M_kind := M_kind) (M_one := M_one) (M_two := M_two) (M_three := M_three) (M_begins := M_begins) (M_done := M_done) (M_stopBy := M_stopBy) (M_hash := M_hash) (M_s := M_s) (M_saved := M_saved) (M_snapshot := M_snapshot) (M_text := M_text) hv1) dX11_digest_23 w1407 ⟨w1409, w53⟩ cal_X11_countNumber rfl ⟨⟨Nat.le_of_ble_eq_true rfl, Nat.le_of_ble_eq_true rfl⟩, Nat.le_of_ble_eq_true rfl, Nat.le_of_ble_eq_true rfl⟩ (Nat.le_of_ble_eq_true rfl) (Or.inl ⟨_, _, _, _, rfl, rfl⟩) rfl ⟨rfl, ⟨by decide, by decide⟩, rfl, (fr_cons (Or.inl (Nat.le_of_ble_eq_true rfl)) (fr_cons (Or.inl (Nat.le_of_ble_eq_true rfl)) (fr_cons (Or.inl (Nat.le_of_ble_eq_true rfl)) (fr_cons (Or.inl (Nat.le_of_ble_eq_true rfl)) (fr_nil))))), rfl⟩ fr_i rfl rfl rfl rfl ?_
      refine V.i2l dX11_digest_26 ?_
      obtain ⟨v2, hv2, hf⟩ := fbind hf
      refine V.callVn (pl := [0, 1, 2, 3, 4]) (σ' := [.inl (6, [.ref 1, .ref 2, .int M_savedMany, .ref 3, .int M_isTaken, .ref 4, .int M_length, .int M_thrown, .int M_spelt, .int M_speltMany, .int M_place, .int M_kind, .int M_one, .int M_two, .int M_three, .int M_begins, .int M_done, .int M_stopBy, .long v2]), .inr (406, .inl M_s), .inr (2436, .inl M_saved), .inr (406, .inl M_snapshot), .inr (60, .inl M_text)]) (st2 := []) (cl2 := 0) (sl2 := 0) (ct_X11_mix (a1 := (Int32.toInt64 v1)) (M_savedMany := M_savedMany) (M_isTaken := M_isTaken) (M_length := M_length) (M_thrown := M_thrown) (M_spelt := M_spelt) (M_speltMany := M_speltMany) (M_place := M_place) (M_kind := M_kind) (M_one := M_one) (M_two := M_two) (M_three := M_three) (M_begins := M_begins) (M_done := M_done) (M_stopBy := M_stopBy) (M_hash := M_hash) (M_s := M_s) (M_saved := M_saved) (M_snapshot := M_snapshot) (M_text := M_text) hv2) dX11_digest_27 w1472 ⟨w1474, w63⟩ cal_X11_mix rfl ⟨⟨Nat.le_of_ble_eq_true rfl, Nat.le_of_ble_eq_true rfl⟩, Nat.le_of_ble_eq_true rfl, Nat.le_of_ble_eq_true rfl⟩ (Nat.le_of_ble_eq_true rfl) (Or.inl ⟨_, _, _, _, rfl, rfl⟩) rfl ⟨rfl, ⟨by decide, by decide⟩, rfl, (fr_cons (Or.inl (Nat.le_of_ble_eq_true rfl)) (fr_cons (Or.inl (Nat.le_of_ble_eq_true rfl)) (fr_cons (Or.inl (Nat.le_of_ble_eq_true rfl)) (fr_cons (Or.inl (Nat.le_of_ble_eq_true rfl)) (fr_nil))))), rfl⟩ fr_v rfl rfl rfl rfl ?_
      refine V.iinc (i := 1) (v := (x1 + 1)) (L' := [some (.ref 0), some (.int (x1 + 1))]) dX11_digest_30 rfl rfl (Nat.le_of_ble_eq_true rfl) rfl rfl ?_
      refine V.goto (tgt := 14) dX11_digest_33 (by decide) ?_
      exact ih hf hx
def s_X11_digest_L38 (M_s : Nat → Int32) : Nat → Int32 → (Int64) → Option (Int32 × (Int64))
  | 0, _, _ => none
  | n + 1, x1, M_hash => if (96 ≤ x1 : Prop) then (some (x1, M_hash)) else ((s_X11_letterNumber (x1 / 6) (x1 - x1 / 6 * 6) M_s).bind fun v4 => (s_X11_mix (Int32.toInt64 v4) M_hash).bind fun v5 => s_X11_digest_L38 M_s n (x1 + 1) v5)
set_option maxHeartbeats 4000000 in
set_option maxRecDepth 100000 in
theorem v_X11_digest_L38 {out : fO} {σ' : List fE} {M_savedMany : Int32} {M_isTaken : Int32} {M_length : Int32} {M_thrown : Int32} {M_spelt : Int32} {M_speltMany : Int32} {M_place : Int32} {M_kind : Int32} {M_one : Int32} {M_two : Int32} {M_three : Int32} {M_begins : Int32} {M_done : Int32} {M_stopBy : Int32} {M_s : Nat → Int32} {M_saved : Nat → Int32} {M_snapshot : Nat → Int32} {M_text : Nat → Int32} : ∀ (n : Nat) {x1 : Int32} {M_hash : (Int64)} {res : Int32 × (Int64)} (hf : s_X11_digest_L38 M_s n x1 M_hash = some res) (hx : V (fXm 5 k_X11_digest out σ') (krm k_X11_digest) k_X11_digest 5 67 [some (.ref 0), some (.int res.1)] [] [.inl (6, [.ref 1, .ref 2, .int M_savedMany, .ref 3, .int M_isTaken, .ref 4, .int M_length, .int M_thrown, .int M_spelt, .int M_speltMany, .int M_place, .int M_kind, .int M_one, .int M_two, .int M_three, .int M_begins, .int M_done, .int M_stopBy, .long res.2]), .inr (406, .inl M_s), .inr (2436, .inl M_saved), .inr (406, .inl M_snapshot), .inr (60, .inl M_text)] 0 0), V (fXm 5 k_X11_digest out σ') (krm k_X11_digest) k_X11_digest 5 38 [some (.ref 0), some (.int x1)] [] [.inl (6, [.ref 1, .ref 2, .int M_savedMany, .ref 3, .int M_isTaken, .ref 4, .int M_length, .int M_thrown, .int M_spelt, .int M_speltMany, .int M_place, .int M_kind, .int M_one, .int M_two, .int M_three, .int M_begins, .int M_done, .int M_stopBy, .long M_hash]), .inr (406, .inl M_s), .inr (2436, .inl M_saved), .inr (406, .inl M_snapshot), .inr (60, .inl M_text)] 0 0 := by
  intro n
  induction n with
  | zero =>
    intro x1 M_hash res hf hx
    rw [s_X11_digest_L38] at hf
    cases hf
  | succ n ih =>
    intro x1 M_hash res hf hx
    rw [s_X11_digest_L38] at hf
    refine V.iload_n (i := 1) dX11_digest_38 rfl rfl ?_
    refine V.bipush (v := 96) dX11_digest_39 rfl ?_
    refine V.icmp_ge (tgt := 67) dX11_digest_41 (by decide) (fun h => ?_) (fun h => ?_)
    · have hf := fif_t h hf
      obtain rfl := Option.some.inj hf
      exact hx
    · have hf := fif_f h hf
      refine V.aload_n (i := 0) dX11_digest_44 rfl rfl ?_
      refine V.aload_n (i := 0) dX11_digest_45 rfl rfl ?_
      refine V.iload_n (i := 1) dX11_digest_46 rfl rfl ?_
      refine V.bipush (v := 6) dX11_digest_47 rfl ?_
      refine V.idiv dX11_digest_49 (by decide) ?_
      refine V.iload_n (i := 1) dX11_digest_50 rfl rfl ?_
      refine V.bipush (v := 6) dX11_digest_51 rfl ?_
      refine V.irem dX11_digest_53 (by decide) ?_
      obtain ⟨v4, hv4, hf⟩ := fbind hf
      refine V.callVn (pl := [0, 1, 2, 3, 4]) (σ' := [.inl (6, [.ref 1, .ref 2, .int M_savedMany, .ref 3, .int M_isTaken, .ref 4, .int M_length, .int M_thrown, .int M_spelt, .int M_speltMany, .int M_place, .int M_kind, .int M_one, .int M_two, .int M_three, .int M_begins, .int M_done, .int M_stopBy, .long M_hash]), .inr (406, .inl M_s), .inr (2436, .inl M_saved), .inr (406, .inl M_snapshot), .inr (60, .inl M_text)]) (st2 := [.int v4, .ref 0]) (cl2 := 0) (sl2 := 0) (ct_X11_letterNumber (a1 := (x1 / 6)) (a2 := (x1 - x1 / 6 * 6)) (M_savedMany := M_savedMany) (M_isTaken := M_isTaken) (M_length := M_length) (M_thrown := M_thrown) (M_spelt := M_spelt) (M_speltMany := M_speltMany) (M_place := M_place) (M_kind := M_kind) (M_one := M_one) (M_two := M_two) (M_three := M_three) (M_begins := M_begins) (M_done := M_done) (M_stopBy := M_stopBy) (M_hash := M_hash) (M_s := M_s) (M_saved := M_saved) (M_snapshot := M_snapshot) (M_text := M_text) hv4) dX11_digest_54 w1355 ⟨w1357, w46⟩ cal_X11_letterNumber rfl ⟨⟨Nat.le_of_ble_eq_true rfl, Nat.le_of_ble_eq_true rfl⟩, Nat.le_of_ble_eq_true rfl, Nat.le_of_ble_eq_true rfl⟩ (Nat.le_of_ble_eq_true rfl) (Or.inl ⟨_, _, _, _, rfl, rfl⟩) rfl ⟨rfl, ⟨by decide, by decide⟩, rfl, (fr_cons (Or.inl (Nat.le_of_ble_eq_true rfl)) (fr_cons (Or.inl (Nat.le_of_ble_eq_true rfl)) (fr_cons (Or.inl (Nat.le_of_ble_eq_true rfl)) (fr_cons (Or.inl (Nat.le_of_ble_eq_true rfl)) (fr_nil))))), rfl⟩ fr_i rfl rfl rfl rfl ?_
      refine V.i2l dX11_digest_57 ?_
      obtain ⟨v5, hv5, hf⟩ := fbind hf
      refine V.callVn (pl := [0, 1, 2, 3, 4]) (σ' := [.inl (6, [.ref 1, .ref 2, .int M_savedMany, .ref 3, .int M_isTaken, .ref 4, .int M_length, .int M_thrown, .int M_spelt, .int M_speltMany, .int M_place, .int M_kind, .int M_one, .int M_two, .int M_three, .int M_begins, .int M_done, .int M_stopBy, .long v5]), .inr (406, .inl M_s), .inr (2436, .inl M_saved), .inr (406, .inl M_snapshot), .inr (60, .inl M_text)]) (st2 := []) (cl2 := 0) (sl2 := 0) (ct_X11_mix (a1 := (Int32.toInt64 v4)) (M_savedMany := M_savedMany) (M_isTaken := M_isTaken) (M_length := M_length) (M_thrown := M_thrown) (M_spelt := M_spelt) (M_speltMany := M_speltMany) (M_place := M_place) (M_kind := M_kind) (M_one := M_one) (M_two := M_two) (M_three := M_three) (M_begins := M_begins) (M_done := M_done) (M_stopBy := M_stopBy) (M_hash := M_hash) (M_s := M_s) (M_saved := M_saved) (M_snapshot := M_snapshot) (M_text := M_text) hv5) dX11_digest_58 w1472 ⟨w1474, w63⟩ cal_X11_mix rfl ⟨⟨Nat.le_of_ble_eq_true rfl, Nat.le_of_ble_eq_true rfl⟩, Nat.le_of_ble_eq_true rfl, Nat.le_of_ble_eq_true rfl⟩ (Nat.le_of_ble_eq_true rfl) (Or.inl ⟨_, _, _, _, rfl, rfl⟩) rfl ⟨rfl, ⟨by decide, by decide⟩, rfl, (fr_cons (Or.inl (Nat.le_of_ble_eq_true rfl)) (fr_cons (Or.inl (Nat.le_of_ble_eq_true rfl)) (fr_cons (Or.inl (Nat.le_of_ble_eq_true rfl)) (fr_cons (Or.inl (Nat.le_of_ble_eq_true rfl)) (fr_nil))))), rfl⟩ fr_v rfl rfl rfl rfl ?_
      refine V.iinc (i := 1) (v := (x1 + 1)) (L' := [some (.ref 0), some (.int (x1 + 1))]) dX11_digest_61 rfl rfl (Nat.le_of_ble_eq_true rfl) rfl rfl ?_
      refine V.goto (tgt := 38) dX11_digest_64 (by decide) ?_
      exact ih hf hx
def s_X11_digest_L69 (M_s : Nat → Int32) : Nat → Int32 → (Int64) → Option (Int32 × (Int64))
  | 0, _, _ => none
  | n + 1, x1, M_hash => if (5 ≤ x1 : Prop) then (some (x1, M_hash)) else ((s_X11_mixFisher x1 M_hash M_s).bind fun v7 => s_X11_digest_L69 M_s n (x1 + 1) v7)
set_option maxHeartbeats 4000000 in
set_option maxRecDepth 100000 in
theorem v_X11_digest_L69 {out : fO} {σ' : List fE} {M_savedMany : Int32} {M_isTaken : Int32} {M_length : Int32} {M_thrown : Int32} {M_spelt : Int32} {M_speltMany : Int32} {M_place : Int32} {M_kind : Int32} {M_one : Int32} {M_two : Int32} {M_three : Int32} {M_begins : Int32} {M_done : Int32} {M_stopBy : Int32} {M_s : Nat → Int32} {M_saved : Nat → Int32} {M_snapshot : Nat → Int32} {M_text : Nat → Int32} : ∀ (n : Nat) {x1 : Int32} {M_hash : (Int64)} {res : Int32 × (Int64)} (hf : s_X11_digest_L69 M_s n x1 M_hash = some res) (hx : V (fXm 5 k_X11_digest out σ') (krm k_X11_digest) k_X11_digest 5 85 [some (.ref 0), some (.int res.1)] [] [.inl (6, [.ref 1, .ref 2, .int M_savedMany, .ref 3, .int M_isTaken, .ref 4, .int M_length, .int M_thrown, .int M_spelt, .int M_speltMany, .int M_place, .int M_kind, .int M_one, .int M_two, .int M_three, .int M_begins, .int M_done, .int M_stopBy, .long res.2]), .inr (406, .inl M_s), .inr (2436, .inl M_saved), .inr (406, .inl M_snapshot), .inr (60, .inl M_text)] 0 0), V (fXm 5 k_X11_digest out σ') (krm k_X11_digest) k_X11_digest 5 69 [some (.ref 0), some (.int x1)] [] [.inl (6, [.ref 1, .ref 2, .int M_savedMany, .ref 3, .int M_isTaken, .ref 4, .int M_length, .int M_thrown, .int M_spelt, .int M_speltMany, .int M_place, .int M_kind, .int M_one, .int M_two, .int M_three, .int M_begins, .int M_done, .int M_stopBy, .long M_hash]), .inr (406, .inl M_s), .inr (2436, .inl M_saved), .inr (406, .inl M_snapshot), .inr (60, .inl M_text)] 0 0 := by
  intro n
  induction n with
  | zero =>
    intro x1 M_hash res hf hx
    rw [s_X11_digest_L69] at hf
    cases hf
  | succ n ih =>
    intro x1 M_hash res hf hx
    rw [s_X11_digest_L69] at hf
    refine V.iload_n (i := 1) dX11_digest_69 rfl rfl ?_
    refine V.iconst (v := 5) dX11_digest_70 rfl ?_
    refine V.icmp_ge (tgt := 85) dX11_digest_71 (by decide) (fun h => ?_) (fun h => ?_)
    · have hf := fif_t h hf
      obtain rfl := Option.some.inj hf
      exact hx
    · have hf := fif_f h hf
      refine V.aload_n (i := 0) dX11_digest_74 rfl rfl ?_
      refine V.iload_n (i := 1) dX11_digest_75 rfl rfl ?_
      obtain ⟨v7, hv7, hf⟩ := fbind hf
      refine V.callVn (pl := [0, 1, 2, 3, 4]) (σ' := [.inl (6, [.ref 1, .ref 2, .int M_savedMany, .ref 3, .int M_isTaken, .ref 4, .int M_length, .int M_thrown, .int M_spelt, .int M_speltMany, .int M_place, .int M_kind, .int M_one, .int M_two, .int M_three, .int M_begins, .int M_done, .int M_stopBy, .long v7]), .inr (406, .inl M_s), .inr (2436, .inl M_saved), .inr (406, .inl M_snapshot), .inr (60, .inl M_text)]) (st2 := []) (cl2 := 0) (sl2 := 0) (ct_X11_mixFisher (a1 := x1) (M_savedMany := M_savedMany) (M_isTaken := M_isTaken) (M_length := M_length) (M_thrown := M_thrown) (M_spelt := M_spelt) (M_speltMany := M_speltMany) (M_place := M_place) (M_kind := M_kind) (M_one := M_one) (M_two := M_two) (M_three := M_three) (M_begins := M_begins) (M_done := M_done) (M_stopBy := M_stopBy) (M_hash := M_hash) (M_s := M_s) (M_saved := M_saved) (M_snapshot := M_snapshot) (M_text := M_text) hv7) dX11_digest_76 w1477 ⟨w1479, w64⟩ cal_X11_mixFisher rfl ⟨⟨Nat.le_of_ble_eq_true rfl, Nat.le_of_ble_eq_true rfl⟩, Nat.le_of_ble_eq_true rfl, Nat.le_of_ble_eq_true rfl⟩ (Nat.le_of_ble_eq_true rfl) (Or.inl ⟨_, _, _, _, rfl, rfl⟩) rfl ⟨rfl, ⟨by decide, by decide⟩, rfl, (fr_cons (Or.inl (Nat.le_of_ble_eq_true rfl)) (fr_cons (Or.inl (Nat.le_of_ble_eq_true rfl)) (fr_cons (Or.inl (Nat.le_of_ble_eq_true rfl)) (fr_cons (Or.inl (Nat.le_of_ble_eq_true rfl)) (fr_nil))))), rfl⟩ fr_v rfl rfl rfl rfl ?_
      refine V.iinc (i := 1) (v := (x1 + 1)) (L' := [some (.ref 0), some (.int (x1 + 1))]) dX11_digest_79 rfl rfl (Nat.le_of_ble_eq_true rfl) rfl rfl ?_
      refine V.goto (tgt := 69) dX11_digest_82 (by decide) ?_
      exact ih hf hx
def s_X11_digest_L87 (M_s : Nat → Int32) : Nat → Int32 → (Int64) → Option (Int32 × (Int64))
  | 0, _, _ => none
  | n + 1, x1, M_hash => fld 406 M_s 1 fun v9 => if ((4 * v9) ≤ x1 : Prop) then (some (x1, M_hash)) else ((s_X11_entryNumber (x1 / 4) (x1 - x1 / 4 * 4) M_s).bind fun v10 => (s_X11_mix (Int32.toInt64 v10) M_hash).bind fun v11 => s_X11_digest_L87 M_s n (x1 + 1) v11)
set_option maxHeartbeats 4000000 in
set_option maxRecDepth 100000 in
theorem v_X11_digest_L87 {out : fO} {σ' : List fE} {M_savedMany : Int32} {M_isTaken : Int32} {M_length : Int32} {M_thrown : Int32} {M_spelt : Int32} {M_speltMany : Int32} {M_place : Int32} {M_kind : Int32} {M_one : Int32} {M_two : Int32} {M_three : Int32} {M_begins : Int32} {M_done : Int32} {M_stopBy : Int32} {M_s : Nat → Int32} {M_saved : Nat → Int32} {M_snapshot : Nat → Int32} {M_text : Nat → Int32} : ∀ (n : Nat) {x1 : Int32} {M_hash : (Int64)} {res : Int32 × (Int64)} (hf : s_X11_digest_L87 M_s n x1 M_hash = some res) (hx : V (fXm 5 k_X11_digest out σ') (krm k_X11_digest) k_X11_digest 5 120 [some (.ref 0), some (.int res.1)] [] [.inl (6, [.ref 1, .ref 2, .int M_savedMany, .ref 3, .int M_isTaken, .ref 4, .int M_length, .int M_thrown, .int M_spelt, .int M_speltMany, .int M_place, .int M_kind, .int M_one, .int M_two, .int M_three, .int M_begins, .int M_done, .int M_stopBy, .long res.2]), .inr (406, .inl M_s), .inr (2436, .inl M_saved), .inr (406, .inl M_snapshot), .inr (60, .inl M_text)] 0 0), V (fXm 5 k_X11_digest out σ') (krm k_X11_digest) k_X11_digest 5 87 [some (.ref 0), some (.int x1)] [] [.inl (6, [.ref 1, .ref 2, .int M_savedMany, .ref 3, .int M_isTaken, .ref 4, .int M_length, .int M_thrown, .int M_spelt, .int M_speltMany, .int M_place, .int M_kind, .int M_one, .int M_two, .int M_three, .int M_begins, .int M_done, .int M_stopBy, .long M_hash]), .inr (406, .inl M_s), .inr (2436, .inl M_saved), .inr (406, .inl M_snapshot), .inr (60, .inl M_text)] 0 0 := by
  intro n
  induction n with
  | zero =>
    intro x1 M_hash res hf hx
    rw [s_X11_digest_L87] at hf
    cases hf
  | succ n ih =>
    intro x1 M_hash res hf hx
    rw [s_X11_digest_L87] at hf
    refine V.iload_n (i := 1) dX11_digest_87 rfl rfl ?_
    refine V.iconst (v := 4) dX11_digest_88 rfl ?_
    refine V.aload_n (i := 0) dX11_digest_89 rfl rfl ?_
    refine V.getfield (kf := 0) (v := .ref 1) fl_RX11 dX11_digest_90 w1043 (Nat.le_of_ble_eq_true rfl) rfl rfl ?_
    refine V.iconst (v := 1) dX11_digest_93 rfl ?_
    obtain ⟨hi, v9, ev9, hf⟩ := fld_e hf
    refine V.fld dX11_digest_94 rfl hi ev9 ?_
    refine V.imul dX11_digest_95 ?_
    refine V.icmp_ge (tgt := 120) dX11_digest_96 (by decide) (fun h => ?_) (fun h => ?_)
    · have hf := fif_t h hf
      obtain rfl := Option.some.inj hf
      exact hx
    · have hf := fif_f h hf
      refine V.aload_n (i := 0) dX11_digest_99 rfl rfl ?_
      refine V.aload_n (i := 0) dX11_digest_100 rfl rfl ?_
      refine V.iload_n (i := 1) dX11_digest_101 rfl rfl ?_
      refine V.iconst (v := 4) dX11_digest_102 rfl ?_
      refine V.idiv dX11_digest_103 (by decide) ?_
      refine V.iload_n (i := 1) dX11_digest_104 rfl rfl ?_
      refine V.iconst (v := 4) dX11_digest_105 rfl ?_
      refine V.irem dX11_digest_106 (by decide) ?_
      obtain ⟨v10, hv10, hf⟩ := fbind hf
      refine V.callVn (pl := [0, 1, 2, 3, 4]) (σ' := [.inl (6, [.ref 1, .ref 2, .int M_savedMany, .ref 3, .int M_isTaken, .ref 4, .int M_length, .int M_thrown, .int M_spelt, .int M_speltMany, .int M_place, .int M_kind, .int M_one, .int M_two, .int M_three, .int M_begins, .int M_done, .int M_stopBy, .long M_hash]), .inr (406, .inl M_s), .inr (2436, .inl M_saved), .inr (406, .inl M_snapshot), .inr (60, .inl M_text)]) (st2 := [.int v10, .ref 0]) (cl2 := 0) (sl2 := 0) (ct_X11_entryNumber (a1 := (x1 / 4)) (a2 := (x1 - x1 / 4 * 4)) (M_savedMany := M_savedMany) (M_isTaken := M_isTaken) (M_length := M_length) (M_thrown := M_thrown) (M_spelt := M_spelt) (M_speltMany := M_speltMany) (M_place := M_place) (M_kind := M_kind) (M_one := M_one) (M_two := M_two) (M_three := M_three) (M_begins := M_begins) (M_done := M_done) (M_stopBy := M_stopBy) (M_hash := M_hash) (M_s := M_s) (M_saved := M_saved) (M_snapshot := M_snapshot) (M_text := M_text) hv10) dX11_digest_107 w1395 ⟨w1397, w52⟩ cal_X11_entryNumber rfl ⟨⟨Nat.le_of_ble_eq_true rfl, Nat.le_of_ble_eq_true rfl⟩, Nat.le_of_ble_eq_true rfl, Nat.le_of_ble_eq_true rfl⟩ (Nat.le_of_ble_eq_true rfl) (Or.inl ⟨_, _, _, _, rfl, rfl⟩) rfl ⟨rfl, ⟨by decide, by decide⟩, rfl, (fr_cons (Or.inl (Nat.le_of_ble_eq_true rfl)) (fr_cons (Or.inl (Nat.le_of_ble_eq_true rfl)) (fr_cons (Or.inl (Nat.le_of_ble_eq_true rfl)) (fr_cons (Or.inl (Nat.le_of_ble_eq_true rfl)) (fr_nil))))), rfl⟩ fr_i rfl rfl rfl rfl ?_
      refine V.i2l dX11_digest_110 ?_
      obtain ⟨v11, hv11, hf⟩ := fbind hf
      refine V.callVn (pl := [0, 1, 2, 3, 4]) (σ' := [.inl (6, [.ref 1, .ref 2, .int M_savedMany, .ref 3, .int M_isTaken, .ref 4, .int M_length, .int M_thrown, .int M_spelt, .int M_speltMany, .int M_place, .int M_kind, .int M_one, .int M_two, .int M_three, .int M_begins, .int M_done, .int M_stopBy, .long v11]), .inr (406, .inl M_s), .inr (2436, .inl M_saved), .inr (406, .inl M_snapshot), .inr (60, .inl M_text)]) (st2 := []) (cl2 := 0) (sl2 := 0) (ct_X11_mix (a1 := (Int32.toInt64 v10)) (M_savedMany := M_savedMany) (M_isTaken := M_isTaken) (M_length := M_length) (M_thrown := M_thrown) (M_spelt := M_spelt) (M_speltMany := M_speltMany) (M_place := M_place) (M_kind := M_kind) (M_one := M_one) (M_two := M_two) (M_three := M_three) (M_begins := M_begins) (M_done := M_done) (M_stopBy := M_stopBy) (M_hash := M_hash) (M_s := M_s) (M_saved := M_saved) (M_snapshot := M_snapshot) (M_text := M_text) hv11) dX11_digest_111 w1472 ⟨w1474, w63⟩ cal_X11_mix rfl ⟨⟨Nat.le_of_ble_eq_true rfl, Nat.le_of_ble_eq_true rfl⟩, Nat.le_of_ble_eq_true rfl, Nat.le_of_ble_eq_true rfl⟩ (Nat.le_of_ble_eq_true rfl) (Or.inl ⟨_, _, _, _, rfl, rfl⟩) rfl ⟨rfl, ⟨by decide, by decide⟩, rfl, (fr_cons (Or.inl (Nat.le_of_ble_eq_true rfl)) (fr_cons (Or.inl (Nat.le_of_ble_eq_true rfl)) (fr_cons (Or.inl (Nat.le_of_ble_eq_true rfl)) (fr_cons (Or.inl (Nat.le_of_ble_eq_true rfl)) (fr_nil))))), rfl⟩ fr_v rfl rfl rfl rfl ?_
      refine V.iinc (i := 1) (v := (x1 + 1)) (L' := [some (.ref 0), some (.int (x1 + 1))]) dX11_digest_114 rfl rfl (Nat.le_of_ble_eq_true rfl) rfl rfl ?_
      refine V.goto (tgt := 87) dX11_digest_117 (by decide) ?_
      exact ih hf hx
def s_X11_digest_L166 (M_length : Int32) (M_text : Nat → Int32) : Nat → Int32 → (Int64) → Option (Int32 × (Int64))
  | 0, _, _ => none
  | n + 1, x1, M_hash => if (M_length ≤ x1 : Prop) then (some (x1, M_hash)) else (fld 60 M_text x1 fun v21 => (s_X11_mix (Int32.toInt64 v21) M_hash).bind fun v22 => s_X11_digest_L166 M_length M_text n (x1 + 1) v22)
set_option maxHeartbeats 4000000 in
set_option maxRecDepth 100000 in
theorem v_X11_digest_L166 {out : fO} {σ' : List fE} {M_savedMany : Int32} {M_isTaken : Int32} {M_length : Int32} {M_thrown : Int32} {M_spelt : Int32} {M_speltMany : Int32} {M_place : Int32} {M_kind : Int32} {M_one : Int32} {M_two : Int32} {M_three : Int32} {M_begins : Int32} {M_done : Int32} {M_stopBy : Int32} {M_s : Nat → Int32} {M_saved : Nat → Int32} {M_snapshot : Nat → Int32} {M_text : Nat → Int32} : ∀ (n : Nat) {x1 : Int32} {M_hash : (Int64)} {res : Int32 × (Int64)} (hf : s_X11_digest_L166 M_length M_text n x1 M_hash = some res) (hx : V (fXm 5 k_X11_digest out σ') (krm k_X11_digest) k_X11_digest 5 191 [some (.ref 0), some (.int res.1)] [] [.inl (6, [.ref 1, .ref 2, .int M_savedMany, .ref 3, .int M_isTaken, .ref 4, .int M_length, .int M_thrown, .int M_spelt, .int M_speltMany, .int M_place, .int M_kind, .int M_one, .int M_two, .int M_three, .int M_begins, .int M_done, .int M_stopBy, .long res.2]), .inr (406, .inl M_s), .inr (2436, .inl M_saved), .inr (406, .inl M_snapshot), .inr (60, .inl M_text)] 0 0), V (fXm 5 k_X11_digest out σ') (krm k_X11_digest) k_X11_digest 5 166 [some (.ref 0), some (.int x1)] [] [.inl (6, [.ref 1, .ref 2, .int M_savedMany, .ref 3, .int M_isTaken, .ref 4, .int M_length, .int M_thrown, .int M_spelt, .int M_speltMany, .int M_place, .int M_kind, .int M_one, .int M_two, .int M_three, .int M_begins, .int M_done, .int M_stopBy, .long M_hash]), .inr (406, .inl M_s), .inr (2436, .inl M_saved), .inr (406, .inl M_snapshot), .inr (60, .inl M_text)] 0 0 := by
  intro n
  induction n with
  | zero =>
    intro x1 M_hash res hf hx
    rw [s_X11_digest_L166] at hf
    cases hf
  | succ n ih =>
    intro x1 M_hash res hf hx
    rw [s_X11_digest_L166] at hf
    refine V.iload_n (i := 1) dX11_digest_166 rfl rfl ?_
    refine V.aload_n (i := 0) dX11_digest_167 rfl rfl ?_
    refine V.getfield (kf := 6) (v := .int M_length) fl_RX11 dX11_digest_168 w1049 (Nat.le_of_ble_eq_true rfl) rfl rfl ?_
    refine V.icmp_ge (tgt := 191) dX11_digest_171 (by decide) (fun h => ?_) (fun h => ?_)
    · have hf := fif_t h hf
      obtain rfl := Option.some.inj hf
      exact hx
    · have hf := fif_f h hf
      refine V.aload_n (i := 0) dX11_digest_174 rfl rfl ?_
      refine V.aload_n (i := 0) dX11_digest_175 rfl rfl ?_
      refine V.getfield (kf := 5) (v := .ref 4) fl_RX11 dX11_digest_176 w1048 (Nat.le_of_ble_eq_true rfl) rfl rfl ?_
      refine V.iload_n (i := 1) dX11_digest_179 rfl rfl ?_
      obtain ⟨hi, v21, ev21, hf⟩ := fld_e hf
      refine V.fld dX11_digest_180 rfl hi ev21 ?_
      refine V.i2l dX11_digest_181 ?_
      obtain ⟨v22, hv22, hf⟩ := fbind hf
      refine V.callVn (pl := [0, 1, 2, 3, 4]) (σ' := [.inl (6, [.ref 1, .ref 2, .int M_savedMany, .ref 3, .int M_isTaken, .ref 4, .int M_length, .int M_thrown, .int M_spelt, .int M_speltMany, .int M_place, .int M_kind, .int M_one, .int M_two, .int M_three, .int M_begins, .int M_done, .int M_stopBy, .long v22]), .inr (406, .inl M_s), .inr (2436, .inl M_saved), .inr (406, .inl M_snapshot), .inr (60, .inl M_text)]) (st2 := []) (cl2 := 0) (sl2 := 0) (ct_X11_mix (a1 := (Int32.toInt64 v21)) (M_savedMany := M_savedMany) (M_isTaken := M_isTaken) (M_length := M_length) (M_thrown := M_thrown) (M_spelt := M_spelt) (M_speltMany := M_speltMany) (M_place := M_place) (M_kind := M_kind) (M_one := M_one) (M_two := M_two) (M_three := M_three) (M_begins := M_begins) (M_done := M_done) (M_stopBy := M_stopBy) (M_hash := M_hash) (M_s := M_s) (M_saved := M_saved) (M_snapshot := M_snapshot) (M_text := M_text) hv22) dX11_digest_182 w1472 ⟨w1474, w63⟩ cal_X11_mix rfl ⟨⟨Nat.le_of_ble_eq_true rfl, Nat.le_of_ble_eq_true rfl⟩, Nat.le_of_ble_eq_true rfl, Nat.le_of_ble_eq_true rfl⟩ (Nat.le_of_ble_eq_true rfl) (Or.inl ⟨_, _, _, _, rfl, rfl⟩) rfl ⟨rfl, ⟨by decide, by decide⟩, rfl, (fr_cons (Or.inl (Nat.le_of_ble_eq_true rfl)) (fr_cons (Or.inl (Nat.le_of_ble_eq_true rfl)) (fr_cons (Or.inl (Nat.le_of_ble_eq_true rfl)) (fr_cons (Or.inl (Nat.le_of_ble_eq_true rfl)) (fr_nil))))), rfl⟩ fr_v rfl rfl rfl rfl ?_
      refine V.iinc (i := 1) (v := (x1 + 1)) (L' := [some (.ref 0), some (.int (x1 + 1))]) dX11_digest_185 rfl rfl (Nat.le_of_ble_eq_true rfl) rfl rfl ?_
      refine V.goto (tgt := 166) dX11_digest_188 (by decide) ?_
      exact ih hf hx
def s_X11_digest (M_savedMany : Int32) (M_length : Int32) (M_thrown : Int32) (M_hash : Int64) (M_s : Nat → Int32) (M_text : Nat → Int32) : Option (Int64 × (Int32) × (Int64)) := (s_X11_digest_L14 M_savedMany M_s gF 0 3917).bind fun r3 => (s_X11_digest_L38 M_s gF 0 r3.2).bind fun r6 => (s_X11_digest_L69 M_s gF 0 r6.2).bind fun r8 => (s_X11_digest_L87 M_s gF 0 r8.2).bind fun r12 => fld 406 M_s 6 fun v13 => (s_X11_mix (Int32.toInt64 v13) r12.2).bind fun v14 => fld 406 M_s 7 fun v15 => (s_X11_mix (Int32.toInt64 v15) v14).bind fun v16 => (s_X11_shareNumber M_s).bind fun v17 => (s_X11_bitsOf v17).bind fun v18 => (s_X11_mix v18 v16).bind fun v19 => (s_X11_mix (Int32.toInt64 M_length) v19).bind fun v20 => (s_X11_digest_L166 M_length M_text gF 0 v20).bind fun r23 => some (r23.2, 0, r23.2)
set_option maxHeartbeats 4000000 in
set_option maxRecDepth 100000 in
theorem ct_X11_digest {M_savedMany : Int32} {M_isTaken : Int32} {M_length : Int32} {M_thrown : Int32} {M_spelt : Int32} {M_speltMany : Int32} {M_place : Int32} {M_kind : Int32} {M_one : Int32} {M_two : Int32} {M_three : Int32} {M_begins : Int32} {M_done : Int32} {M_stopBy : Int32} {M_hash : Int64} {M_s : Nat → Int32} {M_saved : Nat → Int32} {M_snapshot : Nat → Int32} {M_text : Nat → Int32} {res : Int64 × (Int32) × (Int64)} (hf : s_X11_digest M_savedMany M_length M_thrown M_hash M_s M_text = some res) : Ct k_X11_digest [.ref 0] [.inl (6, [.ref 1, .ref 2, .int M_savedMany, .ref 3, .int M_isTaken, .ref 4, .int M_length, .int M_thrown, .int M_spelt, .int M_speltMany, .int M_place, .int M_kind, .int M_one, .int M_two, .int M_three, .int M_begins, .int M_done, .int M_stopBy, .long M_hash]), .inr (406, .inl M_s), .inr (2436, .inl M_saved), .inr (406, .inl M_snapshot), .inr (60, .inl M_text)] (.inl (some (.long res.1))) [.inl (6, [.ref 1, .ref 2, .int M_savedMany, .ref 3, .int M_isTaken, .ref 4, .int M_length, .int res.2.1, .int M_spelt, .int M_speltMany, .int M_place, .int M_kind, .int M_one, .int M_two, .int M_three, .int M_begins, .int M_done, .int M_stopBy, .long res.2.2]), .inr (406, .inl M_s), .inr (2436, .inl M_saved), .inr (406, .inl M_snapshot), .inr (60, .inl M_text)] := by
  unfold s_X11_digest at hf
  refine Ct.of (L := [some (.ref 0), none]) cal_X11_digest (fent_pad (j := 1) rfl) (Nat.le_of_ble_eq_true rfl) ?_
  refine V.aload_n (i := 0) dX11_digest_0 rfl rfl ?_
  refine V.iconst (v := 0) dX11_digest_1 rfl ?_
  refine V.putfield (ty := tyX11) (kf := 7) (σ' := [.inl (6, [.ref 1, .ref 2, .int M_savedMany, .ref 3, .int M_isTaken, .ref 4, .int M_length, .int 0, .int M_spelt, .int M_speltMany, .int M_place, .int M_kind, .int M_one, .int M_two, .int M_three, .int M_begins, .int M_done, .int M_stopBy, .long M_hash]), .inr (406, .inl M_s), .inr (2436, .inl M_saved), .inr (406, .inl M_snapshot), .inr (60, .inl M_text)]) fl_RX11 dX11_digest_2 w1050 (Nat.le_of_ble_eq_true rfl) rfl (fun _ => ⟨rfl, rfl⟩) rfl (Nat.le_of_ble_eq_true rfl) rfl ?_
  refine V.aload_n (i := 0) dX11_digest_5 rfl rfl ?_
  refine V.ldc2 (v := 3917) dX11_digest_6 w1471 ?_
  refine V.putfield (ty := tyX11) (kf := 18) (σ' := [.inl (6, [.ref 1, .ref 2, .int M_savedMany, .ref 3, .int M_isTaken, .ref 4, .int M_length, .int 0, .int M_spelt, .int M_speltMany, .int M_place, .int M_kind, .int M_one, .int M_two, .int M_three, .int M_begins, .int M_done, .int M_stopBy, .long 3917]), .inr (406, .inl M_s), .inr (2436, .inl M_saved), .inr (406, .inl M_snapshot), .inr (60, .inl M_text)]) fl_RX11 dX11_digest_9 w1061 (Nat.le_of_ble_eq_true rfl) rfl (fun _ => ⟨rfl, rfl⟩) rfl (Nat.le_of_ble_eq_true rfl) rfl ?_
  refine V.iconst (v := 0) dX11_digest_12 rfl ?_
  refine V.istore_n (i := 1) (L' := [some (.ref 0), some (.int 0)]) dX11_digest_13 rfl (Nat.le_of_ble_eq_true rfl) rfl rfl ?_
  obtain ⟨r3, hr3, hf⟩ := fbind hf
  refine v_X11_digest_L14 gF hr3 ?_
  refine V.iconst (v := 0) dX11_digest_36 rfl ?_
  refine V.istore_n (i := 1) (L' := [some (.ref 0), some (.int 0)]) dX11_digest_37 rfl (Nat.le_of_ble_eq_true rfl) rfl rfl ?_
  obtain ⟨r6, hr6, hf⟩ := fbind hf
  refine v_X11_digest_L38 gF hr6 ?_
  refine V.iconst (v := 0) dX11_digest_67 rfl ?_
  refine V.istore_n (i := 1) (L' := [some (.ref 0), some (.int 0)]) dX11_digest_68 rfl (Nat.le_of_ble_eq_true rfl) rfl rfl ?_
  obtain ⟨r8, hr8, hf⟩ := fbind hf
  refine v_X11_digest_L69 gF hr8 ?_
  refine V.iconst (v := 0) dX11_digest_85 rfl ?_
  refine V.istore_n (i := 1) (L' := [some (.ref 0), some (.int 0)]) dX11_digest_86 rfl (Nat.le_of_ble_eq_true rfl) rfl rfl ?_
  obtain ⟨r12, hr12, hf⟩ := fbind hf
  refine v_X11_digest_L87 gF hr12 ?_
  refine V.aload_n (i := 0) dX11_digest_120 rfl rfl ?_
  refine V.aload_n (i := 0) dX11_digest_121 rfl rfl ?_
  refine V.getfield (kf := 0) (v := .ref 1) fl_RX11 dX11_digest_122 w1043 (Nat.le_of_ble_eq_true rfl) rfl rfl ?_
  refine V.bipush (v := 6) dX11_digest_125 rfl ?_
  obtain ⟨hi, v13, ev13, hf⟩ := fld_e hf
  refine V.fld dX11_digest_127 rfl hi ev13 ?_
  refine V.i2l dX11_digest_128 ?_
  obtain ⟨v14, hv14, hf⟩ := fbind hf
  refine V.callVn (pl := [0, 1, 2, 3, 4]) (σ' := [.inl (6, [.ref 1, .ref 2, .int M_savedMany, .ref 3, .int M_isTaken, .ref 4, .int M_length, .int 0, .int M_spelt, .int M_speltMany, .int M_place, .int M_kind, .int M_one, .int M_two, .int M_three, .int M_begins, .int M_done, .int M_stopBy, .long v14]), .inr (406, .inl M_s), .inr (2436, .inl M_saved), .inr (406, .inl M_snapshot), .inr (60, .inl M_text)]) (st2 := []) (cl2 := 0) (sl2 := 0) (ct_X11_mix (a1 := (Int32.toInt64 v13)) (M_savedMany := M_savedMany) (M_isTaken := M_isTaken) (M_length := M_length) (M_thrown := 0) (M_spelt := M_spelt) (M_speltMany := M_speltMany) (M_place := M_place) (M_kind := M_kind) (M_one := M_one) (M_two := M_two) (M_three := M_three) (M_begins := M_begins) (M_done := M_done) (M_stopBy := M_stopBy) (M_hash := r12.2) (M_s := M_s) (M_saved := M_saved) (M_snapshot := M_snapshot) (M_text := M_text) hv14) dX11_digest_129 w1472 ⟨w1474, w63⟩ cal_X11_mix rfl ⟨⟨Nat.le_of_ble_eq_true rfl, Nat.le_of_ble_eq_true rfl⟩, Nat.le_of_ble_eq_true rfl, Nat.le_of_ble_eq_true rfl⟩ (Nat.le_of_ble_eq_true rfl) (Or.inl ⟨_, _, _, _, rfl, rfl⟩) rfl ⟨rfl, ⟨by decide, by decide⟩, rfl, (fr_cons (Or.inl (Nat.le_of_ble_eq_true rfl)) (fr_cons (Or.inl (Nat.le_of_ble_eq_true rfl)) (fr_cons (Or.inl (Nat.le_of_ble_eq_true rfl)) (fr_cons (Or.inl (Nat.le_of_ble_eq_true rfl)) (fr_nil))))), rfl⟩ fr_v rfl rfl rfl rfl ?_
  refine V.aload_n (i := 0) dX11_digest_132 rfl rfl ?_
  refine V.aload_n (i := 0) dX11_digest_133 rfl rfl ?_
  refine V.getfield (kf := 0) (v := .ref 1) fl_RX11 dX11_digest_134 w1043 (Nat.le_of_ble_eq_true rfl) rfl rfl ?_
  refine V.bipush (v := 7) dX11_digest_137 rfl ?_
  obtain ⟨hi, v15, ev15, hf⟩ := fld_e hf
  refine V.fld dX11_digest_139 rfl hi ev15 ?_
  refine V.i2l dX11_digest_140 ?_
  obtain ⟨v16, hv16, hf⟩ := fbind hf
  refine V.callVn (pl := [0, 1, 2, 3, 4]) (σ' := [.inl (6, [.ref 1, .ref 2, .int M_savedMany, .ref 3, .int M_isTaken, .ref 4, .int M_length, .int 0, .int M_spelt, .int M_speltMany, .int M_place, .int M_kind, .int M_one, .int M_two, .int M_three, .int M_begins, .int M_done, .int M_stopBy, .long v16]), .inr (406, .inl M_s), .inr (2436, .inl M_saved), .inr (406, .inl M_snapshot), .inr (60, .inl M_text)]) (st2 := []) (cl2 := 0) (sl2 := 0) (ct_X11_mix (a1 := (Int32.toInt64 v15)) (M_savedMany := M_savedMany) (M_isTaken := M_isTaken) (M_length := M_length) (M_thrown := 0) (M_spelt := M_spelt) (M_speltMany := M_speltMany) (M_place := M_place) (M_kind := M_kind) (M_one := M_one) (M_two := M_two) (M_three := M_three) (M_begins := M_begins) (M_done := M_done) (M_stopBy := M_stopBy) (M_hash := v14) (M_s := M_s) (M_saved := M_saved) (M_snapshot := M_snapshot) (M_text := M_text) hv16) dX11_digest_141 w1472 ⟨w1474, w63⟩ cal_X11_mix rfl ⟨⟨Nat.le_of_ble_eq_true rfl, Nat.le_of_ble_eq_true rfl⟩, Nat.le_of_ble_eq_true rfl, Nat.le_of_ble_eq_true rfl⟩ (Nat.le_of_ble_eq_true rfl) (Or.inl ⟨_, _, _, _, rfl, rfl⟩) rfl ⟨rfl, ⟨by decide, by decide⟩, rfl, (fr_cons (Or.inl (Nat.le_of_ble_eq_true rfl)) (fr_cons (Or.inl (Nat.le_of_ble_eq_true rfl)) (fr_cons (Or.inl (Nat.le_of_ble_eq_true rfl)) (fr_cons (Or.inl (Nat.le_of_ble_eq_true rfl)) (fr_nil))))), rfl⟩ fr_v rfl rfl rfl rfl ?_
  refine V.aload_n (i := 0) dX11_digest_144 rfl rfl ?_
  refine V.aload_n (i := 0) dX11_digest_145 rfl rfl ?_
  obtain ⟨v17, hv17, hf⟩ := fbind hf
  refine V.callVn (pl := [0, 1, 2, 3, 4]) (σ' := [.inl (6, [.ref 1, .ref 2, .int M_savedMany, .ref 3, .int M_isTaken, .ref 4, .int M_length, .int 0, .int M_spelt, .int M_speltMany, .int M_place, .int M_kind, .int M_one, .int M_two, .int M_three, .int M_begins, .int M_done, .int M_stopBy, .long v16]), .inr (406, .inl M_s), .inr (2436, .inl M_saved), .inr (406, .inl M_snapshot), .inr (60, .inl M_text)]) (st2 := [.double v17, .ref 0]) (cl2 := 0) (sl2 := 0) (ct_X11_shareNumber (M_savedMany := M_savedMany) (M_isTaken := M_isTaken) (M_length := M_length) (M_thrown := 0) (M_spelt := M_spelt) (M_speltMany := M_speltMany) (M_place := M_place) (M_kind := M_kind) (M_one := M_one) (M_two := M_two) (M_three := M_three) (M_begins := M_begins) (M_done := M_done) (M_stopBy := M_stopBy) (M_hash := v16) (M_s := M_s) (M_saved := M_saved) (M_snapshot := M_snapshot) (M_text := M_text) hv17) dX11_digest_146 w1459 ⟨w1461, w61⟩ cal_X11_shareNumber rfl ⟨⟨Nat.le_of_ble_eq_true rfl, Nat.le_of_ble_eq_true rfl⟩, Nat.le_of_ble_eq_true rfl, Nat.le_of_ble_eq_true rfl⟩ (Nat.le_of_ble_eq_true rfl) (Or.inl ⟨_, _, _, _, rfl, rfl⟩) rfl ⟨rfl, ⟨by decide, by decide⟩, rfl, (fr_cons (Or.inl (Nat.le_of_ble_eq_true rfl)) (fr_cons (Or.inl (Nat.le_of_ble_eq_true rfl)) (fr_cons (Or.inl (Nat.le_of_ble_eq_true rfl)) (fr_cons (Or.inl (Nat.le_of_ble_eq_true rfl)) (fr_nil))))), rfl⟩ fr_d rfl rfl rfl rfl ?_
  obtain ⟨v18, hv18, hf⟩ := fbind hf
  refine V.callSn (pl := []) (σ' := [.inl (6, [.ref 1, .ref 2, .int M_savedMany, .ref 3, .int M_isTaken, .ref 4, .int M_length, .int 0, .int M_spelt, .int M_speltMany, .int M_place, .int M_kind, .int M_one, .int M_two, .int M_three, .int M_begins, .int M_done, .int M_stopBy, .long v16]), .inr (406, .inl M_s), .inr (2436, .inl M_saved), .inr (406, .inl M_snapshot), .inr (60, .inl M_text)]) (st2 := [.long v18, .ref 0]) (cl2 := 0) (sl2 := 0) (ct_X11_bitsOf (a0 := v17) hv18) dX11_digest_149 w1485 w1486 cal_X11_bitsOf ⟨⟨Nat.le_of_ble_eq_true rfl, Nat.le_of_ble_eq_true rfl⟩, Nat.le_of_ble_eq_true rfl, Nat.le_of_ble_eq_true rfl⟩ (Nat.le_of_ble_eq_true rfl) rfl ⟨rfl, ⟨by decide, by decide⟩, rfl, (fr_nil), rfl⟩ fr_l rfl rfl rfl rfl ?_
  obtain ⟨v19, hv19, hf⟩ := fbind hf
  refine V.callVn (pl := [0, 1, 2, 3, 4]) (σ' := [.inl (6, [.ref 1, .ref 2, .int M_savedMany, .ref 3, .int M_isTaken, .ref 4, .int M_length, .int 0, .int M_spelt, .int M_speltMany, .int M_place, .int M_kind, .int M_one, .int M_two, .int M_three, .int M_begins, .int M_done, .int M_stopBy, .long v19]), .inr (406, .inl M_s), .inr (2436, .inl M_saved), .inr (406, .inl M_snapshot), .inr (60, .inl M_text)]) (st2 := []) (cl2 := 0) (sl2 := 0) (ct_X11_mix (a1 := v18) (M_savedMany := M_savedMany) (M_isTaken := M_isTaken) (M_length := M_length) (M_thrown := 0) (M_spelt := M_spelt) (M_speltMany := M_speltMany) (M_place := M_place) (M_kind := M_kind) (M_one := M_one) (M_two := M_two) (M_three := M_three) (M_begins := M_begins) (M_done := M_done) (M_stopBy := M_stopBy) (M_hash := v16) (M_s := M_s) (M_saved := M_saved) (M_snapshot := M_snapshot) (M_text := M_text) hv19) dX11_digest_152 w1472 ⟨w1474, w63⟩ cal_X11_mix rfl ⟨⟨Nat.le_of_ble_eq_true rfl, Nat.le_of_ble_eq_true rfl⟩, Nat.le_of_ble_eq_true rfl, Nat.le_of_ble_eq_true rfl⟩ (Nat.le_of_ble_eq_true rfl) (Or.inl ⟨_, _, _, _, rfl, rfl⟩) rfl ⟨rfl, ⟨by decide, by decide⟩, rfl, (fr_cons (Or.inl (Nat.le_of_ble_eq_true rfl)) (fr_cons (Or.inl (Nat.le_of_ble_eq_true rfl)) (fr_cons (Or.inl (Nat.le_of_ble_eq_true rfl)) (fr_cons (Or.inl (Nat.le_of_ble_eq_true rfl)) (fr_nil))))), rfl⟩ fr_v rfl rfl rfl rfl ?_
  refine V.aload_n (i := 0) dX11_digest_155 rfl rfl ?_
  refine V.aload_n (i := 0) dX11_digest_156 rfl rfl ?_
  refine V.getfield (kf := 6) (v := .int M_length) fl_RX11 dX11_digest_157 w1049 (Nat.le_of_ble_eq_true rfl) rfl rfl ?_
  refine V.i2l dX11_digest_160 ?_
  obtain ⟨v20, hv20, hf⟩ := fbind hf
  refine V.callVn (pl := [0, 1, 2, 3, 4]) (σ' := [.inl (6, [.ref 1, .ref 2, .int M_savedMany, .ref 3, .int M_isTaken, .ref 4, .int M_length, .int 0, .int M_spelt, .int M_speltMany, .int M_place, .int M_kind, .int M_one, .int M_two, .int M_three, .int M_begins, .int M_done, .int M_stopBy, .long v20]), .inr (406, .inl M_s), .inr (2436, .inl M_saved), .inr (406, .inl M_snapshot), .inr (60, .inl M_text)]) (st2 := []) (cl2 := 0) (sl2 := 0) (ct_X11_mix (a1 := (Int32.toInt64 M_length)) (M_savedMany := M_savedMany) (M_isTaken := M_isTaken) (M_length := M_length) (M_thrown := 0) (M_spelt := M_spelt) (M_speltMany := M_speltMany) (M_place := M_place) (M_kind := M_kind) (M_one := M_one) (M_two := M_two) (M_three := M_three) (M_begins := M_begins) (M_done := M_done) (M_stopBy := M_stopBy) (M_hash := v19) (M_s := M_s) (M_saved := M_saved) (M_snapshot := M_snapshot) (M_text := M_text) hv20) dX11_digest_161 w1472 ⟨w1474, w63⟩ cal_X11_mix rfl ⟨⟨Nat.le_of_ble_eq_true rfl, Nat.le_of_ble_eq_true rfl⟩, Nat.le_of_ble_eq_true rfl, Nat.le_of_ble_eq_true rfl⟩ (Nat.le_of_ble_eq_true rfl) (Or.inl ⟨_, _, _, _, rfl, rfl⟩) rfl ⟨rfl, ⟨by decide, by decide⟩, rfl, (fr_cons (Or.inl (Nat.le_of_ble_eq_true rfl)) (fr_cons (Or.inl (Nat.le_of_ble_eq_true rfl)) (fr_cons (Or.inl (Nat.le_of_ble_eq_true rfl)) (fr_cons (Or.inl (Nat.le_of_ble_eq_true rfl)) (fr_nil))))), rfl⟩ fr_v rfl rfl rfl rfl ?_
  refine V.iconst (v := 0) dX11_digest_164 rfl ?_
  refine V.istore_n (i := 1) (L' := [some (.ref 0), some (.int 0)]) dX11_digest_165 rfl (Nat.le_of_ble_eq_true rfl) rfl rfl ?_
  obtain ⟨r23, hr23, hf⟩ := fbind hf
  refine v_X11_digest_L166 gF hr23 ?_
  refine V.aload_n (i := 0) dX11_digest_191 rfl rfl ?_
  refine V.getfield (kf := 18) (v := .long r23.2) fl_RX11 dX11_digest_192 w1061 (Nat.le_of_ble_eq_true rfl) rfl rfl ?_
  obtain rfl := Option.some.inj hf
  exact V.lret dX11_digest_195 rfl (Nat.le_of_ble_eq_true rfl) (Nat.le_of_ble_eq_true rfl) rfl
