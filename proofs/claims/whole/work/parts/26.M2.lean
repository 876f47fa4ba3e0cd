/-! laid by program: shallow functions and contracts -/
def k_X11_tie : fK := (yX11_tie, cX11_tie, 3, (some .int), [], (7, 152), (0, 0), (0, 0))
theorem cal_X11_tie : fCal k_X11_tie 1 := ⟨⟨wc1108, w73⟩, ⟨by decide +kernel, by decide +kernel⟩, by decide +kernel, by decide +kernel⟩
def s_X11_tie (a1 : Int32) (M_savedMany : Int32) (M_length : Int32) (M_thrown : Int32) (M_spelt : Int32) (M_speltMany : Int32) (M_s : Nat → Int32) (M_saved : Nat → Int32) (M_text : Nat → Int32) : Option (Int32 × (Int32) × (Int32) × (Int32) × (Int32) × (Int32) × (Nat → Int32) × (Nat → Int32)) := (s_X11_isSpelt 0 M_length M_spelt M_speltMany M_text).bind fun v1 => (s_X11_isFisher a1).bind fun v2 => if (v2 = 0 : Prop) then ((s_X11_holds 1 M_thrown).bind fun v13 => if (v13.1 = 0 : Prop) then (some (0, M_savedMany, M_length, v13.2, v1.2.1, v1.2.2, M_s, M_saved)) else ((s_X11_save M_savedMany M_s M_saved).bind fun v14 => (s_X11_doTie a1 v1.2.1 v1.2.2 M_s).bind fun v15 => some (v15.1, v14.1, 0, v13.2, v1.2.1, v1.2.2, v15.2, v14.2))) else (if (v1.1 = 0 : Prop) then ((s_X11_holds 2 M_thrown).bind fun v10 => if (v10.1 = 0 : Prop) then (some (0, M_savedMany, M_length, v10.2, v1.2.1, v1.2.2, M_s, M_saved)) else ((s_X11_save M_savedMany M_s M_saved).bind fun v11 => (s_X11_doTie a1 v1.2.1 v1.2.2 M_s).bind fun v12 => some (v12.1, v11.1, 0, v10.2, v1.2.1, v1.2.2, v12.2, v11.2))) else ((s_X11_reason a1 v1.2.1 v1.2.2 M_s).bind fun v3 => if (v3 ≤ 0 : Prop) then ((s_X11_holds 0 M_thrown).bind fun v4 => if (v4.1 = 0 : Prop) then (some (0, M_savedMany, M_length, v4.2, v1.2.1, v1.2.2, M_s, M_saved)) else ((s_X11_save M_savedMany M_s M_saved).bind fun v5 => (s_X11_doTie a1 v1.2.1 v1.2.2 M_s).bind fun v6 => some (v6.1, v5.1, 0, v4.2, v1.2.1, v1.2.2, v6.2, v5.2))) else ((s_X11_holds 3 M_thrown).bind fun v7 => if (v7.1 = 0 : Prop) then (some (0, M_savedMany, M_length, v7.2, v1.2.1, v1.2.2, M_s, M_saved)) else ((s_X11_save M_savedMany M_s M_saved).bind fun v8 => (s_X11_doTie a1 v1.2.1 v1.2.2 M_s).bind fun v9 => some (v9.1, v8.1, 0, v7.2, v1.2.1, v1.2.2, v9.2, v8.2)))))
set_option maxHeartbeats 4000000 in
set_option maxRecDepth 100000 in
theorem ct_X11_tie {a1 : Int32} {M_savedMany : Int32} {M_isTaken : Int32} {M_length : Int32} {M_thrown : Int32} {M_spelt : Int32} {M_speltMany : Int32} {M_place : Int32} {M_kind : Int32} {M_one : Int32} {M_two : Int32} {M_three : Int32} {M_begins : Int32} {M_done : Int32} {M_stopBy : Int32} {M_hash : Int64} {M_s : Nat → Int32} {M_saved : Nat → Int32} {M_snapshot : Nat → Int32} {M_text : Nat → Int32} {res : Int32 × (Int32) × (Int32) × (Int32) × (Int32) × (Int32) × (Nat → Int32) × (Nat → Int32)} (hf : s_X11_tie a1 M_savedMany M_length M_thrown M_spelt M_speltMany M_s M_saved M_text = some res) : Ct k_X11_tie [.ref 0, .int a1] [.inl (6, [.ref 1, .ref 2, .int M_savedMany, .ref 3, .int M_isTaken, .ref 4, .int M_length, .int M_thrown, .int M_spelt, .int M_speltMany, .int M_place, .int M_kind, .int M_one, .int M_two, .int M_three, .int M_begins, .int M_done, .int M_stopBy, .long M_hash]), .inr (406, .inl M_s), .inr (2436, .inl M_saved), .inr (406, .inl M_snapshot), .inr (60, .inl M_text)] (.inl (some (.int res.1))) [.inl (6, [.ref 1, .ref 2, .int res.2.1, .ref 3, .int M_isTaken, .ref 4, .int res.2.2.1, .int res.2.2.2.1, .int res.2.2.2.2.1, .int res.2.2.2.2.2.1, .int M_place, .int M_kind, .int M_one, .int M_two, .int M_three, .int M_begins, .int M_done, .int M_stopBy, .long M_hash]), .inr (406, .inl res.2.2.2.2.2.2.1), .inr (2436, .inl res.2.2.2.2.2.2.2), .inr (406, .inl M_snapshot), .inr (60, .inl M_text)] := by
  unfold s_X11_tie at hf
  refine Ct.of (L := [some (.ref 0), some (.int a1), none]) cal_X11_tie (fent_pad (j := 1) rfl) (Nat.le_of_ble_eq_true rfl) ?_
  refine V.aload_n (i := 0) dX11_tie_0 rfl rfl ?_
  refine V.iconst (v := 0) dX11_tie_1 rfl ?_
  refine V.aload_n (i := 0) dX11_tie_2 rfl rfl ?_
  refine V.getfield (kf := 6) (v := .int M_length) fl_RX11 dX11_tie_3 w1049 (Nat.le_of_ble_eq_true rfl) rfl rfl ?_
  obtain ⟨v1, hv1, hf⟩ := fbind hf
  refine V.callVn (pl := [0, 1, 2, 3, 4]) (σ' := [.inl (6, [.ref 1, .ref 2, .int M_savedMany, .ref 3, .int M_isTaken, .ref 4, .int M_length, .int M_thrown, .int v1.2.1, .int v1.2.2, .int M_place, .int M_kind, .int M_one, .int M_two, .int M_three, .int M_begins, .int M_done, .int M_stopBy, .long M_hash]), .inr (406, .inl M_s), .inr (2436, .inl M_saved), .inr (406, .inl M_snapshot), .inr (60, .inl M_text)]) (st2 := [.int v1.1]) (cl2 := 0) (sl2 := 0) (ct_X11_isSpelt (a1 := 0) (a2 := M_length) (M_savedMany := M_savedMany) (M_isTaken := M_isTaken) (M_length := M_length) (M_thrown := M_thrown) (M_spelt := M_spelt) (M_speltMany := M_speltMany) (M_place := M_place) (M_kind := M_kind) (M_one := M_one) (M_two := M_two) (M_three := M_three) (M_begins := M_begins) (M_done := M_done) (M_stopBy := M_stopBy) (M_hash := M_hash) (M_s := M_s) (M_saved := M_saved) (M_snapshot := M_snapshot) (M_text := M_text) hv1) dX11_tie_6 w1109 ⟨w1111, w8⟩ cal_X11_isSpelt rfl ⟨⟨Nat.le_of_ble_eq_true rfl, Nat.le_of_ble_eq_true rfl⟩, Nat.le_of_ble_eq_true rfl, Nat.le_of_ble_eq_true rfl⟩ (Nat.le_of_ble_eq_true rfl) (Or.inl ⟨_, _, _, _, rfl, rfl⟩) rfl ⟨rfl, ⟨by decide, by decide⟩, rfl, (fr_cons (Or.inl (Nat.le_of_ble_eq_true rfl)) (fr_cons (Or.inl (Nat.le_of_ble_eq_true rfl)) (fr_cons (Or.inl (Nat.le_of_ble_eq_true rfl)) (fr_cons (Or.inl (Nat.le_of_ble_eq_true rfl)) (fr_nil))))), rfl⟩ fr_i rfl rfl rfl rfl ?_
  refine V.istore_n (i := 2) (L' := [some (.ref 0), some (.int a1), some (.int v1.1)]) dX11_tie_9 rfl (Nat.le_of_ble_eq_true rfl) rfl rfl ?_
  refine V.aload_n (i := 0) dX11_tie_10 rfl rfl ?_
  refine V.iload_n (i := 1) dX11_tie_11 rfl rfl ?_
  obtain ⟨v2, hv2, hf⟩ := fbind hf
  refine V.callSn (pl := []) (σ' := [.inl (6, [.ref 1, .ref 2, .int M_savedMany, .ref 3, .int M_isTaken, .ref 4, .int M_length, .int M_thrown, .int v1.2.1, .int v1.2.2, .int M_place, .int M_kind, .int M_one, .int M_two, .int M_three, .int M_begins, .int M_done, .int M_stopBy, .long M_hash]), .inr (406, .inl M_s), .inr (2436, .inl M_saved), .inr (406, .inl M_snapshot), .inr (60, .inl M_text)]) (st2 := [.int v2, .ref 0]) (cl2 := 0) (sl2 := 0) (ct_X11_isFisher (a0 := a1) hv2) dX11_tie_12 w1116 w1117 cal_X11_isFisher ⟨⟨Nat.le_of_ble_eq_true rfl, Nat.le_of_ble_eq_true rfl⟩, Nat.le_of_ble_eq_true rfl, Nat.le_of_ble_eq_true rfl⟩ (Nat.le_of_ble_eq_true rfl) rfl ⟨rfl, ⟨by decide, by decide⟩, rfl, (fr_nil), rfl⟩ fr_i rfl rfl rfl rfl ?_
  refine V.if_ne (tgt := 22) dX11_tie_15 (by decide) (fun h => ?_) (fun h => ?_)
  · have hf := fif_f h hf
    refine V.iload_n (i := 2) dX11_tie_22 rfl rfl ?_
    refine V.if_ne (tgt := 30) dX11_tie_23 (by decide) (fun h => ?_) (fun h => ?_)
    · have hf := fif_f h hf
      refine V.aload_n (i := 0) dX11_tie_30 rfl rfl ?_
      refine V.iload_n (i := 1) dX11_tie_31 rfl rfl ?_
      refine V.aload_n (i := 0) dX11_tie_32 rfl rfl ?_
      refine V.getfield (kf := 8) (v := .int v1.2.1) fl_RX11 dX11_tie_33 w1051 (Nat.le_of_ble_eq_true rfl) rfl rfl ?_
      refine V.aload_n (i := 0) dX11_tie_36 rfl rfl ?_
      refine V.getfield (kf := 9) (v := .int v1.2.2) fl_RX11 dX11_tie_37 w1052 (Nat.le_of_ble_eq_true rfl) rfl rfl ?_
      obtain ⟨v3, hv3, hf⟩ := fbind hf
      refine V.callVn (pl := [0, 1, 2, 3, 4]) (σ' := [.inl (6, [.ref 1, .ref 2, .int M_savedMany, .ref 3, .int M_isTaken, .ref 4, .int M_length, .int M_thrown, .int v1.2.1, .int v1.2.2, .int M_place, .int M_kind, .int M_one, .int M_two, .int M_three, .int M_begins, .int M_done, .int M_stopBy, .long M_hash]), .inr (406, .inl M_s), .inr (2436, .inl M_saved), .inr (406, .inl M_snapshot), .inr (60, .inl M_text)]) (st2 := [.int v3, .ref 0]) (cl2 := 0) (sl2 := 0) (ct_X11_reason (a1 := a1) (a2 := v1.2.1) (a3 := v1.2.2) (M_savedMany := M_savedMany) (M_isTaken := M_isTaken) (M_length := M_length) (M_thrown := M_thrown) (M_spelt := v1.2.1) (M_speltMany := v1.2.2) (M_place := M_place) (M_kind := M_kind) (M_one := M_one) (M_two := M_two) (M_three := M_three) (M_begins := M_begins) (M_done := M_done) (M_stopBy := M_stopBy) (M_hash := M_hash) (M_s := M_s) (M_saved := M_saved) (M_snapshot := M_snapshot) (M_text := M_text) hv3) dX11_tie_40 w1119 ⟨w1121, w9⟩ cal_X11_reason rfl ⟨⟨Nat.le_of_ble_eq_true rfl, Nat.le_of_ble_eq_true rfl⟩, Nat.le_of_ble_eq_true rfl, Nat.le_of_ble_eq_true rfl⟩ (Nat.le_of_ble_eq_true rfl) (Or.inl ⟨_, _, _, _, rfl, rfl⟩) rfl ⟨rfl, ⟨by decide, by decide⟩, rfl, (fr_cons (Or.inl (Nat.le_of_ble_eq_true rfl)) (fr_cons (Or.inl (Nat.le_of_ble_eq_true rfl)) (fr_cons (Or.inl (Nat.le_of_ble_eq_true rfl)) (fr_cons (Or.inl (Nat.le_of_ble_eq_true rfl)) (fr_nil))))), rfl⟩ fr_i rfl rfl rfl rfl ?_
      refine V.if_le (tgt := 50) dX11_tie_43 (by decide) (fun h => ?_) (fun h => ?_)
      · have hf := fif_t h hf
        refine V.iconst (v := 0) dX11_tie_50 rfl ?_
        obtain ⟨v4, hv4, hf⟩ := fbind hf
        refine V.callVn (pl := [0, 1, 2, 3, 4]) (σ' := [.inl (6, [.ref 1, .ref 2, .int M_savedMany, .ref 3, .int M_isTaken, .ref 4, .int M_length, .int v4.2, .int v1.2.1, .int v1.2.2, .int M_place, .int M_kind, .int M_one, .int M_two, .int M_three, .int M_begins, .int M_done, .int M_stopBy, .long M_hash]), .inr (406, .inl M_s), .inr (2436, .inl M_saved), .inr (406, .inl M_snapshot), .inr (60, .inl M_text)]) (st2 := [.int v4.1]) (cl2 := 0) (sl2 := 0) (ct_X11_holds (a1 := 0) (M_savedMany := M_savedMany) (M_isTaken := M_isTaken) (M_length := M_length) (M_thrown := M_thrown) (M_spelt := v1.2.1) (M_speltMany := v1.2.2) (M_place := M_place) (M_kind := M_kind) (M_one := M_one) (M_two := M_two) (M_three := M_three) (M_begins := M_begins) (M_done := M_done) (M_stopBy := M_stopBy) (M_hash := M_hash) (M_s := M_s) (M_saved := M_saved) (M_snapshot := M_snapshot) (M_text := M_text) hv4) dX11_tie_51 w1181 ⟨w1183, w20⟩ cal_X11_holds rfl ⟨⟨Nat.le_of_ble_eq_true rfl, Nat.le_of_ble_eq_true rfl⟩, Nat.le_of_ble_eq_true rfl, Nat.le_of_ble_eq_true rfl⟩ (Nat.le_of_ble_eq_true rfl) (Or.inl ⟨_, _, _, _, rfl, rfl⟩) rfl ⟨rfl, ⟨by decide, by decide⟩, rfl, (fr_cons (Or.inl (Nat.le_of_ble_eq_true rfl)) (fr_cons (Or.inl (Nat.le_of_ble_eq_true rfl)) (fr_cons (Or.inl (Nat.le_of_ble_eq_true rfl)) (fr_cons (Or.inl (Nat.le_of_ble_eq_true rfl)) (fr_nil))))), rfl⟩ fr_i rfl rfl rfl rfl ?_
        refine V.if_ne (tgt := 59) dX11_tie_54 (by decide) (fun h => ?_) (fun h => ?_)
        · have hf := fif_f h hf
          refine V.aload_n (i := 0) dX11_tie_59 rfl rfl ?_
          obtain ⟨v5, hv5, hf⟩ := fbind hf
          refine V.callVn (pl := [0, 1, 2, 3, 4]) (σ' := [.inl (6, [.ref 1, .ref 2, .int v5.1, .ref 3, .int M_isTaken, .ref 4, .int M_length, .int v4.2, .int v1.2.1, .int v1.2.2, .int M_place, .int M_kind, .int M_one, .int M_two, .int M_three, .int M_begins, .int M_done, .int M_stopBy, .long M_hash]), .inr (406, .inl M_s), .inr (2436, .inl v5.2), .inr (406, .inl M_snapshot), .inr (60, .inl M_text)]) (st2 := []) (cl2 := 0) (sl2 := 0) (ct_X11_save (M_savedMany := M_savedMany) (M_isTaken := M_isTaken) (M_length := M_length) (M_thrown := v4.2) (M_spelt := v1.2.1) (M_speltMany := v1.2.2) (M_place := M_place) (M_kind := M_kind) (M_one := M_one) (M_two := M_two) (M_three := M_three) (M_begins := M_begins) (M_done := M_done) (M_stopBy := M_stopBy) (M_hash := M_hash) (M_s := M_s) (M_saved := M_saved) (M_snapshot := M_snapshot) (M_text := M_text) hv5) dX11_tie_60 w1185 ⟨w1187, w21⟩ cal_X11_save rfl ⟨⟨Nat.le_of_ble_eq_true rfl, Nat.le_of_ble_eq_true rfl⟩, Nat.le_of_ble_eq_true rfl, Nat.le_of_ble_eq_true rfl⟩ (Nat.le_of_ble_eq_true rfl) (Or.inl ⟨_, _, _, _, rfl, rfl⟩) rfl ⟨rfl, ⟨by decide, by decide⟩, rfl, (fr_cons (Or.inl (Nat.le_of_ble_eq_true rfl)) (fr_cons (Or.inl (Nat.le_of_ble_eq_true rfl)) (fr_cons (Or.inl (Nat.le_of_ble_eq_true rfl)) (fr_cons (Or.inl (Nat.le_of_ble_eq_true rfl)) (fr_nil))))), rfl⟩ fr_v rfl rfl rfl rfl ?_
          refine V.aload_n (i := 0) dX11_tie_63 rfl rfl ?_
          refine V.iconst (v := 0) dX11_tie_64 rfl ?_
          refine V.putfield (ty := tyX11) (kf := 6) (σ' := [.inl (6, [.ref 1, .ref 2, .int v5.1, .ref 3, .int M_isTaken, .ref 4, .int 0, .int v4.2, .int v1.2.1, .int v1.2.2, .int M_place, .int M_kind, .int M_one, .int M_two, .int M_three, .int M_begins, .int M_done, .int M_stopBy, .long M_hash]), .inr (406, .inl M_s), .inr (2436, .inl v5.2), .inr (406, .inl M_snapshot), .inr (60, .inl M_text)]) fl_RX11 dX11_tie_65 w1049 (Nat.le_of_ble_eq_true rfl) rfl (fun _ => ⟨rfl, rfl⟩) rfl (Nat.le_of_ble_eq_true rfl) rfl ?_
          refine V.aload_n (i := 0) dX11_tie_68 rfl rfl ?_
          refine V.iload_n (i := 1) dX11_tie_69 rfl rfl ?_
          refine V.aload_n (i := 0) dX11_tie_70 rfl rfl ?_
          refine V.getfield (kf := 8) (v := .int v1.2.1) fl_RX11 dX11_tie_71 w1051 (Nat.le_of_ble_eq_true rfl) rfl rfl ?_
          refine V.aload_n (i := 0) dX11_tie_74 rfl rfl ?_
          refine V.getfield (kf := 9) (v := .int v1.2.2) fl_RX11 dX11_tie_75 w1052 (Nat.le_of_ble_eq_true rfl) rfl rfl ?_
          obtain ⟨v6, hv6, hf⟩ := fbind hf
          refine V.callVn (pl := [0, 1, 2, 3, 4]) (σ' := [.inl (6, [.ref 1, .ref 2, .int v5.1, .ref 3, .int M_isTaken, .ref 4, .int 0, .int v4.2, .int v1.2.1, .int v1.2.2, .int M_place, .int M_kind, .int M_one, .int M_two, .int M_three, .int M_begins, .int M_done, .int M_stopBy, .long M_hash]), .inr (406, .inl v6.2), .inr (2436, .inl v5.2), .inr (406, .inl M_snapshot), .inr (60, .inl M_text)]) (st2 := [.int v6.1]) (cl2 := 0) (sl2 := 0) (ct_X11_doTie (a1 := a1) (a2 := v1.2.1) (a3 := v1.2.2) (M_savedMany := v5.1) (M_isTaken := M_isTaken) (M_length := 0) (M_thrown := v4.2) (M_spelt := v1.2.1) (M_speltMany := v1.2.2) (M_place := M_place) (M_kind := M_kind) (M_one := M_one) (M_two := M_two) (M_three := M_three) (M_begins := M_begins) (M_done := M_done) (M_stopBy := M_stopBy) (M_hash := M_hash) (M_s := M_s) (M_saved := v5.2) (M_snapshot := M_snapshot) (M_text := M_text) hv6) dX11_tie_78 w1192 ⟨w1194, w22⟩ cal_X11_doTie rfl ⟨⟨Nat.le_of_ble_eq_true rfl, Nat.le_of_ble_eq_true rfl⟩, Nat.le_of_ble_eq_true rfl, Nat.le_of_ble_eq_true rfl⟩ (Nat.le_of_ble_eq_true rfl) (Or.inl ⟨_, _, _, _, rfl, rfl⟩) rfl ⟨rfl, ⟨by decide, by decide⟩, rfl, (fr_cons (Or.inl (Nat.le_of_ble_eq_true rfl)) (fr_cons (Or.inl (Nat.le_of_ble_eq_true rfl)) (fr_cons (Or.inl (Nat.le_of_ble_eq_true rfl)) (fr_cons (Or.inl (Nat.le_of_ble_eq_true rfl)) (fr_nil))))), rfl⟩ fr_i rfl rfl rfl rfl ?_
          obtain rfl := Option.some.inj hf
          exact V.iret dX11_tie_81 rfl (Nat.le_of_ble_eq_true rfl) (Nat.le_of_ble_eq_true rfl) rfl
        · have hf := fif_t h hf
          refine V.iconst (v := 0) dX11_tie_57 rfl ?_
          obtain rfl := Option.some.inj hf
          exact V.iret dX11_tie_58 rfl (Nat.le_of_ble_eq_true rfl) (Nat.le_of_ble_eq_true rfl) rfl
      · have hf := fif_f h hf
        refine V.iconst (v := 3) dX11_tie_46 rfl ?_
        refine V.goto (tgt := 51) dX11_tie_47 (by decide) ?_
        obtain ⟨v7, hv7, hf⟩ := fbind hf
        refine V.callVn (pl := [0, 1, 2, 3, 4]) (σ' := [.inl (6, [.ref 1, .ref 2, .int M_savedMany, .ref 3, .int M_isTaken, .ref 4, .int M_length, .int v7.2, .int v1.2.1, .int v1.2.2, .int M_place, .int M_kind, .int M_one, .int M_two, .int M_three, .int M_begins, .int M_done, .int M_stopBy, .long M_hash]), .inr (406, .inl M_s), .inr (2436, .inl M_saved), .inr (406, .inl M_snapshot), .inr (60, .inl M_text)]) (st2 := [.int v7.1]) (cl2 := 0) (sl2 := 0) (ct_X11_holds (a1 := 3) (M_savedMany := M_savedMany) (M_isTaken := M_isTaken) (M_length := M_length) (M_thrown := M_thrown) (M_spelt := v1.2.1) (M_speltMany := v1.2.2) (M_place := M_place) (M_kind := M_kind) (M_one := M_one) (M_two := M_two) (M_three := M_three) (M_begins := M_begins) (M_done := M_done) (M_stopBy := M_stopBy) (M_hash := M_hash) (M_s := M_s) (M_saved := M_saved) (M_snapshot := M_snapshot) (M_text := M_text) hv7) dX11_tie_51 w1181 ⟨w1183, w20⟩ cal_X11_holds rfl ⟨⟨Nat.le_of_ble_eq_true rfl, Nat.le_of_ble_eq_true rfl⟩, Nat.le_of_ble_eq_true rfl, Nat.le_of_ble_eq_true rfl⟩ (Nat.le_of_ble_eq_true rfl) (Or.inl ⟨_, _, _, _, rfl, rfl⟩) rfl ⟨rfl, ⟨by decide, by decide⟩, rfl, (fr_cons (Or.inl (Nat.le_of_ble_eq_true rfl)) (fr_cons (Or.inl (Nat.le_of_ble_eq_true rfl)) (fr_cons (Or.inl (Nat.le_of_ble_eq_true rfl)) (fr_cons (Or.inl (Nat.le_of_ble_eq_true rfl)) (fr_nil))))), rfl⟩ fr_i rfl rfl rfl rfl ?_
        refine V.if_ne (tgt := 59) dX11_tie_54 (by decide) (fun h => ?_) (fun h => ?_)
        · have hf := fif_f h hf
          refine V.aload_n (i := 0) dX11_tie_59 rfl rfl ?_
          obtain ⟨v8, hv8, hf⟩ := fbind hf
          refine V.callVn (pl := [0, 1, 2, 3, 4]) (σ' := [.inl (6, [.ref 1, .ref 2, .int v8.1, .ref 3, .int M_isTaken, .ref 4, .int M_length, .int v7.2, .int v1.2.1, .int v1.2.2, .int M_place, .int M_kind, .int M_one, .int M_two, .int M_three, .int M_begins, .int M_done, .int M_stopBy, .long M_hash]), .inr (406, .inl M_s), .inr (2436, .inl v8.2), .inr (406, .inl M_snapshot), .inr (60, .inl M_text)]) (st2 := []) (cl2 := 0) (sl2 := 0) (ct_X11_save (M_savedMany := M_savedMany) (M_isTaken := M_isTaken) (M_length := M_length) (M_thrown := v7.2) (M_spelt := v1.2.1) (M_speltMany := v1.2.2) (M_place := M_place) (M_kind := M_kind) (M_one := M_one) (M_two := M_two) (M_three := M_three) (M_begins := M_begins) (M_done := M_done) (M_stopBy := M_stopBy) (M_hash := M_hash) (M_s := M_s) (M_saved := M_saved) (M_snapshot := M_snapshot) (M_text := M_text) hv8) dX11_tie_60 w1185 ⟨w1187, w21⟩ cal_X11_save rfl ⟨⟨Nat.le_of_ble_eq_true rfl, Nat.le_of_ble_eq_true rfl⟩, Nat.le_of_ble_eq_true rfl, Nat.le_of_ble_eq_true rfl⟩ (Nat.le_of_ble_eq_true rfl) (Or.inl ⟨_, _, _, _, rfl, rfl⟩) rfl ⟨rfl, ⟨by decide, by decide⟩, rfl, (fr_cons (Or.inl (Nat.le_of_ble_eq_true rfl)) (fr_cons (Or.inl (Nat.le_of_ble_eq_true rfl)) (fr_cons (Or.inl (Nat.le_of_ble_eq_true rfl)) (fr_cons (Or.inl (Nat.le_of_ble_eq_true rfl)) (fr_nil))))), rfl⟩ fr_v rfl rfl rfl rfl ?_
          refine V.aload_n (i := 0) dX11_tie_63 rfl rfl ?_
          refine V.iconst (v := 0) dX11_tie_64 rfl ?_
          refine V.putfield (ty := tyX11) (kf := 6) (σ' := [.inl (6, [.ref 1, .ref 2, .int v8.1, .ref 3, .int M_isTaken, .ref 4, .int 0, .int v7.2, .int v1.2.1, .int v1.2.2, .int M_place, .int M_kind, .int M_one, .int M_two, .int M_three, .int M_begins, .int M_done, .int M_stopBy, .long M_hash]), .inr (406, .inl M_s), .inr (2436, .inl v8.2), .inr (406, .inl M_snapshot), .inr (60, .inl M_text)]) fl_RX11 dX11_tie_65 w1049 (Nat.le_of_ble_eq_true rfl) rfl (fun _ => ⟨rfl, rfl⟩) rfl (Nat.le_of_ble_eq_true rfl) rfl ?_
          refine V.aload_n (i := 0) dX11_tie_68 rfl rfl ?_
          refine V.iload_n (i := 1) dX11_tie_69 rfl rfl ?_
          refine V.aload_n (i := 0) dX11_tie_70 rfl rfl ?_
          refine V.getfield (kf := 8) (v := .int v1.2.1) fl_RX11 dX11_tie_71 w1051 (Nat.le_of_ble_eq_true rfl) rfl rfl ?_
          refine V.aload_n (i := 0) dX11_tie_74 rfl rfl ?_
          refine V.getfield (kf := 9) (v := .int v1.2.2) fl_RX11 dX11_tie_75 w1052 (Nat.le_of_ble_eq_true rfl) rfl rfl ?_
          obtain ⟨v9, hv9, hf⟩ := fbind hf
          refine V.callVn (pl := [0, 1, 2, 3, 4]) (σ' := [.inl (6, [.ref 1, .ref 2, .int v8.1, .ref 3, .int M_isTaken, .ref 4, .int 0, .int v7.2, .int v1.2.1, .int v1.2.2, .int M_place, .int M_kind, .int M_one, .int M_two, .int M_three, .int M_begins, .int M_done, .int M_stopBy, .long M_hash]), .inr (406, .inl v9.2), .inr (2436, .inl v8.2), .inr (406, .inl M_snapshot), .inr (60, .inl M_text)]) (st2 := [.int v9.1]) (cl2 := 0) (sl2 := 0) (ct_X11_doTie (a1 := a1) (a2 := v1.2.1) (a3 := v1.2.2) (M_savedMany := v8.1) (M_isTaken := M_isTaken) (M_length := 0) (M_thrown := v7.2) (M_spelt := v1.2.1) (M_speltMany := v1.2.2) (M_place := M_place) (M_kind := M_kind) (M_one := M_one) (M_two := M_two) (M_three := M_three) (M_begins := M_begins) (M_done := M_done) (M_stopBy := M_stopBy) (M_hash := M_hash) (M_s := M_s) (M_saved := v8.2) (M_snapshot := M_snapshot) (M_text := M_text) hv9) dX11_tie_78 w1192 ⟨w1194, w22⟩ cal_X11_doTie rfl ⟨⟨Nat.le_of_ble_eq_true rfl, Nat.le_of_ble_eq_true rfl⟩, Nat.le_of_ble_eq_true rfl, Nat.le_of_ble_eq_true rfl⟩ (Nat.le_of_ble_eq_true rfl) (Or.inl ⟨_, _, _, _, rfl, rfl⟩) rfl ⟨rfl, ⟨by decide, by decide⟩, rfl, (fr_cons (Or.inl (Nat.le_of_ble_eq_true rfl)) (fr_cons (Or.inl (Nat.le_of_ble_eq_true rfl)) (fr_cons (Or.inl (Nat.le_of_ble_eq_true rfl)) (fr_cons (Or.inl (Nat.le_of_ble_eq_true rfl)) (fr_nil))))), rfl⟩ fr_i rfl rfl rfl rfl ?_
          obtain rfl := Option.some.inj hf
          exact V.iret dX11_tie_81 rfl (Nat.le_of_ble_eq_true rfl) (Nat.le_of_ble_eq_true rfl) rfl
        · have hf := fif_t h hf
          refine V.iconst (v := 0) dX11_tie_57 rfl ?_
          obtain rfl := Option.some.inj hf
          exact V.iret dX11_tie_58 rfl (Nat.le_of_ble_eq_true rfl) (Nat.le_of_ble_eq_true rfl) rfl
    · have hf := fif_t h hf
      refine V.iconst (v := 2) dX11_tie_26 rfl ?_
      refine V.goto (tgt := 51) dX11_tie_27 (by decide) ?_
      obtain ⟨v10, hv10, hf⟩ := fbind hf
      refine V.callVn (pl := [0, 1, 2, 3, 4]) (σ' := [.inl (6, [.ref 1, .ref 2, .int M_savedMany, .ref 3, .int M_isTaken, .ref 4, .int M_length, .int v10.2, .int v1.2.1, .int v1.2.2, .int M_place, .int M_kind, .int M_one, .int M_two, .int M_three, .int M_begins, .int M_done, .int M_stopBy, .long M_hash]), .inr (406, .inl M_s), .inr (2436, .inl M_saved), .inr (406, .inl M_snapshot), .inr (60, .inl M_text)]) (st2 := [.int v10.1]) (cl2 := 0) (sl2 := 0) (ct_X11_holds (a1 := 2) (M_savedMany := M_savedMany) (M_isTaken := M_isTaken) (M_length := M_length) (M_thrown := M_thrown) (M_spelt := v1.2.1) (M_speltMany := v1.2.2) (M_place := M_place) (M_kind := M_kind) (M_one := M_one) (M_two := M_two) (M_three := M_three) (M_begins := M_begins) (M_done := M_done) (M_stopBy := M_stopBy) (M_hash := M_hash) (M_s := M_s) (M_saved := M_saved) (M_snapshot := M_snapshot) (M_text := M_text) hv10) dX11_tie_51 w1181 ⟨w1183, w20⟩ cal_X11_holds rfl ⟨⟨Nat.le_of_ble_eq_true rfl, Nat.le_of_ble_eq_true rfl⟩, Nat.le_of_ble_eq_true rfl, Nat.le_of_ble_eq_true rfl⟩ (Nat.le_of_ble_eq_true rfl) (Or.inl ⟨_, _, _, _, rfl, rfl⟩) rfl ⟨rfl, ⟨by decide, by decide⟩, rfl, (fr_cons (Or.inl (Nat.le_of_ble_eq_true rfl)) (fr_cons (Or.inl (Nat.le_of_ble_eq_true rfl)) (fr_cons (Or.inl (Nat.le_of_ble_eq_true rfl)) (fr_cons (Or.inl (Nat.le_of_ble_eq_true rfl)) (fr_nil))))), rfl⟩ fr_i rfl rfl rfl rfl ?_
      refine V.if_ne (tgt := 59) dX11_tie_54 (by decide) (fun h => ?_) (fun h => ?_)
      · have hf := fif_f h hf
        refine V.aload_n (i := 0) dX11_tie_59 rfl rfl ?_
        obtain ⟨v11, hv11, hf⟩ := fbind hf
        refine V.callVn (pl := [0, 1, 2, 3, 4]) (σ' := [.inl (6, [.ref 1, .ref 2, .int v11.1, .ref 3, .int M_isTaken, .ref 4, .int M_length, .int v10.2, .int v1.2.1, .int v1.2.2, .int M_place, .int M_kind, .int M_one, .int M_two, .int M_three, .int M_begins, .int M_done, .int M_stopBy, .long M_hash]), .inr (406, .inl M_s), .inr (2436, .inl v11.2), .inr (406, .inl M_snapshot), .inr (60, .inl M_text)]) (st2 := []) (cl2 := 0) (sl2 := 0) (ct_X11_save (M_savedMany := M_savedMany) (M_isTaken := M_isTaken) (M_length := M_length) (M_thrown := v10.2) (M_spelt := v1.2.1) (M_speltMany := v1.2.2) (M_place := M_place) (M_kind := M_kind) (M_one := M_one) (M_two := M_two) (M_three := M_three) (M_begins := M_begins) (M_done := M_done) (M_stopBy := M_stopBy) (M_hash := M_hash) (M_s := M_s) (M_saved := M_saved) (M_snapshot := M_snapshot) (M_text := M_text) hv11) dX11_tie_60 w1185 ⟨w1187, w21⟩ cal_X11_save rfl ⟨⟨Nat.le_of_ble_eq_true rfl, Nat.le_of_ble_eq_true rfl⟩, Nat.le_of_ble_eq_true rfl, Nat.le_of_ble_eq_true rfl⟩ (Nat.le_of_ble_eq_true rfl) (Or.inl ⟨_, _, _, _, rfl, rfl⟩) rfl ⟨rfl, ⟨by decide, by decide⟩, rfl, (fr_cons (Or.inl (Nat.le_of_ble_eq_true rfl)) (fr_cons (Or.inl (Nat.le_of_ble_eq_true rfl)) (fr_cons (Or.inl (Nat.le_of_ble_eq_true rfl)) (fr_cons (Or.inl (Nat.le_of_ble_eq_true rfl)) (fr_nil))))), rfl⟩ fr_v rfl rfl rfl rfl ?_
        refine V.aload_n (i := 0) dX11_tie_63 rfl rfl ?_
        refine V.iconst (v := 0) dX11_tie_64 rfl ?_
        refine V.putfield (ty := tyX11) (kf := 6) (σ' := [.inl (6, [.ref 1, .ref 2, .int v11.1, .ref 3, .int M_isTaken, .ref 4, .int 0, .int v10.2, .int v1.2.1, .int v1.2.2, .int M_place, .int M_kind, .int M_one, .int M_two, .int M_three, .int M_begins, .int M_done, .int M_stopBy, .long M_hash]), .inr (406, .inl M_s), .inr (2436, .inl v11.2), .inr (406, .inl M_snapshot), .inr (60, .inl M_text)]) fl_RX11 dX11_tie_65 w1049 (Nat.le_of_ble_eq_true rfl) rfl (fun _ => ⟨rfl, rfl⟩) rfl (Nat.le_of_ble_eq_true rfl) rfl ?_
        refine V.aload_n (i := 0) dX11_tie_68 rfl rfl ?_
        refine V.iload_n (i := 1) dX11_tie_69 rfl rfl ?_
        refine V.aload_n (i := 0) dX11_tie_70 rfl rfl ?_
        refine V.getfield (kf := 8) (v := .int v1.2.1) fl_RX11 dX11_tie_71 w1051 (Nat.le_of_ble_eq_true rfl) rfl rfl ?_
        refine V.aload_n (i := 0) dX11_tie_74 rfl rfl ?_
        refine V.getfield (kf := 9) (v := .int v1.2.2) fl_RX11 dX11_tie_75 w1052 (Nat.le_of_ble_eq_true rfl) rfl rfl ?_
        obtain ⟨v12, hv12, hf⟩ := fbind hf
        refine V.callVn (pl := [0, 1, 2, 3, 4]) (σ' := [.inl (6, [.ref 1, .ref 2, .int v11.1, .ref 3, .int M_isTaken, .ref 4, .int 0, .int v10.2, .int v1.2.1, .int v1.2.2, .int M_place, .int M_kind, .int M_one, .int M_two, .int M_three, .int M_begins, .int M_done, .int M_stopBy, .long M_hash]), .inr (406, .inl v12.2), .inr (2436, .inl v11.2), .inr (406, .inl M_snapshot), .inr (60, .inl M_text)]) (st2 := [.int v12.1]) (cl2 := 0) (sl2 := 0) (ct_X11_doTie (a1 := a1) (a2 := v1.2.1) (a3 := v1.2.2) (M_savedMany := v11.1) (M_isTaken := M_isTaken) (M_length := 0) (M_thrown := v10.2) (M_spelt := v1.2.1) (M_speltMany := v1.2.2) (M_place := M_place) (M_kind := M_kind) (M_one := M_one) (M_two := M_two) (M_three := M_three) (M_begins := M_begins) (M_done := M_done) (M_stopBy := M_stopBy) (M_hash := M_hash) (M_s := M_s) (M_saved := v11.2) (M_snapshot := M_snapshot) (M_text := M_text) hv12) dX11_tie_78 w1192 ⟨w1194, w22⟩ cal_X11_doTie rfl ⟨⟨Nat.le_of_ble_eq_true rfl, Nat.le_of_ble_eq_true rfl⟩, Nat.le_of_ble_eq_true rfl, Nat.le_of_ble_eq_true rfl⟩ (Nat.le_of_ble_eq_true rfl) (Or.inl ⟨_, _, _, _, rfl, rfl⟩) rfl ⟨rfl, ⟨by decide, by decide⟩, rfl, (fr_cons (Or.inl (Nat.le_of_ble_eq_true rfl)) (fr_cons (Or.inl (Nat.le_of_ble_eq_true rfl)) (fr_cons (Or.inl (Nat.le_of_ble_eq_true rfl)) (fr_cons (Or.inl (Nat.le_of_ble_eq_true rfl)) (fr_nil))))), rfl⟩ fr_i rfl rfl rfl rfl ?_
        obtain rfl := Option.some.inj hf
        exact V.iret dX11_tie_81 rfl (Nat.le_of_ble_eq_true rfl) (Nat.le_of_ble_eq_true rfl) rfl
      · have hf := fif_t h hf
        refine V.iconst (v := 0) dX11_tie_57 rfl ?_
        obtain rfl := Option.some.inj hf
        exact V.iret dX11_tie_58 rfl (Nat.le_of_ble_eq_true rfl) (Nat.le_of_ble_eq_true rfl) rfl
  · have hf := fif_t h hf
    refine V.iconst (v := 1) dX11_tie_18 rfl ?_
    refine V.goto (tgt := 51) dX11_tie_19 (by decide) ?_
    obtain ⟨v13, hv13, hf⟩ := fbind hf
    refine V.callVn (pl := [0, 1, 2, 3, 4]) (σ' := [.inl (6, [.ref 1, .ref 2, .int M_savedMany, .ref 3, .int M_isTaken, .ref 4, .int M_length, .int v13.2, .int v1.2.1, .int v1.2.2, .int M_place, .int M_kind, .int M_one, .int M_two, .int M_three, .int M_begins, .int M_done, .int M_stopBy, .long M_hash]), .inr (406, .inl M_s), .inr (2436, .inl M_saved), .inr (406, .inl M_snapshot), .inr (60, .inl M_text)]) (st2 := [.int v13.1]) (cl2 := 0) (sl2 := 0) (ct_X11_holds (a1 := 1) (M_savedMany := M_savedMany) (M_isTaken := M_isTaken) (M_length := M_length) (M_thrown := M_thrown) (M_spelt := v1.2.1) (M_speltMany := v1.2.2) (M_place := M_place) (M_kind := M_kind) (M_one := M_one) (M_two := M_two) (M_three := M_three) (M_begins := M_begins) (M_done := M_done) (M_stopBy := M_stopBy) (M_hash := M_hash) (M_s := M_s) (M_saved := M_saved) (M_snapshot := M_snapshot) (M_text := M_text) hv13) dX11_tie_51 w1181 ⟨w1183, w20⟩ cal_X11_holds rfl ⟨⟨Nat.le_of_ble_eq_true rfl, Nat.le_of_ble_eq_true rfl⟩, Nat.le_of_ble_eq_true rfl, Nat.le_of_ble_eq_true rfl⟩ (Nat.le_of_ble_eq_true rfl) (Or.inl ⟨_, _, _, _, rfl, rfl⟩) rfl ⟨rfl, ⟨by decide, by decide⟩, rfl, (fr_cons (Or.inl (Nat.le_of_ble_eq_true rfl)) (fr_cons (Or.inl (Nat.le_of_ble_eq_true rfl)) (fr_cons (Or.inl (Nat.le_of_ble_eq_true rfl)) (fr_cons (Or.inl (Nat.le_of_ble_eq_true rfl)) (fr_nil))))), rfl⟩ fr_i rfl rfl rfl rfl ?_
    refine V.if_ne (tgt := 59) dX11_tie_54 (by decide) (fun h => ?_) (fun h => ?_)
    · have hf := fif_f h hf
      refine V.aload_n (i := 0) dX11_tie_59 rfl rfl ?_
      obtain ⟨v14, hv14, hf⟩ := fbind hf
      refine V.callVn (pl := [0, 1, 2, 3, 4]) (σ' := [.inl (6, [.ref 1, .ref 2, .int v14.1, .ref 3, .int M_isTaken, .ref 4, .int M_length, .int v13.2, .int v1.2.1, .int v1.2.2, .int M_place, .int M_kind, .int M_one, .int M_two, .int M_three, .int M_begins, .int M_done, .int M_stopBy, .long M_hash]), .inr (406, .inl M_s), .inr (2436, .inl v14.2), .inr (406, .inl M_snapshot), .inr (60, .inl M_text)]) (st2 := []) (cl2 := 0) (sl2 := 0) (ct_X11_save (M_savedMany := M_savedMany) (M_isTaken := M_isTaken) (M_length := M_length) (M_thrown := v13.2) (M_spelt := v1.2.1) (M_speltMany := v1.2.2) (M_place := M_place) (M_kind := M_kind) (M_one := M_one) (M_two := M_two) (M_three := M_three) (M_begins := M_begins) (M_done := M_done) (M_stopBy := M_stopBy) (M_hash := M_hash) (M_s := M_s) (M_saved := M_saved) (M_snapshot := M_snapshot) (M_text := M_text) hv14) dX11_tie_60 w1185 ⟨w1187, w21⟩ cal_X11_save rfl ⟨⟨Nat.le_of_ble_eq_true rfl, Nat.le_of_ble_eq_true rfl⟩, Nat.le_of_ble_eq_true rfl, Nat.le_of_ble_eq_true rfl⟩ (Nat.le_of_ble_eq_true rfl) (Or.inl ⟨_, _, _, _, rfl, rfl⟩) rfl ⟨rfl, ⟨by decide, by decide⟩, rfl, (fr_cons (Or.inl (Nat.le_of_ble_eq_true rfl)) (fr_cons (Or.inl (Nat.le_of_ble_eq_true rfl)) (fr_cons (Or.inl (Nat.le_of_ble_eq_true rfl)) (fr_cons (Or.inl (Nat.le_of_ble_eq_true rfl)) (fr_nil))))), rfl⟩ fr_v rfl rfl rfl rfl ?_
      refine V.aload_n (i := 0) dX11_tie_63 rfl rfl ?_
      refine V.iconst (v := 0) dX11_tie_64 rfl ?_
      refine V.putfield (ty := tyX11) (kf := 6) (σ' := [.inl (6, [.ref 1, .ref 2, .int v14.1, .ref 3, .int M_isTaken, .ref 4, .int 0, .int v13.2, .int v1.2.1, .int v1.2.2, .int M_place, .int M_kind, .int M_one, .int M_two, .int M_three, .int M_begins, .int M_done, .int M_stopBy, .long M_hash]), .inr (406, .inl M_s), .inr (2436, .inl v14.2), .inr (406, .inl M_snapshot), .inr (60, .inl M_text)]) fl_RX11 dX11_tie_65 w1049 (Nat.le_of_ble_eq_true rfl) rfl (fun _ => ⟨rfl, rfl⟩) rfl (Nat.le_of_ble_eq_true rfl) rfl ?_
      refine V.aload_n (i := 0) dX11_tie_68 rfl rfl ?_
      refine V.iload_n (i := 1) dX11_tie_69 rfl rfl ?_
      refine V.aload_n (i := 0) dX11_tie_70 rfl rfl ?_
      refine V.getfield (kf := 8) (v := .int v1.2.1) fl_RX11 dX11_tie_71 w1051 (Nat.le_of_ble_eq_true rfl) rfl rfl ?_
      refine V.aload_n (i := 0) dX11_tie_74 rfl rfl ?_
      refine V.getfield (kf := 9) (v := .int v1.2.2) fl_RX11 dX11_tie_75 w1052 (Nat.le_of_ble_eq_true rfl) rfl rfl ?_
      obtain ⟨v15, hv15, hf⟩ := fbind hf
      refine V.callVn (pl := [0, 1, 2, 3, 4]) (σ' := [.inl (6, [.ref 1, .ref 2, .int v14.1, .ref 3, .int M_isTaken, .ref 4, .int 0, .int v13.2, .int v1.2.1, .int v1.2.2, .int M_place, .int M_kind, .int M_one, .int M_two, .int M_three, .int M_begins, .int M_done, .int M_stopBy, .long M_hash]), .inr (406, .inl v15.2), .inr (2436, .inl v14.2), .inr (406, .inl M_snapshot), .inr (60, .inl M_text)]) (st2 := [.int v15.1]) (cl2 := 0) (sl2 := 0) (ct_X11_doTie (a1 := a1) (a2 := v1.2.1) (a3 := v1.2.2) (M_savedMany := v14.1) (M_isTaken := M_isTaken) (M_length := 0) (M_thrown := v13.2) (M_spelt := v1.2.1) (M_speltMany := v1.2.2) (M_place := M_place) (M_kind := M_kind) (M_one := M_one) (M_two := M_two) (M_three := M_three) (M_begins := M_begins) (M_done := M_done) (M_stopBy := M_stopBy) (M_hash := M_hash) (M_s := M_s) (M_saved := v14.2) (M_snapshot := M_snapshot) (M_text := M_text) hv15) dX11_tie_78 w1192 ⟨w1194, w22⟩ cal_X11_doTie rfl ⟨⟨Nat.le_of_ble_eq_true rfl, Nat.le_of_ble_eq_true rfl⟩, Nat.le_of_ble_eq_true rfl, Nat.le_of_ble_eq_true rfl⟩ (Nat.le_of_ble_eq_true rfl) (Or.inl ⟨_, _, _, _, rfl, rfl⟩) rfl ⟨rfl, ⟨by decide, by decide⟩, rfl, (fr_cons (Or.inl (Nat.le_of_ble_eq_true rfl)) (fr_cons (Or.inl (Nat.le_of_ble_eq_true rfl)) (fr_cons (Or.inl (Nat.le_of_ble_eq_true rfl)) (fr_cons (Or.inl (Nat.le_of_ble_eq_true rfl)) (fr_nil))))), rfl⟩ fr_i rfl rfl rfl rfl ?_
      obtain rfl := Option.some.inj hf
      exact V.iret dX11_tie_81 rfl (Nat.le_of_ble_eq_true rfl) (Nat.le_of_ble_eq_true rfl) rfl
    · have hf := fif_t h hf
      refine V.iconst (v := 0) dX11_tie_57 rfl ?_
      obtain rfl := Option.some.inj hf
      exact V.iret dX11_tie_58 rfl (Nat.le_of_ble_eq_true rfl) (Nat.le_of_ble_eq_true rfl) rfl
def k_X11_cut : fK := (yX11_cut, cX11_cut, 3, (some .int), [], (5, 108), (0, 0), (0, 0))
theorem cal_X11_cut : fCal k_X11_cut 2 := ⟨⟨wc1203, w73⟩, ⟨by decide +kernel, by decide +kernel⟩, by decide +kernel, by decide +kernel⟩
def s_X11_cut (a1 : Int32) (a2 : Int32) (M_savedMany : Int32) (M_thrown : Int32) (M_s : Nat → Int32) (M_saved : Nat → Int32) : Option (Int32 × (Int32) × (Int32) × (Nat → Int32) × (Nat → Int32)) := (s_X11_isName a1 a2 M_s).bind fun v1 => if (v1 = 0 : Prop) then ((s_X11_holds 1 M_thrown).bind fun v2 => if (v2.1 = 0 : Prop) then (some (0, M_savedMany, v2.2, M_s, M_saved)) else ((s_X11_save M_savedMany M_s M_saved).bind fun v3 => (s_X11_takeOff a1 a2 M_s).bind fun v4 => some (v4.1, v3.1, v2.2, v4.2, v3.2))) else ((s_X11_holds 0 M_thrown).bind fun v5 => if (v5.1 = 0 : Prop) then (some (0, M_savedMany, v5.2, M_s, M_saved)) else ((s_X11_save M_savedMany M_s M_saved).bind fun v6 => (s_X11_takeOff a1 a2 M_s).bind fun v7 => some (v7.1, v6.1, v5.2, v7.2, v6.2)))
set_option maxHeartbeats 4000000 in
set_option maxRecDepth 100000 in
theorem ct_X11_cut {a1 : Int32} {a2 : Int32} {M_savedMany : Int32} {M_isTaken : Int32} {M_length : Int32} {M_thrown : Int32} {M_spelt : Int32} {M_speltMany : Int32} {M_place : Int32} {M_kind : Int32} {M_one : Int32} {M_two : Int32} {M_three : Int32} {M_begins : Int32} {M_done : Int32} {M_stopBy : Int32} {M_hash : Int64} {M_s : Nat → Int32} {M_saved : Nat → Int32} {M_snapshot : Nat → Int32} {M_text : Nat → Int32} {res : Int32 × (Int32) × (Int32) × (Nat → Int32) × (Nat → Int32)} (hf : s_X11_cut a1 a2 M_savedMany M_thrown M_s M_saved = some res) : Ct k_X11_cut [.ref 0, .int a1, .int a2] [.inl (6, [.ref 1, .ref 2, .int M_savedMany, .ref 3, .int M_isTaken, .ref 4, .int M_length, .int M_thrown, .int M_spelt, .int M_speltMany, .int M_place, .int M_kind, .int M_one, .int M_two, .int M_three, .int M_begins, .int M_done, .int M_stopBy, .long M_hash]), .inr (406, .inl M_s), .inr (2436, .inl M_saved), .inr (406, .inl M_snapshot), .inr (60, .inl M_text)] (.inl (some (.int res.1))) [.inl (6, [.ref 1, .ref 2, .int res.2.1, .ref 3, .int M_isTaken, .ref 4, .int M_length, .int res.2.2.1, .int M_spelt, .int M_speltMany, .int M_place, .int M_kind, .int M_one, .int M_two, .int M_three, .int M_begins, .int M_done, .int M_stopBy, .long M_hash]), .inr (406, .inl res.2.2.2.1), .inr (2436, .inl res.2.2.2.2), .inr (406, .inl M_snapshot), .inr (60, .inl M_text)] := by
  unfold s_X11_cut at hf
  refine Ct.of (L := [some (.ref 0), some (.int a1), some (.int a2)]) cal_X11_cut (fent_pad (j := 0) rfl) (Nat.le_of_ble_eq_true rfl) ?_
  refine V.aload_n (i := 0) dX11_cut_0 rfl rfl ?_
  refine V.aload_n (i := 0) dX11_cut_1 rfl rfl ?_
  refine V.iload_n (i := 1) dX11_cut_2 rfl rfl ?_
  refine V.iload_n (i := 2) dX11_cut_3 rfl rfl ?_
  obtain ⟨v1, hv1, hf⟩ := fbind hf
  refine V.callVn (pl := [0, 1, 2, 3, 4]) (σ' := [.inl (6, [.ref 1, .ref 2, .int M_savedMany, .ref 3, .int M_isTaken, .ref 4, .int M_length, .int M_thrown, .int M_spelt, .int M_speltMany, .int M_place, .int M_kind, .int M_one, .int M_two, .int M_three, .int M_begins, .int M_done, .int M_stopBy, .long M_hash]), .inr (406, .inl M_s), .inr (2436, .inl M_saved), .inr (406, .inl M_snapshot), .inr (60, .inl M_text)]) (st2 := [.int v1, .ref 0]) (cl2 := 0) (sl2 := 0) (ct_X11_isName (a1 := a1) (a2 := a2) (M_savedMany := M_savedMany) (M_isTaken := M_isTaken) (M_length := M_length) (M_thrown := M_thrown) (M_spelt := M_spelt) (M_speltMany := M_speltMany) (M_place := M_place) (M_kind := M_kind) (M_one := M_one) (M_two := M_two) (M_three := M_three) (M_begins := M_begins) (M_done := M_done) (M_stopBy := M_stopBy) (M_hash := M_hash) (M_s := M_s) (M_saved := M_saved) (M_snapshot := M_snapshot) (M_text := M_text) hv1) dX11_cut_4 w1204 ⟨w1206, w24⟩ cal_X11_isName rfl ⟨⟨Nat.le_of_ble_eq_true rfl, Nat.le_of_ble_eq_true rfl⟩, Nat.le_of_ble_eq_true rfl, Nat.le_of_ble_eq_true rfl⟩ (Nat.le_of_ble_eq_true rfl) (Or.inl ⟨_, _, _, _, rfl, rfl⟩) rfl ⟨rfl, ⟨by decide, by decide⟩, rfl, (fr_cons (Or.inl (Nat.le_of_ble_eq_true rfl)) (fr_cons (Or.inl (Nat.le_of_ble_eq_true rfl)) (fr_cons (Or.inl (Nat.le_of_ble_eq_true rfl)) (fr_cons (Or.inl (Nat.le_of_ble_eq_true rfl)) (fr_nil))))), rfl⟩ fr_i rfl rfl rfl rfl ?_
  refine V.if_eq (tgt := 14) dX11_cut_7 (by decide) (fun h => ?_) (fun h => ?_)
  · have hf := fif_t h hf
    refine V.iconst (v := 1) dX11_cut_14 rfl ?_
    obtain ⟨v2, hv2, hf⟩ := fbind hf
    refine V.callVn (pl := [0, 1, 2, 3, 4]) (σ' := [.inl (6, [.ref 1, .ref 2, .int M_savedMany, .ref 3, .int M_isTaken, .ref 4, .int M_length, .int v2.2, .int M_spelt, .int M_speltMany, .int M_place, .int M_kind, .int M_one, .int M_two, .int M_three, .int M_begins, .int M_done, .int M_stopBy, .long M_hash]), .inr (406, .inl M_s), .inr (2436, .inl M_saved), .inr (406, .inl M_snapshot), .inr (60, .inl M_text)]) (st2 := [.int v2.1]) (cl2 := 0) (sl2 := 0) (ct_X11_holds (a1 := 1) (M_savedMany := M_savedMany) (M_isTaken := M_isTaken) (M_length := M_length) (M_thrown := M_thrown) (M_spelt := M_spelt) (M_speltMany := M_speltMany) (M_place := M_place) (M_kind := M_kind) (M_one := M_one) (M_two := M_two) (M_three := M_three) (M_begins := M_begins) (M_done := M_done) (M_stopBy := M_stopBy) (M_hash := M_hash) (M_s := M_s) (M_saved := M_saved) (M_snapshot := M_snapshot) (M_text := M_text) hv2) dX11_cut_15 w1181 ⟨w1183, w20⟩ cal_X11_holds rfl ⟨⟨Nat.le_of_ble_eq_true rfl, Nat.le_of_ble_eq_true rfl⟩, Nat.le_of_ble_eq_true rfl, Nat.le_of_ble_eq_true rfl⟩ (Nat.le_of_ble_eq_true rfl) (Or.inl ⟨_, _, _, _, rfl, rfl⟩) rfl ⟨rfl, ⟨by decide, by decide⟩, rfl, (fr_cons (Or.inl (Nat.le_of_ble_eq_true rfl)) (fr_cons (Or.inl (Nat.le_of_ble_eq_true rfl)) (fr_cons (Or.inl (Nat.le_of_ble_eq_true rfl)) (fr_cons (Or.inl (Nat.le_of_ble_eq_true rfl)) (fr_nil))))), rfl⟩ fr_i rfl rfl rfl rfl ?_
    refine V.if_ne (tgt := 23) dX11_cut_18 (by decide) (fun h => ?_) (fun h => ?_)
    · have hf := fif_f h hf
      refine V.aload_n (i := 0) dX11_cut_23 rfl rfl ?_
      obtain ⟨v3, hv3, hf⟩ := fbind hf
      refine V.callVn (pl := [0, 1, 2, 3, 4]) (σ' := [.inl (6, [.ref 1, .ref 2, .int v3.1, .ref 3, .int M_isTaken, .ref 4, .int M_length, .int v2.2, .int M_spelt, .int M_speltMany, .int M_place, .int M_kind, .int M_one, .int M_two, .int M_three, .int M_begins, .int M_done, .int M_stopBy, .long M_hash]), .inr (406, .inl M_s), .inr (2436, .inl v3.2), .inr (406, .inl M_snapshot), .inr (60, .inl M_text)]) (st2 := []) (cl2 := 0) (sl2 := 0) (ct_X11_save (M_savedMany := M_savedMany) (M_isTaken := M_isTaken) (M_length := M_length) (M_thrown := v2.2) (M_spelt := M_spelt) (M_speltMany := M_speltMany) (M_place := M_place) (M_kind := M_kind) (M_one := M_one) (M_two := M_two) (M_three := M_three) (M_begins := M_begins) (M_done := M_done) (M_stopBy := M_stopBy) (M_hash := M_hash) (M_s := M_s) (M_saved := M_saved) (M_snapshot := M_snapshot) (M_text := M_text) hv3) dX11_cut_24 w1185 ⟨w1187, w21⟩ cal_X11_save rfl ⟨⟨Nat.le_of_ble_eq_true rfl, Nat.le_of_ble_eq_true rfl⟩, Nat.le_of_ble_eq_true rfl, Nat.le_of_ble_eq_true rfl⟩ (Nat.le_of_ble_eq_true rfl) (Or.inl ⟨_, _, _, _, rfl, rfl⟩) rfl ⟨rfl, ⟨by decide, by decide⟩, rfl, (fr_cons (Or.inl (Nat.le_of_ble_eq_true rfl)) (fr_cons (Or.inl (Nat.le_of_ble_eq_true rfl)) (fr_cons (Or.inl (Nat.le_of_ble_eq_true rfl)) (fr_cons (Or.inl (Nat.le_of_ble_eq_true rfl)) (fr_nil))))), rfl⟩ fr_v rfl rfl rfl rfl ?_
      refine V.aload_n (i := 0) dX11_cut_27 rfl rfl ?_
      refine V.iload_n (i := 1) dX11_cut_28 rfl rfl ?_
      refine V.iload_n (i := 2) dX11_cut_29 rfl rfl ?_
      obtain ⟨v4, hv4, hf⟩ := fbind hf
      refine V.callVn (pl := [0, 1, 2, 3, 4]) (σ' := [.inl (6, [.ref 1, .ref 2, .int v3.1, .ref 3, .int M_isTaken, .ref 4, .int M_length, .int v2.2, .int M_spelt, .int M_speltMany, .int M_place, .int M_kind, .int M_one, .int M_two, .int M_three, .int M_begins, .int M_done, .int M_stopBy, .long M_hash]), .inr (406, .inl v4.2), .inr (2436, .inl v3.2), .inr (406, .inl M_snapshot), .inr (60, .inl M_text)]) (st2 := [.int v4.1]) (cl2 := 0) (sl2 := 0) (ct_X11_takeOff (a1 := a1) (a2 := a2) (M_savedMany := v3.1) (M_isTaken := M_isTaken) (M_length := M_length) (M_thrown := v2.2) (M_spelt := M_spelt) (M_speltMany := M_speltMany) (M_place := M_place) (M_kind := M_kind) (M_one := M_one) (M_two := M_two) (M_three := M_three) (M_begins := M_begins) (M_done := M_done) (M_stopBy := M_stopBy) (M_hash := M_hash) (M_s := M_s) (M_saved := v3.2) (M_snapshot := M_snapshot) (M_text := M_text) hv4) dX11_cut_30 w1208 ⟨w1210, w25⟩ cal_X11_takeOff rfl ⟨⟨Nat.le_of_ble_eq_true rfl, Nat.le_of_ble_eq_true rfl⟩, Nat.le_of_ble_eq_true rfl, Nat.le_of_ble_eq_true rfl⟩ (Nat.le_of_ble_eq_true rfl) (Or.inl ⟨_, _, _, _, rfl, rfl⟩) rfl ⟨rfl, ⟨by decide, by decide⟩, rfl, (fr_cons (Or.inl (Nat.le_of_ble_eq_true rfl)) (fr_cons (Or.inl (Nat.le_of_ble_eq_true rfl)) (fr_cons (Or.inl (Nat.le_of_ble_eq_true rfl)) (fr_cons (Or.inl (Nat.le_of_ble_eq_true rfl)) (fr_nil))))), rfl⟩ fr_i rfl rfl rfl rfl ?_
      obtain rfl := Option.some.inj hf
      exact V.iret dX11_cut_33 rfl (Nat.le_of_ble_eq_true rfl) (Nat.le_of_ble_eq_true rfl) rfl
    · have hf := fif_t h hf
      refine V.iconst (v := 0) dX11_cut_21 rfl ?_
      obtain rfl := Option.some.inj hf
      exact V.iret dX11_cut_22 rfl (Nat.le_of_ble_eq_true rfl) (Nat.le_of_ble_eq_true rfl) rfl
  · have hf := fif_f h hf
    refine V.iconst (v := 0) dX11_cut_10 rfl ?_
    refine V.goto (tgt := 15) dX11_cut_11 (by decide) ?_
    obtain ⟨v5, hv5, hf⟩ := fbind hf
    refine V.callVn (pl := [0, 1, 2, 3, 4]) (σ' := [.inl (6, [.ref 1, .ref 2, .int M_savedMany, .ref 3, .int M_isTaken, .ref 4, .int M_length, .int v5.2, .int M_spelt, .int M_speltMany, .int M_place, .int M_kind, .int M_one, .int M_two, .int M_three, .int M_begins, .int M_done, .int M_stopBy, .long M_hash]), .inr (406, .inl M_s), .inr (2436, .inl M_saved), .inr (406, .inl M_snapshot), .inr (60, .inl M_text)]) (st2 := [.int v5.1]) (cl2 := 0) (sl2 := 0) (ct_X11_holds (a1 := 0) (M_savedMany := M_savedMany) (M_isTaken := M_isTaken) (M_length := M_length) (M_thrown := M_thrown) (M_spelt := M_spelt) (M_speltMany := M_speltMany) (M_place := M_place) (M_kind := M_kind) (M_one := M_one) (M_two := M_two) (M_three := M_three) (M_begins := M_begins) (M_done := M_done) (M_stopBy := M_stopBy) (M_hash := M_hash) (M_s := M_s) (M_saved := M_saved) (M_snapshot := M_snapshot) (M_text := M_text) hv5) dX11_cut_15 w1181 ⟨w1183, w20⟩ cal_X11_holds rfl ⟨⟨Nat.le_of_ble_eq_true rfl, Nat.le_of_ble_eq_true rfl⟩, Nat.le_of_ble_eq_true rfl, Nat.le_of_ble_eq_true rfl⟩ (Nat.le_of_ble_eq_true rfl) (Or.inl ⟨_, _, _, _, rfl, rfl⟩) rfl ⟨rfl, ⟨by decide, by decide⟩, rfl, (fr_cons (Or.inl (Nat.le_of_ble_eq_true rfl)) (fr_cons (Or.inl (Nat.le_of_ble_eq_true rfl)) (fr_cons (Or.inl (Nat.le_of_ble_eq_true rfl)) (fr_cons (Or.inl (Nat.le_of_ble_eq_true rfl)) (fr_nil))))), rfl⟩ fr_i rfl rfl rfl rfl ?_
    refine V.if_ne (tgt := 23) dX11_cut_18 (by decide) (fun h => ?_) (fun h => ?_)
    · have hf := fif_f h hf
      refine V.aload_n (i := 0) dX11_cut_23 rfl rfl ?_
      obtain ⟨v6, hv6, hf⟩ := fbind hf
      refine V.callVn (pl := [0, 1, 2, 3, 4]) (σ' := [.inl (6, [.ref 1, .ref 2, .int v6.1, .ref 3, .int M_isTaken, .ref 4, .int M_length, .int v5.2, .int M_spelt, .int M_speltMany, .int M_place, .int M_kind, .int M_one, .int M_two, .int M_three, .int M_begins, .int M_done, .int M_stopBy, .long M_hash]), .inr (406, .inl M_s), .inr (2436, .inl v6.2), .inr (406, .inl M_snapshot), .inr (60, .inl M_text)]) (st2 := []) (cl2 := 0) (sl2 := 0) (ct_X11_save (M_savedMany := M_savedMany) (M_isTaken := M_isTaken) (M_length := M_length) (M_thrown := v5.2) (M_spelt := M_spelt) (M_speltMany := M_speltMany) (M_place := M_place) (M_kind := M_kind) (M_one := M_one) (M_two := M_two) (M_three := M_three) (M_begins := M_begins) (M_done := M_done) (M_stopBy := M_stopBy) (M_hash := M_hash) (M_s := M_s) (M_saved := M_saved) (M_snapshot := M_snapshot) (M_text := M_text) hv6) dX11_cut_24 w1185 ⟨w1187, w21⟩ cal_X11_save rfl ⟨⟨Nat.le_of_ble_eq_true rfl, Nat.le_of_ble_eq_true rfl⟩, Nat.le_of_ble_eq_true rfl, Nat.le_of_ble_eq_true rfl⟩ (Nat.le_of_ble_eq_true rfl) (Or.inl ⟨_, _, _, _, rfl, rfl⟩) rfl ⟨rfl, ⟨by decide, by decide⟩, rfl, (fr_cons (Or.inl (Nat.le_of_ble_eq_true rfl)) (fr_cons (Or.inl (Nat.le_of_ble_eq_true rfl)) (fr_cons (Or.inl (Nat.le_of_ble_eq_true rfl)) (fr_cons (Or.inl (Nat.le_of_ble_eq_true rfl)) (fr_nil))))), rfl⟩ fr_v rfl rfl rfl rfl ?_
      refine V.aload_n (i := 0) dX11_cut_27 rfl rfl ?_
      refine V.iload_n (i := 1) dX11_cut_28 rfl rfl ?_
      refine V.iload_n (i := 2) dX11_cut_29 rfl rfl ?_
      obtain ⟨v7, hv7, hf⟩ := fbind hf
      refine V.callVn (pl := [0, 1, 2, 3, 4]) (σ' := [.inl (6, [.ref 1, .ref 2, .int v6.1, .ref 3, .int M_isTaken, .ref 4, .int M_length, .int v5.2, .int M_spelt, .int M_speltMany, .int M_place, .int M_kind, .int M_one, .int M_two, .int M_three, .int M_begins, .int M_done, .int M_stopBy, .long M_hash]), .inr (406, .inl v7.2), .inr (2436, .inl v6.2), .inr (406, .inl M_snapshot), .inr (60, .inl M_text)]) (st2 := [.int v7.1]) (cl2 := 0) (sl2 := 0) (ct_X11_takeOff (a1 := a1) (a2 := a2) (M_savedMany := v6.1) (M_isTaken := M_isTaken) (M_length := M_length) (M_thrown := v5.2) (M_spelt := M_spelt) (M_speltMany := M_speltMany) (M_place := M_place) (M_kind := M_kind) (M_one := M_one) (M_two := M_two) (M_three := M_three) (M_begins := M_begins) (M_done := M_done) (M_stopBy := M_stopBy) (M_hash := M_hash) (M_s := M_s) (M_saved := v6.2) (M_snapshot := M_snapshot) (M_text := M_text) hv7) dX11_cut_30 w1208 ⟨w1210, w25⟩ cal_X11_takeOff rfl ⟨⟨Nat.le_of_ble_eq_true rfl, Nat.le_of_ble_eq_true rfl⟩, Nat.le_of_ble_eq_true rfl, Nat.le_of_ble_eq_true rfl⟩ (Nat.le_of_ble_eq_true rfl) (Or.inl ⟨_, _, _, _, rfl, rfl⟩) rfl ⟨rfl, ⟨by decide, by decide⟩, rfl, (fr_cons (Or.inl (Nat.le_of_ble_eq_true rfl)) (fr_cons (Or.inl (Nat.le_of_ble_eq_true rfl)) (fr_cons (Or.inl (Nat.le_of_ble_eq_true rfl)) (fr_cons (Or.inl (Nat.le_of_ble_eq_true rfl)) (fr_nil))))), rfl⟩ fr_i rfl rfl rfl rfl ?_
      obtain rfl := Option.some.inj hf
      exact V.iret dX11_cut_33 rfl (Nat.le_of_ble_eq_true rfl) (Nat.le_of_ble_eq_true rfl) rfl
    · have hf := fif_t h hf
      refine V.iconst (v := 0) dX11_cut_21 rfl ?_
      obtain rfl := Option.some.inj hf
      exact V.iret dX11_cut_22 rfl (Nat.le_of_ble_eq_true rfl) (Nat.le_of_ble_eq_true rfl) rfl
def k_X11_fast : fK := (yX11_fast, cX11_fast, 3, (some .int), [], (7, 153), (0, 0), (0, 0))
theorem cal_X11_fast : fCal k_X11_fast 2 := ⟨⟨wc1215, w73⟩, ⟨by decide +kernel, by decide +kernel⟩, by decide +kernel, by decide +kernel⟩
def s_X11_fast (a1 : Int32) (a2 : Int32) (M_savedMany : Int32) (M_thrown : Int32) (M_s : Nat → Int32) (M_saved : Nat → Int32) : Option (Int32 × (Int32) × (Int32) × (Nat → Int32) × (Nat → Int32)) := (s_X11_isName a1 a2 M_s).bind fun v1 => if (v1 = 0 : Prop) then ((s_X11_holds 1 M_thrown).bind fun v9 => if (v9.1 = 0 : Prop) then (some (0, M_savedMany, v9.2, M_s, M_saved)) else ((s_X11_save M_savedMany M_s M_saved).bind fun v10 => (s_X11_doFast a1 a2 M_s).bind fun v11 => some (v11.1, v10.1, v9.2, v11.2, v10.2))) else ((s_X11_canFasten a1 a2 M_s).bind fun v2 => if (v2 = 0 : Prop) then ((s_X11_holds 2 M_thrown).bind fun v3 => if (v3.1 = 0 : Prop) then (some (0, M_savedMany, v3.2, M_s, M_saved)) else ((s_X11_save M_savedMany M_s M_saved).bind fun v4 => (s_X11_doFast a1 a2 M_s).bind fun v5 => some (v5.1, v4.1, v3.2, v5.2, v4.2))) else ((s_X11_holds 0 M_thrown).bind fun v6 => if (v6.1 = 0 : Prop) then (some (0, M_savedMany, v6.2, M_s, M_saved)) else ((s_X11_save M_savedMany M_s M_saved).bind fun v7 => (s_X11_doFast a1 a2 M_s).bind fun v8 => some (v8.1, v7.1, v6.2, v8.2, v7.2))))
set_option maxHeartbeats 4000000 in
set_option maxRecDepth 100000 in
theorem ct_X11_fast {a1 : Int32} {a2 : Int32} {M_savedMany : Int32} {M_isTaken : Int32} {M_length : Int32} {M_thrown : Int32} {M_spelt : Int32} {M_speltMany : Int32} {M_place : Int32} {M_kind : Int32} {M_one : Int32} {M_two : Int32} {M_three : Int32} {M_begins : Int32} {M_done : Int32} {M_stopBy : Int32} {M_hash : Int64} {M_s : Nat → Int32} {M_saved : Nat → Int32} {M_snapshot : Nat → Int32} {M_text : Nat → Int32} {res : Int32 × (Int32) × (Int32) × (Nat → Int32) × (Nat → Int32)} (hf : s_X11_fast a1 a2 M_savedMany M_thrown M_s M_saved = some res) : Ct k_X11_fast [.ref 0, .int a1, .int a2] [.inl (6, [.ref 1, .ref 2, .int M_savedMany, .ref 3, .int M_isTaken, .ref 4, .int M_length, .int M_thrown, .int M_spelt, .int M_speltMany, .int M_place, .int M_kind, .int M_one, .int M_two, .int M_three, .int M_begins, .int M_done, .int M_stopBy, .long M_hash]), .inr (406, .inl M_s), .inr (2436, .inl M_saved), .inr (406, .inl M_snapshot), .inr (60, .inl M_text)] (.inl (some (.int res.1))) [.inl (6, [.ref 1, .ref 2, .int res.2.1, .ref 3, .int M_isTaken, .ref 4, .int M_length, .int res.2.2.1, .int M_spelt, .int M_speltMany, .int M_place, .int M_kind, .int M_one, .int M_two, .int M_three, .int M_begins, .int M_done, .int M_stopBy, .long M_hash]), .inr (406, .inl res.2.2.2.1), .inr (2436, .inl res.2.2.2.2), .inr (406, .inl M_snapshot), .inr (60, .inl M_text)] := by
  unfold s_X11_fast at hf
  refine Ct.of (L := [some (.ref 0), some (.int a1), some (.int a2)]) cal_X11_fast (fent_pad (j := 0) rfl) (Nat.le_of_ble_eq_true rfl) ?_
  refine V.aload_n (i := 0) dX11_fast_0 rfl rfl ?_
  refine V.aload_n (i := 0) dX11_fast_1 rfl rfl ?_
  refine V.iload_n (i := 1) dX11_fast_2 rfl rfl ?_
  refine V.iload_n (i := 2) dX11_fast_3 rfl rfl ?_
  obtain ⟨v1, hv1, hf⟩ := fbind hf
  refine V.callVn (pl := [0, 1, 2, 3, 4]) (σ' := [.inl (6, [.ref 1, .ref 2, .int M_savedMany, .ref 3, .int M_isTaken, .ref 4, .int M_length, .int M_thrown, .int M_spelt, .int M_speltMany, .int M_place, .int M_kind, .int M_one, .int M_two, .int M_three, .int M_begins, .int M_done, .int M_stopBy, .long M_hash]), .inr (406, .inl M_s), .inr (2436, .inl M_saved), .inr (406, .inl M_snapshot), .inr (60, .inl M_text)]) (st2 := [.int v1, .ref 0]) (cl2 := 0) (sl2 := 0) (ct_X11_isName (a1 := a1) (a2 := a2) (M_savedMany := M_savedMany) (M_isTaken := M_isTaken) (M_length := M_length) (M_thrown := M_thrown) (M_spelt := M_spelt) (M_speltMany := M_speltMany) (M_place := M_place) (M_kind := M_kind) (M_one := M_one) (M_two := M_two) (M_three := M_three) (M_begins := M_begins) (M_done := M_done) (M_stopBy := M_stopBy) (M_hash := M_hash) (M_s := M_s) (M_saved := M_saved) (M_snapshot := M_snapshot) (M_text := M_text) hv1) dX11_fast_4 w1204 ⟨w1206, w24⟩ cal_X11_isName rfl ⟨⟨Nat.le_of_ble_eq_true rfl, Nat.le_of_ble_eq_true rfl⟩, Nat.le_of_ble_eq_true rfl, Nat.le_of_ble_eq_true rfl⟩ (Nat.le_of_ble_eq_true rfl) (Or.inl ⟨_, _, _, _, rfl, rfl⟩) rfl ⟨rfl, ⟨by decide, by decide⟩, rfl, (fr_cons (Or.inl (Nat.le_of_ble_eq_true rfl)) (fr_cons (Or.inl (Nat.le_of_ble_eq_true rfl)) (fr_cons (Or.inl (Nat.le_of_ble_eq_true rfl)) (fr_cons (Or.inl (Nat.le_of_ble_eq_true rfl)) (fr_nil))))), rfl⟩ fr_i rfl rfl rfl rfl ?_
  refine V.if_ne (tgt := 14) dX11_fast_7 (by decide) (fun h => ?_) (fun h => ?_)
  · have hf := fif_f h hf
    refine V.aload_n (i := 0) dX11_fast_14 rfl rfl ?_
    refine V.iload_n (i := 1) dX11_fast_15 rfl rfl ?_
    refine V.iload_n (i := 2) dX11_fast_16 rfl rfl ?_
    obtain ⟨v2, hv2, hf⟩ := fbind hf
    refine V.callVn (pl := [0, 1, 2, 3, 4]) (σ' := [.inl (6, [.ref 1, .ref 2, .int M_savedMany, .ref 3, .int M_isTaken, .ref 4, .int M_length, .int M_thrown, .int M_spelt, .int M_speltMany, .int M_place, .int M_kind, .int M_one, .int M_two, .int M_three, .int M_begins, .int M_done, .int M_stopBy, .long M_hash]), .inr (406, .inl M_s), .inr (2436, .inl M_saved), .inr (406, .inl M_snapshot), .inr (60, .inl M_text)]) (st2 := [.int v2, .ref 0]) (cl2 := 0) (sl2 := 0) (ct_X11_canFasten (a1 := a1) (a2 := a2) (M_savedMany := M_savedMany) (M_isTaken := M_isTaken) (M_length := M_length) (M_thrown := M_thrown) (M_spelt := M_spelt) (M_speltMany := M_speltMany) (M_place := M_place) (M_kind := M_kind) (M_one := M_one) (M_two := M_two) (M_three := M_three) (M_begins := M_begins) (M_done := M_done) (M_stopBy := M_stopBy) (M_hash := M_hash) (M_s := M_s) (M_saved := M_saved) (M_snapshot := M_snapshot) (M_text := M_text) hv2) dX11_fast_17 w1216 ⟨w1218, w26⟩ cal_X11_canFasten rfl ⟨⟨Nat.le_of_ble_eq_true rfl, Nat.le_of_ble_eq_true rfl⟩, Nat.le_of_ble_eq_true rfl, Nat.le_of_ble_eq_true rfl⟩ (Nat.le_of_ble_eq_true rfl) (Or.inl ⟨_, _, _, _, rfl, rfl⟩) rfl ⟨rfl, ⟨by decide, by decide⟩, rfl, (fr_cons (Or.inl (Nat.le_of_ble_eq_true rfl)) (fr_cons (Or.inl (Nat.le_of_ble_eq_true rfl)) (fr_cons (Or.inl (Nat.le_of_ble_eq_true rfl)) (fr_cons (Or.inl (Nat.le_of_ble_eq_true rfl)) (fr_nil))))), rfl⟩ fr_i rfl rfl rfl rfl ?_
    refine V.if_eq (tgt := 27) dX11_fast_20 (by decide) (fun h => ?_) (fun h => ?_)
    · have hf := fif_t h hf
      refine V.iconst (v := 2) dX11_fast_27 rfl ?_
      obtain ⟨v3, hv3, hf⟩ := fbind hf
      refine V.callVn (pl := [0, 1, 2, 3, 4]) (σ' := [.inl (6, [.ref 1, .ref 2, .int M_savedMany, .ref 3, .int M_isTaken, .ref 4, .int M_length, .int v3.2, .int M_spelt, .int M_speltMany, .int M_place, .int M_kind, .int M_one, .int M_two, .int M_three, .int M_begins, .int M_done, .int M_stopBy, .long M_hash]), .inr (406, .inl M_s), .inr (2436, .inl M_saved), .inr (406, .inl M_snapshot), .inr (60, .inl M_text)]) (st2 := [.int v3.1]) (cl2 := 0) (sl2 := 0) (ct_X11_holds (a1 := 2) (M_savedMany := M_savedMany) (M_isTaken := M_isTaken) (M_length := M_length) (M_thrown := M_thrown) (M_spelt := M_spelt) (M_speltMany := M_speltMany) (M_place := M_place) (M_kind := M_kind) (M_one := M_one) (M_two := M_two) (M_three := M_three) (M_begins := M_begins) (M_done := M_done) (M_stopBy := M_stopBy) (M_hash := M_hash) (M_s := M_s) (M_saved := M_saved) (M_snapshot := M_snapshot) (M_text := M_text) hv3) dX11_fast_28 w1181 ⟨w1183, w20⟩ cal_X11_holds rfl ⟨⟨Nat.le_of_ble_eq_true rfl, Nat.le_of_ble_eq_true rfl⟩, Nat.le_of_ble_eq_true rfl, Nat.le_of_ble_eq_true rfl⟩ (Nat.le_of_ble_eq_true rfl) (Or.inl ⟨_, _, _, _, rfl, rfl⟩) rfl ⟨rfl, ⟨by decide, by decide⟩, rfl, (fr_cons (Or.inl (Nat.le_of_ble_eq_true rfl)) (fr_cons (Or.inl (Nat.le_of_ble_eq_true rfl)) (fr_cons (Or.inl (Nat.le_of_ble_eq_true rfl)) (fr_cons (Or.inl (Nat.le_of_ble_eq_true rfl)) (fr_nil))))), rfl⟩ fr_i rfl rfl rfl rfl ?_
      refine V.if_ne (tgt := 36) dX11_fast_31 (by decide) (fun h => ?_) (fun h => ?_)
      · have hf := fif_f h hf
        refine V.aload_n (i := 0) dX11_fast_36 rfl rfl ?_
        obtain ⟨v4, hv4, hf⟩ := fbind hf
        refine V.callVn (pl := [0, 1, 2, 3, 4]) (σ' := [.inl (6, [.ref 1, .ref 2, .int v4.1, .ref 3, .int M_isTaken, .ref 4, .int M_length, .int v3.2, .int M_spelt, .int M_speltMany, .int M_place, .int M_kind, .int M_one, .int M_two, .int M_three, .int M_begins, .int M_done, .int M_stopBy, .long M_hash]), .inr (406, .inl M_s), .inr (2436, .inl v4.2), .inr (406, .inl M_snapshot), .inr (60, .inl M_text)]) (st2 := []) (cl2 := 0) (sl2 := 0) (ct_X11_save (M_savedMany := M_savedMany) (M_isTaken := M_isTaken) (M_length := M_length) (M_thrown := v3.2) (M_spelt := M_spelt) (M_speltMany := M_speltMany) (M_place := M_place) (M_kind := M_kind) (M_one := M_one) (M_two := M_two) (M_three := M_three) (M_begins := M_begins) (M_done := M_done) (M_stopBy := M_stopBy) (M_hash := M_hash) (M_s := M_s) (M_saved := M_saved) (M_snapshot := M_snapshot) (M_text := M_text) hv4) dX11_fast_37 w1185 ⟨w1187, w21⟩ cal_X11_save rfl ⟨⟨Nat.le_of_ble_eq_true rfl, Nat.le_of_ble_eq_true rfl⟩, Nat.le_of_ble_eq_true rfl, Nat.le_of_ble_eq_true rfl⟩ (Nat.le_of_ble_eq_true rfl) (Or.inl ⟨_, _, _, _, rfl, rfl⟩) rfl ⟨rfl, ⟨by decide, by decide⟩, rfl, (fr_cons (Or.inl (Nat.le_of_ble_eq_true rfl)) (fr_cons (Or.inl (Nat.le_of_ble_eq_true rfl)) (fr_cons (Or.inl (Nat.le_of_ble_eq_true rfl)) (fr_cons (Or.inl (Nat.le_of_ble_eq_true rfl)) (fr_nil))))), rfl⟩ fr_v rfl rfl rfl rfl ?_
        refine V.aload_n (i := 0) dX11_fast_40 rfl rfl ?_
        refine V.iload_n (i := 1) dX11_fast_41 rfl rfl ?_
        refine V.iload_n (i := 2) dX11_fast_42 rfl rfl ?_
        obtain ⟨v5, hv5, hf⟩ := fbind hf
        refine V.callVn (pl := [0, 1, 2, 3, 4]) (σ' := [.inl (6, [.ref 1, .ref 2, .int v4.1, .ref 3, .int M_isTaken, .ref 4, .int M_length, .int v3.2, .int M_spelt, .int M_speltMany, .int M_place, .int M_kind, .int M_one, .int M_two, .int M_three, .int M_begins, .int M_done, .int M_stopBy, .long M_hash]), .inr (406, .inl v5.2), .inr (2436, .inl v4.2), .inr (406, .inl M_snapshot), .inr (60, .inl M_text)]) (st2 := [.int v5.1]) (cl2 := 0) (sl2 := 0) (ct_X11_doFast (a1 := a1) (a2 := a2) (M_savedMany := v4.1) (M_isTaken := M_isTaken) (M_length := M_length) (M_thrown := v3.2) (M_spelt := M_spelt) (M_speltMany := M_speltMany) (M_place := M_place) (M_kind := M_kind) (M_one := M_one) (M_two := M_two) (M_three := M_three) (M_begins := M_begins) (M_done := M_done) (M_stopBy := M_stopBy) (M_hash := M_hash) (M_s := M_s) (M_saved := v4.2) (M_snapshot := M_snapshot) (M_text := M_text) hv5) dX11_fast_43 w1220 ⟨w1222, w27⟩ cal_X11_doFast rfl ⟨⟨Nat.le_of_ble_eq_true rfl, Nat.le_of_ble_eq_true rfl⟩, Nat.le_of_ble_eq_true rfl, Nat.le_of_ble_eq_true rfl⟩ (Nat.le_of_ble_eq_true rfl) (Or.inl ⟨_, _, _, _, rfl, rfl⟩) rfl ⟨rfl, ⟨by decide, by decide⟩, rfl, (fr_cons (Or.inl (Nat.le_of_ble_eq_true rfl)) (fr_cons (Or.inl (Nat.le_of_ble_eq_true rfl)) (fr_cons (Or.inl (Nat.le_of_ble_eq_true rfl)) (fr_cons (Or.inl (Nat.le_of_ble_eq_true rfl)) (fr_nil))))), rfl⟩ fr_i rfl rfl rfl rfl ?_
        obtain rfl := Option.some.inj hf
        exact V.iret dX11_fast_46 rfl (Nat.le_of_ble_eq_true rfl) (Nat.le_of_ble_eq_true rfl) rfl
      · have hf := fif_t h hf
        refine V.iconst (v := 0) dX11_fast_34 rfl ?_
        obtain rfl := Option.some.inj hf
        exact V.iret dX11_fast_35 rfl (Nat.le_of_ble_eq_true rfl) (Nat.le_of_ble_eq_true rfl) rfl
    · have hf := fif_f h hf
      refine V.iconst (v := 0) dX11_fast_23 rfl ?_
      refine V.goto (tgt := 28) dX11_fast_24 (by decide) ?_
      obtain ⟨v6, hv6, hf⟩ := fbind hf
      refine V.callVn (pl := [0, 1, 2, 3, 4]) (σ' := [.inl (6, [.ref 1, .ref 2, .int M_savedMany, .ref 3, .int M_isTaken, .ref 4, .int M_length, .int v6.2, .int M_spelt, .int M_speltMany, .int M_place, .int M_kind, .int M_one, .int M_two, .int M_three, .int M_begins, .int M_done, .int M_stopBy, .long M_hash]), .inr (406, .inl M_s), .inr (2436, .inl M_saved), .inr (406, .inl M_snapshot), .inr (60, .inl M_text)]) (st2 := [.int v6.1]) (cl2 := 0) (sl2 := 0) (ct_X11_holds (a1 := 0) (M_savedMany := M_savedMany) (M_isTaken := M_isTaken) (M_length := M_length) (M_thrown := M_thrown) (M_spelt := M_spelt) (M_speltMany := M_speltMany) (M_place := M_place) (M_kind := M_kind) (M_one := M_one) (M_two := M_two) (M_three := M_three) (M_begins := M_begins) (M_done := M_done) (M_stopBy := M_stopBy) (M_hash := M_hash) (M_s := M_s) (M_saved := M_saved) (M_snapshot := M_snapshot) (M_text := M_text) hv6) dX11_fast_28 w1181 ⟨w1183, w20⟩ cal_X11_holds rfl ⟨⟨Nat.le_of_ble_eq_true rfl, Nat.le_of_ble_eq_true rfl⟩, Nat.le_of_ble_eq_true rfl, Nat.le_of_ble_eq_true rfl⟩ (Nat.le_of_ble_eq_true rfl) (Or.inl ⟨_, _, _, _, rfl, rfl⟩) rfl ⟨rfl, ⟨by decide, by decide⟩, rfl, (fr_cons (Or.inl (Nat.le_of_ble_eq_true rfl)) (fr_cons (Or.inl (Nat.le_of_ble_eq_true rfl)) (fr_cons (Or.inl (Nat.le_of_ble_eq_true rfl)) (fr_cons (Or.inl (Nat.le_of_ble_eq_true rfl)) (fr_nil))))), rfl⟩ fr_i rfl rfl rfl rfl ?_
      refine V.if_ne (tgt := 36) dX11_fast_31 (by decide) (fun h => ?_) (fun h => ?_)
      · have hf := fif_f h hf
        refine V.aload_n (i := 0) dX11_fast_36 rfl rfl ?_
        obtain ⟨v7, hv7, hf⟩ := fbind hf
        refine V.callVn (pl := [0, 1, 2, 3, 4]) (σ' := [.inl (6, [.ref 1, .ref 2, .int v7.1, .ref 3, .int M_isTaken, .ref 4, .int M_length, .int v6.2, .int M_spelt, .int M_speltMany, .int M_place, .int M_kind, .int M_one, .int M_two, .int M_three, .int M_begins, .int M_done, .int M_stopBy, .long M_hash]), .inr (406, .inl M_s), .inr (2436, .inl v7.2), .inr (406, .inl M_snapshot), .inr (60, .inl M_text)]) (st2 := []) (cl2 := 0) (sl2 := 0) (ct_X11_save (M_savedMany := M_savedMany) (M_isTaken := M_isTaken) (M_length := M_length) (M_thrown := v6.2) (M_spelt := M_spelt) (M_speltMany := M_speltMany) (M_place := M_place) (M_kind := M_kind) (M_one := M_one) (M_two := M_two) (M_three := M_three) (M_begins := M_begins) (M_done := M_done) (M_stopBy := M_stopBy) (M_hash := M_hash) (M_s := M_s) (M_saved := M_saved) (M_snapshot := M_snapshot) (M_text := M_text) hv7) dX11_fast_37 w1185 ⟨w1187, w21⟩ cal_X11_save rfl ⟨⟨Nat.le_of_ble_eq_true rfl, Nat.le_of_ble_eq_true rfl⟩, Nat.le_of_ble_eq_true rfl, Nat.le_of_ble_eq_true rfl⟩ (Nat.le_of_ble_eq_true rfl) (Or.inl ⟨_, _, _, _, rfl, rfl⟩) rfl ⟨rfl, ⟨by decide, by decide⟩, rfl, (fr_cons (Or.inl (Nat.le_of_ble_eq_true rfl)) (fr_cons (Or.inl (Nat.le_of_ble_eq_true rfl)) (fr_cons (Or.inl (Nat.le_of_ble_eq_true rfl)) (fr_cons (Or.inl (Nat.le_of_ble_eq_true rfl)) (fr_nil))))), rfl⟩ fr_v rfl rfl rfl rfl ?_
        refine V.aload_n (i := 0) dX11_fast_40 rfl rfl ?_
        refine V.iload_n (i := 1) dX11_fast_41 rfl rfl ?_
        refine V.iload_n (i := 2) dX11_fast_42 rfl rfl ?_
        obtain ⟨v8, hv8, hf⟩ := fbind hf
        refine V.callVn (pl := [0, 1, 2, 3, 4]) (σ' := [.inl (6, [.ref 1, .ref 2, .int v7.1, .ref 3, .int M_isTaken, .ref 4, .int M_length, .int v6.2, .int M_spelt, .int M_speltMany, .int M_place, .int M_kind, .int M_one, .int M_two, .int M_three, .int M_begins, .int M_done, .int M_stopBy, .long M_hash]), .inr (406, .inl v8.2), .inr (2436, .inl v7.2), .inr (406, .inl M_snapshot), .inr (60, .inl M_text)]) (st2 := [.int v8.1]) (cl2 := 0) (sl2 := 0) (ct_X11_doFast (a1 := a1) (a2 := a2) (M_savedMany := v7.1) (M_isTaken := M_isTaken) (M_length := M_length) (M_thrown := v6.2) (M_spelt := M_spelt) (M_speltMany := M_speltMany) (M_place := M_place) (M_kind := M_kind) (M_one := M_one) (M_two := M_two) (M_three := M_three) (M_begins := M_begins) (M_done := M_done) (M_stopBy := M_stopBy) (M_hash := M_hash) (M_s := M_s) (M_saved := v7.2) (M_snapshot := M_snapshot) (M_text := M_text) hv8) dX11_fast_43 w1220 ⟨w1222, w27⟩ cal_X11_doFast rfl ⟨⟨Nat.le_of_ble_eq_true rfl, Nat.le_of_ble_eq_true rfl⟩, Nat.le_of_ble_eq_true rfl, Nat.le_of_ble_eq_true rfl⟩ (Nat.le_of_ble_eq_true rfl) (Or.inl ⟨_, _, _, _, rfl, rfl⟩) rfl ⟨rfl, ⟨by decide, by decide⟩, rfl, (fr_cons (Or.inl (Nat.le_of_ble_eq_true rfl)) (fr_cons (Or.inl (Nat.le_of_ble_eq_true rfl)) (fr_cons (Or.inl (Nat.le_of_ble_eq_true rfl)) (fr_cons (Or.inl (Nat.le_of_ble_eq_true rfl)) (fr_nil))))), rfl⟩ fr_i rfl rfl rfl rfl ?_
        obtain rfl := Option.some.inj hf
        exact V.iret dX11_fast_46 rfl (Nat.le_of_ble_eq_true rfl) (Nat.le_of_ble_eq_true rfl) rfl
      · have hf := fif_t h hf
        refine V.iconst (v := 0) dX11_fast_34 rfl ?_
        obtain rfl := Option.some.inj hf
        exact V.iret dX11_fast_35 rfl (Nat.le_of_ble_eq_true rfl) (Nat.le_of_ble_eq_true rfl) rfl
  · have hf := fif_t h hf
    refine V.iconst (v := 1) dX11_fast_10 rfl ?_
    refine V.goto (tgt := 28) dX11_fast_11 (by decide) ?_
    obtain ⟨v9, hv9, hf⟩ := fbind hf
    refine V.callVn (pl := [0, 1, 2, 3, 4]) (σ' := [.inl (6, [.ref 1, .ref 2, .int M_savedMany, .ref 3, .int M_isTaken, .ref 4, .int M_length, .int v9.2, .int M_spelt, .int M_speltMany, .int M_place, .int M_kind, .int M_one, .int M_two, .int M_three, .int M_begins, .int M_done, .int M_stopBy, .long M_hash]), .inr (406, .inl M_s), .inr (2436, .inl M_saved), .inr (406, .inl M_snapshot), .inr (60, .inl M_text)]) (st2 := [.int v9.1]) (cl2 := 0) (sl2 := 0) (ct_X11_holds (a1 := 1) (M_savedMany := M_savedMany) (M_isTaken := M_isTaken) (M_length := M_length) (M_thrown := M_thrown) (M_spelt := M_spelt) (M_speltMany := M_speltMany) (M_place := M_place) (M_kind := M_kind) (M_one := M_one) (M_two := M_two) (M_three := M_three) (M_begins := M_begins) (M_done := M_done) (M_stopBy := M_stopBy) (M_hash := M_hash) (M_s := M_s) (M_saved := M_saved) (M_snapshot := M_snapshot) (M_text := M_text) hv9) dX11_fast_28 w1181 ⟨w1183, w20⟩ cal_X11_holds rfl ⟨⟨Nat.le_of_ble_eq_true rfl, Nat.le_of_ble_eq_true rfl⟩, Nat.le_of_ble_eq_true rfl, Nat.le_of_ble_eq_true rfl⟩ (Nat.le_of_ble_eq_true rfl) (Or.inl ⟨_, _, _, _, rfl, rfl⟩) rfl ⟨rfl, ⟨by decide, by decide⟩, rfl, (fr_cons (Or.inl (Nat.le_of_ble_eq_true rfl)) (fr_cons (Or.inl (Nat.le_of_ble_eq_true rfl)) (fr_cons (Or.inl (Nat.le_of_ble_eq_true rfl)) (fr_cons (Or.inl (Nat.le_of_ble_eq_true rfl)) (fr_nil))))), rfl⟩ fr_i rfl rfl rfl rfl ?_
    refine V.if_ne (tgt := 36) dX11_fast_31 (by decide) (fun h => ?_) (fun h => ?_)
    · have hf := fif_f h hf
      refine V.aload_n (i := 0) dX11_fast_36 rfl rfl ?_
      obtain ⟨v10, hv10, hf⟩ := fbind hf
      refine V.callVn (pl := [0, 1, 2, 3, 4]) (σ' := [.inl (6, [.ref 1, .ref 2, .int v10.1, .ref 3, .int M_isTaken, .ref 4, .int M_length, .int v9.2, .int M_spelt, .int M_speltMany, .int M_place, .int M_kind, .int M_one, .int M_two, .int M_three, .int M_begins, .int M_done, .int M_stopBy, .long M_hash]), .inr (406, .inl M_s), .inr (2436, .inl v10.2), .inr (406, .inl M_snapshot), .inr (60, .inl M_text)]) (st2 := []) (cl2 := 0) (sl2 := 0) (ct_X11_save (M_savedMany := M_savedMany) (M_isTaken := M_isTaken) (M_length := M_length) (M_thrown := v9.2) (M_spelt := M_spelt) (M_speltMany := M_speltMany) (M_place := M_place) (M_kind := M_kind) (M_one := M_one) (M_two := M_two) (M_three := M_three) (M_begins := M_begins) (M_done := M_done) (M_stopBy := M_stopBy) (M_hash := M_hash) (M_s := M_s) (M_saved := M_saved) (M_snapshot := M_snapshot) (M_text := M_text) hv10) dX11_fast_37 w1185 ⟨w1187, w21⟩ cal_X11_save rfl ⟨⟨Nat.le_of_ble_eq_true rfl, Nat.le_of_ble_eq_true rfl⟩, Nat.le_of_ble_eq_true rfl, Nat.le_of_ble_eq_true rfl⟩ (Nat.le_of_ble_eq_true rfl) (Or.inl ⟨_, _, _, _, rfl, rfl⟩) rfl ⟨rfl, ⟨by decide, by decide⟩, rfl, (fr_cons (Or.inl (Nat.le_of_ble_eq_true rfl)) (fr_cons (Or.inl (Nat.le_of_ble_eq_true rfl)) (fr_cons (Or.inl (Nat.le_of_ble_eq_true rfl)) (fr_cons (Or.inl (Nat.le_of_ble_eq_true rfl)) (fr_nil))))), rfl⟩ fr_v rfl rfl rfl rfl ?_
      refine V.aload_n (i := 0) dX11_fast_40 rfl rfl ?_
      refine V.iload_n (i := 1) dX11_fast_41 rfl rfl ?_
      refine V.iload_n (i := 2) dX11_fast_42 rfl rfl ?_
      obtain ⟨v11, hv11, hf⟩ := fbind hf
      refine V.callVn (pl := [0, 1, 2, 3, 4]) (σ' := [.inl (6, [.ref 1, .ref 2, .int v10.1, .ref 3, .int M_isTaken, .ref 4, .int M_length, .int v9.2, .int M_spelt, .int M_speltMany, .int M_place, .int M_kind, .int M_one, .int M_two, .int M_three, .int M_begins, .int M_done, .int M_stopBy, .long M_hash]), .inr (406, .inl v11.2), .inr (2436, .inl v10.2), .inr (406, .inl M_snapshot), .inr (60, .inl M_text)]) (st2 := [.int v11.1]) (cl2 := 0) (sl2 := 0) (ct_X11_doFast (a1 := a1) (a2 := a2) (M_savedMany := v10.1) (M_isTaken := M_isTaken) (M_length := M_length) (M_thrown := v9.2) (M_spelt := M_spelt) (M_speltMany := M_speltMany) (M_place := M_place) (M_kind := M_kind) (M_one := M_one) (M_two := M_two) (M_three := M_three) (M_begins := M_begins) (M_done := M_done) (M_stopBy := M_stopBy) (M_hash := M_hash) (M_s := M_s) (M_saved := v10.2) (M_snapshot := M_snapshot) (M_text := M_text) hv11) dX11_fast_43 w1220 ⟨w1222, w27⟩ cal_X11_doFast rfl ⟨⟨Nat.le_of_ble_eq_true rfl, Nat.le_of_ble_eq_true rfl⟩, Nat.le_of_ble_eq_true rfl, Nat.le_of_ble_eq_true rfl⟩ (Nat.le_of_ble_eq_true rfl) (Or.inl ⟨_, _, _, _, rfl, rfl⟩) rfl ⟨rfl, ⟨by decide, by decide⟩, rfl, (fr_cons (Or.inl (Nat.le_of_ble_eq_true rfl)) (fr_cons (Or.inl (Nat.le_of_ble_eq_true rfl)) (fr_cons (Or.inl (Nat.le_of_ble_eq_true rfl)) (fr_cons (Or.inl (Nat.le_of_ble_eq_true rfl)) (fr_nil))))), rfl⟩ fr_i rfl rfl rfl rfl ?_
      obtain rfl := Option.some.inj hf
      exact V.iret dX11_fast_46 rfl (Nat.le_of_ble_eq_true rfl) (Nat.le_of_ble_eq_true rfl) rfl
    · have hf := fif_t h hf
      refine V.iconst (v := 0) dX11_fast_34 rfl ?_
      obtain rfl := Option.some.inj hf
      exact V.iret dX11_fast_35 rfl (Nat.le_of_ble_eq_true rfl) (Nat.le_of_ble_eq_true rfl) rfl
def k_X11_give : fK := (yX11_give, cX11_give, 4, (some .int), [], (8, 176), (0, 0), (0, 0))
theorem cal_X11_give : fCal k_X11_give 3 := ⟨⟨wc1231, w73⟩, ⟨by decide +kernel, by decide +kernel⟩, by decide +kernel, by decide +kernel⟩
def s_X11_give (a1 : Int32) (a2 : Int32) (a3 : Int32) (M_savedMany : Int32) (M_thrown : Int32) (M_s : Nat → Int32) (M_saved : Nat → Int32) : Option (Int32 × (Int32) × (Int32) × (Nat → Int32) × (Nat → Int32)) := (s_X11_isName a1 a2 M_s).bind fun v1 => if (v1 = 0 : Prop) then ((s_X11_holds 1 M_thrown).bind fun v2 => if (v2.1 = 0 : Prop) then (some (0, M_savedMany, v2.2, M_s, M_saved)) else ((s_X11_save M_savedMany M_s M_saved).bind fun v3 => (s_X11_doGive a1 a2 a3 M_s).bind fun v4 => some (v4.1, v3.1, v2.2, v4.2, v3.2))) else ((s_X11_isFisher a3).bind fun v5 => if (v5 = 0 : Prop) then ((s_X11_holds 1 M_thrown).bind fun v13 => if (v13.1 = 0 : Prop) then (some (0, M_savedMany, v13.2, M_s, M_saved)) else ((s_X11_save M_savedMany M_s M_saved).bind fun v14 => (s_X11_doGive a1 a2 a3 M_s).bind fun v15 => some (v15.1, v14.1, v13.2, v15.2, v14.2))) else ((s_X11_gift a1 a2 a3 M_s).bind fun v6 => if (v6 ≤ 0 : Prop) then ((s_X11_holds 0 M_thrown).bind fun v7 => if (v7.1 = 0 : Prop) then (some (0, M_savedMany, v7.2, M_s, M_saved)) else ((s_X11_save M_savedMany M_s M_saved).bind fun v8 => (s_X11_doGive a1 a2 a3 M_s).bind fun v9 => some (v9.1, v8.1, v7.2, v9.2, v8.2))) else ((s_X11_holds 2 M_thrown).bind fun v10 => if (v10.1 = 0 : Prop) then (some (0, M_savedMany, v10.2, M_s, M_saved)) else ((s_X11_save M_savedMany M_s M_saved).bind fun v11 => (s_X11_doGive a1 a2 a3 M_s).bind fun v12 => some (v12.1, v11.1, v10.2, v12.2, v11.2)))))
set_option maxHeartbeats 4000000 in
set_option maxRecDepth 100000 in
theorem ct_X11_give {a1 : Int32} {a2 : Int32} {a3 : Int32} {M_savedMany : Int32} {M_isTaken : Int32} {M_length : Int32} {M_thrown : Int32} {M_spelt : Int32} {M_speltMany : Int32} {M_place : Int32} {M_kind : Int32} {M_one : Int32} {M_two : Int32} {M_three : Int32} {M_begins : Int32} {M_done : Int32} {M_stopBy : Int32} {M_hash : Int64} {M_s : Nat → Int32} {M_saved : Nat → Int32} {M_snapshot : Nat → Int32} {M_text : Nat → Int32} {res : Int32 × (Int32) × (Int32) × (Nat → Int32) × (Nat → Int32)} (hf : s_X11_give a1 a2 a3 M_savedMany M_thrown M_s M_saved = some res) : Ct k_X11_give [.ref 0, .int a1, .int a2, .int a3] [.inl (6, [.ref 1, .ref 2, .int M_savedMany, .ref 3, .int M_isTaken, .ref 4, .int M_length, .int M_thrown, .int M_spelt, .int M_speltMany, .int M_place, .int M_kind, .int M_one, .int M_two, .int M_three, .int M_begins, .int M_done, .int M_stopBy, .long M_hash]), .inr (406, .inl M_s), .inr (2436, .inl M_saved), .inr (406, .inl M_snapshot), .inr (60, .inl M_text)] (.inl (some (.int res.1))) [.inl (6, [.ref 1, .ref 2, .int res.2.1, .ref 3, .int M_isTaken, .ref 4, .int M_length, .int res.2.2.1, .int M_spelt, .int M_speltMany, .int M_place, .int M_kind, .int M_one, .int M_two, .int M_three, .int M_begins, .int M_done, .int M_stopBy, .long M_hash]), .inr (406, .inl res.2.2.2.1), .inr (2436, .inl res.2.2.2.2), .inr (406, .inl M_snapshot), .inr (60, .inl M_text)] := by
  unfold s_X11_give at hf
  refine Ct.of (L := [some (.ref 0), some (.int a1), some (.int a2), some (.int a3)]) cal_X11_give (fent_pad (j := 0) rfl) (Nat.le_of_ble_eq_true rfl) ?_
  refine V.aload_n (i := 0) dX11_give_0 rfl rfl ?_
  refine V.aload_n (i := 0) dX11_give_1 rfl rfl ?_
  refine V.iload_n (i := 1) dX11_give_2 rfl rfl ?_
  refine V.iload_n (i := 2) dX11_give_3 rfl rfl ?_
  obtain ⟨v1, hv1, hf⟩ := fbind hf
  refine V.callVn (pl := [0, 1, 2, 3, 4]) (σ' := [.inl (6, [.ref 1, .ref 2, .int M_savedMany, .ref 3, .int M_isTaken, .ref 4, .int M_length, .int M_thrown, .int M_spelt, .int M_speltMany, .int M_place, .int M_kind, .int M_one, .int M_two, .int M_three, .int M_begins, .int M_done, .int M_stopBy, .long M_hash]), .inr (406, .inl M_s), .inr (2436, .inl M_saved), .inr (406, .inl M_snapshot), .inr (60, .inl M_text)]) (st2 := [.int v1, .ref 0]) (cl2 := 0) (sl2 := 0) (ct_X11_isName (a1 := a1) (a2 := a2) (M_savedMany := M_savedMany) (M_isTaken := M_isTaken) (M_length := M_length) (M_thrown := M_thrown) (M_spelt := M_spelt) (M_speltMany := M_speltMany) (M_place := M_place) (M_kind := M_kind) (M_one := M_one) (M_two := M_two) (M_three := M_three) (M_begins := M_begins) (M_done := M_done) (M_stopBy := M_stopBy) (M_hash := M_hash) (M_s := M_s) (M_saved := M_saved) (M_snapshot := M_snapshot) (M_text := M_text) hv1) dX11_give_4 w1204 ⟨w1206, w24⟩ cal_X11_isName rfl ⟨⟨Nat.le_of_ble_eq_true rfl, Nat.le_of_ble_eq_true rfl⟩, Nat.le_of_ble_eq_true rfl, Nat.le_of_ble_eq_true rfl⟩ (Nat.le_of_ble_eq_true rfl) (Or.inl ⟨_, _, _, _, rfl, rfl⟩) rfl ⟨rfl, ⟨by decide, by decide⟩, rfl, (fr_cons (Or.inl (Nat.le_of_ble_eq_true rfl)) (fr_cons (Or.inl (Nat.le_of_ble_eq_true rfl)) (fr_cons (Or.inl (Nat.le_of_ble_eq_true rfl)) (fr_cons (Or.inl (Nat.le_of_ble_eq_true rfl)) (fr_nil))))), rfl⟩ fr_i rfl rfl rfl rfl ?_
  refine V.if_eq (tgt := 17) dX11_give_7 (by decide) (fun h => ?_) (fun h => ?_)
  · have hf := fif_t h hf
    refine V.iconst (v := 1) dX11_give_17 rfl ?_
    refine V.goto (tgt := 36) dX11_give_18 (by decide) ?_
    obtain ⟨v2, hv2, hf⟩ := fbind hf
    refine V.callVn (pl := [0, 1, 2, 3, 4]) (σ' := [.inl (6, [.ref 1, .ref 2, .int M_savedMany, .ref 3, .int M_isTaken, .ref 4, .int M_length, .int v2.2, .int M_spelt, .int M_speltMany, .int M_place, .int M_kind, .int M_one, .int M_two, .int M_three, .int M_begins, .int M_done, .int M_stopBy, .long M_hash]), .inr (406, .inl M_s), .inr (2436, .inl M_saved), .inr (406, .inl M_snapshot), .inr (60, .inl M_text)]) (st2 := [.int v2.1]) (cl2 := 0) (sl2 := 0) (ct_X11_holds (a1 := 1) (M_savedMany := M_savedMany) (M_isTaken := M_isTaken) (M_length := M_length) (M_thrown := M_thrown) (M_spelt := M_spelt) (M_speltMany := M_speltMany) (M_place := M_place) (M_kind := M_kind) (M_one := M_one) (M_two := M_two) (M_three := M_three) (M_begins := M_begins) (M_done := M_done) (M_stopBy := M_stopBy) (M_hash := M_hash) (M_s := M_s) (M_saved := M_saved) (M_snapshot := M_snapshot) (M_text := M_text) hv2) dX11_give_36 w1181 ⟨w1183, w20⟩ cal_X11_holds rfl ⟨⟨Nat.le_of_ble_eq_true rfl, Nat.le_of_ble_eq_true rfl⟩, Nat.le_of_ble_eq_true rfl, Nat.le_of_ble_eq_true rfl⟩ (Nat.le_of_ble_eq_true rfl) (Or.inl ⟨_, _, _, _, rfl, rfl⟩) rfl ⟨rfl, ⟨by decide, by decide⟩, rfl, (fr_cons (Or.inl (Nat.le_of_ble_eq_true rfl)) (fr_cons (Or.inl (Nat.le_of_ble_eq_true rfl)) (fr_cons (Or.inl (Nat.le_of_ble_eq_true rfl)) (fr_cons (Or.inl (Nat.le_of_ble_eq_true rfl)) (fr_nil))))), rfl⟩ fr_i rfl rfl rfl rfl ?_
    refine V.if_ne (tgt := 44) dX11_give_39 (by decide) (fun h => ?_) (fun h => ?_)
    · have hf := fif_f h hf
      refine V.aload_n (i := 0) dX11_give_44 rfl rfl ?_
      obtain ⟨v3, hv3, hf⟩ := fbind hf
      refine V.callVn (pl := [0, 1, 2, 3, 4]) (σ' := [.inl (6, [.ref 1, .ref 2, .int v3.1, .ref 3, .int M_isTaken, .ref 4, .int M_length, .int v2.2, .int M_spelt, .int M_speltMany, .int M_place, .int M_kind, .int M_one, .int M_two, .int M_three, .int M_begins, .int M_done, .int M_stopBy, .long M_hash]), .inr (406, .inl M_s), .inr (2436, .inl v3.2), .inr (406, .inl M_snapshot), .inr (60, .inl M_text)]) (st2 := []) (cl2 := 0) (sl2 := 0) (ct_X11_save (M_savedMany := M_savedMany) (M_isTaken := M_isTaken) (M_length := M_length) (M_thrown := v2.2) (M_spelt := M_spelt) (M_speltMany := M_speltMany) (M_place := M_place) (M_kind := M_kind) (M_one := M_one) (M_two := M_two) (M_three := M_three) (M_begins := M_begins) (M_done := M_done) (M_stopBy := M_stopBy) (M_hash := M_hash) (M_s := M_s) (M_saved := M_saved) (M_snapshot := M_snapshot) (M_text := M_text) hv3) dX11_give_45 w1185 ⟨w1187, w21⟩ cal_X11_save rfl ⟨⟨Nat.le_of_ble_eq_true rfl, Nat.le_of_ble_eq_true rfl⟩, Nat.le_of_ble_eq_true rfl, Nat.le_of_ble_eq_true rfl⟩ (Nat.le_of_ble_eq_true rfl) (Or.inl ⟨_, _, _, _, rfl, rfl⟩) rfl ⟨rfl, ⟨by decide, by decide⟩, rfl, (fr_cons (Or.inl (Nat.le_of_ble_eq_true rfl)) (fr_cons (Or.inl (Nat.le_of_ble_eq_true rfl)) (fr_cons (Or.inl (Nat.le_of_ble_eq_true rfl)) (fr_cons (Or.inl (Nat.le_of_ble_eq_true rfl)) (fr_nil))))), rfl⟩ fr_v rfl rfl rfl rfl ?_
      refine V.aload_n (i := 0) dX11_give_48 rfl rfl ?_
      refine V.iload_n (i := 1) dX11_give_49 rfl rfl ?_
      refine V.iload_n (i := 2) dX11_give_50 rfl rfl ?_
      refine V.iload_n (i := 3) dX11_give_51 rfl rfl ?_
      obtain ⟨v4, hv4, hf⟩ := fbind hf
      refine V.callVn (pl := [0, 1, 2, 3, 4]) (σ' := [.inl (6, [.ref 1, .ref 2, .int v3.1, .ref 3, .int M_isTaken, .ref 4, .int M_length, .int v2.2, .int M_spelt, .int M_speltMany, .int M_place, .int M_kind, .int M_one, .int M_two, .int M_three, .int M_begins, .int M_done, .int M_stopBy, .long M_hash]), .inr (406, .inl v4.2), .inr (2436, .inl v3.2), .inr (406, .inl M_snapshot), .inr (60, .inl M_text)]) (st2 := [.int v4.1]) (cl2 := 0) (sl2 := 0) (ct_X11_doGive (a1 := a1) (a2 := a2) (a3 := a3) (M_savedMany := v3.1) (M_isTaken := M_isTaken) (M_length := M_length) (M_thrown := v2.2) (M_spelt := M_spelt) (M_speltMany := M_speltMany) (M_place := M_place) (M_kind := M_kind) (M_one := M_one) (M_two := M_two) (M_three := M_three) (M_begins := M_begins) (M_done := M_done) (M_stopBy := M_stopBy) (M_hash := M_hash) (M_s := M_s) (M_saved := v3.2) (M_snapshot := M_snapshot) (M_text := M_text) hv4) dX11_give_52 w1236 ⟨w1238, w30⟩ cal_X11_doGive rfl ⟨⟨Nat.le_of_ble_eq_true rfl, Nat.le_of_ble_eq_true rfl⟩, Nat.le_of_ble_eq_true rfl, Nat.le_of_ble_eq_true rfl⟩ (Nat.le_of_ble_eq_true rfl) (Or.inl ⟨_, _, _, _, rfl, rfl⟩) rfl ⟨rfl, ⟨by decide, by decide⟩, rfl, (fr_cons (Or.inl (Nat.le_of_ble_eq_true rfl)) (fr_cons (Or.inl (Nat.le_of_ble_eq_true rfl)) (fr_cons (Or.inl (Nat.le_of_ble_eq_true rfl)) (fr_cons (Or.inl (Nat.le_of_ble_eq_true rfl)) (fr_nil))))), rfl⟩ fr_i rfl rfl rfl rfl ?_
      obtain rfl := Option.some.inj hf
      exact V.iret dX11_give_55 rfl (Nat.le_of_ble_eq_true rfl) (Nat.le_of_ble_eq_true rfl) rfl
    · have hf := fif_t h hf
      refine V.iconst (v := 0) dX11_give_42 rfl ?_
      obtain rfl := Option.some.inj hf
      exact V.iret dX11_give_43 rfl (Nat.le_of_ble_eq_true rfl) (Nat.le_of_ble_eq_true rfl) rfl
  · have hf := fif_f h hf
    refine V.iload_n (i := 3) dX11_give_10 rfl rfl ?_
    obtain ⟨v5, hv5, hf⟩ := fbind hf
    refine V.callSn (pl := []) (σ' := [.inl (6, [.ref 1, .ref 2, .int M_savedMany, .ref 3, .int M_isTaken, .ref 4, .int M_length, .int M_thrown, .int M_spelt, .int M_speltMany, .int M_place, .int M_kind, .int M_one, .int M_two, .int M_three, .int M_begins, .int M_done, .int M_stopBy, .long M_hash]), .inr (406, .inl M_s), .inr (2436, .inl M_saved), .inr (406, .inl M_snapshot), .inr (60, .inl M_text)]) (st2 := [.int v5, .ref 0]) (cl2 := 0) (sl2 := 0) (ct_X11_isFisher (a0 := a3) hv5) dX11_give_11 w1116 w1117 cal_X11_isFisher ⟨⟨Nat.le_of_ble_eq_true rfl, Nat.le_of_ble_eq_true rfl⟩, Nat.le_of_ble_eq_true rfl, Nat.le_of_ble_eq_true rfl⟩ (Nat.le_of_ble_eq_true rfl) rfl ⟨rfl, ⟨by decide, by decide⟩, rfl, (fr_nil), rfl⟩ fr_i rfl rfl rfl rfl ?_
    refine V.if_ne (tgt := 21) dX11_give_14 (by decide) (fun h => ?_) (fun h => ?_)
    · have hf := fif_f h hf
      refine V.aload_n (i := 0) dX11_give_21 rfl rfl ?_
      refine V.iload_n (i := 1) dX11_give_22 rfl rfl ?_
      refine V.iload_n (i := 2) dX11_give_23 rfl rfl ?_
      refine V.iload_n (i := 3) dX11_give_24 rfl rfl ?_
      obtain ⟨v6, hv6, hf⟩ := fbind hf
      refine V.callVn (pl := [0, 1, 2, 3, 4]) (σ' := [.inl (6, [.ref 1, .ref 2, .int M_savedMany, .ref 3, .int M_isTaken, .ref 4, .int M_length, .int M_thrown, .int M_spelt, .int M_speltMany, .int M_place, .int M_kind, .int M_one, .int M_two, .int M_three, .int M_begins, .int M_done, .int M_stopBy, .long M_hash]), .inr (406, .inl M_s), .inr (2436, .inl M_saved), .inr (406, .inl M_snapshot), .inr (60, .inl M_text)]) (st2 := [.int v6, .ref 0]) (cl2 := 0) (sl2 := 0) (ct_X11_gift (a1 := a1) (a2 := a2) (a3 := a3) (M_savedMany := M_savedMany) (M_isTaken := M_isTaken) (M_length := M_length) (M_thrown := M_thrown) (M_spelt := M_spelt) (M_speltMany := M_speltMany) (M_place := M_place) (M_kind := M_kind) (M_one := M_one) (M_two := M_two) (M_three := M_three) (M_begins := M_begins) (M_done := M_done) (M_stopBy := M_stopBy) (M_hash := M_hash) (M_s := M_s) (M_saved := M_saved) (M_snapshot := M_snapshot) (M_text := M_text) hv6) dX11_give_25 w1232 ⟨w1234, w29⟩ cal_X11_gift rfl ⟨⟨Nat.le_of_ble_eq_true rfl, Nat.le_of_ble_eq_true rfl⟩, Nat.le_of_ble_eq_true rfl, Nat.le_of_ble_eq_true rfl⟩ (Nat.le_of_ble_eq_true rfl) (Or.inl ⟨_, _, _, _, rfl, rfl⟩) rfl ⟨rfl, ⟨by decide, by decide⟩, rfl, (fr_cons (Or.inl (Nat.le_of_ble_eq_true rfl)) (fr_cons (Or.inl (Nat.le_of_ble_eq_true rfl)) (fr_cons (Or.inl (Nat.le_of_ble_eq_true rfl)) (fr_cons (Or.inl (Nat.le_of_ble_eq_true rfl)) (fr_nil))))), rfl⟩ fr_i rfl rfl rfl rfl ?_
      refine V.if_le (tgt := 35) dX11_give_28 (by decide) (fun h => ?_) (fun h => ?_)
      · have hf := fif_t h hf
        refine V.iconst (v := 0) dX11_give_35 rfl ?_
        obtain ⟨v7, hv7, hf⟩ := fbind hf
        refine V.callVn (pl := [0, 1, 2, 3, 4]) (σ' := [.inl (6, [.ref 1, .ref 2, .int M_savedMany, .ref 3, .int M_isTaken, .ref 4, .int M_length, .int v7.2, .int M_spelt, .int M_speltMany, .int M_place, .int M_kind, .int M_one, .int M_two, .int M_three, .int M_begins, .int M_done, .int M_stopBy, .long M_hash]), .inr (406, .inl M_s), .inr (2436, .inl M_saved), .inr (406, .inl M_snapshot), .inr (60, .inl M_text)]) (st2 := [.int v7.1]) (cl2 := 0) (sl2 := 0) (ct_X11_holds (a1 := 0) (M_savedMany := M_savedMany) (M_isTaken := M_isTaken) (M_length := M_length) (M_thrown := M_thrown) (M_spelt := M_spelt) (M_speltMany := M_speltMany) (M_place := M_place) (M_kind := M_kind) (M_one := M_one) (M_two := M_two) (M_three := M_three) (M_begins := M_begins) (M_done := M_done) (M_stopBy := M_stopBy) (M_hash := M_hash) (M_s := M_s) (M_saved := M_saved) (M_snapshot := M_snapshot) (M_text := M_text) hv7) dX11_give_36 w1181 ⟨w1183, w20⟩ cal_X11_holds rfl ⟨⟨Nat.le_of_ble_eq_true rfl, Nat.le_of_ble_eq_true rfl⟩, Nat.le_of_ble_eq_true rfl, Nat.le_of_ble_eq_true rfl⟩ (Nat.le_of_ble_eq_true rfl) (Or.inl ⟨_, _, _, _, rfl, rfl⟩) rfl ⟨rfl, ⟨by decide, by decide⟩, rfl, (fr_cons (Or.inl (Nat.le_of_ble_eq_true rfl)) (fr_cons (Or.inl (Nat.le_of_ble_eq_true rfl)) (fr_cons (Or.inl (Nat.le_of_ble_eq_true rfl)) (fr_cons (Or.inl (Nat.le_of_ble_eq_true rfl)) (fr_nil))))), rfl⟩ fr_i rfl rfl rfl rfl ?_
        refine V.if_ne (tgt := 44) dX11_give_39 (by decide) (fun h => ?_) (fun h => ?_)
        · have hf := fif_f h hf
          refine V.aload_n (i := 0) dX11_give_44 rfl rfl ?_
          obtain ⟨v8, hv8, hf⟩ := fbind hf
          refine V.callVn (pl := [0, 1, 2, 3, 4]) (σ' := [.inl (6, [.ref 1, .ref 2, .int v8.1, .ref 3, .int M_isTaken, .ref 4, .int M_length, .int v7.2, .int M_spelt, .int M_speltMany, .int M_place, .int M_kind, .int M_one, .int M_two, .int M_three, .int M_begins, .int M_done, .int M_stopBy, .long M_hash]), .inr (406, .inl M_s), .inr (2436, .inl v8.2), .inr (406, .inl M_snapshot), .inr (60, .inl M_text)]) (st2 := []) (cl2 := 0) (sl2 := 0) (ct_X11_save (M_savedMany := M_savedMany) (M_isTaken := M_isTaken) (M_length := M_length) (M_thrown := v7.2) (M_spelt := M_spelt) (M_speltMany := M_speltMany) (M_place := M_place) (M_kind := M_kind) (M_one := M_one) (M_two := M_two) (M_three := M_three) (M_begins := M_begins) (M_done := M_done) (M_stopBy := M_stopBy) (M_hash := M_hash) (M_s := M_s) (M_saved := M_saved) (M_snapshot := M_snapshot) (M_text := M_text) hv8) dX11_give_45 w1185 ⟨w1187, w21⟩ cal_X11_save rfl ⟨⟨Nat.le_of_ble_eq_true rfl, Nat.le_of_ble_eq_true rfl⟩, Nat.le_of_ble_eq_true rfl, Nat.le_of_ble_eq_true rfl⟩ (Nat.le_of_ble_eq_true rfl) (Or.inl ⟨_, _, _, _, rfl, rfl⟩) rfl ⟨rfl, ⟨by decide, by decide⟩, rfl, (fr_cons (Or.inl (Nat.le_of_ble_eq_true rfl)) (fr_cons (Or.inl (Nat.le_of_ble_eq_true rfl)) (fr_cons (Or.inl (Nat.le_of_ble_eq_true rfl)) (fr_cons (Or.inl (Nat.le_of_ble_eq_true rfl)) (fr_nil))))), rfl⟩ fr_v rfl rfl rfl rfl ?_
          refine V.aload_n (i := 0) dX11_give_48 rfl rfl ?_
          refine V.iload_n (i := 1) dX11_give_49 rfl rfl ?_
          refine V.iload_n (i := 2) dX11_give_50 rfl rfl ?_
          refine V.iload_n (i := 3) dX11_give_51 rfl rfl ?_
          obtain ⟨v9, hv9, hf⟩ := fbind hf
          refine V.callVn (pl := [0, 1, 2, 3, 4]) (σ' := [.inl (6, [.ref 1, .ref 2, .int v8.1, .ref 3, .int M_isTaken, .ref 4, .int M_length, .int v7.2, .int M_spelt, .int M_speltMany, .int M_place, .int M_kind, .int M_one, .int M_two, .int M_three, .int M_begins, .int M_done, .int M_stopBy, .long M_hash]), .inr (406, .inl v9.2), .inr (2436, .inl v8.2), .inr (406, .inl M_snapshot), .inr (60, .inl M_text)]) (st2 := [.int v9.1]) (cl2 := 0) (sl2 := 0) (ct_X11_doGive (a1 := a1) (a2 := a2) (a3 := a3) (M_savedMany := v8.1) (M_isTaken := M_isTaken) (M_length := M_length) (M_thrown := v7.2) (M_spelt := M_spelt) (M_speltMany := M_speltMany) (M_place := M_place) (M_kind := M_kind) (M_one := M_one) (M_two := M_two) (M_three := M_three) (M_begins := M_begins) (M_done := M_done) (M_stopBy := M_stopBy) (M_hash := M_hash) (M_s := M_s) (M_saved := v8.2) (M_snapshot := M_snapshot) (M_text := M_text) hv9) dX11_give_52 w1236 ⟨w1238, w30⟩ cal_X11_doGive rfl ⟨⟨Nat.le_of_ble_eq_true rfl, Nat.le_of_ble_eq_true rfl⟩, Nat.le_of_ble_eq_true rfl, Nat.le_of_ble_eq_true rfl⟩ (Nat.le_of_ble_eq_true rfl) (Or.inl ⟨_, _, _, _, rfl, rfl⟩) rfl ⟨rfl, ⟨by decide, by decide⟩, rfl, (fr_cons (Or.inl (Nat.le_of_ble_eq_true rfl)) (fr_cons (Or.inl (Nat.le_of_ble_eq_true rfl)) (fr_cons (Or.inl (Nat.le_of_ble_eq_true rfl)) (fr_cons (Or.inl (Nat.le_of_ble_eq_true rfl)) (fr_nil))))), rfl⟩ fr_i rfl rfl rfl rfl ?_
          obtain rfl := Option.some.inj hf
          exact V.iret dX11_give_55 rfl (Nat.le_of_ble_eq_true rfl) (Nat.le_of_ble_eq_true rfl) rfl
        · have hf := fif_t h hf
          refine V.iconst (v := 0) dX11_give_42 rfl ?_
          obtain rfl := Option.some.inj hf
          exact V.iret dX11_give_43 rfl (Nat.le_of_ble_eq_true rfl) (Nat.le_of_ble_eq_true rfl) rfl
      · have hf := fif_f h hf
        refine V.iconst (v := 2) dX11_give_31 rfl ?_
        refine V.goto (tgt := 36) dX11_give_32 (by decide) ?_
        obtain ⟨v10, hv10, hf⟩ := fbind hf
        refine V.callVn (pl := [0, 1, 2, 3, 4]) (σ' := [.inl (6, [.ref 1, .ref 2, .int M_savedMany, .ref 3, .int M_isTaken, .ref 4, .int M_length, .int v10.2, .int M_spelt, .int M_speltMany, .int M_place, .int M_kind, .int M_one, .int M_two, .int M_three, .int M_begins, .int M_done, .int M_stopBy, .long M_hash]), .inr (406, .inl M_s), .inr (2436, .inl M_saved), .inr (406, .inl M_snapshot), .inr (60, .inl M_text)]) (st2 := [.int v10.1]) (cl2 := 0) (sl2 := 0) (ct_X11_holds (a1 := 2) (M_savedMany := M_savedMany) (M_isTaken := M_isTaken) (M_length := M_length) (M_thrown := M_thrown) (M_spelt := M_spelt) (M_speltMany := M_speltMany) (M_place := M_place) (M_kind := M_kind) (M_one := M_one) (M_two := M_two) (M_three := M_three) (M_begins := M_begins) (M_done := M_done) (M_stopBy := M_stopBy) (M_hash := M_hash) (M_s := M_s) (M_saved := M_saved) (M_snapshot := M_snapshot) (M_text := M_text) hv10) dX11_give_36 w1181 ⟨w1183, w20⟩ cal_X11_holds rfl ⟨⟨Nat.le_of_ble_eq_true rfl, Nat.le_of_ble_eq_true rfl⟩, Nat.le_of_ble_eq_true rfl, Nat.le_of_ble_eq_true rfl⟩ (Nat.le_of_ble_eq_true rfl) (Or.inl ⟨_, _, _, _, rfl, rfl⟩) rfl ⟨rfl, ⟨by decide, by decide⟩, rfl, (fr_cons (Or.inl (Nat.le_of_ble_eq_true rfl)) (fr_cons (Or.inl (Nat.le_of_ble_eq_true rfl)) (fr_cons (Or.inl (Nat.le_of_ble_eq_true rfl)) (fr_cons (Or.inl (Nat.le_of_ble_eq_true rfl)) (fr_nil))))), rfl⟩ fr_i rfl rfl rfl rfl ?_
        refine V.if_ne (tgt := 44) dX11_give_39 (by decide) (fun h => ?_) (fun h => ?_)
        · have hf := fif_f h hf
          refine V.aload_n (i := 0) dX11_give_44 rfl rfl ?_
          obtain ⟨v11, hv11, hf⟩ := fbind hf
          refine V.callVn (pl := [0, 1, 2, 3, 4]) (σ' := [.inl (6, [.ref 1, .ref 2, .int v11.1, .ref 3, .int M_isTaken, .ref 4, .int M_length, .int v10.2, .int M_spelt, .int M_speltMany, .int M_place, .int M_kind, .int M_one, .int M_two, .int M_three, .int M_begins, .int M_done, .int M_stopBy, .long M_hash]), .inr (406, .inl M_s), .inr (2436, .inl v11.2), .inr (406, .inl M_snapshot), .inr (60, .inl M_text)]) (st2 := []) (cl2 := 0) (sl2 := 0) (ct_X11_save (M_savedMany := M_savedMany) (M_isTaken := M_isTaken) (M_length := M_length) (M_thrown := v10.2) (M_spelt := M_spelt) (M_speltMany := M_speltMany) (M_place := M_place) (M_kind := M_kind) (M_one := M_one) (M_two := M_two) (M_three := M_three) (M_begins := M_begins) (M_done := M_done) (M_stopBy := M_stopBy) (M_hash := M_hash) (M_s := M_s) (M_saved := M_saved) (M_snapshot := M_snapshot) (M_text := M_text) hv11) dX11_give_45 w1185 ⟨w1187, w21⟩ cal_X11_save rfl ⟨⟨Nat.le_of_ble_eq_true rfl, Nat.le_of_ble_eq_true rfl⟩, Nat.le_of_ble_eq_true rfl, Nat.le_of_ble_eq_true rfl⟩ (Nat.le_of_ble_eq_true rfl) (Or.inl ⟨_, _, _, _, rfl, rfl⟩) rfl ⟨rfl, ⟨by decide, by decide⟩, rfl, (fr_cons (Or.inl (Nat.le_of_ble_eq_true rfl)) (fr_cons (Or.inl (Nat.le_of_ble_eq_true rfl)) (fr_cons (Or.inl (Nat.le_of_ble_eq_true rfl)) (fr_cons (Or.inl (Nat.le_of_ble_eq_true rfl)) (fr_nil))))), rfl⟩ fr_v rfl rfl rfl rfl ?_
          refine V.aload_n (i := 0) dX11_give_48 rfl rfl ?_
          refine V.iload_n (i := 1) dX11_give_49 rfl rfl ?_
          refine V.iload_n (i := 2) dX11_give_50 rfl rfl ?_
          refine V.iload_n (i := 3) dX11_give_51 rfl rfl ?_
          obtain ⟨v12, hv12, hf⟩ := fbind hf
          refine V.callVn (pl := [0, 1, 2, 3, 4]) (σ' := [.inl (6, [.ref 1, .ref 2, .int v11.1, .ref 3, .int M_isTaken, .ref 4, .int M_length, .int v10.2, .int M_spelt, .int M_speltMany, .int M_place, .int M_kind, .int M_one, .int M_two, .int M_three, .int M_begins, .int M_done, .int M_stopBy, .long M_hash]), .inr (406, .inl v12.2), .inr (2436, .inl v11.2), .inr (406, .inl M_snapshot), .inr (60, .inl M_text)]) (st2 := [.int v12.1]) (cl2 := 0) (sl2 := 0) (ct_X11_doGive (a1 := a1) (a2 := a2) (a3 := a3) (M_savedMany := v11.1) (M_isTaken := M_isTaken) (M_length := M_length) (M_thrown := v10.2) (M_spelt := M_spelt) (M_speltMany := M_speltMany) (M_place := M_place) (M_kind := M_kind) (M_one := M_one) (M_two := M_two) (M_three := M_three) (M_begins := M_begins) (M_done := M_done) (M_stopBy := M_stopBy) (M_hash := M_hash) (M_s := M_s) (M_saved := v11.2) (M_snapshot := M_snapshot) (M_text := M_text) hv12) dX11_give_52 w1236 ⟨w1238, w30⟩ cal_X11_doGive rfl ⟨⟨Nat.le_of_ble_eq_true rfl, Nat.le_of_ble_eq_true rfl⟩, Nat.le_of_ble_eq_true rfl, Nat.le_of_ble_eq_true rfl⟩ (Nat.le_of_ble_eq_true rfl) (Or.inl ⟨_, _, _, _, rfl, rfl⟩) rfl ⟨rfl, ⟨by decide, by decide⟩, rfl, (fr_cons (Or.inl (Nat.le_of_ble_eq_true rfl)) (fr_cons (Or.inl (Nat.le_of_ble_eq_true rfl)) (fr_cons (Or.inl (Nat.le_of_ble_eq_true rfl)) (fr_cons (Or.inl (Nat.le_of_ble_eq_true rfl)) (fr_nil))))), rfl⟩ fr_i rfl rfl rfl rfl ?_
          obtain rfl := Option.some.inj hf
          exact V.iret dX11_give_55 rfl (Nat.le_of_ble_eq_true rfl) (Nat.le_of_ble_eq_true rfl) rfl
        · have hf := fif_t h hf
          refine V.iconst (v := 0) dX11_give_42 rfl ?_
          obtain rfl := Option.some.inj hf
          exact V.iret dX11_give_43 rfl (Nat.le_of_ble_eq_true rfl) (Nat.le_of_ble_eq_true rfl) rfl
    · have hf := fif_t h hf
      refine V.iconst (v := 1) dX11_give_17 rfl ?_
      refine V.goto (tgt := 36) dX11_give_18 (by decide) ?_
      obtain ⟨v13, hv13, hf⟩ := fbind hf
      refine V.callVn (pl := [0, 1, 2, 3, 4]) (σ' := [.inl (6, [.ref 1, .ref 2, .int M_savedMany, .ref 3, .int M_isTaken, .ref 4, .int M_length, .int v13.2, .int M_spelt, .int M_speltMany, .int M_place, .int M_kind, .int M_one, .int M_two, .int M_three, .int M_begins, .int M_done, .int M_stopBy, .long M_hash]), .inr (406, .inl M_s), .inr (2436, .inl M_saved), .inr (406, .inl M_snapshot), .inr (60, .inl M_text)]) (st2 := [.int v13.1]) (cl2 := 0) (sl2 := 0) (ct_X11_holds (a1 := 1) (M_savedMany := M_savedMany) (M_isTaken := M_isTaken) (M_length := M_length) (M_thrown := M_thrown) (M_spelt := M_spelt) (M_speltMany := M_speltMany) (M_place := M_place) (M_kind := M_kind) (M_one := M_one) (M_two := M_two) (M_three := M_three) (M_begins := M_begins) (M_done := M_done) (M_stopBy := M_stopBy) (M_hash := M_hash) (M_s := M_s) (M_saved := M_saved) (M_snapshot := M_snapshot) (M_text := M_text) hv13) dX11_give_36 w1181 ⟨w1183, w20⟩ cal_X11_holds rfl ⟨⟨Nat.le_of_ble_eq_true rfl, Nat.le_of_ble_eq_true rfl⟩, Nat.le_of_ble_eq_true rfl, Nat.le_of_ble_eq_true rfl⟩ (Nat.le_of_ble_eq_true rfl) (Or.inl ⟨_, _, _, _, rfl, rfl⟩) rfl ⟨rfl, ⟨by decide, by decide⟩, rfl, (fr_cons (Or.inl (Nat.le_of_ble_eq_true rfl)) (fr_cons (Or.inl (Nat.le_of_ble_eq_true rfl)) (fr_cons (Or.inl (Nat.le_of_ble_eq_true rfl)) (fr_cons (Or.inl (Nat.le_of_ble_eq_true rfl)) (fr_nil))))), rfl⟩ fr_i rfl rfl rfl rfl ?_
      refine V.if_ne (tgt := 44) dX11_give_39 (by decide) (fun h => ?_) (fun h => ?_)
      · have hf := fif_f h hf
        refine V.aload_n (i := 0) dX11_give_44 rfl rfl ?_
        obtain ⟨v14, hv14, hf⟩ := fbind hf
        refine V.callVn (pl := [0, 1, 2, 3, 4]) (σ' := [.inl (6, [.ref 1, .ref 2, .int v14.1, .ref 3, .int M_isTaken, .ref 4, .int M_length, .int v13.2, .int M_spelt, .int M_speltMany, .int M_place, .int M_kind, .int M_one, .int M_two, .int M_three, .int M_begins, .int M_done, .int M_stopBy, .long M_hash]), .inr (406, .inl M_s), .inr (2436, .inl v14.2), .inr (406, .inl M_snapshot), .inr (60, .inl M_text)]) (st2 := []) (cl2 := 0) (sl2 := 0) (ct_X11_save (M_savedMany := M_savedMany) (M_isTaken := M_isTaken) (M_length := M_length) (M_thrown := v13.2) (M_spelt := M_spelt) (M_speltMany := M_speltMany) (M_place := M_place) (M_kind := M_kind) (M_one := M_one) (M_two := M_two) (M_three := M_three) (M_begins := M_begins) (M_done := M_done) (M_stopBy := M_stopBy) (M_hash := M_hash) (M_s := M_s) (M_saved := M_saved) (M_snapshot := M_snapshot) (M_text := M_text) hv14) dX11_give_45 w1185 ⟨w1187, w21⟩ cal_X11_save rfl ⟨⟨Nat.le_of_ble_eq_true rfl, Nat.le_of_ble_eq_true rfl⟩, Nat.le_of_ble_eq_true rfl, Nat.le_of_ble_eq_true rfl⟩ (Nat.le_of_ble_eq_true rfl) (Or.inl ⟨_, _, _, _, rfl, rfl⟩) rfl ⟨rfl, ⟨by decide, by decide⟩, rfl, (fr_cons (Or.inl (Nat.le_of_ble_eq_true rfl)) (fr_cons (Or.inl (Nat.le_of_ble_eq_true rfl)) (fr_cons (Or.inl (Nat.le_of_ble_eq_true rfl)) (fr_cons (Or.inl (Nat.le_of_ble_eq_true rfl)) (fr_nil))))), rfl⟩ fr_v rfl rfl rfl rfl ?_
        refine V.aload_n (i := 0) dX11_give_48 rfl rfl ?_
        refine V.iload_n (i := 1) dX11_give_49 rfl rfl ?_
        refine V.iload_n (i := 2) dX11_give_50 rfl rfl ?_
        refine V.iload_n (i := 3) dX11_give_51 rfl rfl ?_
        obtain ⟨v15, hv15, hf⟩ := fbind hf
        refine V.callVn (pl := [0, 1, 2, 3, 4]) (σ' := [.inl (6, [.ref 1, .ref 2, .int v14.1, .ref 3, .int M_isTaken, .ref 4, .int M_length, .int v13.2, .int M_spelt, .int M_speltMany, .int M_place, .int M_kind, .int M_one, .int M_two, .int M_three, .int M_begins, .int M_done, .int M_stopBy, .long M_hash]), .inr (406, .inl v15.2), .inr (2436, .inl v14.2), .inr (406, .inl M_snapshot), .inr (60, .inl M_text)]) (st2 := [.int v15.1]) (cl2 := 0) (sl2 := 0) (ct_X11_doGive (a1 := a1) (a2 := a2) (a3 := a3) (M_savedMany := v14.1) (M_isTaken := M_isTaken) (M_length := M_length) (M_thrown := v13.2) (M_spelt := M_spelt) (M_speltMany := M_speltMany) (M_place := M_place) (M_kind := M_kind) (M_one := M_one) (M_two := M_two) (M_three := M_three) (M_begins := M_begins) (M_done := M_done) (M_stopBy := M_stopBy) (M_hash := M_hash) (M_s := M_s) (M_saved := v14.2) (M_snapshot := M_snapshot) (M_text := M_text) hv15) dX11_give_52 w1236 ⟨w1238, w30⟩ cal_X11_doGive rfl ⟨⟨Nat.le_of_ble_eq_true rfl, Nat.le_of_ble_eq_true rfl⟩, Nat.le_of_ble_eq_true rfl, Nat.le_of_ble_eq_true rfl⟩ (Nat.le_of_ble_eq_true rfl) (Or.inl ⟨_, _, _, _, rfl, rfl⟩) rfl ⟨rfl, ⟨by decide, by decide⟩, rfl, (fr_cons (Or.inl (Nat.le_of_ble_eq_true rfl)) (fr_cons (Or.inl (Nat.le_of_ble_eq_true rfl)) (fr_cons (Or.inl (Nat.le_of_ble_eq_true rfl)) (fr_cons (Or.inl (Nat.le_of_ble_eq_true rfl)) (fr_nil))))), rfl⟩ fr_i rfl rfl rfl rfl ?_
        obtain rfl := Option.some.inj hf
        exact V.iret dX11_give_55 rfl (Nat.le_of_ble_eq_true rfl) (Nat.le_of_ble_eq_true rfl) rfl
      · have hf := fif_t h hf
        refine V.iconst (v := 0) dX11_give_42 rfl ?_
        obtain rfl := Option.some.inj hf
        exact V.iret dX11_give_43 rfl (Nat.le_of_ble_eq_true rfl) (Nat.le_of_ble_eq_true rfl) rfl
def k_X11_storm : fK := (yX11_storm, cX11_storm, 2, (some .int), [], (7, 157), (0, 0), (0, 0))
theorem cal_X11_storm : fCal k_X11_storm 1 := ⟨⟨wc1243, w73⟩, ⟨by decide +kernel, by decide +kernel⟩, by decide +kernel, by decide +kernel⟩
def s_X11_storm (a1 : Int32) (M_savedMany : Int32) (M_thrown : Int32) (M_s : Nat → Int32) (M_saved : Nat → Int32) : Option (Int32 × (Int32) × (Int32) × (Nat → Int32) × (Nat → Int32)) := (s_X11_isFisher a1).bind fun v1 => if (v1 = 0 : Prop) then ((s_X11_holds 1 M_thrown).bind fun v2 => if (v2.1 = 0 : Prop) then (some (0, M_savedMany, v2.2, M_s, M_saved)) else ((s_X11_save M_savedMany M_s M_saved).bind fun v3 => (s_X11_doStorm a1 M_s).bind fun v4 => some (v4.1, v3.1, v2.2, v4.2, v3.2))) else ((s_X11_holds 0 M_thrown).bind fun v5 => if (v5.1 = 0 : Prop) then (some (0, M_savedMany, v5.2, M_s, M_saved)) else ((s_X11_save M_savedMany M_s M_saved).bind fun v6 => (s_X11_doStorm a1 M_s).bind fun v7 => some (v7.1, v6.1, v5.2, v7.2, v6.2)))
set_option maxHeartbeats 4000000 in
set_option maxRecDepth 100000 in
theorem ct_X11_storm {a1 : Int32} {M_savedMany : Int32} {M_isTaken : Int32} {M_length : Int32} {M_thrown : Int32} {M_spelt : Int32} {M_speltMany : Int32} {M_place : Int32} {M_kind : Int32} {M_one : Int32} {M_two : Int32} {M_three : Int32} {M_begins : Int32} {M_done : Int32} {M_stopBy : Int32} {M_hash : Int64} {M_s : Nat → Int32} {M_saved : Nat → Int32} {M_snapshot : Nat → Int32} {M_text : Nat → Int32} {res : Int32 × (Int32) × (Int32) × (Nat → Int32) × (Nat → Int32)} (hf : s_X11_storm a1 M_savedMany M_thrown M_s M_saved = some res) : Ct k_X11_storm [.ref 0, .int a1] [.inl (6, [.ref 1, .ref 2, .int M_savedMany, .ref 3, .int M_isTaken, .ref 4, .int M_length, .int M_thrown, .int M_spelt, .int M_speltMany, .int M_place, .int M_kind, .int M_one, .int M_two, .int M_three, .int M_begins, .int M_done, .int M_stopBy, .long M_hash]), .inr (406, .inl M_s), .inr (2436, .inl M_saved), .inr (406, .inl M_snapshot), .inr (60, .inl M_text)] (.inl (some (.int res.1))) [.inl (6, [.ref 1, .ref 2, .int res.2.1, .ref 3, .int M_isTaken, .ref 4, .int M_length, .int res.2.2.1, .int M_spelt, .int M_speltMany, .int M_place, .int M_kind, .int M_one, .int M_two, .int M_three, .int M_begins, .int M_done, .int M_stopBy, .long M_hash]), .inr (406, .inl res.2.2.2.1), .inr (2436, .inl res.2.2.2.2), .inr (406, .inl M_snapshot), .inr (60, .inl M_text)] := by
  unfold s_X11_storm at hf
  refine Ct.of (L := [some (.ref 0), some (.int a1)]) cal_X11_storm (fent_pad (j := 0) rfl) (Nat.le_of_ble_eq_true rfl) ?_
  refine V.aload_n (i := 0) dX11_storm_0 rfl rfl ?_
  refine V.iload_n (i := 1) dX11_storm_1 rfl rfl ?_
  obtain ⟨v1, hv1, hf⟩ := fbind hf
  refine V.callSn (pl := []) (σ' := [.inl (6, [.ref 1, .ref 2, .int M_savedMany, .ref 3, .int M_isTaken, .ref 4, .int M_length, .int M_thrown, .int M_spelt, .int M_speltMany, .int M_place, .int M_kind, .int M_one, .int M_two, .int M_three, .int M_begins, .int M_done, .int M_stopBy, .long M_hash]), .inr (406, .inl M_s), .inr (2436, .inl M_saved), .inr (406, .inl M_snapshot), .inr (60, .inl M_text)]) (st2 := [.int v1, .ref 0]) (cl2 := 0) (sl2 := 0) (ct_X11_isFisher (a0 := a1) hv1) dX11_storm_2 w1116 w1117 cal_X11_isFisher ⟨⟨Nat.le_of_ble_eq_true rfl, Nat.le_of_ble_eq_true rfl⟩, Nat.le_of_ble_eq_true rfl, Nat.le_of_ble_eq_true rfl⟩ (Nat.le_of_ble_eq_true rfl) rfl ⟨rfl, ⟨by decide, by decide⟩, rfl, (fr_nil), rfl⟩ fr_i rfl rfl rfl rfl ?_
  refine V.if_eq (tgt := 12) dX11_storm_5 (by decide) (fun h => ?_) (fun h => ?_)
  · have hf := fif_t h hf
    refine V.iconst (v := 1) dX11_storm_12 rfl ?_
    obtain ⟨v2, hv2, hf⟩ := fbind hf
    refine V.callVn (pl := [0, 1, 2, 3, 4]) (σ' := [.inl (6, [.ref 1, .ref 2, .int M_savedMany, .ref 3, .int M_isTaken, .ref 4, .int M_length, .int v2.2, .int M_spelt, .int M_speltMany, .int M_place, .int M_kind, .int M_one, .int M_two, .int M_three, .int M_begins, .int M_done, .int M_stopBy, .long M_hash]), .inr (406, .inl M_s), .inr (2436, .inl M_saved), .inr (406, .inl M_snapshot), .inr (60, .inl M_text)]) (st2 := [.int v2.1]) (cl2 := 0) (sl2 := 0) (ct_X11_holds (a1 := 1) (M_savedMany := M_savedMany) (M_isTaken := M_isTaken) (M_length := M_length) (M_thrown := M_thrown) (M_spelt := M_spelt) (M_speltMany := M_speltMany) (M_place := M_place) (M_kind := M_kind) (M_one := M_one) (M_two := M_two) (M_three := M_three) (M_begins := M_begins) (M_done := M_done) (M_stopBy := M_stopBy) (M_hash := M_hash) (M_s := M_s) (M_saved := M_saved) (M_snapshot := M_snapshot) (M_text := M_text) hv2) dX11_storm_13 w1181 ⟨w1183, w20⟩ cal_X11_holds rfl ⟨⟨Nat.le_of_ble_eq_true rfl, Nat.le_of_ble_eq_true rfl⟩, Nat.le_of_ble_eq_true rfl, Nat.le_of_ble_eq_true rfl⟩ (Nat.le_of_ble_eq_true rfl) (Or.inl ⟨_, _, _, _, rfl, rfl⟩) rfl ⟨rfl, ⟨by decide, by decide⟩, rfl, (fr_cons (Or.inl (Nat.le_of_ble_eq_true rfl)) (fr_cons (Or.inl (Nat.le_of_ble_eq_true rfl)) (fr_cons (Or.inl (Nat.le_of_ble_eq_true rfl)) (fr_cons (Or.inl (Nat.le_of_ble_eq_true rfl)) (fr_nil))))), rfl⟩ fr_i rfl rfl rfl rfl ?_
    refine V.if_ne (tgt := 21) dX11_storm_16 (by decide) (fun h => ?_) (fun h => ?_)
    · have hf := fif_f h hf
      refine V.aload_n (i := 0) dX11_storm_21 rfl rfl ?_
      obtain ⟨v3, hv3, hf⟩ := fbind hf
      refine V.callVn (pl := [0, 1, 2, 3, 4]) (σ' := [.inl (6, [.ref 1, .ref 2, .int v3.1, .ref 3, .int M_isTaken, .ref 4, .int M_length, .int v2.2, .int M_spelt, .int M_speltMany, .int M_place, .int M_kind, .int M_one, .int M_two, .int M_three, .int M_begins, .int M_done, .int M_stopBy, .long M_hash]), .inr (406, .inl M_s), .inr (2436, .inl v3.2), .inr (406, .inl M_snapshot), .inr (60, .inl M_text)]) (st2 := []) (cl2 := 0) (sl2 := 0) (ct_X11_save (M_savedMany := M_savedMany) (M_isTaken := M_isTaken) (M_length := M_length) (M_thrown := v2.2) (M_spelt := M_spelt) (M_speltMany := M_speltMany) (M_place := M_place) (M_kind := M_kind) (M_one := M_one) (M_two := M_two) (M_three := M_three) (M_begins := M_begins) (M_done := M_done) (M_stopBy := M_stopBy) (M_hash := M_hash) (M_s := M_s) (M_saved := M_saved) (M_snapshot := M_snapshot) (M_text := M_text) hv3) dX11_storm_22 w1185 ⟨w1187, w21⟩ cal_X11_save rfl ⟨⟨Nat.le_of_ble_eq_true rfl, Nat.le_of_ble_eq_true rfl⟩, Nat.le_of_ble_eq_true rfl, Nat.le_of_ble_eq_true rfl⟩ (Nat.le_of_ble_eq_true rfl) (Or.inl ⟨_, _, _, _, rfl, rfl⟩) rfl ⟨rfl, ⟨by decide, by decide⟩, rfl, (fr_cons (Or.inl (Nat.le_of_ble_eq_true rfl)) (fr_cons (Or.inl (Nat.le_of_ble_eq_true rfl)) (fr_cons (Or.inl (Nat.le_of_ble_eq_true rfl)) (fr_cons (Or.inl (Nat.le_of_ble_eq_true rfl)) (fr_nil))))), rfl⟩ fr_v rfl rfl rfl rfl ?_
      refine V.aload_n (i := 0) dX11_storm_25 rfl rfl ?_
      refine V.iload_n (i := 1) dX11_storm_26 rfl rfl ?_
      obtain ⟨v4, hv4, hf⟩ := fbind hf
      refine V.callVn (pl := [0, 1, 2, 3, 4]) (σ' := [.inl (6, [.ref 1, .ref 2, .int v3.1, .ref 3, .int M_isTaken, .ref 4, .int M_length, .int v2.2, .int M_spelt, .int M_speltMany, .int M_place, .int M_kind, .int M_one, .int M_two, .int M_three, .int M_begins, .int M_done, .int M_stopBy, .long M_hash]), .inr (406, .inl v4.2), .inr (2436, .inl v3.2), .inr (406, .inl M_snapshot), .inr (60, .inl M_text)]) (st2 := [.int v4.1]) (cl2 := 0) (sl2 := 0) (ct_X11_doStorm (a1 := a1) (M_savedMany := v3.1) (M_isTaken := M_isTaken) (M_length := M_length) (M_thrown := v2.2) (M_spelt := M_spelt) (M_speltMany := M_speltMany) (M_place := M_place) (M_kind := M_kind) (M_one := M_one) (M_two := M_two) (M_three := M_three) (M_begins := M_begins) (M_done := M_done) (M_stopBy := M_stopBy) (M_hash := M_hash) (M_s := M_s) (M_saved := v3.2) (M_snapshot := M_snapshot) (M_text := M_text) hv4) dX11_storm_27 w1244 ⟨w1246, w31⟩ cal_X11_doStorm rfl ⟨⟨Nat.le_of_ble_eq_true rfl, Nat.le_of_ble_eq_true rfl⟩, Nat.le_of_ble_eq_true rfl, Nat.le_of_ble_eq_true rfl⟩ (Nat.le_of_ble_eq_true rfl) (Or.inl ⟨_, _, _, _, rfl, rfl⟩) rfl ⟨rfl, ⟨by decide, by decide⟩, rfl, (fr_cons (Or.inl (Nat.le_of_ble_eq_true rfl)) (fr_cons (Or.inl (Nat.le_of_ble_eq_true rfl)) (fr_cons (Or.inl (Nat.le_of_ble_eq_true rfl)) (fr_cons (Or.inl (Nat.le_of_ble_eq_true rfl)) (fr_nil))))), rfl⟩ fr_i rfl rfl rfl rfl ?_
      obtain rfl := Option.some.inj hf
      exact V.iret dX11_storm_30 rfl (Nat.le_of_ble_eq_true rfl) (Nat.le_of_ble_eq_true rfl) rfl
    · have hf := fif_t h hf
      refine V.iconst (v := 0) dX11_storm_19 rfl ?_
      obtain rfl := Option.some.inj hf
      exact V.iret dX11_storm_20 rfl (Nat.le_of_ble_eq_true rfl) (Nat.le_of_ble_eq_true rfl) rfl
  · have hf := fif_f h hf
    refine V.iconst (v := 0) dX11_storm_8 rfl ?_
    refine V.goto (tgt := 13) dX11_storm_9 (by decide) ?_
    obtain ⟨v5, hv5, hf⟩ := fbind hf
    refine V.callVn (pl := [0, 1, 2, 3, 4]) (σ' := [.inl (6, [.ref 1, .ref 2, .int M_savedMany, .ref 3, .int M_isTaken, .ref 4, .int M_length, .int v5.2, .int M_spelt, .int M_speltMany, .int M_place, .int M_kind, .int M_one, .int M_two, .int M_three, .int M_begins, .int M_done, .int M_stopBy, .long M_hash]), .inr (406, .inl M_s), .inr (2436, .inl M_saved), .inr (406, .inl M_snapshot), .inr (60, .inl M_text)]) (st2 := [.int v5.1]) (cl2 := 0) (sl2 := 0) (ct_X11_holds (a1 := 0) (M_savedMany := M_savedMany) (M_isTaken := M_isTaken) (M_length := M_length) (M_thrown := M_thrown) (M_spelt := M_spelt) (M_speltMany := M_speltMany) (M_place := M_place) (M_kind := M_kind) (M_one := M_one) (M_two := M_two) (M_three := M_three) (M_begins := M_begins) (M_done := M_done) (M_stopBy := M_stopBy) (M_hash := M_hash) (M_s := M_s) (M_saved := M_saved) (M_snapshot := M_snapshot) (M_text := M_text) hv5) dX11_storm_13 w1181 ⟨w1183, w20⟩ cal_X11_holds rfl ⟨⟨Nat.le_of_ble_eq_true rfl, Nat.le_of_ble_eq_true rfl⟩, Nat.le_of_ble_eq_true rfl, Nat.le_of_ble_eq_true rfl⟩ (Nat.le_of_ble_eq_true rfl) (Or.inl ⟨_, _, _, _, rfl, rfl⟩) rfl ⟨rfl, ⟨by decide, by decide⟩, rfl, (fr_cons (Or.inl (Nat.le_of_ble_eq_true rfl)) (fr_cons (Or.inl (Nat.le_of_ble_eq_true rfl)) (fr_cons (Or.inl (Nat.le_of_ble_eq_true rfl)) (fr_cons (Or.inl (Nat.le_of_ble_eq_true rfl)) (fr_nil))))), rfl⟩ fr_i rfl rfl rfl rfl ?_
    refine V.if_ne (tgt := 21) dX11_storm_16 (by decide) (fun h => ?_) (fun h => ?_)
    · have hf := fif_f h hf
      refine V.aload_n (i := 0) dX11_storm_21 rfl rfl ?_
      obtain ⟨v6, hv6, hf⟩ := fbind hf
      refine V.callVn (pl := [0, 1, 2, 3, 4]) (σ' := [.inl (6, [.ref 1, .ref 2, .int v6.1, .ref 3, .int M_isTaken, .ref 4, .int M_length, .int v5.2, .int M_spelt, .int M_speltMany, .int M_place, .int M_kind, .int M_one, .int M_two, .int M_three, .int M_begins, .int M_done, .int M_stopBy, .long M_hash]), .inr (406, .inl M_s), .inr (2436, .inl v6.2), .inr (406, .inl M_snapshot), .inr (60, .inl M_text)]) (st2 := []) (cl2 := 0) (sl2 := 0) (ct_X11_save (M_savedMany := M_savedMany) (M_isTaken := M_isTaken) (M_length := M_length) (M_thrown := v5.2) (M_spelt := M_spelt) (M_speltMany := M_speltMany) (M_place := M_place) (M_kind := M_kind) (M_one := M_one) (M_two := M_two) (M_three := M_three) (M_begins := M_begins) (M_done := M_done) (M_stopBy := M_stopBy) (M_hash := M_hash) (M_s := M_s) (M_saved := M_saved) (M_snapshot := M_snapshot) (M_text := M_text) hv6) dX11_storm_22 w1185 ⟨w1187, w21⟩ cal_X11_save rfl ⟨⟨Nat.le_of_ble_eq_true rfl, Nat.le_of_ble_eq_true rfl⟩, Nat.le_of_ble_eq_true rfl, Nat.le_of_ble_eq_true rfl⟩ (Nat.le_of_ble_eq_true rfl) (Or.inl ⟨_, _, _, _, rfl, rfl⟩) rfl ⟨rfl, ⟨by decide, by decide⟩, rfl, (fr_cons (Or.inl (Nat.le_of_ble_eq_true rfl)) (fr_cons (Or.inl (Nat.le_of_ble_eq_true rfl)) (fr_cons (Or.inl (Nat.le_of_ble_eq_true rfl)) (fr_cons (Or.inl (Nat.le_of_ble_eq_true rfl)) (fr_nil))))), rfl⟩ fr_v rfl rfl rfl rfl ?_
      refine V.aload_n (i := 0) dX11_storm_25 rfl rfl ?_
      refine V.iload_n (i := 1) dX11_storm_26 rfl rfl ?_
      obtain ⟨v7, hv7, hf⟩ := fbind hf
      refine V.callVn (pl := [0, 1, 2, 3, 4]) (σ' := [.inl (6, [.ref 1, .ref 2, .int v6.1, .ref 3, .int M_isTaken, .ref 4, .int M_length, .int v5.2, .int M_spelt, .int M_speltMany, .int M_place, .int M_kind, .int M_one, .int M_two, .int M_three, .int M_begins, .int M_done, .int M_stopBy, .long M_hash]), .inr (406, .inl v7.2), .inr (2436, .inl v6.2), .inr (406, .inl M_snapshot), .inr (60, .inl M_text)]) (st2 := [.int v7.1]) (cl2 := 0) (sl2 := 0) (ct_X11_doStorm (a1 := a1) (M_savedMany := v6.1) (M_isTaken := M_isTaken) (M_length := M_length) (M_thrown := v5.2) (M_spelt := M_spelt) (M_speltMany := M_speltMany) (M_place := M_place) (M_kind := M_kind) (M_one := M_one) (M_two := M_two) (M_three := M_three) (M_begins := M_begins) (M_done := M_done) (M_stopBy := M_stopBy) (M_hash := M_hash) (M_s := M_s) (M_saved := v6.2) (M_snapshot := M_snapshot) (M_text := M_text) hv7) dX11_storm_27 w1244 ⟨w1246, w31⟩ cal_X11_doStorm rfl ⟨⟨Nat.le_of_ble_eq_true rfl, Nat.le_of_ble_eq_true rfl⟩, Nat.le_of_ble_eq_true rfl, Nat.le_of_ble_eq_true rfl⟩ (Nat.le_of_ble_eq_true rfl) (Or.inl ⟨_, _, _, _, rfl, rfl⟩) rfl ⟨rfl, ⟨by decide, by decide⟩, rfl, (fr_cons (Or.inl (Nat.le_of_ble_eq_true rfl)) (fr_cons (Or.inl (Nat.le_of_ble_eq_true rfl)) (fr_cons (Or.inl (Nat.le_of_ble_eq_true rfl)) (fr_cons (Or.inl (Nat.le_of_ble_eq_true rfl)) (fr_nil))))), rfl⟩ fr_i rfl rfl rfl rfl ?_
      obtain rfl := Option.some.inj hf
      exact V.iret dX11_storm_30 rfl (Nat.le_of_ble_eq_true rfl) (Nat.le_of_ble_eq_true rfl) rfl
    · have hf := fif_t h hf
      refine V.iconst (v := 0) dX11_storm_19 rfl ?_
      obtain rfl := Option.some.inj hf
      exact V.iret dX11_storm_20 rfl (Nat.le_of_ble_eq_true rfl) (Nat.le_of_ble_eq_true rfl) rfl
def k_X11_belt : fK := (yX11_belt, cX11_belt, 4, (some .int), [], (5, 107), (0, 0), (0, 0))
theorem cal_X11_belt : fCal k_X11_belt 2 := ⟨⟨wc1262, w73⟩, ⟨by decide +kernel, by decide +kernel⟩, by decide +kernel, by decide +kernel⟩
def s_X11_belt (a1 : Int32) (a2 : Int32) (M_savedMany : Int32) (M_thrown : Int32) (M_s : Nat → Int32) (M_saved : Nat → Int32) : Option (Int32 × (Int32) × (Int32) × (Nat → Int32) × (Nat → Int32)) := (s_X11_isFisher a1).bind fun v1 => if (v1 = 0 : Prop) then ((s_X11_holds 1 M_thrown).bind fun v16 => if (v16.1 = 0 : Prop) then (some (0, M_savedMany, v16.2, M_s, M_saved)) else ((s_X11_save M_savedMany M_s M_saved).bind fun v17 => (s_X11_of a1 0 M_s).bind fun v18 => (s_X11_add a1 0 (a2 - v18) M_s).bind fun v19 => some (v18, v17.1, v16.2, v19, v17.2))) else ((s_X11_in a2 20 120).bind fun v2 => if (v2 = 0 : Prop) then ((s_X11_holds 2 M_thrown).bind fun v12 => if (v12.1 = 0 : Prop) then (some (0, M_savedMany, v12.2, M_s, M_saved)) else ((s_X11_save M_savedMany M_s M_saved).bind fun v13 => (s_X11_of a1 0 M_s).bind fun v14 => (s_X11_add a1 0 (a2 - v14) M_s).bind fun v15 => some (v14, v13.1, v12.2, v15, v13.2))) else ((s_X11_cordOn a1 M_s).bind fun v3 => if (v3 ≤ a2 : Prop) then ((s_X11_holds 0 M_thrown).bind fun v4 => if (v4.1 = 0 : Prop) then (some (0, M_savedMany, v4.2, M_s, M_saved)) else ((s_X11_save M_savedMany M_s M_saved).bind fun v5 => (s_X11_of a1 0 M_s).bind fun v6 => (s_X11_add a1 0 (a2 - v6) M_s).bind fun v7 => some (v6, v5.1, v4.2, v7, v5.2))) else ((s_X11_holds 3 M_thrown).bind fun v8 => if (v8.1 = 0 : Prop) then (some (0, M_savedMany, v8.2, M_s, M_saved)) else ((s_X11_save M_savedMany M_s M_saved).bind fun v9 => (s_X11_of a1 0 M_s).bind fun v10 => (s_X11_add a1 0 (a2 - v10) M_s).bind fun v11 => some (v10, v9.1, v8.2, v11, v9.2)))))
set_option maxHeartbeats 4000000 in
set_option maxRecDepth 100000 in
theorem ct_X11_belt {a1 : Int32} {a2 : Int32} {M_savedMany : Int32} {M_isTaken : Int32} {M_length : Int32} {M_thrown : Int32} {M_spelt : Int32} {M_speltMany : Int32} {M_place : Int32} {M_kind : Int32} {M_one : Int32} {M_two : Int32} {M_three : Int32} {M_begins : Int32} {M_done : Int32} {M_stopBy : Int32} {M_hash : Int64} {M_s : Nat → Int32} {M_saved : Nat → Int32} {M_snapshot : Nat → Int32} {M_text : Nat → Int32} {res : Int32 × (Int32) × (Int32) × (Nat → Int32) × (Nat → Int32)} (hf : s_X11_belt a1 a2 M_savedMany M_thrown M_s M_saved = some res) : Ct k_X11_belt [.ref 0, .int a1, .int a2] [.inl (6, [.ref 1, .ref 2, .int M_savedMany, .ref 3, .int M_isTaken, .ref 4, .int M_length, .int M_thrown, .int M_spelt, .int M_speltMany, .int M_place, .int M_kind, .int M_one, .int M_two, .int M_three, .int M_begins, .int M_done, .int M_stopBy, .long M_hash]), .inr (406, .inl M_s), .inr (2436, .inl M_saved), .inr (406, .inl M_snapshot), .inr (60, .inl M_text)] (.inl (some (.int res.1))) [.inl (6, [.ref 1, .ref 2, .int res.2.1, .ref 3, .int M_isTaken, .ref 4, .int M_length, .int res.2.2.1, .int M_spelt, .int M_speltMany, .int M_place, .int M_kind, .int M_one, .int M_two, .int M_three, .int M_begins, .int M_done, .int M_stopBy, .long M_hash]), .inr (406, .inl res.2.2.2.1), .inr (2436, .inl res.2.2.2.2), .inr (406, .inl M_snapshot), .inr (60, .inl M_text)] := by
  unfold s_X11_belt at hf
  refine Ct.of (L := [some (.ref 0), some (.int a1), some (.int a2), none]) cal_X11_belt (fent_pad (j := 1) rfl) (Nat.le_of_ble_eq_true rfl) ?_
  refine V.aload_n (i := 0) dX11_belt_0 rfl rfl ?_
  refine V.iload_n (i := 1) dX11_belt_1 rfl rfl ?_
  obtain ⟨v1, hv1, hf⟩ := fbind hf
  refine V.callSn (pl := []) (σ' := [.inl (6, [.ref 1, .ref 2, .int M_savedMany, .ref 3, .int M_isTaken, .ref 4, .int M_length, .int M_thrown, .int M_spelt, .int M_speltMany, .int M_place, .int M_kind, .int M_one, .int M_two, .int M_three, .int M_begins, .int M_done, .int M_stopBy, .long M_hash]), .inr (406, .inl M_s), .inr (2436, .inl M_saved), .inr (406, .inl M_snapshot), .inr (60, .inl M_text)]) (st2 := [.int v1, .ref 0]) (cl2 := 0) (sl2 := 0) (ct_X11_isFisher (a0 := a1) hv1) dX11_belt_2 w1116 w1117 cal_X11_isFisher ⟨⟨Nat.le_of_ble_eq_true rfl, Nat.le_of_ble_eq_true rfl⟩, Nat.le_of_ble_eq_true rfl, Nat.le_of_ble_eq_true rfl⟩ (Nat.le_of_ble_eq_true rfl) rfl ⟨rfl, ⟨by decide, by decide⟩, rfl, (fr_nil), rfl⟩ fr_i rfl rfl rfl rfl ?_
  refine V.if_ne (tgt := 12) dX11_belt_5 (by decide) (fun h => ?_) (fun h => ?_)
  · have hf := fif_f h hf
    refine V.iload_n (i := 2) dX11_belt_12 rfl rfl ?_
    refine V.bipush (v := 20) dX11_belt_13 rfl ?_
    refine V.bipush (v := 120) dX11_belt_15 rfl ?_
    obtain ⟨v2, hv2, hf⟩ := fbind hf
    refine V.callSn (pl := []) (σ' := [.inl (6, [.ref 1, .ref 2, .int M_savedMany, .ref 3, .int M_isTaken, .ref 4, .int M_length, .int M_thrown, .int M_spelt, .int M_speltMany, .int M_place, .int M_kind, .int M_one, .int M_two, .int M_three, .int M_begins, .int M_done, .int M_stopBy, .long M_hash]), .inr (406, .inl M_s), .inr (2436, .inl M_saved), .inr (406, .inl M_snapshot), .inr (60, .inl M_text)]) (st2 := [.int v2, .ref 0]) (cl2 := 0) (sl2 := 0) (ct_X11_in (a0 := a2) (a1 := 20) (a2 := 120) hv2) dX11_belt_17 w1113 w1114 cal_X11_in ⟨⟨Nat.le_of_ble_eq_true rfl, Nat.le_of_ble_eq_true rfl⟩, Nat.le_of_ble_eq_true rfl, Nat.le_of_ble_eq_true rfl⟩ (Nat.le_of_ble_eq_true rfl) rfl ⟨rfl, ⟨by decide, by decide⟩, rfl, (fr_nil), rfl⟩ fr_i rfl rfl rfl rfl ?_
    refine V.if_ne (tgt := 27) dX11_belt_20 (by decide) (fun h => ?_) (fun h => ?_)
    · have hf := fif_f h hf
      refine V.aload_n (i := 0) dX11_belt_27 rfl rfl ?_
      refine V.iload_n (i := 1) dX11_belt_28 rfl rfl ?_
      obtain ⟨v3, hv3, hf⟩ := fbind hf
      refine V.callVn (pl := [0, 1, 2, 3, 4]) (σ' := [.inl (6, [.ref 1, .ref 2, .int M_savedMany, .ref 3, .int M_isTaken, .ref 4, .int M_length, .int M_thrown, .int M_spelt, .int M_speltMany, .int M_place, .int M_kind, .int M_one, .int M_two, .int M_three, .int M_begins, .int M_done, .int M_stopBy, .long M_hash]), .inr (406, .inl M_s), .inr (2436, .inl M_saved), .inr (406, .inl M_snapshot), .inr (60, .inl M_text)]) (st2 := [.int v3, .ref 0]) (cl2 := 0) (sl2 := 0) (ct_X11_cordOn (a1 := a1) (M_savedMany := M_savedMany) (M_isTaken := M_isTaken) (M_length := M_length) (M_thrown := M_thrown) (M_spelt := M_spelt) (M_speltMany := M_speltMany) (M_place := M_place) (M_kind := M_kind) (M_one := M_one) (M_two := M_two) (M_three := M_three) (M_begins := M_begins) (M_done := M_done) (M_stopBy := M_stopBy) (M_hash := M_hash) (M_s := M_s) (M_saved := M_saved) (M_snapshot := M_snapshot) (M_text := M_text) hv3) dX11_belt_29 w1143 ⟨w1145, w12⟩ cal_X11_cordOn rfl ⟨⟨Nat.le_of_ble_eq_true rfl, Nat.le_of_ble_eq_true rfl⟩, Nat.le_of_ble_eq_true rfl, Nat.le_of_ble_eq_true rfl⟩ (Nat.le_of_ble_eq_true rfl) (Or.inl ⟨_, _, _, _, rfl, rfl⟩) rfl ⟨rfl, ⟨by decide, by decide⟩, rfl, (fr_cons (Or.inl (Nat.le_of_ble_eq_true rfl)) (fr_cons (Or.inl (Nat.le_of_ble_eq_true rfl)) (fr_cons (Or.inl (Nat.le_of_ble_eq_true rfl)) (fr_cons (Or.inl (Nat.le_of_ble_eq_true rfl)) (fr_nil))))), rfl⟩ fr_i rfl rfl rfl rfl ?_
      refine V.iload_n (i := 2) dX11_belt_32 rfl rfl ?_
      refine V.icmp_le (tgt := 40) dX11_belt_33 (by decide) (fun h => ?_) (fun h => ?_)
      · have hf := fif_t h hf
        refine V.iconst (v := 0) dX11_belt_40 rfl ?_
        obtain ⟨v4, hv4, hf⟩ := fbind hf
        refine V.callVn (pl := [0, 1, 2, 3, 4]) (σ' := [.inl (6, [.ref 1, .ref 2, .int M_savedMany, .ref 3, .int M_isTaken, .ref 4, .int M_length, .int v4.2, .int M_spelt, .int M_speltMany, .int M_place, .int M_kind, .int M_one, .int M_two, .int M_three, .int M_begins, .int M_done, .int M_stopBy, .long M_hash]), .inr (406, .inl M_s), .inr (2436, .inl M_saved), .inr (406, .inl M_snapshot), .inr (60, .inl M_text)]) (st2 := [.int v4.1]) (cl2 := 0) (sl2 := 0) (ct_X11_holds (a1 := 0) (M_savedMany := M_savedMany) (M_isTaken := M_isTaken) (M_length := M_length) (M_thrown := M_thrown) (M_spelt := M_spelt) (M_speltMany := M_speltMany) (M_place := M_place) (M_kind := M_kind) (M_one := M_one) (M_two := M_two) (M_three := M_three) (M_begins := M_begins) (M_done := M_done) (M_stopBy := M_stopBy) (M_hash := M_hash) (M_s := M_s) (M_saved := M_saved) (M_snapshot := M_snapshot) (M_text := M_text) hv4) dX11_belt_41 w1181 ⟨w1183, w20⟩ cal_X11_holds rfl ⟨⟨Nat.le_of_ble_eq_true rfl, Nat.le_of_ble_eq_true rfl⟩, Nat.le_of_ble_eq_true rfl, Nat.le_of_ble_eq_true rfl⟩ (Nat.le_of_ble_eq_true rfl) (Or.inl ⟨_, _, _, _, rfl, rfl⟩) rfl ⟨rfl, ⟨by decide, by decide⟩, rfl, (fr_cons (Or.inl (Nat.le_of_ble_eq_true rfl)) (fr_cons (Or.inl (Nat.le_of_ble_eq_true rfl)) (fr_cons (Or.inl (Nat.le_of_ble_eq_true rfl)) (fr_cons (Or.inl (Nat.le_of_ble_eq_true rfl)) (fr_nil))))), rfl⟩ fr_i rfl rfl rfl rfl ?_
        refine V.if_ne (tgt := 49) dX11_belt_44 (by decide) (fun h => ?_) (fun h => ?_)
        · have hf := fif_f h hf
          refine V.aload_n (i := 0) dX11_belt_49 rfl rfl ?_
          obtain ⟨v5, hv5, hf⟩ := fbind hf
          refine V.callVn (pl := [0, 1, 2, 3, 4]) (σ' := [.inl (6, [.ref 1, .ref 2, .int v5.1, .ref 3, .int M_isTaken, .ref 4, .int M_length, .int v4.2, .int M_spelt, .int M_speltMany, .int M_place, .int M_kind, .int M_one, .int M_two, .int M_three, .int M_begins, .int M_done, .int M_stopBy, .long M_hash]), .inr (406, .inl M_s), .inr (2436, .inl v5.2), .inr (406, .inl M_snapshot), .inr (60, .inl M_text)]) (st2 := []) (cl2 := 0) (sl2 := 0) (ct_X11_save (M_savedMany := M_savedMany) (M_isTaken := M_isTaken) (M_length := M_length) (M_thrown := v4.2) (M_spelt := M_spelt) (M_speltMany := M_speltMany) (M_place := M_place) (M_kind := M_kind) (M_one := M_one) (M_two := M_two) (M_three := M_three) (M_begins := M_begins) (M_done := M_done) (M_stopBy := M_stopBy) (M_hash := M_hash) (M_s := M_s) (M_saved := M_saved) (M_snapshot := M_snapshot) (M_text := M_text) hv5) dX11_belt_50 w1185 ⟨w1187, w21⟩ cal_X11_save rfl ⟨⟨Nat.le_of_ble_eq_true rfl, Nat.le_of_ble_eq_true rfl⟩, Nat.le_of_ble_eq_true rfl, Nat.le_of_ble_eq_true rfl⟩ (Nat.le_of_ble_eq_true rfl) (Or.inl ⟨_, _, _, _, rfl, rfl⟩) rfl ⟨rfl, ⟨by decide, by decide⟩, rfl, (fr_cons (Or.inl (Nat.le_of_ble_eq_true rfl)) (fr_cons (Or.inl (Nat.le_of_ble_eq_true rfl)) (fr_cons (Or.inl (Nat.le_of_ble_eq_true rfl)) (fr_cons (Or.inl (Nat.le_of_ble_eq_true rfl)) (fr_nil))))), rfl⟩ fr_v rfl rfl rfl rfl ?_
          refine V.aload_n (i := 0) dX11_belt_53 rfl rfl ?_
          refine V.iload_n (i := 1) dX11_belt_54 rfl rfl ?_
          refine V.iconst (v := 0) dX11_belt_55 rfl ?_
          obtain ⟨v6, hv6, hf⟩ := fbind hf
          refine V.callVn (pl := [0, 1, 2, 3, 4]) (σ' := [.inl (6, [.ref 1, .ref 2, .int v5.1, .ref 3, .int M_isTaken, .ref 4, .int M_length, .int v4.2, .int M_spelt, .int M_speltMany, .int M_place, .int M_kind, .int M_one, .int M_two, .int M_three, .int M_begins, .int M_done, .int M_stopBy, .long M_hash]), .inr (406, .inl M_s), .inr (2436, .inl v5.2), .inr (406, .inl M_snapshot), .inr (60, .inl M_text)]) (st2 := [.int v6]) (cl2 := 0) (sl2 := 0) (ct_X11_of (a1 := a1) (a2 := 0) (M_savedMany := v5.1) (M_isTaken := M_isTaken) (M_length := M_length) (M_thrown := v4.2) (M_spelt := M_spelt) (M_speltMany := M_speltMany) (M_place := M_place) (M_kind := M_kind) (M_one := M_one) (M_two := M_two) (M_three := M_three) (M_begins := M_begins) (M_done := M_done) (M_stopBy := M_stopBy) (M_hash := M_hash) (M_s := M_s) (M_saved := v5.2) (M_snapshot := M_snapshot) (M_text := M_text) hv6) dX11_belt_56 w1123 ⟨w1125, w10⟩ cal_X11_of rfl ⟨⟨Nat.le_of_ble_eq_true rfl, Nat.le_of_ble_eq_true rfl⟩, Nat.le_of_ble_eq_true rfl, Nat.le_of_ble_eq_true rfl⟩ (Nat.le_of_ble_eq_true rfl) (Or.inl ⟨_, _, _, _, rfl, rfl⟩) rfl ⟨rfl, ⟨by decide, by decide⟩, rfl, (fr_cons (Or.inl (Nat.le_of_ble_eq_true rfl)) (fr_cons (Or.inl (Nat.le_of_ble_eq_true rfl)) (fr_cons (Or.inl (Nat.le_of_ble_eq_true rfl)) (fr_cons (Or.inl (Nat.le_of_ble_eq_true rfl)) (fr_nil))))), rfl⟩ fr_i rfl rfl rfl rfl ?_
          refine V.istore_n (i := 3) (L' := [some (.ref 0), some (.int a1), some (.int a2), some (.int v6)]) dX11_belt_59 rfl (Nat.le_of_ble_eq_true rfl) rfl rfl ?_
          refine V.aload_n (i := 0) dX11_belt_60 rfl rfl ?_
          refine V.iload_n (i := 1) dX11_belt_61 rfl rfl ?_
          refine V.iconst (v := 0) dX11_belt_62 rfl ?_
          refine V.iload_n (i := 2) dX11_belt_63 rfl rfl ?_
          refine V.iload_n (i := 3) dX11_belt_64 rfl rfl ?_
          refine V.isub dX11_belt_65 ?_
          obtain ⟨v7, hv7, hf⟩ := fbind hf
          refine V.callVn (pl := [0, 1, 2, 3, 4]) (σ' := [.inl (6, [.ref 1, .ref 2, .int v5.1, .ref 3, .int M_isTaken, .ref 4, .int M_length, .int v4.2, .int M_spelt, .int M_speltMany, .int M_place, .int M_kind, .int M_one, .int M_two, .int M_three, .int M_begins, .int M_done, .int M_stopBy, .long M_hash]), .inr (406, .inl v7), .inr (2436, .inl v5.2), .inr (406, .inl M_snapshot), .inr (60, .inl M_text)]) (st2 := []) (cl2 := 0) (sl2 := 0) (ct_X11_add (a1 := a1) (a2 := 0) (a3 := (a2 - v6)) (M_savedMany := v5.1) (M_isTaken := M_isTaken) (M_length := M_length) (M_thrown := v4.2) (M_spelt := M_spelt) (M_speltMany := M_speltMany) (M_place := M_place) (M_kind := M_kind) (M_one := M_one) (M_two := M_two) (M_three := M_three) (M_begins := M_begins) (M_done := M_done) (M_stopBy := M_stopBy) (M_hash := M_hash) (M_s := M_s) (M_saved := v5.2) (M_snapshot := M_snapshot) (M_text := M_text) hv7) dX11_belt_66 w1196 ⟨w1198, w23⟩ cal_X11_add rfl ⟨⟨Nat.le_of_ble_eq_true rfl, Nat.le_of_ble_eq_true rfl⟩, Nat.le_of_ble_eq_true rfl, Nat.le_of_ble_eq_true rfl⟩ (Nat.le_of_ble_eq_true rfl) (Or.inl ⟨_, _, _, _, rfl, rfl⟩) rfl ⟨rfl, ⟨by decide, by decide⟩, rfl, (fr_cons (Or.inl (Nat.le_of_ble_eq_true rfl)) (fr_cons (Or.inl (Nat.le_of_ble_eq_true rfl)) (fr_cons (Or.inl (Nat.le_of_ble_eq_true rfl)) (fr_cons (Or.inl (Nat.le_of_ble_eq_true rfl)) (fr_nil))))), rfl⟩ fr_v rfl rfl rfl rfl ?_
          refine V.iload_n (i := 3) dX11_belt_69 rfl rfl ?_
          obtain rfl := Option.some.inj hf
          exact V.iret dX11_belt_70 rfl (Nat.le_of_ble_eq_true rfl) (Nat.le_of_ble_eq_true rfl) rfl
        · have hf := fif_t h hf
          refine V.iconst (v := 0) dX11_belt_47 rfl ?_
          obtain rfl := Option.some.inj hf
          exact V.iret dX11_belt_48 rfl (Nat.le_of_ble_eq_true rfl) (Nat.le_of_ble_eq_true rfl) rfl
      · have hf := fif_f h hf
        refine V.iconst (v := 3) dX11_belt_36 rfl ?_
        refine V.goto (tgt := 41) dX11_belt_37 (by decide) ?_
        obtain ⟨v8, hv8, hf⟩ := fbind hf
        refine V.callVn (pl := [0, 1, 2, 3, 4]) (σ' := [.inl (6, [.ref 1, .ref 2, .int M_savedMany, .ref 3, .int M_isTaken, .ref 4, .int M_length, .int v8.2, .int M_spelt, .int M_speltMany, .int M_place, .int M_kind, .int M_one, .int M_two, .int M_three, .int M_begins, .int M_done, .int M_stopBy, .long M_hash]), .inr (406, .inl M_s), .inr (2436, .inl M_saved), .inr (406, .inl M_snapshot), .inr (60, .inl M_text)]) (st2 := [.int v8.1]) (cl2 := 0) (sl2 := 0) (ct_X11_holds (a1 := 3) (M_savedMany := M_savedMany) (M_isTaken := M_isTaken) (M_length := M_length) (M_thrown := M_thrown) (M_spelt := M_spelt) (M_speltMany := M_speltMany) (M_place := M_place) (M_kind := M_kind) (M_one := M_one) (M_two := M_two) (M_three := M_three) (M_begins := M_begins) (M_done := M_done) (M_stopBy := M_stopBy) (M_hash := M_hash) (M_s := M_s) (M_saved := M_saved) (M_snapshot := M_snapshot) (M_text := M_text) hv8) dX11_belt_41 w1181 ⟨w1183, w20⟩ cal_X11_holds rfl ⟨⟨Nat.le_of_ble_eq_true rfl, Nat.le_of_ble_eq_true rfl⟩, Nat.le_of_ble_eq_true rfl, Nat.le_of_ble_eq_true rfl⟩ (Nat.le_of_ble_eq_true rfl) (Or.inl ⟨_, _, _, _, rfl, rfl⟩) rfl ⟨rfl, ⟨by decide, by decide⟩, rfl, (fr_cons (Or.inl (Nat.le_of_ble_eq_true rfl)) (fr_cons (Or.inl (Nat.le_of_ble_eq_true rfl)) (fr_cons (Or.inl (Nat.le_of_ble_eq_true rfl)) (fr_cons (Or.inl (Nat.le_of_ble_eq_true rfl)) (fr_nil))))), rfl⟩ fr_i rfl rfl rfl rfl ?_
        refine V.if_ne (tgt := 49) dX11_belt_44 (by decide) (fun h => ?_) (fun h => ?_)
        · have hf := fif_f h hf
          refine V.aload_n (i := 0) dX11_belt_49 rfl rfl ?_
          obtain ⟨v9, hv9, hf⟩ := fbind hf
          refine V.callVn (pl := [0, 1, 2, 3, 4]) (σ' := [.inl (6, [.ref 1, .ref 2, .int v9.1, .ref 3, .int M_isTaken, .ref 4, .int M_length, .int v8.2, .int M_spelt, .int M_speltMany, .int M_place, .int M_kind, .int M_one, .int M_two, .int M_three, .int M_begins, .int M_done, .int M_stopBy, .long M_hash]), .inr (406, .inl M_s), .inr (2436, .inl v9.2), .inr (406, .inl M_snapshot), .inr (60, .inl M_text)]) (st2 := []) (cl2 := 0) (sl2 := 0) (ct_X11_save (M_savedMany := M_savedMany) (M_isTaken := M_isTaken) (M_length := M_length) (M_thrown := v8.2) (M_spelt := M_spelt) (M_speltMany := M_speltMany) (M_place := M_place) (M_kind := M_kind) (M_one := M_one) (M_two := M_two) (M_three := M_three) (M_begins := M_begins) (M_done := M_done) (M_stopBy := M_stopBy) (M_hash := M_hash) (M_s := M_s) (M_saved := M_saved) (M_snapshot := M_snapshot) (M_text := M_text) hv9) dX11_belt_50 w1185 ⟨w1187, w21⟩ cal_X11_save rfl ⟨⟨Nat.le_of_ble_eq_true rfl, Nat.le_of_ble_eq_true rfl⟩, Nat.le_of_ble_eq_true rfl, Nat.le_of_ble_eq_true rfl⟩ (Nat.le_of_ble_eq_true rfl) (Or.inl ⟨_, _, _, _, rfl, rfl⟩) rfl ⟨rfl, ⟨by decide, by decide⟩, rfl, (fr_cons (Or.inl (Nat.le_of_ble_eq_true rfl)) (fr_cons (Or.inl (Nat.le_of_ble_eq_true rfl)) (fr_cons (Or.inl (Nat.le_of_ble_eq_true rfl)) (fr_cons (Or.inl (Nat.le_of_ble_eq_true rfl)) (fr_nil))))), rfl⟩ fr_v rfl rfl rfl rfl ?_
          refine V.aload_n (i := 0) dX11_belt_53 rfl rfl ?_
          refine V.iload_n (i := 1) dX11_belt_54 rfl rfl ?_
          refine V.iconst (v := 0) dX11_belt_55 rfl ?_
          obtain ⟨v10, hv10, hf⟩ := fbind hf
          refine V.callVn (pl := [0, 1, 2, 3, 4]) (σ' := [.inl (6, [.ref 1, .ref 2, .int v9.1, .ref 3, .int M_isTaken, .ref 4, .int M_length, .int v8.2, .int M_spelt, .int M_speltMany, .int M_place, .int M_kind, .int M_one, .int M_two, .int M_three, .int M_begins, .int M_done, .int M_stopBy, .long M_hash]), .inr (406, .inl M_s), .inr (2436, .inl v9.2), .inr (406, .inl M_snapshot), .inr (60, .inl M_text)]) (st2 := [.int v10]) (cl2 := 0) (sl2 := 0) (ct_X11_of (a1 := a1) (a2 := 0) (M_savedMany := v9.1) (M_isTaken := M_isTaken) (M_length := M_length) (M_thrown := v8.2) (M_spelt := M_spelt) (M_speltMany := M_speltMany) (M_place := M_place) (M_kind := M_kind) (M_one := M_one) (M_two := M_two) (M_three := M_three) (M_begins := M_begins) (M_done := M_done) (M_stopBy := M_stopBy) (M_hash := M_hash) (M_s := M_s) (M_saved := v9.2) (M_snapshot := M_snapshot) (M_text := M_text) hv10) dX11_belt_56 w1123 ⟨w1125, w10⟩ cal_X11_of rfl ⟨⟨Nat.le_of_ble_eq_true rfl, Nat.le_of_ble_eq_true rfl⟩, Nat.le_of_ble_eq_true rfl, Nat.le_of_ble_eq_true rfl⟩ (Nat.le_of_ble_eq_true rfl) (Or.inl ⟨_, _, _, _, rfl, rfl⟩) rfl ⟨rfl, ⟨by decide, by decide⟩, rfl, (fr_cons (Or.inl (Nat.le_of_ble_eq_true rfl)) (fr_cons (Or.inl (Nat.le_of_ble_eq_true rfl)) (fr_cons (Or.inl (Nat.le_of_ble_eq_true rfl)) (fr_cons (Or.inl (Nat.le_of_ble_eq_true rfl)) (fr_nil))))), rfl⟩ fr_i rfl rfl rfl rfl ?_
          refine V.istore_n (i := 3) (L' := [some (.ref 0), some (.int a1), some (.int a2), some (.int v10)]) dX11_belt_59 rfl (Nat.le_of_ble_eq_true rfl) rfl rfl ?_
          refine V.aload_n (i := 0) dX11_belt_60 rfl rfl ?_
          refine V.iload_n (i := 1) dX11_belt_61 rfl rfl ?_
          refine V.iconst (v := 0) dX11_belt_62 rfl ?_
          refine V.iload_n (i := 2) dX11_belt_63 rfl rfl ?_
          refine V.iload_n (i := 3) dX11_belt_64 rfl rfl ?_
          refine V.isub dX11_belt_65 ?_
          obtain ⟨v11, hv11, hf⟩ := fbind hf
          refine V.callVn (pl := [0, 1, 2, 3, 4]) (σ' := [.inl (6, [.ref 1, .ref 2, .int v9.1, .ref 3, .int M_isTaken, .ref 4, .int M_length, .int v8.2, .int M_spelt, .int M_speltMany, .int M_place, .int M_kind, .int M_one, .int M_two, .int M_three, .int M_begins, .int M_done, .int M_stopBy, .long M_hash]), .inr (406, .inl v11), .inr (2436, .inl v9.2), .inr (406, .inl M_snapshot), .inr (60, .inl M_text)]) (st2 := []) (cl2 := 0) (sl2 := 0) (ct_X11_add (a1 := a1) (a2 := 0) (a3 := (a2 - v10)) (M_savedMany := v9.1) (M_isTaken := M_isTaken) (M_length := M_length) (M_thrown := v8.2) (M_spelt := M_spelt) (M_speltMany := M_speltMany) (M_place := M_place) (M_kind := M_kind) (M_one := M_one) (M_two := M_two) (M_three := M_three) (M_begins := M_begins) (M_done := M_done) (M_stopBy := M_stopBy) (M_hash := M_hash) (M_s := M_s) (M_saved := v9.2) (M_snapshot := M_snapshot) (M_text := M_text) hv11) dX11_belt_66 w1196 ⟨w1198, w23⟩ cal_X11_add rfl ⟨⟨Nat.le_of_ble_eq_true rfl, Nat.le_of_ble_eq_true rfl⟩, Nat.le_of_ble_eq_true rfl, Nat.le_of_ble_eq_true rfl⟩ (Nat.le_of_ble_eq_true rfl) (Or.inl ⟨_, _, _, _, rfl, rfl⟩) rfl ⟨rfl, ⟨by decide, by decide⟩, rfl, (fr_cons (Or.inl (Nat.le_of_ble_eq_true rfl)) (fr_cons (Or.inl (Nat.le_of_ble_eq_true rfl)) (fr_cons (Or.inl (Nat.le_of_ble_eq_true rfl)) (fr_cons (Or.inl (Nat.le_of_ble_eq_true rfl)) (fr_nil))))), rfl⟩ fr_v rfl rfl rfl rfl ?_
          refine V.iload_n (i := 3) dX11_belt_69 rfl rfl ?_
          obtain rfl := Option.some.inj hf
          exact V.iret dX11_belt_70 rfl (Nat.le_of_ble_eq_true rfl) (Nat.le_of_ble_eq_true rfl) rfl
        · have hf := fif_t h hf
          refine V.iconst (v := 0) dX11_belt_47 rfl ?_
          obtain rfl := Option.some.inj hf
          exact V.iret dX11_belt_48 rfl (Nat.le_of_ble_eq_true rfl) (Nat.le_of_ble_eq_true rfl) rfl
    · have hf := fif_t h hf
      refine V.iconst (v := 2) dX11_belt_23 rfl ?_
      refine V.goto (tgt := 41) dX11_belt_24 (by decide) ?_
      obtain ⟨v12, hv12, hf⟩ := fbind hf
      refine V.callVn (pl := [0, 1, 2, 3, 4]) (σ' := [.inl (6, [.ref 1, .ref 2, .int M_savedMany, .ref 3, .int M_isTaken, .ref 4, .int M_length, .int v12.2, .int M_spelt, .int M_speltMany, .int M_place, .int M_kind, .int M_one, .int M_two, .int M_three, .int M_begins, .int M_done, .int M_stopBy, .long M_hash]), .inr (406, .inl M_s), .inr (2436, .inl M_saved), .inr (406, .inl M_snapshot), .inr (60, .inl M_text)]) (st2 := [.int v12.1]) (cl2 := 0) (sl2 := 0) (ct_X11_holds (a1 := 2) (M_savedMany := M_savedMany) (M_isTaken := M_isTaken) (M_length := M_length) (M_thrown := M_thrown) (M_spelt := M_spelt) (M_speltMany := M_speltMany) (M_place := M_place) (M_kind := M_kind) (M_one := M_one) (M_two := M_two) (M_three := M_three) (M_begins := M_begins) (M_done := M_done) (M_stopBy := M_stopBy) (M_hash := M_hash) (M_s := M_s) (M_saved := M_saved) (M_snapshot := M_snapshot) (M_text := M_text) hv12) dX11_belt_41 w1181 ⟨w1183, w20⟩ cal_X11_holds rfl ⟨⟨Nat.le_of_ble_eq_true rfl, Nat.le_of_ble_eq_true rfl⟩, Nat.le_of_ble_eq_true rfl, Nat.le_of_ble_eq_true rfl⟩ (Nat.le_of_ble_eq_true rfl) (Or.inl ⟨_, _, _, _, rfl, rfl⟩) rfl ⟨rfl, ⟨by decide, by decide⟩, rfl, (fr_cons (Or.inl (Nat.le_of_ble_eq_true rfl)) (fr_cons (Or.inl (Nat.le_of_ble_eq_true rfl)) (fr_cons (Or.inl (Nat.le_of_ble_eq_true rfl)) (fr_cons (Or.inl (Nat.le_of_ble_eq_true rfl)) (fr_nil))))), rfl⟩ fr_i rfl rfl rfl rfl ?_
      refine V.if_ne (tgt := 49) dX11_belt_44 (by decide) (fun h => ?_) (fun h => ?_)
      · have hf := fif_f h hf
        refine V.aload_n (i := 0) dX11_belt_49 rfl rfl ?_
        obtain ⟨v13, hv13, hf⟩ := fbind hf
        refine V.callVn (pl := [0, 1, 2, 3, 4]) (σ' := [.inl (6, [.ref 1, .ref 2, .int v13.1, .ref 3, .int M_isTaken, .ref 4, .int M_length, .int v12.2, .int M_spelt, .int M_speltMany, .int M_place, .int M_kind, .int M_one, .int M_two, .int M_three, .int M_begins, .int M_done, .int M_stopBy, .long M_hash]), .inr (406, .inl M_s), .inr (2436, .inl v13.2), .inr (406, .inl M_snapshot), .inr (60, .inl M_text)]) (st2 := []) (cl2 := 0) (sl2 := 0) (ct_X11_save (M_savedMany := M_savedMany) (M_isTaken := M_isTaken) (M_length := M_length) (M_thrown := v12.2) (M_spelt := M_spelt) (M_speltMany := M_speltMany) (M_place := M_place) (M_kind := M_kind) (M_one := M_one) (M_two := M_two) (M_three := M_three) (M_begins := M_begins) (M_done := M_done) (M_stopBy := M_stopBy) (M_hash := M_hash) (M_s := M_s) (M_saved := M_saved) (M_snapshot := M_snapshot) (M_text := M_text) hv13) dX11_belt_50 w1185 ⟨w1187, w21⟩ cal_X11_save rfl ⟨⟨Nat.le_of_ble_eq_true rfl, Nat.le_of_ble_eq_true rfl⟩, Nat.le_of_ble_eq_true rfl, Nat.le_of_ble_eq_true rfl⟩ (Nat.le_of_ble_eq_true rfl) (Or.inl ⟨_, _, _, _, rfl, rfl⟩) rfl ⟨rfl, ⟨by decide, by decide⟩, rfl, (fr_cons (Or.inl (Nat.le_of_ble_eq_true rfl)) (fr_cons (Or.inl (Nat.le_of_ble_eq_true rfl)) (fr_cons (Or.inl (Nat.le_of_ble_eq_true rfl)) (fr_cons (Or.inl (Nat.le_of_ble_eq_true rfl)) (fr_nil))))), rfl⟩ fr_v rfl rfl rfl rfl ?_
        refine V.aload_n (i := 0) dX11_belt_53 rfl rfl ?_
        refine V.iload_n (i := 1) dX11_belt_54 rfl rfl ?_
        refine V.iconst (v := 0) dX11_belt_55 rfl ?_
        obtain ⟨v14, hv14, hf⟩ := fbind hf
        refine V.callVn (pl := [0, 1, 2, 3, 4]) (σ' := [.inl (6, [.ref 1, .ref 2, .int v13.1, .ref 3, .int M_isTaken, .ref 4, .int M_length, .int v12.2, .int M_spelt, .int M_speltMany, .int M_place, .int M_kind, .int M_one, .int M_two, .int M_three, .int M_begins, .int M_done, .int M_stopBy, .long M_hash]), .inr (406, .inl M_s), .inr (2436, .inl v13.2), .inr (406, .inl M_snapshot), .inr (60, .inl M_text)]) (st2 := [.int v14]) (cl2 := 0) (sl2 := 0) (ct_X11_of (a1 := a1) (a2 := 0) (M_savedMany := v13.1) (M_isTaken := M_isTaken) (M_length := M_length) (M_thrown := v12.2) (M_spelt := M_spelt) (M_speltMany := M_speltMany) (M_place := M_place) (M_kind := M_kind) (M_one := M_one) (M_two := M_two) (M_three := M_three) (M_begins := M_begins) (M_done := M_done) (M_stopBy := M_stopBy) (M_hash := M_hash) (M_s := M_s) (M_saved := v13.2) (M_snapshot := M_snapshot) (M_text := M_text) hv14) dX11_belt_56 w1123 ⟨w1125, w10⟩ cal_X11_of rfl ⟨⟨Nat.le_of_ble_eq_true rfl, Nat.le_of_ble_eq_true rfl⟩, Nat.le_of_ble_eq_true rfl, Nat.le_of_ble_eq_true rfl⟩ (Nat.le_of_ble_eq_true rfl) (Or.inl ⟨_, _, _, _, rfl, rfl⟩) rfl ⟨rfl, ⟨by decide, by decide⟩, rfl, (fr_cons (Or.inl (Nat.le_of_ble_eq_true rfl)) (fr_cons (Or.inl (Nat.le_of_ble_eq_true rfl)) (fr_cons (Or.inl (Nat.le_of_ble_eq_true rfl)) (fr_cons (Or.inl (Nat.le_of_ble_eq_true rfl)) (fr_nil))))), rfl⟩ fr_i rfl rfl rfl rfl ?_
        refine V.istore_n (i := 3) (L' := [some (.ref 0), some (.int a1), some (.int a2), some (.int v14)]) dX11_belt_59 rfl (Nat.le_of_ble_eq_true rfl) rfl rfl ?_
        refine V.aload_n (i := 0) dX11_belt_60 rfl rfl ?_
        refine V.iload_n (i := 1) dX11_belt_61 rfl rfl ?_
        refine V.iconst (v := 0) dX11_belt_62 rfl ?_
        refine V.iload_n (i := 2) dX11_belt_63 rfl rfl ?_
        refine V.iload_n (i := 3) dX11_belt_64 rfl rfl ?_
        refine V.isub dX11_belt_65 ?_
        obtain ⟨v15, hv15, hf⟩ := fbind hf
        refine V.callVn (pl := [0, 1, 2, 3, 4]) (σ' := [.inl (6, [.ref 1, .ref 2, .int v13.1, .ref 3, .int M_isTaken, .ref 4, .int M_length, .int v12.2, .int M_spelt, .int M_speltMany, .int M_place, .int M_kind, .int M_one, .int M_two, .int M_three, .int M_begins, .int M_done, .int M_stopBy, .long M_hash]), .inr (406, .inl v15), .inr (2436, .inl v13.2), .inr (406, .inl M_snapshot), .inr (60, .inl M_text)]) (st2 := []) (cl2 := 0) (sl2 := 0) (ct_X11_add (a1 := a1) (a2 := 0) (a3 := (a2 - v14)) (M_savedMany := v13.1) (M_isTaken := M_isTaken) (M_length := M_length) (M_thrown := v12.2) (M_spelt := M_spelt) (M_speltMany := M_speltMany) (M_place := M_place) (M_kind := M_kind) (M_one := M_one) (M_two := M_two) (M_three := M_three) (M_begins := M_begins) (M_done := M_done) (M_stopBy := M_stopBy) (M_hash := M_hash) (M_s := M_s) (M_saved := v13.2) (M_snapshot := M_snapshot) (M_text := M_text) hv15) dX11_belt_66 w1196 ⟨w1198, w23⟩ cal_X11_add rfl ⟨⟨Nat.le_of_ble_eq_true rfl, Nat.le_of_ble_eq_true rfl⟩, Nat.le_of_ble_eq_true rfl, Nat.le_of_ble_eq_true rfl⟩ (Nat.le_of_ble_eq_true rfl) (Or.inl ⟨_, _, _, _, rfl, rfl⟩) rfl ⟨rfl, ⟨by decide, by decide⟩, rfl, (fr_cons (Or.inl (Nat.le_of_ble_eq_true rfl)) (fr_cons (Or.inl (Nat.le_of_ble_eq_true rfl)) (fr_cons (Or.inl (Nat.le_of_ble_eq_true rfl)) (fr_cons (Or.inl (Nat.le_of_ble_eq_true rfl)) (fr_nil))))), rfl⟩ fr_v rfl rfl rfl rfl ?_
        refine V.iload_n (i := 3) dX11_belt_69 rfl rfl ?_
        obtain rfl := Option.some.inj hf
        exact V.iret dX11_belt_70 rfl (Nat.le_of_ble_eq_true rfl) (Nat.le_of_ble_eq_true rfl) rfl
      · have hf := fif_t h hf
        refine V.iconst (v := 0) dX11_belt_47 rfl ?_
        obtain rfl := Option.some.inj hf
        exact V.iret dX11_belt_48 rfl (Nat.le_of_ble_eq_true rfl) (Nat.le_of_ble_eq_true rfl) rfl
  · have hf := fif_t h hf
    refine V.iconst (v := 1) dX11_belt_8 rfl ?_
    refine V.goto (tgt := 41) dX11_belt_9 (by decide) ?_
    obtain ⟨v16, hv16, hf⟩ := fbind hf
    refine V.callVn (pl := [0, 1, 2, 3, 4]) (σ' := [.inl (6, [.ref 1, .ref 2, .int M_savedMany, .ref 3, .int M_isTaken, .ref 4, .int M_length, .int v16.2, .int M_spelt, .int M_speltMany, .int M_place, .int M_kind, .int M_one, .int M_two, .int M_three, .int M_begins, .int M_done, .int M_stopBy, .long M_hash]), .inr (406, .inl M_s), .inr (2436, .inl M_saved), .inr (406, .inl M_snapshot), .inr (60, .inl M_text)]) (st2 := [.int v16.1]) (cl2 := 0) (sl2 := 0) (ct_X11_holds (a1 := 1) (M_savedMany := M_savedMany) (M_isTaken := M_isTaken) (M_length := M_length) (M_thrown := M_thrown) (M_spelt := M_spelt) (M_speltMany := M_speltMany) (M_place := M_place) (M_kind := M_kind) (M_one := M_one) (M_two := M_two) (M_three := M_three) (M_begins := M_begins) (M_done := M_done) (M_stopBy := M_stopBy) (M_hash := M_hash) (M_s := M_s) (M_saved := M_saved) (M_snapshot := M_snapshot) (M_text := M_text) hv16) dX11_belt_41 w1181 ⟨w1183, w20⟩ cal_X11_holds rfl ⟨⟨Nat.le_of_ble_eq_true rfl, Nat.le_of_ble_eq_true rfl⟩, Nat.le_of_ble_eq_true rfl, Nat.le_of_ble_eq_true rfl⟩ (Nat.le_of_ble_eq_true rfl) (Or.inl ⟨_, _, _, _, rfl, rfl⟩) rfl ⟨rfl, ⟨by decide, by decide⟩, rfl, (fr_cons (Or.inl (Nat.le_of_ble_eq_true rfl)) (fr_cons (Or.inl (Nat.le_of_ble_eq_true rfl)) (fr_cons (Or.inl (Nat.le_of_ble_eq_true rfl)) (fr_cons (Or.inl (Nat.le_of_ble_eq_true rfl)) (fr_nil))))), rfl⟩ fr_i rfl rfl rfl rfl ?_
    refine V.if_ne (tgt := 49) dX11_belt_44 (by decide) (fun h => ?_) (fun h => ?_)
    · have hf := fif_f h hf
      refine V.aload_n (i := 0) dX11_belt_49 rfl rfl ?_
      obtain ⟨v17, hv17, hf⟩ := fbind hf
      refine V.callVn (pl := [0, 1, 2, 3, 4]) (σ' := [.inl (6, [.ref 1, .ref 2, .int v17.1, .ref 3, .int M_isTaken, .ref 4, .int M_length, .int v16.2, .int M_spelt, .int M_speltMany, .int M_place, .int M_kind, .int M_one, .int M_two, .int M_three, .int M_begins, .int M_done, .int M_stopBy, .long M_hash]), .inr (406, .inl M_s), .inr (2436, .inl v17.2), .inr (406, .inl M_snapshot), .inr (60, .inl M_text)]) (st2 := []) (cl2 := 0) (sl2 := 0) (ct_X11_save (M_savedMany := M_savedMany) (M_isTaken := M_isTaken) (M_length := M_length) (M_thrown := v16.2) (M_spelt := M_spelt) (M_speltMany := M_speltMany) (M_place := M_place) (M_kind := M_kind) (M_one := M_one) (M_two := M_two) (M_three := M_three) (M_begins := M_begins) (M_done := M_done) (M_stopBy := M_stopBy) (M_hash := M_hash) (M_s := M_s) (M_saved := M_saved) (M_snapshot := M_snapshot) (M_text := M_text) hv17) dX11_belt_50 w1185 ⟨w1187, w21⟩ cal_X11_save rfl ⟨⟨Nat.le_of_ble_eq_true rfl, Nat.le_of_ble_eq_true rfl⟩, Nat.le_of_ble_eq_true rfl, Nat.le_of_ble_eq_true rfl⟩ (Nat.le_of_ble_eq_true rfl) (Or.inl ⟨_, _, _, _, rfl, rfl⟩) rfl ⟨rfl, ⟨by decide, by decide⟩, rfl, (fr_cons (Or.inl (Nat.le_of_ble_eq_true rfl)) (fr_cons (Or.inl (Nat.le_of_ble_eq_true rfl)) (fr_cons (Or.inl (Nat.le_of_ble_eq_true rfl)) (fr_cons (Or.inl (Nat.le_of_ble_eq_true rfl)) (fr_nil))))), rfl⟩ fr_v rfl rfl rfl rfl ?_
      refine V.aload_n (i := 0) dX11_belt_53 rfl rfl ?_
      refine V.iload_n (i := 1) dX11_belt_54 rfl rfl ?_
      refine V.iconst (v := 0) dX11_belt_55 rfl ?_
      obtain ⟨v18, hv18, hf⟩ := fbind hf
      refine V.callVn (pl := [0, 1, 2, 3, 4]) (σ' := [.inl (6, [.ref 1, .ref 2, .int v17.1, .ref 3, .int M_isTaken, .ref 4, .int M_length, .int v16.2, .int M_spelt, .int M_speltMany, .int M_place, .int M_kind, .int M_one, .int M_two, .int M_three, .int M_begins, .int M_done, .int M_stopBy, .long M_hash]), .inr (406, .inl M_s), .inr (2436, .inl v17.2), .inr (406, .inl M_snapshot), .inr (60, .inl M_text)]) (st2 := [.int v18]) (cl2 := 0) (sl2 := 0) (ct_X11_of (a1 := a1) (a2 := 0) (M_savedMany := v17.1) (M_isTaken := M_isTaken) (M_length := M_length) (M_thrown := v16.2) (M_spelt := M_spelt) (M_speltMany := M_speltMany) (M_place := M_place) (M_kind := M_kind) (M_one := M_one) (M_two := M_two) (M_three := M_three) (M_begins := M_begins) (M_done := M_done) (M_stopBy := M_stopBy) (M_hash := M_hash) (M_s := M_s) (M_saved := v17.2) (M_snapshot := M_snapshot) (M_text := M_text) hv18) dX11_belt_56 w1123 ⟨w1125, w10⟩ cal_X11_of rfl ⟨⟨Nat.le_of_ble_eq_true rfl, Nat.le_of_ble_eq_true rfl⟩, Nat.le_of_ble_eq_true rfl, Nat.le_of_ble_eq_true rfl⟩ (Nat.le_of_ble_eq_true rfl) (Or.inl ⟨_, _, _, _, rfl, rfl⟩) rfl ⟨rfl, ⟨by decide, by decide⟩, rfl, (fr_cons (Or.inl (Nat.le_of_ble_eq_true rfl)) (fr_cons (Or.inl (Nat.le_of_ble_eq_true rfl)) (fr_cons (Or.inl (Nat.le_of_ble_eq_true rfl)) (fr_cons (Or.inl (Nat.le_of_ble_eq_true rfl)) (fr_nil))))), rfl⟩ fr_i rfl rfl rfl rfl ?_
      refine V.istore_n (i := 3) (L' := [some (.ref 0), some (.int a1), some (.int a2), some (.int v18)]) dX11_belt_59 rfl (Nat.le_of_ble_eq_true rfl) rfl rfl ?_
      refine V.aload_n (i := 0) dX11_belt_60 rfl rfl ?_
      refine V.iload_n (i := 1) dX11_belt_61 rfl rfl ?_
      refine V.iconst (v := 0) dX11_belt_62 rfl ?_
      refine V.iload_n (i := 2) dX11_belt_63 rfl rfl ?_
      refine V.iload_n (i := 3) dX11_belt_64 rfl rfl ?_
      refine V.isub dX11_belt_65 ?_
      obtain ⟨v19, hv19, hf⟩ := fbind hf
      refine V.callVn (pl := [0, 1, 2, 3, 4]) (σ' := [.inl (6, [.ref 1, .ref 2, .int v17.1, .ref 3, .int M_isTaken, .ref 4, .int M_length, .int v16.2, .int M_spelt, .int M_speltMany, .int M_place, .int M_kind, .int M_one, .int M_two, .int M_three, .int M_begins, .int M_done, .int M_stopBy, .long M_hash]), .inr (406, .inl v19), .inr (2436, .inl v17.2), .inr (406, .inl M_snapshot), .inr (60, .inl M_text)]) (st2 := []) (cl2 := 0) (sl2 := 0) (ct_X11_add (a1 := a1) (a2 := 0) (a3 := (a2 - v18)) (M_savedMany := v17.1) (M_isTaken := M_isTaken) (M_length := M_length) (M_thrown := v16.2) (M_spelt := M_spelt) (M_speltMany := M_speltMany) (M_place := M_place) (M_kind := M_kind) (M_one := M_one) (M_two := M_two) (M_three := M_three) (M_begins := M_begins) (M_done := M_done) (M_stopBy := M_stopBy) (M_hash := M_hash) (M_s := M_s) (M_saved := v17.2) (M_snapshot := M_snapshot) (M_text := M_text) hv19) dX11_belt_66 w1196 ⟨w1198, w23⟩ cal_X11_add rfl ⟨⟨Nat.le_of_ble_eq_true rfl, Nat.le_of_ble_eq_true rfl⟩, Nat.le_of_ble_eq_true rfl, Nat.le_of_ble_eq_true rfl⟩ (Nat.le_of_ble_eq_true rfl) (Or.inl ⟨_, _, _, _, rfl, rfl⟩) rfl ⟨rfl, ⟨by decide, by decide⟩, rfl, (fr_cons (Or.inl (Nat.le_of_ble_eq_true rfl)) (fr_cons (Or.inl (Nat.le_of_ble_eq_true rfl)) (fr_cons (Or.inl (Nat.le_of_ble_eq_true rfl)) (fr_cons (Or.inl (Nat.le_of_ble_eq_true rfl)) (fr_nil))))), rfl⟩ fr_v rfl rfl rfl rfl ?_
      refine V.iload_n (i := 3) dX11_belt_69 rfl rfl ?_
      obtain rfl := Option.some.inj hf
      exact V.iret dX11_belt_70 rfl (Nat.le_of_ble_eq_true rfl) (Nat.le_of_ble_eq_true rfl) rfl
    · have hf := fif_t h hf
      refine V.iconst (v := 0) dX11_belt_47 rfl ?_
      obtain rfl := Option.some.inj hf
      exact V.iret dX11_belt_48 rfl (Nat.le_of_ble_eq_true rfl) (Nat.le_of_ble_eq_true rfl) rfl
def k_X11_set : fK := (yX11_set, cX11_set, 5, (some .int), [], (2, 45), (0, 0), (0, 0))
theorem cal_X11_set : fCal k_X11_set 2 := ⟨⟨wc1266, w73⟩, ⟨by decide +kernel, by decide +kernel⟩, by decide +kernel, by decide +kernel⟩
def s_X11_set (a1 : Int32) (a2 : Int32) (M_savedMany : Int32) (M_thrown : Int32) (M_s : Nat → Int32) (M_saved : Nat → Int32) : Option (Int32 × (Int32) × (Int32) × (Nat → Int32) × (Nat → Int32)) := if (a1 = 0 : Prop) then ((s_X11_in a2 1 9).bind fun v15 => (s_X11_in a1 0 1).bind fun v16 => if (v16 = 0 : Prop) then ((s_X11_holds 1 M_thrown).bind fun v25 => if (v25.1 = 0 : Prop) then (some (0, M_savedMany, v25.2, M_s, M_saved)) else ((s_X11_save M_savedMany M_s M_saved).bind fun v26 => fld 406 M_s (4 + a1) fun v27 => fst 406 M_s (4 + a1) a2 fun s28 => some (v27, v26.1, v25.2, s28, v26.2))) else (if (v15 = 0 : Prop) then ((s_X11_holds 2 M_thrown).bind fun v17 => if (v17.1 = 0 : Prop) then (some (0, M_savedMany, v17.2, M_s, M_saved)) else ((s_X11_save M_savedMany M_s M_saved).bind fun v18 => fld 406 M_s (4 + a1) fun v19 => fst 406 M_s (4 + a1) a2 fun s20 => some (v19, v18.1, v17.2, s20, v18.2))) else ((s_X11_holds 0 M_thrown).bind fun v21 => if (v21.1 = 0 : Prop) then (some (0, M_savedMany, v21.2, M_s, M_saved)) else ((s_X11_save M_savedMany M_s M_saved).bind fun v22 => fld 406 M_s (4 + a1) fun v23 => fst 406 M_s (4 + a1) a2 fun s24 => some (v23, v22.1, v21.2, s24, v22.2))))) else ((s_X11_in a2 0 8).bind fun v1 => (s_X11_in a1 0 1).bind fun v2 => if (v2 = 0 : Prop) then ((s_X11_holds 1 M_thrown).bind fun v11 => if (v11.1 = 0 : Prop) then (some (0, M_savedMany, v11.2, M_s, M_saved)) else ((s_X11_save M_savedMany M_s M_saved).bind fun v12 => fld 406 M_s (4 + a1) fun v13 => fst 406 M_s (4 + a1) a2 fun s14 => some (v13, v12.1, v11.2, s14, v12.2))) else (if (v1 = 0 : Prop) then ((s_X11_holds 2 M_thrown).bind fun v3 => if (v3.1 = 0 : Prop) then (some (0, M_savedMany, v3.2, M_s, M_saved)) else ((s_X11_save M_savedMany M_s M_saved).bind fun v4 => fld 406 M_s (4 + a1) fun v5 => fst 406 M_s (4 + a1) a2 fun s6 => some (v5, v4.1, v3.2, s6, v4.2))) else ((s_X11_holds 0 M_thrown).bind fun v7 => if (v7.1 = 0 : Prop) then (some (0, M_savedMany, v7.2, M_s, M_saved)) else ((s_X11_save M_savedMany M_s M_saved).bind fun v8 => fld 406 M_s (4 + a1) fun v9 => fst 406 M_s (4 + a1) a2 fun s10 => some (v9, v8.1, v7.2, s10, v8.2)))))
set_option maxHeartbeats 4000000 in
set_option maxRecDepth 100000 in
theorem ct_X11_set {a1 : Int32} {a2 : Int32} {M_savedMany : Int32} {M_isTaken : Int32} {M_length : Int32} {M_thrown : Int32} {M_spelt : Int32} {M_speltMany : Int32} {M_place : Int32} {M_kind : Int32} {M_one : Int32} {M_two : Int32} {M_three : Int32} {M_begins : Int32} {M_done : Int32} {M_stopBy : Int32} {M_hash : Int64} {M_s : Nat → Int32} {M_saved : Nat → Int32} {M_snapshot : Nat → Int32} {M_text : Nat → Int32} {res : Int32 × (Int32) × (Int32) × (Nat → Int32) × (Nat → Int32)} (hf : s_X11_set a1 a2 M_savedMany M_thrown M_s M_saved = some res) : Ct k_X11_set [.ref 0, .int a1, .int a2] [.inl (6, [.ref 1, .ref 2, .int M_savedMany, .ref 3, .int M_isTaken, .ref 4, .int M_length, .int M_thrown, .int M_spelt, .int M_speltMany, .int M_place, .int M_kind, .int M_one, .int M_two, .int M_three, .int M_begins, .int M_done, .int M_stopBy, .long M_hash]), .inr (406, .inl M_s), .inr (2436, .inl M_saved), .inr (406, .inl M_snapshot), .inr (60, .inl M_text)] (.inl (some (.int res.1))) [.inl (6, [.ref 1, .ref 2, .int res.2.1, .ref 3, .int M_isTaken, .ref 4, .int M_length, .int res.2.2.1, .int M_spelt, .int M_speltMany, .int M_place, .int M_kind, .int M_one, .int M_two, .int M_three, .int M_begins, .int M_done, .int M_stopBy, .long M_hash]), .inr (406, .inl res.2.2.2.1), .inr (2436, .inl res.2.2.2.2), .inr (406, .inl M_snapshot), .inr (60, .inl M_text)] := by
  unfold s_X11_set at hf
  refine Ct.of (L := [some (.ref 0), some (.int a1), some (.int a2), none, none]) cal_X11_set (fent_pad (j := 2) rfl) (Nat.le_of_ble_eq_true rfl) ?_
  refine V.iload_n (i := 1) dX11_set_0 rfl rfl ?_
  refine V.if_ne (tgt := 14) dX11_set_1 (by decide) (fun h => ?_) (fun h => ?_)
  · have hf := fif_f h hf
    refine V.iload_n (i := 2) dX11_set_14 rfl rfl ?_
    refine V.iconst (v := 0) dX11_set_15 rfl ?_
    refine V.bipush (v := 8) dX11_set_16 rfl ?_
    obtain ⟨v1, hv1, hf⟩ := fbind hf
    refine V.callSn (pl := []) (σ' := [.inl (6, [.ref 1, .ref 2, .int M_savedMany, .ref 3, .int M_isTaken, .ref 4, .int M_length, .int M_thrown, .int M_spelt, .int M_speltMany, .int M_place, .int M_kind, .int M_one, .int M_two, .int M_three, .int M_begins, .int M_done, .int M_stopBy, .long M_hash]), .inr (406, .inl M_s), .inr (2436, .inl M_saved), .inr (406, .inl M_snapshot), .inr (60, .inl M_text)]) (st2 := [.int v1]) (cl2 := 0) (sl2 := 0) (ct_X11_in (a0 := a2) (a1 := 0) (a2 := 8) hv1) dX11_set_18 w1113 w1114 cal_X11_in ⟨⟨Nat.le_of_ble_eq_true rfl, Nat.le_of_ble_eq_true rfl⟩, Nat.le_of_ble_eq_true rfl, Nat.le_of_ble_eq_true rfl⟩ (Nat.le_of_ble_eq_true rfl) rfl ⟨rfl, ⟨by decide, by decide⟩, rfl, (fr_nil), rfl⟩ fr_i rfl rfl rfl rfl ?_
    refine V.istore_n (i := 3) (L' := [some (.ref 0), some (.int a1), some (.int a2), some (.int v1), none]) dX11_set_21 rfl (Nat.le_of_ble_eq_true rfl) rfl rfl ?_
    refine V.aload_n (i := 0) dX11_set_22 rfl rfl ?_
    refine V.iload_n (i := 1) dX11_set_23 rfl rfl ?_
    refine V.iconst (v := 0) dX11_set_24 rfl ?_
    refine V.iconst (v := 1) dX11_set_25 rfl ?_
    obtain ⟨v2, hv2, hf⟩ := fbind hf
    refine V.callSn (pl := []) (σ' := [.inl (6, [.ref 1, .ref 2, .int M_savedMany, .ref 3, .int M_isTaken, .ref 4, .int M_length, .int M_thrown, .int M_spelt, .int M_speltMany, .int M_place, .int M_kind, .int M_one, .int M_two, .int M_three, .int M_begins, .int M_done, .int M_stopBy, .long M_hash]), .inr (406, .inl M_s), .inr (2436, .inl M_saved), .inr (406, .inl M_snapshot), .inr (60, .inl M_text)]) (st2 := [.int v2, .ref 0]) (cl2 := 0) (sl2 := 0) (ct_X11_in (a0 := a1) (a1 := 0) (a2 := 1) hv2) dX11_set_26 w1113 w1114 cal_X11_in ⟨⟨Nat.le_of_ble_eq_true rfl, Nat.le_of_ble_eq_true rfl⟩, Nat.le_of_ble_eq_true rfl, Nat.le_of_ble_eq_true rfl⟩ (Nat.le_of_ble_eq_true rfl) rfl ⟨rfl, ⟨by decide, by decide⟩, rfl, (fr_nil), rfl⟩ fr_i rfl rfl rfl rfl ?_
    refine V.if_ne (tgt := 36) dX11_set_29 (by decide) (fun h => ?_) (fun h => ?_)
    · have hf := fif_f h hf
      refine V.iload_n (i := 3) dX11_set_36 rfl rfl ?_
      refine V.if_eq (tgt := 44) dX11_set_37 (by decide) (fun h => ?_) (fun h => ?_)
      · have hf := fif_t h hf
        refine V.iconst (v := 2) dX11_set_44 rfl ?_
        obtain ⟨v3, hv3, hf⟩ := fbind hf
        refine V.callVn (pl := [0, 1, 2, 3, 4]) (σ' := [.inl (6, [.ref 1, .ref 2, .int M_savedMany, .ref 3, .int M_isTaken, .ref 4, .int M_length, .int v3.2, .int M_spelt, .int M_speltMany, .int M_place, .int M_kind, .int M_one, .int M_two, .int M_three, .int M_begins, .int M_done, .int M_stopBy, .long M_hash]), .inr (406, .inl M_s), .inr (2436, .inl M_saved), .inr (406, .inl M_snapshot), .inr (60, .inl M_text)]) (st2 := [.int v3.1]) (cl2 := 0) (sl2 := 0) (ct_X11_holds (a1 := 2) (M_savedMany := M_savedMany) (M_isTaken := M_isTaken) (M_length := M_length) (M_thrown := M_thrown) (M_spelt := M_spelt) (M_speltMany := M_speltMany) (M_place := M_place) (M_kind := M_kind) (M_one := M_one) (M_two := M_two) (M_three := M_three) (M_begins := M_begins) (M_done := M_done) (M_stopBy := M_stopBy) (M_hash := M_hash) (M_s := M_s) (M_saved := M_saved) (M_snapshot := M_snapshot) (M_text := M_text) hv3) dX11_set_45 w1181 ⟨w1183, w20⟩ cal_X11_holds rfl ⟨⟨Nat.le_of_ble_eq_true rfl, Nat.le_of_ble_eq_true rfl⟩, Nat.le_of_ble_eq_true rfl, Nat.le_of_ble_eq_true rfl⟩ (Nat.le_of_ble_eq_true rfl) (Or.inl ⟨_, _, _, _, rfl, rfl⟩) rfl ⟨rfl, ⟨by decide, by decide⟩, rfl, (fr_cons (Or.inl (Nat.le_of_ble_eq_true rfl)) (fr_cons (Or.inl (Nat.le_of_ble_eq_true rfl)) (fr_cons (Or.inl (Nat.le_of_ble_eq_true rfl)) (fr_cons (Or.inl (Nat.le_of_ble_eq_true rfl)) (fr_nil))))), rfl⟩ fr_i rfl rfl rfl rfl ?_
        refine V.if_ne (tgt := 53) dX11_set_48 (by decide) (fun h => ?_) (fun h => ?_)
        · have hf := fif_f h hf
          refine V.aload_n (i := 0) dX11_set_53 rfl rfl ?_
          obtain ⟨v4, hv4, hf⟩ := fbind hf
          refine V.callVn (pl := [0, 1, 2, 3, 4]) (σ' := [.inl (6, [.ref 1, .ref 2, .int v4.1, .ref 3, .int M_isTaken, .ref 4, .int M_length, .int v3.2, .int M_spelt, .int M_speltMany, .int M_place, .int M_kind, .int M_one, .int M_two, .int M_three, .int M_begins, .int M_done, .int M_stopBy, .long M_hash]), .inr (406, .inl M_s), .inr (2436, .inl v4.2), .inr (406, .inl M_snapshot), .inr (60, .inl M_text)]) (st2 := []) (cl2 := 0) (sl2 := 0) (ct_X11_save (M_savedMany := M_savedMany) (M_isTaken := M_isTaken) (M_length := M_length) (M_thrown := v3.2) (M_spelt := M_spelt) (M_speltMany := M_speltMany) (M_place := M_place) (M_kind := M_kind) (M_one := M_one) (M_two := M_two) (M_three := M_three) (M_begins := M_begins) (M_done := M_done) (M_stopBy := M_stopBy) (M_hash := M_hash) (M_s := M_s) (M_saved := M_saved) (M_snapshot := M_snapshot) (M_text := M_text) hv4) dX11_set_54 w1185 ⟨w1187, w21⟩ cal_X11_save rfl ⟨⟨Nat.le_of_ble_eq_true rfl, Nat.le_of_ble_eq_true rfl⟩, Nat.le_of_ble_eq_true rfl, Nat.le_of_ble_eq_true rfl⟩ (Nat.le_of_ble_eq_true rfl) (Or.inl ⟨_, _, _, _, rfl, rfl⟩) rfl ⟨rfl, ⟨by decide, by decide⟩, rfl, (fr_cons (Or.inl (Nat.le_of_ble_eq_true rfl)) (fr_cons (Or.inl (Nat.le_of_ble_eq_true rfl)) (fr_cons (Or.inl (Nat.le_of_ble_eq_true rfl)) (fr_cons (Or.inl (Nat.le_of_ble_eq_true rfl)) (fr_nil))))), rfl⟩ fr_v rfl rfl rfl rfl ?_
          refine V.aload_n (i := 0) dX11_set_57 rfl rfl ?_
          refine V.getfield (kf := 0) (v := .ref 1) fl_RX11 dX11_set_58 w1043 (Nat.le_of_ble_eq_true rfl) rfl rfl ?_
          refine V.iconst (v := 4) dX11_set_61 rfl ?_
          refine V.iload_n (i := 1) dX11_set_62 rfl rfl ?_
          refine V.iadd dX11_set_63 ?_
          obtain ⟨hi, v5, ev5, hf⟩ := fld_e hf
          refine V.fld dX11_set_64 rfl hi ev5 ?_
          refine V.istore (i := 4) (L' := [some (.ref 0), some (.int a1), some (.int a2), some (.int v1), some (.int v5)]) dX11_set_65 (Nat.le_of_ble_eq_true rfl) rfl rfl ?_
          refine V.aload_n (i := 0) dX11_set_67 rfl rfl ?_
          refine V.getfield (kf := 0) (v := .ref 1) fl_RX11 dX11_set_68 w1043 (Nat.le_of_ble_eq_true rfl) rfl rfl ?_
          refine V.iconst (v := 4) dX11_set_71 rfl ?_
          refine V.iload_n (i := 1) dX11_set_72 rfl rfl ?_
          refine V.iadd dX11_set_73 ?_
          refine V.iload_n (i := 2) dX11_set_74 rfl rfl ?_
          obtain ⟨hi, s6, es6, hf⟩ := fst_e hf
          refine V.fst (σ' := [.inl (6, [.ref 1, .ref 2, .int v4.1, .ref 3, .int M_isTaken, .ref 4, .int M_length, .int v3.2, .int M_spelt, .int M_speltMany, .int M_place, .int M_kind, .int M_one, .int M_two, .int M_three, .int M_begins, .int M_done, .int M_stopBy, .long M_hash]), .inr (406, .inl s6), .inr (2436, .inl v4.2), .inr (406, .inl M_snapshot), .inr (60, .inl M_text)]) dX11_set_75 rfl hi es6 rfl ?_
          refine V.iload (i := 4) dX11_set_76 rfl ?_
          obtain rfl := Option.some.inj hf
          exact V.iret dX11_set_78 rfl (Nat.le_of_ble_eq_true rfl) (Nat.le_of_ble_eq_true rfl) rfl
        · have hf := fif_t h hf
          refine V.iconst (v := 0) dX11_set_51 rfl ?_
          obtain rfl := Option.some.inj hf
          exact V.iret dX11_set_52 rfl (Nat.le_of_ble_eq_true rfl) (Nat.le_of_ble_eq_true rfl) rfl
      · have hf := fif_f h hf
        refine V.iconst (v := 0) dX11_set_40 rfl ?_
        refine V.goto (tgt := 45) dX11_set_41 (by decide) ?_
        obtain ⟨v7, hv7, hf⟩ := fbind hf
        refine V.callVn (pl := [0, 1, 2, 3, 4]) (σ' := [.inl (6, [.ref 1, .ref 2, .int M_savedMany, .ref 3, .int M_isTaken, .ref 4, .int M_length, .int v7.2, .int M_spelt, .int M_speltMany, .int M_place, .int M_kind, .int M_one, .int M_two, .int M_three, .int M_begins, .int M_done, .int M_stopBy, .long M_hash]), .inr (406, .inl M_s), .inr (2436, .inl M_saved), .inr (406, .inl M_snapshot), .inr (60, .inl M_text)]) (st2 := [.int v7.1]) (cl2 := 0) (sl2 := 0) (ct_X11_holds (a1 := 0) (M_savedMany := M_savedMany) (M_isTaken := M_isTaken) (M_length := M_length) (M_thrown := M_thrown) (M_spelt := M_spelt) (M_speltMany := M_speltMany) (M_place := M_place) (M_kind := M_kind) (M_one := M_one) (M_two := M_two) (M_three := M_three) (M_begins := M_begins) (M_done := M_done) (M_stopBy := M_stopBy) (M_hash := M_hash) (M_s := M_s) (M_saved := M_saved) (M_snapshot := M_snapshot) (M_text := M_text) hv7) dX11_set_45 w1181 ⟨w1183, w20⟩ cal_X11_holds rfl ⟨⟨Nat.le_of_ble_eq_true rfl, Nat.le_of_ble_eq_true rfl⟩, Nat.le_of_ble_eq_true rfl, Nat.le_of_ble_eq_true rfl⟩ (Nat.le_of_ble_eq_true rfl) (Or.inl ⟨_, _, _, _, rfl, rfl⟩) rfl ⟨rfl, ⟨by decide, by decide⟩, rfl, (fr_cons (Or.inl (Nat.le_of_ble_eq_true rfl)) (fr_cons (Or.inl (Nat.le_of_ble_eq_true rfl)) (fr_cons (Or.inl (Nat.le_of_ble_eq_true rfl)) (fr_cons (Or.inl (Nat.le_of_ble_eq_true rfl)) (fr_nil))))), rfl⟩ fr_i rfl rfl rfl rfl ?_
        refine V.if_ne (tgt := 53) dX11_set_48 (by decide) (fun h => ?_) (fun h => ?_)
        · have hf := fif_f h hf
          refine V.aload_n (i := 0) dX11_set_53 rfl rfl ?_
          obtain ⟨v8, hv8, hf⟩ := fbind hf
          refine V.callVn (pl := [0, 1, 2, 3, 4]) (σ' := [.inl (6, [.ref 1, .ref 2, .int v8.1, .ref 3, .int M_isTaken, .ref 4, .int M_length, .int v7.2, .int M_spelt, .int M_speltMany, .int M_place, .int M_kind, .int M_one, .int M_two, .int M_three, .int M_begins, .int M_done, .int M_stopBy, .long M_hash]), .inr (406, .inl M_s), .inr (2436, .inl v8.2), .inr (406, .inl M_snapshot), .inr (60, .inl M_text)]) (st2 := []) (cl2 := 0) (sl2 := 0) (ct_X11_save (M_savedMany := M_savedMany) (M_isTaken := M_isTaken) (M_length := M_length) (M_thrown := v7.2) (M_spelt := M_spelt) (M_speltMany := M_speltMany) (M_place := M_place) (M_kind := M_kind) (M_one := M_one) (M_two := M_two) (M_three := M_three) (M_begins := M_begins) (M_done := M_done) (M_stopBy := M_stopBy) (M_hash := M_hash) (M_s := M_s) (M_saved := M_saved) (M_snapshot := M_snapshot) (M_text := M_text) hv8) dX11_set_54 w1185 ⟨w1187, w21⟩ cal_X11_save rfl ⟨⟨Nat.le_of_ble_eq_true rfl, Nat.le_of_ble_eq_true rfl⟩, Nat.le_of_ble_eq_true rfl, Nat.le_of_ble_eq_true rfl⟩ (Nat.le_of_ble_eq_true rfl) (Or.inl ⟨_, _, _, _, rfl, rfl⟩) rfl ⟨rfl, ⟨by decide, by decide⟩, rfl, (fr_cons (Or.inl (Nat.le_of_ble_eq_true rfl)) (fr_cons (Or.inl (Nat.le_of_ble_eq_true rfl)) (fr_cons (Or.inl (Nat.le_of_ble_eq_true rfl)) (fr_cons (Or.inl (Nat.le_of_ble_eq_true rfl)) (fr_nil))))), rfl⟩ fr_v rfl rfl rfl rfl ?_
          refine V.aload_n (i := 0) dX11_set_57 rfl rfl ?_
          refine V.getfield (kf := 0) (v := .ref 1) fl_RX11 dX11_set_58 w1043 (Nat.le_of_ble_eq_true rfl) rfl rfl ?_
          refine V.iconst (v := 4) dX11_set_61 rfl ?_
          refine V.iload_n (i := 1) dX11_set_62 rfl rfl ?_
          refine V.iadd dX11_set_63 ?_
          obtain ⟨hi, v9, ev9, hf⟩ := fld_e hf
          refine V.fld dX11_set_64 rfl hi ev9 ?_
          refine V.istore (i := 4) (L' := [some (.ref 0), some (.int a1), some (.int a2), some (.int v1), some (.int v9)]) dX11_set_65 (Nat.le_of_ble_eq_true rfl) rfl rfl ?_
          refine V.aload_n (i := 0) dX11_set_67 rfl rfl ?_
          refine V.getfield (kf := 0) (v := .ref 1) fl_RX11 dX11_set_68 w1043 (Nat.le_of_ble_eq_true rfl) rfl rfl ?_
          refine V.iconst (v := 4) dX11_set_71 rfl ?_
          refine V.iload_n (i := 1) dX11_set_72 rfl rfl ?_
          refine V.iadd dX11_set_73 ?_
          refine V.iload_n (i := 2) dX11_set_74 rfl rfl ?_
          obtain ⟨hi, s10, es10, hf⟩ := fst_e hf
          refine V.fst (σ' := [.inl (6, [.ref 1, .ref 2, .int v8.1, .ref 3, .int M_isTaken, .ref 4, .int M_length, .int v7.2, .int M_spelt, .int M_speltMany, .int M_place, .int M_kind, .int M_one, .int M_two, .int M_three, .int M_begins, .int M_done, .int M_stopBy, .long M_hash]), .inr (406, .inl s10), .inr (2436, .inl v8.2), .inr (406, .inl M_snapshot), .inr (60, .inl M_text)]) dX11_set_75 rfl hi es10 rfl ?_
          refine V.iload (i := 4) dX11_set_76 rfl ?_
          obtain rfl := Option.some.inj hf
          exact V.iret dX11_set_78 rfl (Nat.le_of_ble_eq_true rfl) (Nat.le_of_ble_eq_true rfl) rfl
        · have hf := fif_t h hf
          refine V.iconst (v := 0) dX11_set_51 rfl ?_
          obtain rfl := Option.some.inj hf
          exact V.iret dX11_set_52 rfl (Nat.le_of_ble_eq_true rfl) (Nat.le_of_ble_eq_true rfl) rfl
    · have hf := fif_t h hf
      refine V.iconst (v := 1) dX11_set_32 rfl ?_
      refine V.goto (tgt := 45) dX11_set_33 (by decide) ?_
      obtain ⟨v11, hv11, hf⟩ := fbind hf
      refine V.callVn (pl := [0, 1, 2, 3, 4]) (σ' := [.inl (6, [.ref 1, .ref 2, .int M_savedMany, .ref 3, .int M_isTaken, .ref 4, .int M_length, .int v11.2, .int M_spelt, .int M_speltMany, .int M_place, .int M_kind, .int M_one, .int M_two, .int M_three, .int M_begins, .int M_done, .int M_stopBy, .long M_hash]), .inr (406, .inl M_s), .inr (2436, .inl M_saved), .inr (406, .inl M_snapshot), .inr (60, .inl M_text)]) (st2 := [.int v11.1]) (cl2 := 0) (sl2 := 0) (ct_X11_holds (a1 := 1) (M_savedMany := M_savedMany) (M_isTaken := M_isTaken) (M_length := M_length) (M_thrown := M_thrown) (M_spelt := M_spelt) (M_speltMany := M_speltMany) (M_place := M_place) (M_kind := M_kind) (M_one := M_one) (M_two := M_two) (M_three := M_three) (M_begins := M_begins) (M_done := M_done) (M_stopBy := M_stopBy) (M_hash := M_hash) (M_s := M_s) (M_saved := M_saved) (M_snapshot := M_snapshot) (M_text := M_text) hv11) dX11_set_45 w1181 ⟨w1183, w20⟩ cal_X11_holds rfl ⟨⟨Nat.le_of_ble_eq_true rfl, Nat.le_of_ble_eq_true rfl⟩, Nat.le_of_ble_eq_true rfl, Nat.le_of_ble_eq_true rfl⟩ (Nat.le_of_ble_eq_true rfl) (Or.inl ⟨_, _, _, _, rfl, rfl⟩) rfl ⟨rfl, ⟨by decide, by decide⟩, rfl, (fr_cons (Or.inl (Nat.le_of_ble_eq_true rfl)) (fr_cons (Or.inl (Nat.le_of_ble_eq_true rfl)) (fr_cons (Or.inl (Nat.le_of_ble_eq_true rfl)) (fr_cons (Or.inl (Nat.le_of_ble_eq_true rfl)) (fr_nil))))), rfl⟩ fr_i rfl rfl rfl rfl ?_
      refine V.if_ne (tgt := 53) dX11_set_48 (by decide) (fun h => ?_) (fun h => ?_)
      · have hf := fif_f h hf
        refine V.aload_n (i := 0) dX11_set_53 rfl rfl ?_
        obtain ⟨v12, hv12, hf⟩ := fbind hf
        refine V.callVn (pl := [0, 1, 2, 3, 4]) (σ' := [.inl (6, [.ref 1, .ref 2, .int v12.1, .ref 3, .int M_isTaken, .ref 4, .int M_length, .int v11.2, .int M_spelt, .int M_speltMany, .int M_place, .int M_kind, .int M_one, .int M_two, .int M_three, .int M_begins, .int M_done, .int M_stopBy, .long M_hash]), .inr (406, .inl M_s), .inr (2436, .inl v12.2), .inr (406, .inl M_snapshot), .inr (60, .inl M_text)]) (st2 := []) (cl2 := 0) (sl2 := 0) (ct_X11_save (M_savedMany := M_savedMany) (M_isTaken := M_isTaken) (M_length := M_length) (M_thrown := v11.2) (M_spelt := M_spelt) (M_speltMany := M_speltMany) (M_place := M_place) (M_kind := M_kind) (M_one := M_one) (M_two := M_two) (M_three := M_three) (M_begins := M_begins) (M_done := M_done) (M_stopBy := M_stopBy) (M_hash := M_hash) (M_s := M_s) (M_saved := M_saved) (M_snapshot := M_snapshot) (M_text := M_text) hv12) dX11_set_54 w1185 ⟨w1187, w21⟩ cal_X11_save rfl ⟨⟨Nat.le_of_ble_eq_true rfl, Nat.le_of_ble_eq_true rfl⟩, Nat.le_of_ble_eq_true rfl, Nat.le_of_ble_eq_true rfl⟩ (Nat.le_of_ble_eq_true rfl) (Or.inl ⟨_, _, _, _, rfl, rfl⟩) rfl ⟨rfl, ⟨by decide, by decide⟩, rfl, (fr_cons (Or.inl (Nat.le_of_ble_eq_true rfl)) (fr_cons (Or.inl (Nat.le_of_ble_eq_true rfl)) (fr_cons (Or.inl (Nat.le_of_ble_eq_true rfl)) (fr_cons (Or.inl (Nat.le_of_ble_eq_true rfl)) (fr_nil))))), rfl⟩ fr_v rfl rfl rfl rfl ?_
        refine V.aload_n (i := 0) dX11_set_57 rfl rfl ?_
        refine V.getfield (kf := 0) (v := .ref 1) fl_RX11 dX11_set_58 w1043 (Nat.le_of_ble_eq_true rfl) rfl rfl ?_
        refine V.iconst (v := 4) dX11_set_61 rfl ?_
        refine V.iload_n (i := 1) dX11_set_62 rfl rfl ?_
        refine V.iadd dX11_set_63 ?_
        obtain ⟨hi, v13, ev13, hf⟩ := fld_e hf
        refine V.fld dX11_set_64 rfl hi ev13 ?_
        refine V.istore (i := 4) (L' := [some (.ref 0), some (.int a1), some (.int a2), some (.int v1), some (.int v13)]) dX11_set_65 (Nat.le_of_ble_eq_true rfl) rfl rfl ?_
        refine V.aload_n (i := 0) dX11_set_67 rfl rfl ?_
        refine V.getfield (kf := 0) (v := .ref 1) fl_RX11 dX11_set_68 w1043 (Nat.le_of_ble_eq_true rfl) rfl rfl ?_
        refine V.iconst (v := 4) dX11_set_71 rfl ?_
        refine V.iload_n (i := 1) dX11_set_72 rfl rfl ?_
        refine V.iadd dX11_set_73 ?_
        refine V.iload_n (i := 2) dX11_set_74 rfl rfl ?_
        obtain ⟨hi, s14, es14, hf⟩ := fst_e hf
        refine V.fst (σ' := [.inl (6, [.ref 1, .ref 2, .int v12.1, .ref 3, .int M_isTaken, .ref 4, .int M_length, .int v11.2, .int M_spelt, .int M_speltMany, .int M_place, .int M_kind, .int M_one, .int M_two, .int M_three, .int M_begins, .int M_done, .int M_stopBy, .long M_hash]), .inr (406, .inl s14), .inr (2436, .inl v12.2), .inr (406, .inl M_snapshot), .inr (60, .inl M_text)]) dX11_set_75 rfl hi es14 rfl ?_
        refine V.iload (i := 4) dX11_set_76 rfl ?_
        obtain rfl := Option.some.inj hf
        exact V.iret dX11_set_78 rfl (Nat.le_of_ble_eq_true rfl) (Nat.le_of_ble_eq_true rfl) rfl
      · have hf := fif_t h hf
        refine V.iconst (v := 0) dX11_set_51 rfl ?_
        obtain rfl := Option.some.inj hf
        exact V.iret dX11_set_52 rfl (Nat.le_of_ble_eq_true rfl) (Nat.le_of_ble_eq_true rfl) rfl
  · have hf := fif_t h hf
    refine V.iload_n (i := 2) dX11_set_4 rfl rfl ?_
    refine V.iconst (v := 1) dX11_set_5 rfl ?_
    refine V.bipush (v := 9) dX11_set_6 rfl ?_
    obtain ⟨v15, hv15, hf⟩ := fbind hf
    refine V.callSn (pl := []) (σ' := [.inl (6, [.ref 1, .ref 2, .int M_savedMany, .ref 3, .int M_isTaken, .ref 4, .int M_length, .int M_thrown, .int M_spelt, .int M_speltMany, .int M_place, .int M_kind, .int M_one, .int M_two, .int M_three, .int M_begins, .int M_done, .int M_stopBy, .long M_hash]), .inr (406, .inl M_s), .inr (2436, .inl M_saved), .inr (406, .inl M_snapshot), .inr (60, .inl M_text)]) (st2 := [.int v15]) (cl2 := 0) (sl2 := 0) (ct_X11_in (a0 := a2) (a1 := 1) (a2 := 9) hv15) dX11_set_8 w1113 w1114 cal_X11_in ⟨⟨Nat.le_of_ble_eq_true rfl, Nat.le_of_ble_eq_true rfl⟩, Nat.le_of_ble_eq_true rfl, Nat.le_of_ble_eq_true rfl⟩ (Nat.le_of_ble_eq_true rfl) rfl ⟨rfl, ⟨by decide, by decide⟩, rfl, (fr_nil), rfl⟩ fr_i rfl rfl rfl rfl ?_
    refine V.goto (tgt := 21) dX11_set_11 (by decide) ?_
    refine V.istore_n (i := 3) (L' := [some (.ref 0), some (.int a1), some (.int a2), some (.int v15), none]) dX11_set_21 rfl (Nat.le_of_ble_eq_true rfl) rfl rfl ?_
    refine V.aload_n (i := 0) dX11_set_22 rfl rfl ?_
    refine V.iload_n (i := 1) dX11_set_23 rfl rfl ?_
    refine V.iconst (v := 0) dX11_set_24 rfl ?_
    refine V.iconst (v := 1) dX11_set_25 rfl ?_
    obtain ⟨v16, hv16, hf⟩ := fbind hf
    refine V.callSn (pl := []) (σ' := [.inl (6, [.ref 1, .ref 2, .int M_savedMany, .ref 3, .int M_isTaken, .ref 4, .int M_length, .int M_thrown, .int M_spelt, .int M_speltMany, .int M_place, .int M_kind, .int M_one, .int M_two, .int M_three, .int M_begins, .int M_done, .int M_stopBy, .long M_hash]), .inr (406, .inl M_s), .inr (2436, .inl M_saved), .inr (406, .inl M_snapshot), .inr (60, .inl M_text)]) (st2 := [.int v16, .ref 0]) (cl2 := 0) (sl2 := 0) (ct_X11_in (a0 := a1) (a1 := 0) (a2 := 1) hv16) dX11_set_26 w1113 w1114 cal_X11_in ⟨⟨Nat.le_of_ble_eq_true rfl, Nat.le_of_ble_eq_true rfl⟩, Nat.le_of_ble_eq_true rfl, Nat.le_of_ble_eq_true rfl⟩ (Nat.le_of_ble_eq_true rfl) rfl ⟨rfl, ⟨by decide, by decide⟩, rfl, (fr_nil), rfl⟩ fr_i rfl rfl rfl rfl ?_
    refine V.if_ne (tgt := 36) dX11_set_29 (by decide) (fun h => ?_) (fun h => ?_)
    · have hf := fif_f h hf
      refine V.iload_n (i := 3) dX11_set_36 rfl rfl ?_
      refine V.if_eq (tgt := 44) dX11_set_37 (by decide) (fun h => ?_) (fun h => ?_)
      · have hf := fif_t h hf
        refine V.iconst (v := 2) dX11_set_44 rfl ?_
        obtain ⟨v17, hv17, hf⟩ := fbind hf
        refine V.callVn (pl := [0, 1, 2, 3, 4]) (σ' := [.inl (6, [.ref 1, .ref 2, .int M_savedMany, .ref 3, .int M_isTaken, .ref 4, .int M_length, .int v17.2, .int M_spelt, .int M_speltMany, .int M_place, .int M_kind, .int M_one, .int M_two, .int M_three, .int M_begins, .int M_done, .int M_stopBy, .long M_hash]), .inr (406, .inl M_s), .inr (2436, .inl M_saved), .inr (406, .inl M_snapshot), .inr (60, .inl M_text)]) (st2 := [.int v17.1]) (cl2 := 0) (sl2 := 0) (ct_X11_holds (a1 := 2) (M_savedMany := M_savedMany) (M_isTaken := M_isTaken) (M_length := M_length) (M_thrown := M_thrown) (M_spelt := M_spelt) (M_speltMany := M_speltMany) (M_place := M_place) (M_kind := M_kind) (M_one := M_one) (M_two := M_two) (M_three := M_three) (M_begins := M_begins) (M_done := M_done) (M_stopBy := M_stopBy) (M_hash := M_hash) (M_s := M_s) (M_saved := M_saved) (M_snapshot := M_snapshot) (M_text := M_text) hv17) dX11_set_45 w1181 ⟨w1183, w20⟩ cal_X11_holds rfl ⟨⟨Nat.le_of_ble_eq_true rfl, Nat.le_of_ble_eq_true rfl⟩, Nat.le_of_ble_eq_true rfl, Nat.le_of_ble_eq_true rfl⟩ (Nat.le_of_ble_eq_true rfl) (Or.inl ⟨_, _, _, _, rfl, rfl⟩) rfl ⟨rfl, ⟨by decide, by decide⟩, rfl, (fr_cons (Or.inl (Nat.le_of_ble_eq_true rfl)) (fr_cons (Or.inl (Nat.le_of_ble_eq_true rfl)) (fr_cons (Or.inl (Nat.le_of_ble_eq_true rfl)) (fr_cons (Or.inl (Nat.le_of_ble_eq_true rfl)) (fr_nil))))), rfl⟩ fr_i rfl rfl rfl rfl ?_
        refine V.if_ne (tgt := 53) dX11_set_48 (by decide) (fun h => ?_) (fun h => ?_)
        · have hf := fif_f h hf
          refine V.aload_n (i := 0) dX11_set_53 rfl rfl ?_
          obtain ⟨v18, hv18, hf⟩ := fbind hf
          refine V.callVn (pl := [0, 1, 2, 3, 4]) (σ' := [.inl (6, [.ref 1, .ref 2, .int v18.1, .ref 3, .int M_isTaken, .ref 4, .int M_length, .int v17.2, .int M_spelt, .int M_speltMany, .int M_place, .int M_kind, .int M_one, .int M_two, .int M_three, .int M_begins, .int M_done, .int M_stopBy, .long M_hash]), .inr (406, .inl M_s), .inr (2436, .inl v18.2), .inr (406, .inl M_snapshot), .inr (60, .inl M_text)]) (st2 := []) (cl2 := 0) (sl2 := 0) (ct_X11_save (M_savedMany := M_savedMany) (M_isTaken := M_isTaken) (M_length := M_length) (M_thrown := v17.2) (M_spelt := M_spelt) (M_speltMany := M_speltMany) (M_place := M_place) (M_kind := M_kind) (M_one := M_one) (M_two := M_two) (M_three := M_three) (M_begins := M_begins) (M_done := M_done) (M_stopBy := M_stopBy) (M_hash := M_hash) (M_s := M_s) (M_saved := M_saved) (M_snapshot := M_snapshot) (M_text := M_text) hv18) dX11_set_54 w1185 ⟨w1187, w21⟩ cal_X11_save rfl ⟨⟨Nat.le_of_ble_eq_true rfl, Nat.le_of_ble_eq_true rfl⟩, Nat.le_of_ble_eq_true rfl, Nat.le_of_ble_eq_true rfl⟩ (Nat.le_of_ble_eq_true rfl) (Or.inl ⟨_, _, _, _, rfl, rfl⟩) rfl ⟨rfl, ⟨by decide, by decide⟩, rfl, (fr_cons (Or.inl (Nat.le_of_ble_eq_true rfl)) (fr_cons (Or.inl (Nat.le_of_ble_eq_true rfl)) (fr_cons (Or.inl (Nat.le_of_ble_eq_true rfl)) (fr_cons (Or.inl (Nat.le_of_ble_eq_true rfl)) (fr_nil))))), rfl⟩ fr_v rfl rfl rfl rfl ?_
          refine V.aload_n (i := 0) dX11_set_57 rfl rfl ?_
          refine V.getfield (kf := 0) (v := .ref 1) fl_RX11 dX11_set_58 w1043 (Nat.le_of_ble_eq_true rfl) rfl rfl ?_
          refine V.iconst (v := 4) dX11_set_61 rfl ?_
          refine V.iload_n (i := 1) dX11_set_62 rfl rfl ?_
          refine V.iadd dX11_set_63 ?_
          obtain ⟨hi, v19, ev19, hf⟩ := fld_e hf
          refine V.fld dX11_set_64 rfl hi ev19 ?_
          refine V.istore (i := 4) (L' := [some (.ref 0), some (.int a1), some (.int a2), some (.int v15), some (.int v19)]) dX11_set_65 (Nat.le_of_ble_eq_true rfl) rfl rfl ?_
          refine V.aload_n (i := 0) dX11_set_67 rfl rfl ?_
          refine V.getfield (kf := 0) (v := .ref 1) fl_RX11 dX11_set_68 w1043 (Nat.le_of_ble_eq_true rfl) rfl rfl ?_
          refine V.iconst (v := 4) dX11_set_71 rfl ?_
          refine V.iload_n (i := 1) dX11_set_72 rfl rfl ?_
          refine V.iadd dX11_set_73 ?_
          refine V.iload_n (i := 2) dX11_set_74 rfl rfl ?_
          obtain ⟨hi, s20, es20, hf⟩ := fst_e hf
          refine V.fst (σ' := [.inl (6, [.ref 1, .ref 2, .int v18.1, .ref 3, .int M_isTaken, .ref 4, .int M_length, .int v17.2, .int M_spelt, .int M_speltMany, .int M_place, .int M_kind, .int M_one, .int M_two, .int M_three, .int M_begins, .int M_done, .int M_stopBy, .long M_hash]), .inr (406, .inl s20), .inr (2436, .inl v18.2), .inr (406, .inl M_snapshot), .inr (60, .inl M_text)]) dX11_set_75 rfl hi es20 rfl ?_
          refine V.iload (i := 4) dX11_set_76 rfl ?_
          obtain rfl := Option.some.inj hf
          exact V.iret dX11_set_78 rfl (Nat.le_of_ble_eq_true rfl) (Nat.le_of_ble_eq_true rfl) rfl
        · have hf := fif_t h hf
          refine V.iconst (v := 0) dX11_set_51 rfl ?_
          obtain rfl := Option.some.inj hf
          exact V.iret dX11_set_52 rfl (Nat.le_of_ble_eq_true rfl) (Nat.le_of_ble_eq_true rfl) rfl
      · have hf := fif_f h hf
        refine V.iconst (v := 0) dX11_set_40 rfl ?_
        refine V.goto (tgt := 45) dX11_set_41 (by decide) ?_
        obtain ⟨v21, hv21, hf⟩ := fbind hf
        refine V.callVn (pl := [0, 1, 2, 3, 4]) (σ' := [.inl (6, [.ref 1, .ref 2, .int M_savedMany, .ref 3, .int M_isTaken, .ref 4, .int M_length, .int v21.2, .int M_spelt, .int M_speltMany, .int M_place, .int M_kind, .int M_one, .int M_two, .int M_three, .int M_begins, .int M_done, .int M_stopBy, .long M_hash]), .inr (406, .inl M_s), .inr (2436, .inl M_saved), .inr (406, .inl M_snapshot), .inr (60, .inl M_text)]) (st2 := [.int v21.1]) (cl2 := 0) (sl2 := 0) (ct_X11_holds (a1 := 0) (M_savedMany := M_savedMany) (M_isTaken := M_isTaken) (M_length := M_length) (M_thrown := M_thrown) (M_spelt := M_spelt) (M_speltMany := M_speltMany) (M_place := M_place) (M_kind := M_kind) (M_one := M_one) (M_two := M_two) (M_three := M_three) (M_begins := M_begins) (M_done := M_done) (M_stopBy := M_stopBy) (M_hash := M_hash) (M_s := M_s) (M_saved := M_saved) (M_snapshot := M_snapshot) (M_text := M_text) hv21) dX11_set_45 w1181 ⟨w1183, w20⟩ cal_X11_holds rfl ⟨⟨Nat.le_of_ble_eq_true rfl, Nat.le_of_ble_eq_true rfl⟩, Nat.le_of_ble_eq_true rfl, Nat.le_of_ble_eq_true rfl⟩ (Nat.le_of_ble_eq_true rfl) (Or.inl ⟨_, _, _, _, rfl, rfl⟩) rfl ⟨rfl, ⟨by decide, by decide⟩, rfl, (fr_cons (Or.inl (Nat.le_of_ble_eq_true rfl)) (fr_cons (Or.inl (Nat.le_of_ble_eq_true rfl)) (fr_cons (Or.inl (Nat.le_of_ble_eq_true rfl)) (fr_cons (Or.inl (Nat.le_of_ble_eq_true rfl)) (fr_nil))))), rfl⟩ fr_i rfl rfl rfl rfl ?_
        refine V.if_ne (tgt := 53) dX11_set_48 (by decide) (fun h => ?_) (fun h => ?_)
        · have hf := fif_f h hf
          refine V.aload_n (i := 0) dX11_set_53 rfl rfl ?_
          obtain ⟨v22, hv22, hf⟩ := fbind hf
          refine V.callVn (pl := [0, 1, 2, 3, 4]) (σ' := [.inl (6, [.ref 1, .ref 2, .int v22.1, .ref 3, .int M_isTaken, .ref 4, .int M_length, .int v21.2, .int M_spelt, .int M_speltMany, .int M_place, .int M_kind, .int M_one, .int M_two, .int M_three, .int M_begins, .int M_done, .int M_stopBy, .long M_hash]), .inr (406, .inl M_s), .inr (2436, .inl v22.2), .inr (406, .inl M_snapshot), .inr (60, .inl M_text)]) (st2 := []) (cl2 := 0) (sl2 := 0) (ct_X11_save (M_savedMany := M_savedMany) (M_isTaken := M_isTaken) (M_length := M_length) (M_thrown := v21.2) (M_spelt := M_spelt) (M_speltMany := M_speltMany) (M_place := M_place) (M_kind := M_kind) (M_one := M_one) (M_two := M_two) (M_three := M_three) (M_begins := M_begins) (M_done := M_done) (M_stopBy := M_stopBy) (M_hash := M_hash) (M_s := M_s) (M_saved := M_saved) (M_snapshot := M_snapshot) (M_text := M_text) hv22) dX11_set_54 w1185 ⟨w1187, w21⟩ cal_X11_save rfl ⟨⟨Nat.le_of_ble_eq_true rfl, Nat.le_of_ble_eq_true rfl⟩, Nat.le_of_ble_eq_true rfl, Nat.le_of_ble_eq_true rfl⟩ (Nat.le_of_ble_eq_true rfl) (Or.inl ⟨_, _, _, _, rfl, rfl⟩) rfl ⟨rfl, ⟨by decide, by decide⟩, rfl, (fr_cons (Or.inl (Nat.le_of_ble_eq_true rfl)) (fr_cons (Or.inl (Nat.le_of_ble_eq_true rfl)) (fr_cons (Or.inl (Nat.le_of_ble_eq_true rfl)) (fr_cons (Or.inl (Nat.le_of_ble_eq_true rfl)) (fr_nil))))), rfl⟩ fr_v rfl rfl rfl rfl ?_
          refine V.aload_n (i := 0) dX11_set_57 rfl rfl ?_
          refine V.getfield (kf := 0) (v := .ref 1) fl_RX11 dX11_set_58 w1043 (Nat.le_of_ble_eq_true rfl) rfl rfl ?_
          refine V.iconst (v := 4) dX11_set_61 rfl ?_
          refine V.iload_n (i := 1) dX11_set_62 rfl rfl ?_
          refine V.iadd dX11_set_63 ?_
          obtain ⟨hi, v23, ev23, hf⟩ := fld_e hf
          refine V.fld dX11_set_64 rfl hi ev23 ?_
          refine V.istore (i := 4) (L' := [some (.ref 0), some (.int a1), some (.int a2), some (.int v15), some (.int v23)]) dX11_set_65 (Nat.le_of_ble_eq_true rfl) rfl rfl ?_
          refine V.aload_n (i := 0) dX11_set_67 rfl rfl ?_
          refine V.getfield (kf := 0) (v := .ref 1) fl_RX11 dX11_set_68 w1043 (Nat.le_of_ble_eq_true rfl) rfl rfl ?_
          refine V.iconst (v := 4) dX11_set_71 rfl ?_
          refine V.iload_n (i := 1) dX11_set_72 rfl rfl ?_
          refine V.iadd dX11_set_73 ?_
          refine V.iload_n (i := 2) dX11_set_74 rfl rfl ?_
          obtain ⟨hi, s24, es24, hf⟩ := fst_e hf
          refine V.fst (σ' := [.inl (6, [.ref 1, .ref 2, .int v22.1, .ref 3, .int M_isTaken, .ref 4, .int M_length, .int v21.2, .int M_spelt, .int M_speltMany, .int M_place, .int M_kind, .int M_one, .int M_two, .int M_three, .int M_begins, .int M_done, .int M_stopBy, .long M_hash]), .inr (406, .inl s24), .inr (2436, .inl v22.2), .inr (406, .inl M_snapshot), .inr (60, .inl M_text)]) dX11_set_75 rfl hi es24 rfl ?_
          refine V.iload (i := 4) dX11_set_76 rfl ?_
          obtain rfl := Option.some.inj hf
          exact V.iret dX11_set_78 rfl (Nat.le_of_ble_eq_true rfl) (Nat.le_of_ble_eq_true rfl) rfl
        · have hf := fif_t h hf
          refine V.iconst (v := 0) dX11_set_51 rfl ?_
          obtain rfl := Option.some.inj hf
          exact V.iret dX11_set_52 rfl (Nat.le_of_ble_eq_true rfl) (Nat.le_of_ble_eq_true rfl) rfl
    · have hf := fif_t h hf
      refine V.iconst (v := 1) dX11_set_32 rfl ?_
      refine V.goto (tgt := 45) dX11_set_33 (by decide) ?_
      obtain ⟨v25, hv25, hf⟩ := fbind hf
      refine V.callVn (pl := [0, 1, 2, 3, 4]) (σ' := [.inl (6, [.ref 1, .ref 2, .int M_savedMany, .ref 3, .int M_isTaken, .ref 4, .int M_length, .int v25.2, .int M_spelt, .int M_speltMany, .int M_place, .int M_kind, .int M_one, .int M_two, .int M_three, .int M_begins, .int M_done, .int M_stopBy, .long M_hash]), .inr (406, .inl M_s), .inr (2436, .inl M_saved), .inr (406, .inl M_snapshot), .inr (60, .inl M_text)]) (st2 := [.int v25.1]) (cl2 := 0) (sl2 := 0) (ct_X11_holds (a1 := 1) (M_savedMany := M_savedMany) (M_isTaken := M_isTaken) (M_length := M_length) (M_thrown := M_thrown) (M_spelt := M_spelt) (M_speltMany := M_speltMany) (M_place := M_place) (M_kind := M_kind) (M_one := M_one) (M_two := M_two) (M_three := M_three) (M_begins := M_begins) (M_done := M_done) (M_stopBy := M_stopBy) (M_hash := M_hash) (M_s := M_s) (M_saved := M_saved) (M_snapshot := M_snapshot) (M_text := M_text) hv25) dX11_set_45 w1181 ⟨w1183, w20⟩ cal_X11_holds rfl ⟨⟨Nat.le_of_ble_eq_true rfl, Nat.le_of_ble_eq_true rfl⟩, Nat.le_of_ble_eq_true rfl, Nat.le_of_ble_eq_true rfl⟩ (Nat.le_of_ble_eq_true rfl) (Or.inl ⟨_, _, _, _, rfl, rfl⟩) rfl ⟨rfl, ⟨by decide, by decide⟩, rfl, (fr_cons (Or.inl (Nat.le_of_ble_eq_true rfl)) (fr_cons (Or.inl (Nat.le_of_ble_eq_true rfl)) (fr_cons (Or.inl (Nat.le_of_ble_eq_true rfl)) (fr_cons (Or.inl (Nat.le_of_ble_eq_true rfl)) (fr_nil))))), rfl⟩ fr_i rfl rfl rfl rfl ?_
      refine V.if_ne (tgt := 53) dX11_set_48 (by decide) (fun h => ?_) (fun h => ?_)
      · have hf := fif_f h hf
        refine V.aload_n (i := 0) dX11_set_53 rfl rfl ?_
        obtain ⟨v26, hv26, hf⟩ := fbind hf
        refine V.callVn (pl := [0, 1, 2, 3, 4]) (σ' := [.inl (6, [.ref 1, .ref 2, .int v26.1, .ref 3, .int M_isTaken, .ref 4, .int M_length, .int v25.2, .int M_spelt, .int M_speltMany, .int M_place, .int M_kind, .int M_one, .int M_two, .int M_three, .int M_begins, .int M_done, .int M_stopBy, .long M_hash]), .inr (406, .inl M_s), .inr (2436, .inl v26.2), .inr (406, .inl M_snapshot), .inr (60, .inl M_text)]) (st2 := []) (cl2 := 0) (sl2 := 0) (ct_X11_save (M_savedMany := M_savedMany) (M_isTaken := M_isTaken) (M_length := M_length) (M_thrown := v25.2) (M_spelt := M_spelt) (M_speltMany := M_speltMany) (M_place := M_place) (M_kind := M_kind) (M_one := M_one) (M_two := M_two) (M_three := M_three) (M_begins := M_begins) (M_done := M_done) (M_stopBy := M_stopBy) (M_hash := M_hash) (M_s := M_s) (M_saved := M_saved) (M_snapshot := M_snapshot) (M_text := M_text) hv26) dX11_set_54 w1185 ⟨w1187, w21⟩ cal_X11_save rfl ⟨⟨Nat.le_of_ble_eq_true rfl, Nat.le_of_ble_eq_true rfl⟩, Nat.le_of_ble_eq_true rfl, Nat.le_of_ble_eq_true rfl⟩ (Nat.le_of_ble_eq_true rfl) (Or.inl ⟨_, _, _, _, rfl, rfl⟩) rfl ⟨rfl, ⟨by decide, by decide⟩, rfl, (fr_cons (Or.inl (Nat.le_of_ble_eq_true rfl)) (fr_cons (Or.inl (Nat.le_of_ble_eq_true rfl)) (fr_cons (Or.inl (Nat.le_of_ble_eq_true rfl)) (fr_cons (Or.inl (Nat.le_of_ble_eq_true rfl)) (fr_nil))))), rfl⟩ fr_v rfl rfl rfl rfl ?_
        refine V.aload_n (i := 0) dX11_set_57 rfl rfl ?_
        refine V.getfield (kf := 0) (v := .ref 1) fl_RX11 dX11_set_58 w1043 (Nat.le_of_ble_eq_true rfl) rfl rfl ?_
        refine V.iconst (v := 4) dX11_set_61 rfl ?_
        refine V.iload_n (i := 1) dX11_set_62 rfl rfl ?_
        refine V.iadd dX11_set_63 ?_
        obtain ⟨hi, v27, ev27, hf⟩ := fld_e hf
        refine V.fld dX11_set_64 rfl hi ev27 ?_
        refine V.istore (i := 4) (L' := [some (.ref 0), some (.int a1), some (.int a2), some (.int v15), some (.int v27)]) dX11_set_65 (Nat.le_of_ble_eq_true rfl) rfl rfl ?_
        refine V.aload_n (i := 0) dX11_set_67 rfl rfl ?_
        refine V.getfield (kf := 0) (v := .ref 1) fl_RX11 dX11_set_68 w1043 (Nat.le_of_ble_eq_true rfl) rfl rfl ?_
        refine V.iconst (v := 4) dX11_set_71 rfl ?_
        refine V.iload_n (i := 1) dX11_set_72 rfl rfl ?_
        refine V.iadd dX11_set_73 ?_
        refine V.iload_n (i := 2) dX11_set_74 rfl rfl ?_
        obtain ⟨hi, s28, es28, hf⟩ := fst_e hf
        refine V.fst (σ' := [.inl (6, [.ref 1, .ref 2, .int v26.1, .ref 3, .int M_isTaken, .ref 4, .int M_length, .int v25.2, .int M_spelt, .int M_speltMany, .int M_place, .int M_kind, .int M_one, .int M_two, .int M_three, .int M_begins, .int M_done, .int M_stopBy, .long M_hash]), .inr (406, .inl s28), .inr (2436, .inl v26.2), .inr (406, .inl M_snapshot), .inr (60, .inl M_text)]) dX11_set_75 rfl hi es28 rfl ?_
        refine V.iload (i := 4) dX11_set_76 rfl ?_
        obtain rfl := Option.some.inj hf
        exact V.iret dX11_set_78 rfl (Nat.le_of_ble_eq_true rfl) (Nat.le_of_ble_eq_true rfl) rfl
      · have hf := fif_t h hf
        refine V.iconst (v := 0) dX11_set_51 rfl ?_
        obtain rfl := Option.some.inj hf
        exact V.iret dX11_set_52 rfl (Nat.le_of_ble_eq_true rfl) (Nat.le_of_ble_eq_true rfl) rfl
def k_X11_append : fK := (yX11_append, cX11_append, 2, (some .int), [], (1, 22), (0, 0), (0, 0))
theorem cal_X11_append : fCal k_X11_append 1 := ⟨⟨wc1270, w73⟩, ⟨by decide +kernel, by decide +kernel⟩, by decide +kernel, by decide +kernel⟩
def s_X11_append (a1 : Int32) (M_length : Int32) (M_thrown : Int32) (M_text : Nat → Int32) : Option (Int32 × (Int32) × (Int32) × (Nat → Int32)) := (s_X11_in a1 33 126).bind fun v1 => if (v1 = 0 : Prop) then ((s_X11_holds 1 M_thrown).bind fun v6 => if (v6.1 = 0 : Prop) then (some (0, M_length, v6.2, M_text)) else (fst 60 M_text M_length a1 fun s7 => some ((M_length + 1), (M_length + 1), v6.2, s7))) else (if (M_length = 60 : Prop) then ((s_X11_holds 2 M_thrown).bind fun v4 => if (v4.1 = 0 : Prop) then (some (0, M_length, v4.2, M_text)) else (fst 60 M_text M_length a1 fun s5 => some ((M_length + 1), (M_length + 1), v4.2, s5))) else ((s_X11_holds 0 M_thrown).bind fun v2 => if (v2.1 = 0 : Prop) then (some (0, M_length, v2.2, M_text)) else (fst 60 M_text M_length a1 fun s3 => some ((M_length + 1), (M_length + 1), v2.2, s3))))
set_option maxHeartbeats 4000000 in
set_option maxRecDepth 100000 in
theorem ct_X11_append {a1 : Int32} {M_savedMany : Int32} {M_isTaken : Int32} {M_length : Int32} {M_thrown : Int32} {M_spelt : Int32} {M_speltMany : Int32} {M_place : Int32} {M_kind : Int32} {M_one : Int32} {M_two : Int32} {M_three : Int32} {M_begins : Int32} {M_done : Int32} {M_stopBy : Int32} {M_hash : Int64} {M_s : Nat → Int32} {M_saved : Nat → Int32} {M_snapshot : Nat → Int32} {M_text : Nat → Int32} {res : Int32 × (Int32) × (Int32) × (Nat → Int32)} (hf : s_X11_append a1 M_length M_thrown M_text = some res) : Ct k_X11_append [.ref 0, .int a1] [.inl (6, [.ref 1, .ref 2, .int M_savedMany, .ref 3, .int M_isTaken, .ref 4, .int M_length, .int M_thrown, .int M_spelt, .int M_speltMany, .int M_place, .int M_kind, .int M_one, .int M_two, .int M_three, .int M_begins, .int M_done, .int M_stopBy, .long M_hash]), .inr (406, .inl M_s), .inr (2436, .inl M_saved), .inr (406, .inl M_snapshot), .inr (60, .inl M_text)] (.inl (some (.int res.1))) [.inl (6, [.ref 1, .ref 2, .int M_savedMany, .ref 3, .int M_isTaken, .ref 4, .int res.2.1, .int res.2.2.1, .int M_spelt, .int M_speltMany, .int M_place, .int M_kind, .int M_one, .int M_two, .int M_three, .int M_begins, .int M_done, .int M_stopBy, .long M_hash]), .inr (406, .inl M_s), .inr (2436, .inl M_saved), .inr (406, .inl M_snapshot), .inr (60, .inl res.2.2.2)] := by
  unfold s_X11_append at hf
  refine Ct.of (L := [some (.ref 0), some (.int a1)]) cal_X11_append (fent_pad (j := 0) rfl) (Nat.le_of_ble_eq_true rfl) ?_
  refine V.aload_n (i := 0) dX11_append_0 rfl rfl ?_
  refine V.iload_n (i := 1) dX11_append_1 rfl rfl ?_
  refine V.bipush (v := 33) dX11_append_2 rfl ?_
  refine V.bipush (v := 126) dX11_append_4 rfl ?_
  obtain ⟨v1, hv1, hf⟩ := fbind hf
  refine V.callSn (pl := []) (σ' := [.inl (6, [.ref 1, .ref 2, .int M_savedMany, .ref 3, .int M_isTaken, .ref 4, .int M_length, .int M_thrown, .int M_spelt, .int M_speltMany, .int M_place, .int M_kind, .int M_one, .int M_two, .int M_three, .int M_begins, .int M_done, .int M_stopBy, .long M_hash]), .inr (406, .inl M_s), .inr (2436, .inl M_saved), .inr (406, .inl M_snapshot), .inr (60, .inl M_text)]) (st2 := [.int v1, .ref 0]) (cl2 := 0) (sl2 := 0) (ct_X11_in (a0 := a1) (a1 := 33) (a2 := 126) hv1) dX11_append_6 w1113 w1114 cal_X11_in ⟨⟨Nat.le_of_ble_eq_true rfl, Nat.le_of_ble_eq_true rfl⟩, Nat.le_of_ble_eq_true rfl, Nat.le_of_ble_eq_true rfl⟩ (Nat.le_of_ble_eq_true rfl) rfl ⟨rfl, ⟨by decide, by decide⟩, rfl, (fr_nil), rfl⟩ fr_i rfl rfl rfl rfl ?_
  refine V.if_ne (tgt := 16) dX11_append_9 (by decide) (fun h => ?_) (fun h => ?_)
  · have hf := fif_f h hf
    refine V.aload_n (i := 0) dX11_append_16 rfl rfl ?_
    refine V.getfield (kf := 6) (v := .int M_length) fl_RX11 dX11_append_17 w1049 (Nat.le_of_ble_eq_true rfl) rfl rfl ?_
    refine V.bipush (v := 60) dX11_append_20 rfl ?_
    refine V.icmp_ne (tgt := 29) dX11_append_22 (by decide) (fun h => ?_) (fun h => ?_)
    · have hf := fif_f h hf
      refine V.iconst (v := 0) dX11_append_29 rfl ?_
      obtain ⟨v2, hv2, hf⟩ := fbind hf
      refine V.callVn (pl := [0, 1, 2, 3, 4]) (σ' := [.inl (6, [.ref 1, .ref 2, .int M_savedMany, .ref 3, .int M_isTaken, .ref 4, .int M_length, .int v2.2, .int M_spelt, .int M_speltMany, .int M_place, .int M_kind, .int M_one, .int M_two, .int M_three, .int M_begins, .int M_done, .int M_stopBy, .long M_hash]), .inr (406, .inl M_s), .inr (2436, .inl M_saved), .inr (406, .inl M_snapshot), .inr (60, .inl M_text)]) (st2 := [.int v2.1]) (cl2 := 0) (sl2 := 0) (ct_X11_holds (a1 := 0) (M_savedMany := M_savedMany) (M_isTaken := M_isTaken) (M_length := M_length) (M_thrown := M_thrown) (M_spelt := M_spelt) (M_speltMany := M_speltMany) (M_place := M_place) (M_kind := M_kind) (M_one := M_one) (M_two := M_two) (M_three := M_three) (M_begins := M_begins) (M_done := M_done) (M_stopBy := M_stopBy) (M_hash := M_hash) (M_s := M_s) (M_saved := M_saved) (M_snapshot := M_snapshot) (M_text := M_text) hv2) dX11_append_30 w1181 ⟨w1183, w20⟩ cal_X11_holds rfl ⟨⟨Nat.le_of_ble_eq_true rfl, Nat.le_of_ble_eq_true rfl⟩, Nat.le_of_ble_eq_true rfl, Nat.le_of_ble_eq_true rfl⟩ (Nat.le_of_ble_eq_true rfl) (Or.inl ⟨_, _, _, _, rfl, rfl⟩) rfl ⟨rfl, ⟨by decide, by decide⟩, rfl, (fr_cons (Or.inl (Nat.le_of_ble_eq_true rfl)) (fr_cons (Or.inl (Nat.le_of_ble_eq_true rfl)) (fr_cons (Or.inl (Nat.le_of_ble_eq_true rfl)) (fr_cons (Or.inl (Nat.le_of_ble_eq_true rfl)) (fr_nil))))), rfl⟩ fr_i rfl rfl rfl rfl ?_
      refine V.if_ne (tgt := 38) dX11_append_33 (by decide) (fun h => ?_) (fun h => ?_)
      · have hf := fif_f h hf
        refine V.aload_n (i := 0) dX11_append_38 rfl rfl ?_
        refine V.getfield (kf := 5) (v := .ref 4) fl_RX11 dX11_append_39 w1048 (Nat.le_of_ble_eq_true rfl) rfl rfl ?_
        refine V.aload_n (i := 0) dX11_append_42 rfl rfl ?_
        refine V.getfield (kf := 6) (v := .int M_length) fl_RX11 dX11_append_43 w1049 (Nat.le_of_ble_eq_true rfl) rfl rfl ?_
        refine V.iload_n (i := 1) dX11_append_46 rfl rfl ?_
        obtain ⟨hi, s3, es3, hf⟩ := fst_e hf
        refine V.fst (σ' := [.inl (6, [.ref 1, .ref 2, .int M_savedMany, .ref 3, .int M_isTaken, .ref 4, .int M_length, .int v2.2, .int M_spelt, .int M_speltMany, .int M_place, .int M_kind, .int M_one, .int M_two, .int M_three, .int M_begins, .int M_done, .int M_stopBy, .long M_hash]), .inr (406, .inl M_s), .inr (2436, .inl M_saved), .inr (406, .inl M_snapshot), .inr (60, .inl s3)]) dX11_append_47 rfl hi es3 rfl ?_
        refine V.aload_n (i := 0) dX11_append_48 rfl rfl ?_
        refine V.dup dX11_append_49 rfl ?_
        refine V.getfield (kf := 6) (v := .int M_length) fl_RX11 dX11_append_50 w1049 (Nat.le_of_ble_eq_true rfl) rfl rfl ?_
        refine V.iconst (v := 1) dX11_append_53 rfl ?_
        refine V.iadd dX11_append_54 ?_
        refine V.putfield (ty := tyX11) (kf := 6) (σ' := [.inl (6, [.ref 1, .ref 2, .int M_savedMany, .ref 3, .int M_isTaken, .ref 4, .int (M_length + 1), .int v2.2, .int M_spelt, .int M_speltMany, .int M_place, .int M_kind, .int M_one, .int M_two, .int M_three, .int M_begins, .int M_done, .int M_stopBy, .long M_hash]), .inr (406, .inl M_s), .inr (2436, .inl M_saved), .inr (406, .inl M_snapshot), .inr (60, .inl s3)]) fl_RX11 dX11_append_55 w1049 (Nat.le_of_ble_eq_true rfl) rfl (fun _ => ⟨rfl, rfl⟩) rfl (Nat.le_of_ble_eq_true rfl) rfl ?_
        refine V.aload_n (i := 0) dX11_append_58 rfl rfl ?_
        refine V.getfield (kf := 6) (v := .int (M_length + 1)) fl_RX11 dX11_append_59 w1049 (Nat.le_of_ble_eq_true rfl) rfl rfl ?_
        obtain rfl := Option.some.inj hf
        exact V.iret dX11_append_62 rfl (Nat.le_of_ble_eq_true rfl) (Nat.le_of_ble_eq_true rfl) rfl
      · have hf := fif_t h hf
        refine V.iconst (v := 0) dX11_append_36 rfl ?_
        obtain rfl := Option.some.inj hf
        exact V.iret dX11_append_37 rfl (Nat.le_of_ble_eq_true rfl) (Nat.le_of_ble_eq_true rfl) rfl
    · have hf := fif_t h hf
      refine V.iconst (v := 2) dX11_append_25 rfl ?_
      refine V.goto (tgt := 30) dX11_append_26 (by decide) ?_
      obtain ⟨v4, hv4, hf⟩ := fbind hf
      refine V.callVn (pl := [0, 1, 2, 3, 4]) (σ' := [.inl (6, [.ref 1, .ref 2, .int M_savedMany, .ref 3, .int M_isTaken, .ref 4, .int M_length, .int v4.2, .int M_spelt, .int M_speltMany, .int M_place, .int M_kind, .int M_one, .int M_two, .int M_three, .int M_begins, .int M_done, .int M_stopBy, .long M_hash]), .inr (406, .inl M_s), .inr (2436, .inl M_saved), .inr (406, .inl M_snapshot), .inr (60, .inl M_text)]) (st2 := [.int v4.1]) (cl2 := 0) (sl2 := 0) (ct_X11_holds (a1 := 2) (M_savedMany := M_savedMany) (M_isTaken := M_isTaken) (M_length := M_length) (M_thrown := M_thrown) (M_spelt := M_spelt) (M_speltMany := M_speltMany) (M_place := M_place) (M_kind := M_kind) (M_one := M_one) (M_two := M_two) (M_three := M_three) (M_begins := M_begins) (M_done := M_done) (M_stopBy := M_stopBy) (M_hash := M_hash) (M_s := M_s) (M_saved := M_saved) (M_snapshot := M_snapshot) (M_text := M_text) hv4) dX11_append_30 w1181 ⟨w1183, w20⟩ cal_X11_holds rfl ⟨⟨Nat.le_of_ble_eq_true rfl, Nat.le_of_ble_eq_true rfl⟩, Nat.le_of_ble_eq_true rfl, Nat.le_of_ble_eq_true rfl⟩ (Nat.le_of_ble_eq_true rfl) (Or.inl ⟨_, _, _, _, rfl, rfl⟩) rfl ⟨rfl, ⟨by decide, by decide⟩, rfl, (fr_cons (Or.inl (Nat.le_of_ble_eq_true rfl)) (fr_cons (Or.inl (Nat.le_of_ble_eq_true rfl)) (fr_cons (Or.inl (Nat.le_of_ble_eq_true rfl)) (fr_cons (Or.inl (Nat.le_of_ble_eq_true rfl)) (fr_nil))))), rfl⟩ fr_i rfl rfl rfl rfl ?_
      refine V.if_ne (tgt := 38) dX11_append_33 (by decide) (fun h => ?_) (fun h => ?_)
      · have hf := fif_f h hf
        refine V.aload_n (i := 0) dX11_append_38 rfl rfl ?_
        refine V.getfield (kf := 5) (v := .ref 4) fl_RX11 dX11_append_39 w1048 (Nat.le_of_ble_eq_true rfl) rfl rfl ?_
        refine V.aload_n (i := 0) dX11_append_42 rfl rfl ?_
        refine V.getfield (kf := 6) (v := .int M_length) fl_RX11 dX11_append_43 w1049 (Nat.le_of_ble_eq_true rfl) rfl rfl ?_
        refine V.iload_n (i := 1) dX11_append_46 rfl rfl ?_
        obtain ⟨hi, s5, es5, hf⟩ := fst_e hf
        refine V.fst (σ' := [.inl (6, [.ref 1, .ref 2, .int M_savedMany, .ref 3, .int M_isTaken, .ref 4, .int M_length, .int v4.2, .int M_spelt, .int M_speltMany, .int M_place, .int M_kind, .int M_one, .int M_two, .int M_three, .int M_begins, .int M_done, .int M_stopBy, .long M_hash]), .inr (406, .inl M_s), .inr (2436, .inl M_saved), .inr (406, .inl M_snapshot), .inr (60, .inl s5)]) dX11_append_47 rfl hi es5 rfl ?_
        refine V.aload_n (i := 0) dX11_append_48 rfl rfl ?_
        refine V.dup dX11_append_49 rfl ?_
        refine V.getfield (kf := 6) (v := .int M_length) fl_RX11 dX11_append_50 w1049 (Nat.le_of_ble_eq_true rfl) rfl rfl ?_
        refine V.iconst (v := 1) dX11_append_53 rfl ?_
        refine V.iadd dX11_append_54 ?_
        refine V.putfield (ty := tyX11) (kf := 6) (σ' := [.inl (6, [.ref 1, .ref 2, .int M_savedMany, .ref 3, .int M_isTaken, .ref 4, .int (M_length + 1), .int v4.2, .int M_spelt, .int M_speltMany, .int M_place, .int M_kind, .int M_one, .int M_two, .int M_three, .int M_begins, .int M_done, .int M_stopBy, .long M_hash]), .inr (406, .inl M_s), .inr (2436, .inl M_saved), .inr (406, .inl M_snapshot), .inr (60, .inl s5)]) fl_RX11 dX11_append_55 w1049 (Nat.le_of_ble_eq_true rfl) rfl (fun _ => ⟨rfl, rfl⟩) rfl (Nat.le_of_ble_eq_true rfl) rfl ?_
        refine V.aload_n (i := 0) dX11_append_58 rfl rfl ?_
        refine V.getfield (kf := 6) (v := .int (M_length + 1)) fl_RX11 dX11_append_59 w1049 (Nat.le_of_ble_eq_true rfl) rfl rfl ?_
        obtain rfl := Option.some.inj hf
        exact V.iret dX11_append_62 rfl (Nat.le_of_ble_eq_true rfl) (Nat.le_of_ble_eq_true rfl) rfl
      · have hf := fif_t h hf
        refine V.iconst (v := 0) dX11_append_36 rfl ?_
        obtain rfl := Option.some.inj hf
        exact V.iret dX11_append_37 rfl (Nat.le_of_ble_eq_true rfl) (Nat.le_of_ble_eq_true rfl) rfl
  · have hf := fif_t h hf
    refine V.iconst (v := 1) dX11_append_12 rfl ?_
    refine V.goto (tgt := 30) dX11_append_13 (by decide) ?_
    obtain ⟨v6, hv6, hf⟩ := fbind hf
    refine V.callVn (pl := [0, 1, 2, 3, 4]) (σ' := [.inl (6, [.ref 1, .ref 2, .int M_savedMany, .ref 3, .int M_isTaken, .ref 4, .int M_length, .int v6.2, .int M_spelt, .int M_speltMany, .int M_place, .int M_kind, .int M_one, .int M_two, .int M_three, .int M_begins, .int M_done, .int M_stopBy, .long M_hash]), .inr (406, .inl M_s), .inr (2436, .inl M_saved), .inr (406, .inl M_snapshot), .inr (60, .inl M_text)]) (st2 := [.int v6.1]) (cl2 := 0) (sl2 := 0) (ct_X11_holds (a1 := 1) (M_savedMany := M_savedMany) (M_isTaken := M_isTaken) (M_length := M_length) (M_thrown := M_thrown) (M_spelt := M_spelt) (M_speltMany := M_speltMany) (M_place := M_place) (M_kind := M_kind) (M_one := M_one) (M_two := M_two) (M_three := M_three) (M_begins := M_begins) (M_done := M_done) (M_stopBy := M_stopBy) (M_hash := M_hash) (M_s := M_s) (M_saved := M_saved) (M_snapshot := M_snapshot) (M_text := M_text) hv6) dX11_append_30 w1181 ⟨w1183, w20⟩ cal_X11_holds rfl ⟨⟨Nat.le_of_ble_eq_true rfl, Nat.le_of_ble_eq_true rfl⟩, Nat.le_of_ble_eq_true rfl, Nat.le_of_ble_eq_true rfl⟩ (Nat.le_of_ble_eq_true rfl) (Or.inl ⟨_, _, _, _, rfl, rfl⟩) rfl ⟨rfl, ⟨by decide, by decide⟩, rfl, (fr_cons (Or.inl (Nat.le_of_ble_eq_true rfl)) (fr_cons (Or.inl (Nat.le_of_ble_eq_true rfl)) (fr_cons (Or.inl (Nat.le_of_ble_eq_true rfl)) (fr_cons (Or.inl (Nat.le_of_ble_eq_true rfl)) (fr_nil))))), rfl⟩ fr_i rfl rfl rfl rfl ?_
    refine V.if_ne (tgt := 38) dX11_append_33 (by decide) (fun h => ?_) (fun h => ?_)
    · have hf := fif_f h hf
      refine V.aload_n (i := 0) dX11_append_38 rfl rfl ?_
      refine V.getfield (kf := 5) (v := .ref 4) fl_RX11 dX11_append_39 w1048 (Nat.le_of_ble_eq_true rfl) rfl rfl ?_
      refine V.aload_n (i := 0) dX11_append_42 rfl rfl ?_
      refine V.getfield (kf := 6) (v := .int M_length) fl_RX11 dX11_append_43 w1049 (Nat.le_of_ble_eq_true rfl) rfl rfl ?_
      refine V.iload_n (i := 1) dX11_append_46 rfl rfl ?_
      obtain ⟨hi, s7, es7, hf⟩ := fst_e hf
      refine V.fst (σ' := [.inl (6, [.ref 1, .ref 2, .int M_savedMany, .ref 3, .int M_isTaken, .ref 4, .int M_length, .int v6.2, .int M_spelt, .int M_speltMany, .int M_place, .int M_kind, .int M_one, .int M_two, .int M_three, .int M_begins, .int M_done, .int M_stopBy, .long M_hash]), .inr (406, .inl M_s), .inr (2436, .inl M_saved), .inr (406, .inl M_snapshot), .inr (60, .inl s7)]) dX11_append_47 rfl hi es7 rfl ?_
      refine V.aload_n (i := 0) dX11_append_48 rfl rfl ?_
      refine V.dup dX11_append_49 rfl ?_
      refine V.getfield (kf := 6) (v := .int M_length) fl_RX11 dX11_append_50 w1049 (Nat.le_of_ble_eq_true rfl) rfl rfl ?_
      refine V.iconst (v := 1) dX11_append_53 rfl ?_
      refine V.iadd dX11_append_54 ?_
      refine V.putfield (ty := tyX11) (kf := 6) (σ' := [.inl (6, [.ref 1, .ref 2, .int M_savedMany, .ref 3, .int M_isTaken, .ref 4, .int (M_length + 1), .int v6.2, .int M_spelt, .int M_speltMany, .int M_place, .int M_kind, .int M_one, .int M_two, .int M_three, .int M_begins, .int M_done, .int M_stopBy, .long M_hash]), .inr (406, .inl M_s), .inr (2436, .inl M_saved), .inr (406, .inl M_snapshot), .inr (60, .inl s7)]) fl_RX11 dX11_append_55 w1049 (Nat.le_of_ble_eq_true rfl) rfl (fun _ => ⟨rfl, rfl⟩) rfl (Nat.le_of_ble_eq_true rfl) rfl ?_
      refine V.aload_n (i := 0) dX11_append_58 rfl rfl ?_
      refine V.getfield (kf := 6) (v := .int (M_length + 1)) fl_RX11 dX11_append_59 w1049 (Nat.le_of_ble_eq_true rfl) rfl rfl ?_
      obtain rfl := Option.some.inj hf
      exact V.iret dX11_append_62 rfl (Nat.le_of_ble_eq_true rfl) (Nat.le_of_ble_eq_true rfl) rfl
    · have hf := fif_t h hf
      refine V.iconst (v := 0) dX11_append_36 rfl ?_
      obtain rfl := Option.some.inj hf
      exact V.iret dX11_append_37 rfl (Nat.le_of_ble_eq_true rfl) (Nat.le_of_ble_eq_true rfl) rfl
def k_X11_clearBuffer : fK := (yX11_clearBuffer, cX11_clearBuffer, 2, (some .int), [], (1, 21), (0, 0), (0, 0))
theorem cal_X11_clearBuffer : fCal k_X11_clearBuffer 0 := ⟨⟨wc1274, w73⟩, ⟨by decide +kernel, by decide +kernel⟩, by decide +kernel, by decide +kernel⟩
def s_X11_clearBuffer (M_length : Int32) (M_thrown : Int32) : Option (Int32 × (Int32) × (Int32)) := (s_X11_plain M_length M_thrown).bind fun v1 => some (v1.1, 0, v1.2)
set_option maxHeartbeats 4000000 in
set_option maxRecDepth 100000 in
theorem ct_X11_clearBuffer {M_savedMany : Int32} {M_isTaken : Int32} {M_length : Int32} {M_thrown : Int32} {M_spelt : Int32} {M_speltMany : Int32} {M_place : Int32} {M_kind : Int32} {M_one : Int32} {M_two : Int32} {M_three : Int32} {M_begins : Int32} {M_done : Int32} {M_stopBy : Int32} {M_hash : Int64} {M_s : Nat → Int32} {M_saved : Nat → Int32} {M_snapshot : Nat → Int32} {M_text : Nat → Int32} {res : Int32 × (Int32) × (Int32)} (hf : s_X11_clearBuffer M_length M_thrown = some res) : Ct k_X11_clearBuffer [.ref 0] [.inl (6, [.ref 1, .ref 2, .int M_savedMany, .ref 3, .int M_isTaken, .ref 4, .int M_length, .int M_thrown, .int M_spelt, .int M_speltMany, .int M_place, .int M_kind, .int M_one, .int M_two, .int M_three, .int M_begins, .int M_done, .int M_stopBy, .long M_hash]), .inr (406, .inl M_s), .inr (2436, .inl M_saved), .inr (406, .inl M_snapshot), .inr (60, .inl M_text)] (.inl (some (.int res.1))) [.inl (6, [.ref 1, .ref 2, .int M_savedMany, .ref 3, .int M_isTaken, .ref 4, .int res.2.1, .int res.2.2, .int M_spelt, .int M_speltMany, .int M_place, .int M_kind, .int M_one, .int M_two, .int M_three, .int M_begins, .int M_done, .int M_stopBy, .long M_hash]), .inr (406, .inl M_s), .inr (2436, .inl M_saved), .inr (406, .inl M_snapshot), .inr (60, .inl M_text)] := by
  unfold s_X11_clearBuffer at hf
  refine Ct.of (L := [some (.ref 0), none]) cal_X11_clearBuffer (fent_pad (j := 1) rfl) (Nat.le_of_ble_eq_true rfl) ?_
  refine V.aload_n (i := 0) dX11_clearBuffer_0 rfl rfl ?_
  refine V.getfield (kf := 6) (v := .int M_length) fl_RX11 dX11_clearBuffer_1 w1049 (Nat.le_of_ble_eq_true rfl) rfl rfl ?_
  refine V.istore_n (i := 1) (L' := [some (.ref 0), some (.int M_length)]) dX11_clearBuffer_4 rfl (Nat.le_of_ble_eq_true rfl) rfl rfl ?_
  refine V.aload_n (i := 0) dX11_clearBuffer_5 rfl rfl ?_
  refine V.iconst (v := 0) dX11_clearBuffer_6 rfl ?_
  refine V.putfield (ty := tyX11) (kf := 6) (σ' := [.inl (6, [.ref 1, .ref 2, .int M_savedMany, .ref 3, .int M_isTaken, .ref 4, .int 0, .int M_thrown, .int M_spelt, .int M_speltMany, .int M_place, .int M_kind, .int M_one, .int M_two, .int M_three, .int M_begins, .int M_done, .int M_stopBy, .long M_hash]), .inr (406, .inl M_s), .inr (2436, .inl M_saved), .inr (406, .inl M_snapshot), .inr (60, .inl M_text)]) fl_RX11 dX11_clearBuffer_7 w1049 (Nat.le_of_ble_eq_true rfl) rfl (fun _ => ⟨rfl, rfl⟩) rfl (Nat.le_of_ble_eq_true rfl) rfl ?_
  refine V.aload_n (i := 0) dX11_clearBuffer_10 rfl rfl ?_
  refine V.iload_n (i := 1) dX11_clearBuffer_11 rfl rfl ?_
  obtain ⟨v1, hv1, hf⟩ := fbind hf
  refine V.callVn (pl := [0, 1, 2, 3, 4]) (σ' := [.inl (6, [.ref 1, .ref 2, .int M_savedMany, .ref 3, .int M_isTaken, .ref 4, .int 0, .int v1.2, .int M_spelt, .int M_speltMany, .int M_place, .int M_kind, .int M_one, .int M_two, .int M_three, .int M_begins, .int M_done, .int M_stopBy, .long M_hash]), .inr (406, .inl M_s), .inr (2436, .inl M_saved), .inr (406, .inl M_snapshot), .inr (60, .inl M_text)]) (st2 := [.int v1.1]) (cl2 := 0) (sl2 := 0) (ct_X11_plain (a1 := M_length) (M_savedMany := M_savedMany) (M_isTaken := M_isTaken) (M_length := 0) (M_thrown := M_thrown) (M_spelt := M_spelt) (M_speltMany := M_speltMany) (M_place := M_place) (M_kind := M_kind) (M_one := M_one) (M_two := M_two) (M_three := M_three) (M_begins := M_begins) (M_done := M_done) (M_stopBy := M_stopBy) (M_hash := M_hash) (M_s := M_s) (M_saved := M_saved) (M_snapshot := M_snapshot) (M_text := M_text) hv1) dX11_clearBuffer_12 w1275 ⟨w1277, w34⟩ cal_X11_plain rfl ⟨⟨Nat.le_of_ble_eq_true rfl, Nat.le_of_ble_eq_true rfl⟩, Nat.le_of_ble_eq_true rfl, Nat.le_of_ble_eq_true rfl⟩ (Nat.le_of_ble_eq_true rfl) (Or.inl ⟨_, _, _, _, rfl, rfl⟩) rfl ⟨rfl, ⟨by decide, by decide⟩, rfl, (fr_cons (Or.inl (Nat.le_of_ble_eq_true rfl)) (fr_cons (Or.inl (Nat.le_of_ble_eq_true rfl)) (fr_cons (Or.inl (Nat.le_of_ble_eq_true rfl)) (fr_cons (Or.inl (Nat.le_of_ble_eq_true rfl)) (fr_nil))))), rfl⟩ fr_i rfl rfl rfl rfl ?_
  obtain rfl := Option.some.inj hf
  exact V.iret dX11_clearBuffer_15 rfl (Nat.le_of_ble_eq_true rfl) (Nat.le_of_ble_eq_true rfl) rfl
def k_X11_isNext : fK := (yX11_isNext, cX11_isNext, 3, (some .boolean), [], (1, 22), (0, 0), (0, 0))
theorem cal_X11_isNext : fCal k_X11_isNext 2 := ⟨⟨wc1302, w73⟩, ⟨by decide +kernel, by decide +kernel⟩, by decide +kernel, by decide +kernel⟩
def s_X11_isNext (a1 : Int32) (a2 : Int32) (M_length : Int32) (M_place : Int32) (M_text : Nat → Int32) : Option (Int32) := if (M_length ≤ M_place : Prop) then (some 0) else (fld 60 M_text M_place fun v1 => (s_X11_in v1 a1 a2).bind fun v2 => if (v2 = 0 : Prop) then (some 0) else (some 1))
set_option maxHeartbeats 4000000 in
set_option maxRecDepth 100000 in
theorem ct_X11_isNext {a1 : Int32} {a2 : Int32} {M_savedMany : Int32} {M_isTaken : Int32} {M_length : Int32} {M_thrown : Int32} {M_spelt : Int32} {M_speltMany : Int32} {M_place : Int32} {M_kind : Int32} {M_one : Int32} {M_two : Int32} {M_three : Int32} {M_begins : Int32} {M_done : Int32} {M_stopBy : Int32} {M_hash : Int64} {M_s : Nat → Int32} {M_saved : Nat → Int32} {M_snapshot : Nat → Int32} {M_text : Nat → Int32} {res : Int32} (hf : s_X11_isNext a1 a2 M_length M_place M_text = some res) : Ct k_X11_isNext [.ref 0, .int a1, .int a2] [.inl (6, [.ref 1, .ref 2, .int M_savedMany, .ref 3, .int M_isTaken, .ref 4, .int M_length, .int M_thrown, .int M_spelt, .int M_speltMany, .int M_place, .int M_kind, .int M_one, .int M_two, .int M_three, .int M_begins, .int M_done, .int M_stopBy, .long M_hash]), .inr (406, .inl M_s), .inr (2436, .inl M_saved), .inr (406, .inl M_snapshot), .inr (60, .inl M_text)] (.inl (some (.int res))) [.inl (6, [.ref 1, .ref 2, .int M_savedMany, .ref 3, .int M_isTaken, .ref 4, .int M_length, .int M_thrown, .int M_spelt, .int M_speltMany, .int M_place, .int M_kind, .int M_one, .int M_two, .int M_three, .int M_begins, .int M_done, .int M_stopBy, .long M_hash]), .inr (406, .inl M_s), .inr (2436, .inl M_saved), .inr (406, .inl M_snapshot), .inr (60, .inl M_text)] := by
  unfold s_X11_isNext at hf
  refine Ct.of (L := [some (.ref 0), some (.int a1), some (.int a2)]) cal_X11_isNext (fent_pad (j := 0) rfl) (Nat.le_of_ble_eq_true rfl) ?_
  refine V.aload_n (i := 0) dX11_isNext_0 rfl rfl ?_
  refine V.getfield (kf := 10) (v := .int M_place) fl_RX11 dX11_isNext_1 w1053 (Nat.le_of_ble_eq_true rfl) rfl rfl ?_
  refine V.aload_n (i := 0) dX11_isNext_4 rfl rfl ?_
  refine V.getfield (kf := 6) (v := .int M_length) fl_RX11 dX11_isNext_5 w1049 (Nat.le_of_ble_eq_true rfl) rfl rfl ?_
  refine V.icmp_ge (tgt := 32) dX11_isNext_8 (by decide) (fun h => ?_) (fun h => ?_)
  · have hf := fif_t h hf
    refine V.iconst (v := 0) dX11_isNext_32 rfl ?_
    obtain rfl := Option.some.inj hf
    exact V.zret (v := 0) dX11_isNext_33 rfl (by decide +kernel) (Nat.le_of_ble_eq_true rfl) (Nat.le_of_ble_eq_true rfl) rfl
  · have hf := fif_f h hf
    refine V.aload_n (i := 0) dX11_isNext_11 rfl rfl ?_
    refine V.getfield (kf := 5) (v := .ref 4) fl_RX11 dX11_isNext_12 w1048 (Nat.le_of_ble_eq_true rfl) rfl rfl ?_
    refine V.aload_n (i := 0) dX11_isNext_15 rfl rfl ?_
    refine V.getfield (kf := 10) (v := .int M_place) fl_RX11 dX11_isNext_16 w1053 (Nat.le_of_ble_eq_true rfl) rfl rfl ?_
    obtain ⟨hi, v1, ev1, hf⟩ := fld_e hf
    refine V.fld dX11_isNext_19 rfl hi ev1 ?_
    refine V.iload_n (i := 1) dX11_isNext_20 rfl rfl ?_
    refine V.iload_n (i := 2) dX11_isNext_21 rfl rfl ?_
    obtain ⟨v2, hv2, hf⟩ := fbind hf
    refine V.callSn (pl := []) (σ' := [.inl (6, [.ref 1, .ref 2, .int M_savedMany, .ref 3, .int M_isTaken, .ref 4, .int M_length, .int M_thrown, .int M_spelt, .int M_speltMany, .int M_place, .int M_kind, .int M_one, .int M_two, .int M_three, .int M_begins, .int M_done, .int M_stopBy, .long M_hash]), .inr (406, .inl M_s), .inr (2436, .inl M_saved), .inr (406, .inl M_snapshot), .inr (60, .inl M_text)]) (st2 := [.int v2]) (cl2 := 0) (sl2 := 0) (ct_X11_in (a0 := v1) (a1 := a1) (a2 := a2) hv2) dX11_isNext_22 w1113 w1114 cal_X11_in ⟨⟨Nat.le_of_ble_eq_true rfl, Nat.le_of_ble_eq_true rfl⟩, Nat.le_of_ble_eq_true rfl, Nat.le_of_ble_eq_true rfl⟩ (Nat.le_of_ble_eq_true rfl) rfl ⟨rfl, ⟨by decide, by decide⟩, rfl, (fr_nil), rfl⟩ fr_i rfl rfl rfl rfl ?_
    refine V.if_eq (tgt := 32) dX11_isNext_25 (by decide) (fun h => ?_) (fun h => ?_)
    · have hf := fif_t h hf
      refine V.iconst (v := 0) dX11_isNext_32 rfl ?_
      obtain rfl := Option.some.inj hf
      exact V.zret (v := 0) dX11_isNext_33 rfl (by decide +kernel) (Nat.le_of_ble_eq_true rfl) (Nat.le_of_ble_eq_true rfl) rfl
    · have hf := fif_f h hf
      refine V.iconst (v := 1) dX11_isNext_28 rfl ?_
      refine V.goto (tgt := 33) dX11_isNext_29 (by decide) ?_
      obtain rfl := Option.some.inj hf
      exact V.zret (v := 1) dX11_isNext_33 rfl (by decide +kernel) (Nat.le_of_ble_eq_true rfl) (Nat.le_of_ble_eq_true rfl) rfl
def k_X11_takes : fK := (yX11_takes, cX11_takes, 3, (some .boolean), [], (2, 44), (0, 0), (0, 0))
theorem cal_X11_takes : fCal k_X11_takes 1 := ⟨⟨wc1298, w73⟩, ⟨by decide +kernel, by decide +kernel⟩, by decide +kernel, by decide +kernel⟩
def s_X11_takes (a1 : Int32) (M_length : Int32) (M_place : Int32) (M_text : Nat → Int32) : Option (Int32 × (Int32)) := (s_X11_isNext a1 a1 M_length M_place M_text).bind fun v1 => if (v1 = 0 : Prop) then (fz v1 (some (v1, (M_place + 0)))) else (fz v1 (some (v1, (M_place + 1))))
set_option maxHeartbeats 4000000 in
set_option maxRecDepth 100000 in
theorem ct_X11_takes {a1 : Int32} {M_savedMany : Int32} {M_isTaken : Int32} {M_length : Int32} {M_thrown : Int32} {M_spelt : Int32} {M_speltMany : Int32} {M_place : Int32} {M_kind : Int32} {M_one : Int32} {M_two : Int32} {M_three : Int32} {M_begins : Int32} {M_done : Int32} {M_stopBy : Int32} {M_hash : Int64} {M_s : Nat → Int32} {M_saved : Nat → Int32} {M_snapshot : Nat → Int32} {M_text : Nat → Int32} {res : Int32 × (Int32)} (hf : s_X11_takes a1 M_length M_place M_text = some res) : Ct k_X11_takes [.ref 0, .int a1] [.inl (6, [.ref 1, .ref 2, .int M_savedMany, .ref 3, .int M_isTaken, .ref 4, .int M_length, .int M_thrown, .int M_spelt, .int M_speltMany, .int M_place, .int M_kind, .int M_one, .int M_two, .int M_three, .int M_begins, .int M_done, .int M_stopBy, .long M_hash]), .inr (406, .inl M_s), .inr (2436, .inl M_saved), .inr (406, .inl M_snapshot), .inr (60, .inl M_text)] (.inl (some (.int res.1))) [.inl (6, [.ref 1, .ref 2, .int M_savedMany, .ref 3, .int M_isTaken, .ref 4, .int M_length, .int M_thrown, .int M_spelt, .int M_speltMany, .int res.2, .int M_kind, .int M_one, .int M_two, .int M_three, .int M_begins, .int M_done, .int M_stopBy, .long M_hash]), .inr (406, .inl M_s), .inr (2436, .inl M_saved), .inr (406, .inl M_snapshot), .inr (60, .inl M_text)] := by
  unfold s_X11_takes at hf
  refine Ct.of (L := [some (.ref 0), some (.int a1), none]) cal_X11_takes (fent_pad (j := 1) rfl) (Nat.le_of_ble_eq_true rfl) ?_
  refine V.aload_n (i := 0) dX11_takes_0 rfl rfl ?_
  refine V.iload_n (i := 1) dX11_takes_1 rfl rfl ?_
  refine V.iload_n (i := 1) dX11_takes_2 rfl rfl ?_
  obtain ⟨v1, hv1, hf⟩ := fbind hf
  refine V.callVn (pl := [0, 1, 2, 3, 4]) (σ' := [.inl (6, [.ref 1, .ref 2, .int M_savedMany, .ref 3, .int M_isTaken, .ref 4, .int M_length, .int M_thrown, .int M_spelt, .int M_speltMany, .int M_place, .int M_kind, .int M_one, .int M_two, .int M_three, .int M_begins, .int M_done, .int M_stopBy, .long M_hash]), .inr (406, .inl M_s), .inr (2436, .inl M_saved), .inr (406, .inl M_snapshot), .inr (60, .inl M_text)]) (st2 := [.int v1]) (cl2 := 0) (sl2 := 0) (ct_X11_isNext (a1 := a1) (a2 := a1) (M_savedMany := M_savedMany) (M_isTaken := M_isTaken) (M_length := M_length) (M_thrown := M_thrown) (M_spelt := M_spelt) (M_speltMany := M_speltMany) (M_place := M_place) (M_kind := M_kind) (M_one := M_one) (M_two := M_two) (M_three := M_three) (M_begins := M_begins) (M_done := M_done) (M_stopBy := M_stopBy) (M_hash := M_hash) (M_s := M_s) (M_saved := M_saved) (M_snapshot := M_snapshot) (M_text := M_text) hv1) dX11_takes_3 w1299 ⟨w1301, w39⟩ cal_X11_isNext rfl ⟨⟨Nat.le_of_ble_eq_true rfl, Nat.le_of_ble_eq_true rfl⟩, Nat.le_of_ble_eq_true rfl, Nat.le_of_ble_eq_true rfl⟩ (Nat.le_of_ble_eq_true rfl) (Or.inl ⟨_, _, _, _, rfl, rfl⟩) rfl ⟨rfl, ⟨by decide, by decide⟩, rfl, (fr_cons (Or.inl (Nat.le_of_ble_eq_true rfl)) (fr_cons (Or.inl (Nat.le_of_ble_eq_true rfl)) (fr_cons (Or.inl (Nat.le_of_ble_eq_true rfl)) (fr_cons (Or.inl (Nat.le_of_ble_eq_true rfl)) (fr_nil))))), rfl⟩ fr_i rfl rfl rfl rfl ?_
  refine V.istore_n (i := 2) (L' := [some (.ref 0), some (.int a1), some (.int v1)]) dX11_takes_6 rfl (Nat.le_of_ble_eq_true rfl) rfl rfl ?_
  refine V.aload_n (i := 0) dX11_takes_7 rfl rfl ?_
  refine V.dup dX11_takes_8 rfl ?_
  refine V.getfield (kf := 10) (v := .int M_place) fl_RX11 dX11_takes_9 w1053 (Nat.le_of_ble_eq_true rfl) rfl rfl ?_
  refine V.iload_n (i := 2) dX11_takes_12 rfl rfl ?_
  refine V.if_eq (tgt := 20) dX11_takes_13 (by decide) (fun h => ?_) (fun h => ?_)
  · have hf := fif_t h hf
    refine V.iconst (v := 0) dX11_takes_20 rfl ?_
    refine V.iadd dX11_takes_21 ?_
    refine V.putfield (ty := tyX11) (kf := 10) (σ' := [.inl (6, [.ref 1, .ref 2, .int M_savedMany, .ref 3, .int M_isTaken, .ref 4, .int M_length, .int M_thrown, .int M_spelt, .int M_speltMany, .int (M_place + 0), .int M_kind, .int M_one, .int M_two, .int M_three, .int M_begins, .int M_done, .int M_stopBy, .long M_hash]), .inr (406, .inl M_s), .inr (2436, .inl M_saved), .inr (406, .inl M_snapshot), .inr (60, .inl M_text)]) fl_RX11 dX11_takes_22 w1053 (Nat.le_of_ble_eq_true rfl) rfl (fun _ => ⟨rfl, rfl⟩) rfl (Nat.le_of_ble_eq_true rfl) rfl ?_
    refine V.iload_n (i := 2) dX11_takes_25 rfl rfl ?_
    obtain ⟨hz, hf⟩ := fz_e hf
    obtain rfl := Option.some.inj hf
    exact V.zret (v := v1) dX11_takes_26 rfl hz (Nat.le_of_ble_eq_true rfl) (Nat.le_of_ble_eq_true rfl) rfl
  · have hf := fif_f h hf
    refine V.iconst (v := 1) dX11_takes_16 rfl ?_
    refine V.goto (tgt := 21) dX11_takes_17 (by decide) ?_
    refine V.iadd dX11_takes_21 ?_
    refine V.putfield (ty := tyX11) (kf := 10) (σ' := [.inl (6, [.ref 1, .ref 2, .int M_savedMany, .ref 3, .int M_isTaken, .ref 4, .int M_length, .int M_thrown, .int M_spelt, .int M_speltMany, .int (M_place + 1), .int M_kind, .int M_one, .int M_two, .int M_three, .int M_begins, .int M_done, .int M_stopBy, .long M_hash]), .inr (406, .inl M_s), .inr (2436, .inl M_saved), .inr (406, .inl M_snapshot), .inr (60, .inl M_text)]) fl_RX11 dX11_takes_22 w1053 (Nat.le_of_ble_eq_true rfl) rfl (fun _ => ⟨rfl, rfl⟩) rfl (Nat.le_of_ble_eq_true rfl) rfl ?_
    refine V.iload_n (i := 2) dX11_takes_25 rfl rfl ?_
    obtain ⟨hz, hf⟩ := fz_e hf
    obtain rfl := Option.some.inj hf
    exact V.zret (v := v1) dX11_takes_26 rfl hz (Nat.le_of_ble_eq_true rfl) (Nat.le_of_ble_eq_true rfl) rfl
def k_X11_digit : fK := (yX11_digit, cX11_digit, 3, (some .int), [], (2, 44), (0, 0), (0, 0))
theorem cal_X11_digit : fCal k_X11_digit 1 := ⟨⟨wc1306, w73⟩, ⟨by decide +kernel, by decide +kernel⟩, by decide +kernel, by decide +kernel⟩
def s_X11_digit (a1 : Int32) (M_length : Int32) (M_place : Int32) (M_text : Nat → Int32) : Option (Int32 × (Int32)) := (s_X11_isNext 48 (48 + a1) M_length M_place M_text).bind fun v1 => if (v1 = 0 : Prop) then (some ((-1), (M_place + 0))) else (fld 60 M_text M_place fun v2 => if ((v2 - 48) = (-1) : Prop) then (some ((v2 - 48), (M_place + 0))) else (some ((v2 - 48), (M_place + 1))))
set_option maxHeartbeats 4000000 in
set_option maxRecDepth 100000 in
theorem ct_X11_digit {a1 : Int32} {M_savedMany : Int32} {M_isTaken : Int32} {M_length : Int32} {M_thrown : Int32} {M_spelt : Int32} {M_speltMany : Int32} {M_place : Int32} {M_kind : Int32} {M_one : Int32} {M_two : Int32} {M_three : Int32} {M_begins : Int32} {M_done : Int32} {M_stopBy : Int32} {M_hash : Int64} {M_s : Nat → Int32} {M_saved : Nat → Int32} {M_snapshot : Nat → Int32} {M_text : Nat → Int32} {res : Int32 × (Int32)} (hf : s_X11_digit a1 M_length M_place M_text = some res) : Ct k_X11_digit [.ref 0, .int a1] [.inl (6, [.ref 1, .ref 2, .int M_savedMany, .ref 3, .int M_isTaken, .ref 4, .int M_length, .int M_thrown, .int M_spelt, .int M_speltMany, .int M_place, .int M_kind, .int M_one, .int M_two, .int M_three, .int M_begins, .int M_done, .int M_stopBy, .long M_hash]), .inr (406, .inl M_s), .inr (2436, .inl M_saved), .inr (406, .inl M_snapshot), .inr (60, .inl M_text)] (.inl (some (.int res.1))) [.inl (6, [.ref 1, .ref 2, .int M_savedMany, .ref 3, .int M_isTaken, .ref 4, .int M_length, .int M_thrown, .int M_spelt, .int M_speltMany, .int res.2, .int M_kind, .int M_one, .int M_two, .int M_three, .int M_begins, .int M_done, .int M_stopBy, .long M_hash]), .inr (406, .inl M_s), .inr (2436, .inl M_saved), .inr (406, .inl M_snapshot), .inr (60, .inl M_text)] := by
  unfold s_X11_digit at hf
  refine Ct.of (L := [some (.ref 0), some (.int a1), none]) cal_X11_digit (fent_pad (j := 1) rfl) (Nat.le_of_ble_eq_true rfl) ?_
  refine V.aload_n (i := 0) dX11_digit_0 rfl rfl ?_
  refine V.bipush (v := 48) dX11_digit_1 rfl ?_
  refine V.bipush (v := 48) dX11_digit_3 rfl ?_
  refine V.iload_n (i := 1) dX11_digit_5 rfl rfl ?_
  refine V.iadd dX11_digit_6 ?_
  obtain ⟨v1, hv1, hf⟩ := fbind hf
  refine V.callVn (pl := [0, 1, 2, 3, 4]) (σ' := [.inl (6, [.ref 1, .ref 2, .int M_savedMany, .ref 3, .int M_isTaken, .ref 4, .int M_length, .int M_thrown, .int M_spelt, .int M_speltMany, .int M_place, .int M_kind, .int M_one, .int M_two, .int M_three, .int M_begins, .int M_done, .int M_stopBy, .long M_hash]), .inr (406, .inl M_s), .inr (2436, .inl M_saved), .inr (406, .inl M_snapshot), .inr (60, .inl M_text)]) (st2 := [.int v1]) (cl2 := 0) (sl2 := 0) (ct_X11_isNext (a1 := 48) (a2 := (48 + a1)) (M_savedMany := M_savedMany) (M_isTaken := M_isTaken) (M_length := M_length) (M_thrown := M_thrown) (M_spelt := M_spelt) (M_speltMany := M_speltMany) (M_place := M_place) (M_kind := M_kind) (M_one := M_one) (M_two := M_two) (M_three := M_three) (M_begins := M_begins) (M_done := M_done) (M_stopBy := M_stopBy) (M_hash := M_hash) (M_s := M_s) (M_saved := M_saved) (M_snapshot := M_snapshot) (M_text := M_text) hv1) dX11_digit_7 w1299 ⟨w1301, w39⟩ cal_X11_isNext rfl ⟨⟨Nat.le_of_ble_eq_true rfl, Nat.le_of_ble_eq_true rfl⟩, Nat.le_of_ble_eq_true rfl, Nat.le_of_ble_eq_true rfl⟩ (Nat.le_of_ble_eq_true rfl) (Or.inl ⟨_, _, _, _, rfl, rfl⟩) rfl ⟨rfl, ⟨by decide, by decide⟩, rfl, (fr_cons (Or.inl (Nat.le_of_ble_eq_true rfl)) (fr_cons (Or.inl (Nat.le_of_ble_eq_true rfl)) (fr_cons (Or.inl (Nat.le_of_ble_eq_true rfl)) (fr_cons (Or.inl (Nat.le_of_ble_eq_true rfl)) (fr_nil))))), rfl⟩ fr_i rfl rfl rfl rfl ?_
  refine V.if_eq (tgt := 28) dX11_digit_10 (by decide) (fun h => ?_) (fun h => ?_)
  · have hf := fif_t h hf
    refine V.iconst (v := (-1)) dX11_digit_28 rfl ?_
    refine V.istore_n (i := 2) (L' := [some (.ref 0), some (.int a1), some (.int (-1))]) dX11_digit_29 rfl (Nat.le_of_ble_eq_true rfl) rfl rfl ?_
    refine V.aload_n (i := 0) dX11_digit_30 rfl rfl ?_
    refine V.dup dX11_digit_31 rfl ?_
    refine V.getfield (kf := 10) (v := .int M_place) fl_RX11 dX11_digit_32 w1053 (Nat.le_of_ble_eq_true rfl) rfl rfl ?_
    refine V.iload_n (i := 2) dX11_digit_35 rfl rfl ?_
    refine V.iconst (v := (-1)) dX11_digit_36 rfl ?_
    refine V.icmp_ne (tgt := 44) dX11_digit_37 (by decide) (fun h => absurd h (by decide)) (fun _ => ?_)
    refine V.iconst (v := 0) dX11_digit_40 rfl ?_
    refine V.goto (tgt := 45) dX11_digit_41 (by decide) ?_
    refine V.iadd dX11_digit_45 ?_
    refine V.putfield (ty := tyX11) (kf := 10) (σ' := [.inl (6, [.ref 1, .ref 2, .int M_savedMany, .ref 3, .int M_isTaken, .ref 4, .int M_length, .int M_thrown, .int M_spelt, .int M_speltMany, .int (M_place + 0), .int M_kind, .int M_one, .int M_two, .int M_three, .int M_begins, .int M_done, .int M_stopBy, .long M_hash]), .inr (406, .inl M_s), .inr (2436, .inl M_saved), .inr (406, .inl M_snapshot), .inr (60, .inl M_text)]) fl_RX11 dX11_digit_46 w1053 (Nat.le_of_ble_eq_true rfl) rfl (fun _ => ⟨rfl, rfl⟩) rfl (Nat.le_of_ble_eq_true rfl) rfl ?_
    refine V.iload_n (i := 2) dX11_digit_49 rfl rfl ?_
    obtain rfl := Option.some.inj hf
    exact V.iret dX11_digit_50 rfl (Nat.le_of_ble_eq_true rfl) (Nat.le_of_ble_eq_true rfl) rfl
  · have hf := fif_f h hf
    refine V.aload_n (i := 0) dX11_digit_13 rfl rfl ?_
    refine V.getfield (kf := 5) (v := .ref 4) fl_RX11 dX11_digit_14 w1048 (Nat.le_of_ble_eq_true rfl) rfl rfl ?_
    refine V.aload_n (i := 0) dX11_digit_17 rfl rfl ?_
    refine V.getfield (kf := 10) (v := .int M_place) fl_RX11 dX11_digit_18 w1053 (Nat.le_of_ble_eq_true rfl) rfl rfl ?_
    obtain ⟨hi, v2, ev2, hf⟩ := fld_e hf
    refine V.fld dX11_digit_21 rfl hi ev2 ?_
    refine V.bipush (v := 48) dX11_digit_22 rfl ?_
    refine V.isub dX11_digit_24 ?_
    refine V.goto (tgt := 29) dX11_digit_25 (by decide) ?_
    refine V.istore_n (i := 2) (L' := [some (.ref 0), some (.int a1), some (.int (v2 - 48))]) dX11_digit_29 rfl (Nat.le_of_ble_eq_true rfl) rfl rfl ?_
    refine V.aload_n (i := 0) dX11_digit_30 rfl rfl ?_
    refine V.dup dX11_digit_31 rfl ?_
    refine V.getfield (kf := 10) (v := .int M_place) fl_RX11 dX11_digit_32 w1053 (Nat.le_of_ble_eq_true rfl) rfl rfl ?_
    refine V.iload_n (i := 2) dX11_digit_35 rfl rfl ?_
    refine V.iconst (v := (-1)) dX11_digit_36 rfl ?_
    refine V.icmp_ne (tgt := 44) dX11_digit_37 (by decide) (fun h => ?_) (fun h => ?_)
    · have hf := fif_f h hf
      refine V.iconst (v := 1) dX11_digit_44 rfl ?_
      refine V.iadd dX11_digit_45 ?_
      refine V.putfield (ty := tyX11) (kf := 10) (σ' := [.inl (6, [.ref 1, .ref 2, .int M_savedMany, .ref 3, .int M_isTaken, .ref 4, .int M_length, .int M_thrown, .int M_spelt, .int M_speltMany, .int (M_place + 1), .int M_kind, .int M_one, .int M_two, .int M_three, .int M_begins, .int M_done, .int M_stopBy, .long M_hash]), .inr (406, .inl M_s), .inr (2436, .inl M_saved), .inr (406, .inl M_snapshot), .inr (60, .inl M_text)]) fl_RX11 dX11_digit_46 w1053 (Nat.le_of_ble_eq_true rfl) rfl (fun _ => ⟨rfl, rfl⟩) rfl (Nat.le_of_ble_eq_true rfl) rfl ?_
      refine V.iload_n (i := 2) dX11_digit_49 rfl rfl ?_
      obtain rfl := Option.some.inj hf
      exact V.iret dX11_digit_50 rfl (Nat.le_of_ble_eq_true rfl) (Nat.le_of_ble_eq_true rfl) rfl
    · have hf := fif_t h hf
      refine V.iconst (v := 0) dX11_digit_40 rfl ?_
      refine V.goto (tgt := 45) dX11_digit_41 (by decide) ?_
      refine V.iadd dX11_digit_45 ?_
      refine V.putfield (ty := tyX11) (kf := 10) (σ' := [.inl (6, [.ref 1, .ref 2, .int M_savedMany, .ref 3, .int M_isTaken, .ref 4, .int M_length, .int M_thrown, .int M_spelt, .int M_speltMany, .int (M_place + 0), .int M_kind, .int M_one, .int M_two, .int M_three, .int M_begins, .int M_done, .int M_stopBy, .long M_hash]), .inr (406, .inl M_s), .inr (2436, .inl M_saved), .inr (406, .inl M_snapshot), .inr (60, .inl M_text)]) fl_RX11 dX11_digit_46 w1053 (Nat.le_of_ble_eq_true rfl) rfl (fun _ => ⟨rfl, rfl⟩) rfl (Nat.le_of_ble_eq_true rfl) rfl ?_
      refine V.iload_n (i := 2) dX11_digit_49 rfl rfl ?_
      obtain rfl := Option.some.inj hf
      exact V.iret dX11_digit_50 rfl (Nat.le_of_ble_eq_true rfl) (Nat.le_of_ble_eq_true rfl) rfl
def k_X11_takesWord : fK := (yX11_takesWord, cX11_takesWord, 1, (some .boolean), [], (3, 66), (0, 0), (0, 0))
theorem cal_X11_takesWord : fCal k_X11_takesWord 0 := ⟨⟨wc1294, w73⟩, ⟨by decide +kernel, by decide +kernel⟩, by decide +kernel, by decide +kernel⟩
def s_X11_takesWord (M_length : Int32) (M_place : Int32) (M_kind : Int32) (M_text : Nat → Int32) : Option (Int32 × (Int32) × (Int32)) := if (M_length ≤ M_place : Prop) then (some (0, M_place, 0)) else (fld 60 M_text M_place fun v1 => if (v1 = 99 : Prop) then ((s_X11_takes 99 M_length M_place M_text).bind fun v2 => if (v2.1 = 0 : Prop) then (some (0, v2.2, v1)) else ((s_X11_takes 117 M_length v2.2 M_text).bind fun v3 => if (v3.1 = 0 : Prop) then (some (0, v3.2, v1)) else ((s_X11_takes 116 M_length v3.2 M_text).bind fun v4 => if (v4.1 = 0 : Prop) then (some (0, v4.2, v1)) else (some (1, v4.2, v1))))) else (if (v1 = 102 : Prop) then ((s_X11_takes 102 M_length M_place M_text).bind fun v5 => if (v5.1 = 0 : Prop) then (some (0, v5.2, v1)) else ((s_X11_takes 97 M_length v5.2 M_text).bind fun v6 => if (v6.1 = 0 : Prop) then (some (0, v6.2, v1)) else ((s_X11_takes 115 M_length v6.2 M_text).bind fun v7 => if (v7.1 = 0 : Prop) then (some (0, v7.2, v1)) else ((s_X11_takes 116 M_length v7.2 M_text).bind fun v8 => if (v8.1 = 0 : Prop) then (some (0, v8.2, v1)) else (some (1, v8.2, v1)))))) else (if (v1 = 103 : Prop) then ((s_X11_takes 103 M_length M_place M_text).bind fun v9 => if (v9.1 = 0 : Prop) then (some (0, v9.2, v1)) else ((s_X11_takes 105 M_length v9.2 M_text).bind fun v10 => if (v10.1 = 0 : Prop) then (some (0, v10.2, v1)) else ((s_X11_takes 118 M_length v10.2 M_text).bind fun v11 => if (v11.1 = 0 : Prop) then (some (0, v11.2, v1)) else ((s_X11_takes 101 M_length v11.2 M_text).bind fun v12 => if (v12.1 = 0 : Prop) then (some (0, v12.2, v1)) else (some (1, v12.2, v1)))))) else (if (v1 = 115 : Prop) then ((s_X11_takes 115 M_length M_place M_text).bind fun v13 => if (v13.1 = 0 : Prop) then (some (0, v13.2, v1)) else ((s_X11_takes 116 M_length v13.2 M_text).bind fun v14 => if (v14.1 = 0 : Prop) then (some (0, v14.2, v1)) else ((s_X11_takes 111 M_length v14.2 M_text).bind fun v15 => if (v15.1 = 0 : Prop) then (some (0, v15.2, v1)) else ((s_X11_takes 114 M_length v15.2 M_text).bind fun v16 => if (v16.1 = 0 : Prop) then (some (0, v16.2, v1)) else ((s_X11_takes 109 M_length v16.2 M_text).bind fun v17 => if (v17.1 = 0 : Prop) then (some (0, v17.2, v1)) else (some (1, v17.2, v1))))))) else (if (v1 = 116 : Prop) then ((s_X11_takes 116 M_length M_place M_text).bind fun v18 => if (v18.1 = 0 : Prop) then (some (0, v18.2, v1)) else ((s_X11_takes 105 M_length v18.2 M_text).bind fun v19 => if (v19.1 = 0 : Prop) then (some (0, v19.2, v1)) else ((s_X11_takes 101 M_length v19.2 M_text).bind fun v20 => if (v20.1 = 0 : Prop) then (some (0, v20.2, v1)) else (some (1, v20.2, v1))))) else (some (0, M_place, v1)))))))
set_option maxHeartbeats 4000000 in
set_option maxRecDepth 100000 in
theorem ct_X11_takesWord {M_savedMany : Int32} {M_isTaken : Int32} {M_length : Int32} {M_thrown : Int32} {M_spelt : Int32} {M_speltMany : Int32} {M_place : Int32} {M_kind : Int32} {M_one : Int32} {M_two : Int32} {M_three : Int32} {M_begins : Int32} {M_done : Int32} {M_stopBy : Int32} {M_hash : Int64} {M_s : Nat → Int32} {M_saved : Nat → Int32} {M_snapshot : Nat → Int32} {M_text : Nat → Int32} {res : Int32 × (Int32) × (Int32)} (hf : s_X11_takesWord M_length M_place M_kind M_text = some res) : Ct k_X11_takesWord [.ref 0] [.inl (6, [.ref 1, .ref 2, .int M_savedMany, .ref 3, .int M_isTaken, .ref 4, .int M_length, .int M_thrown, .int M_spelt, .int M_speltMany, .int M_place, .int M_kind, .int M_one, .int M_two, .int M_three, .int M_begins, .int M_done, .int M_stopBy, .long M_hash]), .inr (406, .inl M_s), .inr (2436, .inl M_saved), .inr (406, .inl M_snapshot), .inr (60, .inl M_text)] (.inl (some (.int res.1))) [.inl (6, [.ref 1, .ref 2, .int M_savedMany, .ref 3, .int M_isTaken, .ref 4, .int M_length, .int M_thrown, .int M_spelt, .int M_speltMany, .int res.2.1, .int res.2.2, .int M_one, .int M_two, .int M_three, .int M_begins, .int M_done, .int M_stopBy, .long M_hash]), .inr (406, .inl M_s), .inr (2436, .inl M_saved), .inr (406, .inl M_snapshot), .inr (60, .inl M_text)] := by
  unfold s_X11_takesWord at hf
  refine Ct.of (L := [some (.ref 0)]) cal_X11_takesWord (fent_pad (j := 0) rfl) (Nat.le_of_ble_eq_true rfl) ?_
  refine V.aload_n (i := 0) dX11_takesWord_0 rfl rfl ?_
  refine V.aload_n (i := 0) dX11_takesWord_1 rfl rfl ?_
  refine V.getfield (kf := 10) (v := .int M_place) fl_RX11 dX11_takesWord_2 w1053 (Nat.le_of_ble_eq_true rfl) rfl rfl ?_
  refine V.aload_n (i := 0) dX11_takesWord_5 rfl rfl ?_
  refine V.getfield (kf := 6) (v := .int M_length) fl_RX11 dX11_takesWord_6 w1049 (Nat.le_of_ble_eq_true rfl) rfl rfl ?_
  refine V.icmp_ge (tgt := 24) dX11_takesWord_9 (by decide) (fun h => ?_) (fun h => ?_)
  · have hf := fif_t h hf
    refine V.iconst (v := 0) dX11_takesWord_24 rfl ?_
    refine V.putfield (ty := tyX11) (kf := 11) (σ' := [.inl (6, [.ref 1, .ref 2, .int M_savedMany, .ref 3, .int M_isTaken, .ref 4, .int M_length, .int M_thrown, .int M_spelt, .int M_speltMany, .int M_place, .int 0, .int M_one, .int M_two, .int M_three, .int M_begins, .int M_done, .int M_stopBy, .long M_hash]), .inr (406, .inl M_s), .inr (2436, .inl M_saved), .inr (406, .inl M_snapshot), .inr (60, .inl M_text)]) fl_RX11 dX11_takesWord_25 w1054 (Nat.le_of_ble_eq_true rfl) rfl (fun _ => ⟨rfl, rfl⟩) rfl (Nat.le_of_ble_eq_true rfl) rfl ?_
    refine V.aload_n (i := 0) dX11_takesWord_28 rfl rfl ?_
    refine V.getfield (kf := 11) (v := .int 0) fl_RX11 dX11_takesWord_29 w1054 (Nat.le_of_ble_eq_true rfl) rfl rfl ?_
    refine V.lookup (off := 253) (tgt := 285) dX11_takesWord_32 rfl rfl (by decide) ?_
    refine V.iconst (v := 0) dX11_takesWord_285 rfl ?_
    obtain rfl := Option.some.inj hf
    exact V.zret (v := 0) dX11_takesWord_286 rfl (by decide +kernel) (Nat.le_of_ble_eq_true rfl) (Nat.le_of_ble_eq_true rfl) rfl
  · have hf := fif_f h hf
    refine V.aload_n (i := 0) dX11_takesWord_12 rfl rfl ?_
    refine V.getfield (kf := 5) (v := .ref 4) fl_RX11 dX11_takesWord_13 w1048 (Nat.le_of_ble_eq_true rfl) rfl rfl ?_
    refine V.aload_n (i := 0) dX11_takesWord_16 rfl rfl ?_
    refine V.getfield (kf := 10) (v := .int M_place) fl_RX11 dX11_takesWord_17 w1053 (Nat.le_of_ble_eq_true rfl) rfl rfl ?_
    obtain ⟨hi, v1, ev1, hf⟩ := fld_e hf
    refine V.fld dX11_takesWord_20 rfl hi ev1 ?_
    refine V.goto (tgt := 25) dX11_takesWord_21 (by decide) ?_
    refine V.putfield (ty := tyX11) (kf := 11) (σ' := [.inl (6, [.ref 1, .ref 2, .int M_savedMany, .ref 3, .int M_isTaken, .ref 4, .int M_length, .int M_thrown, .int M_spelt, .int M_speltMany, .int M_place, .int v1, .int M_one, .int M_two, .int M_three, .int M_begins, .int M_done, .int M_stopBy, .long M_hash]), .inr (406, .inl M_s), .inr (2436, .inl M_saved), .inr (406, .inl M_snapshot), .inr (60, .inl M_text)]) fl_RX11 dX11_takesWord_25 w1054 (Nat.le_of_ble_eq_true rfl) rfl (fun _ => ⟨rfl, rfl⟩) rfl (Nat.le_of_ble_eq_true rfl) rfl ?_
    refine V.aload_n (i := 0) dX11_takesWord_28 rfl rfl ?_
    refine V.getfield (kf := 11) (v := .int v1) fl_RX11 dX11_takesWord_29 w1054 (Nat.le_of_ble_eq_true rfl) rfl rfl ?_
    by_cases h99 : v1 = 99
    · have hf := fif_t h99 hf
      refine V.cgi h99 (V.lookup (off := 220) (tgt := 252) dX11_takesWord_32 rfl rfl (by decide) ?_)
      refine V.aload_n (i := 0) dX11_takesWord_252 rfl rfl ?_
      refine V.bipush (v := 99) dX11_takesWord_253 rfl ?_
      obtain ⟨v2, hv2, hf⟩ := fbind hf
      refine V.callVn (pl := [0, 1, 2, 3, 4]) (σ' := [.inl (6, [.ref 1, .ref 2, .int M_savedMany, .ref 3, .int M_isTaken, .ref 4, .int M_length, .int M_thrown, .int M_spelt, .int M_speltMany, .int v2.2, .int v1, .int M_one, .int M_two, .int M_three, .int M_begins, .int M_done, .int M_stopBy, .long M_hash]), .inr (406, .inl M_s), .inr (2436, .inl M_saved), .inr (406, .inl M_snapshot), .inr (60, .inl M_text)]) (st2 := [.int v2.1]) (cl2 := 0) (sl2 := 0) (ct_X11_takes (a1 := 99) (M_savedMany := M_savedMany) (M_isTaken := M_isTaken) (M_length := M_length) (M_thrown := M_thrown) (M_spelt := M_spelt) (M_speltMany := M_speltMany) (M_place := M_place) (M_kind := v1) (M_one := M_one) (M_two := M_two) (M_three := M_three) (M_begins := M_begins) (M_done := M_done) (M_stopBy := M_stopBy) (M_hash := M_hash) (M_s := M_s) (M_saved := M_saved) (M_snapshot := M_snapshot) (M_text := M_text) hv2) dX11_takesWord_255 w1295 ⟨w1297, w38⟩ cal_X11_takes rfl ⟨⟨Nat.le_of_ble_eq_true rfl, Nat.le_of_ble_eq_true rfl⟩, Nat.le_of_ble_eq_true rfl, Nat.le_of_ble_eq_true rfl⟩ (Nat.le_of_ble_eq_true rfl) (Or.inl ⟨_, _, _, _, rfl, rfl⟩) rfl ⟨rfl, ⟨by decide, by decide⟩, rfl, (fr_cons (Or.inl (Nat.le_of_ble_eq_true rfl)) (fr_cons (Or.inl (Nat.le_of_ble_eq_true rfl)) (fr_cons (Or.inl (Nat.le_of_ble_eq_true rfl)) (fr_cons (Or.inl (Nat.le_of_ble_eq_true rfl)) (fr_nil))))), rfl⟩ fr_i rfl rfl rfl rfl ?_
      refine V.if_eq (tgt := 283) dX11_takesWord_258 (by decide) (fun h => ?_) (fun h => ?_)
      · have hf := fif_t h hf
        refine V.iconst (v := 0) dX11_takesWord_283 rfl ?_
        obtain rfl := Option.some.inj hf
        exact V.zret (v := 0) dX11_takesWord_284 rfl (by decide +kernel) (Nat.le_of_ble_eq_true rfl) (Nat.le_of_ble_eq_true rfl) rfl
      · have hf := fif_f h hf
        refine V.aload_n (i := 0) dX11_takesWord_261 rfl rfl ?_
        refine V.bipush (v := 117) dX11_takesWord_262 rfl ?_
        obtain ⟨v3, hv3, hf⟩ := fbind hf
        refine V.callVn (pl := [0, 1, 2, 3, 4]) (σ' := [.inl (6, [.ref 1, .ref 2, .int M_savedMany, .ref 3, .int M_isTaken, .ref 4, .int M_length, .int M_thrown, .int M_spelt, .int M_speltMany, .int v3.2, .int v1, .int M_one, .int M_two, .int M_three, .int M_begins, .int M_done, .int M_stopBy, .long M_hash]), .inr (406, .inl M_s), .inr (2436, .inl M_saved), .inr (406, .inl M_snapshot), .inr (60, .inl M_text)]) (st2 := [.int v3.1]) (cl2 := 0) (sl2 := 0) (ct_X11_takes (a1 := 117) (M_savedMany := M_savedMany) (M_isTaken := M_isTaken) (M_length := M_length) (M_thrown := M_thrown) (M_spelt := M_spelt) (M_speltMany := M_speltMany) (M_place := v2.2) (M_kind := v1) (M_one := M_one) (M_two := M_two) (M_three := M_three) (M_begins := M_begins) (M_done := M_done) (M_stopBy := M_stopBy) (M_hash := M_hash) (M_s := M_s) (M_saved := M_saved) (M_snapshot := M_snapshot) (M_text := M_text) hv3) dX11_takesWord_264 w1295 ⟨w1297, w38⟩ cal_X11_takes rfl ⟨⟨Nat.le_of_ble_eq_true rfl, Nat.le_of_ble_eq_true rfl⟩, Nat.le_of_ble_eq_true rfl, Nat.le_of_ble_eq_true rfl⟩ (Nat.le_of_ble_eq_true rfl) (Or.inl ⟨_, _, _, _, rfl, rfl⟩) rfl ⟨rfl, ⟨by decide, by decide⟩, rfl, (fr_cons (Or.inl (Nat.le_of_ble_eq_true rfl)) (fr_cons (Or.inl (Nat.le_of_ble_eq_true rfl)) (fr_cons (Or.inl (Nat.le_of_ble_eq_true rfl)) (fr_cons (Or.inl (Nat.le_of_ble_eq_true rfl)) (fr_nil))))), rfl⟩ fr_i rfl rfl rfl rfl ?_
        refine V.if_eq (tgt := 283) dX11_takesWord_267 (by decide) (fun h => ?_) (fun h => ?_)
        · have hf := fif_t h hf
          refine V.iconst (v := 0) dX11_takesWord_283 rfl ?_
          obtain rfl := Option.some.inj hf
          exact V.zret (v := 0) dX11_takesWord_284 rfl (by decide +kernel) (Nat.le_of_ble_eq_true rfl) (Nat.le_of_ble_eq_true rfl) rfl
        · have hf := fif_f h hf
          refine V.aload_n (i := 0) dX11_takesWord_270 rfl rfl ?_
          refine V.bipush (v := 116) dX11_takesWord_271 rfl ?_
          obtain ⟨v4, hv4, hf⟩ := fbind hf
          refine V.callVn (pl := [0, 1, 2, 3, 4]) (σ' := [.inl (6, [.ref 1, .ref 2, .int M_savedMany, .ref 3, .int M_isTaken, .ref 4, .int M_length, .int M_thrown, .int M_spelt, .int M_speltMany, .int v4.2, .int v1, .int M_one, .int M_two, .int M_three, .int M_begins, .int M_done, .int M_stopBy, .long M_hash]), .inr (406, .inl M_s), .inr (2436, .inl M_saved), .inr (406, .inl M_snapshot), .inr (60, .inl M_text)]) (st2 := [.int v4.1]) (cl2 := 0) (sl2 := 0) (ct_X11_takes (a1 := 116) (M_savedMany := M_savedMany) (M_isTaken := M_isTaken) (M_length := M_length) (M_thrown := M_thrown) (M_spelt := M_spelt) (M_speltMany := M_speltMany) (M_place := v3.2) (M_kind := v1) (M_one := M_one) (M_two := M_two) (M_three := M_three) (M_begins := M_begins) (M_done := M_done) (M_stopBy := M_stopBy) (M_hash := M_hash) (M_s := M_s) (M_saved := M_saved) (M_snapshot := M_snapshot) (M_text := M_text) hv4) dX11_takesWord_273 w1295 ⟨w1297, w38⟩ cal_X11_takes rfl ⟨⟨Nat.le_of_ble_eq_true rfl, Nat.le_of_ble_eq_true rfl⟩, Nat.le_of_ble_eq_true rfl, Nat.le_of_ble_eq_true rfl⟩ (Nat.le_of_ble_eq_true rfl) (Or.inl ⟨_, _, _, _, rfl, rfl⟩) rfl ⟨rfl, ⟨by decide, by decide⟩, rfl, (fr_cons (Or.inl (Nat.le_of_ble_eq_true rfl)) (fr_cons (Or.inl (Nat.le_of_ble_eq_true rfl)) (fr_cons (Or.inl (Nat.le_of_ble_eq_true rfl)) (fr_cons (Or.inl (Nat.le_of_ble_eq_true rfl)) (fr_nil))))), rfl⟩ fr_i rfl rfl rfl rfl ?_
          refine V.if_eq (tgt := 283) dX11_takesWord_276 (by decide) (fun h => ?_) (fun h => ?_)
          · have hf := fif_t h hf
            refine V.iconst (v := 0) dX11_takesWord_283 rfl ?_
            obtain rfl := Option.some.inj hf
            exact V.zret (v := 0) dX11_takesWord_284 rfl (by decide +kernel) (Nat.le_of_ble_eq_true rfl) (Nat.le_of_ble_eq_true rfl) rfl
          · have hf := fif_f h hf
            refine V.iconst (v := 1) dX11_takesWord_279 rfl ?_
            refine V.goto (tgt := 284) dX11_takesWord_280 (by decide) ?_
            obtain rfl := Option.some.inj hf
            exact V.zret (v := 1) dX11_takesWord_284 rfl (by decide +kernel) (Nat.le_of_ble_eq_true rfl) (Nat.le_of_ble_eq_true rfl) rfl
    · have hf := fif_f h99 hf
      by_cases h102 : v1 = 102
      · have hf := fif_t h102 hf
        refine V.cgi h102 (V.lookup (off := 178) (tgt := 210) dX11_takesWord_32 rfl rfl (by decide) ?_)
        refine V.aload_n (i := 0) dX11_takesWord_210 rfl rfl ?_
        refine V.bipush (v := 102) dX11_takesWord_211 rfl ?_
        obtain ⟨v5, hv5, hf⟩ := fbind hf
        refine V.callVn (pl := [0, 1, 2, 3, 4]) (σ' := [.inl (6, [.ref 1, .ref 2, .int M_savedMany, .ref 3, .int M_isTaken, .ref 4, .int M_length, .int M_thrown, .int M_spelt, .int M_speltMany, .int v5.2, .int v1, .int M_one, .int M_two, .int M_three, .int M_begins, .int M_done, .int M_stopBy, .long M_hash]), .inr (406, .inl M_s), .inr (2436, .inl M_saved), .inr (406, .inl M_snapshot), .inr (60, .inl M_text)]) (st2 := [.int v5.1]) (cl2 := 0) (sl2 := 0) (ct_X11_takes (a1 := 102) (M_savedMany := M_savedMany) (M_isTaken := M_isTaken) (M_length := M_length) (M_thrown := M_thrown) (M_spelt := M_spelt) (M_speltMany := M_speltMany) (M_place := M_place) (M_kind := v1) (M_one := M_one) (M_two := M_two) (M_three := M_three) (M_begins := M_begins) (M_done := M_done) (M_stopBy := M_stopBy) (M_hash := M_hash) (M_s := M_s) (M_saved := M_saved) (M_snapshot := M_snapshot) (M_text := M_text) hv5) dX11_takesWord_213 w1295 ⟨w1297, w38⟩ cal_X11_takes rfl ⟨⟨Nat.le_of_ble_eq_true rfl, Nat.le_of_ble_eq_true rfl⟩, Nat.le_of_ble_eq_true rfl, Nat.le_of_ble_eq_true rfl⟩ (Nat.le_of_ble_eq_true rfl) (Or.inl ⟨_, _, _, _, rfl, rfl⟩) rfl ⟨rfl, ⟨by decide, by decide⟩, rfl, (fr_cons (Or.inl (Nat.le_of_ble_eq_true rfl)) (fr_cons (Or.inl (Nat.le_of_ble_eq_true rfl)) (fr_cons (Or.inl (Nat.le_of_ble_eq_true rfl)) (fr_cons (Or.inl (Nat.le_of_ble_eq_true rfl)) (fr_nil))))), rfl⟩ fr_i rfl rfl rfl rfl ?_
        refine V.if_eq (tgt := 250) dX11_takesWord_216 (by decide) (fun h => ?_) (fun h => ?_)
        · have hf := fif_t h hf
          refine V.iconst (v := 0) dX11_takesWord_250 rfl ?_
          obtain rfl := Option.some.inj hf
          exact V.zret (v := 0) dX11_takesWord_251 rfl (by decide +kernel) (Nat.le_of_ble_eq_true rfl) (Nat.le_of_ble_eq_true rfl) rfl
        · have hf := fif_f h hf
          refine V.aload_n (i := 0) dX11_takesWord_219 rfl rfl ?_
          refine V.bipush (v := 97) dX11_takesWord_220 rfl ?_
          obtain ⟨v6, hv6, hf⟩ := fbind hf
          refine V.callVn (pl := [0, 1, 2, 3, 4]) (σ' := [.inl (6, [.ref 1, .ref 2, .int M_savedMany, .ref 3, .int M_isTaken, .ref 4, .int M_length, .int M_thrown, .int M_spelt, .int M_speltMany, .int v6.2, .int v1, .int M_one, .int M_two, .int M_three, .int M_begins, .int M_done, .int M_stopBy, .long M_hash]), .inr (406, .inl M_s), .inr (2436, .inl M_saved), .inr (406, .inl M_snapshot), .inr (60, .inl M_text)]) (st2 := [.int v6.1]) (cl2 := 0) (sl2 := 0) (ct_X11_takes (a1 := 97) (M_savedMany := M_savedMany) (M_isTaken := M_isTaken) (M_length := M_length) (M_thrown := M_thrown) (M_spelt := M_spelt) (M_speltMany := M_speltMany) (M_place := v5.2) (M_kind := v1) (M_one := M_one) (M_two := M_two) (M_three := M_three) (M_begins := M_begins) (M_done := M_done) (M_stopBy := M_stopBy) (M_hash := M_hash) (M_s := M_s) (M_saved := M_saved) (M_snapshot := M_snapshot) (M_text := M_text) hv6) dX11_takesWord_222 w1295 ⟨w1297, w38⟩ cal_X11_takes rfl ⟨⟨Nat.le_of_ble_eq_true rfl, Nat.le_of_ble_eq_true rfl⟩, Nat.le_of_ble_eq_true rfl, Nat.le_of_ble_eq_true rfl⟩ (Nat.le_of_ble_eq_true rfl) (Or.inl ⟨_, _, _, _, rfl, rfl⟩) rfl ⟨rfl, ⟨by decide, by decide⟩, rfl, (fr_cons (Or.inl (Nat.le_of_ble_eq_true rfl)) (fr_cons (Or.inl (Nat.le_of_ble_eq_true rfl)) (fr_cons (Or.inl (Nat.le_of_ble_eq_true rfl)) (fr_cons (Or.inl (Nat.le_of_ble_eq_true rfl)) (fr_nil))))), rfl⟩ fr_i rfl rfl rfl rfl ?_
          refine V.if_eq (tgt := 250) dX11_takesWord_225 (by decide) (fun h => ?_) (fun h => ?_)
          · have hf := fif_t h hf
            refine V.iconst (v := 0) dX11_takesWord_250 rfl ?_
            obtain rfl := Option.some.inj hf
            exact V.zret (v := 0) dX11_takesWord_251 rfl (by decide +kernel) (Nat.le_of_ble_eq_true rfl) (Nat.le_of_ble_eq_true rfl) rfl
          · have hf := fif_f h hf
            refine V.aload_n (i := 0) dX11_takesWord_228 rfl rfl ?_
            refine V.bipush (v := 115) dX11_takesWord_229 rfl ?_
            obtain ⟨v7, hv7, hf⟩ := fbind hf
            refine V.callVn (pl := [0, 1, 2, 3, 4]) (σ' := [.inl (6, [.ref 1, .ref 2, .int M_savedMany, .ref 3, .int M_isTaken, .ref 4, .int M_length, .int M_thrown, .int M_spelt, .int M_speltMany, .int v7.2, .int v1, .int M_one, .int M_two, .int M_three, .int M_begins, .int M_done, .int M_stopBy, .long M_hash]), .inr (406, .inl M_s), .inr (2436, .inl M_saved), .inr (406, .inl M_snapshot), .inr (60, .inl M_text)]) (st2 := [.int v7.1]) (cl2 := 0) (sl2 := 0) (ct_X11_takes (a1 := 115) (M_savedMany := M_savedMany) (M_isTaken := M_isTaken) (M_length := M_length) (M_thrown := M_thrown) (M_spelt := M_spelt) (M_speltMany := M_speltMany) (M_place := v6.2) (M_kind := v1) (M_one := M_one) (M_two := M_two) (M_three := M_three) (M_begins := M_begins) (M_done := M_done) (M_stopBy := M_stopBy) (M_hash := M_hash) (M_s := M_s) (M_saved := M_saved) (M_snapshot := M_snapshot) (M_text := M_text) hv7) dX11_takesWord_231 w1295 ⟨w1297, w38⟩ cal_X11_takes rfl ⟨⟨Nat.le_of_ble_eq_true rfl, Nat.le_of_ble_eq_true rfl⟩, Nat.le_of_ble_eq_true rfl, Nat.le_of_ble_eq_true rfl⟩ (Nat.le_of_ble_eq_true rfl) (Or.inl ⟨_, _, _, _, rfl, rfl⟩) rfl ⟨rfl, ⟨by decide, by decide⟩, rfl, (fr_cons (Or.inl (Nat.le_of_ble_eq_true rfl)) (fr_cons (Or.inl (Nat.le_of_ble_eq_true rfl)) (fr_cons (Or.inl (Nat.le_of_ble_eq_true rfl)) (fr_cons (Or.inl (Nat.le_of_ble_eq_true rfl)) (fr_nil))))), rfl⟩ fr_i rfl rfl rfl rfl ?_
            refine V.if_eq (tgt := 250) dX11_takesWord_234 (by decide) (fun h => ?_) (fun h => ?_)
            · have hf := fif_t h hf
              refine V.iconst (v := 0) dX11_takesWord_250 rfl ?_
              obtain rfl := Option.some.inj hf
              exact V.zret (v := 0) dX11_takesWord_251 rfl (by decide +kernel) (Nat.le_of_ble_eq_true rfl) (Nat.le_of_ble_eq_true rfl) rfl
            · have hf := fif_f h hf
              refine V.aload_n (i := 0) dX11_takesWord_237 rfl rfl ?_
              refine V.bipush (v := 116) dX11_takesWord_238 rfl ?_
              obtain ⟨v8, hv8, hf⟩ := fbind hf
              refine V.callVn (pl := [0, 1, 2, 3, 4]) (σ' := [.inl (6, [.ref 1, .ref 2, .int M_savedMany, .ref 3, .int M_isTaken, .ref 4, .int M_length, .int M_thrown, .int M_spelt, .int M_speltMany, .int v8.2, .int v1, .int M_one, .int M_two, .int M_three, .int M_begins, .int M_done, .int M_stopBy, .long M_hash]), .inr (406, .inl M_s), .inr (2436, .inl M_saved), .inr (406, .inl M_snapshot), .inr (60, .inl M_text)]) (st2 := [.int v8.1]) (cl2 := 0) (sl2 := 0) (ct_X11_takes (a1 := 116) (M_savedMany := M_savedMany) (M_isTaken := M_isTaken) (M_length := M_length) (M_thrown := M_thrown) (M_spelt := M_spelt) (M_speltMany := M_speltMany) (M_place := v7.2) (M_kind := v1) (M_one := M_one) (M_two := M_two) (M_three := M_three) (M_begins := M_begins) (M_done := M_done) (M_stopBy := M_stopBy) (M_hash := M_hash) (M_s := M_s) (M_saved := M_saved) (M_snapshot := M_snapshot) (M_text := M_text) hv8) dX11_takesWord_240 w1295 ⟨w1297, w38⟩ cal_X11_takes rfl ⟨⟨Nat.le_of_ble_eq_true rfl, Nat.le_of_ble_eq_true rfl⟩, Nat.le_of_ble_eq_true rfl, Nat.le_of_ble_eq_true rfl⟩ (Nat.le_of_ble_eq_true rfl) (Or.inl ⟨_, _, _, _, rfl, rfl⟩) rfl ⟨rfl, ⟨by decide, by decide⟩, rfl, (fr_cons (Or.inl (Nat.le_of_ble_eq_true rfl)) (fr_cons (Or.inl (Nat.le_of_ble_eq_true rfl)) (fr_cons (Or.inl (Nat.le_of_ble_eq_true rfl)) (fr_cons (Or.inl (Nat.le_of_ble_eq_true rfl)) (fr_nil))))), rfl⟩ fr_i rfl rfl rfl rfl ?_
              refine V.if_eq (tgt := 250) dX11_takesWord_243 (by decide) (fun h => ?_) (fun h => ?_)
              · have hf := fif_t h hf
                refine V.iconst (v := 0) dX11_takesWord_250 rfl ?_
                obtain rfl := Option.some.inj hf
                exact V.zret (v := 0) dX11_takesWord_251 rfl (by decide +kernel) (Nat.le_of_ble_eq_true rfl) (Nat.le_of_ble_eq_true rfl) rfl
              · have hf := fif_f h hf
                refine V.iconst (v := 1) dX11_takesWord_246 rfl ?_
                refine V.goto (tgt := 251) dX11_takesWord_247 (by decide) ?_
                obtain rfl := Option.some.inj hf
                exact V.zret (v := 1) dX11_takesWord_251 rfl (by decide +kernel) (Nat.le_of_ble_eq_true rfl) (Nat.le_of_ble_eq_true rfl) rfl
      · have hf := fif_f h102 hf
        by_cases h103 : v1 = 103
        · have hf := fif_t h103 hf
          refine V.cgi h103 (V.lookup (off := 136) (tgt := 168) dX11_takesWord_32 rfl rfl (by decide) ?_)
          refine V.aload_n (i := 0) dX11_takesWord_168 rfl rfl ?_
          refine V.bipush (v := 103) dX11_takesWord_169 rfl ?_
          obtain ⟨v9, hv9, hf⟩ := fbind hf
          refine V.callVn (pl := [0, 1, 2, 3, 4]) (σ' := [.inl (6, [.ref 1, .ref 2, .int M_savedMany, .ref 3, .int M_isTaken, .ref 4, .int M_length, .int M_thrown, .int M_spelt, .int M_speltMany, .int v9.2, .int v1, .int M_one, .int M_two, .int M_three, .int M_begins, .int M_done, .int M_stopBy, .long M_hash]), .inr (406, .inl M_s), .inr (2436, .inl M_saved), .inr (406, .inl M_snapshot), .inr (60, .inl M_text)]) (st2 := [.int v9.1]) (cl2 := 0) (sl2 := 0) (ct_X11_takes (a1 := 103) (M_savedMany := M_savedMany) (M_isTaken := M_isTaken) (M_length := M_length) (M_thrown := M_thrown) (M_spelt := M_spelt) (M_speltMany := M_speltMany) (M_place := M_place) (M_kind := v1) (M_one := M_one) (M_two := M_two) (M_three := M_three) (M_begins := M_begins) (M_done := M_done) (M_stopBy := M_stopBy) (M_hash := M_hash) (M_s := M_s) (M_saved := M_saved) (M_snapshot := M_snapshot) (M_text := M_text) hv9) dX11_takesWord_171 w1295 ⟨w1297, w38⟩ cal_X11_takes rfl ⟨⟨Nat.le_of_ble_eq_true rfl, Nat.le_of_ble_eq_true rfl⟩, Nat.le_of_ble_eq_true rfl, Nat.le_of_ble_eq_true rfl⟩ (Nat.le_of_ble_eq_true rfl) (Or.inl ⟨_, _, _, _, rfl, rfl⟩) rfl ⟨rfl, ⟨by decide, by decide⟩, rfl, (fr_cons (Or.inl (Nat.le_of_ble_eq_true rfl)) (fr_cons (Or.inl (Nat.le_of_ble_eq_true rfl)) (fr_cons (Or.inl (Nat.le_of_ble_eq_true rfl)) (fr_cons (Or.inl (Nat.le_of_ble_eq_true rfl)) (fr_nil))))), rfl⟩ fr_i rfl rfl rfl rfl ?_
          refine V.if_eq (tgt := 208) dX11_takesWord_174 (by decide) (fun h => ?_) (fun h => ?_)
          · have hf := fif_t h hf
            refine V.iconst (v := 0) dX11_takesWord_208 rfl ?_
            obtain rfl := Option.some.inj hf
            exact V.zret (v := 0) dX11_takesWord_209 rfl (by decide +kernel) (Nat.le_of_ble_eq_true rfl) (Nat.le_of_ble_eq_true rfl) rfl
          · have hf := fif_f h hf
            refine V.aload_n (i := 0) dX11_takesWord_177 rfl rfl ?_
            refine V.bipush (v := 105) dX11_takesWord_178 rfl ?_
            obtain ⟨v10, hv10, hf⟩ := fbind hf
            refine V.callVn (pl := [0, 1, 2, 3, 4]) (σ' := [.inl (6, [.ref 1, .ref 2, .int M_savedMany, .ref 3, .int M_isTaken, .ref 4, .int M_length, .int M_thrown, .int M_spelt, .int M_speltMany, .int v10.2, .int v1, .int M_one, .int M_two, .int M_three, .int M_begins, .int M_done, .int M_stopBy, .long M_hash]), .inr (406, .inl M_s), .inr (2436, .inl M_saved), .inr (406, .inl M_snapshot), .inr (60, .inl M_text)]) (st2 := [.int v10.1]) (cl2 := 0) (sl2 := 0) (ct_X11_takes (a1 := 105) (M_savedMany := M_savedMany) (M_isTaken := M_isTaken) (M_length := M_length) (M_thrown := M_thrown) (M_spelt := M_spelt) (M_speltMany := M_speltMany) (M_place := v9.2) (M_kind := v1) (M_one := M_one) (M_two := M_two) (M_three := M_three) (M_begins := M_begins) (M_done := M_done) (M_stopBy := M_stopBy) (M_hash := M_hash) (M_s := M_s) (M_saved := M_saved) (M_snapshot := M_snapshot) (M_text := M_text) hv10) dX11_takesWord_180 w1295 ⟨w1297, w38⟩ cal_X11_takes rfl ⟨⟨Nat.le_of_ble_eq_true rfl, Nat.le_of_ble_eq_true rfl⟩, Nat.le_of_ble_eq_true rfl, Nat.le_of_ble_eq_true rfl⟩ (Nat.le_of_ble_eq_true rfl) (Or.inl ⟨_, _, _, _, rfl, rfl⟩) rfl ⟨rfl, ⟨by decide, by decide⟩, rfl, (fr_cons (Or.inl (Nat.le_of_ble_eq_true rfl)) (fr_cons (Or.inl (Nat.le_of_ble_eq_true rfl)) (fr_cons (Or.inl (Nat.le_of_ble_eq_true rfl)) (fr_cons (Or.inl (Nat.le_of_ble_eq_true rfl)) (fr_nil))))), rfl⟩ fr_i rfl rfl rfl rfl ?_
            refine V.if_eq (tgt := 208) dX11_takesWord_183 (by decide) (fun h => ?_) (fun h => ?_)
            · have hf := fif_t h hf
              refine V.iconst (v := 0) dX11_takesWord_208 rfl ?_
              obtain rfl := Option.some.inj hf
              exact V.zret (v := 0) dX11_takesWord_209 rfl (by decide +kernel) (Nat.le_of_ble_eq_true rfl) (Nat.le_of_ble_eq_true rfl) rfl
            · have hf := fif_f h hf
              refine V.aload_n (i := 0) dX11_takesWord_186 rfl rfl ?_
              refine V.bipush (v := 118) dX11_takesWord_187 rfl ?_
              obtain ⟨v11, hv11, hf⟩ := fbind hf
              refine V.callVn (pl := [0, 1, 2, 3, 4]) (σ' := [.inl (6, [.ref 1, .ref 2, .int M_savedMany, .ref 3, .int M_isTaken, .ref 4, .int M_length, .int M_thrown, .int M_spelt, .int M_speltMany, .int v11.2, .int v1, .int M_one, .int M_two, .int M_three, .int M_begins, .int M_done, .int M_stopBy, .long M_hash]), .inr (406, .inl M_s), .inr (2436, .inl M_saved), .inr (406, .inl M_snapshot), .inr (60, .inl M_text)]) (st2 := [.int v11.1]) (cl2 := 0) (sl2 := 0) (ct_X11_takes (a1 := 118) (M_savedMany := M_savedMany) (M_isTaken := M_isTaken) (M_length := M_length) (M_thrown := M_thrown) (M_spelt := M_spelt) (M_speltMany := M_speltMany) (M_place := v10.2) (M_kind := v1) (M_one := M_one) (M_two := M_two) (M_three := M_three) (M_begins := M_begins) (M_done := M_done) (M_stopBy := M_stopBy) (M_hash := M_hash) (M_s := M_s) (M_saved := M_saved) (M_snapshot := M_snapshot) (M_text := M_text) hv11) dX11_takesWord_189 w1295 ⟨w1297, w38⟩ cal_X11_takes rfl ⟨⟨Nat.le_of_ble_eq_true rfl, Nat.le_of_ble_eq_true rfl⟩, Nat.le_of_ble_eq_true rfl, Nat.le_of_ble_eq_true rfl⟩ (Nat.le_of_ble_eq_true rfl) (Or.inl ⟨_, _, _, _, rfl, rfl⟩) rfl ⟨rfl, ⟨by decide, by decide⟩, rfl, (fr_cons (Or.inl (Nat.le_of_ble_eq_true rfl)) (fr_cons (Or.inl (Nat.le_of_ble_eq_true rfl)) (fr_cons (Or.inl (Nat.le_of_ble_eq_true rfl)) (fr_cons (Or.inl (Nat.le_of_ble_eq_true rfl)) (fr_nil))))), rfl⟩ fr_i rfl rfl rfl rfl ?_
              refine V.if_eq (tgt := 208) dX11_takesWord_192 (by decide) (fun h => ?_) (fun h => ?_)
              · have hf := fif_t h hf
                refine V.iconst (v := 0) dX11_takesWord_208 rfl ?_
                obtain rfl := Option.some.inj hf
                exact V.zret (v := 0) dX11_takesWord_209 rfl (by decide +kernel) (Nat.le_of_ble_eq_true rfl) (Nat.le_of_ble_eq_true rfl) rfl
              · have hf := fif_f h hf
                refine V.aload_n (i := 0) dX11_takesWord_195 rfl rfl ?_
                refine V.bipush (v := 101) dX11_takesWord_196 rfl ?_
                obtain ⟨v12, hv12, hf⟩ := fbind hf
                refine V.callVn (pl := [0, 1, 2, 3, 4]) (σ' := [.inl (6, [.ref 1, .ref 2, .int M_savedMany, .ref 3, .int M_isTaken, .ref 4, .int M_length, .int M_thrown, .int M_spelt, .int M_speltMany, .int v12.2, .int v1, .int M_one, .int M_two, .int M_three, .int M_begins, .int M_done, .int M_stopBy, .long M_hash]), .inr (406, .inl M_s), .inr (2436, .inl M_saved), .inr (406, .inl M_snapshot), .inr (60, .inl M_text)]) (st2 := [.int v12.1]) (cl2 := 0) (sl2 := 0) (ct_X11_takes (a1 := 101) (M_savedMany := M_savedMany) (M_isTaken := M_isTaken) (M_length := M_length) (M_thrown := M_thrown) (M_spelt := M_spelt) (M_speltMany := M_speltMany) (M_place := v11.2) (M_kind := v1) (M_one := M_one) (M_two := M_two) (M_three := M_three) (M_begins := M_begins) (M_done := M_done) (M_stopBy := M_stopBy) (M_hash := M_hash) (M_s := M_s) (M_saved := M_saved) (M_snapshot := M_snapshot) (M_text := M_text) hv12) dX11_takesWord_198 w1295 ⟨w1297, w38⟩ cal_X11_takes rfl ⟨⟨Nat.le_of_ble_eq_true rfl, Nat.le_of_ble_eq_true rfl⟩, Nat.le_of_ble_eq_true rfl, Nat.le_of_ble_eq_true rfl⟩ (Nat.le_of_ble_eq_true rfl) (Or.inl ⟨_, _, _, _, rfl, rfl⟩) rfl ⟨rfl, ⟨by decide, by decide⟩, rfl, (fr_cons (Or.inl (Nat.le_of_ble_eq_true rfl)) (fr_cons (Or.inl (Nat.le_of_ble_eq_true rfl)) (fr_cons (Or.inl (Nat.le_of_ble_eq_true rfl)) (fr_cons (Or.inl (Nat.le_of_ble_eq_true rfl)) (fr_nil))))), rfl⟩ fr_i rfl rfl rfl rfl ?_
                refine V.if_eq (tgt := 208) dX11_takesWord_201 (by decide) (fun h => ?_) (fun h => ?_)
                · have hf := fif_t h hf
                  refine V.iconst (v := 0) dX11_takesWord_208 rfl ?_
                  obtain rfl := Option.some.inj hf
                  exact V.zret (v := 0) dX11_takesWord_209 rfl (by decide +kernel) (Nat.le_of_ble_eq_true rfl) (Nat.le_of_ble_eq_true rfl) rfl
                · have hf := fif_f h hf
                  refine V.iconst (v := 1) dX11_takesWord_204 rfl ?_
                  refine V.goto (tgt := 209) dX11_takesWord_205 (by decide) ?_
                  obtain rfl := Option.some.inj hf
                  exact V.zret (v := 1) dX11_takesWord_209 rfl (by decide +kernel) (Nat.le_of_ble_eq_true rfl) (Nat.le_of_ble_eq_true rfl) rfl
        · have hf := fif_f h103 hf
          by_cases h115 : v1 = 115
          · have hf := fif_t h115 hf
            refine V.cgi h115 (V.lookup (off := 85) (tgt := 117) dX11_takesWord_32 rfl rfl (by decide) ?_)
            refine V.aload_n (i := 0) dX11_takesWord_117 rfl rfl ?_
            refine V.bipush (v := 115) dX11_takesWord_118 rfl ?_
            obtain ⟨v13, hv13, hf⟩ := fbind hf
            refine V.callVn (pl := [0, 1, 2, 3, 4]) (σ' := [.inl (6, [.ref 1, .ref 2, .int M_savedMany, .ref 3, .int M_isTaken, .ref 4, .int M_length, .int M_thrown, .int M_spelt, .int M_speltMany, .int v13.2, .int v1, .int M_one, .int M_two, .int M_three, .int M_begins, .int M_done, .int M_stopBy, .long M_hash]), .inr (406, .inl M_s), .inr (2436, .inl M_saved), .inr (406, .inl M_snapshot), .inr (60, .inl M_text)]) (st2 := [.int v13.1]) (cl2 := 0) (sl2 := 0) (ct_X11_takes (a1 := 115) (M_savedMany := M_savedMany) (M_isTaken := M_isTaken) (M_length := M_length) (M_thrown := M_thrown) (M_spelt := M_spelt) (M_speltMany := M_speltMany) (M_place := M_place) (M_kind := v1) (M_one := M_one) (M_two := M_two) (M_three := M_three) (M_begins := M_begins) (M_done := M_done) (M_stopBy := M_stopBy) (M_hash := M_hash) (M_s := M_s) (M_saved := M_saved) (M_snapshot := M_snapshot) (M_text := M_text) hv13) dX11_takesWord_120 w1295 ⟨w1297, w38⟩ cal_X11_takes rfl ⟨⟨Nat.le_of_ble_eq_true rfl, Nat.le_of_ble_eq_true rfl⟩, Nat.le_of_ble_eq_true rfl, Nat.le_of_ble_eq_true rfl⟩ (Nat.le_of_ble_eq_true rfl) (Or.inl ⟨_, _, _, _, rfl, rfl⟩) rfl ⟨rfl, ⟨by decide, by decide⟩, rfl, (fr_cons (Or.inl (Nat.le_of_ble_eq_true rfl)) (fr_cons (Or.inl (Nat.le_of_ble_eq_true rfl)) (fr_cons (Or.inl (Nat.le_of_ble_eq_true rfl)) (fr_cons (Or.inl (Nat.le_of_ble_eq_true rfl)) (fr_nil))))), rfl⟩ fr_i rfl rfl rfl rfl ?_
            refine V.if_eq (tgt := 166) dX11_takesWord_123 (by decide) (fun h => ?_) (fun h => ?_)
            · have hf := fif_t h hf
              refine V.iconst (v := 0) dX11_takesWord_166 rfl ?_
              obtain rfl := Option.some.inj hf
              exact V.zret (v := 0) dX11_takesWord_167 rfl (by decide +kernel) (Nat.le_of_ble_eq_true rfl) (Nat.le_of_ble_eq_true rfl) rfl
            · have hf := fif_f h hf
              refine V.aload_n (i := 0) dX11_takesWord_126 rfl rfl ?_
              refine V.bipush (v := 116) dX11_takesWord_127 rfl ?_
              obtain ⟨v14, hv14, hf⟩ := fbind hf
              refine V.callVn (pl := [0, 1, 2, 3, 4]) (σ' := [.inl (6, [.ref 1, .ref 2, .int M_savedMany, .ref 3, .int M_isTaken, .ref 4, .int M_length, .int M_thrown, .int M_spelt, .int M_speltMany, .int v14.2, .int v1, .int M_one, .int M_two, .int M_three, .int M_begins, .int M_done, .int M_stopBy, .long M_hash]), .inr (406, .inl M_s), .inr (2436, .inl M_saved), .inr (406, .inl M_snapshot), .inr (60, .inl M_text)]) (st2 := [.int v14.1]) (cl2 := 0) (sl2 := 0) (ct_X11_takes (a1 := 116) (M_savedMany := M_savedMany) (M_isTaken := M_isTaken) (M_length := M_length) (M_thrown := M_thrown) (M_spelt := M_spelt) (M_speltMany := M_speltMany) (M_place := v13.2) (M_kind := v1) (M_one := M_one) (M_two := M_two) (M_three := M_three) (M_begins := M_begins) (M_done := M_done) (M_stopBy := M_stopBy) (M_hash := M_hash) (M_s := M_s) (M_saved := M_saved) (M_snapshot := M_snapshot) (M_text := M_text) hv14) dX11_takesWord_129 w1295 ⟨w1297, w38⟩ cal_X11_takes rfl ⟨⟨Nat.le_of_ble_eq_true rfl, Nat.le_of_ble_eq_true rfl⟩, Nat.le_of_ble_eq_true rfl, Nat.le_of_ble_eq_true rfl⟩ (Nat.le_of_ble_eq_true rfl) (Or.inl ⟨_, _, _, _, rfl, rfl⟩) rfl ⟨rfl, ⟨by decide, by decide⟩, rfl, (fr_cons (Or.inl (Nat.le_of_ble_eq_true rfl)) (fr_cons (Or.inl (Nat.le_of_ble_eq_true rfl)) (fr_cons (Or.inl (Nat.le_of_ble_eq_true rfl)) (fr_cons (Or.inl (Nat.le_of_ble_eq_true rfl)) (fr_nil))))), rfl⟩ fr_i rfl rfl rfl rfl ?_
              refine V.if_eq (tgt := 166) dX11_takesWord_132 (by decide) (fun h => ?_) (fun h => ?_)
              · have hf := fif_t h hf
                refine V.iconst (v := 0) dX11_takesWord_166 rfl ?_
                obtain rfl := Option.some.inj hf
                exact V.zret (v := 0) dX11_takesWord_167 rfl (by decide +kernel) (Nat.le_of_ble_eq_true rfl) (Nat.le_of_ble_eq_true rfl) rfl
              · have hf := fif_f h hf
                refine V.aload_n (i := 0) dX11_takesWord_135 rfl rfl ?_
                refine V.bipush (v := 111) dX11_takesWord_136 rfl ?_
                obtain ⟨v15, hv15, hf⟩ := fbind hf
                refine V.callVn (pl := [0, 1, 2, 3, 4]) (σ' := [.inl (6, [.ref 1, .ref 2, .int M_savedMany, .ref 3, .int M_isTaken, .ref 4, .int M_length, .int M_thrown, .int M_spelt, .int M_speltMany, .int v15.2, .int v1, .int M_one, .int M_two, .int M_three, .int M_begins, .int M_done, .int M_stopBy, .long M_hash]), .inr (406, .inl M_s), .inr (2436, .inl M_saved), .inr (406, .inl M_snapshot), .inr (60, .inl M_text)]) (st2 := [.int v15.1]) (cl2 := 0) (sl2 := 0) (ct_X11_takes (a1 := 111) (M_savedMany := M_savedMany) (M_isTaken := M_isTaken) (M_length := M_length) (M_thrown := M_thrown) (M_spelt := M_spelt) (M_speltMany := M_speltMany) (M_place := v14.2) (M_kind := v1) (M_one := M_one) (M_two := M_two) (M_three := M_three) (M_begins := M_begins) (M_done := M_done) (M_stopBy := M_stopBy) (M_hash := M_hash) (M_s := M_s) (M_saved := M_saved) (M_snapshot := M_snapshot) (M_text := M_text) hv15) dX11_takesWord_138 w1295 ⟨w1297, w38⟩ cal_X11_takes rfl ⟨⟨Nat.le_of_ble_eq_true rfl, Nat.le_of_ble_eq_true rfl⟩, Nat.le_of_ble_eq_true rfl, Nat.le_of_ble_eq_true rfl⟩ (Nat.le_of_ble_eq_true rfl) (Or.inl ⟨_, _, _, _, rfl, rfl⟩) rfl ⟨rfl, ⟨by decide, by decide⟩, rfl, (fr_cons (Or.inl (Nat.le_of_ble_eq_true rfl)) (fr_cons (Or.inl (Nat.le_of_ble_eq_true rfl)) (fr_cons (Or.inl (Nat.le_of_ble_eq_true rfl)) (fr_cons (Or.inl (Nat.le_of_ble_eq_true rfl)) (fr_nil))))), rfl⟩ fr_i rfl rfl rfl rfl ?_
                refine V.if_eq (tgt := 166) dX11_takesWord_141 (by decide) (fun h => ?_) (fun h => ?_)
                · have hf := fif_t h hf
                  refine V.iconst (v := 0) dX11_takesWord_166 rfl ?_
                  obtain rfl := Option.some.inj hf
                  exact V.zret (v := 0) dX11_takesWord_167 rfl (by decide +kernel) (Nat.le_of_ble_eq_true rfl) (Nat.le_of_ble_eq_true rfl) rfl
                · have hf := fif_f h hf
                  refine V.aload_n (i := 0) dX11_takesWord_144 rfl rfl ?_
                  refine V.bipush (v := 114) dX11_takesWord_145 rfl ?_
                  obtain ⟨v16, hv16, hf⟩ := fbind hf
                  refine V.callVn (pl := [0, 1, 2, 3, 4]) (σ' := [.inl (6, [.ref 1, .ref 2, .int M_savedMany, .ref 3, .int M_isTaken, .ref 4, .int M_length, .int M_thrown, .int M_spelt, .int M_speltMany, .int v16.2, .int v1, .int M_one, .int M_two, .int M_three, .int M_begins, .int M_done, .int M_stopBy, .long M_hash]), .inr (406, .inl M_s), .inr (2436, .inl M_saved), .inr (406, .inl M_snapshot), .inr (60, .inl M_text)]) (st2 := [.int v16.1]) (cl2 := 0) (sl2 := 0) (ct_X11_takes (a1 := 114) (M_savedMany := M_savedMany) (M_isTaken := M_isTaken) (M_length := M_length) (M_thrown := M_thrown) (M_spelt := M_spelt) (M_speltMany := M_speltMany) (M_place := v15.2) (M_kind := v1) (M_one := M_one) (M_two := M_two) (M_three := M_three) (M_begins := M_begins) (M_done := M_done) (M_stopBy := M_stopBy) (M_hash := M_hash) (M_s := M_s) (M_saved := M_saved) (M_snapshot := M_snapshot) (M_text := M_text) hv16) dX11_takesWord_147 w1295 ⟨w1297, w38⟩ cal_X11_takes rfl ⟨⟨Nat.le_of_ble_eq_true rfl, Nat.le_of_ble_eq_true rfl⟩, Nat.le_of_ble_eq_true rfl, Nat.le_of_ble_eq_true rfl⟩ (Nat.le_of_ble_eq_true rfl) (Or.inl ⟨_, _, _, _, rfl, rfl⟩) rfl ⟨rfl, ⟨by decide, by decide⟩, rfl, (fr_cons (Or.inl (Nat.le_of_ble_eq_true rfl)) (fr_cons (Or.inl (Nat.le_of_ble_eq_true rfl)) (fr_cons (Or.inl (Nat.le_of_ble_eq_true rfl)) (fr_cons (Or.inl (Nat.le_of_ble_eq_true rfl)) (fr_nil))))), rfl⟩ fr_i rfl rfl rfl rfl ?_
                  refine V.if_eq (tgt := 166) dX11_takesWord_150 (by decide) (fun h => ?_) (fun h => ?_)
                  · have hf := fif_t h hf
                    refine V.iconst (v := 0) dX11_takesWord_166 rfl ?_
                    obtain rfl := Option.some.inj hf
                    exact V.zret (v := 0) dX11_takesWord_167 rfl (by decide +kernel) (Nat.le_of_ble_eq_true rfl) (Nat.le_of_ble_eq_true rfl) rfl
                  · have hf := fif_f h hf
                    refine V.aload_n (i := 0) dX11_takesWord_153 rfl rfl ?_
                    refine V.bipush (v := 109) dX11_takesWord_154 rfl ?_
                    obtain ⟨v17, hv17, hf⟩ := fbind hf
                    refine V.callVn (pl := [0, 1, 2, 3, 4]) (σ' := [.inl (6, [.ref 1, .ref 2, .int M_savedMany, .ref 3, .int M_isTaken, .ref 4, .int M_length, .int M_thrown, .int M_spelt, .int M_speltMany, .int v17.2, .int v1, .int M_one, .int M_two, .int M_three, .int M_begins, .int M_done, .int M_stopBy, .long M_hash]), .inr (406, .inl M_s), .inr (2436, .inl M_saved), .inr (406, .inl M_snapshot), .inr (60, .inl M_text)]) (st2 := [.int v17.1]) (cl2 := 0) (sl2 := 0) (ct_X11_takes (a1 := 109) (M_savedMany := M_savedMany) (M_isTaken := M_isTaken) (M_length := M_length) (M_thrown := M_thrown) (M_spelt := M_spelt) (M_speltMany := M_speltMany) (M_place := v16.2) (M_kind := v1) (M_one := M_one) (M_two := M_two) (M_three := M_three) (M_begins := M_begins) (M_done := M_done) (M_stopBy := M_stopBy) (M_hash := M_hash) (M_s := M_s) (M_saved := M_saved) (M_snapshot := M_snapshot) (M_text := M_text) hv17) dX11_takesWord_156 w1295 ⟨w1297, w38⟩ cal_X11_takes rfl ⟨⟨Nat.le_of_ble_eq_true rfl, Nat.le_of_ble_eq_true rfl⟩, Nat.le_of_ble_eq_true rfl, Nat.le_of_ble_eq_true rfl⟩ (Nat.le_of_ble_eq_true rfl) (Or.inl ⟨_, _, _, _, rfl, rfl⟩) rfl ⟨rfl, ⟨by decide, by decide⟩, rfl, (fr_cons (Or.inl (Nat.le_of_ble_eq_true rfl)) (fr_cons (Or.inl (Nat.le_of_ble_eq_true rfl)) (fr_cons (Or.inl (Nat.le_of_ble_eq_true rfl)) (fr_cons (Or.inl (Nat.le_of_ble_eq_true rfl)) (fr_nil))))), rfl⟩ fr_i rfl rfl rfl rfl ?_
                    refine V.if_eq (tgt := 166) dX11_takesWord_159 (by decide) (fun h => ?_) (fun h => ?_)
                    · have hf := fif_t h hf
                      refine V.iconst (v := 0) dX11_takesWord_166 rfl ?_
                      obtain rfl := Option.some.inj hf
                      exact V.zret (v := 0) dX11_takesWord_167 rfl (by decide +kernel) (Nat.le_of_ble_eq_true rfl) (Nat.le_of_ble_eq_true rfl) rfl
                    · have hf := fif_f h hf
                      refine V.iconst (v := 1) dX11_takesWord_162 rfl ?_
                      refine V.goto (tgt := 167) dX11_takesWord_163 (by decide) ?_
                      obtain rfl := Option.some.inj hf
                      exact V.zret (v := 1) dX11_takesWord_167 rfl (by decide +kernel) (Nat.le_of_ble_eq_true rfl) (Nat.le_of_ble_eq_true rfl) rfl
          · have hf := fif_f h115 hf
            by_cases h116 : v1 = 116
            · have hf := fif_t h116 hf
              refine V.cgi h116 (V.lookup (off := 52) (tgt := 84) dX11_takesWord_32 rfl rfl (by decide) ?_)
              refine V.aload_n (i := 0) dX11_takesWord_84 rfl rfl ?_
              refine V.bipush (v := 116) dX11_takesWord_85 rfl ?_
              obtain ⟨v18, hv18, hf⟩ := fbind hf
              refine V.callVn (pl := [0, 1, 2, 3, 4]) (σ' := [.inl (6, [.ref 1, .ref 2, .int M_savedMany, .ref 3, .int M_isTaken, .ref 4, .int M_length, .int M_thrown, .int M_spelt, .int M_speltMany, .int v18.2, .int v1, .int M_one, .int M_two, .int M_three, .int M_begins, .int M_done, .int M_stopBy, .long M_hash]), .inr (406, .inl M_s), .inr (2436, .inl M_saved), .inr (406, .inl M_snapshot), .inr (60, .inl M_text)]) (st2 := [.int v18.1]) (cl2 := 0) (sl2 := 0) (ct_X11_takes (a1 := 116) (M_savedMany := M_savedMany) (M_isTaken := M_isTaken) (M_length := M_length) (M_thrown := M_thrown) (M_spelt := M_spelt) (M_speltMany := M_speltMany) (M_place := M_place) (M_kind := v1) (M_one := M_one) (M_two := M_two) (M_three := M_three) (M_begins := M_begins) (M_done := M_done) (M_stopBy := M_stopBy) (M_hash := M_hash) (M_s := M_s) (M_saved := M_saved) (M_snapshot := M_snapshot) (M_text := M_text) hv18) dX11_takesWord_87 w1295 ⟨w1297, w38⟩ cal_X11_takes rfl ⟨⟨Nat.le_of_ble_eq_true rfl, Nat.le_of_ble_eq_true rfl⟩, Nat.le_of_ble_eq_true rfl, Nat.le_of_ble_eq_true rfl⟩ (Nat.le_of_ble_eq_true rfl) (Or.inl ⟨_, _, _, _, rfl, rfl⟩) rfl ⟨rfl, ⟨by decide, by decide⟩, rfl, (fr_cons (Or.inl (Nat.le_of_ble_eq_true rfl)) (fr_cons (Or.inl (Nat.le_of_ble_eq_true rfl)) (fr_cons (Or.inl (Nat.le_of_ble_eq_true rfl)) (fr_cons (Or.inl (Nat.le_of_ble_eq_true rfl)) (fr_nil))))), rfl⟩ fr_i rfl rfl rfl rfl ?_
              refine V.if_eq (tgt := 115) dX11_takesWord_90 (by decide) (fun h => ?_) (fun h => ?_)
              · have hf := fif_t h hf
                refine V.iconst (v := 0) dX11_takesWord_115 rfl ?_
                obtain rfl := Option.some.inj hf
                exact V.zret (v := 0) dX11_takesWord_116 rfl (by decide +kernel) (Nat.le_of_ble_eq_true rfl) (Nat.le_of_ble_eq_true rfl) rfl
              · have hf := fif_f h hf
                refine V.aload_n (i := 0) dX11_takesWord_93 rfl rfl ?_
                refine V.bipush (v := 105) dX11_takesWord_94 rfl ?_
                obtain ⟨v19, hv19, hf⟩ := fbind hf
                refine V.callVn (pl := [0, 1, 2, 3, 4]) (σ' := [.inl (6, [.ref 1, .ref 2, .int M_savedMany, .ref 3, .int M_isTaken, .ref 4, .int M_length, .int M_thrown, .int M_spelt, .int M_speltMany, .int v19.2, .int v1, .int M_one, .int M_two, .int M_three, .int M_begins, .int M_done, .int M_stopBy, .long M_hash]), .inr (406, .inl M_s), .inr (2436, .inl M_saved), .inr (406, .inl M_snapshot), .inr (60, .inl M_text)]) (st2 := [.int v19.1]) (cl2 := 0) (sl2 := 0) (ct_X11_takes (a1 := 105) (M_savedMany := M_savedMany) (M_isTaken := M_isTaken) (M_length := M_length) (M_thrown := M_thrown) (M_spelt := M_spelt) (M_speltMany := M_speltMany) (M_place := v18.2) (M_kind := v1) (M_one := M_one) (M_two := M_two) (M_three := M_three) (M_begins := M_begins) (M_done := M_done) (M_stopBy := M_stopBy) (M_hash := M_hash) (M_s := M_s) (M_saved := M_saved) (M_snapshot := M_snapshot) (M_text := M_text) hv19) dX11_takesWord_96 w1295 ⟨w1297, w38⟩ cal_X11_takes rfl ⟨⟨Nat.le_of_ble_eq_true rfl, Nat.le_of_ble_eq_true rfl⟩, Nat.le_of_ble_eq_true rfl, Nat.le_of_ble_eq_true rfl⟩ (Nat.le_of_ble_eq_true rfl) (Or.inl ⟨_, _, _, _, rfl, rfl⟩) rfl ⟨rfl, ⟨by decide, by decide⟩, rfl, (fr_cons (Or.inl (Nat.le_of_ble_eq_true rfl)) (fr_cons (Or.inl (Nat.le_of_ble_eq_true rfl)) (fr_cons (Or.inl (Nat.le_of_ble_eq_true rfl)) (fr_cons (Or.inl (Nat.le_of_ble_eq_true rfl)) (fr_nil))))), rfl⟩ fr_i rfl rfl rfl rfl ?_
                refine V.if_eq (tgt := 115) dX11_takesWord_99 (by decide) (fun h => ?_) (fun h => ?_)
                · have hf := fif_t h hf
                  refine V.iconst (v := 0) dX11_takesWord_115 rfl ?_
                  obtain rfl := Option.some.inj hf
                  exact V.zret (v := 0) dX11_takesWord_116 rfl (by decide +kernel) (Nat.le_of_ble_eq_true rfl) (Nat.le_of_ble_eq_true rfl) rfl
                · have hf := fif_f h hf
                  refine V.aload_n (i := 0) dX11_takesWord_102 rfl rfl ?_
                  refine V.bipush (v := 101) dX11_takesWord_103 rfl ?_
                  obtain ⟨v20, hv20, hf⟩ := fbind hf
                  refine V.callVn (pl := [0, 1, 2, 3, 4]) (σ' := [.inl (6, [.ref 1, .ref 2, .int M_savedMany, .ref 3, .int M_isTaken, .ref 4, .int M_length, .int M_thrown, .int M_spelt, .int M_speltMany, .int v20.2, .int v1, .int M_one, .int M_two, .int M_three, .int M_begins, .int M_done, .int M_stopBy, .long M_hash]), .inr (406, .inl M_s), .inr (2436, .inl M_saved), .inr (406, .inl M_snapshot), .inr (60, .inl M_text)]) (st2 := [.int v20.1]) (cl2 := 0) (sl2 := 0) (ct_X11_takes (a1 := 101) (M_savedMany := M_savedMany) (M_isTaken := M_isTaken) (M_length := M_length) (M_thrown := M_thrown) (M_spelt := M_spelt) (M_speltMany := M_speltMany) (M_place := v19.2) (M_kind := v1) (M_one := M_one) (M_two := M_two) (M_three := M_three) (M_begins := M_begins) (M_done := M_done) (M_stopBy := M_stopBy) (M_hash := M_hash) (M_s := M_s) (M_saved := M_saved) (M_snapshot := M_snapshot) (M_text := M_text) hv20) dX11_takesWord_105 w1295 ⟨w1297, w38⟩ cal_X11_takes rfl ⟨⟨Nat.le_of_ble_eq_true rfl, Nat.le_of_ble_eq_true rfl⟩, Nat.le_of_ble_eq_true rfl, Nat.le_of_ble_eq_true rfl⟩ (Nat.le_of_ble_eq_true rfl) (Or.inl ⟨_, _, _, _, rfl, rfl⟩) rfl ⟨rfl, ⟨by decide, by decide⟩, rfl, (fr_cons (Or.inl (Nat.le_of_ble_eq_true rfl)) (fr_cons (Or.inl (Nat.le_of_ble_eq_true rfl)) (fr_cons (Or.inl (Nat.le_of_ble_eq_true rfl)) (fr_cons (Or.inl (Nat.le_of_ble_eq_true rfl)) (fr_nil))))), rfl⟩ fr_i rfl rfl rfl rfl ?_
                  refine V.if_eq (tgt := 115) dX11_takesWord_108 (by decide) (fun h => ?_) (fun h => ?_)
                  · have hf := fif_t h hf
                    refine V.iconst (v := 0) dX11_takesWord_115 rfl ?_
                    obtain rfl := Option.some.inj hf
                    exact V.zret (v := 0) dX11_takesWord_116 rfl (by decide +kernel) (Nat.le_of_ble_eq_true rfl) (Nat.le_of_ble_eq_true rfl) rfl
                  · have hf := fif_f h hf
                    refine V.iconst (v := 1) dX11_takesWord_111 rfl ?_
                    refine V.goto (tgt := 116) dX11_takesWord_112 (by decide) ?_
                    obtain rfl := Option.some.inj hf
                    exact V.zret (v := 1) dX11_takesWord_116 rfl (by decide +kernel) (Nat.le_of_ble_eq_true rfl) (Nat.le_of_ble_eq_true rfl) rfl
            · have hf := fif_f h116 hf
              refine V.lookup (off := 253) (tgt := 285) dX11_takesWord_32 rfl (by simp only [Array.toList]; rw [lv_osw h99 (by decide), lv_osw h102 (by decide), lv_osw h103 (by decide), lv_osw h115 (by decide), lv_osw h116 (by decide)]; rfl) (by decide) ?_
              refine V.iconst (v := 0) dX11_takesWord_285 rfl ?_
              obtain rfl := Option.some.inj hf
              exact V.zret (v := 0) dX11_takesWord_286 rfl (by decide +kernel) (Nat.le_of_ble_eq_true rfl) (Nat.le_of_ble_eq_true rfl) rfl
def k_X11_readLettersOfName : fK := (yX11_readLettersOfName, cX11_readLettersOfName, 1, (some .boolean), [], (2, 44), (0, 0), (0, 0))
theorem cal_X11_readLettersOfName : fCal k_X11_readLettersOfName 0 := ⟨⟨wc1310, w73⟩, ⟨by decide +kernel, by decide +kernel⟩, by decide +kernel, by decide +kernel⟩
def s_X11_readLettersOfName_L8 (M_length : Int32) (M_begins : Int32) (M_text : Nat → Int32) : Nat → (Int32) → Option ((Int32))
  | 0, _ => none
  | n + 1, M_place => (s_X11_isNext 97 112 M_length M_place M_text).bind fun v1 => if (v1 = 0 : Prop) then (some M_place) else (if ((M_begins + 8) ≤ M_place : Prop) then (some M_place) else (s_X11_readLettersOfName_L8 M_length M_begins M_text n (M_place + 1)))
set_option maxHeartbeats 4000000 in
set_option maxRecDepth 100000 in
theorem v_X11_readLettersOfName_L8 {out : fO} {σ' : List fE} {M_savedMany : Int32} {M_isTaken : Int32} {M_length : Int32} {M_thrown : Int32} {M_spelt : Int32} {M_speltMany : Int32} {M_kind : Int32} {M_one : Int32} {M_two : Int32} {M_three : Int32} {M_begins : Int32} {M_done : Int32} {M_stopBy : Int32} {M_hash : Int64} {M_s : Nat → Int32} {M_saved : Nat → Int32} {M_snapshot : Nat → Int32} {M_text : Nat → Int32} : ∀ (n : Nat) {M_place : (Int32)} {res : (Int32)} (hf : s_X11_readLettersOfName_L8 M_length M_begins M_text n M_place = some res) (hx : V (fXm 5 k_X11_readLettersOfName out σ') (krm k_X11_readLettersOfName) k_X11_readLettersOfName 5 46 [some (.ref 0)] [] [.inl (6, [.ref 1, .ref 2, .int M_savedMany, .ref 3, .int M_isTaken, .ref 4, .int M_length, .int M_thrown, .int M_spelt, .int M_speltMany, .int res, .int M_kind, .int M_one, .int M_two, .int M_three, .int M_begins, .int M_done, .int M_stopBy, .long M_hash]), .inr (406, .inl M_s), .inr (2436, .inl M_saved), .inr (406, .inl M_snapshot), .inr (60, .inl M_text)] 0 0), V (fXm 5 k_X11_readLettersOfName out σ') (krm k_X11_readLettersOfName) k_X11_readLettersOfName 5 8 [some (.ref 0)] [] [.inl (6, [.ref 1, .ref 2, .int M_savedMany, .ref 3, .int M_isTaken, .ref 4, .int M_length, .int M_thrown, .int M_spelt, .int M_speltMany, .int M_place, .int M_kind, .int M_one, .int M_two, .int M_three, .int M_begins, .int M_done, .int M_stopBy, .long M_hash]), .inr (406, .inl M_s), .inr (2436, .inl M_saved), .inr (406, .inl M_snapshot), .inr (60, .inl M_text)] 0 0 := by
  intro n
  induction n with
  | zero =>
    intro M_place res hf hx
    rw [s_X11_readLettersOfName_L8] at hf
    cases hf
  | succ n ih =>
    intro M_place res hf hx
    rw [s_X11_readLettersOfName_L8] at hf
    refine V.aload_n (i := 0) dX11_readLettersOfName_8 rfl rfl ?_
    refine V.bipush (v := 97) dX11_readLettersOfName_9 rfl ?_
    refine V.bipush (v := 112) dX11_readLettersOfName_11 rfl ?_
    obtain ⟨v1, hv1, hf⟩ := fbind hf
    refine V.callVn (pl := [0, 1, 2, 3, 4]) (σ' := [.inl (6, [.ref 1, .ref 2, .int M_savedMany, .ref 3, .int M_isTaken, .ref 4, .int M_length, .int M_thrown, .int M_spelt, .int M_speltMany, .int M_place, .int M_kind, .int M_one, .int M_two, .int M_three, .int M_begins, .int M_done, .int M_stopBy, .long M_hash]), .inr (406, .inl M_s), .inr (2436, .inl M_saved), .inr (406, .inl M_snapshot), .inr (60, .inl M_text)]) (st2 := [.int v1]) (cl2 := 0) (sl2 := 0) (ct_X11_isNext (a1 := 97) (a2 := 112) (M_savedMany := M_savedMany) (M_isTaken := M_isTaken) (M_length := M_length) (M_thrown := M_thrown) (M_spelt := M_spelt) (M_speltMany := M_speltMany) (M_place := M_place) (M_kind := M_kind) (M_one := M_one) (M_two := M_two) (M_three := M_three) (M_begins := M_begins) (M_done := M_done) (M_stopBy := M_stopBy) (M_hash := M_hash) (M_s := M_s) (M_saved := M_saved) (M_snapshot := M_snapshot) (M_text := M_text) hv1) dX11_readLettersOfName_13 w1299 ⟨w1301, w39⟩ cal_X11_isNext rfl ⟨⟨Nat.le_of_ble_eq_true rfl, Nat.le_of_ble_eq_true rfl⟩, Nat.le_of_ble_eq_true rfl, Nat.le_of_ble_eq_true rfl⟩ (Nat.le_of_ble_eq_true rfl) (Or.inl ⟨_, _, _, _, rfl, rfl⟩) rfl ⟨rfl, ⟨by decide, by decide⟩, rfl, (fr_cons (Or.inl (Nat.le_of_ble_eq_true rfl)) (fr_cons (Or.inl (Nat.le_of_ble_eq_true rfl)) (fr_cons (Or.inl (Nat.le_of_ble_eq_true rfl)) (fr_cons (Or.inl (Nat.le_of_ble_eq_true rfl)) (fr_nil))))), rfl⟩ fr_i rfl rfl rfl rfl ?_
    refine V.if_eq (tgt := 46) dX11_readLettersOfName_16 (by decide) (fun h => ?_) (fun h => ?_)
    · have hf := fif_t h hf
      obtain rfl := Option.some.inj hf
      exact hx
    · have hf := fif_f h hf
      refine V.aload_n (i := 0) dX11_readLettersOfName_19 rfl rfl ?_
      refine V.getfield (kf := 10) (v := .int M_place) fl_RX11 dX11_readLettersOfName_20 w1053 (Nat.le_of_ble_eq_true rfl) rfl rfl ?_
      refine V.aload_n (i := 0) dX11_readLettersOfName_23 rfl rfl ?_
      refine V.getfield (kf := 15) (v := .int M_begins) fl_RX11 dX11_readLettersOfName_24 w1058 (Nat.le_of_ble_eq_true rfl) rfl rfl ?_
      refine V.bipush (v := 8) dX11_readLettersOfName_27 rfl ?_
      refine V.iadd dX11_readLettersOfName_29 ?_
      refine V.icmp_ge (tgt := 46) dX11_readLettersOfName_30 (by decide) (fun h => ?_) (fun h => ?_)
      · have hf := fif_t h hf
        obtain rfl := Option.some.inj hf
        exact hx
      · have hf := fif_f h hf
        refine V.aload_n (i := 0) dX11_readLettersOfName_33 rfl rfl ?_
        refine V.dup dX11_readLettersOfName_34 rfl ?_
        refine V.getfield (kf := 10) (v := .int M_place) fl_RX11 dX11_readLettersOfName_35 w1053 (Nat.le_of_ble_eq_true rfl) rfl rfl ?_
        refine V.iconst (v := 1) dX11_readLettersOfName_38 rfl ?_
        refine V.iadd dX11_readLettersOfName_39 ?_
        refine V.putfield (ty := tyX11) (kf := 10) (σ' := [.inl (6, [.ref 1, .ref 2, .int M_savedMany, .ref 3, .int M_isTaken, .ref 4, .int M_length, .int M_thrown, .int M_spelt, .int M_speltMany, .int (M_place + 1), .int M_kind, .int M_one, .int M_two, .int M_three, .int M_begins, .int M_done, .int M_stopBy, .long M_hash]), .inr (406, .inl M_s), .inr (2436, .inl M_saved), .inr (406, .inl M_snapshot), .inr (60, .inl M_text)]) fl_RX11 dX11_readLettersOfName_40 w1053 (Nat.le_of_ble_eq_true rfl) rfl (fun _ => ⟨rfl, rfl⟩) rfl (Nat.le_of_ble_eq_true rfl) rfl ?_
        refine V.goto (tgt := 8) dX11_readLettersOfName_43 (by decide) ?_
        exact ih hf hx
def s_X11_readLettersOfName (M_length : Int32) (M_place : Int32) (M_begins : Int32) (M_text : Nat → Int32) : Option (Int32 × (Int32) × (Int32)) := (s_X11_readLettersOfName_L8 M_length M_place M_text gF M_place).bind fun r2 => if (r2 ≤ M_place : Prop) then (some (0, r2, M_place)) else (some (1, r2, M_place))
set_option maxHeartbeats 4000000 in
set_option maxRecDepth 100000 in
theorem ct_X11_readLettersOfName {M_savedMany : Int32} {M_isTaken : Int32} {M_length : Int32} {M_thrown : Int32} {M_spelt : Int32} {M_speltMany : Int32} {M_place : Int32} {M_kind : Int32} {M_one : Int32} {M_two : Int32} {M_three : Int32} {M_begins : Int32} {M_done : Int32} {M_stopBy : Int32} {M_hash : Int64} {M_s : Nat → Int32} {M_saved : Nat → Int32} {M_snapshot : Nat → Int32} {M_text : Nat → Int32} {res : Int32 × (Int32) × (Int32)} (hf : s_X11_readLettersOfName M_length M_place M_begins M_text = some res) : Ct k_X11_readLettersOfName [.ref 0] [.inl (6, [.ref 1, .ref 2, .int M_savedMany, .ref 3, .int M_isTaken, .ref 4, .int M_length, .int M_thrown, .int M_spelt, .int M_speltMany, .int M_place, .int M_kind, .int M_one, .int M_two, .int M_three, .int M_begins, .int M_done, .int M_stopBy, .long M_hash]), .inr (406, .inl M_s), .inr (2436, .inl M_saved), .inr (406, .inl M_snapshot), .inr (60, .inl M_text)] (.inl (some (.int res.1))) [.inl (6, [.ref 1, .ref 2, .int M_savedMany, .ref 3, .int M_isTaken, .ref 4, .int M_length, .int M_thrown, .int M_spelt, .int M_speltMany, .int res.2.1, .int M_kind, .int M_one, .int M_two, .int M_three, .int res.2.2, .int M_done, .int M_stopBy, .long M_hash]), .inr (406, .inl M_s), .inr (2436, .inl M_saved), .inr (406, .inl M_snapshot), .inr (60, .inl M_text)] := by
  unfold s_X11_readLettersOfName at hf
  refine Ct.of (L := [some (.ref 0)]) cal_X11_readLettersOfName (fent_pad (j := 0) rfl) (Nat.le_of_ble_eq_true rfl) ?_
  refine V.aload_n (i := 0) dX11_readLettersOfName_0 rfl rfl ?_
  refine V.aload_n (i := 0) dX11_readLettersOfName_1 rfl rfl ?_
  refine V.getfield (kf := 10) (v := .int M_place) fl_RX11 dX11_readLettersOfName_2 w1053 (Nat.le_of_ble_eq_true rfl) rfl rfl ?_
  refine V.putfield (ty := tyX11) (kf := 15) (σ' := [.inl (6, [.ref 1, .ref 2, .int M_savedMany, .ref 3, .int M_isTaken, .ref 4, .int M_length, .int M_thrown, .int M_spelt, .int M_speltMany, .int M_place, .int M_kind, .int M_one, .int M_two, .int M_three, .int M_place, .int M_done, .int M_stopBy, .long M_hash]), .inr (406, .inl M_s), .inr (2436, .inl M_saved), .inr (406, .inl M_snapshot), .inr (60, .inl M_text)]) fl_RX11 dX11_readLettersOfName_5 w1058 (Nat.le_of_ble_eq_true rfl) rfl (fun _ => ⟨rfl, rfl⟩) rfl (Nat.le_of_ble_eq_true rfl) rfl ?_
  obtain ⟨r2, hr2, hf⟩ := fbind hf
  refine v_X11_readLettersOfName_L8 gF hr2 ?_
  refine V.aload_n (i := 0) dX11_readLettersOfName_46 rfl rfl ?_
  refine V.getfield (kf := 10) (v := .int r2) fl_RX11 dX11_readLettersOfName_47 w1053 (Nat.le_of_ble_eq_true rfl) rfl rfl ?_
  refine V.aload_n (i := 0) dX11_readLettersOfName_50 rfl rfl ?_
  refine V.getfield (kf := 15) (v := .int M_place) fl_RX11 dX11_readLettersOfName_51 w1058 (Nat.le_of_ble_eq_true rfl) rfl rfl ?_
  refine V.icmp_le (tgt := 61) dX11_readLettersOfName_54 (by decide) (fun h => ?_) (fun h => ?_)
  · have hf := fif_t h hf
    refine V.iconst (v := 0) dX11_readLettersOfName_61 rfl ?_
    obtain rfl := Option.some.inj hf
    exact V.zret (v := 0) dX11_readLettersOfName_62 rfl (by decide +kernel) (Nat.le_of_ble_eq_true rfl) (Nat.le_of_ble_eq_true rfl) rfl
  · have hf := fif_f h hf
    refine V.iconst (v := 1) dX11_readLettersOfName_57 rfl ?_
    refine V.goto (tgt := 62) dX11_readLettersOfName_58 (by decide) ?_
    obtain rfl := Option.some.inj hf
    exact V.zret (v := 1) dX11_readLettersOfName_62 rfl (by decide +kernel) (Nat.le_of_ble_eq_true rfl) (Nat.le_of_ble_eq_true rfl) rfl
def k_X11_readPart : fK := (yX11_readPart, cX11_readPart, 1, (some .boolean), [], (4, 86), (0, 0), (0, 0))
theorem cal_X11_readPart : fCal k_X11_readPart 0 := ⟨⟨wc1290, w73⟩, ⟨by decide +kernel, by decide +kernel⟩, by decide +kernel, by decide +kernel⟩
def s_X11_readPart (M_length : Int32) (M_place : Int32) (M_kind : Int32) (M_one : Int32) (M_two : Int32) (M_three : Int32) (M_begins : Int32) (M_text : Nat → Int32) : Option (Int32 × (Int32) × (Int32) × (Int32) × (Int32) × (Int32) × (Int32)) := (s_X11_takesWord M_length M_place M_kind M_text).bind fun v1 => if (v1.1 = 0 : Prop) then (some (0, v1.2.1, v1.2.2, M_one, M_two, M_three, M_begins)) else ((s_X11_digit 4 M_length v1.2.1 M_text).bind fun v2 => if (v2.1 = (-1) : Prop) then (some (0, v2.2, v1.2.2, v2.1, M_two, M_three, M_begins)) else (if (v1.2.2 = 115 : Prop) then (some (1, v2.2, v1.2.2, v2.1, M_two, M_three, M_begins)) else (if (v1.2.2 = 116 : Prop) then ((s_X11_takes 58 M_length v2.2 M_text).bind fun v7 => if (v7.1 = 0 : Prop) then (some (0, v7.2, v1.2.2, v2.1, M_two, M_three, M_begins)) else ((s_X11_readLettersOfName M_length v7.2 M_begins M_text).bind fun v8 => if (v8.1 = 0 : Prop) then (some (0, v8.2.1, v1.2.2, v2.1, M_two, M_three, v8.2.2)) else (some (1, v8.2.1, v1.2.2, v2.1, M_two, M_three, v8.2.2)))) else ((s_X11_takes 47 M_length v2.2 M_text).bind fun v3 => if (v3.1 = 0 : Prop) then (some (0, v3.2, v1.2.2, v2.1, (-1), M_three, M_begins)) else ((s_X11_digit 5 M_length v3.2 M_text).bind fun v4 => if (v4.1 = (-1) : Prop) then (if (v4.1 = (-1) : Prop) then (some (0, v4.2, v1.2.2, v2.1, v4.1, M_three, M_begins)) else (some (1, v4.2, v1.2.2, v2.1, v4.1, M_three, M_begins))) else (if (v1.2.2 = 103 : Prop) then ((s_X11_takes 62 M_length v4.2 M_text).bind fun v5 => if (v5.1 = 0 : Prop) then (some (0, v5.2, v1.2.2, v2.1, v4.1, (-1), M_begins)) else ((s_X11_digit 4 M_length v5.2 M_text).bind fun v6 => if (v6.1 = (-1) : Prop) then (some (0, v6.2, v1.2.2, v2.1, v4.1, v6.1, M_begins)) else (some (1, v6.2, v1.2.2, v2.1, v4.1, v6.1, M_begins)))) else (if (v4.1 = (-1) : Prop) then (some (0, v4.2, v1.2.2, v2.1, v4.1, M_three, M_begins)) else (some (1, v4.2, v1.2.2, v2.1, v4.1, M_three, M_begins)))))))))
set_option maxHeartbeats 4000000 in
set_option maxRecDepth 100000 in
theorem ct_X11_readPart {M_savedMany : Int32} {M_isTaken : Int32} {M_length : Int32} {M_thrown : Int32} {M_spelt : Int32} {M_speltMany : Int32} {M_place : Int32} {M_kind : Int32} {M_one : Int32} {M_two : Int32} {M_three : Int32} {M_begins : Int32} {M_done : Int32} {M_stopBy : Int32} {M_hash : Int64} {M_s : Nat → Int32} {M_saved : Nat → Int32} {M_snapshot : Nat → Int32} {M_text : Nat → Int32} {res : Int32 × (Int32) × (Int32) × (Int32) × (Int32) × (Int32) × (Int32)} (hf : s_X11_readPart M_length M_place M_kind M_one M_two M_three M_begins M_text = some res) : Ct k_X11_readPart [.ref 0] [.inl (6, [.ref 1, .ref 2, .int M_savedMany, .ref 3, .int M_isTaken, .ref 4, .int M_length, .int M_thrown, .int M_spelt, .int M_speltMany, .int M_place, .int M_kind, .int M_one, .int M_two, .int M_three, .int M_begins, .int M_done, .int M_stopBy, .long M_hash]), .inr (406, .inl M_s), .inr (2436, .inl M_saved), .inr (406, .inl M_snapshot), .inr (60, .inl M_text)] (.inl (some (.int res.1))) [.inl (6, [.ref 1, .ref 2, .int M_savedMany, .ref 3, .int M_isTaken, .ref 4, .int M_length, .int M_thrown, .int M_spelt, .int M_speltMany, .int res.2.1, .int res.2.2.1, .int res.2.2.2.1, .int res.2.2.2.2.1, .int res.2.2.2.2.2.1, .int res.2.2.2.2.2.2, .int M_done, .int M_stopBy, .long M_hash]), .inr (406, .inl M_s), .inr (2436, .inl M_saved), .inr (406, .inl M_snapshot), .inr (60, .inl M_text)] := by
  unfold s_X11_readPart at hf
  refine Ct.of (L := [some (.ref 0)]) cal_X11_readPart (fent_pad (j := 0) rfl) (Nat.le_of_ble_eq_true rfl) ?_
  refine V.aload_n (i := 0) dX11_readPart_0 rfl rfl ?_
  obtain ⟨v1, hv1, hf⟩ := fbind hf
  refine V.callVn (pl := [0, 1, 2, 3, 4]) (σ' := [.inl (6, [.ref 1, .ref 2, .int M_savedMany, .ref 3, .int M_isTaken, .ref 4, .int M_length, .int M_thrown, .int M_spelt, .int M_speltMany, .int v1.2.1, .int v1.2.2, .int M_one, .int M_two, .int M_three, .int M_begins, .int M_done, .int M_stopBy, .long M_hash]), .inr (406, .inl M_s), .inr (2436, .inl M_saved), .inr (406, .inl M_snapshot), .inr (60, .inl M_text)]) (st2 := [.int v1.1]) (cl2 := 0) (sl2 := 0) (ct_X11_takesWord (M_savedMany := M_savedMany) (M_isTaken := M_isTaken) (M_length := M_length) (M_thrown := M_thrown) (M_spelt := M_spelt) (M_speltMany := M_speltMany) (M_place := M_place) (M_kind := M_kind) (M_one := M_one) (M_two := M_two) (M_three := M_three) (M_begins := M_begins) (M_done := M_done) (M_stopBy := M_stopBy) (M_hash := M_hash) (M_s := M_s) (M_saved := M_saved) (M_snapshot := M_snapshot) (M_text := M_text) hv1) dX11_readPart_1 w1291 ⟨w1293, w37⟩ cal_X11_takesWord rfl ⟨⟨Nat.le_of_ble_eq_true rfl, Nat.le_of_ble_eq_true rfl⟩, Nat.le_of_ble_eq_true rfl, Nat.le_of_ble_eq_true rfl⟩ (Nat.le_of_ble_eq_true rfl) (Or.inl ⟨_, _, _, _, rfl, rfl⟩) rfl ⟨rfl, ⟨by decide, by decide⟩, rfl, (fr_cons (Or.inl (Nat.le_of_ble_eq_true rfl)) (fr_cons (Or.inl (Nat.le_of_ble_eq_true rfl)) (fr_cons (Or.inl (Nat.le_of_ble_eq_true rfl)) (fr_cons (Or.inl (Nat.le_of_ble_eq_true rfl)) (fr_nil))))), rfl⟩ fr_i rfl rfl rfl rfl ?_
  refine V.if_ne (tgt := 9) dX11_readPart_4 (by decide) (fun h => ?_) (fun h => ?_)
  · have hf := fif_f h hf
    refine V.aload_n (i := 0) dX11_readPart_9 rfl rfl ?_
    refine V.aload_n (i := 0) dX11_readPart_10 rfl rfl ?_
    refine V.iconst (v := 4) dX11_readPart_11 rfl ?_
    obtain ⟨v2, hv2, hf⟩ := fbind hf
    refine V.callVn (pl := [0, 1, 2, 3, 4]) (σ' := [.inl (6, [.ref 1, .ref 2, .int M_savedMany, .ref 3, .int M_isTaken, .ref 4, .int M_length, .int M_thrown, .int M_spelt, .int M_speltMany, .int v2.2, .int v1.2.2, .int M_one, .int M_two, .int M_three, .int M_begins, .int M_done, .int M_stopBy, .long M_hash]), .inr (406, .inl M_s), .inr (2436, .inl M_saved), .inr (406, .inl M_snapshot), .inr (60, .inl M_text)]) (st2 := [.int v2.1, .ref 0]) (cl2 := 0) (sl2 := 0) (ct_X11_digit (a1 := 4) (M_savedMany := M_savedMany) (M_isTaken := M_isTaken) (M_length := M_length) (M_thrown := M_thrown) (M_spelt := M_spelt) (M_speltMany := M_speltMany) (M_place := v1.2.1) (M_kind := v1.2.2) (M_one := M_one) (M_two := M_two) (M_three := M_three) (M_begins := M_begins) (M_done := M_done) (M_stopBy := M_stopBy) (M_hash := M_hash) (M_s := M_s) (M_saved := M_saved) (M_snapshot := M_snapshot) (M_text := M_text) hv2) dX11_readPart_12 w1303 ⟨w1305, w40⟩ cal_X11_digit rfl ⟨⟨Nat.le_of_ble_eq_true rfl, Nat.le_of_ble_eq_true rfl⟩, Nat.le_of_ble_eq_true rfl, Nat.le_of_ble_eq_true rfl⟩ (Nat.le_of_ble_eq_true rfl) (Or.inl ⟨_, _, _, _, rfl, rfl⟩) rfl ⟨rfl, ⟨by decide, by decide⟩, rfl, (fr_cons (Or.inl (Nat.le_of_ble_eq_true rfl)) (fr_cons (Or.inl (Nat.le_of_ble_eq_true rfl)) (fr_cons (Or.inl (Nat.le_of_ble_eq_true rfl)) (fr_cons (Or.inl (Nat.le_of_ble_eq_true rfl)) (fr_nil))))), rfl⟩ fr_i rfl rfl rfl rfl ?_
    refine V.putfield (ty := tyX11) (kf := 12) (σ' := [.inl (6, [.ref 1, .ref 2, .int M_savedMany, .ref 3, .int M_isTaken, .ref 4, .int M_length, .int M_thrown, .int M_spelt, .int M_speltMany, .int v2.2, .int v1.2.2, .int v2.1, .int M_two, .int M_three, .int M_begins, .int M_done, .int M_stopBy, .long M_hash]), .inr (406, .inl M_s), .inr (2436, .inl M_saved), .inr (406, .inl M_snapshot), .inr (60, .inl M_text)]) fl_RX11 dX11_readPart_15 w1055 (Nat.le_of_ble_eq_true rfl) rfl (fun _ => ⟨rfl, rfl⟩) rfl (Nat.le_of_ble_eq_true rfl) rfl ?_
    refine V.aload_n (i := 0) dX11_readPart_18 rfl rfl ?_
    refine V.getfield (kf := 12) (v := .int v2.1) fl_RX11 dX11_readPart_19 w1055 (Nat.le_of_ble_eq_true rfl) rfl rfl ?_
    refine V.iconst (v := (-1)) dX11_readPart_22 rfl ?_
    refine V.icmp_ne (tgt := 28) dX11_readPart_23 (by decide) (fun h => ?_) (fun h => ?_)
    · have hf := fif_f h hf
      refine V.aload_n (i := 0) dX11_readPart_28 rfl rfl ?_
      refine V.getfield (kf := 11) (v := .int v1.2.2) fl_RX11 dX11_readPart_29 w1054 (Nat.le_of_ble_eq_true rfl) rfl rfl ?_
      refine V.bipush (v := 115) dX11_readPart_32 rfl ?_
      refine V.icmp_ne (tgt := 39) dX11_readPart_34 (by decide) (fun h => ?_) (fun h => ?_)
      · have hf := fif_f h hf
        refine V.aload_n (i := 0) dX11_readPart_39 rfl rfl ?_
        refine V.getfield (kf := 11) (v := .int v1.2.2) fl_RX11 dX11_readPart_40 w1054 (Nat.le_of_ble_eq_true rfl) rfl rfl ?_
        refine V.bipush (v := 116) dX11_readPart_43 rfl ?_
        refine V.icmp_ne (tgt := 70) dX11_readPart_45 (by decide) (fun h => ?_) (fun h => ?_)
        · have hf := fif_f h hf
          refine V.aload_n (i := 0) dX11_readPart_70 rfl rfl ?_
          refine V.aload_n (i := 0) dX11_readPart_71 rfl rfl ?_
          refine V.bipush (v := 47) dX11_readPart_72 rfl ?_
          obtain ⟨v3, hv3, hf⟩ := fbind hf
          refine V.callVn (pl := [0, 1, 2, 3, 4]) (σ' := [.inl (6, [.ref 1, .ref 2, .int M_savedMany, .ref 3, .int M_isTaken, .ref 4, .int M_length, .int M_thrown, .int M_spelt, .int M_speltMany, .int v3.2, .int v1.2.2, .int v2.1, .int M_two, .int M_three, .int M_begins, .int M_done, .int M_stopBy, .long M_hash]), .inr (406, .inl M_s), .inr (2436, .inl M_saved), .inr (406, .inl M_snapshot), .inr (60, .inl M_text)]) (st2 := [.int v3.1, .ref 0]) (cl2 := 0) (sl2 := 0) (ct_X11_takes (a1 := 47) (M_savedMany := M_savedMany) (M_isTaken := M_isTaken) (M_length := M_length) (M_thrown := M_thrown) (M_spelt := M_spelt) (M_speltMany := M_speltMany) (M_place := v2.2) (M_kind := v1.2.2) (M_one := v2.1) (M_two := M_two) (M_three := M_three) (M_begins := M_begins) (M_done := M_done) (M_stopBy := M_stopBy) (M_hash := M_hash) (M_s := M_s) (M_saved := M_saved) (M_snapshot := M_snapshot) (M_text := M_text) hv3) dX11_readPart_74 w1295 ⟨w1297, w38⟩ cal_X11_takes rfl ⟨⟨Nat.le_of_ble_eq_true rfl, Nat.le_of_ble_eq_true rfl⟩, Nat.le_of_ble_eq_true rfl, Nat.le_of_ble_eq_true rfl⟩ (Nat.le_of_ble_eq_true rfl) (Or.inl ⟨_, _, _, _, rfl, rfl⟩) rfl ⟨rfl, ⟨by decide, by decide⟩, rfl, (fr_cons (Or.inl (Nat.le_of_ble_eq_true rfl)) (fr_cons (Or.inl (Nat.le_of_ble_eq_true rfl)) (fr_cons (Or.inl (Nat.le_of_ble_eq_true rfl)) (fr_cons (Or.inl (Nat.le_of_ble_eq_true rfl)) (fr_nil))))), rfl⟩ fr_i rfl rfl rfl rfl ?_
          refine V.if_eq (tgt := 88) dX11_readPart_77 (by decide) (fun h => ?_) (fun h => ?_)
          · have hf := fif_t h hf
            refine V.iconst (v := (-1)) dX11_readPart_88 rfl ?_
            refine V.putfield (ty := tyX11) (kf := 13) (σ' := [.inl (6, [.ref 1, .ref 2, .int M_savedMany, .ref 3, .int M_isTaken, .ref 4, .int M_length, .int M_thrown, .int M_spelt, .int M_speltMany, .int v3.2, .int v1.2.2, .int v2.1, .int (-1), .int M_three, .int M_begins, .int M_done, .int M_stopBy, .long M_hash]), .inr (406, .inl M_s), .inr (2436, .inl M_saved), .inr (406, .inl M_snapshot), .inr (60, .inl M_text)]) fl_RX11 dX11_readPart_89 w1056 (Nat.le_of_ble_eq_true rfl) rfl (fun _ => ⟨rfl, rfl⟩) rfl (Nat.le_of_ble_eq_true rfl) rfl ?_
            refine V.aload_n (i := 0) dX11_readPart_92 rfl rfl ?_
            refine V.getfield (kf := 13) (v := .int (-1)) fl_RX11 dX11_readPart_93 w1056 (Nat.le_of_ble_eq_true rfl) rfl rfl ?_
            refine V.iconst (v := (-1)) dX11_readPart_96 rfl ?_
            refine V.icmp_eq (tgt := 109) dX11_readPart_97 (by decide) (fun _ => ?_) (fun h => absurd h (by decide))
            refine V.aload_n (i := 0) dX11_readPart_109 rfl rfl ?_
            refine V.getfield (kf := 13) (v := .int (-1)) fl_RX11 dX11_readPart_110 w1056 (Nat.le_of_ble_eq_true rfl) rfl rfl ?_
            refine V.iconst (v := (-1)) dX11_readPart_113 rfl ?_
            refine V.icmp_eq (tgt := 121) dX11_readPart_114 (by decide) (fun _ => ?_) (fun h => absurd h (by decide))
            refine V.iconst (v := 0) dX11_readPart_121 rfl ?_
            obtain rfl := Option.some.inj hf
            exact V.zret (v := 0) dX11_readPart_122 rfl (by decide +kernel) (Nat.le_of_ble_eq_true rfl) (Nat.le_of_ble_eq_true rfl) rfl
          · have hf := fif_f h hf
            refine V.aload_n (i := 0) dX11_readPart_80 rfl rfl ?_
            refine V.iconst (v := 5) dX11_readPart_81 rfl ?_
            obtain ⟨v4, hv4, hf⟩ := fbind hf
            refine V.callVn (pl := [0, 1, 2, 3, 4]) (σ' := [.inl (6, [.ref 1, .ref 2, .int M_savedMany, .ref 3, .int M_isTaken, .ref 4, .int M_length, .int M_thrown, .int M_spelt, .int M_speltMany, .int v4.2, .int v1.2.2, .int v2.1, .int M_two, .int M_three, .int M_begins, .int M_done, .int M_stopBy, .long M_hash]), .inr (406, .inl M_s), .inr (2436, .inl M_saved), .inr (406, .inl M_snapshot), .inr (60, .inl M_text)]) (st2 := [.int v4.1, .ref 0]) (cl2 := 0) (sl2 := 0) (ct_X11_digit (a1 := 5) (M_savedMany := M_savedMany) (M_isTaken := M_isTaken) (M_length := M_length) (M_thrown := M_thrown) (M_spelt := M_spelt) (M_speltMany := M_speltMany) (M_place := v3.2) (M_kind := v1.2.2) (M_one := v2.1) (M_two := M_two) (M_three := M_three) (M_begins := M_begins) (M_done := M_done) (M_stopBy := M_stopBy) (M_hash := M_hash) (M_s := M_s) (M_saved := M_saved) (M_snapshot := M_snapshot) (M_text := M_text) hv4) dX11_readPart_82 w1303 ⟨w1305, w40⟩ cal_X11_digit rfl ⟨⟨Nat.le_of_ble_eq_true rfl, Nat.le_of_ble_eq_true rfl⟩, Nat.le_of_ble_eq_true rfl, Nat.le_of_ble_eq_true rfl⟩ (Nat.le_of_ble_eq_true rfl) (Or.inl ⟨_, _, _, _, rfl, rfl⟩) rfl ⟨rfl, ⟨by decide, by decide⟩, rfl, (fr_cons (Or.inl (Nat.le_of_ble_eq_true rfl)) (fr_cons (Or.inl (Nat.le_of_ble_eq_true rfl)) (fr_cons (Or.inl (Nat.le_of_ble_eq_true rfl)) (fr_cons (Or.inl (Nat.le_of_ble_eq_true rfl)) (fr_nil))))), rfl⟩ fr_i rfl rfl rfl rfl ?_
            refine V.goto (tgt := 89) dX11_readPart_85 (by decide) ?_
            refine V.putfield (ty := tyX11) (kf := 13) (σ' := [.inl (6, [.ref 1, .ref 2, .int M_savedMany, .ref 3, .int M_isTaken, .ref 4, .int M_length, .int M_thrown, .int M_spelt, .int M_speltMany, .int v4.2, .int v1.2.2, .int v2.1, .int v4.1, .int M_three, .int M_begins, .int M_done, .int M_stopBy, .long M_hash]), .inr (406, .inl M_s), .inr (2436, .inl M_saved), .inr (406, .inl M_snapshot), .inr (60, .inl M_text)]) fl_RX11 dX11_readPart_89 w1056 (Nat.le_of_ble_eq_true rfl) rfl (fun _ => ⟨rfl, rfl⟩) rfl (Nat.le_of_ble_eq_true rfl) rfl ?_
            refine V.aload_n (i := 0) dX11_readPart_92 rfl rfl ?_
            refine V.getfield (kf := 13) (v := .int v4.1) fl_RX11 dX11_readPart_93 w1056 (Nat.le_of_ble_eq_true rfl) rfl rfl ?_
            refine V.iconst (v := (-1)) dX11_readPart_96 rfl ?_
            refine V.icmp_eq (tgt := 109) dX11_readPart_97 (by decide) (fun h => ?_) (fun h => ?_)
            · have hf := fif_t h hf
              refine V.aload_n (i := 0) dX11_readPart_109 rfl rfl ?_
              refine V.getfield (kf := 13) (v := .int v4.1) fl_RX11 dX11_readPart_110 w1056 (Nat.le_of_ble_eq_true rfl) rfl rfl ?_
              refine V.iconst (v := (-1)) dX11_readPart_113 rfl ?_
              refine V.icmp_eq (tgt := 121) dX11_readPart_114 (by decide) (fun h => ?_) (fun h => ?_)
              · have hf := fif_t h hf
                refine V.iconst (v := 0) dX11_readPart_121 rfl ?_
                obtain rfl := Option.some.inj hf
                exact V.zret (v := 0) dX11_readPart_122 rfl (by decide +kernel) (Nat.le_of_ble_eq_true rfl) (Nat.le_of_ble_eq_true rfl) rfl
              · have hf := fif_f h hf
                refine V.iconst (v := 1) dX11_readPart_117 rfl ?_
                refine V.goto (tgt := 122) dX11_readPart_118 (by decide) ?_
                obtain rfl := Option.some.inj hf
                exact V.zret (v := 1) dX11_readPart_122 rfl (by decide +kernel) (Nat.le_of_ble_eq_true rfl) (Nat.le_of_ble_eq_true rfl) rfl
            · have hf := fif_f h hf
              refine V.aload_n (i := 0) dX11_readPart_100 rfl rfl ?_
              refine V.getfield (kf := 11) (v := .int v1.2.2) fl_RX11 dX11_readPart_101 w1054 (Nat.le_of_ble_eq_true rfl) rfl rfl ?_
              refine V.bipush (v := 103) dX11_readPart_104 rfl ?_
              refine V.icmp_eq (tgt := 123) dX11_readPart_106 (by decide) (fun h => ?_) (fun h => ?_)
              · have hf := fif_t h hf
                refine V.aload_n (i := 0) dX11_readPart_123 rfl rfl ?_
                refine V.aload_n (i := 0) dX11_readPart_124 rfl rfl ?_
                refine V.bipush (v := 62) dX11_readPart_125 rfl ?_
                obtain ⟨v5, hv5, hf⟩ := fbind hf
                refine V.callVn (pl := [0, 1, 2, 3, 4]) (σ' := [.inl (6, [.ref 1, .ref 2, .int M_savedMany, .ref 3, .int M_isTaken, .ref 4, .int M_length, .int M_thrown, .int M_spelt, .int M_speltMany, .int v5.2, .int v1.2.2, .int v2.1, .int v4.1, .int M_three, .int M_begins, .int M_done, .int M_stopBy, .long M_hash]), .inr (406, .inl M_s), .inr (2436, .inl M_saved), .inr (406, .inl M_snapshot), .inr (60, .inl M_text)]) (st2 := [.int v5.1, .ref 0]) (cl2 := 0) (sl2 := 0) (ct_X11_takes (a1 := 62) (M_savedMany := M_savedMany) (M_isTaken := M_isTaken) (M_length := M_length) (M_thrown := M_thrown) (M_spelt := M_spelt) (M_speltMany := M_speltMany) (M_place := v4.2) (M_kind := v1.2.2) (M_one := v2.1) (M_two := v4.1) (M_three := M_three) (M_begins := M_begins) (M_done := M_done) (M_stopBy := M_stopBy) (M_hash := M_hash) (M_s := M_s) (M_saved := M_saved) (M_snapshot := M_snapshot) (M_text := M_text) hv5) dX11_readPart_127 w1295 ⟨w1297, w38⟩ cal_X11_takes rfl ⟨⟨Nat.le_of_ble_eq_true rfl, Nat.le_of_ble_eq_true rfl⟩, Nat.le_of_ble_eq_true rfl, Nat.le_of_ble_eq_true rfl⟩ (Nat.le_of_ble_eq_true rfl) (Or.inl ⟨_, _, _, _, rfl, rfl⟩) rfl ⟨rfl, ⟨by decide, by decide⟩, rfl, (fr_cons (Or.inl (Nat.le_of_ble_eq_true rfl)) (fr_cons (Or.inl (Nat.le_of_ble_eq_true rfl)) (fr_cons (Or.inl (Nat.le_of_ble_eq_true rfl)) (fr_cons (Or.inl (Nat.le_of_ble_eq_true rfl)) (fr_nil))))), rfl⟩ fr_i rfl rfl rfl rfl ?_
                refine V.if_eq (tgt := 141) dX11_readPart_130 (by decide) (fun h => ?_) (fun h => ?_)
                · have hf := fif_t h hf
                  refine V.iconst (v := (-1)) dX11_readPart_141 rfl ?_
                  refine V.putfield (ty := tyX11) (kf := 14) (σ' := [.inl (6, [.ref 1, .ref 2, .int M_savedMany, .ref 3, .int M_isTaken, .ref 4, .int M_length, .int M_thrown, .int M_spelt, .int M_speltMany, .int v5.2, .int v1.2.2, .int v2.1, .int v4.1, .int (-1), .int M_begins, .int M_done, .int M_stopBy, .long M_hash]), .inr (406, .inl M_s), .inr (2436, .inl M_saved), .inr (406, .inl M_snapshot), .inr (60, .inl M_text)]) fl_RX11 dX11_readPart_142 w1057 (Nat.le_of_ble_eq_true rfl) rfl (fun _ => ⟨rfl, rfl⟩) rfl (Nat.le_of_ble_eq_true rfl) rfl ?_
                  refine V.aload_n (i := 0) dX11_readPart_145 rfl rfl ?_
                  refine V.getfield (kf := 14) (v := .int (-1)) fl_RX11 dX11_readPart_146 w1057 (Nat.le_of_ble_eq_true rfl) rfl rfl ?_
                  refine V.iconst (v := (-1)) dX11_readPart_149 rfl ?_
                  refine V.icmp_eq (tgt := 157) dX11_readPart_150 (by decide) (fun _ => ?_) (fun h => absurd h (by decide))
                  refine V.iconst (v := 0) dX11_readPart_157 rfl ?_
                  obtain rfl := Option.some.inj hf
                  exact V.zret (v := 0) dX11_readPart_158 rfl (by decide +kernel) (Nat.le_of_ble_eq_true rfl) (Nat.le_of_ble_eq_true rfl) rfl
                · have hf := fif_f h hf
                  refine V.aload_n (i := 0) dX11_readPart_133 rfl rfl ?_
                  refine V.iconst (v := 4) dX11_readPart_134 rfl ?_
                  obtain ⟨v6, hv6, hf⟩ := fbind hf
                  refine V.callVn (pl := [0, 1, 2, 3, 4]) (σ' := [.inl (6, [.ref 1, .ref 2, .int M_savedMany, .ref 3, .int M_isTaken, .ref 4, .int M_length, .int M_thrown, .int M_spelt, .int M_speltMany, .int v6.2, .int v1.2.2, .int v2.1, .int v4.1, .int M_three, .int M_begins, .int M_done, .int M_stopBy, .long M_hash]), .inr (406, .inl M_s), .inr (2436, .inl M_saved), .inr (406, .inl M_snapshot), .inr (60, .inl M_text)]) (st2 := [.int v6.1, .ref 0]) (cl2 := 0) (sl2 := 0) (ct_X11_digit (a1 := 4) (M_savedMany := M_savedMany) (M_isTaken := M_isTaken) (M_length := M_length) (M_thrown := M_thrown) (M_spelt := M_spelt) (M_speltMany := M_speltMany) (M_place := v5.2) (M_kind := v1.2.2) (M_one := v2.1) (M_two := v4.1) (M_three := M_three) (M_begins := M_begins) (M_done := M_done) (M_stopBy := M_stopBy) (M_hash := M_hash) (M_s := M_s) (M_saved := M_saved) (M_snapshot := M_snapshot) (M_text := M_text) hv6) dX11_readPart_135 w1303 ⟨w1305, w40⟩ cal_X11_digit rfl ⟨⟨Nat.le_of_ble_eq_true rfl, Nat.le_of_ble_eq_true rfl⟩, Nat.le_of_ble_eq_true rfl, Nat.le_of_ble_eq_true rfl⟩ (Nat.le_of_ble_eq_true rfl) (Or.inl ⟨_, _, _, _, rfl, rfl⟩) rfl ⟨rfl, ⟨by decide, by decide⟩, rfl, (fr_cons (Or.inl (Nat.le_of_ble_eq_true rfl)) (fr_cons (Or.inl (Nat.le_of_ble_eq_true rfl)) (fr_cons (Or.inl (Nat.le_of_ble_eq_true rfl)) (fr_cons (Or.inl (Nat.le_of_ble_eq_true rfl)) (fr_nil))))), rfl⟩ fr_i rfl rfl rfl rfl ?_
                  refine V.goto (tgt := 142) dX11_readPart_138 (by decide) ?_
                  refine V.putfield (ty := tyX11) (kf := 14) (σ' := [.inl (6, [.ref 1, .ref 2, .int M_savedMany, .ref 3, .int M_isTaken, .ref 4, .int M_length, .int M_thrown, .int M_spelt, .int M_speltMany, .int v6.2, .int v1.2.2, .int v2.1, .int v4.1, .int v6.1, .int M_begins, .int M_done, .int M_stopBy, .long M_hash]), .inr (406, .inl M_s), .inr (2436, .inl M_saved), .inr (406, .inl M_snapshot), .inr (60, .inl M_text)]) fl_RX11 dX11_readPart_142 w1057 (Nat.le_of_ble_eq_true rfl) rfl (fun _ => ⟨rfl, rfl⟩) rfl (Nat.le_of_ble_eq_true rfl) rfl ?_
                  refine V.aload_n (i := 0) dX11_readPart_145 rfl rfl ?_
                  refine V.getfield (kf := 14) (v := .int v6.1) fl_RX11 dX11_readPart_146 w1057 (Nat.le_of_ble_eq_true rfl) rfl rfl ?_
                  refine V.iconst (v := (-1)) dX11_readPart_149 rfl ?_
                  refine V.icmp_eq (tgt := 157) dX11_readPart_150 (by decide) (fun h => ?_) (fun h => ?_)
                  · have hf := fif_t h hf
                    refine V.iconst (v := 0) dX11_readPart_157 rfl ?_
                    obtain rfl := Option.some.inj hf
                    exact V.zret (v := 0) dX11_readPart_158 rfl (by decide +kernel) (Nat.le_of_ble_eq_true rfl) (Nat.le_of_ble_eq_true rfl) rfl
                  · have hf := fif_f h hf
                    refine V.iconst (v := 1) dX11_readPart_153 rfl ?_
                    refine V.goto (tgt := 158) dX11_readPart_154 (by decide) ?_
                    obtain rfl := Option.some.inj hf
                    exact V.zret (v := 1) dX11_readPart_158 rfl (by decide +kernel) (Nat.le_of_ble_eq_true rfl) (Nat.le_of_ble_eq_true rfl) rfl
              · have hf := fif_f h hf
                refine V.aload_n (i := 0) dX11_readPart_109 rfl rfl ?_
                refine V.getfield (kf := 13) (v := .int v4.1) fl_RX11 dX11_readPart_110 w1056 (Nat.le_of_ble_eq_true rfl) rfl rfl ?_
                refine V.iconst (v := (-1)) dX11_readPart_113 rfl ?_
                refine V.icmp_eq (tgt := 121) dX11_readPart_114 (by decide) (fun h => ?_) (fun h => ?_)
                · have hf := fif_t h hf
                  refine V.iconst (v := 0) dX11_readPart_121 rfl ?_
                  obtain rfl := Option.some.inj hf
                  exact V.zret (v := 0) dX11_readPart_122 rfl (by decide +kernel) (Nat.le_of_ble_eq_true rfl) (Nat.le_of_ble_eq_true rfl) rfl
                · have hf := fif_f h hf
                  refine V.iconst (v := 1) dX11_readPart_117 rfl ?_
                  refine V.goto (tgt := 122) dX11_readPart_118 (by decide) ?_
                  obtain rfl := Option.some.inj hf
                  exact V.zret (v := 1) dX11_readPart_122 rfl (by decide +kernel) (Nat.le_of_ble_eq_true rfl) (Nat.le_of_ble_eq_true rfl) rfl
        · have hf := fif_t h hf
          refine V.aload_n (i := 0) dX11_readPart_48 rfl rfl ?_
          refine V.bipush (v := 58) dX11_readPart_49 rfl ?_
          obtain ⟨v7, hv7, hf⟩ := fbind hf
          refine V.callVn (pl := [0, 1, 2, 3, 4]) (σ' := [.inl (6, [.ref 1, .ref 2, .int M_savedMany, .ref 3, .int M_isTaken, .ref 4, .int M_length, .int M_thrown, .int M_spelt, .int M_speltMany, .int v7.2, .int v1.2.2, .int v2.1, .int M_two, .int M_three, .int M_begins, .int M_done, .int M_stopBy, .long M_hash]), .inr (406, .inl M_s), .inr (2436, .inl M_saved), .inr (406, .inl M_snapshot), .inr (60, .inl M_text)]) (st2 := [.int v7.1]) (cl2 := 0) (sl2 := 0) (ct_X11_takes (a1 := 58) (M_savedMany := M_savedMany) (M_isTaken := M_isTaken) (M_length := M_length) (M_thrown := M_thrown) (M_spelt := M_spelt) (M_speltMany := M_speltMany) (M_place := v2.2) (M_kind := v1.2.2) (M_one := v2.1) (M_two := M_two) (M_three := M_three) (M_begins := M_begins) (M_done := M_done) (M_stopBy := M_stopBy) (M_hash := M_hash) (M_s := M_s) (M_saved := M_saved) (M_snapshot := M_snapshot) (M_text := M_text) hv7) dX11_readPart_51 w1295 ⟨w1297, w38⟩ cal_X11_takes rfl ⟨⟨Nat.le_of_ble_eq_true rfl, Nat.le_of_ble_eq_true rfl⟩, Nat.le_of_ble_eq_true rfl, Nat.le_of_ble_eq_true rfl⟩ (Nat.le_of_ble_eq_true rfl) (Or.inl ⟨_, _, _, _, rfl, rfl⟩) rfl ⟨rfl, ⟨by decide, by decide⟩, rfl, (fr_cons (Or.inl (Nat.le_of_ble_eq_true rfl)) (fr_cons (Or.inl (Nat.le_of_ble_eq_true rfl)) (fr_cons (Or.inl (Nat.le_of_ble_eq_true rfl)) (fr_cons (Or.inl (Nat.le_of_ble_eq_true rfl)) (fr_nil))))), rfl⟩ fr_i rfl rfl rfl rfl ?_
          refine V.if_eq (tgt := 68) dX11_readPart_54 (by decide) (fun h => ?_) (fun h => ?_)
          · have hf := fif_t h hf
            refine V.iconst (v := 0) dX11_readPart_68 rfl ?_
            obtain rfl := Option.some.inj hf
            exact V.zret (v := 0) dX11_readPart_69 rfl (by decide +kernel) (Nat.le_of_ble_eq_true rfl) (Nat.le_of_ble_eq_true rfl) rfl
          · have hf := fif_f h hf
            refine V.aload_n (i := 0) dX11_readPart_57 rfl rfl ?_
            obtain ⟨v8, hv8, hf⟩ := fbind hf
            refine V.callVn (pl := [0, 1, 2, 3, 4]) (σ' := [.inl (6, [.ref 1, .ref 2, .int M_savedMany, .ref 3, .int M_isTaken, .ref 4, .int M_length, .int M_thrown, .int M_spelt, .int M_speltMany, .int v8.2.1, .int v1.2.2, .int v2.1, .int M_two, .int M_three, .int v8.2.2, .int M_done, .int M_stopBy, .long M_hash]), .inr (406, .inl M_s), .inr (2436, .inl M_saved), .inr (406, .inl M_snapshot), .inr (60, .inl M_text)]) (st2 := [.int v8.1]) (cl2 := 0) (sl2 := 0) (ct_X11_readLettersOfName (M_savedMany := M_savedMany) (M_isTaken := M_isTaken) (M_length := M_length) (M_thrown := M_thrown) (M_spelt := M_spelt) (M_speltMany := M_speltMany) (M_place := v7.2) (M_kind := v1.2.2) (M_one := v2.1) (M_two := M_two) (M_three := M_three) (M_begins := M_begins) (M_done := M_done) (M_stopBy := M_stopBy) (M_hash := M_hash) (M_s := M_s) (M_saved := M_saved) (M_snapshot := M_snapshot) (M_text := M_text) hv8) dX11_readPart_58 w1307 ⟨w1309, w41⟩ cal_X11_readLettersOfName rfl ⟨⟨Nat.le_of_ble_eq_true rfl, Nat.le_of_ble_eq_true rfl⟩, Nat.le_of_ble_eq_true rfl, Nat.le_of_ble_eq_true rfl⟩ (Nat.le_of_ble_eq_true rfl) (Or.inl ⟨_, _, _, _, rfl, rfl⟩) rfl ⟨rfl, ⟨by decide, by decide⟩, rfl, (fr_cons (Or.inl (Nat.le_of_ble_eq_true rfl)) (fr_cons (Or.inl (Nat.le_of_ble_eq_true rfl)) (fr_cons (Or.inl (Nat.le_of_ble_eq_true rfl)) (fr_cons (Or.inl (Nat.le_of_ble_eq_true rfl)) (fr_nil))))), rfl⟩ fr_i rfl rfl rfl rfl ?_
            refine V.if_eq (tgt := 68) dX11_readPart_61 (by decide) (fun h => ?_) (fun h => ?_)
            · have hf := fif_t h hf
              refine V.iconst (v := 0) dX11_readPart_68 rfl ?_
              obtain rfl := Option.some.inj hf
              exact V.zret (v := 0) dX11_readPart_69 rfl (by decide +kernel) (Nat.le_of_ble_eq_true rfl) (Nat.le_of_ble_eq_true rfl) rfl
            · have hf := fif_f h hf
              refine V.iconst (v := 1) dX11_readPart_64 rfl ?_
              refine V.goto (tgt := 69) dX11_readPart_65 (by decide) ?_
              obtain rfl := Option.some.inj hf
              exact V.zret (v := 1) dX11_readPart_69 rfl (by decide +kernel) (Nat.le_of_ble_eq_true rfl) (Nat.le_of_ble_eq_true rfl) rfl
      · have hf := fif_t h hf
        refine V.iconst (v := 1) dX11_readPart_37 rfl ?_
        obtain rfl := Option.some.inj hf
        exact V.zret (v := 1) dX11_readPart_38 rfl (by decide +kernel) (Nat.le_of_ble_eq_true rfl) (Nat.le_of_ble_eq_true rfl) rfl
    · have hf := fif_t h hf
      refine V.iconst (v := 0) dX11_readPart_26 rfl ?_
      obtain rfl := Option.some.inj hf
      exact V.zret (v := 0) dX11_readPart_27 rfl (by decide +kernel) (Nat.le_of_ble_eq_true rfl) (Nat.le_of_ble_eq_true rfl) rfl
  · have hf := fif_t h hf
    refine V.iconst (v := 0) dX11_readPart_7 rfl ?_
    obtain rfl := Option.some.inj hf
    exact V.zret (v := 0) dX11_readPart_8 rfl (by decide +kernel) (Nat.le_of_ble_eq_true rfl) (Nat.le_of_ble_eq_true rfl) rfl
def k_X11_stopOfPart : fK := (yX11_stopOfPart, cX11_stopOfPart, 1, (some .int), [], (8, 176), (0, 0), (0, 0))
theorem cal_X11_stopOfPart : fCal k_X11_stopOfPart 0 := ⟨⟨wc1314, w73⟩, ⟨by decide +kernel, by decide +kernel⟩, by decide +kernel, by decide +kernel⟩
def s_X11_stopOfPart (M_spelt : Int32) (M_speltMany : Int32) (M_place : Int32) (M_kind : Int32) (M_one : Int32) (M_two : Int32) (M_three : Int32) (M_begins : Int32) (M_s : Nat → Int32) (M_text : Nat → Int32) : Option (Int32 × (Int32) × (Int32)) := if (M_kind = 102 : Prop) then ((s_X11_isName M_one M_two M_s).bind fun v1 => if (v1 = 0 : Prop) then (some (6, M_spelt, M_speltMany)) else ((s_X11_canFasten M_one M_two M_s).bind fun v2 => if (v2 = 0 : Prop) then (some (2, M_spelt, M_speltMany)) else (some (0, M_spelt, M_speltMany)))) else (if (M_kind = 103 : Prop) then ((s_X11_isName M_one M_two M_s).bind fun v3 => if (v3 = 0 : Prop) then (some (6, M_spelt, M_speltMany)) else ((s_X11_gift M_one M_two M_three M_s).bind fun v4 => some (v4, M_spelt, M_speltMany))) else (if (M_kind = 115 : Prop) then (some (0, M_spelt, M_speltMany)) else (if (M_kind = 116 : Prop) then ((s_X11_isSpelt M_begins M_place M_spelt M_speltMany M_text).bind fun v5 => if (v5.1 = 0 : Prop) then (some (0, v5.2.1, v5.2.2)) else ((s_X11_reason M_one v5.2.1 v5.2.2 M_s).bind fun v6 => some (v6, v5.2.1, v5.2.2))) else ((s_X11_isName M_one M_two M_s).bind fun v7 => if (v7 = 0 : Prop) then (some (6, M_spelt, M_speltMany)) else (some (0, M_spelt, M_speltMany))))))
set_option maxHeartbeats 4000000 in
set_option maxRecDepth 100000 in
theorem ct_X11_stopOfPart {M_savedMany : Int32} {M_isTaken : Int32} {M_length : Int32} {M_thrown : Int32} {M_spelt : Int32} {M_speltMany : Int32} {M_place : Int32} {M_kind : Int32} {M_one : Int32} {M_two : Int32} {M_three : Int32} {M_begins : Int32} {M_done : Int32} {M_stopBy : Int32} {M_hash : Int64} {M_s : Nat → Int32} {M_saved : Nat → Int32} {M_snapshot : Nat → Int32} {M_text : Nat → Int32} {res : Int32 × (Int32) × (Int32)} (hf : s_X11_stopOfPart M_spelt M_speltMany M_place M_kind M_one M_two M_three M_begins M_s M_text = some res) : Ct k_X11_stopOfPart [.ref 0] [.inl (6, [.ref 1, .ref 2, .int M_savedMany, .ref 3, .int M_isTaken, .ref 4, .int M_length, .int M_thrown, .int M_spelt, .int M_speltMany, .int M_place, .int M_kind, .int M_one, .int M_two, .int M_three, .int M_begins, .int M_done, .int M_stopBy, .long M_hash]), .inr (406, .inl M_s), .inr (2436, .inl M_saved), .inr (406, .inl M_snapshot), .inr (60, .inl M_text)] (.inl (some (.int res.1))) [.inl (6, [.ref 1, .ref 2, .int M_savedMany, .ref 3, .int M_isTaken, .ref 4, .int M_length, .int M_thrown, .int res.2.1, .int res.2.2, .int M_place, .int M_kind, .int M_one, .int M_two, .int M_three, .int M_begins, .int M_done, .int M_stopBy, .long M_hash]), .inr (406, .inl M_s), .inr (2436, .inl M_saved), .inr (406, .inl M_snapshot), .inr (60, .inl M_text)] := by
  unfold s_X11_stopOfPart at hf
  refine Ct.of (L := [some (.ref 0)]) cal_X11_stopOfPart (fent_pad (j := 0) rfl) (Nat.le_of_ble_eq_true rfl) ?_
  refine V.aload_n (i := 0) dX11_stopOfPart_0 rfl rfl ?_
  refine V.getfield (kf := 11) (v := .int M_kind) fl_RX11 dX11_stopOfPart_1 w1054 (Nat.le_of_ble_eq_true rfl) rfl rfl ?_
  by_cases h102 : M_kind = 102
  · have hf := fif_t h102 hf
    refine V.cgi h102 (V.lookup (off := 119) (tgt := 123) dX11_stopOfPart_4 rfl rfl (by decide) ?_)
    refine V.aload_n (i := 0) dX11_stopOfPart_123 rfl rfl ?_
    refine V.aload_n (i := 0) dX11_stopOfPart_124 rfl rfl ?_
    refine V.getfield (kf := 12) (v := .int M_one) fl_RX11 dX11_stopOfPart_125 w1055 (Nat.le_of_ble_eq_true rfl) rfl rfl ?_
    refine V.aload_n (i := 0) dX11_stopOfPart_128 rfl rfl ?_
    refine V.getfield (kf := 13) (v := .int M_two) fl_RX11 dX11_stopOfPart_129 w1056 (Nat.le_of_ble_eq_true rfl) rfl rfl ?_
    obtain ⟨v1, hv1, hf⟩ := fbind hf
    refine V.callVn (pl := [0, 1, 2, 3, 4]) (σ' := [.inl (6, [.ref 1, .ref 2, .int M_savedMany, .ref 3, .int M_isTaken, .ref 4, .int M_length, .int M_thrown, .int M_spelt, .int M_speltMany, .int M_place, .int M_kind, .int M_one, .int M_two, .int M_three, .int M_begins, .int M_done, .int M_stopBy, .long M_hash]), .inr (406, .inl M_s), .inr (2436, .inl M_saved), .inr (406, .inl M_snapshot), .inr (60, .inl M_text)]) (st2 := [.int v1]) (cl2 := 0) (sl2 := 0) (ct_X11_isName (a1 := M_one) (a2 := M_two) (M_savedMany := M_savedMany) (M_isTaken := M_isTaken) (M_length := M_length) (M_thrown := M_thrown) (M_spelt := M_spelt) (M_speltMany := M_speltMany) (M_place := M_place) (M_kind := M_kind) (M_one := M_one) (M_two := M_two) (M_three := M_three) (M_begins := M_begins) (M_done := M_done) (M_stopBy := M_stopBy) (M_hash := M_hash) (M_s := M_s) (M_saved := M_saved) (M_snapshot := M_snapshot) (M_text := M_text) hv1) dX11_stopOfPart_132 w1204 ⟨w1206, w24⟩ cal_X11_isName rfl ⟨⟨Nat.le_of_ble_eq_true rfl, Nat.le_of_ble_eq_true rfl⟩, Nat.le_of_ble_eq_true rfl, Nat.le_of_ble_eq_true rfl⟩ (Nat.le_of_ble_eq_true rfl) (Or.inl ⟨_, _, _, _, rfl, rfl⟩) rfl ⟨rfl, ⟨by decide, by decide⟩, rfl, (fr_cons (Or.inl (Nat.le_of_ble_eq_true rfl)) (fr_cons (Or.inl (Nat.le_of_ble_eq_true rfl)) (fr_cons (Or.inl (Nat.le_of_ble_eq_true rfl)) (fr_cons (Or.inl (Nat.le_of_ble_eq_true rfl)) (fr_nil))))), rfl⟩ fr_i rfl rfl rfl rfl ?_
    refine V.if_ne (tgt := 143) dX11_stopOfPart_135 (by decide) (fun h => ?_) (fun h => ?_)
    · have hf := fif_f h hf
      refine V.aload_n (i := 0) dX11_stopOfPart_143 rfl rfl ?_
      refine V.aload_n (i := 0) dX11_stopOfPart_144 rfl rfl ?_
      refine V.getfield (kf := 12) (v := .int M_one) fl_RX11 dX11_stopOfPart_145 w1055 (Nat.le_of_ble_eq_true rfl) rfl rfl ?_
      refine V.aload_n (i := 0) dX11_stopOfPart_148 rfl rfl ?_
      refine V.getfield (kf := 13) (v := .int M_two) fl_RX11 dX11_stopOfPart_149 w1056 (Nat.le_of_ble_eq_true rfl) rfl rfl ?_
      obtain ⟨v2, hv2, hf⟩ := fbind hf
      refine V.callVn (pl := [0, 1, 2, 3, 4]) (σ' := [.inl (6, [.ref 1, .ref 2, .int M_savedMany, .ref 3, .int M_isTaken, .ref 4, .int M_length, .int M_thrown, .int M_spelt, .int M_speltMany, .int M_place, .int M_kind, .int M_one, .int M_two, .int M_three, .int M_begins, .int M_done, .int M_stopBy, .long M_hash]), .inr (406, .inl M_s), .inr (2436, .inl M_saved), .inr (406, .inl M_snapshot), .inr (60, .inl M_text)]) (st2 := [.int v2]) (cl2 := 0) (sl2 := 0) (ct_X11_canFasten (a1 := M_one) (a2 := M_two) (M_savedMany := M_savedMany) (M_isTaken := M_isTaken) (M_length := M_length) (M_thrown := M_thrown) (M_spelt := M_spelt) (M_speltMany := M_speltMany) (M_place := M_place) (M_kind := M_kind) (M_one := M_one) (M_two := M_two) (M_three := M_three) (M_begins := M_begins) (M_done := M_done) (M_stopBy := M_stopBy) (M_hash := M_hash) (M_s := M_s) (M_saved := M_saved) (M_snapshot := M_snapshot) (M_text := M_text) hv2) dX11_stopOfPart_152 w1216 ⟨w1218, w26⟩ cal_X11_canFasten rfl ⟨⟨Nat.le_of_ble_eq_true rfl, Nat.le_of_ble_eq_true rfl⟩, Nat.le_of_ble_eq_true rfl, Nat.le_of_ble_eq_true rfl⟩ (Nat.le_of_ble_eq_true rfl) (Or.inl ⟨_, _, _, _, rfl, rfl⟩) rfl ⟨rfl, ⟨by decide, by decide⟩, rfl, (fr_cons (Or.inl (Nat.le_of_ble_eq_true rfl)) (fr_cons (Or.inl (Nat.le_of_ble_eq_true rfl)) (fr_cons (Or.inl (Nat.le_of_ble_eq_true rfl)) (fr_cons (Or.inl (Nat.le_of_ble_eq_true rfl)) (fr_nil))))), rfl⟩ fr_i rfl rfl rfl rfl ?_
      refine V.if_eq (tgt := 162) dX11_stopOfPart_155 (by decide) (fun h => ?_) (fun h => ?_)
      · have hf := fif_t h hf
        refine V.iconst (v := 2) dX11_stopOfPart_162 rfl ?_
        obtain rfl := Option.some.inj hf
        exact V.iret dX11_stopOfPart_163 rfl (Nat.le_of_ble_eq_true rfl) (Nat.le_of_ble_eq_true rfl) rfl
      · have hf := fif_f h hf
        refine V.iconst (v := 0) dX11_stopOfPart_158 rfl ?_
        refine V.goto (tgt := 163) dX11_stopOfPart_159 (by decide) ?_
        obtain rfl := Option.some.inj hf
        exact V.iret dX11_stopOfPart_163 rfl (Nat.le_of_ble_eq_true rfl) (Nat.le_of_ble_eq_true rfl) rfl
    · have hf := fif_t h hf
      refine V.bipush (v := 6) dX11_stopOfPart_138 rfl ?_
      refine V.goto (tgt := 163) dX11_stopOfPart_140 (by decide) ?_
      obtain rfl := Option.some.inj hf
      exact V.iret dX11_stopOfPart_163 rfl (Nat.le_of_ble_eq_true rfl) (Nat.le_of_ble_eq_true rfl) rfl
  · have hf := fif_f h102 hf
    by_cases h103 : M_kind = 103
    · have hf := fif_t h103 hf
      refine V.cgi h103 (V.lookup (off := 82) (tgt := 86) dX11_stopOfPart_4 rfl rfl (by decide) ?_)
      refine V.aload_n (i := 0) dX11_stopOfPart_86 rfl rfl ?_
      refine V.aload_n (i := 0) dX11_stopOfPart_87 rfl rfl ?_
      refine V.getfield (kf := 12) (v := .int M_one) fl_RX11 dX11_stopOfPart_88 w1055 (Nat.le_of_ble_eq_true rfl) rfl rfl ?_
      refine V.aload_n (i := 0) dX11_stopOfPart_91 rfl rfl ?_
      refine V.getfield (kf := 13) (v := .int M_two) fl_RX11 dX11_stopOfPart_92 w1056 (Nat.le_of_ble_eq_true rfl) rfl rfl ?_
      obtain ⟨v3, hv3, hf⟩ := fbind hf
      refine V.callVn (pl := [0, 1, 2, 3, 4]) (σ' := [.inl (6, [.ref 1, .ref 2, .int M_savedMany, .ref 3, .int M_isTaken, .ref 4, .int M_length, .int M_thrown, .int M_spelt, .int M_speltMany, .int M_place, .int M_kind, .int M_one, .int M_two, .int M_three, .int M_begins, .int M_done, .int M_stopBy, .long M_hash]), .inr (406, .inl M_s), .inr (2436, .inl M_saved), .inr (406, .inl M_snapshot), .inr (60, .inl M_text)]) (st2 := [.int v3]) (cl2 := 0) (sl2 := 0) (ct_X11_isName (a1 := M_one) (a2 := M_two) (M_savedMany := M_savedMany) (M_isTaken := M_isTaken) (M_length := M_length) (M_thrown := M_thrown) (M_spelt := M_spelt) (M_speltMany := M_speltMany) (M_place := M_place) (M_kind := M_kind) (M_one := M_one) (M_two := M_two) (M_three := M_three) (M_begins := M_begins) (M_done := M_done) (M_stopBy := M_stopBy) (M_hash := M_hash) (M_s := M_s) (M_saved := M_saved) (M_snapshot := M_snapshot) (M_text := M_text) hv3) dX11_stopOfPart_95 w1204 ⟨w1206, w24⟩ cal_X11_isName rfl ⟨⟨Nat.le_of_ble_eq_true rfl, Nat.le_of_ble_eq_true rfl⟩, Nat.le_of_ble_eq_true rfl, Nat.le_of_ble_eq_true rfl⟩ (Nat.le_of_ble_eq_true rfl) (Or.inl ⟨_, _, _, _, rfl, rfl⟩) rfl ⟨rfl, ⟨by decide, by decide⟩, rfl, (fr_cons (Or.inl (Nat.le_of_ble_eq_true rfl)) (fr_cons (Or.inl (Nat.le_of_ble_eq_true rfl)) (fr_cons (Or.inl (Nat.le_of_ble_eq_true rfl)) (fr_cons (Or.inl (Nat.le_of_ble_eq_true rfl)) (fr_nil))))), rfl⟩ fr_i rfl rfl rfl rfl ?_
      refine V.if_eq (tgt := 120) dX11_stopOfPart_98 (by decide) (fun h => ?_) (fun h => ?_)
      · have hf := fif_t h hf
        refine V.bipush (v := 6) dX11_stopOfPart_120 rfl ?_
        obtain rfl := Option.some.inj hf
        exact V.iret dX11_stopOfPart_122 rfl (Nat.le_of_ble_eq_true rfl) (Nat.le_of_ble_eq_true rfl) rfl
      · have hf := fif_f h hf
        refine V.aload_n (i := 0) dX11_stopOfPart_101 rfl rfl ?_
        refine V.aload_n (i := 0) dX11_stopOfPart_102 rfl rfl ?_
        refine V.getfield (kf := 12) (v := .int M_one) fl_RX11 dX11_stopOfPart_103 w1055 (Nat.le_of_ble_eq_true rfl) rfl rfl ?_
        refine V.aload_n (i := 0) dX11_stopOfPart_106 rfl rfl ?_
        refine V.getfield (kf := 13) (v := .int M_two) fl_RX11 dX11_stopOfPart_107 w1056 (Nat.le_of_ble_eq_true rfl) rfl rfl ?_
        refine V.aload_n (i := 0) dX11_stopOfPart_110 rfl rfl ?_
        refine V.getfield (kf := 14) (v := .int M_three) fl_RX11 dX11_stopOfPart_111 w1057 (Nat.le_of_ble_eq_true rfl) rfl rfl ?_
        obtain ⟨v4, hv4, hf⟩ := fbind hf
        refine V.callVn (pl := [0, 1, 2, 3, 4]) (σ' := [.inl (6, [.ref 1, .ref 2, .int M_savedMany, .ref 3, .int M_isTaken, .ref 4, .int M_length, .int M_thrown, .int M_spelt, .int M_speltMany, .int M_place, .int M_kind, .int M_one, .int M_two, .int M_three, .int M_begins, .int M_done, .int M_stopBy, .long M_hash]), .inr (406, .inl M_s), .inr (2436, .inl M_saved), .inr (406, .inl M_snapshot), .inr (60, .inl M_text)]) (st2 := [.int v4]) (cl2 := 0) (sl2 := 0) (ct_X11_gift (a1 := M_one) (a2 := M_two) (a3 := M_three) (M_savedMany := M_savedMany) (M_isTaken := M_isTaken) (M_length := M_length) (M_thrown := M_thrown) (M_spelt := M_spelt) (M_speltMany := M_speltMany) (M_place := M_place) (M_kind := M_kind) (M_one := M_one) (M_two := M_two) (M_three := M_three) (M_begins := M_begins) (M_done := M_done) (M_stopBy := M_stopBy) (M_hash := M_hash) (M_s := M_s) (M_saved := M_saved) (M_snapshot := M_snapshot) (M_text := M_text) hv4) dX11_stopOfPart_114 w1232 ⟨w1234, w29⟩ cal_X11_gift rfl ⟨⟨Nat.le_of_ble_eq_true rfl, Nat.le_of_ble_eq_true rfl⟩, Nat.le_of_ble_eq_true rfl, Nat.le_of_ble_eq_true rfl⟩ (Nat.le_of_ble_eq_true rfl) (Or.inl ⟨_, _, _, _, rfl, rfl⟩) rfl ⟨rfl, ⟨by decide, by decide⟩, rfl, (fr_cons (Or.inl (Nat.le_of_ble_eq_true rfl)) (fr_cons (Or.inl (Nat.le_of_ble_eq_true rfl)) (fr_cons (Or.inl (Nat.le_of_ble_eq_true rfl)) (fr_cons (Or.inl (Nat.le_of_ble_eq_true rfl)) (fr_nil))))), rfl⟩ fr_i rfl rfl rfl rfl ?_
        refine V.goto (tgt := 122) dX11_stopOfPart_117 (by decide) ?_
        obtain rfl := Option.some.inj hf
        exact V.iret dX11_stopOfPart_122 rfl (Nat.le_of_ble_eq_true rfl) (Nat.le_of_ble_eq_true rfl) rfl
    · have hf := fif_f h103 hf
      by_cases h115 : M_kind = 115
      · have hf := fif_t h115 hf
        refine V.cgi h115 (V.lookup (off := 44) (tgt := 48) dX11_stopOfPart_4 rfl rfl (by decide) ?_)
        refine V.iconst (v := 0) dX11_stopOfPart_48 rfl ?_
        obtain rfl := Option.some.inj hf
        exact V.iret dX11_stopOfPart_49 rfl (Nat.le_of_ble_eq_true rfl) (Nat.le_of_ble_eq_true rfl) rfl
      · have hf := fif_f h115 hf
        by_cases h116 : M_kind = 116
        · have hf := fif_t h116 hf
          refine V.cgi h116 (V.lookup (off := 46) (tgt := 50) dX11_stopOfPart_4 rfl rfl (by decide) ?_)
          refine V.aload_n (i := 0) dX11_stopOfPart_50 rfl rfl ?_
          refine V.aload_n (i := 0) dX11_stopOfPart_51 rfl rfl ?_
          refine V.getfield (kf := 15) (v := .int M_begins) fl_RX11 dX11_stopOfPart_52 w1058 (Nat.le_of_ble_eq_true rfl) rfl rfl ?_
          refine V.aload_n (i := 0) dX11_stopOfPart_55 rfl rfl ?_
          refine V.getfield (kf := 10) (v := .int M_place) fl_RX11 dX11_stopOfPart_56 w1053 (Nat.le_of_ble_eq_true rfl) rfl rfl ?_
          obtain ⟨v5, hv5, hf⟩ := fbind hf
          refine V.callVn (pl := [0, 1, 2, 3, 4]) (σ' := [.inl (6, [.ref 1, .ref 2, .int M_savedMany, .ref 3, .int M_isTaken, .ref 4, .int M_length, .int M_thrown, .int v5.2.1, .int v5.2.2, .int M_place, .int M_kind, .int M_one, .int M_two, .int M_three, .int M_begins, .int M_done, .int M_stopBy, .long M_hash]), .inr (406, .inl M_s), .inr (2436, .inl M_saved), .inr (406, .inl M_snapshot), .inr (60, .inl M_text)]) (st2 := [.int v5.1]) (cl2 := 0) (sl2 := 0) (ct_X11_isSpelt (a1 := M_begins) (a2 := M_place) (M_savedMany := M_savedMany) (M_isTaken := M_isTaken) (M_length := M_length) (M_thrown := M_thrown) (M_spelt := M_spelt) (M_speltMany := M_speltMany) (M_place := M_place) (M_kind := M_kind) (M_one := M_one) (M_two := M_two) (M_three := M_three) (M_begins := M_begins) (M_done := M_done) (M_stopBy := M_stopBy) (M_hash := M_hash) (M_s := M_s) (M_saved := M_saved) (M_snapshot := M_snapshot) (M_text := M_text) hv5) dX11_stopOfPart_59 w1109 ⟨w1111, w8⟩ cal_X11_isSpelt rfl ⟨⟨Nat.le_of_ble_eq_true rfl, Nat.le_of_ble_eq_true rfl⟩, Nat.le_of_ble_eq_true rfl, Nat.le_of_ble_eq_true rfl⟩ (Nat.le_of_ble_eq_true rfl) (Or.inl ⟨_, _, _, _, rfl, rfl⟩) rfl ⟨rfl, ⟨by decide, by decide⟩, rfl, (fr_cons (Or.inl (Nat.le_of_ble_eq_true rfl)) (fr_cons (Or.inl (Nat.le_of_ble_eq_true rfl)) (fr_cons (Or.inl (Nat.le_of_ble_eq_true rfl)) (fr_cons (Or.inl (Nat.le_of_ble_eq_true rfl)) (fr_nil))))), rfl⟩ fr_i rfl rfl rfl rfl ?_
          refine V.if_eq (tgt := 84) dX11_stopOfPart_62 (by decide) (fun h => ?_) (fun h => ?_)
          · have hf := fif_t h hf
            refine V.iconst (v := 0) dX11_stopOfPart_84 rfl ?_
            obtain rfl := Option.some.inj hf
            exact V.iret dX11_stopOfPart_85 rfl (Nat.le_of_ble_eq_true rfl) (Nat.le_of_ble_eq_true rfl) rfl
          · have hf := fif_f h hf
            refine V.aload_n (i := 0) dX11_stopOfPart_65 rfl rfl ?_
            refine V.aload_n (i := 0) dX11_stopOfPart_66 rfl rfl ?_
            refine V.getfield (kf := 12) (v := .int M_one) fl_RX11 dX11_stopOfPart_67 w1055 (Nat.le_of_ble_eq_true rfl) rfl rfl ?_
            refine V.aload_n (i := 0) dX11_stopOfPart_70 rfl rfl ?_
            refine V.getfield (kf := 8) (v := .int v5.2.1) fl_RX11 dX11_stopOfPart_71 w1051 (Nat.le_of_ble_eq_true rfl) rfl rfl ?_
            refine V.aload_n (i := 0) dX11_stopOfPart_74 rfl rfl ?_
            refine V.getfield (kf := 9) (v := .int v5.2.2) fl_RX11 dX11_stopOfPart_75 w1052 (Nat.le_of_ble_eq_true rfl) rfl rfl ?_
            obtain ⟨v6, hv6, hf⟩ := fbind hf
            refine V.callVn (pl := [0, 1, 2, 3, 4]) (σ' := [.inl (6, [.ref 1, .ref 2, .int M_savedMany, .ref 3, .int M_isTaken, .ref 4, .int M_length, .int M_thrown, .int v5.2.1, .int v5.2.2, .int M_place, .int M_kind, .int M_one, .int M_two, .int M_three, .int M_begins, .int M_done, .int M_stopBy, .long M_hash]), .inr (406, .inl M_s), .inr (2436, .inl M_saved), .inr (406, .inl M_snapshot), .inr (60, .inl M_text)]) (st2 := [.int v6]) (cl2 := 0) (sl2 := 0) (ct_X11_reason (a1 := M_one) (a2 := v5.2.1) (a3 := v5.2.2) (M_savedMany := M_savedMany) (M_isTaken := M_isTaken) (M_length := M_length) (M_thrown := M_thrown) (M_spelt := v5.2.1) (M_speltMany := v5.2.2) (M_place := M_place) (M_kind := M_kind) (M_one := M_one) (M_two := M_two) (M_three := M_three) (M_begins := M_begins) (M_done := M_done) (M_stopBy := M_stopBy) (M_hash := M_hash) (M_s := M_s) (M_saved := M_saved) (M_snapshot := M_snapshot) (M_text := M_text) hv6) dX11_stopOfPart_78 w1119 ⟨w1121, w9⟩ cal_X11_reason rfl ⟨⟨Nat.le_of_ble_eq_true rfl, Nat.le_of_ble_eq_true rfl⟩, Nat.le_of_ble_eq_true rfl, Nat.le_of_ble_eq_true rfl⟩ (Nat.le_of_ble_eq_true rfl) (Or.inl ⟨_, _, _, _, rfl, rfl⟩) rfl ⟨rfl, ⟨by decide, by decide⟩, rfl, (fr_cons (Or.inl (Nat.le_of_ble_eq_true rfl)) (fr_cons (Or.inl (Nat.le_of_ble_eq_true rfl)) (fr_cons (Or.inl (Nat.le_of_ble_eq_true rfl)) (fr_cons (Or.inl (Nat.le_of_ble_eq_true rfl)) (fr_nil))))), rfl⟩ fr_i rfl rfl rfl rfl ?_
            refine V.goto (tgt := 85) dX11_stopOfPart_81 (by decide) ?_
            obtain rfl := Option.some.inj hf
            exact V.iret dX11_stopOfPart_85 rfl (Nat.le_of_ble_eq_true rfl) (Nat.le_of_ble_eq_true rfl) rfl
        · have hf := fif_f h116 hf
          refine V.lookup (off := 160) (tgt := 164) dX11_stopOfPart_4 rfl (by simp only [Array.toList]; rw [lv_osw h102 (by decide), lv_osw h103 (by decide), lv_osw h115 (by decide), lv_osw h116 (by decide)]; rfl) (by decide) ?_
          refine V.aload_n (i := 0) dX11_stopOfPart_164 rfl rfl ?_
          refine V.aload_n (i := 0) dX11_stopOfPart_165 rfl rfl ?_
          refine V.getfield (kf := 12) (v := .int M_one) fl_RX11 dX11_stopOfPart_166 w1055 (Nat.le_of_ble_eq_true rfl) rfl rfl ?_
          refine V.aload_n (i := 0) dX11_stopOfPart_169 rfl rfl ?_
          refine V.getfield (kf := 13) (v := .int M_two) fl_RX11 dX11_stopOfPart_170 w1056 (Nat.le_of_ble_eq_true rfl) rfl rfl ?_
          obtain ⟨v7, hv7, hf⟩ := fbind hf
          refine V.callVn (pl := [0, 1, 2, 3, 4]) (σ' := [.inl (6, [.ref 1, .ref 2, .int M_savedMany, .ref 3, .int M_isTaken, .ref 4, .int M_length, .int M_thrown, .int M_spelt, .int M_speltMany, .int M_place, .int M_kind, .int M_one, .int M_two, .int M_three, .int M_begins, .int M_done, .int M_stopBy, .long M_hash]), .inr (406, .inl M_s), .inr (2436, .inl M_saved), .inr (406, .inl M_snapshot), .inr (60, .inl M_text)]) (st2 := [.int v7]) (cl2 := 0) (sl2 := 0) (ct_X11_isName (a1 := M_one) (a2 := M_two) (M_savedMany := M_savedMany) (M_isTaken := M_isTaken) (M_length := M_length) (M_thrown := M_thrown) (M_spelt := M_spelt) (M_speltMany := M_speltMany) (M_place := M_place) (M_kind := M_kind) (M_one := M_one) (M_two := M_two) (M_three := M_three) (M_begins := M_begins) (M_done := M_done) (M_stopBy := M_stopBy) (M_hash := M_hash) (M_s := M_s) (M_saved := M_saved) (M_snapshot := M_snapshot) (M_text := M_text) hv7) dX11_stopOfPart_173 w1204 ⟨w1206, w24⟩ cal_X11_isName rfl ⟨⟨Nat.le_of_ble_eq_true rfl, Nat.le_of_ble_eq_true rfl⟩, Nat.le_of_ble_eq_true rfl, Nat.le_of_ble_eq_true rfl⟩ (Nat.le_of_ble_eq_true rfl) (Or.inl ⟨_, _, _, _, rfl, rfl⟩) rfl ⟨rfl, ⟨by decide, by decide⟩, rfl, (fr_cons (Or.inl (Nat.le_of_ble_eq_true rfl)) (fr_cons (Or.inl (Nat.le_of_ble_eq_true rfl)) (fr_cons (Or.inl (Nat.le_of_ble_eq_true rfl)) (fr_cons (Or.inl (Nat.le_of_ble_eq_true rfl)) (fr_nil))))), rfl⟩ fr_i rfl rfl rfl rfl ?_
          refine V.if_eq (tgt := 183) dX11_stopOfPart_176 (by decide) (fun h => ?_) (fun h => ?_)
          · have hf := fif_t h hf
            refine V.bipush (v := 6) dX11_stopOfPart_183 rfl ?_
            obtain rfl := Option.some.inj hf
            exact V.iret dX11_stopOfPart_185 rfl (Nat.le_of_ble_eq_true rfl) (Nat.le_of_ble_eq_true rfl) rfl
          · have hf := fif_f h hf
            refine V.iconst (v := 0) dX11_stopOfPart_179 rfl ?_
            refine V.goto (tgt := 185) dX11_stopOfPart_180 (by decide) ?_
            obtain rfl := Option.some.inj hf
            exact V.iret dX11_stopOfPart_185 rfl (Nat.le_of_ble_eq_true rfl) (Nat.le_of_ble_eq_true rfl) rfl
def k_X11_does : fK := (yX11_does, cX11_does, 1, (some .int), [], (7, 157), (0, 0), (0, 0))
theorem cal_X11_does : fCal k_X11_does 0 := ⟨⟨wc1318, w73⟩, ⟨by decide +kernel, by decide +kernel⟩, by decide +kernel, by decide +kernel⟩
def s_X11_does (M_spelt : Int32) (M_speltMany : Int32) (M_kind : Int32) (M_one : Int32) (M_two : Int32) (M_three : Int32) (M_s : Nat → Int32) : Option (Int32 × (Nat → Int32)) := if (M_kind = 102 : Prop) then ((s_X11_doFast M_one M_two M_s).bind fun v1 => some (v1.1, v1.2)) else (if (M_kind = 103 : Prop) then ((s_X11_doGive M_one M_two M_three M_s).bind fun v2 => some (v2.1, v2.2)) else (if (M_kind = 115 : Prop) then ((s_X11_doStorm M_one M_s).bind fun v3 => some (v3.1, v3.2)) else (if (M_kind = 116 : Prop) then ((s_X11_doTie M_one M_spelt M_speltMany M_s).bind fun v4 => some (v4.1, v4.2)) else ((s_X11_takeOff M_one M_two M_s).bind fun v5 => some (v5.1, v5.2)))))
set_option maxHeartbeats 4000000 in
set_option maxRecDepth 100000 in
theorem ct_X11_does {M_savedMany : Int32} {M_isTaken : Int32} {M_length : Int32} {M_thrown : Int32} {M_spelt : Int32} {M_speltMany : Int32} {M_place : Int32} {M_kind : Int32} {M_one : Int32} {M_two : Int32} {M_three : Int32} {M_begins : Int32} {M_done : Int32} {M_stopBy : Int32} {M_hash : Int64} {M_s : Nat → Int32} {M_saved : Nat → Int32} {M_snapshot : Nat → Int32} {M_text : Nat → Int32} {res : Int32 × (Nat → Int32)} (hf : s_X11_does M_spelt M_speltMany M_kind M_one M_two M_three M_s = some res) : Ct k_X11_does [.ref 0] [.inl (6, [.ref 1, .ref 2, .int M_savedMany, .ref 3, .int M_isTaken, .ref 4, .int M_length, .int M_thrown, .int M_spelt, .int M_speltMany, .int M_place, .int M_kind, .int M_one, .int M_two, .int M_three, .int M_begins, .int M_done, .int M_stopBy, .long M_hash]), .inr (406, .inl M_s), .inr (2436, .inl M_saved), .inr (406, .inl M_snapshot), .inr (60, .inl M_text)] (.inl (some (.int res.1))) [.inl (6, [.ref 1, .ref 2, .int M_savedMany, .ref 3, .int M_isTaken, .ref 4, .int M_length, .int M_thrown, .int M_spelt, .int M_speltMany, .int M_place, .int M_kind, .int M_one, .int M_two, .int M_three, .int M_begins, .int M_done, .int M_stopBy, .long M_hash]), .inr (406, .inl res.2), .inr (2436, .inl M_saved), .inr (406, .inl M_snapshot), .inr (60, .inl M_text)] := by
  unfold s_X11_does at hf
  refine Ct.of (L := [some (.ref 0)]) cal_X11_does (fent_pad (j := 0) rfl) (Nat.le_of_ble_eq_true rfl) ?_
  refine V.aload_n (i := 0) dX11_does_0 rfl rfl ?_
  refine V.getfield (kf := 11) (v := .int M_kind) fl_RX11 dX11_does_1 w1054 (Nat.le_of_ble_eq_true rfl) rfl rfl ?_
  by_cases h102 : M_kind = 102
  · have hf := fif_t h102 hf
    refine V.cgi h102 (V.lookup (off := 87) (tgt := 91) dX11_does_4 rfl rfl (by decide) ?_)
    refine V.aload_n (i := 0) dX11_does_91 rfl rfl ?_
    refine V.aload_n (i := 0) dX11_does_92 rfl rfl ?_
    refine V.getfield (kf := 12) (v := .int M_one) fl_RX11 dX11_does_93 w1055 (Nat.le_of_ble_eq_true rfl) rfl rfl ?_
    refine V.aload_n (i := 0) dX11_does_96 rfl rfl ?_
    refine V.getfield (kf := 13) (v := .int M_two) fl_RX11 dX11_does_97 w1056 (Nat.le_of_ble_eq_true rfl) rfl rfl ?_
    obtain ⟨v1, hv1, hf⟩ := fbind hf
    refine V.callVn (pl := [0, 1, 2, 3, 4]) (σ' := [.inl (6, [.ref 1, .ref 2, .int M_savedMany, .ref 3, .int M_isTaken, .ref 4, .int M_length, .int M_thrown, .int M_spelt, .int M_speltMany, .int M_place, .int M_kind, .int M_one, .int M_two, .int M_three, .int M_begins, .int M_done, .int M_stopBy, .long M_hash]), .inr (406, .inl v1.2), .inr (2436, .inl M_saved), .inr (406, .inl M_snapshot), .inr (60, .inl M_text)]) (st2 := [.int v1.1]) (cl2 := 0) (sl2 := 0) (ct_X11_doFast (a1 := M_one) (a2 := M_two) (M_savedMany := M_savedMany) (M_isTaken := M_isTaken) (M_length := M_length) (M_thrown := M_thrown) (M_spelt := M_spelt) (M_speltMany := M_speltMany) (M_place := M_place) (M_kind := M_kind) (M_one := M_one) (M_two := M_two) (M_three := M_three) (M_begins := M_begins) (M_done := M_done) (M_stopBy := M_stopBy) (M_hash := M_hash) (M_s := M_s) (M_saved := M_saved) (M_snapshot := M_snapshot) (M_text := M_text) hv1) dX11_does_100 w1220 ⟨w1222, w27⟩ cal_X11_doFast rfl ⟨⟨Nat.le_of_ble_eq_true rfl, Nat.le_of_ble_eq_true rfl⟩, Nat.le_of_ble_eq_true rfl, Nat.le_of_ble_eq_true rfl⟩ (Nat.le_of_ble_eq_true rfl) (Or.inl ⟨_, _, _, _, rfl, rfl⟩) rfl ⟨rfl, ⟨by decide, by decide⟩, rfl, (fr_cons (Or.inl (Nat.le_of_ble_eq_true rfl)) (fr_cons (Or.inl (Nat.le_of_ble_eq_true rfl)) (fr_cons (Or.inl (Nat.le_of_ble_eq_true rfl)) (fr_cons (Or.inl (Nat.le_of_ble_eq_true rfl)) (fr_nil))))), rfl⟩ fr_i rfl rfl rfl rfl ?_
    obtain rfl := Option.some.inj hf
    exact V.iret dX11_does_103 rfl (Nat.le_of_ble_eq_true rfl) (Nat.le_of_ble_eq_true rfl) rfl
  · have hf := fif_f h102 hf
    by_cases h103 : M_kind = 103
    · have hf := fif_t h103 hf
      refine V.cgi h103 (V.lookup (off := 70) (tgt := 74) dX11_does_4 rfl rfl (by decide) ?_)
      refine V.aload_n (i := 0) dX11_does_74 rfl rfl ?_
      refine V.aload_n (i := 0) dX11_does_75 rfl rfl ?_
      refine V.getfield (kf := 12) (v := .int M_one) fl_RX11 dX11_does_76 w1055 (Nat.le_of_ble_eq_true rfl) rfl rfl ?_
      refine V.aload_n (i := 0) dX11_does_79 rfl rfl ?_
      refine V.getfield (kf := 13) (v := .int M_two) fl_RX11 dX11_does_80 w1056 (Nat.le_of_ble_eq_true rfl) rfl rfl ?_
      refine V.aload_n (i := 0) dX11_does_83 rfl rfl ?_
      refine V.getfield (kf := 14) (v := .int M_three) fl_RX11 dX11_does_84 w1057 (Nat.le_of_ble_eq_true rfl) rfl rfl ?_
      obtain ⟨v2, hv2, hf⟩ := fbind hf
      refine V.callVn (pl := [0, 1, 2, 3, 4]) (σ' := [.inl (6, [.ref 1, .ref 2, .int M_savedMany, .ref 3, .int M_isTaken, .ref 4, .int M_length, .int M_thrown, .int M_spelt, .int M_speltMany, .int M_place, .int M_kind, .int M_one, .int M_two, .int M_three, .int M_begins, .int M_done, .int M_stopBy, .long M_hash]), .inr (406, .inl v2.2), .inr (2436, .inl M_saved), .inr (406, .inl M_snapshot), .inr (60, .inl M_text)]) (st2 := [.int v2.1]) (cl2 := 0) (sl2 := 0) (ct_X11_doGive (a1 := M_one) (a2 := M_two) (a3 := M_three) (M_savedMany := M_savedMany) (M_isTaken := M_isTaken) (M_length := M_length) (M_thrown := M_thrown) (M_spelt := M_spelt) (M_speltMany := M_speltMany) (M_place := M_place) (M_kind := M_kind) (M_one := M_one) (M_two := M_two) (M_three := M_three) (M_begins := M_begins) (M_done := M_done) (M_stopBy := M_stopBy) (M_hash := M_hash) (M_s := M_s) (M_saved := M_saved) (M_snapshot := M_snapshot) (M_text := M_text) hv2) dX11_does_87 w1236 ⟨w1238, w30⟩ cal_X11_doGive rfl ⟨⟨Nat.le_of_ble_eq_true rfl, Nat.le_of_ble_eq_true rfl⟩, Nat.le_of_ble_eq_true rfl, Nat.le_of_ble_eq_true rfl⟩ (Nat.le_of_ble_eq_true rfl) (Or.inl ⟨_, _, _, _, rfl, rfl⟩) rfl ⟨rfl, ⟨by decide, by decide⟩, rfl, (fr_cons (Or.inl (Nat.le_of_ble_eq_true rfl)) (fr_cons (Or.inl (Nat.le_of_ble_eq_true rfl)) (fr_cons (Or.inl (Nat.le_of_ble_eq_true rfl)) (fr_cons (Or.inl (Nat.le_of_ble_eq_true rfl)) (fr_nil))))), rfl⟩ fr_i rfl rfl rfl rfl ?_
      obtain rfl := Option.some.inj hf
      exact V.iret dX11_does_90 rfl (Nat.le_of_ble_eq_true rfl) (Nat.le_of_ble_eq_true rfl) rfl
    · have hf := fif_f h103 hf
      by_cases h115 : M_kind = 115
      · have hf := fif_t h115 hf
        refine V.cgi h115 (V.lookup (off := 44) (tgt := 48) dX11_does_4 rfl rfl (by decide) ?_)
        refine V.aload_n (i := 0) dX11_does_48 rfl rfl ?_
        refine V.aload_n (i := 0) dX11_does_49 rfl rfl ?_
        refine V.getfield (kf := 12) (v := .int M_one) fl_RX11 dX11_does_50 w1055 (Nat.le_of_ble_eq_true rfl) rfl rfl ?_
        obtain ⟨v3, hv3, hf⟩ := fbind hf
        refine V.callVn (pl := [0, 1, 2, 3, 4]) (σ' := [.inl (6, [.ref 1, .ref 2, .int M_savedMany, .ref 3, .int M_isTaken, .ref 4, .int M_length, .int M_thrown, .int M_spelt, .int M_speltMany, .int M_place, .int M_kind, .int M_one, .int M_two, .int M_three, .int M_begins, .int M_done, .int M_stopBy, .long M_hash]), .inr (406, .inl v3.2), .inr (2436, .inl M_saved), .inr (406, .inl M_snapshot), .inr (60, .inl M_text)]) (st2 := [.int v3.1]) (cl2 := 0) (sl2 := 0) (ct_X11_doStorm (a1 := M_one) (M_savedMany := M_savedMany) (M_isTaken := M_isTaken) (M_length := M_length) (M_thrown := M_thrown) (M_spelt := M_spelt) (M_speltMany := M_speltMany) (M_place := M_place) (M_kind := M_kind) (M_one := M_one) (M_two := M_two) (M_three := M_three) (M_begins := M_begins) (M_done := M_done) (M_stopBy := M_stopBy) (M_hash := M_hash) (M_s := M_s) (M_saved := M_saved) (M_snapshot := M_snapshot) (M_text := M_text) hv3) dX11_does_53 w1244 ⟨w1246, w31⟩ cal_X11_doStorm rfl ⟨⟨Nat.le_of_ble_eq_true rfl, Nat.le_of_ble_eq_true rfl⟩, Nat.le_of_ble_eq_true rfl, Nat.le_of_ble_eq_true rfl⟩ (Nat.le_of_ble_eq_true rfl) (Or.inl ⟨_, _, _, _, rfl, rfl⟩) rfl ⟨rfl, ⟨by decide, by decide⟩, rfl, (fr_cons (Or.inl (Nat.le_of_ble_eq_true rfl)) (fr_cons (Or.inl (Nat.le_of_ble_eq_true rfl)) (fr_cons (Or.inl (Nat.le_of_ble_eq_true rfl)) (fr_cons (Or.inl (Nat.le_of_ble_eq_true rfl)) (fr_nil))))), rfl⟩ fr_i rfl rfl rfl rfl ?_
        obtain rfl := Option.some.inj hf
        exact V.iret dX11_does_56 rfl (Nat.le_of_ble_eq_true rfl) (Nat.le_of_ble_eq_true rfl) rfl
      · have hf := fif_f h115 hf
        by_cases h116 : M_kind = 116
        · have hf := fif_t h116 hf
          refine V.cgi h116 (V.lookup (off := 53) (tgt := 57) dX11_does_4 rfl rfl (by decide) ?_)
          refine V.aload_n (i := 0) dX11_does_57 rfl rfl ?_
          refine V.aload_n (i := 0) dX11_does_58 rfl rfl ?_
          refine V.getfield (kf := 12) (v := .int M_one) fl_RX11 dX11_does_59 w1055 (Nat.le_of_ble_eq_true rfl) rfl rfl ?_
          refine V.aload_n (i := 0) dX11_does_62 rfl rfl ?_
          refine V.getfield (kf := 8) (v := .int M_spelt) fl_RX11 dX11_does_63 w1051 (Nat.le_of_ble_eq_true rfl) rfl rfl ?_
          refine V.aload_n (i := 0) dX11_does_66 rfl rfl ?_
          refine V.getfield (kf := 9) (v := .int M_speltMany) fl_RX11 dX11_does_67 w1052 (Nat.le_of_ble_eq_true rfl) rfl rfl ?_
          obtain ⟨v4, hv4, hf⟩ := fbind hf
          refine V.callVn (pl := [0, 1, 2, 3, 4]) (σ' := [.inl (6, [.ref 1, .ref 2, .int M_savedMany, .ref 3, .int M_isTaken, .ref 4, .int M_length, .int M_thrown, .int M_spelt, .int M_speltMany, .int M_place, .int M_kind, .int M_one, .int M_two, .int M_three, .int M_begins, .int M_done, .int M_stopBy, .long M_hash]), .inr (406, .inl v4.2), .inr (2436, .inl M_saved), .inr (406, .inl M_snapshot), .inr (60, .inl M_text)]) (st2 := [.int v4.1]) (cl2 := 0) (sl2 := 0) (ct_X11_doTie (a1 := M_one) (a2 := M_spelt) (a3 := M_speltMany) (M_savedMany := M_savedMany) (M_isTaken := M_isTaken) (M_length := M_length) (M_thrown := M_thrown) (M_spelt := M_spelt) (M_speltMany := M_speltMany) (M_place := M_place) (M_kind := M_kind) (M_one := M_one) (M_two := M_two) (M_three := M_three) (M_begins := M_begins) (M_done := M_done) (M_stopBy := M_stopBy) (M_hash := M_hash) (M_s := M_s) (M_saved := M_saved) (M_snapshot := M_snapshot) (M_text := M_text) hv4) dX11_does_70 w1192 ⟨w1194, w22⟩ cal_X11_doTie rfl ⟨⟨Nat.le_of_ble_eq_true rfl, Nat.le_of_ble_eq_true rfl⟩, Nat.le_of_ble_eq_true rfl, Nat.le_of_ble_eq_true rfl⟩ (Nat.le_of_ble_eq_true rfl) (Or.inl ⟨_, _, _, _, rfl, rfl⟩) rfl ⟨rfl, ⟨by decide, by decide⟩, rfl, (fr_cons (Or.inl (Nat.le_of_ble_eq_true rfl)) (fr_cons (Or.inl (Nat.le_of_ble_eq_true rfl)) (fr_cons (Or.inl (Nat.le_of_ble_eq_true rfl)) (fr_cons (Or.inl (Nat.le_of_ble_eq_true rfl)) (fr_nil))))), rfl⟩ fr_i rfl rfl rfl rfl ?_
          obtain rfl := Option.some.inj hf
          exact V.iret dX11_does_73 rfl (Nat.le_of_ble_eq_true rfl) (Nat.le_of_ble_eq_true rfl) rfl
        · have hf := fif_f h116 hf
          refine V.lookup (off := 100) (tgt := 104) dX11_does_4 rfl (by simp only [Array.toList]; rw [lv_osw h102 (by decide), lv_osw h103 (by decide), lv_osw h115 (by decide), lv_osw h116 (by decide)]; rfl) (by decide) ?_
          refine V.aload_n (i := 0) dX11_does_104 rfl rfl ?_
          refine V.aload_n (i := 0) dX11_does_105 rfl rfl ?_
          refine V.getfield (kf := 12) (v := .int M_one) fl_RX11 dX11_does_106 w1055 (Nat.le_of_ble_eq_true rfl) rfl rfl ?_
          refine V.aload_n (i := 0) dX11_does_109 rfl rfl ?_
          refine V.getfield (kf := 13) (v := .int M_two) fl_RX11 dX11_does_110 w1056 (Nat.le_of_ble_eq_true rfl) rfl rfl ?_
          obtain ⟨v5, hv5, hf⟩ := fbind hf
          refine V.callVn (pl := [0, 1, 2, 3, 4]) (σ' := [.inl (6, [.ref 1, .ref 2, .int M_savedMany, .ref 3, .int M_isTaken, .ref 4, .int M_length, .int M_thrown, .int M_spelt, .int M_speltMany, .int M_place, .int M_kind, .int M_one, .int M_two, .int M_three, .int M_begins, .int M_done, .int M_stopBy, .long M_hash]), .inr (406, .inl v5.2), .inr (2436, .inl M_saved), .inr (406, .inl M_snapshot), .inr (60, .inl M_text)]) (st2 := [.int v5.1]) (cl2 := 0) (sl2 := 0) (ct_X11_takeOff (a1 := M_one) (a2 := M_two) (M_savedMany := M_savedMany) (M_isTaken := M_isTaken) (M_length := M_length) (M_thrown := M_thrown) (M_spelt := M_spelt) (M_speltMany := M_speltMany) (M_place := M_place) (M_kind := M_kind) (M_one := M_one) (M_two := M_two) (M_three := M_three) (M_begins := M_begins) (M_done := M_done) (M_stopBy := M_stopBy) (M_hash := M_hash) (M_s := M_s) (M_saved := M_saved) (M_snapshot := M_snapshot) (M_text := M_text) hv5) dX11_does_113 w1208 ⟨w1210, w25⟩ cal_X11_takeOff rfl ⟨⟨Nat.le_of_ble_eq_true rfl, Nat.le_of_ble_eq_true rfl⟩, Nat.le_of_ble_eq_true rfl, Nat.le_of_ble_eq_true rfl⟩ (Nat.le_of_ble_eq_true rfl) (Or.inl ⟨_, _, _, _, rfl, rfl⟩) rfl ⟨rfl, ⟨by decide, by decide⟩, rfl, (fr_cons (Or.inl (Nat.le_of_ble_eq_true rfl)) (fr_cons (Or.inl (Nat.le_of_ble_eq_true rfl)) (fr_cons (Or.inl (Nat.le_of_ble_eq_true rfl)) (fr_cons (Or.inl (Nat.le_of_ble_eq_true rfl)) (fr_nil))))), rfl⟩ fr_i rfl rfl rfl rfl ?_
          obtain rfl := Option.some.inj hf
          exact V.iret dX11_does_116 rfl (Nat.le_of_ble_eq_true rfl) (Nat.le_of_ble_eq_true rfl) rfl
def k_X11_readText : fK := (yX11_readText, cX11_readText, 3, (some .boolean), [], (9, 196), (0, 0), (0, 0))
theorem cal_X11_readText : fCal k_X11_readText 1 := ⟨⟨wc1286, w73⟩, ⟨by decide +kernel, by decide +kernel⟩, by decide +kernel, by decide +kernel⟩
def s_X11_readText_L20 (p1 : Int32) (M_length : Int32) (M_text : Nat → Int32) : Nat → Int32 → (Int32) → (Int32) → (Int32) → (Int32) → (Int32) → (Int32) → (Int32) → (Int32) → (Int32) → (Int32) → (Nat → Int32) → Option ((Int32 × (Int32) × (Int32) × (Int32) × (Int32) × (Int32) × (Int32) × (Int32) × (Int32) × (Int32) × (Int32) × (Nat → Int32)) ⊕ (Int32 × (Int32) × (Int32) × (Int32) × (Int32) × (Int32) × (Int32) × (Int32) × (Int32) × (Int32) × (Int32) × (Nat → Int32)))
  | 0, _, _, _, _, _, _, _, _, _, _, _, _ => none
  | n + 1, x2, M_spelt, M_speltMany, M_place, M_kind, M_one, M_two, M_three, M_begins, M_done, M_stopBy, M_s => if (x2 = 0 : Prop) then (some (.inr (x2, M_spelt, M_speltMany, M_place, M_kind, M_one, M_two, M_three, M_begins, M_done, M_stopBy, M_s))) else (if (p1 = 0 : Prop) then (if (M_place = M_length : Prop) then (some (.inl (1, M_spelt, M_speltMany, M_place, M_kind, M_one, M_two, M_three, M_begins, (M_done + 1), M_stopBy, M_s))) else ((s_X11_takes 59 M_length M_place M_text).bind fun v2 => if (v2.1 = 0 : Prop) then (s_X11_readText_L20 p1 M_length M_text n 0 M_spelt M_speltMany v2.2 M_kind M_one M_two M_three M_begins (M_done + 1) M_stopBy M_s) else ((s_X11_readPart M_length v2.2 M_kind M_one M_two M_three M_begins M_text).bind fun v3 => if (v3.1 = 0 : Prop) then (s_X11_readText_L20 p1 M_length M_text n 0 M_spelt M_speltMany v3.2.1 v3.2.2.1 v3.2.2.2.1 v3.2.2.2.2.1 v3.2.2.2.2.2.1 v3.2.2.2.2.2.2 (M_done + 1) M_stopBy M_s) else (s_X11_readText_L20 p1 M_length M_text n 1 M_spelt M_speltMany v3.2.1 v3.2.2.1 v3.2.2.2.1 v3.2.2.2.2.1 v3.2.2.2.2.2.1 v3.2.2.2.2.2.2 (M_done + 1) M_stopBy M_s)))) else ((s_X11_stopOfPart M_spelt M_speltMany M_place M_kind M_one M_two M_three M_begins M_s M_text).bind fun v4 => if (v4.1 ≤ 0 : Prop) then ((s_X11_does v4.2.1 v4.2.2 M_kind M_one M_two M_three M_s).bind fun v5 => if (M_place = M_length : Prop) then (some (.inl (1, v4.2.1, v4.2.2, M_place, M_kind, M_one, M_two, M_three, M_begins, (M_done + 1), v4.1, v5.2))) else ((s_X11_takes 59 M_length M_place M_text).bind fun v6 => if (v6.1 = 0 : Prop) then (s_X11_readText_L20 p1 M_length M_text n 0 v4.2.1 v4.2.2 v6.2 M_kind M_one M_two M_three M_begins (M_done + 1) v4.1 v5.2) else ((s_X11_readPart M_length v6.2 M_kind M_one M_two M_three M_begins M_text).bind fun v7 => if (v7.1 = 0 : Prop) then (s_X11_readText_L20 p1 M_length M_text n 0 v4.2.1 v4.2.2 v7.2.1 v7.2.2.1 v7.2.2.2.1 v7.2.2.2.2.1 v7.2.2.2.2.2.1 v7.2.2.2.2.2.2 (M_done + 1) v4.1 v5.2) else (s_X11_readText_L20 p1 M_length M_text n 1 v4.2.1 v4.2.2 v7.2.1 v7.2.2.1 v7.2.2.2.1 v7.2.2.2.2.1 v7.2.2.2.2.2.1 v7.2.2.2.2.2.2 (M_done + 1) v4.1 v5.2)))) else (some (.inl (1, v4.2.1, v4.2.2, M_place, M_kind, M_one, M_two, M_three, M_begins, M_done, v4.1, M_s)))))
set_option maxHeartbeats 4000000 in
set_option maxRecDepth 100000 in
theorem v_X11_readText_L20 {out : fO} {σ' : List fE} {p1 : Int32} {M_savedMany : Int32} {M_isTaken : Int32} {M_length : Int32} {M_thrown : Int32} {M_hash : Int64} {M_saved : Nat → Int32} {M_snapshot : Nat → Int32} {M_text : Nat → Int32} : ∀ (n : Nat) {x2 : Int32} {M_spelt : (Int32)} {M_speltMany : (Int32)} {M_place : (Int32)} {M_kind : (Int32)} {M_one : (Int32)} {M_two : (Int32)} {M_three : (Int32)} {M_begins : (Int32)} {M_done : (Int32)} {M_stopBy : (Int32)} {M_s : (Nat → Int32)} {res : (Int32 × (Int32) × (Int32) × (Int32) × (Int32) × (Int32) × (Int32) × (Int32) × (Int32) × (Int32) × (Int32) × (Nat → Int32)) ⊕ (Int32 × (Int32) × (Int32) × (Int32) × (Int32) × (Int32) × (Int32) × (Int32) × (Int32) × (Int32) × (Int32) × (Nat → Int32))} (hf : s_X11_readText_L20 p1 M_length M_text n x2 M_spelt M_speltMany M_place M_kind M_one M_two M_three M_begins M_done M_stopBy M_s = some res) (hr : ∀ r, res = .inl r → out = (.inl (some (.int r.1))) ∧ σ' = [.inl (6, [.ref 1, .ref 2, .int M_savedMany, .ref 3, .int M_isTaken, .ref 4, .int M_length, .int M_thrown, .int r.2.1, .int r.2.2.1, .int r.2.2.2.1, .int r.2.2.2.2.1, .int r.2.2.2.2.2.1, .int r.2.2.2.2.2.2.1, .int r.2.2.2.2.2.2.2.1, .int r.2.2.2.2.2.2.2.2.1, .int r.2.2.2.2.2.2.2.2.2.1, .int r.2.2.2.2.2.2.2.2.2.2.1, .long M_hash]), .inr (406, .inl r.2.2.2.2.2.2.2.2.2.2.2), .inr (2436, .inl M_saved), .inr (406, .inl M_snapshot), .inr (60, .inl M_text)]) (hx : ∀ e, res = .inr e → V (fXm 5 k_X11_readText out σ') (krm k_X11_readText) k_X11_readText 5 98 [some (.ref 0), some (.int p1), some (.int e.1)] [] [.inl (6, [.ref 1, .ref 2, .int M_savedMany, .ref 3, .int M_isTaken, .ref 4, .int M_length, .int M_thrown, .int e.2.1, .int e.2.2.1, .int e.2.2.2.1, .int e.2.2.2.2.1, .int e.2.2.2.2.2.1, .int e.2.2.2.2.2.2.1, .int e.2.2.2.2.2.2.2.1, .int e.2.2.2.2.2.2.2.2.1, .int e.2.2.2.2.2.2.2.2.2.1, .int e.2.2.2.2.2.2.2.2.2.2.1, .long M_hash]), .inr (406, .inl e.2.2.2.2.2.2.2.2.2.2.2), .inr (2436, .inl M_saved), .inr (406, .inl M_snapshot), .inr (60, .inl M_text)] 0 0), V (fXm 5 k_X11_readText out σ') (krm k_X11_readText) k_X11_readText 5 20 [some (.ref 0), some (.int p1), some (.int x2)] [] [.inl (6, [.ref 1, .ref 2, .int M_savedMany, .ref 3, .int M_isTaken, .ref 4, .int M_length, .int M_thrown, .int M_spelt, .int M_speltMany, .int M_place, .int M_kind, .int M_one, .int M_two, .int M_three, .int M_begins, .int M_done, .int M_stopBy, .long M_hash]), .inr (406, .inl M_s), .inr (2436, .inl M_saved), .inr (406, .inl M_snapshot), .inr (60, .inl M_text)] 0 0 := by
  intro n
  induction n with
  | zero =>
    intro x2 M_spelt M_speltMany M_place M_kind M_one M_two M_three M_begins M_done M_stopBy M_s res hf hr hx
    rw [s_X11_readText_L20] at hf
    cases hf
  | succ n ih =>
    intro x2 M_spelt M_speltMany M_place M_kind M_one M_two M_three M_begins M_done M_stopBy M_s res hf hr hx
    rw [s_X11_readText_L20] at hf
    refine V.iload_n (i := 2) dX11_readText_20 rfl rfl ?_
    refine V.if_eq (tgt := 98) dX11_readText_21 (by decide) (fun h => ?_) (fun h => ?_)
    · have hf := fif_t h hf
      obtain rfl := Option.some.inj hf
      exact hx _ rfl
    · have hf := fif_f h hf
      refine V.iload_n (i := 1) dX11_readText_24 rfl rfl ?_
      refine V.if_eq (tgt := 50) dX11_readText_25 (by decide) (fun h => ?_) (fun h => ?_)
      · have hf := fif_t h hf
        refine V.aload_n (i := 0) dX11_readText_50 rfl rfl ?_
        refine V.dup dX11_readText_51 rfl ?_
        refine V.getfield (kf := 16) (v := .int M_done) fl_RX11 dX11_readText_52 w1059 (Nat.le_of_ble_eq_true rfl) rfl rfl ?_
        refine V.iconst (v := 1) dX11_readText_55 rfl ?_
        refine V.iadd dX11_readText_56 ?_
        refine V.putfield (ty := tyX11) (kf := 16) (σ' := [.inl (6, [.ref 1, .ref 2, .int M_savedMany, .ref 3, .int M_isTaken, .ref 4, .int M_length, .int M_thrown, .int M_spelt, .int M_speltMany, .int M_place, .int M_kind, .int M_one, .int M_two, .int M_three, .int M_begins, .int (M_done + 1), .int M_stopBy, .long M_hash]), .inr (406, .inl M_s), .inr (2436, .inl M_saved), .inr (406, .inl M_snapshot), .inr (60, .inl M_text)]) fl_RX11 dX11_readText_57 w1059 (Nat.le_of_ble_eq_true rfl) rfl (fun _ => ⟨rfl, rfl⟩) rfl (Nat.le_of_ble_eq_true rfl) rfl ?_
        refine V.aload_n (i := 0) dX11_readText_60 rfl rfl ?_
        refine V.getfield (kf := 10) (v := .int M_place) fl_RX11 dX11_readText_61 w1053 (Nat.le_of_ble_eq_true rfl) rfl rfl ?_
        refine V.aload_n (i := 0) dX11_readText_64 rfl rfl ?_
        refine V.getfield (kf := 6) (v := .int M_length) fl_RX11 dX11_readText_65 w1049 (Nat.le_of_ble_eq_true rfl) rfl rfl ?_
        refine V.icmp_ne (tgt := 73) dX11_readText_68 (by decide) (fun h => ?_) (fun h => ?_)
        · have hf := fif_f h hf
          refine V.aload_n (i := 0) dX11_readText_73 rfl rfl ?_
          refine V.bipush (v := 59) dX11_readText_74 rfl ?_
          obtain ⟨v2, hv2, hf⟩ := fbind hf
          refine V.callVn (pl := [0, 1, 2, 3, 4]) (σ' := [.inl (6, [.ref 1, .ref 2, .int M_savedMany, .ref 3, .int M_isTaken, .ref 4, .int M_length, .int M_thrown, .int M_spelt, .int M_speltMany, .int v2.2, .int M_kind, .int M_one, .int M_two, .int M_three, .int M_begins, .int (M_done + 1), .int M_stopBy, .long M_hash]), .inr (406, .inl M_s), .inr (2436, .inl M_saved), .inr (406, .inl M_snapshot), .inr (60, .inl M_text)]) (st2 := [.int v2.1]) (cl2 := 0) (sl2 := 0) (ct_X11_takes (a1 := 59) (M_savedMany := M_savedMany) (M_isTaken := M_isTaken) (M_length := M_length) (M_thrown := M_thrown) (M_spelt := M_spelt) (M_speltMany := M_speltMany) (M_place := M_place) (M_kind := M_kind) (M_one := M_one) (M_two := M_two) (M_three := M_three) (M_begins := M_begins) (M_done := (M_done + 1)) (M_stopBy := M_stopBy) (M_hash := M_hash) (M_s := M_s) (M_saved := M_saved) (M_snapshot := M_snapshot) (M_text := M_text) hv2) dX11_readText_76 w1295 ⟨w1297, w38⟩ cal_X11_takes rfl ⟨⟨Nat.le_of_ble_eq_true rfl, Nat.le_of_ble_eq_true rfl⟩, Nat.le_of_ble_eq_true rfl, Nat.le_of_ble_eq_true rfl⟩ (Nat.le_of_ble_eq_true rfl) (Or.inl ⟨_, _, _, _, rfl, rfl⟩) rfl ⟨rfl, ⟨by decide, by decide⟩, rfl, (fr_cons (Or.inl (Nat.le_of_ble_eq_true rfl)) (fr_cons (Or.inl (Nat.le_of_ble_eq_true rfl)) (fr_cons (Or.inl (Nat.le_of_ble_eq_true rfl)) (fr_cons (Or.inl (Nat.le_of_ble_eq_true rfl)) (fr_nil))))), rfl⟩ fr_i rfl rfl rfl rfl ?_
          refine V.if_eq (tgt := 93) dX11_readText_79 (by decide) (fun h => ?_) (fun h => ?_)
          · have hf := fif_t h hf
            refine V.iconst (v := 0) dX11_readText_93 rfl ?_
            refine V.istore_n (i := 2) (L' := [some (.ref 0), some (.int p1), some (.int 0)]) dX11_readText_94 rfl (Nat.le_of_ble_eq_true rfl) rfl rfl ?_
            refine V.goto (tgt := 20) dX11_readText_95 (by decide) ?_
            exact ih hf hr hx
          · have hf := fif_f h hf
            refine V.aload_n (i := 0) dX11_readText_82 rfl rfl ?_
            obtain ⟨v3, hv3, hf⟩ := fbind hf
            refine V.callVn (pl := [0, 1, 2, 3, 4]) (σ' := [.inl (6, [.ref 1, .ref 2, .int M_savedMany, .ref 3, .int M_isTaken, .ref 4, .int M_length, .int M_thrown, .int M_spelt, .int M_speltMany, .int v3.2.1, .int v3.2.2.1, .int v3.2.2.2.1, .int v3.2.2.2.2.1, .int v3.2.2.2.2.2.1, .int v3.2.2.2.2.2.2, .int (M_done + 1), .int M_stopBy, .long M_hash]), .inr (406, .inl M_s), .inr (2436, .inl M_saved), .inr (406, .inl M_snapshot), .inr (60, .inl M_text)]) (st2 := [.int v3.1]) (cl2 := 0) (sl2 := 0) (ct_X11_readPart (M_savedMany := M_savedMany) (M_isTaken := M_isTaken) (M_length := M_length) (M_thrown := M_thrown) (M_spelt := M_spelt) (M_speltMany := M_speltMany) (M_place := v2.2) (M_kind := M_kind) (M_one := M_one) (M_two := M_two) (M_three := M_three) (M_begins := M_begins) (M_done := (M_done + 1)) (M_stopBy := M_stopBy) (M_hash := M_hash) (M_s := M_s) (M_saved := M_saved) (M_snapshot := M_snapshot) (M_text := M_text) hv3) dX11_readText_83 w1287 ⟨w1289, w36⟩ cal_X11_readPart rfl ⟨⟨Nat.le_of_ble_eq_true rfl, Nat.le_of_ble_eq_true rfl⟩, Nat.le_of_ble_eq_true rfl, Nat.le_of_ble_eq_true rfl⟩ (Nat.le_of_ble_eq_true rfl) (Or.inl ⟨_, _, _, _, rfl, rfl⟩) rfl ⟨rfl, ⟨by decide, by decide⟩, rfl, (fr_cons (Or.inl (Nat.le_of_ble_eq_true rfl)) (fr_cons (Or.inl (Nat.le_of_ble_eq_true rfl)) (fr_cons (Or.inl (Nat.le_of_ble_eq_true rfl)) (fr_cons (Or.inl (Nat.le_of_ble_eq_true rfl)) (fr_nil))))), rfl⟩ fr_i rfl rfl rfl rfl ?_
            refine V.if_eq (tgt := 93) dX11_readText_86 (by decide) (fun h => ?_) (fun h => ?_)
            · have hf := fif_t h hf
              refine V.iconst (v := 0) dX11_readText_93 rfl ?_
              refine V.istore_n (i := 2) (L' := [some (.ref 0), some (.int p1), some (.int 0)]) dX11_readText_94 rfl (Nat.le_of_ble_eq_true rfl) rfl rfl ?_
              refine V.goto (tgt := 20) dX11_readText_95 (by decide) ?_
              exact ih hf hr hx
            · have hf := fif_f h hf
              refine V.iconst (v := 1) dX11_readText_89 rfl ?_
              refine V.goto (tgt := 94) dX11_readText_90 (by decide) ?_
              refine V.istore_n (i := 2) (L' := [some (.ref 0), some (.int p1), some (.int 1)]) dX11_readText_94 rfl (Nat.le_of_ble_eq_true rfl) rfl rfl ?_
              refine V.goto (tgt := 20) dX11_readText_95 (by decide) ?_
              exact ih hf hr hx
        · have hf := fif_t h hf
          refine V.iconst (v := 1) dX11_readText_71 rfl ?_
          obtain rfl := Option.some.inj hf
          obtain ⟨e1, e2⟩ := hr _ rfl
          subst e1; subst e2
          exact V.zret (v := 1) dX11_readText_72 rfl (by decide +kernel) (Nat.le_of_ble_eq_true rfl) (Nat.le_of_ble_eq_true rfl) rfl
      · have hf := fif_f h hf
        refine V.aload_n (i := 0) dX11_readText_28 rfl rfl ?_
        refine V.aload_n (i := 0) dX11_readText_29 rfl rfl ?_
        obtain ⟨v4, hv4, hf⟩ := fbind hf
        refine V.callVn (pl := [0, 1, 2, 3, 4]) (σ' := [.inl (6, [.ref 1, .ref 2, .int M_savedMany, .ref 3, .int M_isTaken, .ref 4, .int M_length, .int M_thrown, .int v4.2.1, .int v4.2.2, .int M_place, .int M_kind, .int M_one, .int M_two, .int M_three, .int M_begins, .int M_done, .int M_stopBy, .long M_hash]), .inr (406, .inl M_s), .inr (2436, .inl M_saved), .inr (406, .inl M_snapshot), .inr (60, .inl M_text)]) (st2 := [.int v4.1, .ref 0]) (cl2 := 0) (sl2 := 0) (ct_X11_stopOfPart (M_savedMany := M_savedMany) (M_isTaken := M_isTaken) (M_length := M_length) (M_thrown := M_thrown) (M_spelt := M_spelt) (M_speltMany := M_speltMany) (M_place := M_place) (M_kind := M_kind) (M_one := M_one) (M_two := M_two) (M_three := M_three) (M_begins := M_begins) (M_done := M_done) (M_stopBy := M_stopBy) (M_hash := M_hash) (M_s := M_s) (M_saved := M_saved) (M_snapshot := M_snapshot) (M_text := M_text) hv4) dX11_readText_30 w1311 ⟨w1313, w42⟩ cal_X11_stopOfPart rfl ⟨⟨Nat.le_of_ble_eq_true rfl, Nat.le_of_ble_eq_true rfl⟩, Nat.le_of_ble_eq_true rfl, Nat.le_of_ble_eq_true rfl⟩ (Nat.le_of_ble_eq_true rfl) (Or.inl ⟨_, _, _, _, rfl, rfl⟩) rfl ⟨rfl, ⟨by decide, by decide⟩, rfl, (fr_cons (Or.inl (Nat.le_of_ble_eq_true rfl)) (fr_cons (Or.inl (Nat.le_of_ble_eq_true rfl)) (fr_cons (Or.inl (Nat.le_of_ble_eq_true rfl)) (fr_cons (Or.inl (Nat.le_of_ble_eq_true rfl)) (fr_nil))))), rfl⟩ fr_i rfl rfl rfl rfl ?_
        refine V.putfield (ty := tyX11) (kf := 17) (σ' := [.inl (6, [.ref 1, .ref 2, .int M_savedMany, .ref 3, .int M_isTaken, .ref 4, .int M_length, .int M_thrown, .int v4.2.1, .int v4.2.2, .int M_place, .int M_kind, .int M_one, .int M_two, .int M_three, .int M_begins, .int M_done, .int v4.1, .long M_hash]), .inr (406, .inl M_s), .inr (2436, .inl M_saved), .inr (406, .inl M_snapshot), .inr (60, .inl M_text)]) fl_RX11 dX11_readText_33 w1060 (Nat.le_of_ble_eq_true rfl) rfl (fun _ => ⟨rfl, rfl⟩) rfl (Nat.le_of_ble_eq_true rfl) rfl ?_
        refine V.aload_n (i := 0) dX11_readText_36 rfl rfl ?_
        refine V.getfield (kf := 17) (v := .int v4.1) fl_RX11 dX11_readText_37 w1060 (Nat.le_of_ble_eq_true rfl) rfl rfl ?_
        refine V.if_le (tgt := 45) dX11_readText_40 (by decide) (fun h => ?_) (fun h => ?_)
        · have hf := fif_t h hf
          refine V.aload_n (i := 0) dX11_readText_45 rfl rfl ?_
          obtain ⟨v5, hv5, hf⟩ := fbind hf
          refine V.callVn (pl := [0, 1, 2, 3, 4]) (σ' := [.inl (6, [.ref 1, .ref 2, .int M_savedMany, .ref 3, .int M_isTaken, .ref 4, .int M_length, .int M_thrown, .int v4.2.1, .int v4.2.2, .int M_place, .int M_kind, .int M_one, .int M_two, .int M_three, .int M_begins, .int M_done, .int v4.1, .long M_hash]), .inr (406, .inl v5.2), .inr (2436, .inl M_saved), .inr (406, .inl M_snapshot), .inr (60, .inl M_text)]) (st2 := [.int v5.1]) (cl2 := 0) (sl2 := 0) (ct_X11_does (M_savedMany := M_savedMany) (M_isTaken := M_isTaken) (M_length := M_length) (M_thrown := M_thrown) (M_spelt := v4.2.1) (M_speltMany := v4.2.2) (M_place := M_place) (M_kind := M_kind) (M_one := M_one) (M_two := M_two) (M_three := M_three) (M_begins := M_begins) (M_done := M_done) (M_stopBy := v4.1) (M_hash := M_hash) (M_s := M_s) (M_saved := M_saved) (M_snapshot := M_snapshot) (M_text := M_text) hv5) dX11_readText_46 w1315 ⟨w1317, w43⟩ cal_X11_does rfl ⟨⟨Nat.le_of_ble_eq_true rfl, Nat.le_of_ble_eq_true rfl⟩, Nat.le_of_ble_eq_true rfl, Nat.le_of_ble_eq_true rfl⟩ (Nat.le_of_ble_eq_true rfl) (Or.inl ⟨_, _, _, _, rfl, rfl⟩) rfl ⟨rfl, ⟨by decide, by decide⟩, rfl, (fr_cons (Or.inl (Nat.le_of_ble_eq_true rfl)) (fr_cons (Or.inl (Nat.le_of_ble_eq_true rfl)) (fr_cons (Or.inl (Nat.le_of_ble_eq_true rfl)) (fr_cons (Or.inl (Nat.le_of_ble_eq_true rfl)) (fr_nil))))), rfl⟩ fr_i rfl rfl rfl rfl ?_
          refine V.pop dX11_readText_49 rfl ?_
          refine V.aload_n (i := 0) dX11_readText_50 rfl rfl ?_
          refine V.dup dX11_readText_51 rfl ?_
          refine V.getfield (kf := 16) (v := .int M_done) fl_RX11 dX11_readText_52 w1059 (Nat.le_of_ble_eq_true rfl) rfl rfl ?_
          refine V.iconst (v := 1) dX11_readText_55 rfl ?_
          refine V.iadd dX11_readText_56 ?_
          refine V.putfield (ty := tyX11) (kf := 16) (σ' := [.inl (6, [.ref 1, .ref 2, .int M_savedMany, .ref 3, .int M_isTaken, .ref 4, .int M_length, .int M_thrown, .int v4.2.1, .int v4.2.2, .int M_place, .int M_kind, .int M_one, .int M_two, .int M_three, .int M_begins, .int (M_done + 1), .int v4.1, .long M_hash]), .inr (406, .inl v5.2), .inr (2436, .inl M_saved), .inr (406, .inl M_snapshot), .inr (60, .inl M_text)]) fl_RX11 dX11_readText_57 w1059 (Nat.le_of_ble_eq_true rfl) rfl (fun _ => ⟨rfl, rfl⟩) rfl (Nat.le_of_ble_eq_true rfl) rfl ?_
          refine V.aload_n (i := 0) dX11_readText_60 rfl rfl ?_
          refine V.getfield (kf := 10) (v := .int M_place) fl_RX11 dX11_readText_61 w1053 (Nat.le_of_ble_eq_true rfl) rfl rfl ?_
          refine V.aload_n (i := 0) dX11_readText_64 rfl rfl ?_
          refine V.getfield (kf := 6) (v := .int M_length) fl_RX11 dX11_readText_65 w1049 (Nat.le_of_ble_eq_true rfl) rfl rfl ?_
          refine V.icmp_ne (tgt := 73) dX11_readText_68 (by decide) (fun h => ?_) (fun h => ?_)
          · have hf := fif_f h hf
            refine V.aload_n (i := 0) dX11_readText_73 rfl rfl ?_
            refine V.bipush (v := 59) dX11_readText_74 rfl ?_
            obtain ⟨v6, hv6, hf⟩ := fbind hf
            refine V.callVn (pl := [0, 1, 2, 3, 4]) (σ' := [.inl (6, [.ref 1, .ref 2, .int M_savedMany, .ref 3, .int M_isTaken, .ref 4, .int M_length, .int M_thrown, .int v4.2.1, .int v4.2.2, .int v6.2, .int M_kind, .int M_one, .int M_two, .int M_three, .int M_begins, .int (M_done + 1), .int v4.1, .long M_hash]), .inr (406, .inl v5.2), .inr (2436, .inl M_saved), .inr (406, .inl M_snapshot), .inr (60, .inl M_text)]) (st2 := [.int v6.1]) (cl2 := 0) (sl2 := 0) (ct_X11_takes (a1 := 59) (M_savedMany := M_savedMany) (M_isTaken := M_isTaken) (M_length := M_length) (M_thrown := M_thrown) (M_spelt := v4.2.1) (M_speltMany := v4.2.2) (M_place := M_place) (M_kind := M_kind) (M_one := M_one) (M_two := M_two) (M_three := M_three) (M_begins := M_begins) (M_done := (M_done + 1)) (M_stopBy := v4.1) (M_hash := M_hash) (M_s := v5.2) (M_saved := M_saved) (M_snapshot := M_snapshot) (M_text := M_text) hv6) dX11_readText_76 w1295 ⟨w1297, w38⟩ cal_X11_takes rfl ⟨⟨Nat.le_of_ble_eq_true rfl, Nat.le_of_ble_eq_true rfl⟩, Nat.le_of_ble_eq_true rfl, Nat.le_of_ble_eq_true rfl⟩ (Nat.le_of_ble_eq_true rfl) (Or.inl ⟨_, _, _, _, rfl, rfl⟩) rfl ⟨rfl, ⟨by decide, by decide⟩, rfl, (fr_cons (Or.inl (Nat.le_of_ble_eq_true rfl)) (fr_cons (Or.inl (Nat.le_of_ble_eq_true rfl)) (fr_cons (Or.inl (Nat.le_of_ble_eq_true rfl)) (fr_cons (Or.inl (Nat.le_of_ble_eq_true rfl)) (fr_nil))))), rfl⟩ fr_i rfl rfl rfl rfl ?_
            refine V.if_eq (tgt := 93) dX11_readText_79 (by decide) (fun h => ?_) (fun h => ?_)
            · have hf := fif_t h hf
              refine V.iconst (v := 0) dX11_readText_93 rfl ?_
              refine V.istore_n (i := 2) (L' := [some (.ref 0), some (.int p1), some (.int 0)]) dX11_readText_94 rfl (Nat.le_of_ble_eq_true rfl) rfl rfl ?_
              refine V.goto (tgt := 20) dX11_readText_95 (by decide) ?_
              exact ih hf hr hx
            · have hf := fif_f h hf
              refine V.aload_n (i := 0) dX11_readText_82 rfl rfl ?_
              obtain ⟨v7, hv7, hf⟩ := fbind hf
              refine V.callVn (pl := [0, 1, 2, 3, 4]) (σ' := [.inl (6, [.ref 1, .ref 2, .int M_savedMany, .ref 3, .int M_isTaken, .ref 4, .int M_length, .int M_thrown, .int v4.2.1, .int v4.2.2, .int v7.2.1, .int v7.2.2.1, .int v7.2.2.2.1, .int v7.2.2.2.2.1, .int v7.2.2.2.2.2.1, .int v7.2.2.2.2.2.2, .int (M_done + 1), .int v4.1, .long M_hash]), .inr (406, .inl v5.2), .inr (2436, .inl M_saved), .inr (406, .inl M_snapshot), .inr (60, .inl M_text)]) (st2 := [.int v7.1]) (cl2 := 0) (sl2 := 0) (ct_X11_readPart (M_savedMany := M_savedMany) (M_isTaken := M_isTaken) (M_length := M_length) (M_thrown := M_thrown) (M_spelt := v4.2.1) (M_speltMany := v4.2.2) (M_place := v6.2) (M_kind := M_kind) (M_one := M_one) (M_two := M_two) (M_three := M_three) (M_begins := M_begins) (M_done := (M_done + 1)) (M_stopBy := v4.1) (M_hash := M_hash) (M_s := v5.2) (M_saved := M_saved) (M_snapshot := M_snapshot) (M_text := M_text) hv7) dX11_readText_83 w1287 ⟨w1289, w36⟩ cal_X11_readPart rfl ⟨⟨Nat.le_of_ble_eq_true rfl, Nat.le_of_ble_eq_true rfl⟩, Nat.le_of_ble_eq_true rfl, Nat.le_of_ble_eq_true rfl⟩ (Nat.le_of_ble_eq_true rfl) (Or.inl ⟨_, _, _, _, rfl, rfl⟩) rfl ⟨rfl, ⟨by decide, by decide⟩, rfl, (fr_cons (Or.inl (Nat.le_of_ble_eq_true rfl)) (fr_cons (Or.inl (Nat.le_of_ble_eq_true rfl)) (fr_cons (Or.inl (Nat.le_of_ble_eq_true rfl)) (fr_cons (Or.inl (Nat.le_of_ble_eq_true rfl)) (fr_nil))))), rfl⟩ fr_i rfl rfl rfl rfl ?_
              refine V.if_eq (tgt := 93) dX11_readText_86 (by decide) (fun h => ?_) (fun h => ?_)
              · have hf := fif_t h hf
                refine V.iconst (v := 0) dX11_readText_93 rfl ?_
                refine V.istore_n (i := 2) (L' := [some (.ref 0), some (.int p1), some (.int 0)]) dX11_readText_94 rfl (Nat.le_of_ble_eq_true rfl) rfl rfl ?_
                refine V.goto (tgt := 20) dX11_readText_95 (by decide) ?_
                exact ih hf hr hx
              · have hf := fif_f h hf
                refine V.iconst (v := 1) dX11_readText_89 rfl ?_
                refine V.goto (tgt := 94) dX11_readText_90 (by decide) ?_
                refine V.istore_n (i := 2) (L' := [some (.ref 0), some (.int p1), some (.int 1)]) dX11_readText_94 rfl (Nat.le_of_ble_eq_true rfl) rfl rfl ?_
                refine V.goto (tgt := 20) dX11_readText_95 (by decide) ?_
                exact ih hf hr hx
          · have hf := fif_t h hf
            refine V.iconst (v := 1) dX11_readText_71 rfl ?_
            obtain rfl := Option.some.inj hf
            obtain ⟨e1, e2⟩ := hr _ rfl
            subst e1; subst e2
            exact V.zret (v := 1) dX11_readText_72 rfl (by decide +kernel) (Nat.le_of_ble_eq_true rfl) (Nat.le_of_ble_eq_true rfl) rfl
        · have hf := fif_f h hf
          refine V.iconst (v := 1) dX11_readText_43 rfl ?_
          obtain rfl := Option.some.inj hf
          obtain ⟨e1, e2⟩ := hr _ rfl
          subst e1; subst e2
          exact V.zret (v := 1) dX11_readText_44 rfl (by decide +kernel) (Nat.le_of_ble_eq_true rfl) (Nat.le_of_ble_eq_true rfl) rfl
def s_X11_readText (a1 : Int32) (M_length : Int32) (M_spelt : Int32) (M_speltMany : Int32) (M_place : Int32) (M_kind : Int32) (M_one : Int32) (M_two : Int32) (M_three : Int32) (M_begins : Int32) (M_done : Int32) (M_stopBy : Int32) (M_s : Nat → Int32) (M_text : Nat → Int32) : Option (Int32 × (Int32) × (Int32) × (Int32) × (Int32) × (Int32) × (Int32) × (Int32) × (Int32) × (Int32) × (Int32) × (Nat → Int32)) := (s_X11_readPart M_length 0 M_kind M_one M_two M_three M_begins M_text).bind fun v1 => (s_X11_readText_L20 a1 M_length M_text gF v1.1 M_spelt M_speltMany v1.2.1 v1.2.2.1 v1.2.2.2.1 v1.2.2.2.2.1 v1.2.2.2.2.2.1 v1.2.2.2.2.2.2 0 0 M_s).bind fun r8 => fsum r8 (fun r9 => some r9) (fun e9 => some (0, e9.2.1, e9.2.2.1, e9.2.2.2.1, e9.2.2.2.2.1, e9.2.2.2.2.2.1, e9.2.2.2.2.2.2.1, e9.2.2.2.2.2.2.2.1, e9.2.2.2.2.2.2.2.2.1, e9.2.2.2.2.2.2.2.2.2.1, e9.2.2.2.2.2.2.2.2.2.2.1, e9.2.2.2.2.2.2.2.2.2.2.2))
set_option maxHeartbeats 4000000 in
set_option maxRecDepth 100000 in
theorem ct_X11_readText {a1 : Int32} {M_savedMany : Int32} {M_isTaken : Int32} {M_length : Int32} {M_thrown : Int32} {M_spelt : Int32} {M_speltMany : Int32} {M_place : Int32} {M_kind : Int32} {M_one : Int32} {M_two : Int32} {M_three : Int32} {M_begins : Int32} {M_done : Int32} {M_stopBy : Int32} {M_hash : Int64} {M_s : Nat → Int32} {M_saved : Nat → Int32} {M_snapshot : Nat → Int32} {M_text : Nat → Int32} {res : Int32 × (Int32) × (Int32) × (Int32) × (Int32) × (Int32) × (Int32) × (Int32) × (Int32) × (Int32) × (Int32) × (Nat → Int32)} (hf : s_X11_readText a1 M_length M_spelt M_speltMany M_place M_kind M_one M_two M_three M_begins M_done M_stopBy M_s M_text = some res) : Ct k_X11_readText [.ref 0, .int a1] [.inl (6, [.ref 1, .ref 2, .int M_savedMany, .ref 3, .int M_isTaken, .ref 4, .int M_length, .int M_thrown, .int M_spelt, .int M_speltMany, .int M_place, .int M_kind, .int M_one, .int M_two, .int M_three, .int M_begins, .int M_done, .int M_stopBy, .long M_hash]), .inr (406, .inl M_s), .inr (2436, .inl M_saved), .inr (406, .inl M_snapshot), .inr (60, .inl M_text)] (.inl (some (.int res.1))) [.inl (6, [.ref 1, .ref 2, .int M_savedMany, .ref 3, .int M_isTaken, .ref 4, .int M_length, .int M_thrown, .int res.2.1, .int res.2.2.1, .int res.2.2.2.1, .int res.2.2.2.2.1, .int res.2.2.2.2.2.1, .int res.2.2.2.2.2.2.1, .int res.2.2.2.2.2.2.2.1, .int res.2.2.2.2.2.2.2.2.1, .int res.2.2.2.2.2.2.2.2.2.1, .int res.2.2.2.2.2.2.2.2.2.2.1, .long M_hash]), .inr (406, .inl res.2.2.2.2.2.2.2.2.2.2.2), .inr (2436, .inl M_saved), .inr (406, .inl M_snapshot), .inr (60, .inl M_text)] := by
  unfold s_X11_readText at hf
  refine Ct.of (L := [some (.ref 0), some (.int a1), none]) cal_X11_readText (fent_pad (j := 1) rfl) (Nat.le_of_ble_eq_true rfl) ?_
  refine V.aload_n (i := 0) dX11_readText_0 rfl rfl ?_
  refine V.iconst (v := 0) dX11_readText_1 rfl ?_
  refine V.putfield (ty := tyX11) (kf := 10) (σ' := [.inl (6, [.ref 1, .ref 2, .int M_savedMany, .ref 3, .int M_isTaken, .ref 4, .int M_length, .int M_thrown, .int M_spelt, .int M_speltMany, .int 0, .int M_kind, .int M_one, .int M_two, .int M_three, .int M_begins, .int M_done, .int M_stopBy, .long M_hash]), .inr (406, .inl M_s), .inr (2436, .inl M_saved), .inr (406, .inl M_snapshot), .inr (60, .inl M_text)]) fl_RX11 dX11_readText_2 w1053 (Nat.le_of_ble_eq_true rfl) rfl (fun _ => ⟨rfl, rfl⟩) rfl (Nat.le_of_ble_eq_true rfl) rfl ?_
  refine V.aload_n (i := 0) dX11_readText_5 rfl rfl ?_
  refine V.iconst (v := 0) dX11_readText_6 rfl ?_
  refine V.putfield (ty := tyX11) (kf := 16) (σ' := [.inl (6, [.ref 1, .ref 2, .int M_savedMany, .ref 3, .int M_isTaken, .ref 4, .int M_length, .int M_thrown, .int M_spelt, .int M_speltMany, .int 0, .int M_kind, .int M_one, .int M_two, .int M_three, .int M_begins, .int 0, .int M_stopBy, .long M_hash]), .inr (406, .inl M_s), .inr (2436, .inl M_saved), .inr (406, .inl M_snapshot), .inr (60, .inl M_text)]) fl_RX11 dX11_readText_7 w1059 (Nat.le_of_ble_eq_true rfl) rfl (fun _ => ⟨rfl, rfl⟩) rfl (Nat.le_of_ble_eq_true rfl) rfl ?_
  refine V.aload_n (i := 0) dX11_readText_10 rfl rfl ?_
  refine V.iconst (v := 0) dX11_readText_11 rfl ?_
  refine V.putfield (ty := tyX11) (kf := 17) (σ' := [.inl (6, [.ref 1, .ref 2, .int M_savedMany, .ref 3, .int M_isTaken, .ref 4, .int M_length, .int M_thrown, .int M_spelt, .int M_speltMany, .int 0, .int M_kind, .int M_one, .int M_two, .int M_three, .int M_begins, .int 0, .int 0, .long M_hash]), .inr (406, .inl M_s), .inr (2436, .inl M_saved), .inr (406, .inl M_snapshot), .inr (60, .inl M_text)]) fl_RX11 dX11_readText_12 w1060 (Nat.le_of_ble_eq_true rfl) rfl (fun _ => ⟨rfl, rfl⟩) rfl (Nat.le_of_ble_eq_true rfl) rfl ?_
  refine V.aload_n (i := 0) dX11_readText_15 rfl rfl ?_
  obtain ⟨v1, hv1, hf⟩ := fbind hf
  refine V.callVn (pl := [0, 1, 2, 3, 4]) (σ' := [.inl (6, [.ref 1, .ref 2, .int M_savedMany, .ref 3, .int M_isTaken, .ref 4, .int M_length, .int M_thrown, .int M_spelt, .int M_speltMany, .int v1.2.1, .int v1.2.2.1, .int v1.2.2.2.1, .int v1.2.2.2.2.1, .int v1.2.2.2.2.2.1, .int v1.2.2.2.2.2.2, .int 0, .int 0, .long M_hash]), .inr (406, .inl M_s), .inr (2436, .inl M_saved), .inr (406, .inl M_snapshot), .inr (60, .inl M_text)]) (st2 := [.int v1.1]) (cl2 := 0) (sl2 := 0) (ct_X11_readPart (M_savedMany := M_savedMany) (M_isTaken := M_isTaken) (M_length := M_length) (M_thrown := M_thrown) (M_spelt := M_spelt) (M_speltMany := M_speltMany) (M_place := 0) (M_kind := M_kind) (M_one := M_one) (M_two := M_two) (M_three := M_three) (M_begins := M_begins) (M_done := 0) (M_stopBy := 0) (M_hash := M_hash) (M_s := M_s) (M_saved := M_saved) (M_snapshot := M_snapshot) (M_text := M_text) hv1) dX11_readText_16 w1287 ⟨w1289, w36⟩ cal_X11_readPart rfl ⟨⟨Nat.le_of_ble_eq_true rfl, Nat.le_of_ble_eq_true rfl⟩, Nat.le_of_ble_eq_true rfl, Nat.le_of_ble_eq_true rfl⟩ (Nat.le_of_ble_eq_true rfl) (Or.inl ⟨_, _, _, _, rfl, rfl⟩) rfl ⟨rfl, ⟨by decide, by decide⟩, rfl, (fr_cons (Or.inl (Nat.le_of_ble_eq_true rfl)) (fr_cons (Or.inl (Nat.le_of_ble_eq_true rfl)) (fr_cons (Or.inl (Nat.le_of_ble_eq_true rfl)) (fr_cons (Or.inl (Nat.le_of_ble_eq_true rfl)) (fr_nil))))), rfl⟩ fr_i rfl rfl rfl rfl ?_
  refine V.istore_n (i := 2) (L' := [some (.ref 0), some (.int a1), some (.int v1.1)]) dX11_readText_19 rfl (Nat.le_of_ble_eq_true rfl) rfl rfl ?_
  obtain ⟨r8, hr8, hf⟩ := fbind hf
  rcases r8 with r9 | e9
  · obtain rfl := Option.some.inj (show some _ = some res from hf)
    exact v_X11_readText_L20 gF hr8 (fun _ h => by cases h; exact ⟨rfl, rfl⟩) (fun _ h => by cases h)
  · replace hf : _ = some res := hf
    dsimp only [fsum] at hf
    refine v_X11_readText_L20 gF hr8 (fun _ h => by cases h) (fun _ h => ?_)
    cases h
    refine V.iconst (v := 0) dX11_readText_98 rfl ?_
    obtain rfl := Option.some.inj hf
    exact V.zret (v := 0) dX11_readText_99 rfl (by decide +kernel) (Nat.le_of_ble_eq_true rfl) (Nat.le_of_ble_eq_true rfl) rfl
def k_X11_firstError : fK := (yX11_firstError, cX11_firstError, 1, (some .int), [], (10, 218), (0, 0), (0, 0))
theorem cal_X11_firstError : fCal k_X11_firstError 0 := ⟨⟨wc1282, w73⟩, ⟨by decide +kernel, by decide +kernel⟩, by decide +kernel, by decide +kernel⟩
def s_X11_firstError (M_length : Int32) (M_thrown : Int32) (M_spelt : Int32) (M_speltMany : Int32) (M_place : Int32) (M_kind : Int32) (M_one : Int32) (M_two : Int32) (M_three : Int32) (M_begins : Int32) (M_done : Int32) (M_stopBy : Int32) (M_s : Nat → Int32) (M_text : Nat → Int32) : Option (Int32 × (Int32) × (Int32) × (Int32) × (Int32) × (Int32) × (Int32) × (Int32) × (Int32) × (Int32) × (Int32) × (Int32) × (Nat → Int32)) := (s_X11_readText 0 M_length M_spelt M_speltMany M_place M_kind M_one M_two M_three M_begins M_done M_stopBy M_s M_text).bind fun v1 => if (v1.1 = 0 : Prop) then ((s_X11_plain v1.2.2.2.1 M_thrown).bind fun v2 => some (v2.1, v2.2, v1.2.1, v1.2.2.1, v1.2.2.2.1, v1.2.2.2.2.1, v1.2.2.2.2.2.1, v1.2.2.2.2.2.2.1, v1.2.2.2.2.2.2.2.1, v1.2.2.2.2.2.2.2.2.1, v1.2.2.2.2.2.2.2.2.2.1, v1.2.2.2.2.2.2.2.2.2.2.1, v1.2.2.2.2.2.2.2.2.2.2.2)) else ((s_X11_plain M_length M_thrown).bind fun v3 => some (v3.1, v3.2, v1.2.1, v1.2.2.1, v1.2.2.2.1, v1.2.2.2.2.1, v1.2.2.2.2.2.1, v1.2.2.2.2.2.2.1, v1.2.2.2.2.2.2.2.1, v1.2.2.2.2.2.2.2.2.1, v1.2.2.2.2.2.2.2.2.2.1, v1.2.2.2.2.2.2.2.2.2.2.1, v1.2.2.2.2.2.2.2.2.2.2.2))
set_option maxHeartbeats 4000000 in
set_option maxRecDepth 100000 in
theorem ct_X11_firstError {M_savedMany : Int32} {M_isTaken : Int32} {M_length : Int32} {M_thrown : Int32} {M_spelt : Int32} {M_speltMany : Int32} {M_place : Int32} {M_kind : Int32} {M_one : Int32} {M_two : Int32} {M_three : Int32} {M_begins : Int32} {M_done : Int32} {M_stopBy : Int32} {M_hash : Int64} {M_s : Nat → Int32} {M_saved : Nat → Int32} {M_snapshot : Nat → Int32} {M_text : Nat → Int32} {res : Int32 × (Int32) × (Int32) × (Int32) × (Int32) × (Int32) × (Int32) × (Int32) × (Int32) × (Int32) × (Int32) × (Int32) × (Nat → Int32)} (hf : s_X11_firstError M_length M_thrown M_spelt M_speltMany M_place M_kind M_one M_two M_three M_begins M_done M_stopBy M_s M_text = some res) : Ct k_X11_firstError [.ref 0] [.inl (6, [.ref 1, .ref 2, .int M_savedMany, .ref 3, .int M_isTaken, .ref 4, .int M_length, .int M_thrown, .int M_spelt, .int M_speltMany, .int M_place, .int M_kind, .int M_one, .int M_two, .int M_three, .int M_begins, .int M_done, .int M_stopBy, .long M_hash]), .inr (406, .inl M_s), .inr (2436, .inl M_saved), .inr (406, .inl M_snapshot), .inr (60, .inl M_text)] (.inl (some (.int res.1))) [.inl (6, [.ref 1, .ref 2, .int M_savedMany, .ref 3, .int M_isTaken, .ref 4, .int M_length, .int res.2.1, .int res.2.2.1, .int res.2.2.2.1, .int res.2.2.2.2.1, .int res.2.2.2.2.2.1, .int res.2.2.2.2.2.2.1, .int res.2.2.2.2.2.2.2.1, .int res.2.2.2.2.2.2.2.2.1, .int res.2.2.2.2.2.2.2.2.2.1, .int res.2.2.2.2.2.2.2.2.2.2.1, .int res.2.2.2.2.2.2.2.2.2.2.2.1, .long M_hash]), .inr (406, .inl res.2.2.2.2.2.2.2.2.2.2.2.2), .inr (2436, .inl M_saved), .inr (406, .inl M_snapshot), .inr (60, .inl M_text)] := by
  unfold s_X11_firstError at hf
  refine Ct.of (L := [some (.ref 0)]) cal_X11_firstError (fent_pad (j := 0) rfl) (Nat.le_of_ble_eq_true rfl) ?_
  refine V.aload_n (i := 0) dX11_firstError_0 rfl rfl ?_
  refine V.aload_n (i := 0) dX11_firstError_1 rfl rfl ?_
  refine V.iconst (v := 0) dX11_firstError_2 rfl ?_
  obtain ⟨v1, hv1, hf⟩ := fbind hf
  refine V.callVn (pl := [0, 1, 2, 3, 4]) (σ' := [.inl (6, [.ref 1, .ref 2, .int M_savedMany, .ref 3, .int M_isTaken, .ref 4, .int M_length, .int M_thrown, .int v1.2.1, .int v1.2.2.1, .int v1.2.2.2.1, .int v1.2.2.2.2.1, .int v1.2.2.2.2.2.1, .int v1.2.2.2.2.2.2.1, .int v1.2.2.2.2.2.2.2.1, .int v1.2.2.2.2.2.2.2.2.1, .int v1.2.2.2.2.2.2.2.2.2.1, .int v1.2.2.2.2.2.2.2.2.2.2.1, .long M_hash]), .inr (406, .inl v1.2.2.2.2.2.2.2.2.2.2.2), .inr (2436, .inl M_saved), .inr (406, .inl M_snapshot), .inr (60, .inl M_text)]) (st2 := [.int v1.1, .ref 0]) (cl2 := 0) (sl2 := 0) (ct_X11_readText (a1 := 0) (M_savedMany := M_savedMany) (M_isTaken := M_isTaken) (M_length := M_length) (M_thrown := M_thrown) (M_spelt := M_spelt) (M_speltMany := M_speltMany) (M_place := M_place) (M_kind := M_kind) (M_one := M_one) (M_two := M_two) (M_three := M_three) (M_begins := M_begins) (M_done := M_done) (M_stopBy := M_stopBy) (M_hash := M_hash) (M_s := M_s) (M_saved := M_saved) (M_snapshot := M_snapshot) (M_text := M_text) hv1) dX11_firstError_3 w1283 ⟨w1285, w35⟩ cal_X11_readText rfl ⟨⟨Nat.le_of_ble_eq_true rfl, Nat.le_of_ble_eq_true rfl⟩, Nat.le_of_ble_eq_true rfl, Nat.le_of_ble_eq_true rfl⟩ (Nat.le_of_ble_eq_true rfl) (Or.inl ⟨_, _, _, _, rfl, rfl⟩) rfl ⟨rfl, ⟨by decide, by decide⟩, rfl, (fr_cons (Or.inl (Nat.le_of_ble_eq_true rfl)) (fr_cons (Or.inl (Nat.le_of_ble_eq_true rfl)) (fr_cons (Or.inl (Nat.le_of_ble_eq_true rfl)) (fr_cons (Or.inl (Nat.le_of_ble_eq_true rfl)) (fr_nil))))), rfl⟩ fr_i rfl rfl rfl rfl ?_
  refine V.if_eq (tgt := 16) dX11_firstError_6 (by decide) (fun h => ?_) (fun h => ?_)
  · have hf := fif_t h hf
    refine V.aload_n (i := 0) dX11_firstError_16 rfl rfl ?_
    refine V.getfield (kf := 10) (v := .int v1.2.2.2.1) fl_RX11 dX11_firstError_17 w1053 (Nat.le_of_ble_eq_true rfl) rfl rfl ?_
    obtain ⟨v2, hv2, hf⟩ := fbind hf
    refine V.callVn (pl := [0, 1, 2, 3, 4]) (σ' := [.inl (6, [.ref 1, .ref 2, .int M_savedMany, .ref 3, .int M_isTaken, .ref 4, .int M_length, .int v2.2, .int v1.2.1, .int v1.2.2.1, .int v1.2.2.2.1, .int v1.2.2.2.2.1, .int v1.2.2.2.2.2.1, .int v1.2.2.2.2.2.2.1, .int v1.2.2.2.2.2.2.2.1, .int v1.2.2.2.2.2.2.2.2.1, .int v1.2.2.2.2.2.2.2.2.2.1, .int v1.2.2.2.2.2.2.2.2.2.2.1, .long M_hash]), .inr (406, .inl v1.2.2.2.2.2.2.2.2.2.2.2), .inr (2436, .inl M_saved), .inr (406, .inl M_snapshot), .inr (60, .inl M_text)]) (st2 := [.int v2.1]) (cl2 := 0) (sl2 := 0) (ct_X11_plain (a1 := v1.2.2.2.1) (M_savedMany := M_savedMany) (M_isTaken := M_isTaken) (M_length := M_length) (M_thrown := M_thrown) (M_spelt := v1.2.1) (M_speltMany := v1.2.2.1) (M_place := v1.2.2.2.1) (M_kind := v1.2.2.2.2.1) (M_one := v1.2.2.2.2.2.1) (M_two := v1.2.2.2.2.2.2.1) (M_three := v1.2.2.2.2.2.2.2.1) (M_begins := v1.2.2.2.2.2.2.2.2.1) (M_done := v1.2.2.2.2.2.2.2.2.2.1) (M_stopBy := v1.2.2.2.2.2.2.2.2.2.2.1) (M_hash := M_hash) (M_s := v1.2.2.2.2.2.2.2.2.2.2.2) (M_saved := M_saved) (M_snapshot := M_snapshot) (M_text := M_text) hv2) dX11_firstError_20 w1275 ⟨w1277, w34⟩ cal_X11_plain rfl ⟨⟨Nat.le_of_ble_eq_true rfl, Nat.le_of_ble_eq_true rfl⟩, Nat.le_of_ble_eq_true rfl, Nat.le_of_ble_eq_true rfl⟩ (Nat.le_of_ble_eq_true rfl) (Or.inl ⟨_, _, _, _, rfl, rfl⟩) rfl ⟨rfl, ⟨by decide, by decide⟩, rfl, (fr_cons (Or.inl (Nat.le_of_ble_eq_true rfl)) (fr_cons (Or.inl (Nat.le_of_ble_eq_true rfl)) (fr_cons (Or.inl (Nat.le_of_ble_eq_true rfl)) (fr_cons (Or.inl (Nat.le_of_ble_eq_true rfl)) (fr_nil))))), rfl⟩ fr_i rfl rfl rfl rfl ?_
    obtain rfl := Option.some.inj hf
    exact V.iret dX11_firstError_23 rfl (Nat.le_of_ble_eq_true rfl) (Nat.le_of_ble_eq_true rfl) rfl
  · have hf := fif_f h hf
    refine V.aload_n (i := 0) dX11_firstError_9 rfl rfl ?_
    refine V.getfield (kf := 6) (v := .int M_length) fl_RX11 dX11_firstError_10 w1049 (Nat.le_of_ble_eq_true rfl) rfl rfl ?_
    refine V.goto (tgt := 20) dX11_firstError_13 (by decide) ?_
    obtain ⟨v3, hv3, hf⟩ := fbind hf
    refine V.callVn (pl := [0, 1, 2, 3, 4]) (σ' := [.inl (6, [.ref 1, .ref 2, .int M_savedMany, .ref 3, .int M_isTaken, .ref 4, .int M_length, .int v3.2, .int v1.2.1, .int v1.2.2.1, .int v1.2.2.2.1, .int v1.2.2.2.2.1, .int v1.2.2.2.2.2.1, .int v1.2.2.2.2.2.2.1, .int v1.2.2.2.2.2.2.2.1, .int v1.2.2.2.2.2.2.2.2.1, .int v1.2.2.2.2.2.2.2.2.2.1, .int v1.2.2.2.2.2.2.2.2.2.2.1, .long M_hash]), .inr (406, .inl v1.2.2.2.2.2.2.2.2.2.2.2), .inr (2436, .inl M_saved), .inr (406, .inl M_snapshot), .inr (60, .inl M_text)]) (st2 := [.int v3.1]) (cl2 := 0) (sl2 := 0) (ct_X11_plain (a1 := M_length) (M_savedMany := M_savedMany) (M_isTaken := M_isTaken) (M_length := M_length) (M_thrown := M_thrown) (M_spelt := v1.2.1) (M_speltMany := v1.2.2.1) (M_place := v1.2.2.2.1) (M_kind := v1.2.2.2.2.1) (M_one := v1.2.2.2.2.2.1) (M_two := v1.2.2.2.2.2.2.1) (M_three := v1.2.2.2.2.2.2.2.1) (M_begins := v1.2.2.2.2.2.2.2.2.1) (M_done := v1.2.2.2.2.2.2.2.2.2.1) (M_stopBy := v1.2.2.2.2.2.2.2.2.2.2.1) (M_hash := M_hash) (M_s := v1.2.2.2.2.2.2.2.2.2.2.2) (M_saved := M_saved) (M_snapshot := M_snapshot) (M_text := M_text) hv3) dX11_firstError_20 w1275 ⟨w1277, w34⟩ cal_X11_plain rfl ⟨⟨Nat.le_of_ble_eq_true rfl, Nat.le_of_ble_eq_true rfl⟩, Nat.le_of_ble_eq_true rfl, Nat.le_of_ble_eq_true rfl⟩ (Nat.le_of_ble_eq_true rfl) (Or.inl ⟨_, _, _, _, rfl, rfl⟩) rfl ⟨rfl, ⟨by decide, by decide⟩, rfl, (fr_cons (Or.inl (Nat.le_of_ble_eq_true rfl)) (fr_cons (Or.inl (Nat.le_of_ble_eq_true rfl)) (fr_cons (Or.inl (Nat.le_of_ble_eq_true rfl)) (fr_cons (Or.inl (Nat.le_of_ble_eq_true rfl)) (fr_nil))))), rfl⟩ fr_i rfl rfl rfl rfl ?_
    obtain rfl := Option.some.inj hf
    exact V.iret dX11_firstError_23 rfl (Nat.le_of_ble_eq_true rfl) (Nat.le_of_ble_eq_true rfl) rfl
def k_X11_work : fK := (yX11_work, cX11_work, 2, (some .int), [], (10, 218), (0, 0), (0, 0))
theorem cal_X11_work : fCal k_X11_work 0 := ⟨⟨wc1322, w73⟩, ⟨by decide +kernel, by decide +kernel⟩, by decide +kernel, by decide +kernel⟩
def s_X11_work (M_savedMany : Int32) (M_length : Int32) (M_thrown : Int32) (M_spelt : Int32) (M_speltMany : Int32) (M_place : Int32) (M_kind : Int32) (M_one : Int32) (M_two : Int32) (M_three : Int32) (M_begins : Int32) (M_done : Int32) (M_stopBy : Int32) (M_s : Nat → Int32) (M_saved : Nat → Int32) (M_text : Nat → Int32) : Option (Int32 × (Int32) × (Int32) × (Int32) × (Int32) × (Int32) × (Int32) × (Int32) × (Int32) × (Int32) × (Int32) × (Int32) × (Int32) × (Int32) × (Nat → Int32) × (Nat → Int32)) := (s_X11_readText 0 M_length M_spelt M_speltMany M_place M_kind M_one M_two M_three M_begins M_done M_stopBy M_s M_text).bind fun v1 => if (v1.1 = 0 : Prop) then ((s_X11_holds 1 M_thrown).bind fun v2 => if (v2.1 = 0 : Prop) then (some (0, M_savedMany, M_length, v2.2, v1.2.1, v1.2.2.1, v1.2.2.2.1, v1.2.2.2.2.1, v1.2.2.2.2.2.1, v1.2.2.2.2.2.2.1, v1.2.2.2.2.2.2.2.1, v1.2.2.2.2.2.2.2.2.1, v1.2.2.2.2.2.2.2.2.2.1, v1.2.2.2.2.2.2.2.2.2.2.1, v1.2.2.2.2.2.2.2.2.2.2.2, M_saved)) else ((s_X11_save M_savedMany v1.2.2.2.2.2.2.2.2.2.2.2 M_saved).bind fun v3 => (s_X11_readText 1 M_length v1.2.1 v1.2.2.1 v1.2.2.2.1 v1.2.2.2.2.1 v1.2.2.2.2.2.1 v1.2.2.2.2.2.2.1 v1.2.2.2.2.2.2.2.1 v1.2.2.2.2.2.2.2.2.1 v1.2.2.2.2.2.2.2.2.2.1 v1.2.2.2.2.2.2.2.2.2.2.1 v1.2.2.2.2.2.2.2.2.2.2.2 M_text).bind fun v4 => if (v4.2.2.2.2.2.2.2.2.2.2.1 ≤ 0 : Prop) then (fst 406 v4.2.2.2.2.2.2.2.2.2.2.2 6 (-1) fun s5 => if (v4.2.2.2.2.2.2.2.2.2.2.1 ≤ 0 : Prop) then (fst 406 s5 7 (-1) fun s6 => if (v4.1 = 0 : Prop) then (some (0, v3.1, 0, v2.2, v4.2.1, v4.2.2.1, v4.2.2.2.1, v4.2.2.2.2.1, v4.2.2.2.2.2.1, v4.2.2.2.2.2.2.1, v4.2.2.2.2.2.2.2.1, v4.2.2.2.2.2.2.2.2.1, v4.2.2.2.2.2.2.2.2.2.1, v4.2.2.2.2.2.2.2.2.2.2.1, s6, v3.2)) else (some (v4.2.2.2.2.2.2.2.2.2.1, v3.1, 0, v2.2, v4.2.1, v4.2.2.1, v4.2.2.2.1, v4.2.2.2.2.1, v4.2.2.2.2.2.1, v4.2.2.2.2.2.2.1, v4.2.2.2.2.2.2.2.1, v4.2.2.2.2.2.2.2.2.1, v4.2.2.2.2.2.2.2.2.2.1, v4.2.2.2.2.2.2.2.2.2.2.1, s6, v3.2))) else (fst 406 s5 7 v4.2.2.2.2.2.2.2.2.2.2.1 fun s7 => if (v4.1 = 0 : Prop) then (some (0, v3.1, 0, v2.2, v4.2.1, v4.2.2.1, v4.2.2.2.1, v4.2.2.2.2.1, v4.2.2.2.2.2.1, v4.2.2.2.2.2.2.1, v4.2.2.2.2.2.2.2.1, v4.2.2.2.2.2.2.2.2.1, v4.2.2.2.2.2.2.2.2.2.1, v4.2.2.2.2.2.2.2.2.2.2.1, s7, v3.2)) else (some (v4.2.2.2.2.2.2.2.2.2.1, v3.1, 0, v2.2, v4.2.1, v4.2.2.1, v4.2.2.2.1, v4.2.2.2.2.1, v4.2.2.2.2.2.1, v4.2.2.2.2.2.2.1, v4.2.2.2.2.2.2.2.1, v4.2.2.2.2.2.2.2.2.1, v4.2.2.2.2.2.2.2.2.2.1, v4.2.2.2.2.2.2.2.2.2.2.1, s7, v3.2)))) else (fst 406 v4.2.2.2.2.2.2.2.2.2.2.2 6 v4.2.2.2.2.2.2.2.2.2.1 fun s8 => if (v4.2.2.2.2.2.2.2.2.2.2.1 ≤ 0 : Prop) then (fst 406 s8 7 (-1) fun s9 => if (v4.1 = 0 : Prop) then (some (0, v3.1, 0, v2.2, v4.2.1, v4.2.2.1, v4.2.2.2.1, v4.2.2.2.2.1, v4.2.2.2.2.2.1, v4.2.2.2.2.2.2.1, v4.2.2.2.2.2.2.2.1, v4.2.2.2.2.2.2.2.2.1, v4.2.2.2.2.2.2.2.2.2.1, v4.2.2.2.2.2.2.2.2.2.2.1, s9, v3.2)) else (some (v4.2.2.2.2.2.2.2.2.2.1, v3.1, 0, v2.2, v4.2.1, v4.2.2.1, v4.2.2.2.1, v4.2.2.2.2.1, v4.2.2.2.2.2.1, v4.2.2.2.2.2.2.1, v4.2.2.2.2.2.2.2.1, v4.2.2.2.2.2.2.2.2.1, v4.2.2.2.2.2.2.2.2.2.1, v4.2.2.2.2.2.2.2.2.2.2.1, s9, v3.2))) else (fst 406 s8 7 v4.2.2.2.2.2.2.2.2.2.2.1 fun s10 => if (v4.1 = 0 : Prop) then (some (0, v3.1, 0, v2.2, v4.2.1, v4.2.2.1, v4.2.2.2.1, v4.2.2.2.2.1, v4.2.2.2.2.2.1, v4.2.2.2.2.2.2.1, v4.2.2.2.2.2.2.2.1, v4.2.2.2.2.2.2.2.2.1, v4.2.2.2.2.2.2.2.2.2.1, v4.2.2.2.2.2.2.2.2.2.2.1, s10, v3.2)) else (some (v4.2.2.2.2.2.2.2.2.2.1, v3.1, 0, v2.2, v4.2.1, v4.2.2.1, v4.2.2.2.1, v4.2.2.2.2.1, v4.2.2.2.2.2.1, v4.2.2.2.2.2.2.1, v4.2.2.2.2.2.2.2.1, v4.2.2.2.2.2.2.2.2.1, v4.2.2.2.2.2.2.2.2.2.1, v4.2.2.2.2.2.2.2.2.2.2.1, s10, v3.2)))))) else ((s_X11_holds 0 M_thrown).bind fun v11 => if (v11.1 = 0 : Prop) then (some (0, M_savedMany, M_length, v11.2, v1.2.1, v1.2.2.1, v1.2.2.2.1, v1.2.2.2.2.1, v1.2.2.2.2.2.1, v1.2.2.2.2.2.2.1, v1.2.2.2.2.2.2.2.1, v1.2.2.2.2.2.2.2.2.1, v1.2.2.2.2.2.2.2.2.2.1, v1.2.2.2.2.2.2.2.2.2.2.1, v1.2.2.2.2.2.2.2.2.2.2.2, M_saved)) else ((s_X11_save M_savedMany v1.2.2.2.2.2.2.2.2.2.2.2 M_saved).bind fun v12 => (s_X11_readText 1 M_length v1.2.1 v1.2.2.1 v1.2.2.2.1 v1.2.2.2.2.1 v1.2.2.2.2.2.1 v1.2.2.2.2.2.2.1 v1.2.2.2.2.2.2.2.1 v1.2.2.2.2.2.2.2.2.1 v1.2.2.2.2.2.2.2.2.2.1 v1.2.2.2.2.2.2.2.2.2.2.1 v1.2.2.2.2.2.2.2.2.2.2.2 M_text).bind fun v13 => if (v13.2.2.2.2.2.2.2.2.2.2.1 ≤ 0 : Prop) then (fst 406 v13.2.2.2.2.2.2.2.2.2.2.2 6 (-1) fun s14 => if (v13.2.2.2.2.2.2.2.2.2.2.1 ≤ 0 : Prop) then (fst 406 s14 7 (-1) fun s15 => if (v13.1 = 0 : Prop) then (some (0, v12.1, 0, v11.2, v13.2.1, v13.2.2.1, v13.2.2.2.1, v13.2.2.2.2.1, v13.2.2.2.2.2.1, v13.2.2.2.2.2.2.1, v13.2.2.2.2.2.2.2.1, v13.2.2.2.2.2.2.2.2.1, v13.2.2.2.2.2.2.2.2.2.1, v13.2.2.2.2.2.2.2.2.2.2.1, s15, v12.2)) else (some (v13.2.2.2.2.2.2.2.2.2.1, v12.1, 0, v11.2, v13.2.1, v13.2.2.1, v13.2.2.2.1, v13.2.2.2.2.1, v13.2.2.2.2.2.1, v13.2.2.2.2.2.2.1, v13.2.2.2.2.2.2.2.1, v13.2.2.2.2.2.2.2.2.1, v13.2.2.2.2.2.2.2.2.2.1, v13.2.2.2.2.2.2.2.2.2.2.1, s15, v12.2))) else (fst 406 s14 7 v13.2.2.2.2.2.2.2.2.2.2.1 fun s16 => if (v13.1 = 0 : Prop) then (some (0, v12.1, 0, v11.2, v13.2.1, v13.2.2.1, v13.2.2.2.1, v13.2.2.2.2.1, v13.2.2.2.2.2.1, v13.2.2.2.2.2.2.1, v13.2.2.2.2.2.2.2.1, v13.2.2.2.2.2.2.2.2.1, v13.2.2.2.2.2.2.2.2.2.1, v13.2.2.2.2.2.2.2.2.2.2.1, s16, v12.2)) else (some (v13.2.2.2.2.2.2.2.2.2.1, v12.1, 0, v11.2, v13.2.1, v13.2.2.1, v13.2.2.2.1, v13.2.2.2.2.1, v13.2.2.2.2.2.1, v13.2.2.2.2.2.2.1, v13.2.2.2.2.2.2.2.1, v13.2.2.2.2.2.2.2.2.1, v13.2.2.2.2.2.2.2.2.2.1, v13.2.2.2.2.2.2.2.2.2.2.1, s16, v12.2)))) else (fst 406 v13.2.2.2.2.2.2.2.2.2.2.2 6 v13.2.2.2.2.2.2.2.2.2.1 fun s17 => if (v13.2.2.2.2.2.2.2.2.2.2.1 ≤ 0 : Prop) then (fst 406 s17 7 (-1) fun s18 => if (v13.1 = 0 : Prop) then (some (0, v12.1, 0, v11.2, v13.2.1, v13.2.2.1, v13.2.2.2.1, v13.2.2.2.2.1, v13.2.2.2.2.2.1, v13.2.2.2.2.2.2.1, v13.2.2.2.2.2.2.2.1, v13.2.2.2.2.2.2.2.2.1, v13.2.2.2.2.2.2.2.2.2.1, v13.2.2.2.2.2.2.2.2.2.2.1, s18, v12.2)) else (some (v13.2.2.2.2.2.2.2.2.2.1, v12.1, 0, v11.2, v13.2.1, v13.2.2.1, v13.2.2.2.1, v13.2.2.2.2.1, v13.2.2.2.2.2.1, v13.2.2.2.2.2.2.1, v13.2.2.2.2.2.2.2.1, v13.2.2.2.2.2.2.2.2.1, v13.2.2.2.2.2.2.2.2.2.1, v13.2.2.2.2.2.2.2.2.2.2.1, s18, v12.2))) else (fst 406 s17 7 v13.2.2.2.2.2.2.2.2.2.2.1 fun s19 => if (v13.1 = 0 : Prop) then (some (0, v12.1, 0, v11.2, v13.2.1, v13.2.2.1, v13.2.2.2.1, v13.2.2.2.2.1, v13.2.2.2.2.2.1, v13.2.2.2.2.2.2.1, v13.2.2.2.2.2.2.2.1, v13.2.2.2.2.2.2.2.2.1, v13.2.2.2.2.2.2.2.2.2.1, v13.2.2.2.2.2.2.2.2.2.2.1, s19, v12.2)) else (some (v13.2.2.2.2.2.2.2.2.2.1, v12.1, 0, v11.2, v13.2.1, v13.2.2.1, v13.2.2.2.1, v13.2.2.2.2.1, v13.2.2.2.2.2.1, v13.2.2.2.2.2.2.1, v13.2.2.2.2.2.2.2.1, v13.2.2.2.2.2.2.2.2.1, v13.2.2.2.2.2.2.2.2.2.1, v13.2.2.2.2.2.2.2.2.2.2.1, s19, v12.2))))))
set_option maxHeartbeats 4000000 in
set_option maxRecDepth 100000 in
theorem ct_X11_work {M_savedMany : Int32} {M_isTaken : Int32} {M_length : Int32} {M_thrown : Int32} {M_spelt : Int32} {M_speltMany : Int32} {M_place : Int32} {M_kind : Int32} {M_one : Int32} {M_two : Int32} {M_three : Int32} {M_begins : Int32} {M_done : Int32} {M_stopBy : Int32} {M_hash : Int64} {M_s : Nat → Int32} {M_saved : Nat → Int32} {M_snapshot : Nat → Int32} {M_text : Nat → Int32} {res : Int32 × (Int32) × (Int32) × (Int32) × (Int32) × (Int32) × (Int32) × (Int32) × (Int32) × (Int32) × (Int32) × (Int32) × (Int32) × (Int32) × (Nat → Int32) × (Nat → Int32)} (hf : s_X11_work M_savedMany M_length M_thrown M_spelt M_speltMany M_place M_kind M_one M_two M_three M_begins M_done M_stopBy M_s M_saved M_text = some res) : Ct k_X11_work [.ref 0] [.inl (6, [.ref 1, .ref 2, .int M_savedMany, .ref 3, .int M_isTaken, .ref 4, .int M_length, .int M_thrown, .int M_spelt, .int M_speltMany, .int M_place, .int M_kind, .int M_one, .int M_two, .int M_three, .int M_begins, .int M_done, .int M_stopBy, .long M_hash]), .inr (406, .inl M_s), .inr (2436, .inl M_saved), .inr (406, .inl M_snapshot), .inr (60, .inl M_text)] (.inl (some (.int res.1))) [.inl (6, [.ref 1, .ref 2, .int res.2.1, .ref 3, .int M_isTaken, .ref 4, .int res.2.2.1, .int res.2.2.2.1, .int res.2.2.2.2.1, .int res.2.2.2.2.2.1, .int res.2.2.2.2.2.2.1, .int res.2.2.2.2.2.2.2.1, .int res.2.2.2.2.2.2.2.2.1, .int res.2.2.2.2.2.2.2.2.2.1, .int res.2.2.2.2.2.2.2.2.2.2.1, .int res.2.2.2.2.2.2.2.2.2.2.2.1, .int res.2.2.2.2.2.2.2.2.2.2.2.2.1, .int res.2.2.2.2.2.2.2.2.2.2.2.2.2.1, .long M_hash]), .inr (406, .inl res.2.2.2.2.2.2.2.2.2.2.2.2.2.2.1), .inr (2436, .inl res.2.2.2.2.2.2.2.2.2.2.2.2.2.2.2), .inr (406, .inl M_snapshot), .inr (60, .inl M_text)] := by
  unfold s_X11_work at hf
  refine Ct.of (L := [some (.ref 0), none]) cal_X11_work (fent_pad (j := 1) rfl) (Nat.le_of_ble_eq_true rfl) ?_
  refine V.aload_n (i := 0) dX11_work_0 rfl rfl ?_
  refine V.aload_n (i := 0) dX11_work_1 rfl rfl ?_
  refine V.iconst (v := 0) dX11_work_2 rfl ?_
  obtain ⟨v1, hv1, hf⟩ := fbind hf
  refine V.callVn (pl := [0, 1, 2, 3, 4]) (σ' := [.inl (6, [.ref 1, .ref 2, .int M_savedMany, .ref 3, .int M_isTaken, .ref 4, .int M_length, .int M_thrown, .int v1.2.1, .int v1.2.2.1, .int v1.2.2.2.1, .int v1.2.2.2.2.1, .int v1.2.2.2.2.2.1, .int v1.2.2.2.2.2.2.1, .int v1.2.2.2.2.2.2.2.1, .int v1.2.2.2.2.2.2.2.2.1, .int v1.2.2.2.2.2.2.2.2.2.1, .int v1.2.2.2.2.2.2.2.2.2.2.1, .long M_hash]), .inr (406, .inl v1.2.2.2.2.2.2.2.2.2.2.2), .inr (2436, .inl M_saved), .inr (406, .inl M_snapshot), .inr (60, .inl M_text)]) (st2 := [.int v1.1, .ref 0]) (cl2 := 0) (sl2 := 0) (ct_X11_readText (a1 := 0) (M_savedMany := M_savedMany) (M_isTaken := M_isTaken) (M_length := M_length) (M_thrown := M_thrown) (M_spelt := M_spelt) (M_speltMany := M_speltMany) (M_place := M_place) (M_kind := M_kind) (M_one := M_one) (M_two := M_two) (M_three := M_three) (M_begins := M_begins) (M_done := M_done) (M_stopBy := M_stopBy) (M_hash := M_hash) (M_s := M_s) (M_saved := M_saved) (M_snapshot := M_snapshot) (M_text := M_text) hv1) dX11_work_3 w1283 ⟨w1285, w35⟩ cal_X11_readText rfl ⟨⟨Nat.le_of_ble_eq_true rfl, Nat.le_of_ble_eq_true rfl⟩, Nat.le_of_ble_eq_true rfl, Nat.le_of_ble_eq_true rfl⟩ (Nat.le_of_ble_eq_true rfl) (Or.inl ⟨_, _, _, _, rfl, rfl⟩) rfl ⟨rfl, ⟨by decide, by decide⟩, rfl, (fr_cons (Or.inl (Nat.le_of_ble_eq_true rfl)) (fr_cons (Or.inl (Nat.le_of_ble_eq_true rfl)) (fr_cons (Or.inl (Nat.le_of_ble_eq_true rfl)) (fr_cons (Or.inl (Nat.le_of_ble_eq_true rfl)) (fr_nil))))), rfl⟩ fr_i rfl rfl rfl rfl ?_
  refine V.if_eq (tgt := 13) dX11_work_6 (by decide) (fun h => ?_) (fun h => ?_)
  · have hf := fif_t h hf
    refine V.iconst (v := 1) dX11_work_13 rfl ?_
    obtain ⟨v2, hv2, hf⟩ := fbind hf
    refine V.callVn (pl := [0, 1, 2, 3, 4]) (σ' := [.inl (6, [.ref 1, .ref 2, .int M_savedMany, .ref 3, .int M_isTaken, .ref 4, .int M_length, .int v2.2, .int v1.2.1, .int v1.2.2.1, .int v1.2.2.2.1, .int v1.2.2.2.2.1, .int v1.2.2.2.2.2.1, .int v1.2.2.2.2.2.2.1, .int v1.2.2.2.2.2.2.2.1, .int v1.2.2.2.2.2.2.2.2.1, .int v1.2.2.2.2.2.2.2.2.2.1, .int v1.2.2.2.2.2.2.2.2.2.2.1, .long M_hash]), .inr (406, .inl v1.2.2.2.2.2.2.2.2.2.2.2), .inr (2436, .inl M_saved), .inr (406, .inl M_snapshot), .inr (60, .inl M_text)]) (st2 := [.int v2.1]) (cl2 := 0) (sl2 := 0) (ct_X11_holds (a1 := 1) (M_savedMany := M_savedMany) (M_isTaken := M_isTaken) (M_length := M_length) (M_thrown := M_thrown) (M_spelt := v1.2.1) (M_speltMany := v1.2.2.1) (M_place := v1.2.2.2.1) (M_kind := v1.2.2.2.2.1) (M_one := v1.2.2.2.2.2.1) (M_two := v1.2.2.2.2.2.2.1) (M_three := v1.2.2.2.2.2.2.2.1) (M_begins := v1.2.2.2.2.2.2.2.2.1) (M_done := v1.2.2.2.2.2.2.2.2.2.1) (M_stopBy := v1.2.2.2.2.2.2.2.2.2.2.1) (M_hash := M_hash) (M_s := v1.2.2.2.2.2.2.2.2.2.2.2) (M_saved := M_saved) (M_snapshot := M_snapshot) (M_text := M_text) hv2) dX11_work_14 w1181 ⟨w1183, w20⟩ cal_X11_holds rfl ⟨⟨Nat.le_of_ble_eq_true rfl, Nat.le_of_ble_eq_true rfl⟩, Nat.le_of_ble_eq_true rfl, Nat.le_of_ble_eq_true rfl⟩ (Nat.le_of_ble_eq_true rfl) (Or.inl ⟨_, _, _, _, rfl, rfl⟩) rfl ⟨rfl, ⟨by decide, by decide⟩, rfl, (fr_cons (Or.inl (Nat.le_of_ble_eq_true rfl)) (fr_cons (Or.inl (Nat.le_of_ble_eq_true rfl)) (fr_cons (Or.inl (Nat.le_of_ble_eq_true rfl)) (fr_cons (Or.inl (Nat.le_of_ble_eq_true rfl)) (fr_nil))))), rfl⟩ fr_i rfl rfl rfl rfl ?_
    refine V.if_ne (tgt := 22) dX11_work_17 (by decide) (fun h => ?_) (fun h => ?_)
    · have hf := fif_f h hf
      refine V.aload_n (i := 0) dX11_work_22 rfl rfl ?_
      obtain ⟨v3, hv3, hf⟩ := fbind hf
      refine V.callVn (pl := [0, 1, 2, 3, 4]) (σ' := [.inl (6, [.ref 1, .ref 2, .int v3.1, .ref 3, .int M_isTaken, .ref 4, .int M_length, .int v2.2, .int v1.2.1, .int v1.2.2.1, .int v1.2.2.2.1, .int v1.2.2.2.2.1, .int v1.2.2.2.2.2.1, .int v1.2.2.2.2.2.2.1, .int v1.2.2.2.2.2.2.2.1, .int v1.2.2.2.2.2.2.2.2.1, .int v1.2.2.2.2.2.2.2.2.2.1, .int v1.2.2.2.2.2.2.2.2.2.2.1, .long M_hash]), .inr (406, .inl v1.2.2.2.2.2.2.2.2.2.2.2), .inr (2436, .inl v3.2), .inr (406, .inl M_snapshot), .inr (60, .inl M_text)]) (st2 := []) (cl2 := 0) (sl2 := 0) (ct_X11_save (M_savedMany := M_savedMany) (M_isTaken := M_isTaken) (M_length := M_length) (M_thrown := v2.2) (M_spelt := v1.2.1) (M_speltMany := v1.2.2.1) (M_place := v1.2.2.2.1) (M_kind := v1.2.2.2.2.1) (M_one := v1.2.2.2.2.2.1) (M_two := v1.2.2.2.2.2.2.1) (M_three := v1.2.2.2.2.2.2.2.1) (M_begins := v1.2.2.2.2.2.2.2.2.1) (M_done := v1.2.2.2.2.2.2.2.2.2.1) (M_stopBy := v1.2.2.2.2.2.2.2.2.2.2.1) (M_hash := M_hash) (M_s := v1.2.2.2.2.2.2.2.2.2.2.2) (M_saved := M_saved) (M_snapshot := M_snapshot) (M_text := M_text) hv3) dX11_work_23 w1185 ⟨w1187, w21⟩ cal_X11_save rfl ⟨⟨Nat.le_of_ble_eq_true rfl, Nat.le_of_ble_eq_true rfl⟩, Nat.le_of_ble_eq_true rfl, Nat.le_of_ble_eq_true rfl⟩ (Nat.le_of_ble_eq_true rfl) (Or.inl ⟨_, _, _, _, rfl, rfl⟩) rfl ⟨rfl, ⟨by decide, by decide⟩, rfl, (fr_cons (Or.inl (Nat.le_of_ble_eq_true rfl)) (fr_cons (Or.inl (Nat.le_of_ble_eq_true rfl)) (fr_cons (Or.inl (Nat.le_of_ble_eq_true rfl)) (fr_cons (Or.inl (Nat.le_of_ble_eq_true rfl)) (fr_nil))))), rfl⟩ fr_v rfl rfl rfl rfl ?_
      refine V.aload_n (i := 0) dX11_work_26 rfl rfl ?_
      refine V.iconst (v := 1) dX11_work_27 rfl ?_
      obtain ⟨v4, hv4, hf⟩ := fbind hf
      refine V.callVn (pl := [0, 1, 2, 3, 4]) (σ' := [.inl (6, [.ref 1, .ref 2, .int v3.1, .ref 3, .int M_isTaken, .ref 4, .int M_length, .int v2.2, .int v4.2.1, .int v4.2.2.1, .int v4.2.2.2.1, .int v4.2.2.2.2.1, .int v4.2.2.2.2.2.1, .int v4.2.2.2.2.2.2.1, .int v4.2.2.2.2.2.2.2.1, .int v4.2.2.2.2.2.2.2.2.1, .int v4.2.2.2.2.2.2.2.2.2.1, .int v4.2.2.2.2.2.2.2.2.2.2.1, .long M_hash]), .inr (406, .inl v4.2.2.2.2.2.2.2.2.2.2.2), .inr (2436, .inl v3.2), .inr (406, .inl M_snapshot), .inr (60, .inl M_text)]) (st2 := [.int v4.1]) (cl2 := 0) (sl2 := 0) (ct_X11_readText (a1 := 1) (M_savedMany := v3.1) (M_isTaken := M_isTaken) (M_length := M_length) (M_thrown := v2.2) (M_spelt := v1.2.1) (M_speltMany := v1.2.2.1) (M_place := v1.2.2.2.1) (M_kind := v1.2.2.2.2.1) (M_one := v1.2.2.2.2.2.1) (M_two := v1.2.2.2.2.2.2.1) (M_three := v1.2.2.2.2.2.2.2.1) (M_begins := v1.2.2.2.2.2.2.2.2.1) (M_done := v1.2.2.2.2.2.2.2.2.2.1) (M_stopBy := v1.2.2.2.2.2.2.2.2.2.2.1) (M_hash := M_hash) (M_s := v1.2.2.2.2.2.2.2.2.2.2.2) (M_saved := v3.2) (M_snapshot := M_snapshot) (M_text := M_text) hv4) dX11_work_28 w1283 ⟨w1285, w35⟩ cal_X11_readText rfl ⟨⟨Nat.le_of_ble_eq_true rfl, Nat.le_of_ble_eq_true rfl⟩, Nat.le_of_ble_eq_true rfl, Nat.le_of_ble_eq_true rfl⟩ (Nat.le_of_ble_eq_true rfl) (Or.inl ⟨_, _, _, _, rfl, rfl⟩) rfl ⟨rfl, ⟨by decide, by decide⟩, rfl, (fr_cons (Or.inl (Nat.le_of_ble_eq_true rfl)) (fr_cons (Or.inl (Nat.le_of_ble_eq_true rfl)) (fr_cons (Or.inl (Nat.le_of_ble_eq_true rfl)) (fr_cons (Or.inl (Nat.le_of_ble_eq_true rfl)) (fr_nil))))), rfl⟩ fr_i rfl rfl rfl rfl ?_
      refine V.istore_n (i := 1) (L' := [some (.ref 0), some (.int v4.1)]) dX11_work_31 rfl (Nat.le_of_ble_eq_true rfl) rfl rfl ?_
      refine V.aload_n (i := 0) dX11_work_32 rfl rfl ?_
      refine V.getfield (kf := 0) (v := .ref 1) fl_RX11 dX11_work_33 w1043 (Nat.le_of_ble_eq_true rfl) rfl rfl ?_
      refine V.bipush (v := 6) dX11_work_36 rfl ?_
      refine V.aload_n (i := 0) dX11_work_38 rfl rfl ?_
      refine V.getfield (kf := 17) (v := .int v4.2.2.2.2.2.2.2.2.2.2.1) fl_RX11 dX11_work_39 w1060 (Nat.le_of_ble_eq_true rfl) rfl rfl ?_
      refine V.if_le (tgt := 52) dX11_work_42 (by decide) (fun h => ?_) (fun h => ?_)
      · have hf := fif_t h hf
        refine V.iconst (v := (-1)) dX11_work_52 rfl ?_
        obtain ⟨hi, s5, es5, hf⟩ := fst_e hf
        refine V.fst (σ' := [.inl (6, [.ref 1, .ref 2, .int v3.1, .ref 3, .int M_isTaken, .ref 4, .int M_length, .int v2.2, .int v4.2.1, .int v4.2.2.1, .int v4.2.2.2.1, .int v4.2.2.2.2.1, .int v4.2.2.2.2.2.1, .int v4.2.2.2.2.2.2.1, .int v4.2.2.2.2.2.2.2.1, .int v4.2.2.2.2.2.2.2.2.1, .int v4.2.2.2.2.2.2.2.2.2.1, .int v4.2.2.2.2.2.2.2.2.2.2.1, .long M_hash]), .inr (406, .inl s5), .inr (2436, .inl v3.2), .inr (406, .inl M_snapshot), .inr (60, .inl M_text)]) dX11_work_53 rfl hi es5 rfl ?_
        refine V.aload_n (i := 0) dX11_work_54 rfl rfl ?_
        refine V.getfield (kf := 0) (v := .ref 1) fl_RX11 dX11_work_55 w1043 (Nat.le_of_ble_eq_true rfl) rfl rfl ?_
        refine V.bipush (v := 7) dX11_work_58 rfl ?_
        refine V.aload_n (i := 0) dX11_work_60 rfl rfl ?_
        refine V.getfield (kf := 17) (v := .int v4.2.2.2.2.2.2.2.2.2.2.1) fl_RX11 dX11_work_61 w1060 (Nat.le_of_ble_eq_true rfl) rfl rfl ?_
        refine V.if_le (tgt := 74) dX11_work_64 (by decide) (fun h => ?_) (fun h => ?_)
        · have hf := fif_t h hf
          refine V.iconst (v := (-1)) dX11_work_74 rfl ?_
          obtain ⟨hi, s6, es6, hf⟩ := fst_e hf
          refine V.fst (σ' := [.inl (6, [.ref 1, .ref 2, .int v3.1, .ref 3, .int M_isTaken, .ref 4, .int M_length, .int v2.2, .int v4.2.1, .int v4.2.2.1, .int v4.2.2.2.1, .int v4.2.2.2.2.1, .int v4.2.2.2.2.2.1, .int v4.2.2.2.2.2.2.1, .int v4.2.2.2.2.2.2.2.1, .int v4.2.2.2.2.2.2.2.2.1, .int v4.2.2.2.2.2.2.2.2.2.1, .int v4.2.2.2.2.2.2.2.2.2.2.1, .long M_hash]), .inr (406, .inl s6), .inr (2436, .inl v3.2), .inr (406, .inl M_snapshot), .inr (60, .inl M_text)]) dX11_work_75 rfl hi es6 rfl ?_
          refine V.aload_n (i := 0) dX11_work_76 rfl rfl ?_
          refine V.iconst (v := 0) dX11_work_77 rfl ?_
          refine V.putfield (ty := tyX11) (kf := 6) (σ' := [.inl (6, [.ref 1, .ref 2, .int v3.1, .ref 3, .int M_isTaken, .ref 4, .int 0, .int v2.2, .int v4.2.1, .int v4.2.2.1, .int v4.2.2.2.1, .int v4.2.2.2.2.1, .int v4.2.2.2.2.2.1, .int v4.2.2.2.2.2.2.1, .int v4.2.2.2.2.2.2.2.1, .int v4.2.2.2.2.2.2.2.2.1, .int v4.2.2.2.2.2.2.2.2.2.1, .int v4.2.2.2.2.2.2.2.2.2.2.1, .long M_hash]), .inr (406, .inl s6), .inr (2436, .inl v3.2), .inr (406, .inl M_snapshot), .inr (60, .inl M_text)]) fl_RX11 dX11_work_78 w1049 (Nat.le_of_ble_eq_true rfl) rfl (fun _ => ⟨rfl, rfl⟩) rfl (Nat.le_of_ble_eq_true rfl) rfl ?_
          refine V.iload_n (i := 1) dX11_work_81 rfl rfl ?_
          refine V.if_eq (tgt := 92) dX11_work_82 (by decide) (fun h => ?_) (fun h => ?_)
          · have hf := fif_t h hf
            refine V.iconst (v := 0) dX11_work_92 rfl ?_
            obtain rfl := Option.some.inj hf
            exact V.iret dX11_work_93 rfl (Nat.le_of_ble_eq_true rfl) (Nat.le_of_ble_eq_true rfl) rfl
          · have hf := fif_f h hf
            refine V.aload_n (i := 0) dX11_work_85 rfl rfl ?_
            refine V.getfield (kf := 16) (v := .int v4.2.2.2.2.2.2.2.2.2.1) fl_RX11 dX11_work_86 w1059 (Nat.le_of_ble_eq_true rfl) rfl rfl ?_
            refine V.goto (tgt := 93) dX11_work_89 (by decide) ?_
            obtain rfl := Option.some.inj hf
            exact V.iret dX11_work_93 rfl (Nat.le_of_ble_eq_true rfl) (Nat.le_of_ble_eq_true rfl) rfl
        · have hf := fif_f h hf
          refine V.aload_n (i := 0) dX11_work_67 rfl rfl ?_
          refine V.getfield (kf := 17) (v := .int v4.2.2.2.2.2.2.2.2.2.2.1) fl_RX11 dX11_work_68 w1060 (Nat.le_of_ble_eq_true rfl) rfl rfl ?_
          refine V.goto (tgt := 75) dX11_work_71 (by decide) ?_
          obtain ⟨hi, s7, es7, hf⟩ := fst_e hf
          refine V.fst (σ' := [.inl (6, [.ref 1, .ref 2, .int v3.1, .ref 3, .int M_isTaken, .ref 4, .int M_length, .int v2.2, .int v4.2.1, .int v4.2.2.1, .int v4.2.2.2.1, .int v4.2.2.2.2.1, .int v4.2.2.2.2.2.1, .int v4.2.2.2.2.2.2.1, .int v4.2.2.2.2.2.2.2.1, .int v4.2.2.2.2.2.2.2.2.1, .int v4.2.2.2.2.2.2.2.2.2.1, .int v4.2.2.2.2.2.2.2.2.2.2.1, .long M_hash]), .inr (406, .inl s7), .inr (2436, .inl v3.2), .inr (406, .inl M_snapshot), .inr (60, .inl M_text)]) dX11_work_75 rfl hi es7 rfl ?_
          refine V.aload_n (i := 0) dX11_work_76 rfl rfl ?_
          refine V.iconst (v := 0) dX11_work_77 rfl ?_
          refine V.putfield (ty := tyX11) (kf := 6) (σ' := [.inl (6, [.ref 1, .ref 2, .int v3.1, .ref 3, .int M_isTaken, .ref 4, .int 0, .int v2.2, .int v4.2.1, .int v4.2.2.1, .int v4.2.2.2.1, .int v4.2.2.2.2.1, .int v4.2.2.2.2.2.1, .int v4.2.2.2.2.2.2.1, .int v4.2.2.2.2.2.2.2.1, .int v4.2.2.2.2.2.2.2.2.1, .int v4.2.2.2.2.2.2.2.2.2.1, .int v4.2.2.2.2.2.2.2.2.2.2.1, .long M_hash]), .inr (406, .inl s7), .inr (2436, .inl v3.2), .inr (406, .inl M_snapshot), .inr (60, .inl M_text)]) fl_RX11 dX11_work_78 w1049 (Nat.le_of_ble_eq_true rfl) rfl (fun _ => ⟨rfl, rfl⟩) rfl (Nat.le_of_ble_eq_true rfl) rfl ?_
          refine V.iload_n (i := 1) dX11_work_81 rfl rfl ?_
          refine V.if_eq (tgt := 92) dX11_work_82 (by decide) (fun h => ?_) (fun h => ?_)
          · have hf := fif_t h hf
            refine V.iconst (v := 0) dX11_work_92 rfl ?_
            obtain rfl := Option.some.inj hf
            exact V.iret dX11_work_93 rfl (Nat.le_of_ble_eq_true rfl) (Nat.le_of_ble_eq_true rfl) rfl
          · have hf := fif_f h hf
            refine V.aload_n (i := 0) dX11_work_85 rfl rfl ?_
            refine V.getfield (kf := 16) (v := .int v4.2.2.2.2.2.2.2.2.2.1) fl_RX11 dX11_work_86 w1059 (Nat.le_of_ble_eq_true rfl) rfl rfl ?_
            refine V.goto (tgt := 93) dX11_work_89 (by decide) ?_
            obtain rfl := Option.some.inj hf
            exact V.iret dX11_work_93 rfl (Nat.le_of_ble_eq_true rfl) (Nat.le_of_ble_eq_true rfl) rfl
      · have hf := fif_f h hf
        refine V.aload_n (i := 0) dX11_work_45 rfl rfl ?_
        refine V.getfield (kf := 16) (v := .int v4.2.2.2.2.2.2.2.2.2.1) fl_RX11 dX11_work_46 w1059 (Nat.le_of_ble_eq_true rfl) rfl rfl ?_
        refine V.goto (tgt := 53) dX11_work_49 (by decide) ?_
        obtain ⟨hi, s8, es8, hf⟩ := fst_e hf
        refine V.fst (σ' := [.inl (6, [.ref 1, .ref 2, .int v3.1, .ref 3, .int M_isTaken, .ref 4, .int M_length, .int v2.2, .int v4.2.1, .int v4.2.2.1, .int v4.2.2.2.1, .int v4.2.2.2.2.1, .int v4.2.2.2.2.2.1, .int v4.2.2.2.2.2.2.1, .int v4.2.2.2.2.2.2.2.1, .int v4.2.2.2.2.2.2.2.2.1, .int v4.2.2.2.2.2.2.2.2.2.1, .int v4.2.2.2.2.2.2.2.2.2.2.1, .long M_hash]), .inr (406, .inl s8), .inr (2436, .inl v3.2), .inr (406, .inl M_snapshot), .inr (60, .inl M_text)]) dX11_work_53 rfl hi es8 rfl ?_
        refine V.aload_n (i := 0) dX11_work_54 rfl rfl ?_
        refine V.getfield (kf := 0) (v := .ref 1) fl_RX11 dX11_work_55 w1043 (Nat.le_of_ble_eq_true rfl) rfl rfl ?_
        refine V.bipush (v := 7) dX11_work_58 rfl ?_
        refine V.aload_n (i := 0) dX11_work_60 rfl rfl ?_
        refine V.getfield (kf := 17) (v := .int v4.2.2.2.2.2.2.2.2.2.2.1) fl_RX11 dX11_work_61 w1060 (Nat.le_of_ble_eq_true rfl) rfl rfl ?_
        refine V.if_le (tgt := 74) dX11_work_64 (by decide) (fun h => ?_) (fun h => ?_)
        · have hf := fif_t h hf
          refine V.iconst (v := (-1)) dX11_work_74 rfl ?_
          obtain ⟨hi, s9, es9, hf⟩ := fst_e hf
          refine V.fst (σ' := [.inl (6, [.ref 1, .ref 2, .int v3.1, .ref 3, .int M_isTaken, .ref 4, .int M_length, .int v2.2, .int v4.2.1, .int v4.2.2.1, .int v4.2.2.2.1, .int v4.2.2.2.2.1, .int v4.2.2.2.2.2.1, .int v4.2.2.2.2.2.2.1, .int v4.2.2.2.2.2.2.2.1, .int v4.2.2.2.2.2.2.2.2.1, .int v4.2.2.2.2.2.2.2.2.2.1, .int v4.2.2.2.2.2.2.2.2.2.2.1, .long M_hash]), .inr (406, .inl s9), .inr (2436, .inl v3.2), .inr (406, .inl M_snapshot), .inr (60, .inl M_text)]) dX11_work_75 rfl hi es9 rfl ?_
          refine V.aload_n (i := 0) dX11_work_76 rfl rfl ?_
          refine V.iconst (v := 0) dX11_work_77 rfl ?_
          refine V.putfield (ty := tyX11) (kf := 6) (σ' := [.inl (6, [.ref 1, .ref 2, .int v3.1, .ref 3, .int M_isTaken, .ref 4, .int 0, .int v2.2, .int v4.2.1, .int v4.2.2.1, .int v4.2.2.2.1, .int v4.2.2.2.2.1, .int v4.2.2.2.2.2.1, .int v4.2.2.2.2.2.2.1, .int v4.2.2.2.2.2.2.2.1, .int v4.2.2.2.2.2.2.2.2.1, .int v4.2.2.2.2.2.2.2.2.2.1, .int v4.2.2.2.2.2.2.2.2.2.2.1, .long M_hash]), .inr (406, .inl s9), .inr (2436, .inl v3.2), .inr (406, .inl M_snapshot), .inr (60, .inl M_text)]) fl_RX11 dX11_work_78 w1049 (Nat.le_of_ble_eq_true rfl) rfl (fun _ => ⟨rfl, rfl⟩) rfl (Nat.le_of_ble_eq_true rfl) rfl ?_
          refine V.iload_n (i := 1) dX11_work_81 rfl rfl ?_
          refine V.if_eq (tgt := 92) dX11_work_82 (by decide) (fun h => ?_) (fun h => ?_)
          · have hf := fif_t h hf
            refine V.iconst (v := 0) dX11_work_92 rfl ?_
            obtain rfl := Option.some.inj hf
            exact V.iret dX11_work_93 rfl (Nat.le_of_ble_eq_true rfl) (Nat.le_of_ble_eq_true rfl) rfl
          · have hf := fif_f h hf
            refine V.aload_n (i := 0) dX11_work_85 rfl rfl ?_
            refine V.getfield (kf := 16) (v := .int v4.2.2.2.2.2.2.2.2.2.1) fl_RX11 dX11_work_86 w1059 (Nat.le_of_ble_eq_true rfl) rfl rfl ?_
            refine V.goto (tgt := 93) dX11_work_89 (by decide) ?_
            obtain rfl := Option.some.inj hf
            exact V.iret dX11_work_93 rfl (Nat.le_of_ble_eq_true rfl) (Nat.le_of_ble_eq_true rfl) rfl
        · have hf := fif_f h hf
          refine V.aload_n (i := 0) dX11_work_67 rfl rfl ?_
          refine V.getfield (kf := 17) (v := .int v4.2.2.2.2.2.2.2.2.2.2.1) fl_RX11 dX11_work_68 w1060 (Nat.le_of_ble_eq_true rfl) rfl rfl ?_
          refine V.goto (tgt := 75) dX11_work_71 (by decide) ?_
          obtain ⟨hi, s10, es10, hf⟩ := fst_e hf
          refine V.fst (σ' := [.inl (6, [.ref 1, .ref 2, .int v3.1, .ref 3, .int M_isTaken, .ref 4, .int M_length, .int v2.2, .int v4.2.1, .int v4.2.2.1, .int v4.2.2.2.1, .int v4.2.2.2.2.1, .int v4.2.2.2.2.2.1, .int v4.2.2.2.2.2.2.1, .int v4.2.2.2.2.2.2.2.1, .int v4.2.2.2.2.2.2.2.2.1, .int v4.2.2.2.2.2.2.2.2.2.1, .int v4.2.2.2.2.2.2.2.2.2.2.1, .long M_hash]), .inr (406, .inl s10), .inr (2436, .inl v3.2), .inr (406, .inl M_snapshot), .inr (60, .inl M_text)]) dX11_work_75 rfl hi es10 rfl ?_
          refine V.aload_n (i := 0) dX11_work_76 rfl rfl ?_
          refine V.iconst (v := 0) dX11_work_77 rfl ?_
          refine V.putfield (ty := tyX11) (kf := 6) (σ' := [.inl (6, [.ref 1, .ref 2, .int v3.1, .ref 3, .int M_isTaken, .ref 4, .int 0, .int v2.2, .int v4.2.1, .int v4.2.2.1, .int v4.2.2.2.1, .int v4.2.2.2.2.1, .int v4.2.2.2.2.2.1, .int v4.2.2.2.2.2.2.1, .int v4.2.2.2.2.2.2.2.1, .int v4.2.2.2.2.2.2.2.2.1, .int v4.2.2.2.2.2.2.2.2.2.1, .int v4.2.2.2.2.2.2.2.2.2.2.1, .long M_hash]), .inr (406, .inl s10), .inr (2436, .inl v3.2), .inr (406, .inl M_snapshot), .inr (60, .inl M_text)]) fl_RX11 dX11_work_78 w1049 (Nat.le_of_ble_eq_true rfl) rfl (fun _ => ⟨rfl, rfl⟩) rfl (Nat.le_of_ble_eq_true rfl) rfl ?_
          refine V.iload_n (i := 1) dX11_work_81 rfl rfl ?_
          refine V.if_eq (tgt := 92) dX11_work_82 (by decide) (fun h => ?_) (fun h => ?_)
          · have hf := fif_t h hf
            refine V.iconst (v := 0) dX11_work_92 rfl ?_
            obtain rfl := Option.some.inj hf
            exact V.iret dX11_work_93 rfl (Nat.le_of_ble_eq_true rfl) (Nat.le_of_ble_eq_true rfl) rfl
          · have hf := fif_f h hf
            refine V.aload_n (i := 0) dX11_work_85 rfl rfl ?_
            refine V.getfield (kf := 16) (v := .int v4.2.2.2.2.2.2.2.2.2.1) fl_RX11 dX11_work_86 w1059 (Nat.le_of_ble_eq_true rfl) rfl rfl ?_
            refine V.goto (tgt := 93) dX11_work_89 (by decide) ?_
            obtain rfl := Option.some.inj hf
            exact V.iret dX11_work_93 rfl (Nat.le_of_ble_eq_true rfl) (Nat.le_of_ble_eq_true rfl) rfl
    · have hf := fif_t h hf
      refine V.iconst (v := 0) dX11_work_20 rfl ?_
      obtain rfl := Option.some.inj hf
      exact V.iret dX11_work_21 rfl (Nat.le_of_ble_eq_true rfl) (Nat.le_of_ble_eq_true rfl) rfl
  · have hf := fif_f h hf
    refine V.iconst (v := 0) dX11_work_9 rfl ?_
    refine V.goto (tgt := 14) dX11_work_10 (by decide) ?_
    obtain ⟨v11, hv11, hf⟩ := fbind hf
    refine V.callVn (pl := [0, 1, 2, 3, 4]) (σ' := [.inl (6, [.ref 1, .ref 2, .int M_savedMany, .ref 3, .int M_isTaken, .ref 4, .int M_length, .int v11.2, .int v1.2.1, .int v1.2.2.1, .int v1.2.2.2.1, .int v1.2.2.2.2.1, .int v1.2.2.2.2.2.1, .int v1.2.2.2.2.2.2.1, .int v1.2.2.2.2.2.2.2.1, .int v1.2.2.2.2.2.2.2.2.1, .int v1.2.2.2.2.2.2.2.2.2.1, .int v1.2.2.2.2.2.2.2.2.2.2.1, .long M_hash]), .inr (406, .inl v1.2.2.2.2.2.2.2.2.2.2.2), .inr (2436, .inl M_saved), .inr (406, .inl M_snapshot), .inr (60, .inl M_text)]) (st2 := [.int v11.1]) (cl2 := 0) (sl2 := 0) (ct_X11_holds (a1 := 0) (M_savedMany := M_savedMany) (M_isTaken := M_isTaken) (M_length := M_length) (M_thrown := M_thrown) (M_spelt := v1.2.1) (M_speltMany := v1.2.2.1) (M_place := v1.2.2.2.1) (M_kind := v1.2.2.2.2.1) (M_one := v1.2.2.2.2.2.1) (M_two := v1.2.2.2.2.2.2.1) (M_three := v1.2.2.2.2.2.2.2.1) (M_begins := v1.2.2.2.2.2.2.2.2.1) (M_done := v1.2.2.2.2.2.2.2.2.2.1) (M_stopBy := v1.2.2.2.2.2.2.2.2.2.2.1) (M_hash := M_hash) (M_s := v1.2.2.2.2.2.2.2.2.2.2.2) (M_saved := M_saved) (M_snapshot := M_snapshot) (M_text := M_text) hv11) dX11_work_14 w1181 ⟨w1183, w20⟩ cal_X11_holds rfl ⟨⟨Nat.le_of_ble_eq_true rfl, Nat.le_of_ble_eq_true rfl⟩, Nat.le_of_ble_eq_true rfl, Nat.le_of_ble_eq_true rfl⟩ (Nat.le_of_ble_eq_true rfl) (Or.inl ⟨_, _, _, _, rfl, rfl⟩) rfl ⟨rfl, ⟨by decide, by decide⟩, rfl, (fr_cons (Or.inl (Nat.le_of_ble_eq_true rfl)) (fr_cons (Or.inl (Nat.le_of_ble_eq_true rfl)) (fr_cons (Or.inl (Nat.le_of_ble_eq_true rfl)) (fr_cons (Or.inl (Nat.le_of_ble_eq_true rfl)) (fr_nil))))), rfl⟩ fr_i rfl rfl rfl rfl ?_
    refine V.if_ne (tgt := 22) dX11_work_17 (by decide) (fun h => ?_) (fun h => ?_)
    · have hf := fif_f h hf
      refine V.aload_n (i := 0) dX11_work_22 rfl rfl ?_
      obtain ⟨v12, hv12, hf⟩ := fbind hf
      refine V.callVn (pl := [0, 1, 2, 3, 4]) (σ' := [.inl (6, [.ref 1, .ref 2, .int v12.1, .ref 3, .int M_isTaken, .ref 4, .int M_length, .int v11.2, .int v1.2.1, .int v1.2.2.1, .int v1.2.2.2.1, .int v1.2.2.2.2.1, .int v1.2.2.2.2.2.1, .int v1.2.2.2.2.2.2.1, .int v1.2.2.2.2.2.2.2.1, .int v1.2.2.2.2.2.2.2.2.1, .int v1.2.2.2.2.2.2.2.2.2.1, .int v1.2.2.2.2.2.2.2.2.2.2.1, .long M_hash]), .inr (406, .inl v1.2.2.2.2.2.2.2.2.2.2.2), .inr (2436, .inl v12.2), .inr (406, .inl M_snapshot), .inr (60, .inl M_text)]) (st2 := []) (cl2 := 0) (sl2 := 0) (ct_X11_save (M_savedMany := M_savedMany) (M_isTaken := M_isTaken) (M_length := M_length) (M_thrown := v11.2) (M_spelt := v1.2.1) (M_speltMany := v1.2.2.1) (M_place := v1.2.2.2.1) (M_kind := v1.2.2.2.2.1) (M_one := v1.2.2.2.2.2.1) (M_two := v1.2.2.2.2.2.2.1) (M_three := v1.2.2.2.2.2.2.2.1) (M_begins := v1.2.2.2.2.2.2.2.2.1) (M_done := v1.2.2.2.2.2.2.2.2.2.1) (M_stopBy := v1.2.2.2.2.2.2.2.2.2.2.1) (M_hash := M_hash) (M_s := v1.2.2.2.2.2.2.2.2.2.2.2) (M_saved := M_saved) (M_snapshot := M_snapshot) (M_text := M_text) hv12) dX11_work_23 w1185 ⟨w1187, w21⟩ cal_X11_save rfl ⟨⟨Nat.le_of_ble_eq_true rfl, Nat.le_of_ble_eq_true rfl⟩, Nat.le_of_ble_eq_true rfl, Nat.le_of_ble_eq_true rfl⟩ (Nat.le_of_ble_eq_true rfl) (Or.inl ⟨_, _, _, _, rfl, rfl⟩) rfl ⟨rfl, ⟨by decide, by decide⟩, rfl, (fr_cons (Or.inl (Nat.le_of_ble_eq_true rfl)) (fr_cons (Or.inl (Nat.le_of_ble_eq_true rfl)) (fr_cons (Or.inl (Nat.le_of_ble_eq_true rfl)) (fr_cons (Or.inl (Nat.le_of_ble_eq_true rfl)) (fr_nil))))), rfl⟩ fr_v rfl rfl rfl rfl ?_
      refine V.aload_n (i := 0) dX11_work_26 rfl rfl ?_
      refine V.iconst (v := 1) dX11_work_27 rfl ?_
      obtain ⟨v13, hv13, hf⟩ := fbind hf
      refine V.callVn (pl := [0, 1, 2, 3, 4]) (σ' := [.inl (6, [.ref 1, .ref 2, .int v12.1, .ref 3, .int M_isTaken, .ref 4, .int M_length, .int v11.2, .int v13.2.1, .int v13.2.2.1, .int v13.2.2.2.1, .int v13.2.2.2.2.1, .int v13.2.2.2.2.2.1, .int v13.2.2.2.2.2.2.1, .int v13.2.2.2.2.2.2.2.1, .int v13.2.2.2.2.2.2.2.2.1, .int v13.2.2.2.2.2.2.2.2.2.1, .int v13.2.2.2.2.2.2.2.2.2.2.1, .long M_hash]), .inr (406, .inl v13.2.2.2.2.2.2.2.2.2.2.2), .inr (2436, .inl v12.2), .inr (406, .inl M_snapshot), .inr (60, .inl M_text)]) (st2 := [.int v13.1]) (cl2 := 0) (sl2 := 0) (ct_X11_readText (a1 := 1) (M_savedMany := v12.1) (M_isTaken := M_isTaken) (M_length := M_length) (M_thrown := v11.2) (M_spelt := v1.2.1) (M_speltMany := v1.2.2.1) (M_place := v1.2.2.2.1) (M_kind := v1.2.2.2.2.1) (M_one := v1.2.2.2.2.2.1) (M_two := v1.2.2.2.2.2.2.1) (M_three := v1.2.2.2.2.2.2.2.1) (M_begins := v1.2.2.2.2.2.2.2.2.1) (M_done := v1.2.2.2.2.2.2.2.2.2.1) (M_stopBy := v1.2.2.2.2.2.2.2.2.2.2.1) (M_hash := M_hash) (M_s := v1.2.2.2.2.2.2.2.2.2.2.2) (M_saved := v12.2) (M_snapshot := M_snapshot) (M_text := M_text) hv13) dX11_work_28 w1283 ⟨w1285, w35⟩ cal_X11_readText rfl ⟨⟨Nat.le_of_ble_eq_true rfl, Nat.le_of_ble_eq_true rfl⟩, Nat.le_of_ble_eq_true rfl, Nat.le_of_ble_eq_true rfl⟩ (Nat.le_of_ble_eq_true rfl) (Or.inl ⟨_, _, _, _, rfl, rfl⟩) rfl ⟨rfl, ⟨by decide, by decide⟩, rfl, (fr_cons (Or.inl (Nat.le_of_ble_eq_true rfl)) (fr_cons (Or.inl (Nat.le_of_ble_eq_true rfl)) (fr_cons (Or.inl (Nat.le_of_ble_eq_true rfl)) (fr_cons (Or.inl (Nat.le_of_ble_eq_true rfl)) (fr_nil))))), rfl⟩ fr_i rfl rfl rfl rfl ?_
      refine V.istore_n (i := 1) (L' := [some (.ref 0), some (.int v13.1)]) dX11_work_31 rfl (Nat.le_of_ble_eq_true rfl) rfl rfl ?_
      refine V.aload_n (i := 0) dX11_work_32 rfl rfl ?_
      refine V.getfield (kf := 0) (v := .ref 1) fl_RX11 dX11_work_33 w1043 (Nat.le_of_ble_eq_true rfl) rfl rfl ?_
      refine V.bipush (v := 6) dX11_work_36 rfl ?_
      refine V.aload_n (i := 0) dX11_work_38 rfl rfl ?_
      refine V.getfield (kf := 17) (v := .int v13.2.2.2.2.2.2.2.2.2.2.1) fl_RX11 dX11_work_39 w1060 (Nat.le_of_ble_eq_true rfl) rfl rfl ?_
      refine V.if_le (tgt := 52) dX11_work_42 (by decide) (fun h => ?_) (fun h => ?_)
      · have hf := fif_t h hf
        refine V.iconst (v := (-1)) dX11_work_52 rfl ?_
        obtain ⟨hi, s14, es14, hf⟩ := fst_e hf
        refine V.fst (σ' := [.inl (6, [.ref 1, .ref 2, .int v12.1, .ref 3, .int M_isTaken, .ref 4, .int M_length, .int v11.2, .int v13.2.1, .int v13.2.2.1, .int v13.2.2.2.1, .int v13.2.2.2.2.1, .int v13.2.2.2.2.2.1, .int v13.2.2.2.2.2.2.1, .int v13.2.2.2.2.2.2.2.1, .int v13.2.2.2.2.2.2.2.2.1, .int v13.2.2.2.2.2.2.2.2.2.1, .int v13.2.2.2.2.2.2.2.2.2.2.1, .long M_hash]), .inr (406, .inl s14), .inr (2436, .inl v12.2), .inr (406, .inl M_snapshot), .inr (60, .inl M_text)]) dX11_work_53 rfl hi es14 rfl ?_
        refine V.aload_n (i := 0) dX11_work_54 rfl rfl ?_
        refine V.getfield (kf := 0) (v := .ref 1) fl_RX11 dX11_work_55 w1043 (Nat.le_of_ble_eq_true rfl) rfl rfl ?_
        refine V.bipush (v := 7) dX11_work_58 rfl ?_
        refine V.aload_n (i := 0) dX11_work_60 rfl rfl ?_
        refine V.getfield (kf := 17) (v := .int v13.2.2.2.2.2.2.2.2.2.2.1) fl_RX11 dX11_work_61 w1060 (Nat.le_of_ble_eq_true rfl) rfl rfl ?_
        refine V.if_le (tgt := 74) dX11_work_64 (by decide) (fun h => ?_) (fun h => ?_)
        · have hf := fif_t h hf
          refine V.iconst (v := (-1)) dX11_work_74 rfl ?_
          obtain ⟨hi, s15, es15, hf⟩ := fst_e hf
          refine V.fst (σ' := [.inl (6, [.ref 1, .ref 2, .int v12.1, .ref 3, .int M_isTaken, .ref 4, .int M_length, .int v11.2, .int v13.2.1, .int v13.2.2.1, .int v13.2.2.2.1, .int v13.2.2.2.2.1, .int v13.2.2.2.2.2.1, .int v13.2.2.2.2.2.2.1, .int v13.2.2.2.2.2.2.2.1, .int v13.2.2.2.2.2.2.2.2.1, .int v13.2.2.2.2.2.2.2.2.2.1, .int v13.2.2.2.2.2.2.2.2.2.2.1, .long M_hash]), .inr (406, .inl s15), .inr (2436, .inl v12.2), .inr (406, .inl M_snapshot), .inr (60, .inl M_text)]) dX11_work_75 rfl hi es15 rfl ?_
          refine V.aload_n (i := 0) dX11_work_76 rfl rfl ?_
          refine V.iconst (v := 0) dX11_work_77 rfl ?_
          refine V.putfield (ty := tyX11) (kf := 6) (σ' := [.inl (6, [.ref 1, .ref 2, .int v12.1, .ref 3, .int M_isTaken, .ref 4, .int 0, .int v11.2, .int v13.2.1, .int v13.2.2.1, .int v13.2.2.2.1, .int v13.2.2.2.2.1, .int v13.2.2.2.2.2.1, .int v13.2.2.2.2.2.2.1, .int v13.2.2.2.2.2.2.2.1, .int v13.2.2.2.2.2.2.2.2.1, .int v13.2.2.2.2.2.2.2.2.2.1, .int v13.2.2.2.2.2.2.2.2.2.2.1, .long M_hash]), .inr (406, .inl s15), .inr (2436, .inl v12.2), .inr (406, .inl M_snapshot), .inr (60, .inl M_text)]) fl_RX11 dX11_work_78 w1049 (Nat.le_of_ble_eq_true rfl) rfl (fun _ => ⟨rfl, rfl⟩) rfl (Nat.le_of_ble_eq_true rfl) rfl ?_
          refine V.iload_n (i := 1) dX11_work_81 rfl rfl ?_
          refine V.if_eq (tgt := 92) dX11_work_82 (by decide) (fun h => ?_) (fun h => ?_)
          · have hf := fif_t h hf
            refine V.iconst (v := 0) dX11_work_92 rfl ?_
            obtain rfl := Option.some.inj hf
            exact V.iret dX11_work_93 rfl (Nat.le_of_ble_eq_true rfl) (Nat.le_of_ble_eq_true rfl) rfl
          · have hf := fif_f h hf
            refine V.aload_n (i := 0) dX11_work_85 rfl rfl ?_
            refine V.getfield (kf := 16) (v := .int v13.2.2.2.2.2.2.2.2.2.1) fl_RX11 dX11_work_86 w1059 (Nat.le_of_ble_eq_true rfl) rfl rfl ?_
            refine V.goto (tgt := 93) dX11_work_89 (by decide) ?_
            obtain rfl := Option.some.inj hf
            exact V.iret dX11_work_93 rfl (Nat.le_of_ble_eq_true rfl) (Nat.le_of_ble_eq_true rfl) rfl
        · have hf := fif_f h hf
          refine V.aload_n (i := 0) dX11_work_67 rfl rfl ?_
          refine V.getfield (kf := 17) (v := .int v13.2.2.2.2.2.2.2.2.2.2.1) fl_RX11 dX11_work_68 w1060 (Nat.le_of_ble_eq_true rfl) rfl rfl ?_
          refine V.goto (tgt := 75) dX11_work_71 (by decide) ?_
          obtain ⟨hi, s16, es16, hf⟩ := fst_e hf
          refine V.fst (σ' := [.inl (6, [.ref 1, .ref 2, .int v12.1, .ref 3, .int M_isTaken, .ref 4, .int M_length, .int v11.2, .int v13.2.1, .int v13.2.2.1, .int v13.2.2.2.1, .int v13.2.2.2.2.1, .int v13.2.2.2.2.2.1, .int v13.2.2.2.2.2.2.1, .int v13.2.2.2.2.2.2.2.1, .int v13.2.2.2.2.2.2.2.2.1, .int v13.2.2.2.2.2.2.2.2.2.1, .int v13.2.2.2.2.2.2.2.2.2.2.1, .long M_hash]), .inr (406, .inl s16), .inr (2436, .inl v12.2), .inr (406, .inl M_snapshot), .inr (60, .inl M_text)]) dX11_work_75 rfl hi es16 rfl ?_
          refine V.aload_n (i := 0) dX11_work_76 rfl rfl ?_
          refine V.iconst (v := 0) dX11_work_77 rfl ?_
          refine V.putfield (ty := tyX11) (kf := 6) (σ' := [.inl (6, [.ref 1, .ref 2, .int v12.1, .ref 3, .int M_isTaken, .ref 4, .int 0, .int v11.2, .int v13.2.1, .int v13.2.2.1, .int v13.2.2.2.1, .int v13.2.2.2.2.1, .int v13.2.2.2.2.2.1, .int v13.2.2.2.2.2.2.1, .int v13.2.2.2.2.2.2.2.1, .int v13.2.2.2.2.2.2.2.2.1, .int v13.2.2.2.2.2.2.2.2.2.1, .int v13.2.2.2.2.2.2.2.2.2.2.1, .long M_hash]), .inr (406, .inl s16), .inr (2436, .inl v12.2), .inr (406, .inl M_snapshot), .inr (60, .inl M_text)]) fl_RX11 dX11_work_78 w1049 (Nat.le_of_ble_eq_true rfl) rfl (fun _ => ⟨rfl, rfl⟩) rfl (Nat.le_of_ble_eq_true rfl) rfl ?_
          refine V.iload_n (i := 1) dX11_work_81 rfl rfl ?_
          refine V.if_eq (tgt := 92) dX11_work_82 (by decide) (fun h => ?_) (fun h => ?_)
          · have hf := fif_t h hf
            refine V.iconst (v := 0) dX11_work_92 rfl ?_
            obtain rfl := Option.some.inj hf
            exact V.iret dX11_work_93 rfl (Nat.le_of_ble_eq_true rfl) (Nat.le_of_ble_eq_true rfl) rfl
          · have hf := fif_f h hf
            refine V.aload_n (i := 0) dX11_work_85 rfl rfl ?_
            refine V.getfield (kf := 16) (v := .int v13.2.2.2.2.2.2.2.2.2.1) fl_RX11 dX11_work_86 w1059 (Nat.le_of_ble_eq_true rfl) rfl rfl ?_
            refine V.goto (tgt := 93) dX11_work_89 (by decide) ?_
            obtain rfl := Option.some.inj hf
            exact V.iret dX11_work_93 rfl (Nat.le_of_ble_eq_true rfl) (Nat.le_of_ble_eq_true rfl) rfl
      · have hf := fif_f h hf
        refine V.aload_n (i := 0) dX11_work_45 rfl rfl ?_
        refine V.getfield (kf := 16) (v := .int v13.2.2.2.2.2.2.2.2.2.1) fl_RX11 dX11_work_46 w1059 (Nat.le_of_ble_eq_true rfl) rfl rfl ?_
        refine V.goto (tgt := 53) dX11_work_49 (by decide) ?_
        obtain ⟨hi, s17, es17, hf⟩ := fst_e hf
        refine V.fst (σ' := [.inl (6, [.ref 1, .ref 2, .int v12.1, .ref 3, .int M_isTaken, .ref 4, .int M_length, .int v11.2, .int v13.2.1, .int v13.2.2.1, .int v13.2.2.2.1, .int v13.2.2.2.2.1, .int v13.2.2.2.2.2.1, .int v13.2.2.2.2.2.2.1, .int v13.2.2.2.2.2.2.2.1, .int v13.2.2.2.2.2.2.2.2.1, .int v13.2.2.2.2.2.2.2.2.2.1, .int v13.2.2.2.2.2.2.2.2.2.2.1, .long M_hash]), .inr (406, .inl s17), .inr (2436, .inl v12.2), .inr (406, .inl M_snapshot), .inr (60, .inl M_text)]) dX11_work_53 rfl hi es17 rfl ?_
        refine V.aload_n (i := 0) dX11_work_54 rfl rfl ?_
        refine V.getfield (kf := 0) (v := .ref 1) fl_RX11 dX11_work_55 w1043 (Nat.le_of_ble_eq_true rfl) rfl rfl ?_
        refine V.bipush (v := 7) dX11_work_58 rfl ?_
        refine V.aload_n (i := 0) dX11_work_60 rfl rfl ?_
        refine V.getfield (kf := 17) (v := .int v13.2.2.2.2.2.2.2.2.2.2.1) fl_RX11 dX11_work_61 w1060 (Nat.le_of_ble_eq_true rfl) rfl rfl ?_
        refine V.if_le (tgt := 74) dX11_work_64 (by decide) (fun h => ?_) (fun h => ?_)
        · have hf := fif_t h hf
          refine V.iconst (v := (-1)) dX11_work_74 rfl ?_
          obtain ⟨hi, s18, es18, hf⟩ := fst_e hf
          refine V.fst (σ' := [.inl (6, [.ref 1, .ref 2, .int v12.1, .ref 3, .int M_isTaken, .ref 4, .int M_length, .int v11.2, .int v13.2.1, .int v13.2.2.1, .int v13.2.2.2.1, .int v13.2.2.2.2.1, .int v13.2.2.2.2.2.1, .int v13.2.2.2.2.2.2.1, .int v13.2.2.2.2.2.2.2.1, .int v13.2.2.2.2.2.2.2.2.1, .int v13.2.2.2.2.2.2.2.2.2.1, .int v13.2.2.2.2.2.2.2.2.2.2.1, .long M_hash]), .inr (406, .inl s18), .inr (2436, .inl v12.2), .inr (406, .inl M_snapshot), .inr (60, .inl M_text)]) dX11_work_75 rfl hi es18 rfl ?_
          refine V.aload_n (i := 0) dX11_work_76 rfl rfl ?_
          refine V.iconst (v := 0) dX11_work_77 rfl ?_
          refine V.putfield (ty := tyX11) (kf := 6) (σ' := [.inl (6, [.ref 1, .ref 2, .int v12.1, .ref 3, .int M_isTaken, .ref 4, .int 0, .int v11.2, .int v13.2.1, .int v13.2.2.1, .int v13.2.2.2.1, .int v13.2.2.2.2.1, .int v13.2.2.2.2.2.1, .int v13.2.2.2.2.2.2.1, .int v13.2.2.2.2.2.2.2.1, .int v13.2.2.2.2.2.2.2.2.1, .int v13.2.2.2.2.2.2.2.2.2.1, .int v13.2.2.2.2.2.2.2.2.2.2.1, .long M_hash]), .inr (406, .inl s18), .inr (2436, .inl v12.2), .inr (406, .inl M_snapshot), .inr (60, .inl M_text)]) fl_RX11 dX11_work_78 w1049 (Nat.le_of_ble_eq_true rfl) rfl (fun _ => ⟨rfl, rfl⟩) rfl (Nat.le_of_ble_eq_true rfl) rfl ?_
          refine V.iload_n (i := 1) dX11_work_81 rfl rfl ?_
          refine V.if_eq (tgt := 92) dX11_work_82 (by decide) (fun h => ?_) (fun h => ?_)
          · have hf := fif_t h hf
            refine V.iconst (v := 0) dX11_work_92 rfl ?_
            obtain rfl := Option.some.inj hf
            exact V.iret dX11_work_93 rfl (Nat.le_of_ble_eq_true rfl) (Nat.le_of_ble_eq_true rfl) rfl
          · have hf := fif_f h hf
            refine V.aload_n (i := 0) dX11_work_85 rfl rfl ?_
            refine V.getfield (kf := 16) (v := .int v13.2.2.2.2.2.2.2.2.2.1) fl_RX11 dX11_work_86 w1059 (Nat.le_of_ble_eq_true rfl) rfl rfl ?_
            refine V.goto (tgt := 93) dX11_work_89 (by decide) ?_
            obtain rfl := Option.some.inj hf
            exact V.iret dX11_work_93 rfl (Nat.le_of_ble_eq_true rfl) (Nat.le_of_ble_eq_true rfl) rfl
        · have hf := fif_f h hf
          refine V.aload_n (i := 0) dX11_work_67 rfl rfl ?_
          refine V.getfield (kf := 17) (v := .int v13.2.2.2.2.2.2.2.2.2.2.1) fl_RX11 dX11_work_68 w1060 (Nat.le_of_ble_eq_true rfl) rfl rfl ?_
          refine V.goto (tgt := 75) dX11_work_71 (by decide) ?_
          obtain ⟨hi, s19, es19, hf⟩ := fst_e hf
          refine V.fst (σ' := [.inl (6, [.ref 1, .ref 2, .int v12.1, .ref 3, .int M_isTaken, .ref 4, .int M_length, .int v11.2, .int v13.2.1, .int v13.2.2.1, .int v13.2.2.2.1, .int v13.2.2.2.2.1, .int v13.2.2.2.2.2.1, .int v13.2.2.2.2.2.2.1, .int v13.2.2.2.2.2.2.2.1, .int v13.2.2.2.2.2.2.2.2.1, .int v13.2.2.2.2.2.2.2.2.2.1, .int v13.2.2.2.2.2.2.2.2.2.2.1, .long M_hash]), .inr (406, .inl s19), .inr (2436, .inl v12.2), .inr (406, .inl M_snapshot), .inr (60, .inl M_text)]) dX11_work_75 rfl hi es19 rfl ?_
          refine V.aload_n (i := 0) dX11_work_76 rfl rfl ?_
          refine V.iconst (v := 0) dX11_work_77 rfl ?_
          refine V.putfield (ty := tyX11) (kf := 6) (σ' := [.inl (6, [.ref 1, .ref 2, .int v12.1, .ref 3, .int M_isTaken, .ref 4, .int 0, .int v11.2, .int v13.2.1, .int v13.2.2.1, .int v13.2.2.2.1, .int v13.2.2.2.2.1, .int v13.2.2.2.2.2.1, .int v13.2.2.2.2.2.2.1, .int v13.2.2.2.2.2.2.2.1, .int v13.2.2.2.2.2.2.2.2.1, .int v13.2.2.2.2.2.2.2.2.2.1, .int v13.2.2.2.2.2.2.2.2.2.2.1, .long M_hash]), .inr (406, .inl s19), .inr (2436, .inl v12.2), .inr (406, .inl M_snapshot), .inr (60, .inl M_text)]) fl_RX11 dX11_work_78 w1049 (Nat.le_of_ble_eq_true rfl) rfl (fun _ => ⟨rfl, rfl⟩) rfl (Nat.le_of_ble_eq_true rfl) rfl ?_
          refine V.iload_n (i := 1) dX11_work_81 rfl rfl ?_
          refine V.if_eq (tgt := 92) dX11_work_82 (by decide) (fun h => ?_) (fun h => ?_)
          · have hf := fif_t h hf
            refine V.iconst (v := 0) dX11_work_92 rfl ?_
            obtain rfl := Option.some.inj hf
            exact V.iret dX11_work_93 rfl (Nat.le_of_ble_eq_true rfl) (Nat.le_of_ble_eq_true rfl) rfl
          · have hf := fif_f h hf
            refine V.aload_n (i := 0) dX11_work_85 rfl rfl ?_
            refine V.getfield (kf := 16) (v := .int v13.2.2.2.2.2.2.2.2.2.1) fl_RX11 dX11_work_86 w1059 (Nat.le_of_ble_eq_true rfl) rfl rfl ?_
            refine V.goto (tgt := 93) dX11_work_89 (by decide) ?_
            obtain rfl := Option.some.inj hf
            exact V.iret dX11_work_93 rfl (Nat.le_of_ble_eq_true rfl) (Nat.le_of_ble_eq_true rfl) rfl
    · have hf := fif_t h hf
      refine V.iconst (v := 0) dX11_work_20 rfl ?_
      obtain rfl := Option.some.inj hf
      exact V.iret dX11_work_21 rfl (Nat.le_of_ble_eq_true rfl) (Nat.le_of_ble_eq_true rfl) rfl
def k_X11_stopped : fK := (yX11_stopped, cX11_stopped, 2, (some .int), [], (1, 22), (0, 0), (0, 0))
theorem cal_X11_stopped : fCal k_X11_stopped 1 := ⟨⟨wc1326, w73⟩, ⟨by decide +kernel, by decide +kernel⟩, by decide +kernel, by decide +kernel⟩
def s_X11_stopped (a1 : Int32) (M_thrown : Int32) (M_s : Nat → Int32) : Option (Int32 × (Int32)) := (s_X11_in a1 0 1).bind fun v1 => if (v1 = 0 : Prop) then ((s_X11_holds 1 M_thrown).bind fun v2 => if (v2.1 = 0 : Prop) then (some (0, v2.2)) else (if (a1 = 0 : Prop) then (fld 406 M_s 6 fun v4 => some (v4, v2.2)) else (fld 406 M_s 7 fun v3 => some (v3, v2.2)))) else ((s_X11_holds 0 M_thrown).bind fun v5 => if (v5.1 = 0 : Prop) then (some (0, v5.2)) else (if (a1 = 0 : Prop) then (fld 406 M_s 6 fun v7 => some (v7, v5.2)) else (fld 406 M_s 7 fun v6 => some (v6, v5.2))))
set_option maxHeartbeats 4000000 in
set_option maxRecDepth 100000 in
theorem ct_X11_stopped {a1 : Int32} {M_savedMany : Int32} {M_isTaken : Int32} {M_length : Int32} {M_thrown : Int32} {M_spelt : Int32} {M_speltMany : Int32} {M_place : Int32} {M_kind : Int32} {M_one : Int32} {M_two : Int32} {M_three : Int32} {M_begins : Int32} {M_done : Int32} {M_stopBy : Int32} {M_hash : Int64} {M_s : Nat → Int32} {M_saved : Nat → Int32} {M_snapshot : Nat → Int32} {M_text : Nat → Int32} {res : Int32 × (Int32)} (hf : s_X11_stopped a1 M_thrown M_s = some res) : Ct k_X11_stopped [.ref 0, .int a1] [.inl (6, [.ref 1, .ref 2, .int M_savedMany, .ref 3, .int M_isTaken, .ref 4, .int M_length, .int M_thrown, .int M_spelt, .int M_speltMany, .int M_place, .int M_kind, .int M_one, .int M_two, .int M_three, .int M_begins, .int M_done, .int M_stopBy, .long M_hash]), .inr (406, .inl M_s), .inr (2436, .inl M_saved), .inr (406, .inl M_snapshot), .inr (60, .inl M_text)] (.inl (some (.int res.1))) [.inl (6, [.ref 1, .ref 2, .int M_savedMany, .ref 3, .int M_isTaken, .ref 4, .int M_length, .int res.2, .int M_spelt, .int M_speltMany, .int M_place, .int M_kind, .int M_one, .int M_two, .int M_three, .int M_begins, .int M_done, .int M_stopBy, .long M_hash]), .inr (406, .inl M_s), .inr (2436, .inl M_saved), .inr (406, .inl M_snapshot), .inr (60, .inl M_text)] := by
  unfold s_X11_stopped at hf
  refine Ct.of (L := [some (.ref 0), some (.int a1)]) cal_X11_stopped (fent_pad (j := 0) rfl) (Nat.le_of_ble_eq_true rfl) ?_
  refine V.aload_n (i := 0) dX11_stopped_0 rfl rfl ?_
  refine V.iload_n (i := 1) dX11_stopped_1 rfl rfl ?_
  refine V.iconst (v := 0) dX11_stopped_2 rfl ?_
  refine V.iconst (v := 1) dX11_stopped_3 rfl ?_
  obtain ⟨v1, hv1, hf⟩ := fbind hf
  refine V.callSn (pl := []) (σ' := [.inl (6, [.ref 1, .ref 2, .int M_savedMany, .ref 3, .int M_isTaken, .ref 4, .int M_length, .int M_thrown, .int M_spelt, .int M_speltMany, .int M_place, .int M_kind, .int M_one, .int M_two, .int M_three, .int M_begins, .int M_done, .int M_stopBy, .long M_hash]), .inr (406, .inl M_s), .inr (2436, .inl M_saved), .inr (406, .inl M_snapshot), .inr (60, .inl M_text)]) (st2 := [.int v1, .ref 0]) (cl2 := 0) (sl2 := 0) (ct_X11_in (a0 := a1) (a1 := 0) (a2 := 1) hv1) dX11_stopped_4 w1113 w1114 cal_X11_in ⟨⟨Nat.le_of_ble_eq_true rfl, Nat.le_of_ble_eq_true rfl⟩, Nat.le_of_ble_eq_true rfl, Nat.le_of_ble_eq_true rfl⟩ (Nat.le_of_ble_eq_true rfl) rfl ⟨rfl, ⟨by decide, by decide⟩, rfl, (fr_nil), rfl⟩ fr_i rfl rfl rfl rfl ?_
  refine V.if_eq (tgt := 14) dX11_stopped_7 (by decide) (fun h => ?_) (fun h => ?_)
  · have hf := fif_t h hf
    refine V.iconst (v := 1) dX11_stopped_14 rfl ?_
    obtain ⟨v2, hv2, hf⟩ := fbind hf
    refine V.callVn (pl := [0, 1, 2, 3, 4]) (σ' := [.inl (6, [.ref 1, .ref 2, .int M_savedMany, .ref 3, .int M_isTaken, .ref 4, .int M_length, .int v2.2, .int M_spelt, .int M_speltMany, .int M_place, .int M_kind, .int M_one, .int M_two, .int M_three, .int M_begins, .int M_done, .int M_stopBy, .long M_hash]), .inr (406, .inl M_s), .inr (2436, .inl M_saved), .inr (406, .inl M_snapshot), .inr (60, .inl M_text)]) (st2 := [.int v2.1]) (cl2 := 0) (sl2 := 0) (ct_X11_holds (a1 := 1) (M_savedMany := M_savedMany) (M_isTaken := M_isTaken) (M_length := M_length) (M_thrown := M_thrown) (M_spelt := M_spelt) (M_speltMany := M_speltMany) (M_place := M_place) (M_kind := M_kind) (M_one := M_one) (M_two := M_two) (M_three := M_three) (M_begins := M_begins) (M_done := M_done) (M_stopBy := M_stopBy) (M_hash := M_hash) (M_s := M_s) (M_saved := M_saved) (M_snapshot := M_snapshot) (M_text := M_text) hv2) dX11_stopped_15 w1181 ⟨w1183, w20⟩ cal_X11_holds rfl ⟨⟨Nat.le_of_ble_eq_true rfl, Nat.le_of_ble_eq_true rfl⟩, Nat.le_of_ble_eq_true rfl, Nat.le_of_ble_eq_true rfl⟩ (Nat.le_of_ble_eq_true rfl) (Or.inl ⟨_, _, _, _, rfl, rfl⟩) rfl ⟨rfl, ⟨by decide, by decide⟩, rfl, (fr_cons (Or.inl (Nat.le_of_ble_eq_true rfl)) (fr_cons (Or.inl (Nat.le_of_ble_eq_true rfl)) (fr_cons (Or.inl (Nat.le_of_ble_eq_true rfl)) (fr_cons (Or.inl (Nat.le_of_ble_eq_true rfl)) (fr_nil))))), rfl⟩ fr_i rfl rfl rfl rfl ?_
    refine V.if_eq (tgt := 40) dX11_stopped_18 (by decide) (fun h => ?_) (fun h => ?_)
    · have hf := fif_t h hf
      refine V.iconst (v := 0) dX11_stopped_40 rfl ?_
      obtain rfl := Option.some.inj hf
      exact V.iret dX11_stopped_41 rfl (Nat.le_of_ble_eq_true rfl) (Nat.le_of_ble_eq_true rfl) rfl
    · have hf := fif_f h hf
      refine V.aload_n (i := 0) dX11_stopped_21 rfl rfl ?_
      refine V.getfield (kf := 0) (v := .ref 1) fl_RX11 dX11_stopped_22 w1043 (Nat.le_of_ble_eq_true rfl) rfl rfl ?_
      refine V.iload_n (i := 1) dX11_stopped_25 rfl rfl ?_
      refine V.if_ne (tgt := 34) dX11_stopped_26 (by decide) (fun h => ?_) (fun h => ?_)
      · have hf := fif_f h hf
        refine V.bipush (v := 7) dX11_stopped_34 rfl ?_
        obtain ⟨hi, v3, ev3, hf⟩ := fld_e hf
        refine V.fld dX11_stopped_36 rfl hi ev3 ?_
        refine V.goto (tgt := 41) dX11_stopped_37 (by decide) ?_
        obtain rfl := Option.some.inj hf
        exact V.iret dX11_stopped_41 rfl (Nat.le_of_ble_eq_true rfl) (Nat.le_of_ble_eq_true rfl) rfl
      · have hf := fif_t h hf
        refine V.bipush (v := 6) dX11_stopped_29 rfl ?_
        refine V.goto (tgt := 36) dX11_stopped_31 (by decide) ?_
        obtain ⟨hi, v4, ev4, hf⟩ := fld_e hf
        refine V.fld dX11_stopped_36 rfl hi ev4 ?_
        refine V.goto (tgt := 41) dX11_stopped_37 (by decide) ?_
        obtain rfl := Option.some.inj hf
        exact V.iret dX11_stopped_41 rfl (Nat.le_of_ble_eq_true rfl) (Nat.le_of_ble_eq_true rfl) rfl
  · have hf := fif_f h hf
    refine V.iconst (v := 0) dX11_stopped_10 rfl ?_
    refine V.goto (tgt := 15) dX11_stopped_11 (by decide) ?_
    obtain ⟨v5, hv5, hf⟩ := fbind hf
    refine V.callVn (pl := [0, 1, 2, 3, 4]) (σ' := [.inl (6, [.ref 1, .ref 2, .int M_savedMany, .ref 3, .int M_isTaken, .ref 4, .int M_length, .int v5.2, .int M_spelt, .int M_speltMany, .int M_place, .int M_kind, .int M_one, .int M_two, .int M_three, .int M_begins, .int M_done, .int M_stopBy, .long M_hash]), .inr (406, .inl M_s), .inr (2436, .inl M_saved), .inr (406, .inl M_snapshot), .inr (60, .inl M_text)]) (st2 := [.int v5.1]) (cl2 := 0) (sl2 := 0) (ct_X11_holds (a1 := 0) (M_savedMany := M_savedMany) (M_isTaken := M_isTaken) (M_length := M_length) (M_thrown := M_thrown) (M_spelt := M_spelt) (M_speltMany := M_speltMany) (M_place := M_place) (M_kind := M_kind) (M_one := M_one) (M_two := M_two) (M_three := M_three) (M_begins := M_begins) (M_done := M_done) (M_stopBy := M_stopBy) (M_hash := M_hash) (M_s := M_s) (M_saved := M_saved) (M_snapshot := M_snapshot) (M_text := M_text) hv5) dX11_stopped_15 w1181 ⟨w1183, w20⟩ cal_X11_holds rfl ⟨⟨Nat.le_of_ble_eq_true rfl, Nat.le_of_ble_eq_true rfl⟩, Nat.le_of_ble_eq_true rfl, Nat.le_of_ble_eq_true rfl⟩ (Nat.le_of_ble_eq_true rfl) (Or.inl ⟨_, _, _, _, rfl, rfl⟩) rfl ⟨rfl, ⟨by decide, by decide⟩, rfl, (fr_cons (Or.inl (Nat.le_of_ble_eq_true rfl)) (fr_cons (Or.inl (Nat.le_of_ble_eq_true rfl)) (fr_cons (Or.inl (Nat.le_of_ble_eq_true rfl)) (fr_cons (Or.inl (Nat.le_of_ble_eq_true rfl)) (fr_nil))))), rfl⟩ fr_i rfl rfl rfl rfl ?_
    refine V.if_eq (tgt := 40) dX11_stopped_18 (by decide) (fun h => ?_) (fun h => ?_)
    · have hf := fif_t h hf
      refine V.iconst (v := 0) dX11_stopped_40 rfl ?_
      obtain rfl := Option.some.inj hf
      exact V.iret dX11_stopped_41 rfl (Nat.le_of_ble_eq_true rfl) (Nat.le_of_ble_eq_true rfl) rfl
    · have hf := fif_f h hf
      refine V.aload_n (i := 0) dX11_stopped_21 rfl rfl ?_
      refine V.getfield (kf := 0) (v := .ref 1) fl_RX11 dX11_stopped_22 w1043 (Nat.le_of_ble_eq_true rfl) rfl rfl ?_
      refine V.iload_n (i := 1) dX11_stopped_25 rfl rfl ?_
      refine V.if_ne (tgt := 34) dX11_stopped_26 (by decide) (fun h => ?_) (fun h => ?_)
      · have hf := fif_f h hf
        refine V.bipush (v := 7) dX11_stopped_34 rfl ?_
        obtain ⟨hi, v6, ev6, hf⟩ := fld_e hf
        refine V.fld dX11_stopped_36 rfl hi ev6 ?_
        refine V.goto (tgt := 41) dX11_stopped_37 (by decide) ?_
        obtain rfl := Option.some.inj hf
        exact V.iret dX11_stopped_41 rfl (Nat.le_of_ble_eq_true rfl) (Nat.le_of_ble_eq_true rfl) rfl
      · have hf := fif_t h hf
        refine V.bipush (v := 6) dX11_stopped_29 rfl ?_
        refine V.goto (tgt := 36) dX11_stopped_31 (by decide) ?_
        obtain ⟨hi, v7, ev7, hf⟩ := fld_e hf
        refine V.fld dX11_stopped_36 rfl hi ev7 ?_
        refine V.goto (tgt := 41) dX11_stopped_37 (by decide) ?_
        obtain rfl := Option.some.inj hf
        exact V.iret dX11_stopped_41 rfl (Nat.le_of_ble_eq_true rfl) (Nat.le_of_ble_eq_true rfl) rfl
def k_X11_characterAt : fK := (yX11_characterAt, cX11_characterAt, 7, (some .int), [], (3, 66), (0, 0), (0, 0))
theorem cal_X11_characterAt : fCal k_X11_characterAt 2 := ⟨⟨wc1334, w73⟩, ⟨by decide +kernel, by decide +kernel⟩, by decide +kernel, by decide +kernel⟩
def s_X11_characterAt_L5 (p1 : Int32) (M_s : Nat → Int32) : Nat → Int32 → Int32 → Option ((Int32) ⊕ (Int32 × Int32))
  | 0, _, _ => none
  | n + 1, x3, x4 => (s_X11_of p1 1 M_s).bind fun v1 => if (v1 ≤ x4 : Prop) then (some (.inr (x3, x4))) else ((s_X11_whereIs p1 x4).bind fun v2 => if (x4 ≤ 0 : Prop) then ((s_X11_knots v2 M_s).bind fun v3 => if (v3 ≤ x3 : Prop) then ((s_X11_knots v2 M_s).bind fun v4 => s_X11_characterAt_L5 p1 M_s n (x3 - v4) (x4 + 1)) else ((s_X11_readAs v2 x3 M_s).bind fun v5 => if (v5 = 16 : Prop) then (some (.inl 63)) else (some (.inl (97 + v5))))) else (if (x3 = 0 : Prop) then (some (.inl 45)) else ((s_X11_knots v2 M_s).bind fun v6 => if (v6 ≤ (x3 + (-1)) : Prop) then ((s_X11_knots v2 M_s).bind fun v7 => s_X11_characterAt_L5 p1 M_s n ((x3 + (-1)) - v7) (x4 + 1)) else ((s_X11_readAs v2 (x3 + (-1)) M_s).bind fun v8 => if (v8 = 16 : Prop) then (some (.inl 63)) else (some (.inl (97 + v8)))))))
set_option maxHeartbeats 4000000 in
set_option maxRecDepth 100000 in
theorem v_X11_characterAt_L5 {out : fO} {σ' : List fE} {p1 : Int32} {p2 : Int32} {M_savedMany : Int32} {M_isTaken : Int32} {M_length : Int32} {M_thrown : Int32} {M_spelt : Int32} {M_speltMany : Int32} {M_place : Int32} {M_kind : Int32} {M_one : Int32} {M_two : Int32} {M_three : Int32} {M_begins : Int32} {M_done : Int32} {M_stopBy : Int32} {M_hash : Int64} {M_s : Nat → Int32} {M_saved : Nat → Int32} {M_snapshot : Nat → Int32} {M_text : Nat → Int32} : ∀ (n : Nat) {x3 : Int32} {x4 : Int32} {res : (Int32) ⊕ (Int32 × Int32)} (hf : s_X11_characterAt_L5 p1 M_s n x3 x4 = some res) (hr : ∀ r, res = .inl r → out = (.inl (some (.int r))) ∧ σ' = [.inl (6, [.ref 1, .ref 2, .int M_savedMany, .ref 3, .int M_isTaken, .ref 4, .int M_length, .int M_thrown, .int M_spelt, .int M_speltMany, .int M_place, .int M_kind, .int M_one, .int M_two, .int M_three, .int M_begins, .int M_done, .int M_stopBy, .long M_hash]), .inr (406, .inl M_s), .inr (2436, .inl M_saved), .inr (406, .inl M_snapshot), .inr (60, .inl M_text)]) (hx : ∀ e, res = .inr e → V (fXm 5 k_X11_characterAt out σ') (krm k_X11_characterAt) k_X11_characterAt 5 91 [some (.ref 0), some (.int p1), some (.int p2), some (.int e.1), some (.int e.2), none, none] [] [.inl (6, [.ref 1, .ref 2, .int M_savedMany, .ref 3, .int M_isTaken, .ref 4, .int M_length, .int M_thrown, .int M_spelt, .int M_speltMany, .int M_place, .int M_kind, .int M_one, .int M_two, .int M_three, .int M_begins, .int M_done, .int M_stopBy, .long M_hash]), .inr (406, .inl M_s), .inr (2436, .inl M_saved), .inr (406, .inl M_snapshot), .inr (60, .inl M_text)] 0 0), V (fXm 5 k_X11_characterAt out σ') (krm k_X11_characterAt) k_X11_characterAt 5 5 [some (.ref 0), some (.int p1), some (.int p2), some (.int x3), some (.int x4), none, none] [] [.inl (6, [.ref 1, .ref 2, .int M_savedMany, .ref 3, .int M_isTaken, .ref 4, .int M_length, .int M_thrown, .int M_spelt, .int M_speltMany, .int M_place, .int M_kind, .int M_one, .int M_two, .int M_three, .int M_begins, .int M_done, .int M_stopBy, .long M_hash]), .inr (406, .inl M_s), .inr (2436, .inl M_saved), .inr (406, .inl M_snapshot), .inr (60, .inl M_text)] 0 0 := by
  intro n
  induction n with
  | zero =>
    intro x3 x4 res hf hr hx
    rw [s_X11_characterAt_L5] at hf
    cases hf
  | succ n ih =>
    intro x3 x4 res hf hr hx
    rw [s_X11_characterAt_L5] at hf
    refine V.iload (i := 4) dX11_characterAt_5 rfl ?_
    refine V.aload_n (i := 0) dX11_characterAt_7 rfl rfl ?_
    refine V.iload_n (i := 1) dX11_characterAt_8 rfl rfl ?_
    refine V.iconst (v := 1) dX11_characterAt_9 rfl ?_
    obtain ⟨v1, hv1, hf⟩ := fbind hf
    refine V.callVn (pl := [0, 1, 2, 3, 4]) (σ' := [.inl (6, [.ref 1, .ref 2, .int M_savedMany, .ref 3, .int M_isTaken, .ref 4, .int M_length, .int M_thrown, .int M_spelt, .int M_speltMany, .int M_place, .int M_kind, .int M_one, .int M_two, .int M_three, .int M_begins, .int M_done, .int M_stopBy, .long M_hash]), .inr (406, .inl M_s), .inr (2436, .inl M_saved), .inr (406, .inl M_snapshot), .inr (60, .inl M_text)]) (st2 := [.int v1, .int x4]) (cl2 := 0) (sl2 := 0) (ct_X11_of (a1 := p1) (a2 := 1) (M_savedMany := M_savedMany) (M_isTaken := M_isTaken) (M_length := M_length) (M_thrown := M_thrown) (M_spelt := M_spelt) (M_speltMany := M_speltMany) (M_place := M_place) (M_kind := M_kind) (M_one := M_one) (M_two := M_two) (M_three := M_three) (M_begins := M_begins) (M_done := M_done) (M_stopBy := M_stopBy) (M_hash := M_hash) (M_s := M_s) (M_saved := M_saved) (M_snapshot := M_snapshot) (M_text := M_text) hv1) dX11_characterAt_10 w1123 ⟨w1125, w10⟩ cal_X11_of rfl ⟨⟨Nat.le_of_ble_eq_true rfl, Nat.le_of_ble_eq_true rfl⟩, Nat.le_of_ble_eq_true rfl, Nat.le_of_ble_eq_true rfl⟩ (Nat.le_of_ble_eq_true rfl) (Or.inl ⟨_, _, _, _, rfl, rfl⟩) rfl ⟨rfl, ⟨by decide, by decide⟩, rfl, (fr_cons (Or.inl (Nat.le_of_ble_eq_true rfl)) (fr_cons (Or.inl (Nat.le_of_ble_eq_true rfl)) (fr_cons (Or.inl (Nat.le_of_ble_eq_true rfl)) (fr_cons (Or.inl (Nat.le_of_ble_eq_true rfl)) (fr_nil))))), rfl⟩ fr_i rfl rfl rfl rfl ?_
    refine V.icmp_ge (tgt := 91) dX11_characterAt_13 (by decide) (fun h => ?_) (fun h => ?_)
    · have hf := fif_t h hf
      obtain rfl := Option.some.inj hf
      exact hx _ rfl
    · have hf := fif_f h hf
      refine V.iload_n (i := 1) dX11_characterAt_16 rfl rfl ?_
      refine V.iload (i := 4) dX11_characterAt_17 rfl ?_
      obtain ⟨v2, hv2, hf⟩ := fbind hf
      refine V.callSn (pl := []) (σ' := [.inl (6, [.ref 1, .ref 2, .int M_savedMany, .ref 3, .int M_isTaken, .ref 4, .int M_length, .int M_thrown, .int M_spelt, .int M_speltMany, .int M_place, .int M_kind, .int M_one, .int M_two, .int M_three, .int M_begins, .int M_done, .int M_stopBy, .long M_hash]), .inr (406, .inl M_s), .inr (2436, .inl M_saved), .inr (406, .inl M_snapshot), .inr (60, .inl M_text)]) (st2 := [.int v2]) (cl2 := 0) (sl2 := 0) (ct_X11_whereIs (a0 := p1) (a1 := x4) hv2) dX11_characterAt_19 w1147 w1148 cal_X11_whereIs ⟨⟨Nat.le_of_ble_eq_true rfl, Nat.le_of_ble_eq_true rfl⟩, Nat.le_of_ble_eq_true rfl, Nat.le_of_ble_eq_true rfl⟩ (Nat.le_of_ble_eq_true rfl) rfl ⟨rfl, ⟨by decide, by decide⟩, rfl, (fr_nil), rfl⟩ fr_i rfl rfl rfl rfl ?_
      refine V.istore (i := 5) (L' := [some (.ref 0), some (.int p1), some (.int p2), some (.int x3), some (.int x4), some (.int v2), none]) dX11_characterAt_22 (Nat.le_of_ble_eq_true rfl) rfl rfl ?_
      refine V.iload (i := 4) dX11_characterAt_24 rfl ?_
      refine V.if_le (tgt := 39) dX11_characterAt_26 (by decide) (fun h => ?_) (fun h => ?_)
      · have hf := fif_t h hf
        refine V.iload_n (i := 3) dX11_characterAt_39 rfl rfl ?_
        refine V.aload_n (i := 0) dX11_characterAt_40 rfl rfl ?_
        refine V.iload (i := 5) dX11_characterAt_41 rfl ?_
        obtain ⟨v3, hv3, hf⟩ := fbind hf
        refine V.callVn (pl := [0, 1, 2, 3, 4]) (σ' := [.inl (6, [.ref 1, .ref 2, .int M_savedMany, .ref 3, .int M_isTaken, .ref 4, .int M_length, .int M_thrown, .int M_spelt, .int M_speltMany, .int M_place, .int M_kind, .int M_one, .int M_two, .int M_three, .int M_begins, .int M_done, .int M_stopBy, .long M_hash]), .inr (406, .inl M_s), .inr (2436, .inl M_saved), .inr (406, .inl M_snapshot), .inr (60, .inl M_text)]) (st2 := [.int v3, .int x3]) (cl2 := 0) (sl2 := 0) (ct_X11_knots (a1 := v2) (M_savedMany := M_savedMany) (M_isTaken := M_isTaken) (M_length := M_length) (M_thrown := M_thrown) (M_spelt := M_spelt) (M_speltMany := M_speltMany) (M_place := M_place) (M_kind := M_kind) (M_one := M_one) (M_two := M_two) (M_three := M_three) (M_begins := M_begins) (M_done := M_done) (M_stopBy := M_stopBy) (M_hash := M_hash) (M_s := M_s) (M_saved := M_saved) (M_snapshot := M_snapshot) (M_text := M_text) hv3) dX11_characterAt_43 w1154 ⟨w1156, w14⟩ cal_X11_knots rfl ⟨⟨Nat.le_of_ble_eq_true rfl, Nat.le_of_ble_eq_true rfl⟩, Nat.le_of_ble_eq_true rfl, Nat.le_of_ble_eq_true rfl⟩ (Nat.le_of_ble_eq_true rfl) (Or.inl ⟨_, _, _, _, rfl, rfl⟩) rfl ⟨rfl, ⟨by decide, by decide⟩, rfl, (fr_cons (Or.inl (Nat.le_of_ble_eq_true rfl)) (fr_cons (Or.inl (Nat.le_of_ble_eq_true rfl)) (fr_cons (Or.inl (Nat.le_of_ble_eq_true rfl)) (fr_cons (Or.inl (Nat.le_of_ble_eq_true rfl)) (fr_nil))))), rfl⟩ fr_i rfl rfl rfl rfl ?_
        refine V.icmp_ge (tgt := 76) dX11_characterAt_46 (by decide) (fun h => ?_) (fun h => ?_)
        · have hf := fif_t h hf
          refine V.iload_n (i := 3) dX11_characterAt_76 rfl rfl ?_
          refine V.aload_n (i := 0) dX11_characterAt_77 rfl rfl ?_
          refine V.iload (i := 5) dX11_characterAt_78 rfl ?_
          obtain ⟨v4, hv4, hf⟩ := fbind hf
          refine V.callVn (pl := [0, 1, 2, 3, 4]) (σ' := [.inl (6, [.ref 1, .ref 2, .int M_savedMany, .ref 3, .int M_isTaken, .ref 4, .int M_length, .int M_thrown, .int M_spelt, .int M_speltMany, .int M_place, .int M_kind, .int M_one, .int M_two, .int M_three, .int M_begins, .int M_done, .int M_stopBy, .long M_hash]), .inr (406, .inl M_s), .inr (2436, .inl M_saved), .inr (406, .inl M_snapshot), .inr (60, .inl M_text)]) (st2 := [.int v4, .int x3]) (cl2 := 0) (sl2 := 0) (ct_X11_knots (a1 := v2) (M_savedMany := M_savedMany) (M_isTaken := M_isTaken) (M_length := M_length) (M_thrown := M_thrown) (M_spelt := M_spelt) (M_speltMany := M_speltMany) (M_place := M_place) (M_kind := M_kind) (M_one := M_one) (M_two := M_two) (M_three := M_three) (M_begins := M_begins) (M_done := M_done) (M_stopBy := M_stopBy) (M_hash := M_hash) (M_s := M_s) (M_saved := M_saved) (M_snapshot := M_snapshot) (M_text := M_text) hv4) dX11_characterAt_80 w1154 ⟨w1156, w14⟩ cal_X11_knots rfl ⟨⟨Nat.le_of_ble_eq_true rfl, Nat.le_of_ble_eq_true rfl⟩, Nat.le_of_ble_eq_true rfl, Nat.le_of_ble_eq_true rfl⟩ (Nat.le_of_ble_eq_true rfl) (Or.inl ⟨_, _, _, _, rfl, rfl⟩) rfl ⟨rfl, ⟨by decide, by decide⟩, rfl, (fr_cons (Or.inl (Nat.le_of_ble_eq_true rfl)) (fr_cons (Or.inl (Nat.le_of_ble_eq_true rfl)) (fr_cons (Or.inl (Nat.le_of_ble_eq_true rfl)) (fr_cons (Or.inl (Nat.le_of_ble_eq_true rfl)) (fr_nil))))), rfl⟩ fr_i rfl rfl rfl rfl ?_
          refine V.isub dX11_characterAt_83 ?_
          refine V.istore_n (i := 3) (L' := [some (.ref 0), some (.int p1), some (.int p2), some (.int (x3 - v4)), some (.int x4), some (.int v2), none]) dX11_characterAt_84 rfl (Nat.le_of_ble_eq_true rfl) rfl rfl ?_
          refine V.iinc (i := 4) (v := (x4 + 1)) (L' := [some (.ref 0), some (.int p1), some (.int p2), some (.int (x3 - v4)), some (.int (x4 + 1)), some (.int v2), none]) dX11_characterAt_85 rfl rfl (Nat.le_of_ble_eq_true rfl) rfl rfl ?_
          refine V.goto (tgt := 5) dX11_characterAt_88 (by decide) ?_
          exact V.locs (L' := [some (.ref 0), some (.int p1), some (.int p2), some (.int (x3 - v4)), some (.int (x4 + 1)), none, none]) ⟨rfl, ⟨rfl, ⟨rfl, ⟨rfl, ⟨rfl, trivial⟩⟩⟩⟩⟩ (ih hf hr hx)
        · have hf := fif_f h hf
          refine V.aload_n (i := 0) dX11_characterAt_49 rfl rfl ?_
          refine V.iload (i := 5) dX11_characterAt_50 rfl ?_
          refine V.iload_n (i := 3) dX11_characterAt_52 rfl rfl ?_
          obtain ⟨v5, hv5, hf⟩ := fbind hf
          refine V.callVn (pl := [0, 1, 2, 3, 4]) (σ' := [.inl (6, [.ref 1, .ref 2, .int M_savedMany, .ref 3, .int M_isTaken, .ref 4, .int M_length, .int M_thrown, .int M_spelt, .int M_speltMany, .int M_place, .int M_kind, .int M_one, .int M_two, .int M_three, .int M_begins, .int M_done, .int M_stopBy, .long M_hash]), .inr (406, .inl M_s), .inr (2436, .inl M_saved), .inr (406, .inl M_snapshot), .inr (60, .inl M_text)]) (st2 := [.int v5]) (cl2 := 0) (sl2 := 0) (ct_X11_readAs (a1 := v2) (a2 := x3) (M_savedMany := M_savedMany) (M_isTaken := M_isTaken) (M_length := M_length) (M_thrown := M_thrown) (M_spelt := M_spelt) (M_speltMany := M_speltMany) (M_place := M_place) (M_kind := M_kind) (M_one := M_one) (M_two := M_two) (M_three := M_three) (M_begins := M_begins) (M_done := M_done) (M_stopBy := M_stopBy) (M_hash := M_hash) (M_s := M_s) (M_saved := M_saved) (M_snapshot := M_snapshot) (M_text := M_text) hv5) dX11_characterAt_53 w1170 ⟨w1172, w18⟩ cal_X11_readAs rfl ⟨⟨Nat.le_of_ble_eq_true rfl, Nat.le_of_ble_eq_true rfl⟩, Nat.le_of_ble_eq_true rfl, Nat.le_of_ble_eq_true rfl⟩ (Nat.le_of_ble_eq_true rfl) (Or.inl ⟨_, _, _, _, rfl, rfl⟩) rfl ⟨rfl, ⟨by decide, by decide⟩, rfl, (fr_cons (Or.inl (Nat.le_of_ble_eq_true rfl)) (fr_cons (Or.inl (Nat.le_of_ble_eq_true rfl)) (fr_cons (Or.inl (Nat.le_of_ble_eq_true rfl)) (fr_cons (Or.inl (Nat.le_of_ble_eq_true rfl)) (fr_nil))))), rfl⟩ fr_i rfl rfl rfl rfl ?_
          refine V.istore (i := 6) (L' := [some (.ref 0), some (.int p1), some (.int p2), some (.int x3), some (.int x4), some (.int v2), some (.int v5)]) dX11_characterAt_56 (Nat.le_of_ble_eq_true rfl) rfl rfl ?_
          refine V.iload (i := 6) dX11_characterAt_58 rfl ?_
          refine V.bipush (v := 16) dX11_characterAt_60 rfl ?_
          refine V.icmp_ne (tgt := 70) dX11_characterAt_62 (by decide) (fun h => ?_) (fun h => ?_)
          · have hf := fif_f h hf
            refine V.bipush (v := 97) dX11_characterAt_70 rfl ?_
            refine V.iload (i := 6) dX11_characterAt_72 rfl ?_
            refine V.iadd dX11_characterAt_74 ?_
            obtain rfl := Option.some.inj hf
            obtain ⟨e1, e2⟩ := hr _ rfl
            subst e1; subst e2
            exact V.iret dX11_characterAt_75 rfl (Nat.le_of_ble_eq_true rfl) (Nat.le_of_ble_eq_true rfl) rfl
          · have hf := fif_t h hf
            refine V.bipush (v := 63) dX11_characterAt_65 rfl ?_
            refine V.goto (tgt := 75) dX11_characterAt_67 (by decide) ?_
            obtain rfl := Option.some.inj hf
            obtain ⟨e1, e2⟩ := hr _ rfl
            subst e1; subst e2
            exact V.iret dX11_characterAt_75 rfl (Nat.le_of_ble_eq_true rfl) (Nat.le_of_ble_eq_true rfl) rfl
      · have hf := fif_f h hf
        refine V.iload_n (i := 3) dX11_characterAt_29 rfl rfl ?_
        refine V.if_ne (tgt := 36) dX11_characterAt_30 (by decide) (fun h => ?_) (fun h => ?_)
        · have hf := fif_f h hf
          refine V.iinc (i := 3) (v := (x3 + (-1))) (L' := [some (.ref 0), some (.int p1), some (.int p2), some (.int (x3 + (-1))), some (.int x4), some (.int v2), none]) dX11_characterAt_36 rfl rfl (Nat.le_of_ble_eq_true rfl) rfl rfl ?_
          refine V.iload_n (i := 3) dX11_characterAt_39 rfl rfl ?_
          refine V.aload_n (i := 0) dX11_characterAt_40 rfl rfl ?_
          refine V.iload (i := 5) dX11_characterAt_41 rfl ?_
          obtain ⟨v6, hv6, hf⟩ := fbind hf
          refine V.callVn (pl := [0, 1, 2, 3, 4]) (σ' := [.inl (6, [.ref 1, .ref 2, .int M_savedMany, .ref 3, .int M_isTaken, .ref 4, .int M_length, .int M_thrown, .int M_spelt, .int M_speltMany, .int M_place, .int M_kind, .int M_one, .int M_two, .int M_three, .int M_begins, .int M_done, .int M_stopBy, .long M_hash]), .inr (406, .inl M_s), .inr (2436, .inl M_saved), .inr (406, .inl M_snapshot), .inr (60, .inl M_text)]) (st2 := [.int v6, .int (x3 + (-1))]) (cl2 := 0) (sl2 := 0) (ct_X11_knots (a1 := v2) (M_savedMany := M_savedMany) (M_isTaken := M_isTaken) (M_length := M_length) (M_thrown := M_thrown) (M_spelt := M_spelt) (M_speltMany := M_speltMany) (M_place := M_place) (M_kind := M_kind) (M_one := M_one) (M_two := M_two) (M_three := M_three) (M_begins := M_begins) (M_done := M_done) (M_stopBy := M_stopBy) (M_hash := M_hash) (M_s := M_s) (M_saved := M_saved) (M_snapshot := M_snapshot) (M_text := M_text) hv6) dX11_characterAt_43 w1154 ⟨w1156, w14⟩ cal_X11_knots rfl ⟨⟨Nat.le_of_ble_eq_true rfl, Nat.le_of_ble_eq_true rfl⟩, Nat.le_of_ble_eq_true rfl, Nat.le_of_ble_eq_true rfl⟩ (Nat.le_of_ble_eq_true rfl) (Or.inl ⟨_, _, _, _, rfl, rfl⟩) rfl ⟨rfl, ⟨by decide, by decide⟩, rfl, (fr_cons (Or.inl (Nat.le_of_ble_eq_true rfl)) (fr_cons (Or.inl (Nat.le_of_ble_eq_true rfl)) (fr_cons (Or.inl (Nat.le_of_ble_eq_true rfl)) (fr_cons (Or.inl (Nat.le_of_ble_eq_true rfl)) (fr_nil))))), rfl⟩ fr_i rfl rfl rfl rfl ?_
          refine V.icmp_ge (tgt := 76) dX11_characterAt_46 (by decide) (fun h => ?_) (fun h => ?_)
          · have hf := fif_t h hf
            refine V.iload_n (i := 3) dX11_characterAt_76 rfl rfl ?_
            refine V.aload_n (i := 0) dX11_characterAt_77 rfl rfl ?_
            refine V.iload (i := 5) dX11_characterAt_78 rfl ?_
            obtain ⟨v7, hv7, hf⟩ := fbind hf
            refine V.callVn (pl := [0, 1, 2, 3, 4]) (σ' := [.inl (6, [.ref 1, .ref 2, .int M_savedMany, .ref 3, .int M_isTaken, .ref 4, .int M_length, .int M_thrown, .int M_spelt, .int M_speltMany, .int M_place, .int M_kind, .int M_one, .int M_two, .int M_three, .int M_begins, .int M_done, .int M_stopBy, .long M_hash]), .inr (406, .inl M_s), .inr (2436, .inl M_saved), .inr (406, .inl M_snapshot), .inr (60, .inl M_text)]) (st2 := [.int v7, .int (x3 + (-1))]) (cl2 := 0) (sl2 := 0) (ct_X11_knots (a1 := v2) (M_savedMany := M_savedMany) (M_isTaken := M_isTaken) (M_length := M_length) (M_thrown := M_thrown) (M_spelt := M_spelt) (M_speltMany := M_speltMany) (M_place := M_place) (M_kind := M_kind) (M_one := M_one) (M_two := M_two) (M_three := M_three) (M_begins := M_begins) (M_done := M_done) (M_stopBy := M_stopBy) (M_hash := M_hash) (M_s := M_s) (M_saved := M_saved) (M_snapshot := M_snapshot) (M_text := M_text) hv7) dX11_characterAt_80 w1154 ⟨w1156, w14⟩ cal_X11_knots rfl ⟨⟨Nat.le_of_ble_eq_true rfl, Nat.le_of_ble_eq_true rfl⟩, Nat.le_of_ble_eq_true rfl, Nat.le_of_ble_eq_true rfl⟩ (Nat.le_of_ble_eq_true rfl) (Or.inl ⟨_, _, _, _, rfl, rfl⟩) rfl ⟨rfl, ⟨by decide, by decide⟩, rfl, (fr_cons (Or.inl (Nat.le_of_ble_eq_true rfl)) (fr_cons (Or.inl (Nat.le_of_ble_eq_true rfl)) (fr_cons (Or.inl (Nat.le_of_ble_eq_true rfl)) (fr_cons (Or.inl (Nat.le_of_ble_eq_true rfl)) (fr_nil))))), rfl⟩ fr_i rfl rfl rfl rfl ?_
            refine V.isub dX11_characterAt_83 ?_
            refine V.istore_n (i := 3) (L' := [some (.ref 0), some (.int p1), some (.int p2), some (.int ((x3 + (-1)) - v7)), some (.int x4), some (.int v2), none]) dX11_characterAt_84 rfl (Nat.le_of_ble_eq_true rfl) rfl rfl ?_
            refine V.iinc (i := 4) (v := (x4 + 1)) (L' := [some (.ref 0), some (.int p1), some (.int p2), some (.int ((x3 + (-1)) - v7)), some (.int (x4 + 1)), some (.int v2), none]) dX11_characterAt_85 rfl rfl (Nat.le_of_ble_eq_true rfl) rfl rfl ?_
            refine V.goto (tgt := 5) dX11_characterAt_88 (by decide) ?_
            exact V.locs (L' := [some (.ref 0), some (.int p1), some (.int p2), some (.int ((x3 + (-1)) - v7)), some (.int (x4 + 1)), none, none]) ⟨rfl, ⟨rfl, ⟨rfl, ⟨rfl, ⟨rfl, trivial⟩⟩⟩⟩⟩ (ih hf hr hx)
          · have hf := fif_f h hf
            refine V.aload_n (i := 0) dX11_characterAt_49 rfl rfl ?_
            refine V.iload (i := 5) dX11_characterAt_50 rfl ?_
            refine V.iload_n (i := 3) dX11_characterAt_52 rfl rfl ?_
            obtain ⟨v8, hv8, hf⟩ := fbind hf
            refine V.callVn (pl := [0, 1, 2, 3, 4]) (σ' := [.inl (6, [.ref 1, .ref 2, .int M_savedMany, .ref 3, .int M_isTaken, .ref 4, .int M_length, .int M_thrown, .int M_spelt, .int M_speltMany, .int M_place, .int M_kind, .int M_one, .int M_two, .int M_three, .int M_begins, .int M_done, .int M_stopBy, .long M_hash]), .inr (406, .inl M_s), .inr (2436, .inl M_saved), .inr (406, .inl M_snapshot), .inr (60, .inl M_text)]) (st2 := [.int v8]) (cl2 := 0) (sl2 := 0) (ct_X11_readAs (a1 := v2) (a2 := (x3 + (-1))) (M_savedMany := M_savedMany) (M_isTaken := M_isTaken) (M_length := M_length) (M_thrown := M_thrown) (M_spelt := M_spelt) (M_speltMany := M_speltMany) (M_place := M_place) (M_kind := M_kind) (M_one := M_one) (M_two := M_two) (M_three := M_three) (M_begins := M_begins) (M_done := M_done) (M_stopBy := M_stopBy) (M_hash := M_hash) (M_s := M_s) (M_saved := M_saved) (M_snapshot := M_snapshot) (M_text := M_text) hv8) dX11_characterAt_53 w1170 ⟨w1172, w18⟩ cal_X11_readAs rfl ⟨⟨Nat.le_of_ble_eq_true rfl, Nat.le_of_ble_eq_true rfl⟩, Nat.le_of_ble_eq_true rfl, Nat.le_of_ble_eq_true rfl⟩ (Nat.le_of_ble_eq_true rfl) (Or.inl ⟨_, _, _, _, rfl, rfl⟩) rfl ⟨rfl, ⟨by decide, by decide⟩, rfl, (fr_cons (Or.inl (Nat.le_of_ble_eq_true rfl)) (fr_cons (Or.inl (Nat.le_of_ble_eq_true rfl)) (fr_cons (Or.inl (Nat.le_of_ble_eq_true rfl)) (fr_cons (Or.inl (Nat.le_of_ble_eq_true rfl)) (fr_nil))))), rfl⟩ fr_i rfl rfl rfl rfl ?_
            refine V.istore (i := 6) (L' := [some (.ref 0), some (.int p1), some (.int p2), some (.int (x3 + (-1))), some (.int x4), some (.int v2), some (.int v8)]) dX11_characterAt_56 (Nat.le_of_ble_eq_true rfl) rfl rfl ?_
            refine V.iload (i := 6) dX11_characterAt_58 rfl ?_
            refine V.bipush (v := 16) dX11_characterAt_60 rfl ?_
            refine V.icmp_ne (tgt := 70) dX11_characterAt_62 (by decide) (fun h => ?_) (fun h => ?_)
            · have hf := fif_f h hf
              refine V.bipush (v := 97) dX11_characterAt_70 rfl ?_
              refine V.iload (i := 6) dX11_characterAt_72 rfl ?_
              refine V.iadd dX11_characterAt_74 ?_
              obtain rfl := Option.some.inj hf
              obtain ⟨e1, e2⟩ := hr _ rfl
              subst e1; subst e2
              exact V.iret dX11_characterAt_75 rfl (Nat.le_of_ble_eq_true rfl) (Nat.le_of_ble_eq_true rfl) rfl
            · have hf := fif_t h hf
              refine V.bipush (v := 63) dX11_characterAt_65 rfl ?_
              refine V.goto (tgt := 75) dX11_characterAt_67 (by decide) ?_
              obtain rfl := Option.some.inj hf
              obtain ⟨e1, e2⟩ := hr _ rfl
              subst e1; subst e2
              exact V.iret dX11_characterAt_75 rfl (Nat.le_of_ble_eq_true rfl) (Nat.le_of_ble_eq_true rfl) rfl
        · have hf := fif_t h hf
          refine V.bipush (v := 45) dX11_characterAt_33 rfl ?_
          obtain rfl := Option.some.inj hf
          obtain ⟨e1, e2⟩ := hr _ rfl
          subst e1; subst e2
          exact V.iret dX11_characterAt_35 rfl (Nat.le_of_ble_eq_true rfl) (Nat.le_of_ble_eq_true rfl) rfl
def s_X11_characterAt (a1 : Int32) (a2 : Int32) (M_s : Nat → Int32) : Option (Int32) := (s_X11_characterAt_L5 a1 M_s gF a2 0).bind fun r9 => fsum r9 (fun r9 => some r9) (fun e10 => some (-1))
set_option maxHeartbeats 4000000 in
set_option maxRecDepth 100000 in
theorem ct_X11_characterAt {a1 : Int32} {a2 : Int32} {M_savedMany : Int32} {M_isTaken : Int32} {M_length : Int32} {M_thrown : Int32} {M_spelt : Int32} {M_speltMany : Int32} {M_place : Int32} {M_kind : Int32} {M_one : Int32} {M_two : Int32} {M_three : Int32} {M_begins : Int32} {M_done : Int32} {M_stopBy : Int32} {M_hash : Int64} {M_s : Nat → Int32} {M_saved : Nat → Int32} {M_snapshot : Nat → Int32} {M_text : Nat → Int32} {res : Int32} (hf : s_X11_characterAt a1 a2 M_s = some res) : Ct k_X11_characterAt [.ref 0, .int a1, .int a2] [.inl (6, [.ref 1, .ref 2, .int M_savedMany, .ref 3, .int M_isTaken, .ref 4, .int M_length, .int M_thrown, .int M_spelt, .int M_speltMany, .int M_place, .int M_kind, .int M_one, .int M_two, .int M_three, .int M_begins, .int M_done, .int M_stopBy, .long M_hash]), .inr (406, .inl M_s), .inr (2436, .inl M_saved), .inr (406, .inl M_snapshot), .inr (60, .inl M_text)] (.inl (some (.int res))) [.inl (6, [.ref 1, .ref 2, .int M_savedMany, .ref 3, .int M_isTaken, .ref 4, .int M_length, .int M_thrown, .int M_spelt, .int M_speltMany, .int M_place, .int M_kind, .int M_one, .int M_two, .int M_three, .int M_begins, .int M_done, .int M_stopBy, .long M_hash]), .inr (406, .inl M_s), .inr (2436, .inl M_saved), .inr (406, .inl M_snapshot), .inr (60, .inl M_text)] := by
  unfold s_X11_characterAt at hf
  refine Ct.of (L := [some (.ref 0), some (.int a1), some (.int a2), none, none, none, none]) cal_X11_characterAt (fent_pad (j := 4) rfl) (Nat.le_of_ble_eq_true rfl) ?_
  refine V.iload_n (i := 2) dX11_characterAt_0 rfl rfl ?_
  refine V.istore_n (i := 3) (L' := [some (.ref 0), some (.int a1), some (.int a2), some (.int a2), none, none, none]) dX11_characterAt_1 rfl (Nat.le_of_ble_eq_true rfl) rfl rfl ?_
  refine V.iconst (v := 0) dX11_characterAt_2 rfl ?_
  refine V.istore (i := 4) (L' := [some (.ref 0), some (.int a1), some (.int a2), some (.int a2), some (.int 0), none, none]) dX11_characterAt_3 (Nat.le_of_ble_eq_true rfl) rfl rfl ?_
  obtain ⟨r9, hr9, hf⟩ := fbind hf
  rcases r9 with r9 | e10
  · obtain rfl := Option.some.inj (show some _ = some res from hf)
    exact v_X11_characterAt_L5 gF hr9 (fun _ h => by cases h; exact ⟨rfl, rfl⟩) (fun _ h => by cases h)
  · replace hf : _ = some res := hf
    dsimp only [fsum] at hf
    refine v_X11_characterAt_L5 gF hr9 (fun _ h => by cases h) (fun _ h => ?_)
    cases h
    refine V.iconst (v := (-1)) dX11_characterAt_91 rfl ?_
    obtain rfl := Option.some.inj hf
    exact V.iret dX11_characterAt_92 rfl (Nat.le_of_ble_eq_true rfl) (Nat.le_of_ble_eq_true rfl) rfl
def k_X11_told : fK := (yX11_told, cX11_told, 3, (some .int), [], (4, 92), (0, 0), (0, 0))
theorem cal_X11_told : fCal k_X11_told 2 := ⟨⟨wc1330, w73⟩, ⟨by decide +kernel, by decide +kernel⟩, by decide +kernel, by decide +kernel⟩
def s_X11_told (a1 : Int32) (a2 : Int32) (M_thrown : Int32) (M_s : Nat → Int32) : Option (Int32 × (Int32)) := (s_X11_isFisher a1).bind fun v1 => if (v1 = 0 : Prop) then ((s_X11_holds 1 M_thrown).bind fun v6 => if (v6.1 = 0 : Prop) then (some (0, v6.2)) else ((s_X11_characterAt a1 a2 M_s).bind fun v7 => some (v7, v6.2))) else (if (0 ≤ a2 : Prop) then ((s_X11_holds 0 M_thrown).bind fun v2 => if (v2.1 = 0 : Prop) then (some (0, v2.2)) else ((s_X11_characterAt a1 a2 M_s).bind fun v3 => some (v3, v2.2))) else ((s_X11_holds 2 M_thrown).bind fun v4 => if (v4.1 = 0 : Prop) then (some (0, v4.2)) else ((s_X11_characterAt a1 a2 M_s).bind fun v5 => some (v5, v4.2))))
set_option maxHeartbeats 4000000 in
set_option maxRecDepth 100000 in
theorem ct_X11_told {a1 : Int32} {a2 : Int32} {M_savedMany : Int32} {M_isTaken : Int32} {M_length : Int32} {M_thrown : Int32} {M_spelt : Int32} {M_speltMany : Int32} {M_place : Int32} {M_kind : Int32} {M_one : Int32} {M_two : Int32} {M_three : Int32} {M_begins : Int32} {M_done : Int32} {M_stopBy : Int32} {M_hash : Int64} {M_s : Nat → Int32} {M_saved : Nat → Int32} {M_snapshot : Nat → Int32} {M_text : Nat → Int32} {res : Int32 × (Int32)} (hf : s_X11_told a1 a2 M_thrown M_s = some res) : Ct k_X11_told [.ref 0, .int a1, .int a2] [.inl (6, [.ref 1, .ref 2, .int M_savedMany, .ref 3, .int M_isTaken, .ref 4, .int M_length, .int M_thrown, .int M_spelt, .int M_speltMany, .int M_place, .int M_kind, .int M_one, .int M_two, .int M_three, .int M_begins, .int M_done, .int M_stopBy, .long M_hash]), .inr (406, .inl M_s), .inr (2436, .inl M_saved), .inr (406, .inl M_snapshot), .inr (60, .inl M_text)] (.inl (some (.int res.1))) [.inl (6, [.ref 1, .ref 2, .int M_savedMany, .ref 3, .int M_isTaken, .ref 4, .int M_length, .int res.2, .int M_spelt, .int M_speltMany, .int M_place, .int M_kind, .int M_one, .int M_two, .int M_three, .int M_begins, .int M_done, .int M_stopBy, .long M_hash]), .inr (406, .inl M_s), .inr (2436, .inl M_saved), .inr (406, .inl M_snapshot), .inr (60, .inl M_text)] := by
  unfold s_X11_told at hf
  refine Ct.of (L := [some (.ref 0), some (.int a1), some (.int a2)]) cal_X11_told (fent_pad (j := 0) rfl) (Nat.le_of_ble_eq_true rfl) ?_
  refine V.aload_n (i := 0) dX11_told_0 rfl rfl ?_
  refine V.iload_n (i := 1) dX11_told_1 rfl rfl ?_
  obtain ⟨v1, hv1, hf⟩ := fbind hf
  refine V.callSn (pl := []) (σ' := [.inl (6, [.ref 1, .ref 2, .int M_savedMany, .ref 3, .int M_isTaken, .ref 4, .int M_length, .int M_thrown, .int M_spelt, .int M_speltMany, .int M_place, .int M_kind, .int M_one, .int M_two, .int M_three, .int M_begins, .int M_done, .int M_stopBy, .long M_hash]), .inr (406, .inl M_s), .inr (2436, .inl M_saved), .inr (406, .inl M_snapshot), .inr (60, .inl M_text)]) (st2 := [.int v1, .ref 0]) (cl2 := 0) (sl2 := 0) (ct_X11_isFisher (a0 := a1) hv1) dX11_told_2 w1116 w1117 cal_X11_isFisher ⟨⟨Nat.le_of_ble_eq_true rfl, Nat.le_of_ble_eq_true rfl⟩, Nat.le_of_ble_eq_true rfl, Nat.le_of_ble_eq_true rfl⟩ (Nat.le_of_ble_eq_true rfl) rfl ⟨rfl, ⟨by decide, by decide⟩, rfl, (fr_nil), rfl⟩ fr_i rfl rfl rfl rfl ?_
  refine V.if_ne (tgt := 12) dX11_told_5 (by decide) (fun h => ?_) (fun h => ?_)
  · have hf := fif_f h hf
    refine V.iload_n (i := 2) dX11_told_12 rfl rfl ?_
    refine V.if_ge (tgt := 20) dX11_told_13 (by decide) (fun h => ?_) (fun h => ?_)
    · have hf := fif_t h hf
      refine V.iconst (v := 0) dX11_told_20 rfl ?_
      obtain ⟨v2, hv2, hf⟩ := fbind hf
      refine V.callVn (pl := [0, 1, 2, 3, 4]) (σ' := [.inl (6, [.ref 1, .ref 2, .int M_savedMany, .ref 3, .int M_isTaken, .ref 4, .int M_length, .int v2.2, .int M_spelt, .int M_speltMany, .int M_place, .int M_kind, .int M_one, .int M_two, .int M_three, .int M_begins, .int M_done, .int M_stopBy, .long M_hash]), .inr (406, .inl M_s), .inr (2436, .inl M_saved), .inr (406, .inl M_snapshot), .inr (60, .inl M_text)]) (st2 := [.int v2.1]) (cl2 := 0) (sl2 := 0) (ct_X11_holds (a1 := 0) (M_savedMany := M_savedMany) (M_isTaken := M_isTaken) (M_length := M_length) (M_thrown := M_thrown) (M_spelt := M_spelt) (M_speltMany := M_speltMany) (M_place := M_place) (M_kind := M_kind) (M_one := M_one) (M_two := M_two) (M_three := M_three) (M_begins := M_begins) (M_done := M_done) (M_stopBy := M_stopBy) (M_hash := M_hash) (M_s := M_s) (M_saved := M_saved) (M_snapshot := M_snapshot) (M_text := M_text) hv2) dX11_told_21 w1181 ⟨w1183, w20⟩ cal_X11_holds rfl ⟨⟨Nat.le_of_ble_eq_true rfl, Nat.le_of_ble_eq_true rfl⟩, Nat.le_of_ble_eq_true rfl, Nat.le_of_ble_eq_true rfl⟩ (Nat.le_of_ble_eq_true rfl) (Or.inl ⟨_, _, _, _, rfl, rfl⟩) rfl ⟨rfl, ⟨by decide, by decide⟩, rfl, (fr_cons (Or.inl (Nat.le_of_ble_eq_true rfl)) (fr_cons (Or.inl (Nat.le_of_ble_eq_true rfl)) (fr_cons (Or.inl (Nat.le_of_ble_eq_true rfl)) (fr_cons (Or.inl (Nat.le_of_ble_eq_true rfl)) (fr_nil))))), rfl⟩ fr_i rfl rfl rfl rfl ?_
      refine V.if_eq (tgt := 36) dX11_told_24 (by decide) (fun h => ?_) (fun h => ?_)
      · have hf := fif_t h hf
        refine V.iconst (v := 0) dX11_told_36 rfl ?_
        obtain rfl := Option.some.inj hf
        exact V.iret dX11_told_37 rfl (Nat.le_of_ble_eq_true rfl) (Nat.le_of_ble_eq_true rfl) rfl
      · have hf := fif_f h hf
        refine V.aload_n (i := 0) dX11_told_27 rfl rfl ?_
        refine V.iload_n (i := 1) dX11_told_28 rfl rfl ?_
        refine V.iload_n (i := 2) dX11_told_29 rfl rfl ?_
        obtain ⟨v3, hv3, hf⟩ := fbind hf
        refine V.callVn (pl := [0, 1, 2, 3, 4]) (σ' := [.inl (6, [.ref 1, .ref 2, .int M_savedMany, .ref 3, .int M_isTaken, .ref 4, .int M_length, .int v2.2, .int M_spelt, .int M_speltMany, .int M_place, .int M_kind, .int M_one, .int M_two, .int M_three, .int M_begins, .int M_done, .int M_stopBy, .long M_hash]), .inr (406, .inl M_s), .inr (2436, .inl M_saved), .inr (406, .inl M_snapshot), .inr (60, .inl M_text)]) (st2 := [.int v3]) (cl2 := 0) (sl2 := 0) (ct_X11_characterAt (a1 := a1) (a2 := a2) (M_savedMany := M_savedMany) (M_isTaken := M_isTaken) (M_length := M_length) (M_thrown := v2.2) (M_spelt := M_spelt) (M_speltMany := M_speltMany) (M_place := M_place) (M_kind := M_kind) (M_one := M_one) (M_two := M_two) (M_three := M_three) (M_begins := M_begins) (M_done := M_done) (M_stopBy := M_stopBy) (M_hash := M_hash) (M_s := M_s) (M_saved := M_saved) (M_snapshot := M_snapshot) (M_text := M_text) hv3) dX11_told_30 w1331 ⟨w1333, w44⟩ cal_X11_characterAt rfl ⟨⟨Nat.le_of_ble_eq_true rfl, Nat.le_of_ble_eq_true rfl⟩, Nat.le_of_ble_eq_true rfl, Nat.le_of_ble_eq_true rfl⟩ (Nat.le_of_ble_eq_true rfl) (Or.inl ⟨_, _, _, _, rfl, rfl⟩) rfl ⟨rfl, ⟨by decide, by decide⟩, rfl, (fr_cons (Or.inl (Nat.le_of_ble_eq_true rfl)) (fr_cons (Or.inl (Nat.le_of_ble_eq_true rfl)) (fr_cons (Or.inl (Nat.le_of_ble_eq_true rfl)) (fr_cons (Or.inl (Nat.le_of_ble_eq_true rfl)) (fr_nil))))), rfl⟩ fr_i rfl rfl rfl rfl ?_
        refine V.goto (tgt := 37) dX11_told_33 (by decide) ?_
        obtain rfl := Option.some.inj hf
        exact V.iret dX11_told_37 rfl (Nat.le_of_ble_eq_true rfl) (Nat.le_of_ble_eq_true rfl) rfl
    · have hf := fif_f h hf
      refine V.iconst (v := 2) dX11_told_16 rfl ?_
      refine V.goto (tgt := 21) dX11_told_17 (by decide) ?_
      obtain ⟨v4, hv4, hf⟩ := fbind hf
      refine V.callVn (pl := [0, 1, 2, 3, 4]) (σ' := [.inl (6, [.ref 1, .ref 2, .int M_savedMany, .ref 3, .int M_isTaken, .ref 4, .int M_length, .int v4.2, .int M_spelt, .int M_speltMany, .int M_place, .int M_kind, .int M_one, .int M_two, .int M_three, .int M_begins, .int M_done, .int M_stopBy, .long M_hash]), .inr (406, .inl M_s), .inr (2436, .inl M_saved), .inr (406, .inl M_snapshot), .inr (60, .inl M_text)]) (st2 := [.int v4.1]) (cl2 := 0) (sl2 := 0) (ct_X11_holds (a1 := 2) (M_savedMany := M_savedMany) (M_isTaken := M_isTaken) (M_length := M_length) (M_thrown := M_thrown) (M_spelt := M_spelt) (M_speltMany := M_speltMany) (M_place := M_place) (M_kind := M_kind) (M_one := M_one) (M_two := M_two) (M_three := M_three) (M_begins := M_begins) (M_done := M_done) (M_stopBy := M_stopBy) (M_hash := M_hash) (M_s := M_s) (M_saved := M_saved) (M_snapshot := M_snapshot) (M_text := M_text) hv4) dX11_told_21 w1181 ⟨w1183, w20⟩ cal_X11_holds rfl ⟨⟨Nat.le_of_ble_eq_true rfl, Nat.le_of_ble_eq_true rfl⟩, Nat.le_of_ble_eq_true rfl, Nat.le_of_ble_eq_true rfl⟩ (Nat.le_of_ble_eq_true rfl) (Or.inl ⟨_, _, _, _, rfl, rfl⟩) rfl ⟨rfl, ⟨by decide, by decide⟩, rfl, (fr_cons (Or.inl (Nat.le_of_ble_eq_true rfl)) (fr_cons (Or.inl (Nat.le_of_ble_eq_true rfl)) (fr_cons (Or.inl (Nat.le_of_ble_eq_true rfl)) (fr_cons (Or.inl (Nat.le_of_ble_eq_true rfl)) (fr_nil))))), rfl⟩ fr_i rfl rfl rfl rfl ?_
      refine V.if_eq (tgt := 36) dX11_told_24 (by decide) (fun h => ?_) (fun h => ?_)
      · have hf := fif_t h hf
        refine V.iconst (v := 0) dX11_told_36 rfl ?_
        obtain rfl := Option.some.inj hf
        exact V.iret dX11_told_37 rfl (Nat.le_of_ble_eq_true rfl) (Nat.le_of_ble_eq_true rfl) rfl
      · have hf := fif_f h hf
        refine V.aload_n (i := 0) dX11_told_27 rfl rfl ?_
        refine V.iload_n (i := 1) dX11_told_28 rfl rfl ?_
        refine V.iload_n (i := 2) dX11_told_29 rfl rfl ?_
        obtain ⟨v5, hv5, hf⟩ := fbind hf
        refine V.callVn (pl := [0, 1, 2, 3, 4]) (σ' := [.inl (6, [.ref 1, .ref 2, .int M_savedMany, .ref 3, .int M_isTaken, .ref 4, .int M_length, .int v4.2, .int M_spelt, .int M_speltMany, .int M_place, .int M_kind, .int M_one, .int M_two, .int M_three, .int M_begins, .int M_done, .int M_stopBy, .long M_hash]), .inr (406, .inl M_s), .inr (2436, .inl M_saved), .inr (406, .inl M_snapshot), .inr (60, .inl M_text)]) (st2 := [.int v5]) (cl2 := 0) (sl2 := 0) (ct_X11_characterAt (a1 := a1) (a2 := a2) (M_savedMany := M_savedMany) (M_isTaken := M_isTaken) (M_length := M_length) (M_thrown := v4.2) (M_spelt := M_spelt) (M_speltMany := M_speltMany) (M_place := M_place) (M_kind := M_kind) (M_one := M_one) (M_two := M_two) (M_three := M_three) (M_begins := M_begins) (M_done := M_done) (M_stopBy := M_stopBy) (M_hash := M_hash) (M_s := M_s) (M_saved := M_saved) (M_snapshot := M_snapshot) (M_text := M_text) hv5) dX11_told_30 w1331 ⟨w1333, w44⟩ cal_X11_characterAt rfl ⟨⟨Nat.le_of_ble_eq_true rfl, Nat.le_of_ble_eq_true rfl⟩, Nat.le_of_ble_eq_true rfl, Nat.le_of_ble_eq_true rfl⟩ (Nat.le_of_ble_eq_true rfl) (Or.inl ⟨_, _, _, _, rfl, rfl⟩) rfl ⟨rfl, ⟨by decide, by decide⟩, rfl, (fr_cons (Or.inl (Nat.le_of_ble_eq_true rfl)) (fr_cons (Or.inl (Nat.le_of_ble_eq_true rfl)) (fr_cons (Or.inl (Nat.le_of_ble_eq_true rfl)) (fr_cons (Or.inl (Nat.le_of_ble_eq_true rfl)) (fr_nil))))), rfl⟩ fr_i rfl rfl rfl rfl ?_
        refine V.goto (tgt := 37) dX11_told_33 (by decide) ?_
        obtain rfl := Option.some.inj hf
        exact V.iret dX11_told_37 rfl (Nat.le_of_ble_eq_true rfl) (Nat.le_of_ble_eq_true rfl) rfl
  · have hf := fif_t h hf
    refine V.iconst (v := 1) dX11_told_8 rfl ?_
    refine V.goto (tgt := 21) dX11_told_9 (by decide) ?_
    obtain ⟨v6, hv6, hf⟩ := fbind hf
    refine V.callVn (pl := [0, 1, 2, 3, 4]) (σ' := [.inl (6, [.ref 1, .ref 2, .int M_savedMany, .ref 3, .int M_isTaken, .ref 4, .int M_length, .int v6.2, .int M_spelt, .int M_speltMany, .int M_place, .int M_kind, .int M_one, .int M_two, .int M_three, .int M_begins, .int M_done, .int M_stopBy, .long M_hash]), .inr (406, .inl M_s), .inr (2436, .inl M_saved), .inr (406, .inl M_snapshot), .inr (60, .inl M_text)]) (st2 := [.int v6.1]) (cl2 := 0) (sl2 := 0) (ct_X11_holds (a1 := 1) (M_savedMany := M_savedMany) (M_isTaken := M_isTaken) (M_length := M_length) (M_thrown := M_thrown) (M_spelt := M_spelt) (M_speltMany := M_speltMany) (M_place := M_place) (M_kind := M_kind) (M_one := M_one) (M_two := M_two) (M_three := M_three) (M_begins := M_begins) (M_done := M_done) (M_stopBy := M_stopBy) (M_hash := M_hash) (M_s := M_s) (M_saved := M_saved) (M_snapshot := M_snapshot) (M_text := M_text) hv6) dX11_told_21 w1181 ⟨w1183, w20⟩ cal_X11_holds rfl ⟨⟨Nat.le_of_ble_eq_true rfl, Nat.le_of_ble_eq_true rfl⟩, Nat.le_of_ble_eq_true rfl, Nat.le_of_ble_eq_true rfl⟩ (Nat.le_of_ble_eq_true rfl) (Or.inl ⟨_, _, _, _, rfl, rfl⟩) rfl ⟨rfl, ⟨by decide, by decide⟩, rfl, (fr_cons (Or.inl (Nat.le_of_ble_eq_true rfl)) (fr_cons (Or.inl (Nat.le_of_ble_eq_true rfl)) (fr_cons (Or.inl (Nat.le_of_ble_eq_true rfl)) (fr_cons (Or.inl (Nat.le_of_ble_eq_true rfl)) (fr_nil))))), rfl⟩ fr_i rfl rfl rfl rfl ?_
    refine V.if_eq (tgt := 36) dX11_told_24 (by decide) (fun h => ?_) (fun h => ?_)
    · have hf := fif_t h hf
      refine V.iconst (v := 0) dX11_told_36 rfl ?_
      obtain rfl := Option.some.inj hf
      exact V.iret dX11_told_37 rfl (Nat.le_of_ble_eq_true rfl) (Nat.le_of_ble_eq_true rfl) rfl
    · have hf := fif_f h hf
      refine V.aload_n (i := 0) dX11_told_27 rfl rfl ?_
      refine V.iload_n (i := 1) dX11_told_28 rfl rfl ?_
      refine V.iload_n (i := 2) dX11_told_29 rfl rfl ?_
      obtain ⟨v7, hv7, hf⟩ := fbind hf
      refine V.callVn (pl := [0, 1, 2, 3, 4]) (σ' := [.inl (6, [.ref 1, .ref 2, .int M_savedMany, .ref 3, .int M_isTaken, .ref 4, .int M_length, .int v6.2, .int M_spelt, .int M_speltMany, .int M_place, .int M_kind, .int M_one, .int M_two, .int M_three, .int M_begins, .int M_done, .int M_stopBy, .long M_hash]), .inr (406, .inl M_s), .inr (2436, .inl M_saved), .inr (406, .inl M_snapshot), .inr (60, .inl M_text)]) (st2 := [.int v7]) (cl2 := 0) (sl2 := 0) (ct_X11_characterAt (a1 := a1) (a2 := a2) (M_savedMany := M_savedMany) (M_isTaken := M_isTaken) (M_length := M_length) (M_thrown := v6.2) (M_spelt := M_spelt) (M_speltMany := M_speltMany) (M_place := M_place) (M_kind := M_kind) (M_one := M_one) (M_two := M_two) (M_three := M_three) (M_begins := M_begins) (M_done := M_done) (M_stopBy := M_stopBy) (M_hash := M_hash) (M_s := M_s) (M_saved := M_saved) (M_snapshot := M_snapshot) (M_text := M_text) hv7) dX11_told_30 w1331 ⟨w1333, w44⟩ cal_X11_characterAt rfl ⟨⟨Nat.le_of_ble_eq_true rfl, Nat.le_of_ble_eq_true rfl⟩, Nat.le_of_ble_eq_true rfl, Nat.le_of_ble_eq_true rfl⟩ (Nat.le_of_ble_eq_true rfl) (Or.inl ⟨_, _, _, _, rfl, rfl⟩) rfl ⟨rfl, ⟨by decide, by decide⟩, rfl, (fr_cons (Or.inl (Nat.le_of_ble_eq_true rfl)) (fr_cons (Or.inl (Nat.le_of_ble_eq_true rfl)) (fr_cons (Or.inl (Nat.le_of_ble_eq_true rfl)) (fr_cons (Or.inl (Nat.le_of_ble_eq_true rfl)) (fr_nil))))), rfl⟩ fr_i rfl rfl rfl rfl ?_
      refine V.goto (tgt := 37) dX11_told_33 (by decide) ?_
      obtain rfl := Option.some.inj hf
      exact V.iret dX11_told_37 rfl (Nat.le_of_ble_eq_true rfl) (Nat.le_of_ble_eq_true rfl) rfl
def k_X11_undo : fK := (yX11_undo, cX11_undo, 1, (some .int), [], (1, 24), (0, 0), (0, 0))
theorem cal_X11_undo : fCal k_X11_undo 0 := ⟨⟨wc1338, w73⟩, ⟨by decide +kernel, by decide +kernel⟩, by decide +kernel, by decide +kernel⟩
def s_X11_undo (M_savedMany : Int32) (M_thrown : Int32) (M_s : Nat → Int32) (M_saved : Nat → Int32) : Option (Int32 × (Int32) × (Int32) × (Nat → Int32)) := if (M_savedMany ≤ 0 : Prop) then ((s_X11_holds 1 M_thrown).bind fun v1 => if (v1.1 = 0 : Prop) then (some (0, M_savedMany, v1.2, M_s)) else ((s_X11_copy 2436 (406 * (M_savedMany - 1)) 406 0 M_saved M_s).bind fun v2 => some ((M_savedMany - 1), (M_savedMany - 1), v1.2, v2))) else ((s_X11_holds 0 M_thrown).bind fun v3 => if (v3.1 = 0 : Prop) then (some (0, M_savedMany, v3.2, M_s)) else ((s_X11_copy 2436 (406 * (M_savedMany - 1)) 406 0 M_saved M_s).bind fun v4 => some ((M_savedMany - 1), (M_savedMany - 1), v3.2, v4)))
set_option maxHeartbeats 4000000 in
set_option maxRecDepth 100000 in
theorem ct_X11_undo {M_savedMany : Int32} {M_isTaken : Int32} {M_length : Int32} {M_thrown : Int32} {M_spelt : Int32} {M_speltMany : Int32} {M_place : Int32} {M_kind : Int32} {M_one : Int32} {M_two : Int32} {M_three : Int32} {M_begins : Int32} {M_done : Int32} {M_stopBy : Int32} {M_hash : Int64} {M_s : Nat → Int32} {M_saved : Nat → Int32} {M_snapshot : Nat → Int32} {M_text : Nat → Int32} {res : Int32 × (Int32) × (Int32) × (Nat → Int32)} (hf : s_X11_undo M_savedMany M_thrown M_s M_saved = some res) : Ct k_X11_undo [.ref 0] [.inl (6, [.ref 1, .ref 2, .int M_savedMany, .ref 3, .int M_isTaken, .ref 4, .int M_length, .int M_thrown, .int M_spelt, .int M_speltMany, .int M_place, .int M_kind, .int M_one, .int M_two, .int M_three, .int M_begins, .int M_done, .int M_stopBy, .long M_hash]), .inr (406, .inl M_s), .inr (2436, .inl M_saved), .inr (406, .inl M_snapshot), .inr (60, .inl M_text)] (.inl (some (.int res.1))) [.inl (6, [.ref 1, .ref 2, .int res.2.1, .ref 3, .int M_isTaken, .ref 4, .int M_length, .int res.2.2.1, .int M_spelt, .int M_speltMany, .int M_place, .int M_kind, .int M_one, .int M_two, .int M_three, .int M_begins, .int M_done, .int M_stopBy, .long M_hash]), .inr (406, .inl res.2.2.2), .inr (2436, .inl M_saved), .inr (406, .inl M_snapshot), .inr (60, .inl M_text)] := by
  unfold s_X11_undo at hf
  refine Ct.of (L := [some (.ref 0)]) cal_X11_undo (fent_pad (j := 0) rfl) (Nat.le_of_ble_eq_true rfl) ?_
  refine V.aload_n (i := 0) dX11_undo_0 rfl rfl ?_
  refine V.aload_n (i := 0) dX11_undo_1 rfl rfl ?_
  refine V.getfield (kf := 2) (v := .int M_savedMany) fl_RX11 dX11_undo_2 w1045 (Nat.le_of_ble_eq_true rfl) rfl rfl ?_
  refine V.if_le (tgt := 12) dX11_undo_5 (by decide) (fun h => ?_) (fun h => ?_)
  · have hf := fif_t h hf
    refine V.iconst (v := 1) dX11_undo_12 rfl ?_
    obtain ⟨v1, hv1, hf⟩ := fbind hf
    refine V.callVn (pl := [0, 1, 2, 3, 4]) (σ' := [.inl (6, [.ref 1, .ref 2, .int M_savedMany, .ref 3, .int M_isTaken, .ref 4, .int M_length, .int v1.2, .int M_spelt, .int M_speltMany, .int M_place, .int M_kind, .int M_one, .int M_two, .int M_three, .int M_begins, .int M_done, .int M_stopBy, .long M_hash]), .inr (406, .inl M_s), .inr (2436, .inl M_saved), .inr (406, .inl M_snapshot), .inr (60, .inl M_text)]) (st2 := [.int v1.1]) (cl2 := 0) (sl2 := 0) (ct_X11_holds (a1 := 1) (M_savedMany := M_savedMany) (M_isTaken := M_isTaken) (M_length := M_length) (M_thrown := M_thrown) (M_spelt := M_spelt) (M_speltMany := M_speltMany) (M_place := M_place) (M_kind := M_kind) (M_one := M_one) (M_two := M_two) (M_three := M_three) (M_begins := M_begins) (M_done := M_done) (M_stopBy := M_stopBy) (M_hash := M_hash) (M_s := M_s) (M_saved := M_saved) (M_snapshot := M_snapshot) (M_text := M_text) hv1) dX11_undo_13 w1181 ⟨w1183, w20⟩ cal_X11_holds rfl ⟨⟨Nat.le_of_ble_eq_true rfl, Nat.le_of_ble_eq_true rfl⟩, Nat.le_of_ble_eq_true rfl, Nat.le_of_ble_eq_true rfl⟩ (Nat.le_of_ble_eq_true rfl) (Or.inl ⟨_, _, _, _, rfl, rfl⟩) rfl ⟨rfl, ⟨by decide, by decide⟩, rfl, (fr_cons (Or.inl (Nat.le_of_ble_eq_true rfl)) (fr_cons (Or.inl (Nat.le_of_ble_eq_true rfl)) (fr_cons (Or.inl (Nat.le_of_ble_eq_true rfl)) (fr_cons (Or.inl (Nat.le_of_ble_eq_true rfl)) (fr_nil))))), rfl⟩ fr_i rfl rfl rfl rfl ?_
    refine V.if_ne (tgt := 21) dX11_undo_16 (by decide) (fun h => ?_) (fun h => ?_)
    · have hf := fif_f h hf
      refine V.aload_n (i := 0) dX11_undo_21 rfl rfl ?_
      refine V.dup dX11_undo_22 rfl ?_
      refine V.getfield (kf := 2) (v := .int M_savedMany) fl_RX11 dX11_undo_23 w1045 (Nat.le_of_ble_eq_true rfl) rfl rfl ?_
      refine V.iconst (v := 1) dX11_undo_26 rfl ?_
      refine V.isub dX11_undo_27 ?_
      refine V.putfield (ty := tyX11) (kf := 2) (σ' := [.inl (6, [.ref 1, .ref 2, .int (M_savedMany - 1), .ref 3, .int M_isTaken, .ref 4, .int M_length, .int v1.2, .int M_spelt, .int M_speltMany, .int M_place, .int M_kind, .int M_one, .int M_two, .int M_three, .int M_begins, .int M_done, .int M_stopBy, .long M_hash]), .inr (406, .inl M_s), .inr (2436, .inl M_saved), .inr (406, .inl M_snapshot), .inr (60, .inl M_text)]) fl_RX11 dX11_undo_28 w1045 (Nat.le_of_ble_eq_true rfl) rfl (fun _ => ⟨rfl, rfl⟩) rfl (Nat.le_of_ble_eq_true rfl) rfl ?_
      refine V.aload_n (i := 0) dX11_undo_31 rfl rfl ?_
      refine V.getfield (kf := 1) (v := .ref 2) fl_RX11 dX11_undo_32 w1044 (Nat.le_of_ble_eq_true rfl) rfl rfl ?_
      refine V.sipush (v := 406) dX11_undo_35 rfl ?_
      refine V.aload_n (i := 0) dX11_undo_38 rfl rfl ?_
      refine V.getfield (kf := 2) (v := .int (M_savedMany - 1)) fl_RX11 dX11_undo_39 w1045 (Nat.le_of_ble_eq_true rfl) rfl rfl ?_
      refine V.imul dX11_undo_42 ?_
      refine V.aload_n (i := 0) dX11_undo_43 rfl rfl ?_
      refine V.getfield (kf := 0) (v := .ref 1) fl_RX11 dX11_undo_44 w1043 (Nat.le_of_ble_eq_true rfl) rfl rfl ?_
      refine V.iconst (v := 0) dX11_undo_47 rfl ?_
      obtain ⟨v2, hv2, hf⟩ := fbind hf
      refine V.callSn (pl := [2, 1]) (σ' := [.inl (6, [.ref 1, .ref 2, .int (M_savedMany - 1), .ref 3, .int M_isTaken, .ref 4, .int M_length, .int v1.2, .int M_spelt, .int M_speltMany, .int M_place, .int M_kind, .int M_one, .int M_two, .int M_three, .int M_begins, .int M_done, .int M_stopBy, .long M_hash]), .inr (406, .inl v2), .inr (2436, .inl M_saved), .inr (406, .inl M_snapshot), .inr (60, .inl M_text)]) (st2 := []) (cl2 := 0) (sl2 := 0) (ct_X11_copy (n0 := 2436) (a1 := (406 * (M_savedMany - 1))) (n2 := 406) (a3 := 0) (row0 := M_saved) (row2 := M_s) hv2) dX11_undo_48 w1189 w1190 cal_X11_copy ⟨⟨Nat.le_of_ble_eq_true rfl, Nat.le_of_ble_eq_true rfl⟩, Nat.le_of_ble_eq_true rfl, Nat.le_of_ble_eq_true rfl⟩ (Nat.le_of_ble_eq_true rfl) rfl ⟨rfl, ⟨by decide, by decide⟩, rfl, (fr_nil), rfl⟩ fr_v rfl rfl rfl rfl ?_
      refine V.aload_n (i := 0) dX11_undo_51 rfl rfl ?_
      refine V.getfield (kf := 2) (v := .int (M_savedMany - 1)) fl_RX11 dX11_undo_52 w1045 (Nat.le_of_ble_eq_true rfl) rfl rfl ?_
      obtain rfl := Option.some.inj hf
      exact V.iret dX11_undo_55 rfl (Nat.le_of_ble_eq_true rfl) (Nat.le_of_ble_eq_true rfl) rfl
    · have hf := fif_t h hf
      refine V.iconst (v := 0) dX11_undo_19 rfl ?_
      obtain rfl := Option.some.inj hf
      exact V.iret dX11_undo_20 rfl (Nat.le_of_ble_eq_true rfl) (Nat.le_of_ble_eq_true rfl) rfl
  · have hf := fif_f h hf
    refine V.iconst (v := 0) dX11_undo_8 rfl ?_
    refine V.goto (tgt := 13) dX11_undo_9 (by decide) ?_
    obtain ⟨v3, hv3, hf⟩ := fbind hf
    refine V.callVn (pl := [0, 1, 2, 3, 4]) (σ' := [.inl (6, [.ref 1, .ref 2, .int M_savedMany, .ref 3, .int M_isTaken, .ref 4, .int M_length, .int v3.2, .int M_spelt, .int M_speltMany, .int M_place, .int M_kind, .int M_one, .int M_two, .int M_three, .int M_begins, .int M_done, .int M_stopBy, .long M_hash]), .inr (406, .inl M_s), .inr (2436, .inl M_saved), .inr (406, .inl M_snapshot), .inr (60, .inl M_text)]) (st2 := [.int v3.1]) (cl2 := 0) (sl2 := 0) (ct_X11_holds (a1 := 0) (M_savedMany := M_savedMany) (M_isTaken := M_isTaken) (M_length := M_length) (M_thrown := M_thrown) (M_spelt := M_spelt) (M_speltMany := M_speltMany) (M_place := M_place) (M_kind := M_kind) (M_one := M_one) (M_two := M_two) (M_three := M_three) (M_begins := M_begins) (M_done := M_done) (M_stopBy := M_stopBy) (M_hash := M_hash) (M_s := M_s) (M_saved := M_saved) (M_snapshot := M_snapshot) (M_text := M_text) hv3) dX11_undo_13 w1181 ⟨w1183, w20⟩ cal_X11_holds rfl ⟨⟨Nat.le_of_ble_eq_true rfl, Nat.le_of_ble_eq_true rfl⟩, Nat.le_of_ble_eq_true rfl, Nat.le_of_ble_eq_true rfl⟩ (Nat.le_of_ble_eq_true rfl) (Or.inl ⟨_, _, _, _, rfl, rfl⟩) rfl ⟨rfl, ⟨by decide, by decide⟩, rfl, (fr_cons (Or.inl (Nat.le_of_ble_eq_true rfl)) (fr_cons (Or.inl (Nat.le_of_ble_eq_true rfl)) (fr_cons (Or.inl (Nat.le_of_ble_eq_true rfl)) (fr_cons (Or.inl (Nat.le_of_ble_eq_true rfl)) (fr_nil))))), rfl⟩ fr_i rfl rfl rfl rfl ?_
    refine V.if_ne (tgt := 21) dX11_undo_16 (by decide) (fun h => ?_) (fun h => ?_)
    · have hf := fif_f h hf
      refine V.aload_n (i := 0) dX11_undo_21 rfl rfl ?_
      refine V.dup dX11_undo_22 rfl ?_
      refine V.getfield (kf := 2) (v := .int M_savedMany) fl_RX11 dX11_undo_23 w1045 (Nat.le_of_ble_eq_true rfl) rfl rfl ?_
      refine V.iconst (v := 1) dX11_undo_26 rfl ?_
      refine V.isub dX11_undo_27 ?_
      refine V.putfield (ty := tyX11) (kf := 2) (σ' := [.inl (6, [.ref 1, .ref 2, .int (M_savedMany - 1), .ref 3, .int M_isTaken, .ref 4, .int M_length, .int v3.2, .int M_spelt, .int M_speltMany, .int M_place, .int M_kind, .int M_one, .int M_two, .int M_three, .int M_begins, .int M_done, .int M_stopBy, .long M_hash]), .inr (406, .inl M_s), .inr (2436, .inl M_saved), .inr (406, .inl M_snapshot), .inr (60, .inl M_text)]) fl_RX11 dX11_undo_28 w1045 (Nat.le_of_ble_eq_true rfl) rfl (fun _ => ⟨rfl, rfl⟩) rfl (Nat.le_of_ble_eq_true rfl) rfl ?_
      refine V.aload_n (i := 0) dX11_undo_31 rfl rfl ?_
      refine V.getfield (kf := 1) (v := .ref 2) fl_RX11 dX11_undo_32 w1044 (Nat.le_of_ble_eq_true rfl) rfl rfl ?_
      refine V.sipush (v := 406) dX11_undo_35 rfl ?_
      refine V.aload_n (i := 0) dX11_undo_38 rfl rfl ?_
      refine V.getfield (kf := 2) (v := .int (M_savedMany - 1)) fl_RX11 dX11_undo_39 w1045 (Nat.le_of_ble_eq_true rfl) rfl rfl ?_
      refine V.imul dX11_undo_42 ?_
      refine V.aload_n (i := 0) dX11_undo_43 rfl rfl ?_
      refine V.getfield (kf := 0) (v := .ref 1) fl_RX11 dX11_undo_44 w1043 (Nat.le_of_ble_eq_true rfl) rfl rfl ?_
      refine V.iconst (v := 0) dX11_undo_47 rfl ?_
      obtain ⟨v4, hv4, hf⟩ := fbind hf
      refine V.callSn (pl := [2, 1]) (σ' := [.inl (6, [.ref 1, .ref 2, .int (M_savedMany - 1), .ref 3, .int M_isTaken, .ref 4, .int M_length, .int v3.2, .int M_spelt, .int M_speltMany, .int M_place, .int M_kind, .int M_one, .int M_two, .int M_three, .int M_begins, .int M_done, .int M_stopBy, .long M_hash]), .inr (406, .inl v4), .inr (2436, .inl M_saved), .inr (406, .inl M_snapshot), .inr (60, .inl M_text)]) (st2 := []) (cl2 := 0) (sl2 := 0) (ct_X11_copy (n0 := 2436) (a1 := (406 * (M_savedMany - 1))) (n2 := 406) (a3 := 0) (row0 := M_saved) (row2 := M_s) hv4) dX11_undo_48 w1189 w1190 cal_X11_copy ⟨⟨Nat.le_of_ble_eq_true rfl, Nat.le_of_ble_eq_true rfl⟩, Nat.le_of_ble_eq_true rfl, Nat.le_of_ble_eq_true rfl⟩ (Nat.le_of_ble_eq_true rfl) rfl ⟨rfl, ⟨by decide, by decide⟩, rfl, (fr_nil), rfl⟩ fr_v rfl rfl rfl rfl ?_
      refine V.aload_n (i := 0) dX11_undo_51 rfl rfl ?_
      refine V.getfield (kf := 2) (v := .int (M_savedMany - 1)) fl_RX11 dX11_undo_52 w1045 (Nat.le_of_ble_eq_true rfl) rfl rfl ?_
      obtain rfl := Option.some.inj hf
      exact V.iret dX11_undo_55 rfl (Nat.le_of_ble_eq_true rfl) (Nat.le_of_ble_eq_true rfl) rfl
    · have hf := fif_t h hf
      refine V.iconst (v := 0) dX11_undo_19 rfl ?_
      obtain rfl := Option.some.inj hf
      exact V.iret dX11_undo_20 rfl (Nat.le_of_ble_eq_true rfl) (Nat.le_of_ble_eq_true rfl) rfl
def k_X11_sumOf : fK := (yX11_sumOf, cX11_sumOf, 4, (some .int), [], (1, 22), (0, 0), (0, 0))
theorem cal_X11_sumOf : fCal k_X11_sumOf 1 := ⟨⟨wc1346, w73⟩, ⟨by decide +kernel, by decide +kernel⟩, by decide +kernel, by decide +kernel⟩
def s_X11_sumOf_L4 (p1 : Int32) (M_s : Nat → Int32) : Nat → Int32 → Int32 → Option (Int32 × Int32)
  | 0, _, _ => none
  | n + 1, x2, x3 => if (5 ≤ x3 : Prop) then (some (x2, x3)) else ((s_X11_of x3 p1 M_s).bind fun v1 => s_X11_sumOf_L4 p1 M_s n (x2 + v1) (x3 + 1))
set_option maxHeartbeats 4000000 in
set_option maxRecDepth 100000 in
theorem v_X11_sumOf_L4 {out : fO} {σ' : List fE} {p1 : Int32} {M_savedMany : Int32} {M_isTaken : Int32} {M_length : Int32} {M_thrown : Int32} {M_spelt : Int32} {M_speltMany : Int32} {M_place : Int32} {M_kind : Int32} {M_one : Int32} {M_two : Int32} {M_three : Int32} {M_begins : Int32} {M_done : Int32} {M_stopBy : Int32} {M_hash : Int64} {M_s : Nat → Int32} {M_saved : Nat → Int32} {M_snapshot : Nat → Int32} {M_text : Nat → Int32} : ∀ (n : Nat) {x2 : Int32} {x3 : Int32} {res : Int32 × Int32} (hf : s_X11_sumOf_L4 p1 M_s n x2 x3 = some res) (hx : V (fXm 5 k_X11_sumOf out σ') (krm k_X11_sumOf) k_X11_sumOf 5 24 [some (.ref 0), some (.int p1), some (.int res.1), some (.int res.2)] [] [.inl (6, [.ref 1, .ref 2, .int M_savedMany, .ref 3, .int M_isTaken, .ref 4, .int M_length, .int M_thrown, .int M_spelt, .int M_speltMany, .int M_place, .int M_kind, .int M_one, .int M_two, .int M_three, .int M_begins, .int M_done, .int M_stopBy, .long M_hash]), .inr (406, .inl M_s), .inr (2436, .inl M_saved), .inr (406, .inl M_snapshot), .inr (60, .inl M_text)] 0 0), V (fXm 5 k_X11_sumOf out σ') (krm k_X11_sumOf) k_X11_sumOf 5 4 [some (.ref 0), some (.int p1), some (.int x2), some (.int x3)] [] [.inl (6, [.ref 1, .ref 2, .int M_savedMany, .ref 3, .int M_isTaken, .ref 4, .int M_length, .int M_thrown, .int M_spelt, .int M_speltMany, .int M_place, .int M_kind, .int M_one, .int M_two, .int M_three, .int M_begins, .int M_done, .int M_stopBy, .long M_hash]), .inr (406, .inl M_s), .inr (2436, .inl M_saved), .inr (406, .inl M_snapshot), .inr (60, .inl M_text)] 0 0 := by
  intro n
  induction n with
  | zero =>
    intro x2 x3 res hf hx
    rw [s_X11_sumOf_L4] at hf
    cases hf
  | succ n ih =>
    intro x2 x3 res hf hx
    rw [s_X11_sumOf_L4] at hf
    refine V.iload_n (i := 3) dX11_sumOf_4 rfl rfl ?_
    refine V.iconst (v := 5) dX11_sumOf_5 rfl ?_
    refine V.icmp_ge (tgt := 24) dX11_sumOf_6 (by decide) (fun h => ?_) (fun h => ?_)
    · have hf := fif_t h hf
      obtain rfl := Option.some.inj hf
      exact hx
    · have hf := fif_f h hf
      refine V.iload_n (i := 2) dX11_sumOf_9 rfl rfl ?_
      refine V.aload_n (i := 0) dX11_sumOf_10 rfl rfl ?_
      refine V.iload_n (i := 3) dX11_sumOf_11 rfl rfl ?_
      refine V.iload_n (i := 1) dX11_sumOf_12 rfl rfl ?_
      obtain ⟨v1, hv1, hf⟩ := fbind hf
      refine V.callVn (pl := [0, 1, 2, 3, 4]) (σ' := [.inl (6, [.ref 1, .ref 2, .int M_savedMany, .ref 3, .int M_isTaken, .ref 4, .int M_length, .int M_thrown, .int M_spelt, .int M_speltMany, .int M_place, .int M_kind, .int M_one, .int M_two, .int M_three, .int M_begins, .int M_done, .int M_stopBy, .long M_hash]), .inr (406, .inl M_s), .inr (2436, .inl M_saved), .inr (406, .inl M_snapshot), .inr (60, .inl M_text)]) (st2 := [.int v1, .int x2]) (cl2 := 0) (sl2 := 0) (ct_X11_of (a1 := x3) (a2 := p1) (M_savedMany := M_savedMany) (M_isTaken := M_isTaken) (M_length := M_length) (M_thrown := M_thrown) (M_spelt := M_spelt) (M_speltMany := M_speltMany) (M_place := M_place) (M_kind := M_kind) (M_one := M_one) (M_two := M_two) (M_three := M_three) (M_begins := M_begins) (M_done := M_done) (M_stopBy := M_stopBy) (M_hash := M_hash) (M_s := M_s) (M_saved := M_saved) (M_snapshot := M_snapshot) (M_text := M_text) hv1) dX11_sumOf_13 w1123 ⟨w1125, w10⟩ cal_X11_of rfl ⟨⟨Nat.le_of_ble_eq_true rfl, Nat.le_of_ble_eq_true rfl⟩, Nat.le_of_ble_eq_true rfl, Nat.le_of_ble_eq_true rfl⟩ (Nat.le_of_ble_eq_true rfl) (Or.inl ⟨_, _, _, _, rfl, rfl⟩) rfl ⟨rfl, ⟨by decide, by decide⟩, rfl, (fr_cons (Or.inl (Nat.le_of_ble_eq_true rfl)) (fr_cons (Or.inl (Nat.le_of_ble_eq_true rfl)) (fr_cons (Or.inl (Nat.le_of_ble_eq_true rfl)) (fr_cons (Or.inl (Nat.le_of_ble_eq_true rfl)) (fr_nil))))), rfl⟩ fr_i rfl rfl rfl rfl ?_
      refine V.iadd dX11_sumOf_16 ?_
      refine V.istore_n (i := 2) (L' := [some (.ref 0), some (.int p1), some (.int (x2 + v1)), some (.int x3)]) dX11_sumOf_17 rfl (Nat.le_of_ble_eq_true rfl) rfl rfl ?_
      refine V.iinc (i := 3) (v := (x3 + 1)) (L' := [some (.ref 0), some (.int p1), some (.int (x2 + v1)), some (.int (x3 + 1))]) dX11_sumOf_18 rfl rfl (Nat.le_of_ble_eq_true rfl) rfl rfl ?_
      refine V.goto (tgt := 4) dX11_sumOf_21 (by decide) ?_
      exact ih hf hx
def s_X11_sumOf (a1 : Int32) (M_s : Nat → Int32) : Option (Int32) := (s_X11_sumOf_L4 a1 M_s gF 0 0).bind fun r2 => some r2.1
set_option maxHeartbeats 4000000 in
set_option maxRecDepth 100000 in
theorem ct_X11_sumOf {a1 : Int32} {M_savedMany : Int32} {M_isTaken : Int32} {M_length : Int32} {M_thrown : Int32} {M_spelt : Int32} {M_speltMany : Int32} {M_place : Int32} {M_kind : Int32} {M_one : Int32} {M_two : Int32} {M_three : Int32} {M_begins : Int32} {M_done : Int32} {M_stopBy : Int32} {M_hash : Int64} {M_s : Nat → Int32} {M_saved : Nat → Int32} {M_snapshot : Nat → Int32} {M_text : Nat → Int32} {res : Int32} (hf : s_X11_sumOf a1 M_s = some res) : Ct k_X11_sumOf [.ref 0, .int a1] [.inl (6, [.ref 1, .ref 2, .int M_savedMany, .ref 3, .int M_isTaken, .ref 4, .int M_length, .int M_thrown, .int M_spelt, .int M_speltMany, .int M_place, .int M_kind, .int M_one, .int M_two, .int M_three, .int M_begins, .int M_done, .int M_stopBy, .long M_hash]), .inr (406, .inl M_s), .inr (2436, .inl M_saved), .inr (406, .inl M_snapshot), .inr (60, .inl M_text)] (.inl (some (.int res))) [.inl (6, [.ref 1, .ref 2, .int M_savedMany, .ref 3, .int M_isTaken, .ref 4, .int M_length, .int M_thrown, .int M_spelt, .int M_speltMany, .int M_place, .int M_kind, .int M_one, .int M_two, .int M_three, .int M_begins, .int M_done, .int M_stopBy, .long M_hash]), .inr (406, .inl M_s), .inr (2436, .inl M_saved), .inr (406, .inl M_snapshot), .inr (60, .inl M_text)] := by
  unfold s_X11_sumOf at hf
  refine Ct.of (L := [some (.ref 0), some (.int a1), none, none]) cal_X11_sumOf (fent_pad (j := 2) rfl) (Nat.le_of_ble_eq_true rfl) ?_
  refine V.iconst (v := 0) dX11_sumOf_0 rfl ?_
  refine V.istore_n (i := 2) (L' := [some (.ref 0), some (.int a1), some (.int 0), none]) dX11_sumOf_1 rfl (Nat.le_of_ble_eq_true rfl) rfl rfl ?_
  refine V.iconst (v := 0) dX11_sumOf_2 rfl ?_
  refine V.istore_n (i := 3) (L' := [some (.ref 0), some (.int a1), some (.int 0), some (.int 0)]) dX11_sumOf_3 rfl (Nat.le_of_ble_eq_true rfl) rfl rfl ?_
  obtain ⟨r2, hr2, hf⟩ := fbind hf
  refine v_X11_sumOf_L4 gF hr2 ?_
  refine V.iload_n (i := 2) dX11_sumOf_24 rfl rfl ?_
  obtain rfl := Option.some.inj hf
  exact V.iret dX11_sumOf_25 rfl (Nat.le_of_ble_eq_true rfl) (Nat.le_of_ble_eq_true rfl) rfl
def k_X11_keep : fK := (yX11_keep, cX11_keep, 1, (some .int), [], (2, 45), (0, 0), (0, 0))
theorem cal_X11_keep : fCal k_X11_keep 0 := ⟨⟨wc1342, w73⟩, ⟨by decide +kernel, by decide +kernel⟩, by decide +kernel, by decide +kernel⟩
def s_X11_keep (M_isTaken : Int32) (M_thrown : Int32) (M_s : Nat → Int32) (M_snapshot : Nat → Int32) : Option (Int32 × (Int32) × (Int32) × (Nat → Int32)) := (s_X11_copy 406 0 406 0 M_s M_snapshot).bind fun v1 => (s_X11_sumOf 1 M_s).bind fun v2 => (s_X11_plain v2 M_thrown).bind fun v3 => some (v3.1, 1, v3.2, v1)
set_option maxHeartbeats 4000000 in
set_option maxRecDepth 100000 in
theorem ct_X11_keep {M_savedMany : Int32} {M_isTaken : Int32} {M_length : Int32} {M_thrown : Int32} {M_spelt : Int32} {M_speltMany : Int32} {M_place : Int32} {M_kind : Int32} {M_one : Int32} {M_two : Int32} {M_three : Int32} {M_begins : Int32} {M_done : Int32} {M_stopBy : Int32} {M_hash : Int64} {M_s : Nat → Int32} {M_saved : Nat → Int32} {M_snapshot : Nat → Int32} {M_text : Nat → Int32} {res : Int32 × (Int32) × (Int32) × (Nat → Int32)} (hf : s_X11_keep M_isTaken M_thrown M_s M_snapshot = some res) : Ct k_X11_keep [.ref 0] [.inl (6, [.ref 1, .ref 2, .int M_savedMany, .ref 3, .int M_isTaken, .ref 4, .int M_length, .int M_thrown, .int M_spelt, .int M_speltMany, .int M_place, .int M_kind, .int M_one, .int M_two, .int M_three, .int M_begins, .int M_done, .int M_stopBy, .long M_hash]), .inr (406, .inl M_s), .inr (2436, .inl M_saved), .inr (406, .inl M_snapshot), .inr (60, .inl M_text)] (.inl (some (.int res.1))) [.inl (6, [.ref 1, .ref 2, .int M_savedMany, .ref 3, .int res.2.1, .ref 4, .int M_length, .int res.2.2.1, .int M_spelt, .int M_speltMany, .int M_place, .int M_kind, .int M_one, .int M_two, .int M_three, .int M_begins, .int M_done, .int M_stopBy, .long M_hash]), .inr (406, .inl M_s), .inr (2436, .inl M_saved), .inr (406, .inl res.2.2.2), .inr (60, .inl M_text)] := by
  unfold s_X11_keep at hf
  refine Ct.of (L := [some (.ref 0)]) cal_X11_keep (fent_pad (j := 0) rfl) (Nat.le_of_ble_eq_true rfl) ?_
  refine V.aload_n (i := 0) dX11_keep_0 rfl rfl ?_
  refine V.getfield (kf := 0) (v := .ref 1) fl_RX11 dX11_keep_1 w1043 (Nat.le_of_ble_eq_true rfl) rfl rfl ?_
  refine V.iconst (v := 0) dX11_keep_4 rfl ?_
  refine V.aload_n (i := 0) dX11_keep_5 rfl rfl ?_
  refine V.getfield (kf := 3) (v := .ref 3) fl_RX11 dX11_keep_6 w1046 (Nat.le_of_ble_eq_true rfl) rfl rfl ?_
  refine V.iconst (v := 0) dX11_keep_9 rfl ?_
  obtain ⟨v1, hv1, hf⟩ := fbind hf
  refine V.callSn (pl := [1, 3]) (σ' := [.inl (6, [.ref 1, .ref 2, .int M_savedMany, .ref 3, .int M_isTaken, .ref 4, .int M_length, .int M_thrown, .int M_spelt, .int M_speltMany, .int M_place, .int M_kind, .int M_one, .int M_two, .int M_three, .int M_begins, .int M_done, .int M_stopBy, .long M_hash]), .inr (406, .inl M_s), .inr (2436, .inl M_saved), .inr (406, .inl v1), .inr (60, .inl M_text)]) (st2 := []) (cl2 := 0) (sl2 := 0) (ct_X11_copy (n0 := 406) (a1 := 0) (n2 := 406) (a3 := 0) (row0 := M_s) (row2 := M_snapshot) hv1) dX11_keep_10 w1189 w1190 cal_X11_copy ⟨⟨Nat.le_of_ble_eq_true rfl, Nat.le_of_ble_eq_true rfl⟩, Nat.le_of_ble_eq_true rfl, Nat.le_of_ble_eq_true rfl⟩ (Nat.le_of_ble_eq_true rfl) rfl ⟨rfl, ⟨by decide, by decide⟩, rfl, (fr_nil), rfl⟩ fr_v rfl rfl rfl rfl ?_
  refine V.aload_n (i := 0) dX11_keep_13 rfl rfl ?_
  refine V.iconst (v := 1) dX11_keep_14 rfl ?_
  refine V.putfield (ty := tyX11) (kf := 4) (σ' := [.inl (6, [.ref 1, .ref 2, .int M_savedMany, .ref 3, .int 1, .ref 4, .int M_length, .int M_thrown, .int M_spelt, .int M_speltMany, .int M_place, .int M_kind, .int M_one, .int M_two, .int M_three, .int M_begins, .int M_done, .int M_stopBy, .long M_hash]), .inr (406, .inl M_s), .inr (2436, .inl M_saved), .inr (406, .inl v1), .inr (60, .inl M_text)]) fl_RX11 dX11_keep_15 w1047 (Nat.le_of_ble_eq_true rfl) rfl (fun _ => ⟨rfl, rfl⟩) rfl (Nat.le_of_ble_eq_true rfl) rfl ?_
  refine V.aload_n (i := 0) dX11_keep_18 rfl rfl ?_
  refine V.aload_n (i := 0) dX11_keep_19 rfl rfl ?_
  refine V.iconst (v := 1) dX11_keep_20 rfl ?_
  obtain ⟨v2, hv2, hf⟩ := fbind hf
  refine V.callVn (pl := [0, 1, 2, 3, 4]) (σ' := [.inl (6, [.ref 1, .ref 2, .int M_savedMany, .ref 3, .int 1, .ref 4, .int M_length, .int M_thrown, .int M_spelt, .int M_speltMany, .int M_place, .int M_kind, .int M_one, .int M_two, .int M_three, .int M_begins, .int M_done, .int M_stopBy, .long M_hash]), .inr (406, .inl M_s), .inr (2436, .inl M_saved), .inr (406, .inl v1), .inr (60, .inl M_text)]) (st2 := [.int v2, .ref 0]) (cl2 := 0) (sl2 := 0) (ct_X11_sumOf (a1 := 1) (M_savedMany := M_savedMany) (M_isTaken := 1) (M_length := M_length) (M_thrown := M_thrown) (M_spelt := M_spelt) (M_speltMany := M_speltMany) (M_place := M_place) (M_kind := M_kind) (M_one := M_one) (M_two := M_two) (M_three := M_three) (M_begins := M_begins) (M_done := M_done) (M_stopBy := M_stopBy) (M_hash := M_hash) (M_s := M_s) (M_saved := M_saved) (M_snapshot := v1) (M_text := M_text) hv2) dX11_keep_21 w1343 ⟨w1345, w45⟩ cal_X11_sumOf rfl ⟨⟨Nat.le_of_ble_eq_true rfl, Nat.le_of_ble_eq_true rfl⟩, Nat.le_of_ble_eq_true rfl, Nat.le_of_ble_eq_true rfl⟩ (Nat.le_of_ble_eq_true rfl) (Or.inl ⟨_, _, _, _, rfl, rfl⟩) rfl ⟨rfl, ⟨by decide, by decide⟩, rfl, (fr_cons (Or.inl (Nat.le_of_ble_eq_true rfl)) (fr_cons (Or.inl (Nat.le_of_ble_eq_true rfl)) (fr_cons (Or.inl (Nat.le_of_ble_eq_true rfl)) (fr_cons (Or.inl (Nat.le_of_ble_eq_true rfl)) (fr_nil))))), rfl⟩ fr_i rfl rfl rfl rfl ?_
  obtain ⟨v3, hv3, hf⟩ := fbind hf
  refine V.callVn (pl := [0, 1, 2, 3, 4]) (σ' := [.inl (6, [.ref 1, .ref 2, .int M_savedMany, .ref 3, .int 1, .ref 4, .int M_length, .int v3.2, .int M_spelt, .int M_speltMany, .int M_place, .int M_kind, .int M_one, .int M_two, .int M_three, .int M_begins, .int M_done, .int M_stopBy, .long M_hash]), .inr (406, .inl M_s), .inr (2436, .inl M_saved), .inr (406, .inl v1), .inr (60, .inl M_text)]) (st2 := [.int v3.1]) (cl2 := 0) (sl2 := 0) (ct_X11_plain (a1 := v2) (M_savedMany := M_savedMany) (M_isTaken := 1) (M_length := M_length) (M_thrown := M_thrown) (M_spelt := M_spelt) (M_speltMany := M_speltMany) (M_place := M_place) (M_kind := M_kind) (M_one := M_one) (M_two := M_two) (M_three := M_three) (M_begins := M_begins) (M_done := M_done) (M_stopBy := M_stopBy) (M_hash := M_hash) (M_s := M_s) (M_saved := M_saved) (M_snapshot := v1) (M_text := M_text) hv3) dX11_keep_24 w1275 ⟨w1277, w34⟩ cal_X11_plain rfl ⟨⟨Nat.le_of_ble_eq_true rfl, Nat.le_of_ble_eq_true rfl⟩, Nat.le_of_ble_eq_true rfl, Nat.le_of_ble_eq_true rfl⟩ (Nat.le_of_ble_eq_true rfl) (Or.inl ⟨_, _, _, _, rfl, rfl⟩) rfl ⟨rfl, ⟨by decide, by decide⟩, rfl, (fr_cons (Or.inl (Nat.le_of_ble_eq_true rfl)) (fr_cons (Or.inl (Nat.le_of_ble_eq_true rfl)) (fr_cons (Or.inl (Nat.le_of_ble_eq_true rfl)) (fr_cons (Or.inl (Nat.le_of_ble_eq_true rfl)) (fr_nil))))), rfl⟩ fr_i rfl rfl rfl rfl ?_
  obtain rfl := Option.some.inj hf
  exact V.iret dX11_keep_27 rfl (Nat.le_of_ble_eq_true rfl) (Nat.le_of_ble_eq_true rfl) rfl
def k_X11_restore : fK := (yX11_restore, cX11_restore, 1, (some .int), [], (2, 45), (0, 0), (0, 0))
theorem cal_X11_restore : fCal k_X11_restore 0 := ⟨⟨wc1350, w73⟩, ⟨by decide +kernel, by decide +kernel⟩, by decide +kernel, by decide +kernel⟩
def s_X11_restore (M_savedMany : Int32) (M_isTaken : Int32) (M_thrown : Int32) (M_s : Nat → Int32) (M_saved : Nat → Int32) (M_snapshot : Nat → Int32) : Option (Int32 × (Int32) × (Int32) × (Nat → Int32) × (Nat → Int32)) := if (M_isTaken = 0 : Prop) then ((s_X11_holds 1 M_thrown).bind fun v1 => if (v1.1 = 0 : Prop) then (some (0, M_savedMany, v1.2, M_s, M_saved)) else ((s_X11_save M_savedMany M_s M_saved).bind fun v2 => (s_X11_copy 406 0 406 0 M_snapshot M_s).bind fun v3 => (s_X11_sumOf 1 v3).bind fun v4 => some (v4, v2.1, v1.2, v3, v2.2))) else ((s_X11_holds 0 M_thrown).bind fun v5 => if (v5.1 = 0 : Prop) then (some (0, M_savedMany, v5.2, M_s, M_saved)) else ((s_X11_save M_savedMany M_s M_saved).bind fun v6 => (s_X11_copy 406 0 406 0 M_snapshot M_s).bind fun v7 => (s_X11_sumOf 1 v7).bind fun v8 => some (v8, v6.1, v5.2, v7, v6.2)))
set_option maxHeartbeats 4000000 in
set_option maxRecDepth 100000 in
theorem ct_X11_restore {M_savedMany : Int32} {M_isTaken : Int32} {M_length : Int32} {M_thrown : Int32} {M_spelt : Int32} {M_speltMany : Int32} {M_place : Int32} {M_kind : Int32} {M_one : Int32} {M_two : Int32} {M_three : Int32} {M_begins : Int32} {M_done : Int32} {M_stopBy : Int32} {M_hash : Int64} {M_s : Nat → Int32} {M_saved : Nat → Int32} {M_snapshot : Nat → Int32} {M_text : Nat → Int32} {res : Int32 × (Int32) × (Int32) × (Nat → Int32) × (Nat → Int32)} (hf : s_X11_restore M_savedMany M_isTaken M_thrown M_s M_saved M_snapshot = some res) : Ct k_X11_restore [.ref 0] [.inl (6, [.ref 1, .ref 2, .int M_savedMany, .ref 3, .int M_isTaken, .ref 4, .int M_length, .int M_thrown, .int M_spelt, .int M_speltMany, .int M_place, .int M_kind, .int M_one, .int M_two, .int M_three, .int M_begins, .int M_done, .int M_stopBy, .long M_hash]), .inr (406, .inl M_s), .inr (2436, .inl M_saved), .inr (406, .inl M_snapshot), .inr (60, .inl M_text)] (.inl (some (.int res.1))) [.inl (6, [.ref 1, .ref 2, .int res.2.1, .ref 3, .int M_isTaken, .ref 4, .int M_length, .int res.2.2.1, .int M_spelt, .int M_speltMany, .int M_place, .int M_kind, .int M_one, .int M_two, .int M_three, .int M_begins, .int M_done, .int M_stopBy, .long M_hash]), .inr (406, .inl res.2.2.2.1), .inr (2436, .inl res.2.2.2.2), .inr (406, .inl M_snapshot), .inr (60, .inl M_text)] := by
  unfold s_X11_restore at hf
  refine Ct.of (L := [some (.ref 0)]) cal_X11_restore (fent_pad (j := 0) rfl) (Nat.le_of_ble_eq_true rfl) ?_
  refine V.aload_n (i := 0) dX11_restore_0 rfl rfl ?_
  refine V.aload_n (i := 0) dX11_restore_1 rfl rfl ?_
  refine V.getfield (kf := 4) (v := .int M_isTaken) fl_RX11 dX11_restore_2 w1047 (Nat.le_of_ble_eq_true rfl) rfl rfl ?_
  refine V.if_eq (tgt := 12) dX11_restore_5 (by decide) (fun h => ?_) (fun h => ?_)
  · have hf := fif_t h hf
    refine V.iconst (v := 1) dX11_restore_12 rfl ?_
    obtain ⟨v1, hv1, hf⟩ := fbind hf
    refine V.callVn (pl := [0, 1, 2, 3, 4]) (σ' := [.inl (6, [.ref 1, .ref 2, .int M_savedMany, .ref 3, .int M_isTaken, .ref 4, .int M_length, .int v1.2, .int M_spelt, .int M_speltMany, .int M_place, .int M_kind, .int M_one, .int M_two, .int M_three, .int M_begins, .int M_done, .int M_stopBy, .long M_hash]), .inr (406, .inl M_s), .inr (2436, .inl M_saved), .inr (406, .inl M_snapshot), .inr (60, .inl M_text)]) (st2 := [.int v1.1]) (cl2 := 0) (sl2 := 0) (ct_X11_holds (a1 := 1) (M_savedMany := M_savedMany) (M_isTaken := M_isTaken) (M_length := M_length) (M_thrown := M_thrown) (M_spelt := M_spelt) (M_speltMany := M_speltMany) (M_place := M_place) (M_kind := M_kind) (M_one := M_one) (M_two := M_two) (M_three := M_three) (M_begins := M_begins) (M_done := M_done) (M_stopBy := M_stopBy) (M_hash := M_hash) (M_s := M_s) (M_saved := M_saved) (M_snapshot := M_snapshot) (M_text := M_text) hv1) dX11_restore_13 w1181 ⟨w1183, w20⟩ cal_X11_holds rfl ⟨⟨Nat.le_of_ble_eq_true rfl, Nat.le_of_ble_eq_true rfl⟩, Nat.le_of_ble_eq_true rfl, Nat.le_of_ble_eq_true rfl⟩ (Nat.le_of_ble_eq_true rfl) (Or.inl ⟨_, _, _, _, rfl, rfl⟩) rfl ⟨rfl, ⟨by decide, by decide⟩, rfl, (fr_cons (Or.inl (Nat.le_of_ble_eq_true rfl)) (fr_cons (Or.inl (Nat.le_of_ble_eq_true rfl)) (fr_cons (Or.inl (Nat.le_of_ble_eq_true rfl)) (fr_cons (Or.inl (Nat.le_of_ble_eq_true rfl)) (fr_nil))))), rfl⟩ fr_i rfl rfl rfl rfl ?_
    refine V.if_ne (tgt := 21) dX11_restore_16 (by decide) (fun h => ?_) (fun h => ?_)
    · have hf := fif_f h hf
      refine V.aload_n (i := 0) dX11_restore_21 rfl rfl ?_
      obtain ⟨v2, hv2, hf⟩ := fbind hf
      refine V.callVn (pl := [0, 1, 2, 3, 4]) (σ' := [.inl (6, [.ref 1, .ref 2, .int v2.1, .ref 3, .int M_isTaken, .ref 4, .int M_length, .int v1.2, .int M_spelt, .int M_speltMany, .int M_place, .int M_kind, .int M_one, .int M_two, .int M_three, .int M_begins, .int M_done, .int M_stopBy, .long M_hash]), .inr (406, .inl M_s), .inr (2436, .inl v2.2), .inr (406, .inl M_snapshot), .inr (60, .inl M_text)]) (st2 := []) (cl2 := 0) (sl2 := 0) (ct_X11_save (M_savedMany := M_savedMany) (M_isTaken := M_isTaken) (M_length := M_length) (M_thrown := v1.2) (M_spelt := M_spelt) (M_speltMany := M_speltMany) (M_place := M_place) (M_kind := M_kind) (M_one := M_one) (M_two := M_two) (M_three := M_three) (M_begins := M_begins) (M_done := M_done) (M_stopBy := M_stopBy) (M_hash := M_hash) (M_s := M_s) (M_saved := M_saved) (M_snapshot := M_snapshot) (M_text := M_text) hv2) dX11_restore_22 w1185 ⟨w1187, w21⟩ cal_X11_save rfl ⟨⟨Nat.le_of_ble_eq_true rfl, Nat.le_of_ble_eq_true rfl⟩, Nat.le_of_ble_eq_true rfl, Nat.le_of_ble_eq_true rfl⟩ (Nat.le_of_ble_eq_true rfl) (Or.inl ⟨_, _, _, _, rfl, rfl⟩) rfl ⟨rfl, ⟨by decide, by decide⟩, rfl, (fr_cons (Or.inl (Nat.le_of_ble_eq_true rfl)) (fr_cons (Or.inl (Nat.le_of_ble_eq_true rfl)) (fr_cons (Or.inl (Nat.le_of_ble_eq_true rfl)) (fr_cons (Or.inl (Nat.le_of_ble_eq_true rfl)) (fr_nil))))), rfl⟩ fr_v rfl rfl rfl rfl ?_
      refine V.aload_n (i := 0) dX11_restore_25 rfl rfl ?_
      refine V.getfield (kf := 3) (v := .ref 3) fl_RX11 dX11_restore_26 w1046 (Nat.le_of_ble_eq_true rfl) rfl rfl ?_
      refine V.iconst (v := 0) dX11_restore_29 rfl ?_
      refine V.aload_n (i := 0) dX11_restore_30 rfl rfl ?_
      refine V.getfield (kf := 0) (v := .ref 1) fl_RX11 dX11_restore_31 w1043 (Nat.le_of_ble_eq_true rfl) rfl rfl ?_
      refine V.iconst (v := 0) dX11_restore_34 rfl ?_
      obtain ⟨v3, hv3, hf⟩ := fbind hf
      refine V.callSn (pl := [3, 1]) (σ' := [.inl (6, [.ref 1, .ref 2, .int v2.1, .ref 3, .int M_isTaken, .ref 4, .int M_length, .int v1.2, .int M_spelt, .int M_speltMany, .int M_place, .int M_kind, .int M_one, .int M_two, .int M_three, .int M_begins, .int M_done, .int M_stopBy, .long M_hash]), .inr (406, .inl v3), .inr (2436, .inl v2.2), .inr (406, .inl M_snapshot), .inr (60, .inl M_text)]) (st2 := []) (cl2 := 0) (sl2 := 0) (ct_X11_copy (n0 := 406) (a1 := 0) (n2 := 406) (a3 := 0) (row0 := M_snapshot) (row2 := M_s) hv3) dX11_restore_35 w1189 w1190 cal_X11_copy ⟨⟨Nat.le_of_ble_eq_true rfl, Nat.le_of_ble_eq_true rfl⟩, Nat.le_of_ble_eq_true rfl, Nat.le_of_ble_eq_true rfl⟩ (Nat.le_of_ble_eq_true rfl) rfl ⟨rfl, ⟨by decide, by decide⟩, rfl, (fr_nil), rfl⟩ fr_v rfl rfl rfl rfl ?_
      refine V.aload_n (i := 0) dX11_restore_38 rfl rfl ?_
      refine V.iconst (v := 1) dX11_restore_39 rfl ?_
      obtain ⟨v4, hv4, hf⟩ := fbind hf
      refine V.callVn (pl := [0, 1, 2, 3, 4]) (σ' := [.inl (6, [.ref 1, .ref 2, .int v2.1, .ref 3, .int M_isTaken, .ref 4, .int M_length, .int v1.2, .int M_spelt, .int M_speltMany, .int M_place, .int M_kind, .int M_one, .int M_two, .int M_three, .int M_begins, .int M_done, .int M_stopBy, .long M_hash]), .inr (406, .inl v3), .inr (2436, .inl v2.2), .inr (406, .inl M_snapshot), .inr (60, .inl M_text)]) (st2 := [.int v4]) (cl2 := 0) (sl2 := 0) (ct_X11_sumOf (a1 := 1) (M_savedMany := v2.1) (M_isTaken := M_isTaken) (M_length := M_length) (M_thrown := v1.2) (M_spelt := M_spelt) (M_speltMany := M_speltMany) (M_place := M_place) (M_kind := M_kind) (M_one := M_one) (M_two := M_two) (M_three := M_three) (M_begins := M_begins) (M_done := M_done) (M_stopBy := M_stopBy) (M_hash := M_hash) (M_s := v3) (M_saved := v2.2) (M_snapshot := M_snapshot) (M_text := M_text) hv4) dX11_restore_40 w1343 ⟨w1345, w45⟩ cal_X11_sumOf rfl ⟨⟨Nat.le_of_ble_eq_true rfl, Nat.le_of_ble_eq_true rfl⟩, Nat.le_of_ble_eq_true rfl, Nat.le_of_ble_eq_true rfl⟩ (Nat.le_of_ble_eq_true rfl) (Or.inl ⟨_, _, _, _, rfl, rfl⟩) rfl ⟨rfl, ⟨by decide, by decide⟩, rfl, (fr_cons (Or.inl (Nat.le_of_ble_eq_true rfl)) (fr_cons (Or.inl (Nat.le_of_ble_eq_true rfl)) (fr_cons (Or.inl (Nat.le_of_ble_eq_true rfl)) (fr_cons (Or.inl (Nat.le_of_ble_eq_true rfl)) (fr_nil))))), rfl⟩ fr_i rfl rfl rfl rfl ?_
      obtain rfl := Option.some.inj hf
      exact V.iret dX11_restore_43 rfl (Nat.le_of_ble_eq_true rfl) (Nat.le_of_ble_eq_true rfl) rfl
    · have hf := fif_t h hf
      refine V.iconst (v := 0) dX11_restore_19 rfl ?_
      obtain rfl := Option.some.inj hf
      exact V.iret dX11_restore_20 rfl (Nat.le_of_ble_eq_true rfl) (Nat.le_of_ble_eq_true rfl) rfl
  · have hf := fif_f h hf
    refine V.iconst (v := 0) dX11_restore_8 rfl ?_
    refine V.goto (tgt := 13) dX11_restore_9 (by decide) ?_
    obtain ⟨v5, hv5, hf⟩ := fbind hf
    refine V.callVn (pl := [0, 1, 2, 3, 4]) (σ' := [.inl (6, [.ref 1, .ref 2, .int M_savedMany, .ref 3, .int M_isTaken, .ref 4, .int M_length, .int v5.2, .int M_spelt, .int M_speltMany, .int M_place, .int M_kind, .int M_one, .int M_two, .int M_three, .int M_begins, .int M_done, .int M_stopBy, .long M_hash]), .inr (406, .inl M_s), .inr (2436, .inl M_saved), .inr (406, .inl M_snapshot), .inr (60, .inl M_text)]) (st2 := [.int v5.1]) (cl2 := 0) (sl2 := 0) (ct_X11_holds (a1 := 0) (M_savedMany := M_savedMany) (M_isTaken := M_isTaken) (M_length := M_length) (M_thrown := M_thrown) (M_spelt := M_spelt) (M_speltMany := M_speltMany) (M_place := M_place) (M_kind := M_kind) (M_one := M_one) (M_two := M_two) (M_three := M_three) (M_begins := M_begins) (M_done := M_done) (M_stopBy := M_stopBy) (M_hash := M_hash) (M_s := M_s) (M_saved := M_saved) (M_snapshot := M_snapshot) (M_text := M_text) hv5) dX11_restore_13 w1181 ⟨w1183, w20⟩ cal_X11_holds rfl ⟨⟨Nat.le_of_ble_eq_true rfl, Nat.le_of_ble_eq_true rfl⟩, Nat.le_of_ble_eq_true rfl, Nat.le_of_ble_eq_true rfl⟩ (Nat.le_of_ble_eq_true rfl) (Or.inl ⟨_, _, _, _, rfl, rfl⟩) rfl ⟨rfl, ⟨by decide, by decide⟩, rfl, (fr_cons (Or.inl (Nat.le_of_ble_eq_true rfl)) (fr_cons (Or.inl (Nat.le_of_ble_eq_true rfl)) (fr_cons (Or.inl (Nat.le_of_ble_eq_true rfl)) (fr_cons (Or.inl (Nat.le_of_ble_eq_true rfl)) (fr_nil))))), rfl⟩ fr_i rfl rfl rfl rfl ?_
    refine V.if_ne (tgt := 21) dX11_restore_16 (by decide) (fun h => ?_) (fun h => ?_)
    · have hf := fif_f h hf
      refine V.aload_n (i := 0) dX11_restore_21 rfl rfl ?_
      obtain ⟨v6, hv6, hf⟩ := fbind hf
      refine V.callVn (pl := [0, 1, 2, 3, 4]) (σ' := [.inl (6, [.ref 1, .ref 2, .int v6.1, .ref 3, .int M_isTaken, .ref 4, .int M_length, .int v5.2, .int M_spelt, .int M_speltMany, .int M_place, .int M_kind, .int M_one, .int M_two, .int M_three, .int M_begins, .int M_done, .int M_stopBy, .long M_hash]), .inr (406, .inl M_s), .inr (2436, .inl v6.2), .inr (406, .inl M_snapshot), .inr (60, .inl M_text)]) (st2 := []) (cl2 := 0) (sl2 := 0) (ct_X11_save (M_savedMany := M_savedMany) (M_isTaken := M_isTaken) (M_length := M_length) (M_thrown := v5.2) (M_spelt := M_spelt) (M_speltMany := M_speltMany) (M_place := M_place) (M_kind := M_kind) (M_one := M_one) (M_two := M_two) (M_three := M_three) (M_begins := M_begins) (M_done := M_done) (M_stopBy := M_stopBy) (M_hash := M_hash) (M_s := M_s) (M_saved := M_saved) (M_snapshot := M_snapshot) (M_text := M_text) hv6) dX11_restore_22 w1185 ⟨w1187, w21⟩ cal_X11_save rfl ⟨⟨Nat.le_of_ble_eq_true rfl, Nat.le_of_ble_eq_true rfl⟩, Nat.le_of_ble_eq_true rfl, Nat.le_of_ble_eq_true rfl⟩ (Nat.le_of_ble_eq_true rfl) (Or.inl ⟨_, _, _, _, rfl, rfl⟩) rfl ⟨rfl, ⟨by decide, by decide⟩, rfl, (fr_cons (Or.inl (Nat.le_of_ble_eq_true rfl)) (fr_cons (Or.inl (Nat.le_of_ble_eq_true rfl)) (fr_cons (Or.inl (Nat.le_of_ble_eq_true rfl)) (fr_cons (Or.inl (Nat.le_of_ble_eq_true rfl)) (fr_nil))))), rfl⟩ fr_v rfl rfl rfl rfl ?_
      refine V.aload_n (i := 0) dX11_restore_25 rfl rfl ?_
      refine V.getfield (kf := 3) (v := .ref 3) fl_RX11 dX11_restore_26 w1046 (Nat.le_of_ble_eq_true rfl) rfl rfl ?_
      refine V.iconst (v := 0) dX11_restore_29 rfl ?_
      refine V.aload_n (i := 0) dX11_restore_30 rfl rfl ?_
      refine V.getfield (kf := 0) (v := .ref 1) fl_RX11 dX11_restore_31 w1043 (Nat.le_of_ble_eq_true rfl) rfl rfl ?_
      refine V.iconst (v := 0) dX11_restore_34 rfl ?_
      obtain ⟨v7, hv7, hf⟩ := fbind hf
      refine V.callSn (pl := [3, 1]) (σ' := [.inl (6, [.ref 1, .ref 2, .int v6.1, .ref 3, .int M_isTaken, .ref 4, .int M_length, .int v5.2, .int M_spelt, .int M_speltMany, .int M_place, .int M_kind, .int M_one, .int M_two, .int M_three, .int M_begins, .int M_done, .int M_stopBy, .long M_hash]), .inr (406, .inl v7), .inr (2436, .inl v6.2), .inr (406, .inl M_snapshot), .inr (60, .inl M_text)]) (st2 := []) (cl2 := 0) (sl2 := 0) (ct_X11_copy (n0 := 406) (a1 := 0) (n2 := 406) (a3 := 0) (row0 := M_snapshot) (row2 := M_s) hv7) dX11_restore_35 w1189 w1190 cal_X11_copy ⟨⟨Nat.le_of_ble_eq_true rfl, Nat.le_of_ble_eq_true rfl⟩, Nat.le_of_ble_eq_true rfl, Nat.le_of_ble_eq_true rfl⟩ (Nat.le_of_ble_eq_true rfl) rfl ⟨rfl, ⟨by decide, by decide⟩, rfl, (fr_nil), rfl⟩ fr_v rfl rfl rfl rfl ?_
      refine V.aload_n (i := 0) dX11_restore_38 rfl rfl ?_
      refine V.iconst (v := 1) dX11_restore_39 rfl ?_
      obtain ⟨v8, hv8, hf⟩ := fbind hf
      refine V.callVn (pl := [0, 1, 2, 3, 4]) (σ' := [.inl (6, [.ref 1, .ref 2, .int v6.1, .ref 3, .int M_isTaken, .ref 4, .int M_length, .int v5.2, .int M_spelt, .int M_speltMany, .int M_place, .int M_kind, .int M_one, .int M_two, .int M_three, .int M_begins, .int M_done, .int M_stopBy, .long M_hash]), .inr (406, .inl v7), .inr (2436, .inl v6.2), .inr (406, .inl M_snapshot), .inr (60, .inl M_text)]) (st2 := [.int v8]) (cl2 := 0) (sl2 := 0) (ct_X11_sumOf (a1 := 1) (M_savedMany := v6.1) (M_isTaken := M_isTaken) (M_length := M_length) (M_thrown := v5.2) (M_spelt := M_spelt) (M_speltMany := M_speltMany) (M_place := M_place) (M_kind := M_kind) (M_one := M_one) (M_two := M_two) (M_three := M_three) (M_begins := M_begins) (M_done := M_done) (M_stopBy := M_stopBy) (M_hash := M_hash) (M_s := v7) (M_saved := v6.2) (M_snapshot := M_snapshot) (M_text := M_text) hv8) dX11_restore_40 w1343 ⟨w1345, w45⟩ cal_X11_sumOf rfl ⟨⟨Nat.le_of_ble_eq_true rfl, Nat.le_of_ble_eq_true rfl⟩, Nat.le_of_ble_eq_true rfl, Nat.le_of_ble_eq_true rfl⟩ (Nat.le_of_ble_eq_true rfl) (Or.inl ⟨_, _, _, _, rfl, rfl⟩) rfl ⟨rfl, ⟨by decide, by decide⟩, rfl, (fr_cons (Or.inl (Nat.le_of_ble_eq_true rfl)) (fr_cons (Or.inl (Nat.le_of_ble_eq_true rfl)) (fr_cons (Or.inl (Nat.le_of_ble_eq_true rfl)) (fr_cons (Or.inl (Nat.le_of_ble_eq_true rfl)) (fr_nil))))), rfl⟩ fr_i rfl rfl rfl rfl ?_
      obtain rfl := Option.some.inj hf
      exact V.iret dX11_restore_43 rfl (Nat.le_of_ble_eq_true rfl) (Nat.le_of_ble_eq_true rfl) rfl
    · have hf := fif_t h hf
      refine V.iconst (v := 0) dX11_restore_19 rfl ?_
      obtain rfl := Option.some.inj hf
      exact V.iret dX11_restore_20 rfl (Nat.le_of_ble_eq_true rfl) (Nat.le_of_ble_eq_true rfl) rfl
def k_X11_knotsOf : fK := (yX11_knotsOf, cX11_knotsOf, 8, (some .int), [], (3, 66), (0, 0), (0, 0))
theorem cal_X11_knotsOf : fCal k_X11_knotsOf 2 := ⟨⟨wc1362, w73⟩, ⟨by decide +kernel, by decide +kernel⟩, by decide +kernel, by decide +kernel⟩
def s_X11_knotsOf_L38 (p1 : Int32) (p2 : Int32) (p6 : Int32) (M_s : Nat → Int32) : Nat → Int32 → Int32 → Option (Int32 × Int32)
  | 0, _, _ => none
  | n + 1, x3, x7 => (s_X11_knots p6 M_s).bind fun v3 => if (v3 ≤ x7 : Prop) then (some (x3, x7)) else (if (p2 = 0 : Prop) then ((s_X11_tiedAs p6 x7 M_s).bind fun v4 => if (v4 = p1 : Prop) then (s_X11_knotsOf_L38 p1 p2 p6 M_s n (x3 + 1) (x7 + 1)) else (s_X11_knotsOf_L38 p1 p2 p6 M_s n (x3 + 0) (x7 + 1))) else ((s_X11_readAs p6 x7 M_s).bind fun v5 => if (v5 = p1 : Prop) then (s_X11_knotsOf_L38 p1 p2 p6 M_s n (x3 + 1) (x7 + 1)) else (s_X11_knotsOf_L38 p1 p2 p6 M_s n (x3 + 0) (x7 + 1))))
set_option maxHeartbeats 4000000 in
set_option maxRecDepth 100000 in
theorem v_X11_knotsOf_L38 {out : fO} {σ' : List fE} {p1 : Int32} {p2 : Int32} {p4 : Int32} {p5 : Int32} {p6 : Int32} {M_savedMany : Int32} {M_isTaken : Int32} {M_length : Int32} {M_thrown : Int32} {M_spelt : Int32} {M_speltMany : Int32} {M_place : Int32} {M_kind : Int32} {M_one : Int32} {M_two : Int32} {M_three : Int32} {M_begins : Int32} {M_done : Int32} {M_stopBy : Int32} {M_hash : Int64} {M_s : Nat → Int32} {M_saved : Nat → Int32} {M_snapshot : Nat → Int32} {M_text : Nat → Int32} : ∀ (n : Nat) {x3 : Int32} {x7 : Int32} {res : Int32 × Int32} (hf : s_X11_knotsOf_L38 p1 p2 p6 M_s n x3 x7 = some res) (hx : V (fXm 5 k_X11_knotsOf out σ') (krm k_X11_knotsOf) k_X11_knotsOf 5 90 [some (.ref 0), some (.int p1), some (.int p2), some (.int res.1), some (.int p4), some (.int p5), some (.int p6), some (.int res.2)] [] [.inl (6, [.ref 1, .ref 2, .int M_savedMany, .ref 3, .int M_isTaken, .ref 4, .int M_length, .int M_thrown, .int M_spelt, .int M_speltMany, .int M_place, .int M_kind, .int M_one, .int M_two, .int M_three, .int M_begins, .int M_done, .int M_stopBy, .long M_hash]), .inr (406, .inl M_s), .inr (2436, .inl M_saved), .inr (406, .inl M_snapshot), .inr (60, .inl M_text)] 0 0), V (fXm 5 k_X11_knotsOf out σ') (krm k_X11_knotsOf) k_X11_knotsOf 5 38 [some (.ref 0), some (.int p1), some (.int p2), some (.int x3), some (.int p4), some (.int p5), some (.int p6), some (.int x7)] [] [.inl (6, [.ref 1, .ref 2, .int M_savedMany, .ref 3, .int M_isTaken, .ref 4, .int M_length, .int M_thrown, .int M_spelt, .int M_speltMany, .int M_place, .int M_kind, .int M_one, .int M_two, .int M_three, .int M_begins, .int M_done, .int M_stopBy, .long M_hash]), .inr (406, .inl M_s), .inr (2436, .inl M_saved), .inr (406, .inl M_snapshot), .inr (60, .inl M_text)] 0 0 := by
  intro n
  induction n with
  | zero =>
    intro x3 x7 res hf hx
    rw [s_X11_knotsOf_L38] at hf
    cases hf
  | succ n ih =>
    intro x3 x7 res hf hx
    rw [s_X11_knotsOf_L38] at hf
    refine V.iload (i := 7) dX11_knotsOf_38 rfl ?_
    refine V.aload_n (i := 0) dX11_knotsOf_40 rfl rfl ?_
    refine V.iload (i := 6) dX11_knotsOf_41 rfl ?_
    obtain ⟨v3, hv3, hf⟩ := fbind hf
    refine V.callVn (pl := [0, 1, 2, 3, 4]) (σ' := [.inl (6, [.ref 1, .ref 2, .int M_savedMany, .ref 3, .int M_isTaken, .ref 4, .int M_length, .int M_thrown, .int M_spelt, .int M_speltMany, .int M_place, .int M_kind, .int M_one, .int M_two, .int M_three, .int M_begins, .int M_done, .int M_stopBy, .long M_hash]), .inr (406, .inl M_s), .inr (2436, .inl M_saved), .inr (406, .inl M_snapshot), .inr (60, .inl M_text)]) (st2 := [.int v3, .int x7]) (cl2 := 0) (sl2 := 0) (ct_X11_knots (a1 := p6) (M_savedMany := M_savedMany) (M_isTaken := M_isTaken) (M_length := M_length) (M_thrown := M_thrown) (M_spelt := M_spelt) (M_speltMany := M_speltMany) (M_place := M_place) (M_kind := M_kind) (M_one := M_one) (M_two := M_two) (M_three := M_three) (M_begins := M_begins) (M_done := M_done) (M_stopBy := M_stopBy) (M_hash := M_hash) (M_s := M_s) (M_saved := M_saved) (M_snapshot := M_snapshot) (M_text := M_text) hv3) dX11_knotsOf_43 w1154 ⟨w1156, w14⟩ cal_X11_knots rfl ⟨⟨Nat.le_of_ble_eq_true rfl, Nat.le_of_ble_eq_true rfl⟩, Nat.le_of_ble_eq_true rfl, Nat.le_of_ble_eq_true rfl⟩ (Nat.le_of_ble_eq_true rfl) (Or.inl ⟨_, _, _, _, rfl, rfl⟩) rfl ⟨rfl, ⟨by decide, by decide⟩, rfl, (fr_cons (Or.inl (Nat.le_of_ble_eq_true rfl)) (fr_cons (Or.inl (Nat.le_of_ble_eq_true rfl)) (fr_cons (Or.inl (Nat.le_of_ble_eq_true rfl)) (fr_cons (Or.inl (Nat.le_of_ble_eq_true rfl)) (fr_nil))))), rfl⟩ fr_i rfl rfl rfl rfl ?_
    refine V.icmp_ge (tgt := 90) dX11_knotsOf_46 (by decide) (fun h => ?_) (fun h => ?_)
    · have hf := fif_t h hf
      obtain rfl := Option.some.inj hf
      exact hx
    · have hf := fif_f h hf
      refine V.iload_n (i := 3) dX11_knotsOf_49 rfl rfl ?_
      refine V.iload_n (i := 2) dX11_knotsOf_50 rfl rfl ?_
      refine V.if_eq (tgt := 65) dX11_knotsOf_51 (by decide) (fun h => ?_) (fun h => ?_)
      · have hf := fif_t h hf
        refine V.aload_n (i := 0) dX11_knotsOf_65 rfl rfl ?_
        refine V.iload (i := 6) dX11_knotsOf_66 rfl ?_
        refine V.iload (i := 7) dX11_knotsOf_68 rfl ?_
        obtain ⟨v4, hv4, hf⟩ := fbind hf
        refine V.callVn (pl := [0, 1, 2, 3, 4]) (σ' := [.inl (6, [.ref 1, .ref 2, .int M_savedMany, .ref 3, .int M_isTaken, .ref 4, .int M_length, .int M_thrown, .int M_spelt, .int M_speltMany, .int M_place, .int M_kind, .int M_one, .int M_two, .int M_three, .int M_begins, .int M_done, .int M_stopBy, .long M_hash]), .inr (406, .inl M_s), .inr (2436, .inl M_saved), .inr (406, .inl M_snapshot), .inr (60, .inl M_text)]) (st2 := [.int v4, .int x3]) (cl2 := 0) (sl2 := 0) (ct_X11_tiedAs (a1 := p6) (a2 := x7) (M_savedMany := M_savedMany) (M_isTaken := M_isTaken) (M_length := M_length) (M_thrown := M_thrown) (M_spelt := M_spelt) (M_speltMany := M_speltMany) (M_place := M_place) (M_kind := M_kind) (M_one := M_one) (M_two := M_two) (M_three := M_three) (M_begins := M_begins) (M_done := M_done) (M_stopBy := M_stopBy) (M_hash := M_hash) (M_s := M_s) (M_saved := M_saved) (M_snapshot := M_snapshot) (M_text := M_text) hv4) dX11_knotsOf_70 w1174 ⟨w1176, w19⟩ cal_X11_tiedAs rfl ⟨⟨Nat.le_of_ble_eq_true rfl, Nat.le_of_ble_eq_true rfl⟩, Nat.le_of_ble_eq_true rfl, Nat.le_of_ble_eq_true rfl⟩ (Nat.le_of_ble_eq_true rfl) (Or.inl ⟨_, _, _, _, rfl, rfl⟩) rfl ⟨rfl, ⟨by decide, by decide⟩, rfl, (fr_cons (Or.inl (Nat.le_of_ble_eq_true rfl)) (fr_cons (Or.inl (Nat.le_of_ble_eq_true rfl)) (fr_cons (Or.inl (Nat.le_of_ble_eq_true rfl)) (fr_cons (Or.inl (Nat.le_of_ble_eq_true rfl)) (fr_nil))))), rfl⟩ fr_i rfl rfl rfl rfl ?_
        refine V.iload_n (i := 1) dX11_knotsOf_73 rfl rfl ?_
        refine V.icmp_ne (tgt := 81) dX11_knotsOf_74 (by decide) (fun h => ?_) (fun h => ?_)
        · have hf := fif_f h hf
          refine V.iconst (v := 0) dX11_knotsOf_81 rfl ?_
          refine V.iadd dX11_knotsOf_82 ?_
          refine V.istore_n (i := 3) (L' := [some (.ref 0), some (.int p1), some (.int p2), some (.int (x3 + 0)), some (.int p4), some (.int p5), some (.int p6), some (.int x7)]) dX11_knotsOf_83 rfl (Nat.le_of_ble_eq_true rfl) rfl rfl ?_
          refine V.iinc (i := 7) (v := (x7 + 1)) (L' := [some (.ref 0), some (.int p1), some (.int p2), some (.int (x3 + 0)), some (.int p4), some (.int p5), some (.int p6), some (.int (x7 + 1))]) dX11_knotsOf_84 rfl rfl (Nat.le_of_ble_eq_true rfl) rfl rfl ?_
          refine V.goto (tgt := 38) dX11_knotsOf_87 (by decide) ?_
          exact ih hf hx
        · have hf := fif_t h hf
          refine V.iconst (v := 1) dX11_knotsOf_77 rfl ?_
          refine V.goto (tgt := 82) dX11_knotsOf_78 (by decide) ?_
          refine V.iadd dX11_knotsOf_82 ?_
          refine V.istore_n (i := 3) (L' := [some (.ref 0), some (.int p1), some (.int p2), some (.int (x3 + 1)), some (.int p4), some (.int p5), some (.int p6), some (.int x7)]) dX11_knotsOf_83 rfl (Nat.le_of_ble_eq_true rfl) rfl rfl ?_
          refine V.iinc (i := 7) (v := (x7 + 1)) (L' := [some (.ref 0), some (.int p1), some (.int p2), some (.int (x3 + 1)), some (.int p4), some (.int p5), some (.int p6), some (.int (x7 + 1))]) dX11_knotsOf_84 rfl rfl (Nat.le_of_ble_eq_true rfl) rfl rfl ?_
          refine V.goto (tgt := 38) dX11_knotsOf_87 (by decide) ?_
          exact ih hf hx
      · have hf := fif_f h hf
        refine V.aload_n (i := 0) dX11_knotsOf_54 rfl rfl ?_
        refine V.iload (i := 6) dX11_knotsOf_55 rfl ?_
        refine V.iload (i := 7) dX11_knotsOf_57 rfl ?_
        obtain ⟨v5, hv5, hf⟩ := fbind hf
        refine V.callVn (pl := [0, 1, 2, 3, 4]) (σ' := [.inl (6, [.ref 1, .ref 2, .int M_savedMany, .ref 3, .int M_isTaken, .ref 4, .int M_length, .int M_thrown, .int M_spelt, .int M_speltMany, .int M_place, .int M_kind, .int M_one, .int M_two, .int M_three, .int M_begins, .int M_done, .int M_stopBy, .long M_hash]), .inr (406, .inl M_s), .inr (2436, .inl M_saved), .inr (406, .inl M_snapshot), .inr (60, .inl M_text)]) (st2 := [.int v5, .int x3]) (cl2 := 0) (sl2 := 0) (ct_X11_readAs (a1 := p6) (a2 := x7) (M_savedMany := M_savedMany) (M_isTaken := M_isTaken) (M_length := M_length) (M_thrown := M_thrown) (M_spelt := M_spelt) (M_speltMany := M_speltMany) (M_place := M_place) (M_kind := M_kind) (M_one := M_one) (M_two := M_two) (M_three := M_three) (M_begins := M_begins) (M_done := M_done) (M_stopBy := M_stopBy) (M_hash := M_hash) (M_s := M_s) (M_saved := M_saved) (M_snapshot := M_snapshot) (M_text := M_text) hv5) dX11_knotsOf_59 w1170 ⟨w1172, w18⟩ cal_X11_readAs rfl ⟨⟨Nat.le_of_ble_eq_true rfl, Nat.le_of_ble_eq_true rfl⟩, Nat.le_of_ble_eq_true rfl, Nat.le_of_ble_eq_true rfl⟩ (Nat.le_of_ble_eq_true rfl) (Or.inl ⟨_, _, _, _, rfl, rfl⟩) rfl ⟨rfl, ⟨by decide, by decide⟩, rfl, (fr_cons (Or.inl (Nat.le_of_ble_eq_true rfl)) (fr_cons (Or.inl (Nat.le_of_ble_eq_true rfl)) (fr_cons (Or.inl (Nat.le_of_ble_eq_true rfl)) (fr_cons (Or.inl (Nat.le_of_ble_eq_true rfl)) (fr_nil))))), rfl⟩ fr_i rfl rfl rfl rfl ?_
        refine V.goto (tgt := 73) dX11_knotsOf_62 (by decide) ?_
        refine V.iload_n (i := 1) dX11_knotsOf_73 rfl rfl ?_
        refine V.icmp_ne (tgt := 81) dX11_knotsOf_74 (by decide) (fun h => ?_) (fun h => ?_)
        · have hf := fif_f h hf
          refine V.iconst (v := 0) dX11_knotsOf_81 rfl ?_
          refine V.iadd dX11_knotsOf_82 ?_
          refine V.istore_n (i := 3) (L' := [some (.ref 0), some (.int p1), some (.int p2), some (.int (x3 + 0)), some (.int p4), some (.int p5), some (.int p6), some (.int x7)]) dX11_knotsOf_83 rfl (Nat.le_of_ble_eq_true rfl) rfl rfl ?_
          refine V.iinc (i := 7) (v := (x7 + 1)) (L' := [some (.ref 0), some (.int p1), some (.int p2), some (.int (x3 + 0)), some (.int p4), some (.int p5), some (.int p6), some (.int (x7 + 1))]) dX11_knotsOf_84 rfl rfl (Nat.le_of_ble_eq_true rfl) rfl rfl ?_
          refine V.goto (tgt := 38) dX11_knotsOf_87 (by decide) ?_
          exact ih hf hx
        · have hf := fif_t h hf
          refine V.iconst (v := 1) dX11_knotsOf_77 rfl ?_
          refine V.goto (tgt := 82) dX11_knotsOf_78 (by decide) ?_
          refine V.iadd dX11_knotsOf_82 ?_
          refine V.istore_n (i := 3) (L' := [some (.ref 0), some (.int p1), some (.int p2), some (.int (x3 + 1)), some (.int p4), some (.int p5), some (.int p6), some (.int x7)]) dX11_knotsOf_83 rfl (Nat.le_of_ble_eq_true rfl) rfl rfl ?_
          refine V.iinc (i := 7) (v := (x7 + 1)) (L' := [some (.ref 0), some (.int p1), some (.int p2), some (.int (x3 + 1)), some (.int p4), some (.int p5), some (.int p6), some (.int (x7 + 1))]) dX11_knotsOf_84 rfl rfl (Nat.le_of_ble_eq_true rfl) rfl rfl ?_
          refine V.goto (tgt := 38) dX11_knotsOf_87 (by decide) ?_
          exact ih hf hx
def s_X11_knotsOf_L14 (p1 : Int32) (p2 : Int32) (p4 : Int32) (M_s : Nat → Int32) : Nat → Int32 → Int32 → Option (Int32 × Int32)
  | 0, _, _ => none
  | n + 1, x3, x5 => (s_X11_of p4 1 M_s).bind fun v1 => if (v1 ≤ x5 : Prop) then (some (x3, x5)) else ((s_X11_whereIs p4 x5).bind fun v2 => (s_X11_knotsOf_L38 p1 p2 v2 M_s gF x3 0).bind fun r6 => s_X11_knotsOf_L14 p1 p2 p4 M_s n r6.1 (x5 + 1))
set_option maxHeartbeats 4000000 in
set_option maxRecDepth 100000 in
theorem v_X11_knotsOf_L14 {out : fO} {σ' : List fE} {p1 : Int32} {p2 : Int32} {p4 : Int32} {M_savedMany : Int32} {M_isTaken : Int32} {M_length : Int32} {M_thrown : Int32} {M_spelt : Int32} {M_speltMany : Int32} {M_place : Int32} {M_kind : Int32} {M_one : Int32} {M_two : Int32} {M_three : Int32} {M_begins : Int32} {M_done : Int32} {M_stopBy : Int32} {M_hash : Int64} {M_s : Nat → Int32} {M_saved : Nat → Int32} {M_snapshot : Nat → Int32} {M_text : Nat → Int32} : ∀ (n : Nat) {x3 : Int32} {x5 : Int32} {res : Int32 × Int32} (hf : s_X11_knotsOf_L14 p1 p2 p4 M_s n x3 x5 = some res) (hx : V (fXm 5 k_X11_knotsOf out σ') (krm k_X11_knotsOf) k_X11_knotsOf 5 96 [some (.ref 0), some (.int p1), some (.int p2), some (.int res.1), some (.int p4), some (.int res.2), none, none] [] [.inl (6, [.ref 1, .ref 2, .int M_savedMany, .ref 3, .int M_isTaken, .ref 4, .int M_length, .int M_thrown, .int M_spelt, .int M_speltMany, .int M_place, .int M_kind, .int M_one, .int M_two, .int M_three, .int M_begins, .int M_done, .int M_stopBy, .long M_hash]), .inr (406, .inl M_s), .inr (2436, .inl M_saved), .inr (406, .inl M_snapshot), .inr (60, .inl M_text)] 0 0), V (fXm 5 k_X11_knotsOf out σ') (krm k_X11_knotsOf) k_X11_knotsOf 5 14 [some (.ref 0), some (.int p1), some (.int p2), some (.int x3), some (.int p4), some (.int x5), none, none] [] [.inl (6, [.ref 1, .ref 2, .int M_savedMany, .ref 3, .int M_isTaken, .ref 4, .int M_length, .int M_thrown, .int M_spelt, .int M_speltMany, .int M_place, .int M_kind, .int M_one, .int M_two, .int M_three, .int M_begins, .int M_done, .int M_stopBy, .long M_hash]), .inr (406, .inl M_s), .inr (2436, .inl M_saved), .inr (406, .inl M_snapshot), .inr (60, .inl M_text)] 0 0 := by
  intro n
  induction n with
  | zero =>
    intro x3 x5 res hf hx
    rw [s_X11_knotsOf_L14] at hf
    cases hf
  | succ n ih =>
    intro x3 x5 res hf hx
    rw [s_X11_knotsOf_L14] at hf
    refine V.iload (i := 5) dX11_knotsOf_14 rfl ?_
    refine V.aload_n (i := 0) dX11_knotsOf_16 rfl rfl ?_
    refine V.iload (i := 4) dX11_knotsOf_17 rfl ?_
    refine V.iconst (v := 1) dX11_knotsOf_19 rfl ?_
    obtain ⟨v1, hv1, hf⟩ := fbind hf
    refine V.callVn (pl := [0, 1, 2, 3, 4]) (σ' := [.inl (6, [.ref 1, .ref 2, .int M_savedMany, .ref 3, .int M_isTaken, .ref 4, .int M_length, .int M_thrown, .int M_spelt, .int M_speltMany, .int M_place, .int M_kind, .int M_one, .int M_two, .int M_three, .int M_begins, .int M_done, .int M_stopBy, .long M_hash]), .inr (406, .inl M_s), .inr (2436, .inl M_saved), .inr (406, .inl M_snapshot), .inr (60, .inl M_text)]) (st2 := [.int v1, .int x5]) (cl2 := 0) (sl2 := 0) (ct_X11_of (a1 := p4) (a2 := 1) (M_savedMany := M_savedMany) (M_isTaken := M_isTaken) (M_length := M_length) (M_thrown := M_thrown) (M_spelt := M_spelt) (M_speltMany := M_speltMany) (M_place := M_place) (M_kind := M_kind) (M_one := M_one) (M_two := M_two) (M_three := M_three) (M_begins := M_begins) (M_done := M_done) (M_stopBy := M_stopBy) (M_hash := M_hash) (M_s := M_s) (M_saved := M_saved) (M_snapshot := M_snapshot) (M_text := M_text) hv1) dX11_knotsOf_20 w1123 ⟨w1125, w10⟩ cal_X11_of rfl ⟨⟨Nat.le_of_ble_eq_true rfl, Nat.le_of_ble_eq_true rfl⟩, Nat.le_of_ble_eq_true rfl, Nat.le_of_ble_eq_true rfl⟩ (Nat.le_of_ble_eq_true rfl) (Or.inl ⟨_, _, _, _, rfl, rfl⟩) rfl ⟨rfl, ⟨by decide, by decide⟩, rfl, (fr_cons (Or.inl (Nat.le_of_ble_eq_true rfl)) (fr_cons (Or.inl (Nat.le_of_ble_eq_true rfl)) (fr_cons (Or.inl (Nat.le_of_ble_eq_true rfl)) (fr_cons (Or.inl (Nat.le_of_ble_eq_true rfl)) (fr_nil))))), rfl⟩ fr_i rfl rfl rfl rfl ?_
    refine V.icmp_ge (tgt := 96) dX11_knotsOf_23 (by decide) (fun h => ?_) (fun h => ?_)
    · have hf := fif_t h hf
      obtain rfl := Option.some.inj hf
      exact hx
    · have hf := fif_f h hf
      refine V.iload (i := 4) dX11_knotsOf_26 rfl ?_
      refine V.iload (i := 5) dX11_knotsOf_28 rfl ?_
      obtain ⟨v2, hv2, hf⟩ := fbind hf
      refine V.callSn (pl := []) (σ' := [.inl (6, [.ref 1, .ref 2, .int M_savedMany, .ref 3, .int M_isTaken, .ref 4, .int M_length, .int M_thrown, .int M_spelt, .int M_speltMany, .int M_place, .int M_kind, .int M_one, .int M_two, .int M_three, .int M_begins, .int M_done, .int M_stopBy, .long M_hash]), .inr (406, .inl M_s), .inr (2436, .inl M_saved), .inr (406, .inl M_snapshot), .inr (60, .inl M_text)]) (st2 := [.int v2]) (cl2 := 0) (sl2 := 0) (ct_X11_whereIs (a0 := p4) (a1 := x5) hv2) dX11_knotsOf_30 w1147 w1148 cal_X11_whereIs ⟨⟨Nat.le_of_ble_eq_true rfl, Nat.le_of_ble_eq_true rfl⟩, Nat.le_of_ble_eq_true rfl, Nat.le_of_ble_eq_true rfl⟩ (Nat.le_of_ble_eq_true rfl) rfl ⟨rfl, ⟨by decide, by decide⟩, rfl, (fr_nil), rfl⟩ fr_i rfl rfl rfl rfl ?_
      refine V.istore (i := 6) (L' := [some (.ref 0), some (.int p1), some (.int p2), some (.int x3), some (.int p4), some (.int x5), some (.int v2), none]) dX11_knotsOf_33 (Nat.le_of_ble_eq_true rfl) rfl rfl ?_
      refine V.iconst (v := 0) dX11_knotsOf_35 rfl ?_
      refine V.istore (i := 7) (L' := [some (.ref 0), some (.int p1), some (.int p2), some (.int x3), some (.int p4), some (.int x5), some (.int v2), some (.int 0)]) dX11_knotsOf_36 (Nat.le_of_ble_eq_true rfl) rfl rfl ?_
      obtain ⟨r6, hr6, hf⟩ := fbind hf
      refine v_X11_knotsOf_L38 gF hr6 ?_
      refine V.iinc (i := 5) (v := (x5 + 1)) (L' := [some (.ref 0), some (.int p1), some (.int p2), some (.int r6.1), some (.int p4), some (.int (x5 + 1)), some (.int v2), some (.int r6.2)]) dX11_knotsOf_90 rfl rfl (Nat.le_of_ble_eq_true rfl) rfl rfl ?_
      refine V.goto (tgt := 14) dX11_knotsOf_93 (by decide) ?_
      exact V.locs (L' := [some (.ref 0), some (.int p1), some (.int p2), some (.int r6.1), some (.int p4), some (.int (x5 + 1)), none, none]) ⟨rfl, ⟨rfl, ⟨rfl, ⟨rfl, ⟨rfl, ⟨rfl, trivial⟩⟩⟩⟩⟩⟩ (ih hf hx)
def s_X11_knotsOf_L5 (p1 : Int32) (p2 : Int32) (M_s : Nat → Int32) : Nat → Int32 → Int32 → Option (Int32 × Int32)
  | 0, _, _ => none
  | n + 1, x3, x4 => if (5 ≤ x4 : Prop) then (some (x3, x4)) else ((s_X11_knotsOf_L14 p1 p2 x4 M_s gF x3 0).bind fun r7 => s_X11_knotsOf_L5 p1 p2 M_s n r7.1 (x4 + 1))
set_option maxHeartbeats 4000000 in
set_option maxRecDepth 100000 in
theorem v_X11_knotsOf_L5 {out : fO} {σ' : List fE} {p1 : Int32} {p2 : Int32} {M_savedMany : Int32} {M_isTaken : Int32} {M_length : Int32} {M_thrown : Int32} {M_spelt : Int32} {M_speltMany : Int32} {M_place : Int32} {M_kind : Int32} {M_one : Int32} {M_two : Int32} {M_three : Int32} {M_begins : Int32} {M_done : Int32} {M_stopBy : Int32} {M_hash : Int64} {M_s : Nat → Int32} {M_saved : Nat → Int32} {M_snapshot : Nat → Int32} {M_text : Nat → Int32} : ∀ (n : Nat) {x3 : Int32} {x4 : Int32} {res : Int32 × Int32} (hf : s_X11_knotsOf_L5 p1 p2 M_s n x3 x4 = some res) (hx : V (fXm 5 k_X11_knotsOf out σ') (krm k_X11_knotsOf) k_X11_knotsOf 5 102 [some (.ref 0), some (.int p1), some (.int p2), some (.int res.1), some (.int res.2), none, none, none] [] [.inl (6, [.ref 1, .ref 2, .int M_savedMany, .ref 3, .int M_isTaken, .ref 4, .int M_length, .int M_thrown, .int M_spelt, .int M_speltMany, .int M_place, .int M_kind, .int M_one, .int M_two, .int M_three, .int M_begins, .int M_done, .int M_stopBy, .long M_hash]), .inr (406, .inl M_s), .inr (2436, .inl M_saved), .inr (406, .inl M_snapshot), .inr (60, .inl M_text)] 0 0), V (fXm 5 k_X11_knotsOf out σ') (krm k_X11_knotsOf) k_X11_knotsOf 5 5 [some (.ref 0), some (.int p1), some (.int p2), some (.int x3), some (.int x4), none, none, none] [] [.inl (6, [.ref 1, .ref 2, .int M_savedMany, .ref 3, .int M_isTaken, .ref 4, .int M_length, .int M_thrown, .int M_spelt, .int M_speltMany, .int M_place, .int M_kind, .int M_one, .int M_two, .int M_three, .int M_begins, .int M_done, .int M_stopBy, .long M_hash]), .inr (406, .inl M_s), .inr (2436, .inl M_saved), .inr (406, .inl M_snapshot), .inr (60, .inl M_text)] 0 0 := by
  intro n
  induction n with
  | zero =>
    intro x3 x4 res hf hx
    rw [s_X11_knotsOf_L5] at hf
    cases hf
  | succ n ih =>
    intro x3 x4 res hf hx
    rw [s_X11_knotsOf_L5] at hf
    refine V.iload (i := 4) dX11_knotsOf_5 rfl ?_
    refine V.iconst (v := 5) dX11_knotsOf_7 rfl ?_
    refine V.icmp_ge (tgt := 102) dX11_knotsOf_8 (by decide) (fun h => ?_) (fun h => ?_)
    · have hf := fif_t h hf
      obtain rfl := Option.some.inj hf
      exact hx
    · have hf := fif_f h hf
      refine V.iconst (v := 0) dX11_knotsOf_11 rfl ?_
      refine V.istore (i := 5) (L' := [some (.ref 0), some (.int p1), some (.int p2), some (.int x3), some (.int x4), some (.int 0), none, none]) dX11_knotsOf_12 (Nat.le_of_ble_eq_true rfl) rfl rfl ?_
      obtain ⟨r7, hr7, hf⟩ := fbind hf
      refine v_X11_knotsOf_L14 gF hr7 ?_
      refine V.iinc (i := 4) (v := (x4 + 1)) (L' := [some (.ref 0), some (.int p1), some (.int p2), some (.int r7.1), some (.int (x4 + 1)), some (.int r7.2), none, none]) dX11_knotsOf_96 rfl rfl (Nat.le_of_ble_eq_true rfl) rfl rfl ?_
      refine V.goto (tgt := 5) dX11_knotsOf_99 (by decide) ?_
      exact V.locs (L' := [some (.ref 0), some (.int p1), some (.int p2), some (.int r7.1), some (.int (x4 + 1)), none, none, none]) ⟨rfl, ⟨rfl, ⟨rfl, ⟨rfl, ⟨rfl, trivial⟩⟩⟩⟩⟩ (ih hf hx)
def s_X11_knotsOf (a1 : Int32) (a2 : Int32) (M_s : Nat → Int32) : Option (Int32) := (s_X11_knotsOf_L5 a1 a2 M_s gF 0 0).bind fun r8 => some r8.1
set_option maxHeartbeats 4000000 in
set_option maxRecDepth 100000 in
theorem ct_X11_knotsOf {a1 : Int32} {a2 : Int32} {M_savedMany : Int32} {M_isTaken : Int32} {M_length : Int32} {M_thrown : Int32} {M_spelt : Int32} {M_speltMany : Int32} {M_place : Int32} {M_kind : Int32} {M_one : Int32} {M_two : Int32} {M_three : Int32} {M_begins : Int32} {M_done : Int32} {M_stopBy : Int32} {M_hash : Int64} {M_s : Nat → Int32} {M_saved : Nat → Int32} {M_snapshot : Nat → Int32} {M_text : Nat → Int32} {res : Int32} (hf : s_X11_knotsOf a1 a2 M_s = some res) : Ct k_X11_knotsOf [.ref 0, .int a1, .int a2] [.inl (6, [.ref 1, .ref 2, .int M_savedMany, .ref 3, .int M_isTaken, .ref 4, .int M_length, .int M_thrown, .int M_spelt, .int M_speltMany, .int M_place, .int M_kind, .int M_one, .int M_two, .int M_three, .int M_begins, .int M_done, .int M_stopBy, .long M_hash]), .inr (406, .inl M_s), .inr (2436, .inl M_saved), .inr (406, .inl M_snapshot), .inr (60, .inl M_text)] (.inl (some (.int res))) [.inl (6, [.ref 1, .ref 2, .int M_savedMany, .ref 3, .int M_isTaken, .ref 4, .int M_length, .int M_thrown, .int M_spelt, .int M_speltMany, .int M_place, .int M_kind, .int M_one, .int M_two, .int M_three, .int M_begins, .int M_done, .int M_stopBy, .long M_hash]), .inr (406, .inl M_s), .inr (2436, .inl M_saved), .inr (406, .inl M_snapshot), .inr (60, .inl M_text)] := by
  unfold s_X11_knotsOf at hf
  refine Ct.of (L := [some (.ref 0), some (.int a1), some (.int a2), none, none, none, none, none]) cal_X11_knotsOf (fent_pad (j := 5) rfl) (Nat.le_of_ble_eq_true rfl) ?_
  refine V.iconst (v := 0) dX11_knotsOf_0 rfl ?_
  refine V.istore_n (i := 3) (L' := [some (.ref 0), some (.int a1), some (.int a2), some (.int 0), none, none, none, none]) dX11_knotsOf_1 rfl (Nat.le_of_ble_eq_true rfl) rfl rfl ?_
  refine V.iconst (v := 0) dX11_knotsOf_2 rfl ?_
  refine V.istore (i := 4) (L' := [some (.ref 0), some (.int a1), some (.int a2), some (.int 0), some (.int 0), none, none, none]) dX11_knotsOf_3 (Nat.le_of_ble_eq_true rfl) rfl rfl ?_
  obtain ⟨r8, hr8, hf⟩ := fbind hf
  refine v_X11_knotsOf_L5 gF hr8 ?_
  refine V.iload_n (i := 3) dX11_knotsOf_102 rfl rfl ?_
  obtain rfl := Option.some.inj hf
  exact V.iret dX11_knotsOf_103 rfl (Nat.le_of_ble_eq_true rfl) (Nat.le_of_ble_eq_true rfl) rfl
def k_X11_letterNumber : fK := (yX11_letterNumber, cX11_letterNumber, 3, (some .int), [], (4, 93), (0, 0), (0, 0))
theorem cal_X11_letterNumber : fCal k_X11_letterNumber 2 := ⟨⟨wc1358, w73⟩, ⟨by decide +kernel, by decide +kernel⟩, by decide +kernel, by decide +kernel⟩
def s_X11_letterNumber (a1 : Int32) (a2 : Int32) (M_s : Nat → Int32) : Option (Int32) := if (a2 = 0 : Prop) then ((s_X11_turns a1).bind fun v1 => some v1) else (if (a2 = 1 : Prop) then (some (a1 - a1 / 4 * 4)) else (if (a2 = 2 : Prop) then ((s_X11_cordOfLetter a1).bind fun v2 => some v2) else (if (a2 = 3 : Prop) then ((s_X11_isVowel a1).bind fun v3 => if (v3 = 0 : Prop) then (some 0) else (some 1)) else (if (a2 = 5 : Prop) then ((s_X11_knotsOf a1 1 M_s).bind fun v5 => some v5) else ((s_X11_knotsOf a1 0 M_s).bind fun v4 => some v4)))))
set_option maxHeartbeats 4000000 in
set_option maxRecDepth 100000 in
theorem ct_X11_letterNumber {a1 : Int32} {a2 : Int32} {M_savedMany : Int32} {M_isTaken : Int32} {M_length : Int32} {M_thrown : Int32} {M_spelt : Int32} {M_speltMany : Int32} {M_place : Int32} {M_kind : Int32} {M_one : Int32} {M_two : Int32} {M_three : Int32} {M_begins : Int32} {M_done : Int32} {M_stopBy : Int32} {M_hash : Int64} {M_s : Nat → Int32} {M_saved : Nat → Int32} {M_snapshot : Nat → Int32} {M_text : Nat → Int32} {res : Int32} (hf : s_X11_letterNumber a1 a2 M_s = some res) : Ct k_X11_letterNumber [.ref 0, .int a1, .int a2] [.inl (6, [.ref 1, .ref 2, .int M_savedMany, .ref 3, .int M_isTaken, .ref 4, .int M_length, .int M_thrown, .int M_spelt, .int M_speltMany, .int M_place, .int M_kind, .int M_one, .int M_two, .int M_three, .int M_begins, .int M_done, .int M_stopBy, .long M_hash]), .inr (406, .inl M_s), .inr (2436, .inl M_saved), .inr (406, .inl M_snapshot), .inr (60, .inl M_text)] (.inl (some (.int res))) [.inl (6, [.ref 1, .ref 2, .int M_savedMany, .ref 3, .int M_isTaken, .ref 4, .int M_length, .int M_thrown, .int M_spelt, .int M_speltMany, .int M_place, .int M_kind, .int M_one, .int M_two, .int M_three, .int M_begins, .int M_done, .int M_stopBy, .long M_hash]), .inr (406, .inl M_s), .inr (2436, .inl M_saved), .inr (406, .inl M_snapshot), .inr (60, .inl M_text)] := by
  unfold s_X11_letterNumber at hf
  refine Ct.of (L := [some (.ref 0), some (.int a1), some (.int a2)]) cal_X11_letterNumber (fent_pad (j := 0) rfl) (Nat.le_of_ble_eq_true rfl) ?_
  refine V.iload_n (i := 2) dX11_letterNumber_0 rfl rfl ?_
  by_cases h0 : a2 = 0
  · have hf := fif_t h0 hf
    refine V.cgi h0 (V.tableIn (off := 31) (tgt := 32) dX11_letterNumber_1 (by decide) (by decide) rfl (by decide) ?_)
    refine V.iload_n (i := 1) dX11_letterNumber_32 rfl rfl ?_
    obtain ⟨v1, hv1, hf⟩ := fbind hf
    refine V.callSn (pl := []) (σ' := [.inl (6, [.ref 1, .ref 2, .int M_savedMany, .ref 3, .int M_isTaken, .ref 4, .int M_length, .int M_thrown, .int M_spelt, .int M_speltMany, .int M_place, .int M_kind, .int M_one, .int M_two, .int M_three, .int M_begins, .int M_done, .int M_stopBy, .long M_hash]), .inr (406, .inl M_s), .inr (2436, .inl M_saved), .inr (406, .inl M_snapshot), .inr (60, .inl M_text)]) (st2 := [.int v1]) (cl2 := 0) (sl2 := 0) (ct_X11_turns (a0 := a1) hv1) dX11_letterNumber_33 w1136 w1137 cal_X11_turns ⟨⟨Nat.le_of_ble_eq_true rfl, Nat.le_of_ble_eq_true rfl⟩, Nat.le_of_ble_eq_true rfl, Nat.le_of_ble_eq_true rfl⟩ (Nat.le_of_ble_eq_true rfl) rfl ⟨rfl, ⟨by decide, by decide⟩, rfl, (fr_nil), rfl⟩ fr_i rfl rfl rfl rfl ?_
    obtain rfl := Option.some.inj hf
    exact V.iret dX11_letterNumber_36 rfl (Nat.le_of_ble_eq_true rfl) (Nat.le_of_ble_eq_true rfl) rfl
  · have hf := fif_f h0 hf
    by_cases h1 : a2 = 1
    · have hf := fif_t h1 hf
      refine V.cgi h1 (V.tableIn (off := 36) (tgt := 37) dX11_letterNumber_1 (by decide) (by decide) rfl (by decide) ?_)
      refine V.iload_n (i := 1) dX11_letterNumber_37 rfl rfl ?_
      refine V.iconst (v := 4) dX11_letterNumber_38 rfl ?_
      refine V.irem dX11_letterNumber_39 (by decide) ?_
      obtain rfl := Option.some.inj hf
      exact V.iret dX11_letterNumber_40 rfl (Nat.le_of_ble_eq_true rfl) (Nat.le_of_ble_eq_true rfl) rfl
    · have hf := fif_f h1 hf
      by_cases h2 : a2 = 2
      · have hf := fif_t h2 hf
        refine V.cgi h2 (V.tableIn (off := 40) (tgt := 41) dX11_letterNumber_1 (by decide) (by decide) rfl (by decide) ?_)
        refine V.iload_n (i := 1) dX11_letterNumber_41 rfl rfl ?_
        obtain ⟨v2, hv2, hf⟩ := fbind hf
        refine V.callSn (pl := []) (σ' := [.inl (6, [.ref 1, .ref 2, .int M_savedMany, .ref 3, .int M_isTaken, .ref 4, .int M_length, .int M_thrown, .int M_spelt, .int M_speltMany, .int M_place, .int M_kind, .int M_one, .int M_two, .int M_three, .int M_begins, .int M_done, .int M_stopBy, .long M_hash]), .inr (406, .inl M_s), .inr (2436, .inl M_saved), .inr (406, .inl M_snapshot), .inr (60, .inl M_text)]) (st2 := [.int v2]) (cl2 := 0) (sl2 := 0) (ct_X11_cordOfLetter (a0 := a1) hv2) dX11_letterNumber_42 w1133 w1134 cal_X11_cordOfLetter ⟨⟨Nat.le_of_ble_eq_true rfl, Nat.le_of_ble_eq_true rfl⟩, Nat.le_of_ble_eq_true rfl, Nat.le_of_ble_eq_true rfl⟩ (Nat.le_of_ble_eq_true rfl) rfl ⟨rfl, ⟨by decide, by decide⟩, rfl, (fr_nil), rfl⟩ fr_i rfl rfl rfl rfl ?_
        obtain rfl := Option.some.inj hf
        exact V.iret dX11_letterNumber_45 rfl (Nat.le_of_ble_eq_true rfl) (Nat.le_of_ble_eq_true rfl) rfl
      · have hf := fif_f h2 hf
        by_cases h3 : a2 = 3
        · have hf := fif_t h3 hf
          refine V.cgi h3 (V.tableIn (off := 45) (tgt := 46) dX11_letterNumber_1 (by decide) (by decide) rfl (by decide) ?_)
          refine V.iload_n (i := 1) dX11_letterNumber_46 rfl rfl ?_
          obtain ⟨v3, hv3, hf⟩ := fbind hf
          refine V.callSn (pl := []) (σ' := [.inl (6, [.ref 1, .ref 2, .int M_savedMany, .ref 3, .int M_isTaken, .ref 4, .int M_length, .int M_thrown, .int M_spelt, .int M_speltMany, .int M_place, .int M_kind, .int M_one, .int M_two, .int M_three, .int M_begins, .int M_done, .int M_stopBy, .long M_hash]), .inr (406, .inl M_s), .inr (2436, .inl M_saved), .inr (406, .inl M_snapshot), .inr (60, .inl M_text)]) (st2 := [.int v3]) (cl2 := 0) (sl2 := 0) (ct_X11_isVowel (a0 := a1) hv3) dX11_letterNumber_47 w1252 w1253 cal_X11_isVowel ⟨⟨Nat.le_of_ble_eq_true rfl, Nat.le_of_ble_eq_true rfl⟩, Nat.le_of_ble_eq_true rfl, Nat.le_of_ble_eq_true rfl⟩ (Nat.le_of_ble_eq_true rfl) rfl ⟨rfl, ⟨by decide, by decide⟩, rfl, (fr_nil), rfl⟩ fr_i rfl rfl rfl rfl ?_
          refine V.if_eq (tgt := 57) dX11_letterNumber_50 (by decide) (fun h => ?_) (fun h => ?_)
          · have hf := fif_t h hf
            refine V.iconst (v := 0) dX11_letterNumber_57 rfl ?_
            obtain rfl := Option.some.inj hf
            exact V.iret dX11_letterNumber_58 rfl (Nat.le_of_ble_eq_true rfl) (Nat.le_of_ble_eq_true rfl) rfl
          · have hf := fif_f h hf
            refine V.iconst (v := 1) dX11_letterNumber_53 rfl ?_
            refine V.goto (tgt := 58) dX11_letterNumber_54 (by decide) ?_
            obtain rfl := Option.some.inj hf
            exact V.iret dX11_letterNumber_58 rfl (Nat.le_of_ble_eq_true rfl) (Nat.le_of_ble_eq_true rfl) rfl
        · have hf := fif_f h3 hf
          refine V.tableOut (tgt := 59) dX11_letterNumber_1 (by have g0 := lv_neT (a := 0) h0 (by decide); have g1 := lv_neT (a := 1) h1 (by decide); have g2 := lv_neT (a := 2) h2 (by decide); have g3 := lv_neT (a := 3) h3 (by decide); omega) (by decide) ?_
          refine V.aload_n (i := 0) dX11_letterNumber_59 rfl rfl ?_
          refine V.iload_n (i := 1) dX11_letterNumber_60 rfl rfl ?_
          refine V.iload_n (i := 2) dX11_letterNumber_61 rfl rfl ?_
          refine V.iconst (v := 5) dX11_letterNumber_62 rfl ?_
          refine V.icmp_ne (tgt := 70) dX11_letterNumber_63 (by decide) (fun h => ?_) (fun h => ?_)
          · have hf := fif_f h hf
            refine V.iconst (v := 0) dX11_letterNumber_70 rfl ?_
            obtain ⟨v4, hv4, hf⟩ := fbind hf
            refine V.callVn (pl := [0, 1, 2, 3, 4]) (σ' := [.inl (6, [.ref 1, .ref 2, .int M_savedMany, .ref 3, .int M_isTaken, .ref 4, .int M_length, .int M_thrown, .int M_spelt, .int M_speltMany, .int M_place, .int M_kind, .int M_one, .int M_two, .int M_three, .int M_begins, .int M_done, .int M_stopBy, .long M_hash]), .inr (406, .inl M_s), .inr (2436, .inl M_saved), .inr (406, .inl M_snapshot), .inr (60, .inl M_text)]) (st2 := [.int v4]) (cl2 := 0) (sl2 := 0) (ct_X11_knotsOf (a1 := a1) (a2 := 0) (M_savedMany := M_savedMany) (M_isTaken := M_isTaken) (M_length := M_length) (M_thrown := M_thrown) (M_spelt := M_spelt) (M_speltMany := M_speltMany) (M_place := M_place) (M_kind := M_kind) (M_one := M_one) (M_two := M_two) (M_three := M_three) (M_begins := M_begins) (M_done := M_done) (M_stopBy := M_stopBy) (M_hash := M_hash) (M_s := M_s) (M_saved := M_saved) (M_snapshot := M_snapshot) (M_text := M_text) hv4) dX11_letterNumber_71 w1359 ⟨w1361, w47⟩ cal_X11_knotsOf rfl ⟨⟨Nat.le_of_ble_eq_true rfl, Nat.le_of_ble_eq_true rfl⟩, Nat.le_of_ble_eq_true rfl, Nat.le_of_ble_eq_true rfl⟩ (Nat.le_of_ble_eq_true rfl) (Or.inl ⟨_, _, _, _, rfl, rfl⟩) rfl ⟨rfl, ⟨by decide, by decide⟩, rfl, (fr_cons (Or.inl (Nat.le_of_ble_eq_true rfl)) (fr_cons (Or.inl (Nat.le_of_ble_eq_true rfl)) (fr_cons (Or.inl (Nat.le_of_ble_eq_true rfl)) (fr_cons (Or.inl (Nat.le_of_ble_eq_true rfl)) (fr_nil))))), rfl⟩ fr_i rfl rfl rfl rfl ?_
            obtain rfl := Option.some.inj hf
            exact V.iret dX11_letterNumber_74 rfl (Nat.le_of_ble_eq_true rfl) (Nat.le_of_ble_eq_true rfl) rfl
          · have hf := fif_t h hf
            refine V.iconst (v := 1) dX11_letterNumber_66 rfl ?_
            refine V.goto (tgt := 71) dX11_letterNumber_67 (by decide) ?_
            obtain ⟨v5, hv5, hf⟩ := fbind hf
            refine V.callVn (pl := [0, 1, 2, 3, 4]) (σ' := [.inl (6, [.ref 1, .ref 2, .int M_savedMany, .ref 3, .int M_isTaken, .ref 4, .int M_length, .int M_thrown, .int M_spelt, .int M_speltMany, .int M_place, .int M_kind, .int M_one, .int M_two, .int M_three, .int M_begins, .int M_done, .int M_stopBy, .long M_hash]), .inr (406, .inl M_s), .inr (2436, .inl M_saved), .inr (406, .inl M_snapshot), .inr (60, .inl M_text)]) (st2 := [.int v5]) (cl2 := 0) (sl2 := 0) (ct_X11_knotsOf (a1 := a1) (a2 := 1) (M_savedMany := M_savedMany) (M_isTaken := M_isTaken) (M_length := M_length) (M_thrown := M_thrown) (M_spelt := M_spelt) (M_speltMany := M_speltMany) (M_place := M_place) (M_kind := M_kind) (M_one := M_one) (M_two := M_two) (M_three := M_three) (M_begins := M_begins) (M_done := M_done) (M_stopBy := M_stopBy) (M_hash := M_hash) (M_s := M_s) (M_saved := M_saved) (M_snapshot := M_snapshot) (M_text := M_text) hv5) dX11_letterNumber_71 w1359 ⟨w1361, w47⟩ cal_X11_knotsOf rfl ⟨⟨Nat.le_of_ble_eq_true rfl, Nat.le_of_ble_eq_true rfl⟩, Nat.le_of_ble_eq_true rfl, Nat.le_of_ble_eq_true rfl⟩ (Nat.le_of_ble_eq_true rfl) (Or.inl ⟨_, _, _, _, rfl, rfl⟩) rfl ⟨rfl, ⟨by decide, by decide⟩, rfl, (fr_cons (Or.inl (Nat.le_of_ble_eq_true rfl)) (fr_cons (Or.inl (Nat.le_of_ble_eq_true rfl)) (fr_cons (Or.inl (Nat.le_of_ble_eq_true rfl)) (fr_cons (Or.inl (Nat.le_of_ble_eq_true rfl)) (fr_nil))))), rfl⟩ fr_i rfl rfl rfl rfl ?_
            obtain rfl := Option.some.inj hf
            exact V.iret dX11_letterNumber_74 rfl (Nat.le_of_ble_eq_true rfl) (Nat.le_of_ble_eq_true rfl) rfl
def k_X11_letter : fK := (yX11_letter, cX11_letter, 3, (some .int), [], (5, 115), (0, 0), (0, 0))
theorem cal_X11_letter : fCal k_X11_letter 2 := ⟨⟨wc1354, w73⟩, ⟨by decide +kernel, by decide +kernel⟩, by decide +kernel, by decide +kernel⟩
def s_X11_letter (a1 : Int32) (a2 : Int32) (M_thrown : Int32) (M_s : Nat → Int32) : Option (Int32 × (Int32)) := (s_X11_in a1 0 15).bind fun v1 => if (v1 = 0 : Prop) then ((s_X11_holds 1 M_thrown).bind fun v7 => if (v7.1 = 0 : Prop) then (some (0, v7.2)) else ((s_X11_letterNumber a1 a2 M_s).bind fun v8 => some (v8, v7.2))) else ((s_X11_in a2 0 5).bind fun v2 => if (v2 = 0 : Prop) then ((s_X11_holds 2 M_thrown).bind fun v3 => if (v3.1 = 0 : Prop) then (some (0, v3.2)) else ((s_X11_letterNumber a1 a2 M_s).bind fun v4 => some (v4, v3.2))) else ((s_X11_holds 0 M_thrown).bind fun v5 => if (v5.1 = 0 : Prop) then (some (0, v5.2)) else ((s_X11_letterNumber a1 a2 M_s).bind fun v6 => some (v6, v5.2))))
set_option maxHeartbeats 4000000 in
set_option maxRecDepth 100000 in
theorem ct_X11_letter {a1 : Int32} {a2 : Int32} {M_savedMany : Int32} {M_isTaken : Int32} {M_length : Int32} {M_thrown : Int32} {M_spelt : Int32} {M_speltMany : Int32} {M_place : Int32} {M_kind : Int32} {M_one : Int32} {M_two : Int32} {M_three : Int32} {M_begins : Int32} {M_done : Int32} {M_stopBy : Int32} {M_hash : Int64} {M_s : Nat → Int32} {M_saved : Nat → Int32} {M_snapshot : Nat → Int32} {M_text : Nat → Int32} {res : Int32 × (Int32)} (hf : s_X11_letter a1 a2 M_thrown M_s = some res) : Ct k_X11_letter [.ref 0, .int a1, .int a2] [.inl (6, [.ref 1, .ref 2, .int M_savedMany, .ref 3, .int M_isTaken, .ref 4, .int M_length, .int M_thrown, .int M_spelt, .int M_speltMany, .int M_place, .int M_kind, .int M_one, .int M_two, .int M_three, .int M_begins, .int M_done, .int M_stopBy, .long M_hash]), .inr (406, .inl M_s), .inr (2436, .inl M_saved), .inr (406, .inl M_snapshot), .inr (60, .inl M_text)] (.inl (some (.int res.1))) [.inl (6, [.ref 1, .ref 2, .int M_savedMany, .ref 3, .int M_isTaken, .ref 4, .int M_length, .int res.2, .int M_spelt, .int M_speltMany, .int M_place, .int M_kind, .int M_one, .int M_two, .int M_three, .int M_begins, .int M_done, .int M_stopBy, .long M_hash]), .inr (406, .inl M_s), .inr (2436, .inl M_saved), .inr (406, .inl M_snapshot), .inr (60, .inl M_text)] := by
  unfold s_X11_letter at hf
  refine Ct.of (L := [some (.ref 0), some (.int a1), some (.int a2)]) cal_X11_letter (fent_pad (j := 0) rfl) (Nat.le_of_ble_eq_true rfl) ?_
  refine V.aload_n (i := 0) dX11_letter_0 rfl rfl ?_
  refine V.iload_n (i := 1) dX11_letter_1 rfl rfl ?_
  refine V.iconst (v := 0) dX11_letter_2 rfl ?_
  refine V.bipush (v := 15) dX11_letter_3 rfl ?_
  obtain ⟨v1, hv1, hf⟩ := fbind hf
  refine V.callSn (pl := []) (σ' := [.inl (6, [.ref 1, .ref 2, .int M_savedMany, .ref 3, .int M_isTaken, .ref 4, .int M_length, .int M_thrown, .int M_spelt, .int M_speltMany, .int M_place, .int M_kind, .int M_one, .int M_two, .int M_three, .int M_begins, .int M_done, .int M_stopBy, .long M_hash]), .inr (406, .inl M_s), .inr (2436, .inl M_saved), .inr (406, .inl M_snapshot), .inr (60, .inl M_text)]) (st2 := [.int v1, .ref 0]) (cl2 := 0) (sl2 := 0) (ct_X11_in (a0 := a1) (a1 := 0) (a2 := 15) hv1) dX11_letter_5 w1113 w1114 cal_X11_in ⟨⟨Nat.le_of_ble_eq_true rfl, Nat.le_of_ble_eq_true rfl⟩, Nat.le_of_ble_eq_true rfl, Nat.le_of_ble_eq_true rfl⟩ (Nat.le_of_ble_eq_true rfl) rfl ⟨rfl, ⟨by decide, by decide⟩, rfl, (fr_nil), rfl⟩ fr_i rfl rfl rfl rfl ?_
  refine V.if_ne (tgt := 15) dX11_letter_8 (by decide) (fun h => ?_) (fun h => ?_)
  · have hf := fif_f h hf
    refine V.iload_n (i := 2) dX11_letter_15 rfl rfl ?_
    refine V.iconst (v := 0) dX11_letter_16 rfl ?_
    refine V.iconst (v := 5) dX11_letter_17 rfl ?_
    obtain ⟨v2, hv2, hf⟩ := fbind hf
    refine V.callSn (pl := []) (σ' := [.inl (6, [.ref 1, .ref 2, .int M_savedMany, .ref 3, .int M_isTaken, .ref 4, .int M_length, .int M_thrown, .int M_spelt, .int M_speltMany, .int M_place, .int M_kind, .int M_one, .int M_two, .int M_three, .int M_begins, .int M_done, .int M_stopBy, .long M_hash]), .inr (406, .inl M_s), .inr (2436, .inl M_saved), .inr (406, .inl M_snapshot), .inr (60, .inl M_text)]) (st2 := [.int v2, .ref 0]) (cl2 := 0) (sl2 := 0) (ct_X11_in (a0 := a2) (a1 := 0) (a2 := 5) hv2) dX11_letter_18 w1113 w1114 cal_X11_in ⟨⟨Nat.le_of_ble_eq_true rfl, Nat.le_of_ble_eq_true rfl⟩, Nat.le_of_ble_eq_true rfl, Nat.le_of_ble_eq_true rfl⟩ (Nat.le_of_ble_eq_true rfl) rfl ⟨rfl, ⟨by decide, by decide⟩, rfl, (fr_nil), rfl⟩ fr_i rfl rfl rfl rfl ?_
    refine V.if_eq (tgt := 28) dX11_letter_21 (by decide) (fun h => ?_) (fun h => ?_)
    · have hf := fif_t h hf
      refine V.iconst (v := 2) dX11_letter_28 rfl ?_
      obtain ⟨v3, hv3, hf⟩ := fbind hf
      refine V.callVn (pl := [0, 1, 2, 3, 4]) (σ' := [.inl (6, [.ref 1, .ref 2, .int M_savedMany, .ref 3, .int M_isTaken, .ref 4, .int M_length, .int v3.2, .int M_spelt, .int M_speltMany, .int M_place, .int M_kind, .int M_one, .int M_two, .int M_three, .int M_begins, .int M_done, .int M_stopBy, .long M_hash]), .inr (406, .inl M_s), .inr (2436, .inl M_saved), .inr (406, .inl M_snapshot), .inr (60, .inl M_text)]) (st2 := [.int v3.1]) (cl2 := 0) (sl2 := 0) (ct_X11_holds (a1 := 2) (M_savedMany := M_savedMany) (M_isTaken := M_isTaken) (M_length := M_length) (M_thrown := M_thrown) (M_spelt := M_spelt) (M_speltMany := M_speltMany) (M_place := M_place) (M_kind := M_kind) (M_one := M_one) (M_two := M_two) (M_three := M_three) (M_begins := M_begins) (M_done := M_done) (M_stopBy := M_stopBy) (M_hash := M_hash) (M_s := M_s) (M_saved := M_saved) (M_snapshot := M_snapshot) (M_text := M_text) hv3) dX11_letter_29 w1181 ⟨w1183, w20⟩ cal_X11_holds rfl ⟨⟨Nat.le_of_ble_eq_true rfl, Nat.le_of_ble_eq_true rfl⟩, Nat.le_of_ble_eq_true rfl, Nat.le_of_ble_eq_true rfl⟩ (Nat.le_of_ble_eq_true rfl) (Or.inl ⟨_, _, _, _, rfl, rfl⟩) rfl ⟨rfl, ⟨by decide, by decide⟩, rfl, (fr_cons (Or.inl (Nat.le_of_ble_eq_true rfl)) (fr_cons (Or.inl (Nat.le_of_ble_eq_true rfl)) (fr_cons (Or.inl (Nat.le_of_ble_eq_true rfl)) (fr_cons (Or.inl (Nat.le_of_ble_eq_true rfl)) (fr_nil))))), rfl⟩ fr_i rfl rfl rfl rfl ?_
      refine V.if_eq (tgt := 44) dX11_letter_32 (by decide) (fun h => ?_) (fun h => ?_)
      · have hf := fif_t h hf
        refine V.iconst (v := 0) dX11_letter_44 rfl ?_
        obtain rfl := Option.some.inj hf
        exact V.iret dX11_letter_45 rfl (Nat.le_of_ble_eq_true rfl) (Nat.le_of_ble_eq_true rfl) rfl
      · have hf := fif_f h hf
        refine V.aload_n (i := 0) dX11_letter_35 rfl rfl ?_
        refine V.iload_n (i := 1) dX11_letter_36 rfl rfl ?_
        refine V.iload_n (i := 2) dX11_letter_37 rfl rfl ?_
        obtain ⟨v4, hv4, hf⟩ := fbind hf
        refine V.callVn (pl := [0, 1, 2, 3, 4]) (σ' := [.inl (6, [.ref 1, .ref 2, .int M_savedMany, .ref 3, .int M_isTaken, .ref 4, .int M_length, .int v3.2, .int M_spelt, .int M_speltMany, .int M_place, .int M_kind, .int M_one, .int M_two, .int M_three, .int M_begins, .int M_done, .int M_stopBy, .long M_hash]), .inr (406, .inl M_s), .inr (2436, .inl M_saved), .inr (406, .inl M_snapshot), .inr (60, .inl M_text)]) (st2 := [.int v4]) (cl2 := 0) (sl2 := 0) (ct_X11_letterNumber (a1 := a1) (a2 := a2) (M_savedMany := M_savedMany) (M_isTaken := M_isTaken) (M_length := M_length) (M_thrown := v3.2) (M_spelt := M_spelt) (M_speltMany := M_speltMany) (M_place := M_place) (M_kind := M_kind) (M_one := M_one) (M_two := M_two) (M_three := M_three) (M_begins := M_begins) (M_done := M_done) (M_stopBy := M_stopBy) (M_hash := M_hash) (M_s := M_s) (M_saved := M_saved) (M_snapshot := M_snapshot) (M_text := M_text) hv4) dX11_letter_38 w1355 ⟨w1357, w46⟩ cal_X11_letterNumber rfl ⟨⟨Nat.le_of_ble_eq_true rfl, Nat.le_of_ble_eq_true rfl⟩, Nat.le_of_ble_eq_true rfl, Nat.le_of_ble_eq_true rfl⟩ (Nat.le_of_ble_eq_true rfl) (Or.inl ⟨_, _, _, _, rfl, rfl⟩) rfl ⟨rfl, ⟨by decide, by decide⟩, rfl, (fr_cons (Or.inl (Nat.le_of_ble_eq_true rfl)) (fr_cons (Or.inl (Nat.le_of_ble_eq_true rfl)) (fr_cons (Or.inl (Nat.le_of_ble_eq_true rfl)) (fr_cons (Or.inl (Nat.le_of_ble_eq_true rfl)) (fr_nil))))), rfl⟩ fr_i rfl rfl rfl rfl ?_
        refine V.goto (tgt := 45) dX11_letter_41 (by decide) ?_
        obtain rfl := Option.some.inj hf
        exact V.iret dX11_letter_45 rfl (Nat.le_of_ble_eq_true rfl) (Nat.le_of_ble_eq_true rfl) rfl
    · have hf := fif_f h hf
      refine V.iconst (v := 0) dX11_letter_24 rfl ?_
      refine V.goto (tgt := 29) dX11_letter_25 (by decide) ?_
      obtain ⟨v5, hv5, hf⟩ := fbind hf
      refine V.callVn (pl := [0, 1, 2, 3, 4]) (σ' := [.inl (6, [.ref 1, .ref 2, .int M_savedMany, .ref 3, .int M_isTaken, .ref 4, .int M_length, .int v5.2, .int M_spelt, .int M_speltMany, .int M_place, .int M_kind, .int M_one, .int M_two, .int M_three, .int M_begins, .int M_done, .int M_stopBy, .long M_hash]), .inr (406, .inl M_s), .inr (2436, .inl M_saved), .inr (406, .inl M_snapshot), .inr (60, .inl M_text)]) (st2 := [.int v5.1]) (cl2 := 0) (sl2 := 0) (ct_X11_holds (a1 := 0) (M_savedMany := M_savedMany) (M_isTaken := M_isTaken) (M_length := M_length) (M_thrown := M_thrown) (M_spelt := M_spelt) (M_speltMany := M_speltMany) (M_place := M_place) (M_kind := M_kind) (M_one := M_one) (M_two := M_two) (M_three := M_three) (M_begins := M_begins) (M_done := M_done) (M_stopBy := M_stopBy) (M_hash := M_hash) (M_s := M_s) (M_saved := M_saved) (M_snapshot := M_snapshot) (M_text := M_text) hv5) dX11_letter_29 w1181 ⟨w1183, w20⟩ cal_X11_holds rfl ⟨⟨Nat.le_of_ble_eq_true rfl, Nat.le_of_ble_eq_true rfl⟩, Nat.le_of_ble_eq_true rfl, Nat.le_of_ble_eq_true rfl⟩ (Nat.le_of_ble_eq_true rfl) (Or.inl ⟨_, _, _, _, rfl, rfl⟩) rfl ⟨rfl, ⟨by decide, by decide⟩, rfl, (fr_cons (Or.inl (Nat.le_of_ble_eq_true rfl)) (fr_cons (Or.inl (Nat.le_of_ble_eq_true rfl)) (fr_cons (Or.inl (Nat.le_of_ble_eq_true rfl)) (fr_cons (Or.inl (Nat.le_of_ble_eq_true rfl)) (fr_nil))))), rfl⟩ fr_i rfl rfl rfl rfl ?_
      refine V.if_eq (tgt := 44) dX11_letter_32 (by decide) (fun h => ?_) (fun h => ?_)
      · have hf := fif_t h hf
        refine V.iconst (v := 0) dX11_letter_44 rfl ?_
        obtain rfl := Option.some.inj hf
        exact V.iret dX11_letter_45 rfl (Nat.le_of_ble_eq_true rfl) (Nat.le_of_ble_eq_true rfl) rfl
      · have hf := fif_f h hf
        refine V.aload_n (i := 0) dX11_letter_35 rfl rfl ?_
        refine V.iload_n (i := 1) dX11_letter_36 rfl rfl ?_
        refine V.iload_n (i := 2) dX11_letter_37 rfl rfl ?_
        obtain ⟨v6, hv6, hf⟩ := fbind hf
        refine V.callVn (pl := [0, 1, 2, 3, 4]) (σ' := [.inl (6, [.ref 1, .ref 2, .int M_savedMany, .ref 3, .int M_isTaken, .ref 4, .int M_length, .int v5.2, .int M_spelt, .int M_speltMany, .int M_place, .int M_kind, .int M_one, .int M_two, .int M_three, .int M_begins, .int M_done, .int M_stopBy, .long M_hash]), .inr (406, .inl M_s), .inr (2436, .inl M_saved), .inr (406, .inl M_snapshot), .inr (60, .inl M_text)]) (st2 := [.int v6]) (cl2 := 0) (sl2 := 0) (ct_X11_letterNumber (a1 := a1) (a2 := a2) (M_savedMany := M_savedMany) (M_isTaken := M_isTaken) (M_length := M_length) (M_thrown := v5.2) (M_spelt := M_spelt) (M_speltMany := M_speltMany) (M_place := M_place) (M_kind := M_kind) (M_one := M_one) (M_two := M_two) (M_three := M_three) (M_begins := M_begins) (M_done := M_done) (M_stopBy := M_stopBy) (M_hash := M_hash) (M_s := M_s) (M_saved := M_saved) (M_snapshot := M_snapshot) (M_text := M_text) hv6) dX11_letter_38 w1355 ⟨w1357, w46⟩ cal_X11_letterNumber rfl ⟨⟨Nat.le_of_ble_eq_true rfl, Nat.le_of_ble_eq_true rfl⟩, Nat.le_of_ble_eq_true rfl, Nat.le_of_ble_eq_true rfl⟩ (Nat.le_of_ble_eq_true rfl) (Or.inl ⟨_, _, _, _, rfl, rfl⟩) rfl ⟨rfl, ⟨by decide, by decide⟩, rfl, (fr_cons (Or.inl (Nat.le_of_ble_eq_true rfl)) (fr_cons (Or.inl (Nat.le_of_ble_eq_true rfl)) (fr_cons (Or.inl (Nat.le_of_ble_eq_true rfl)) (fr_cons (Or.inl (Nat.le_of_ble_eq_true rfl)) (fr_nil))))), rfl⟩ fr_i rfl rfl rfl rfl ?_
        refine V.goto (tgt := 45) dX11_letter_41 (by decide) ?_
        obtain rfl := Option.some.inj hf
        exact V.iret dX11_letter_45 rfl (Nat.le_of_ble_eq_true rfl) (Nat.le_of_ble_eq_true rfl) rfl
  · have hf := fif_t h hf
    refine V.iconst (v := 1) dX11_letter_11 rfl ?_
    refine V.goto (tgt := 29) dX11_letter_12 (by decide) ?_
    obtain ⟨v7, hv7, hf⟩ := fbind hf
    refine V.callVn (pl := [0, 1, 2, 3, 4]) (σ' := [.inl (6, [.ref 1, .ref 2, .int M_savedMany, .ref 3, .int M_isTaken, .ref 4, .int M_length, .int v7.2, .int M_spelt, .int M_speltMany, .int M_place, .int M_kind, .int M_one, .int M_two, .int M_three, .int M_begins, .int M_done, .int M_stopBy, .long M_hash]), .inr (406, .inl M_s), .inr (2436, .inl M_saved), .inr (406, .inl M_snapshot), .inr (60, .inl M_text)]) (st2 := [.int v7.1]) (cl2 := 0) (sl2 := 0) (ct_X11_holds (a1 := 1) (M_savedMany := M_savedMany) (M_isTaken := M_isTaken) (M_length := M_length) (M_thrown := M_thrown) (M_spelt := M_spelt) (M_speltMany := M_speltMany) (M_place := M_place) (M_kind := M_kind) (M_one := M_one) (M_two := M_two) (M_three := M_three) (M_begins := M_begins) (M_done := M_done) (M_stopBy := M_stopBy) (M_hash := M_hash) (M_s := M_s) (M_saved := M_saved) (M_snapshot := M_snapshot) (M_text := M_text) hv7) dX11_letter_29 w1181 ⟨w1183, w20⟩ cal_X11_holds rfl ⟨⟨Nat.le_of_ble_eq_true rfl, Nat.le_of_ble_eq_true rfl⟩, Nat.le_of_ble_eq_true rfl, Nat.le_of_ble_eq_true rfl⟩ (Nat.le_of_ble_eq_true rfl) (Or.inl ⟨_, _, _, _, rfl, rfl⟩) rfl ⟨rfl, ⟨by decide, by decide⟩, rfl, (fr_cons (Or.inl (Nat.le_of_ble_eq_true rfl)) (fr_cons (Or.inl (Nat.le_of_ble_eq_true rfl)) (fr_cons (Or.inl (Nat.le_of_ble_eq_true rfl)) (fr_cons (Or.inl (Nat.le_of_ble_eq_true rfl)) (fr_nil))))), rfl⟩ fr_i rfl rfl rfl rfl ?_
    refine V.if_eq (tgt := 44) dX11_letter_32 (by decide) (fun h => ?_) (fun h => ?_)
    · have hf := fif_t h hf
      refine V.iconst (v := 0) dX11_letter_44 rfl ?_
      obtain rfl := Option.some.inj hf
      exact V.iret dX11_letter_45 rfl (Nat.le_of_ble_eq_true rfl) (Nat.le_of_ble_eq_true rfl) rfl
    · have hf := fif_f h hf
      refine V.aload_n (i := 0) dX11_letter_35 rfl rfl ?_
      refine V.iload_n (i := 1) dX11_letter_36 rfl rfl ?_
      refine V.iload_n (i := 2) dX11_letter_37 rfl rfl ?_
      obtain ⟨v8, hv8, hf⟩ := fbind hf
      refine V.callVn (pl := [0, 1, 2, 3, 4]) (σ' := [.inl (6, [.ref 1, .ref 2, .int M_savedMany, .ref 3, .int M_isTaken, .ref 4, .int M_length, .int v7.2, .int M_spelt, .int M_speltMany, .int M_place, .int M_kind, .int M_one, .int M_two, .int M_three, .int M_begins, .int M_done, .int M_stopBy, .long M_hash]), .inr (406, .inl M_s), .inr (2436, .inl M_saved), .inr (406, .inl M_snapshot), .inr (60, .inl M_text)]) (st2 := [.int v8]) (cl2 := 0) (sl2 := 0) (ct_X11_letterNumber (a1 := a1) (a2 := a2) (M_savedMany := M_savedMany) (M_isTaken := M_isTaken) (M_length := M_length) (M_thrown := v7.2) (M_spelt := M_spelt) (M_speltMany := M_speltMany) (M_place := M_place) (M_kind := M_kind) (M_one := M_one) (M_two := M_two) (M_three := M_three) (M_begins := M_begins) (M_done := M_done) (M_stopBy := M_stopBy) (M_hash := M_hash) (M_s := M_s) (M_saved := M_saved) (M_snapshot := M_snapshot) (M_text := M_text) hv8) dX11_letter_38 w1355 ⟨w1357, w46⟩ cal_X11_letterNumber rfl ⟨⟨Nat.le_of_ble_eq_true rfl, Nat.le_of_ble_eq_true rfl⟩, Nat.le_of_ble_eq_true rfl, Nat.le_of_ble_eq_true rfl⟩ (Nat.le_of_ble_eq_true rfl) (Or.inl ⟨_, _, _, _, rfl, rfl⟩) rfl ⟨rfl, ⟨by decide, by decide⟩, rfl, (fr_cons (Or.inl (Nat.le_of_ble_eq_true rfl)) (fr_cons (Or.inl (Nat.le_of_ble_eq_true rfl)) (fr_cons (Or.inl (Nat.le_of_ble_eq_true rfl)) (fr_cons (Or.inl (Nat.le_of_ble_eq_true rfl)) (fr_nil))))), rfl⟩ fr_i rfl rfl rfl rfl ?_
      refine V.goto (tgt := 45) dX11_letter_41 (by decide) ?_
      obtain rfl := Option.some.inj hf
      exact V.iret dX11_letter_45 rfl (Nat.le_of_ble_eq_true rfl) (Nat.le_of_ble_eq_true rfl) rfl
def k_X11_knotNumber : fK := (yX11_knotNumber, cX11_knotNumber, 4, (some .int), [], (3, 66), (0, 0), (0, 0))
theorem cal_X11_knotNumber : fCal k_X11_knotNumber 3 := ⟨⟨wc1370, w73⟩, ⟨by decide +kernel, by decide +kernel⟩, by decide +kernel, by decide +kernel⟩
def s_X11_knotNumber (a1 : Int32) (a2 : Int32) (a3 : Int32) (M_s : Nat → Int32) : Option (Int32) := if (a3 = 0 : Prop) then ((s_X11_tiedAs a1 a2 M_s).bind fun v3 => some v3) else (if (a3 = 1 : Prop) then ((s_X11_readAs a1 a2 M_s).bind fun v2 => some v2) else (fld 406 M_s ((a1 + 3) + a2) fun v1 => some v1))
set_option maxHeartbeats 4000000 in
set_option maxRecDepth 100000 in
theorem ct_X11_knotNumber {a1 : Int32} {a2 : Int32} {a3 : Int32} {M_savedMany : Int32} {M_isTaken : Int32} {M_length : Int32} {M_thrown : Int32} {M_spelt : Int32} {M_speltMany : Int32} {M_place : Int32} {M_kind : Int32} {M_one : Int32} {M_two : Int32} {M_three : Int32} {M_begins : Int32} {M_done : Int32} {M_stopBy : Int32} {M_hash : Int64} {M_s : Nat → Int32} {M_saved : Nat → Int32} {M_snapshot : Nat → Int32} {M_text : Nat → Int32} {res : Int32} (hf : s_X11_knotNumber a1 a2 a3 M_s = some res) : Ct k_X11_knotNumber [.ref 0, .int a1, .int a2, .int a3] [.inl (6, [.ref 1, .ref 2, .int M_savedMany, .ref 3, .int M_isTaken, .ref 4, .int M_length, .int M_thrown, .int M_spelt, .int M_speltMany, .int M_place, .int M_kind, .int M_one, .int M_two, .int M_three, .int M_begins, .int M_done, .int M_stopBy, .long M_hash]), .inr (406, .inl M_s), .inr (2436, .inl M_saved), .inr (406, .inl M_snapshot), .inr (60, .inl M_text)] (.inl (some (.int res))) [.inl (6, [.ref 1, .ref 2, .int M_savedMany, .ref 3, .int M_isTaken, .ref 4, .int M_length, .int M_thrown, .int M_spelt, .int M_speltMany, .int M_place, .int M_kind, .int M_one, .int M_two, .int M_three, .int M_begins, .int M_done, .int M_stopBy, .long M_hash]), .inr (406, .inl M_s), .inr (2436, .inl M_saved), .inr (406, .inl M_snapshot), .inr (60, .inl M_text)] := by
  unfold s_X11_knotNumber at hf
  refine Ct.of (L := [some (.ref 0), some (.int a1), some (.int a2), some (.int a3)]) cal_X11_knotNumber (fent_pad (j := 0) rfl) (Nat.le_of_ble_eq_true rfl) ?_
  refine V.iload_n (i := 3) dX11_knotNumber_0 rfl rfl ?_
  refine V.if_ne (tgt := 13) dX11_knotNumber_1 (by decide) (fun h => ?_) (fun h => ?_)
  · have hf := fif_f h hf
    refine V.iload_n (i := 3) dX11_knotNumber_13 rfl rfl ?_
    refine V.iconst (v := 1) dX11_knotNumber_14 rfl ?_
    refine V.icmp_ne (tgt := 27) dX11_knotNumber_15 (by decide) (fun h => ?_) (fun h => ?_)
    · have hf := fif_f h hf
      refine V.aload_n (i := 0) dX11_knotNumber_27 rfl rfl ?_
      refine V.getfield (kf := 0) (v := .ref 1) fl_RX11 dX11_knotNumber_28 w1043 (Nat.le_of_ble_eq_true rfl) rfl rfl ?_
      refine V.iload_n (i := 1) dX11_knotNumber_31 rfl rfl ?_
      refine V.iconst (v := 3) dX11_knotNumber_32 rfl ?_
      refine V.iadd dX11_knotNumber_33 ?_
      refine V.iload_n (i := 2) dX11_knotNumber_34 rfl rfl ?_
      refine V.iadd dX11_knotNumber_35 ?_
      obtain ⟨hi, v1, ev1, hf⟩ := fld_e hf
      refine V.fld dX11_knotNumber_36 rfl hi ev1 ?_
      obtain rfl := Option.some.inj hf
      exact V.iret dX11_knotNumber_37 rfl (Nat.le_of_ble_eq_true rfl) (Nat.le_of_ble_eq_true rfl) rfl
    · have hf := fif_t h hf
      refine V.aload_n (i := 0) dX11_knotNumber_18 rfl rfl ?_
      refine V.iload_n (i := 1) dX11_knotNumber_19 rfl rfl ?_
      refine V.iload_n (i := 2) dX11_knotNumber_20 rfl rfl ?_
      obtain ⟨v2, hv2, hf⟩ := fbind hf
      refine V.callVn (pl := [0, 1, 2, 3, 4]) (σ' := [.inl (6, [.ref 1, .ref 2, .int M_savedMany, .ref 3, .int M_isTaken, .ref 4, .int M_length, .int M_thrown, .int M_spelt, .int M_speltMany, .int M_place, .int M_kind, .int M_one, .int M_two, .int M_three, .int M_begins, .int M_done, .int M_stopBy, .long M_hash]), .inr (406, .inl M_s), .inr (2436, .inl M_saved), .inr (406, .inl M_snapshot), .inr (60, .inl M_text)]) (st2 := [.int v2]) (cl2 := 0) (sl2 := 0) (ct_X11_readAs (a1 := a1) (a2 := a2) (M_savedMany := M_savedMany) (M_isTaken := M_isTaken) (M_length := M_length) (M_thrown := M_thrown) (M_spelt := M_spelt) (M_speltMany := M_speltMany) (M_place := M_place) (M_kind := M_kind) (M_one := M_one) (M_two := M_two) (M_three := M_three) (M_begins := M_begins) (M_done := M_done) (M_stopBy := M_stopBy) (M_hash := M_hash) (M_s := M_s) (M_saved := M_saved) (M_snapshot := M_snapshot) (M_text := M_text) hv2) dX11_knotNumber_21 w1170 ⟨w1172, w18⟩ cal_X11_readAs rfl ⟨⟨Nat.le_of_ble_eq_true rfl, Nat.le_of_ble_eq_true rfl⟩, Nat.le_of_ble_eq_true rfl, Nat.le_of_ble_eq_true rfl⟩ (Nat.le_of_ble_eq_true rfl) (Or.inl ⟨_, _, _, _, rfl, rfl⟩) rfl ⟨rfl, ⟨by decide, by decide⟩, rfl, (fr_cons (Or.inl (Nat.le_of_ble_eq_true rfl)) (fr_cons (Or.inl (Nat.le_of_ble_eq_true rfl)) (fr_cons (Or.inl (Nat.le_of_ble_eq_true rfl)) (fr_cons (Or.inl (Nat.le_of_ble_eq_true rfl)) (fr_nil))))), rfl⟩ fr_i rfl rfl rfl rfl ?_
      refine V.goto (tgt := 37) dX11_knotNumber_24 (by decide) ?_
      obtain rfl := Option.some.inj hf
      exact V.iret dX11_knotNumber_37 rfl (Nat.le_of_ble_eq_true rfl) (Nat.le_of_ble_eq_true rfl) rfl
  · have hf := fif_t h hf
    refine V.aload_n (i := 0) dX11_knotNumber_4 rfl rfl ?_
    refine V.iload_n (i := 1) dX11_knotNumber_5 rfl rfl ?_
    refine V.iload_n (i := 2) dX11_knotNumber_6 rfl rfl ?_
    obtain ⟨v3, hv3, hf⟩ := fbind hf
    refine V.callVn (pl := [0, 1, 2, 3, 4]) (σ' := [.inl (6, [.ref 1, .ref 2, .int M_savedMany, .ref 3, .int M_isTaken, .ref 4, .int M_length, .int M_thrown, .int M_spelt, .int M_speltMany, .int M_place, .int M_kind, .int M_one, .int M_two, .int M_three, .int M_begins, .int M_done, .int M_stopBy, .long M_hash]), .inr (406, .inl M_s), .inr (2436, .inl M_saved), .inr (406, .inl M_snapshot), .inr (60, .inl M_text)]) (st2 := [.int v3]) (cl2 := 0) (sl2 := 0) (ct_X11_tiedAs (a1 := a1) (a2 := a2) (M_savedMany := M_savedMany) (M_isTaken := M_isTaken) (M_length := M_length) (M_thrown := M_thrown) (M_spelt := M_spelt) (M_speltMany := M_speltMany) (M_place := M_place) (M_kind := M_kind) (M_one := M_one) (M_two := M_two) (M_three := M_three) (M_begins := M_begins) (M_done := M_done) (M_stopBy := M_stopBy) (M_hash := M_hash) (M_s := M_s) (M_saved := M_saved) (M_snapshot := M_snapshot) (M_text := M_text) hv3) dX11_knotNumber_7 w1174 ⟨w1176, w19⟩ cal_X11_tiedAs rfl ⟨⟨Nat.le_of_ble_eq_true rfl, Nat.le_of_ble_eq_true rfl⟩, Nat.le_of_ble_eq_true rfl, Nat.le_of_ble_eq_true rfl⟩ (Nat.le_of_ble_eq_true rfl) (Or.inl ⟨_, _, _, _, rfl, rfl⟩) rfl ⟨rfl, ⟨by decide, by decide⟩, rfl, (fr_cons (Or.inl (Nat.le_of_ble_eq_true rfl)) (fr_cons (Or.inl (Nat.le_of_ble_eq_true rfl)) (fr_cons (Or.inl (Nat.le_of_ble_eq_true rfl)) (fr_cons (Or.inl (Nat.le_of_ble_eq_true rfl)) (fr_nil))))), rfl⟩ fr_i rfl rfl rfl rfl ?_
    refine V.goto (tgt := 37) dX11_knotNumber_10 (by decide) ?_
    obtain rfl := Option.some.inj hf
    exact V.iret dX11_knotNumber_37 rfl (Nat.le_of_ble_eq_true rfl) (Nat.le_of_ble_eq_true rfl) rfl
def k_X11_knot : fK := (yX11_knot, cX11_knot, 6, (some .int), [], (4, 89), (0, 0), (0, 0))
theorem cal_X11_knot : fCal k_X11_knot 4 := ⟨⟨wc1366, w73⟩, ⟨by decide +kernel, by decide +kernel⟩, by decide +kernel, by decide +kernel⟩
def s_X11_knot (a1 : Int32) (a2 : Int32) (a3 : Int32) (a4 : Int32) (M_thrown : Int32) (M_s : Nat → Int32) : Option (Int32 × (Int32)) := (s_X11_isName a1 a2 M_s).bind fun v1 => if (v1 = 0 : Prop) then ((s_X11_holds 1 M_thrown).bind fun v16 => if (v16.1 = 0 : Prop) then (some (0, v16.2)) else ((s_X11_whereIs a1 a2).bind fun v17 => (s_X11_knots v17 M_s).bind fun v18 => if (v18 ≤ a3 : Prop) then (some ((-1), v16.2)) else ((s_X11_knotNumber v17 a3 a4 M_s).bind fun v19 => some (v19, v16.2)))) else ((s_X11_in a3 0 7).bind fun v2 => if (v2 = 0 : Prop) then ((s_X11_holds 2 M_thrown).bind fun v3 => if (v3.1 = 0 : Prop) then (some (0, v3.2)) else ((s_X11_whereIs a1 a2).bind fun v4 => (s_X11_knots v4 M_s).bind fun v5 => if (v5 ≤ a3 : Prop) then (some ((-1), v3.2)) else ((s_X11_knotNumber v4 a3 a4 M_s).bind fun v6 => some (v6, v3.2)))) else ((s_X11_in a4 0 2).bind fun v7 => if (v7 = 0 : Prop) then ((s_X11_holds 2 M_thrown).bind fun v8 => if (v8.1 = 0 : Prop) then (some (0, v8.2)) else ((s_X11_whereIs a1 a2).bind fun v9 => (s_X11_knots v9 M_s).bind fun v10 => if (v10 ≤ a3 : Prop) then (some ((-1), v8.2)) else ((s_X11_knotNumber v9 a3 a4 M_s).bind fun v11 => some (v11, v8.2)))) else ((s_X11_holds 0 M_thrown).bind fun v12 => if (v12.1 = 0 : Prop) then (some (0, v12.2)) else ((s_X11_whereIs a1 a2).bind fun v13 => (s_X11_knots v13 M_s).bind fun v14 => if (v14 ≤ a3 : Prop) then (some ((-1), v12.2)) else ((s_X11_knotNumber v13 a3 a4 M_s).bind fun v15 => some (v15, v12.2))))))
set_option maxHeartbeats 4000000 in
set_option maxRecDepth 100000 in
theorem ct_X11_knot {a1 : Int32} {a2 : Int32} {a3 : Int32} {a4 : Int32} {M_savedMany : Int32} {M_isTaken : Int32} {M_length : Int32} {M_thrown : Int32} {M_spelt : Int32} {M_speltMany : Int32} {M_place : Int32} {M_kind : Int32} {M_one : Int32} {M_two : Int32} {M_three : Int32} {M_begins : Int32} {M_done : Int32} {M_stopBy : Int32} {M_hash : Int64} {M_s : Nat → Int32} {M_saved : Nat → Int32} {M_snapshot : Nat → Int32} {M_text : Nat → Int32} {res : Int32 × (Int32)} (hf : s_X11_knot a1 a2 a3 a4 M_thrown M_s = some res) : Ct k_X11_knot [.ref 0, .int a1, .int a2, .int a3, .int a4] [.inl (6, [.ref 1, .ref 2, .int M_savedMany, .ref 3, .int M_isTaken, .ref 4, .int M_length, .int M_thrown, .int M_spelt, .int M_speltMany, .int M_place, .int M_kind, .int M_one, .int M_two, .int M_three, .int M_begins, .int M_done, .int M_stopBy, .long M_hash]), .inr (406, .inl M_s), .inr (2436, .inl M_saved), .inr (406, .inl M_snapshot), .inr (60, .inl M_text)] (.inl (some (.int res.1))) [.inl (6, [.ref 1, .ref 2, .int M_savedMany, .ref 3, .int M_isTaken, .ref 4, .int M_length, .int res.2, .int M_spelt, .int M_speltMany, .int M_place, .int M_kind, .int M_one, .int M_two, .int M_three, .int M_begins, .int M_done, .int M_stopBy, .long M_hash]), .inr (406, .inl M_s), .inr (2436, .inl M_saved), .inr (406, .inl M_snapshot), .inr (60, .inl M_text)] := by
  unfold s_X11_knot at hf
  refine Ct.of (L := [some (.ref 0), some (.int a1), some (.int a2), some (.int a3), some (.int a4), none]) cal_X11_knot (fent_pad (j := 1) rfl) (Nat.le_of_ble_eq_true rfl) ?_
  refine V.aload_n (i := 0) dX11_knot_0 rfl rfl ?_
  refine V.aload_n (i := 0) dX11_knot_1 rfl rfl ?_
  refine V.iload_n (i := 1) dX11_knot_2 rfl rfl ?_
  refine V.iload_n (i := 2) dX11_knot_3 rfl rfl ?_
  obtain ⟨v1, hv1, hf⟩ := fbind hf
  refine V.callVn (pl := [0, 1, 2, 3, 4]) (σ' := [.inl (6, [.ref 1, .ref 2, .int M_savedMany, .ref 3, .int M_isTaken, .ref 4, .int M_length, .int M_thrown, .int M_spelt, .int M_speltMany, .int M_place, .int M_kind, .int M_one, .int M_two, .int M_three, .int M_begins, .int M_done, .int M_stopBy, .long M_hash]), .inr (406, .inl M_s), .inr (2436, .inl M_saved), .inr (406, .inl M_snapshot), .inr (60, .inl M_text)]) (st2 := [.int v1, .ref 0]) (cl2 := 0) (sl2 := 0) (ct_X11_isName (a1 := a1) (a2 := a2) (M_savedMany := M_savedMany) (M_isTaken := M_isTaken) (M_length := M_length) (M_thrown := M_thrown) (M_spelt := M_spelt) (M_speltMany := M_speltMany) (M_place := M_place) (M_kind := M_kind) (M_one := M_one) (M_two := M_two) (M_three := M_three) (M_begins := M_begins) (M_done := M_done) (M_stopBy := M_stopBy) (M_hash := M_hash) (M_s := M_s) (M_saved := M_saved) (M_snapshot := M_snapshot) (M_text := M_text) hv1) dX11_knot_4 w1204 ⟨w1206, w24⟩ cal_X11_isName rfl ⟨⟨Nat.le_of_ble_eq_true rfl, Nat.le_of_ble_eq_true rfl⟩, Nat.le_of_ble_eq_true rfl, Nat.le_of_ble_eq_true rfl⟩ (Nat.le_of_ble_eq_true rfl) (Or.inl ⟨_, _, _, _, rfl, rfl⟩) rfl ⟨rfl, ⟨by decide, by decide⟩, rfl, (fr_cons (Or.inl (Nat.le_of_ble_eq_true rfl)) (fr_cons (Or.inl (Nat.le_of_ble_eq_true rfl)) (fr_cons (Or.inl (Nat.le_of_ble_eq_true rfl)) (fr_cons (Or.inl (Nat.le_of_ble_eq_true rfl)) (fr_nil))))), rfl⟩ fr_i rfl rfl rfl rfl ?_
  refine V.if_ne (tgt := 14) dX11_knot_7 (by decide) (fun h => ?_) (fun h => ?_)
  · have hf := fif_f h hf
    refine V.iload_n (i := 3) dX11_knot_14 rfl rfl ?_
    refine V.iconst (v := 0) dX11_knot_15 rfl ?_
    refine V.bipush (v := 7) dX11_knot_16 rfl ?_
    obtain ⟨v2, hv2, hf⟩ := fbind hf
    refine V.callSn (pl := []) (σ' := [.inl (6, [.ref 1, .ref 2, .int M_savedMany, .ref 3, .int M_isTaken, .ref 4, .int M_length, .int M_thrown, .int M_spelt, .int M_speltMany, .int M_place, .int M_kind, .int M_one, .int M_two, .int M_three, .int M_begins, .int M_done, .int M_stopBy, .long M_hash]), .inr (406, .inl M_s), .inr (2436, .inl M_saved), .inr (406, .inl M_snapshot), .inr (60, .inl M_text)]) (st2 := [.int v2, .ref 0]) (cl2 := 0) (sl2 := 0) (ct_X11_in (a0 := a3) (a1 := 0) (a2 := 7) hv2) dX11_knot_18 w1113 w1114 cal_X11_in ⟨⟨Nat.le_of_ble_eq_true rfl, Nat.le_of_ble_eq_true rfl⟩, Nat.le_of_ble_eq_true rfl, Nat.le_of_ble_eq_true rfl⟩ (Nat.le_of_ble_eq_true rfl) rfl ⟨rfl, ⟨by decide, by decide⟩, rfl, (fr_nil), rfl⟩ fr_i rfl rfl rfl rfl ?_
    refine V.if_eq (tgt := 38) dX11_knot_21 (by decide) (fun h => ?_) (fun h => ?_)
    · have hf := fif_t h hf
      refine V.iconst (v := 2) dX11_knot_38 rfl ?_
      obtain ⟨v3, hv3, hf⟩ := fbind hf
      refine V.callVn (pl := [0, 1, 2, 3, 4]) (σ' := [.inl (6, [.ref 1, .ref 2, .int M_savedMany, .ref 3, .int M_isTaken, .ref 4, .int M_length, .int v3.2, .int M_spelt, .int M_speltMany, .int M_place, .int M_kind, .int M_one, .int M_two, .int M_three, .int M_begins, .int M_done, .int M_stopBy, .long M_hash]), .inr (406, .inl M_s), .inr (2436, .inl M_saved), .inr (406, .inl M_snapshot), .inr (60, .inl M_text)]) (st2 := [.int v3.1]) (cl2 := 0) (sl2 := 0) (ct_X11_holds (a1 := 2) (M_savedMany := M_savedMany) (M_isTaken := M_isTaken) (M_length := M_length) (M_thrown := M_thrown) (M_spelt := M_spelt) (M_speltMany := M_speltMany) (M_place := M_place) (M_kind := M_kind) (M_one := M_one) (M_two := M_two) (M_three := M_three) (M_begins := M_begins) (M_done := M_done) (M_stopBy := M_stopBy) (M_hash := M_hash) (M_s := M_s) (M_saved := M_saved) (M_snapshot := M_snapshot) (M_text := M_text) hv3) dX11_knot_39 w1181 ⟨w1183, w20⟩ cal_X11_holds rfl ⟨⟨Nat.le_of_ble_eq_true rfl, Nat.le_of_ble_eq_true rfl⟩, Nat.le_of_ble_eq_true rfl, Nat.le_of_ble_eq_true rfl⟩ (Nat.le_of_ble_eq_true rfl) (Or.inl ⟨_, _, _, _, rfl, rfl⟩) rfl ⟨rfl, ⟨by decide, by decide⟩, rfl, (fr_cons (Or.inl (Nat.le_of_ble_eq_true rfl)) (fr_cons (Or.inl (Nat.le_of_ble_eq_true rfl)) (fr_cons (Or.inl (Nat.le_of_ble_eq_true rfl)) (fr_cons (Or.inl (Nat.le_of_ble_eq_true rfl)) (fr_nil))))), rfl⟩ fr_i rfl rfl rfl rfl ?_
      refine V.if_ne (tgt := 47) dX11_knot_42 (by decide) (fun h => ?_) (fun h => ?_)
      · have hf := fif_f h hf
        refine V.iload_n (i := 1) dX11_knot_47 rfl rfl ?_
        refine V.iload_n (i := 2) dX11_knot_48 rfl rfl ?_
        obtain ⟨v4, hv4, hf⟩ := fbind hf
        refine V.callSn (pl := []) (σ' := [.inl (6, [.ref 1, .ref 2, .int M_savedMany, .ref 3, .int M_isTaken, .ref 4, .int M_length, .int v3.2, .int M_spelt, .int M_speltMany, .int M_place, .int M_kind, .int M_one, .int M_two, .int M_three, .int M_begins, .int M_done, .int M_stopBy, .long M_hash]), .inr (406, .inl M_s), .inr (2436, .inl M_saved), .inr (406, .inl M_snapshot), .inr (60, .inl M_text)]) (st2 := [.int v4]) (cl2 := 0) (sl2 := 0) (ct_X11_whereIs (a0 := a1) (a1 := a2) hv4) dX11_knot_49 w1147 w1148 cal_X11_whereIs ⟨⟨Nat.le_of_ble_eq_true rfl, Nat.le_of_ble_eq_true rfl⟩, Nat.le_of_ble_eq_true rfl, Nat.le_of_ble_eq_true rfl⟩ (Nat.le_of_ble_eq_true rfl) rfl ⟨rfl, ⟨by decide, by decide⟩, rfl, (fr_nil), rfl⟩ fr_i rfl rfl rfl rfl ?_
        refine V.istore (i := 5) (L' := [some (.ref 0), some (.int a1), some (.int a2), some (.int a3), some (.int a4), some (.int v4)]) dX11_knot_52 (Nat.le_of_ble_eq_true rfl) rfl rfl ?_
        refine V.iload_n (i := 3) dX11_knot_54 rfl rfl ?_
        refine V.aload_n (i := 0) dX11_knot_55 rfl rfl ?_
        refine V.iload (i := 5) dX11_knot_56 rfl ?_
        obtain ⟨v5, hv5, hf⟩ := fbind hf
        refine V.callVn (pl := [0, 1, 2, 3, 4]) (σ' := [.inl (6, [.ref 1, .ref 2, .int M_savedMany, .ref 3, .int M_isTaken, .ref 4, .int M_length, .int v3.2, .int M_spelt, .int M_speltMany, .int M_place, .int M_kind, .int M_one, .int M_two, .int M_three, .int M_begins, .int M_done, .int M_stopBy, .long M_hash]), .inr (406, .inl M_s), .inr (2436, .inl M_saved), .inr (406, .inl M_snapshot), .inr (60, .inl M_text)]) (st2 := [.int v5, .int a3]) (cl2 := 0) (sl2 := 0) (ct_X11_knots (a1 := v4) (M_savedMany := M_savedMany) (M_isTaken := M_isTaken) (M_length := M_length) (M_thrown := v3.2) (M_spelt := M_spelt) (M_speltMany := M_speltMany) (M_place := M_place) (M_kind := M_kind) (M_one := M_one) (M_two := M_two) (M_three := M_three) (M_begins := M_begins) (M_done := M_done) (M_stopBy := M_stopBy) (M_hash := M_hash) (M_s := M_s) (M_saved := M_saved) (M_snapshot := M_snapshot) (M_text := M_text) hv5) dX11_knot_58 w1154 ⟨w1156, w14⟩ cal_X11_knots rfl ⟨⟨Nat.le_of_ble_eq_true rfl, Nat.le_of_ble_eq_true rfl⟩, Nat.le_of_ble_eq_true rfl, Nat.le_of_ble_eq_true rfl⟩ (Nat.le_of_ble_eq_true rfl) (Or.inl ⟨_, _, _, _, rfl, rfl⟩) rfl ⟨rfl, ⟨by decide, by decide⟩, rfl, (fr_cons (Or.inl (Nat.le_of_ble_eq_true rfl)) (fr_cons (Or.inl (Nat.le_of_ble_eq_true rfl)) (fr_cons (Or.inl (Nat.le_of_ble_eq_true rfl)) (fr_cons (Or.inl (Nat.le_of_ble_eq_true rfl)) (fr_nil))))), rfl⟩ fr_i rfl rfl rfl rfl ?_
        refine V.icmp_ge (tgt := 76) dX11_knot_61 (by decide) (fun h => ?_) (fun h => ?_)
        · have hf := fif_t h hf
          refine V.iconst (v := (-1)) dX11_knot_76 rfl ?_
          obtain rfl := Option.some.inj hf
          exact V.iret dX11_knot_77 rfl (Nat.le_of_ble_eq_true rfl) (Nat.le_of_ble_eq_true rfl) rfl
        · have hf := fif_f h hf
          refine V.aload_n (i := 0) dX11_knot_64 rfl rfl ?_
          refine V.iload (i := 5) dX11_knot_65 rfl ?_
          refine V.iload_n (i := 3) dX11_knot_67 rfl rfl ?_
          refine V.iload (i := 4) dX11_knot_68 rfl ?_
          obtain ⟨v6, hv6, hf⟩ := fbind hf
          refine V.callVn (pl := [0, 1, 2, 3, 4]) (σ' := [.inl (6, [.ref 1, .ref 2, .int M_savedMany, .ref 3, .int M_isTaken, .ref 4, .int M_length, .int v3.2, .int M_spelt, .int M_speltMany, .int M_place, .int M_kind, .int M_one, .int M_two, .int M_three, .int M_begins, .int M_done, .int M_stopBy, .long M_hash]), .inr (406, .inl M_s), .inr (2436, .inl M_saved), .inr (406, .inl M_snapshot), .inr (60, .inl M_text)]) (st2 := [.int v6]) (cl2 := 0) (sl2 := 0) (ct_X11_knotNumber (a1 := v4) (a2 := a3) (a3 := a4) (M_savedMany := M_savedMany) (M_isTaken := M_isTaken) (M_length := M_length) (M_thrown := v3.2) (M_spelt := M_spelt) (M_speltMany := M_speltMany) (M_place := M_place) (M_kind := M_kind) (M_one := M_one) (M_two := M_two) (M_three := M_three) (M_begins := M_begins) (M_done := M_done) (M_stopBy := M_stopBy) (M_hash := M_hash) (M_s := M_s) (M_saved := M_saved) (M_snapshot := M_snapshot) (M_text := M_text) hv6) dX11_knot_70 w1367 ⟨w1369, w48⟩ cal_X11_knotNumber rfl ⟨⟨Nat.le_of_ble_eq_true rfl, Nat.le_of_ble_eq_true rfl⟩, Nat.le_of_ble_eq_true rfl, Nat.le_of_ble_eq_true rfl⟩ (Nat.le_of_ble_eq_true rfl) (Or.inl ⟨_, _, _, _, rfl, rfl⟩) rfl ⟨rfl, ⟨by decide, by decide⟩, rfl, (fr_cons (Or.inl (Nat.le_of_ble_eq_true rfl)) (fr_cons (Or.inl (Nat.le_of_ble_eq_true rfl)) (fr_cons (Or.inl (Nat.le_of_ble_eq_true rfl)) (fr_cons (Or.inl (Nat.le_of_ble_eq_true rfl)) (fr_nil))))), rfl⟩ fr_i rfl rfl rfl rfl ?_
          refine V.goto (tgt := 77) dX11_knot_73 (by decide) ?_
          obtain rfl := Option.some.inj hf
          exact V.iret dX11_knot_77 rfl (Nat.le_of_ble_eq_true rfl) (Nat.le_of_ble_eq_true rfl) rfl
      · have hf := fif_t h hf
        refine V.iconst (v := 0) dX11_knot_45 rfl ?_
        obtain rfl := Option.some.inj hf
        exact V.iret dX11_knot_46 rfl (Nat.le_of_ble_eq_true rfl) (Nat.le_of_ble_eq_true rfl) rfl
    · have hf := fif_f h hf
      refine V.iload (i := 4) dX11_knot_24 rfl ?_
      refine V.iconst (v := 0) dX11_knot_26 rfl ?_
      refine V.iconst (v := 2) dX11_knot_27 rfl ?_
      obtain ⟨v7, hv7, hf⟩ := fbind hf
      refine V.callSn (pl := []) (σ' := [.inl (6, [.ref 1, .ref 2, .int M_savedMany, .ref 3, .int M_isTaken, .ref 4, .int M_length, .int M_thrown, .int M_spelt, .int M_speltMany, .int M_place, .int M_kind, .int M_one, .int M_two, .int M_three, .int M_begins, .int M_done, .int M_stopBy, .long M_hash]), .inr (406, .inl M_s), .inr (2436, .inl M_saved), .inr (406, .inl M_snapshot), .inr (60, .inl M_text)]) (st2 := [.int v7, .ref 0]) (cl2 := 0) (sl2 := 0) (ct_X11_in (a0 := a4) (a1 := 0) (a2 := 2) hv7) dX11_knot_28 w1113 w1114 cal_X11_in ⟨⟨Nat.le_of_ble_eq_true rfl, Nat.le_of_ble_eq_true rfl⟩, Nat.le_of_ble_eq_true rfl, Nat.le_of_ble_eq_true rfl⟩ (Nat.le_of_ble_eq_true rfl) rfl ⟨rfl, ⟨by decide, by decide⟩, rfl, (fr_nil), rfl⟩ fr_i rfl rfl rfl rfl ?_
      refine V.if_eq (tgt := 38) dX11_knot_31 (by decide) (fun h => ?_) (fun h => ?_)
      · have hf := fif_t h hf
        refine V.iconst (v := 2) dX11_knot_38 rfl ?_
        obtain ⟨v8, hv8, hf⟩ := fbind hf
        refine V.callVn (pl := [0, 1, 2, 3, 4]) (σ' := [.inl (6, [.ref 1, .ref 2, .int M_savedMany, .ref 3, .int M_isTaken, .ref 4, .int M_length, .int v8.2, .int M_spelt, .int M_speltMany, .int M_place, .int M_kind, .int M_one, .int M_two, .int M_three, .int M_begins, .int M_done, .int M_stopBy, .long M_hash]), .inr (406, .inl M_s), .inr (2436, .inl M_saved), .inr (406, .inl M_snapshot), .inr (60, .inl M_text)]) (st2 := [.int v8.1]) (cl2 := 0) (sl2 := 0) (ct_X11_holds (a1 := 2) (M_savedMany := M_savedMany) (M_isTaken := M_isTaken) (M_length := M_length) (M_thrown := M_thrown) (M_spelt := M_spelt) (M_speltMany := M_speltMany) (M_place := M_place) (M_kind := M_kind) (M_one := M_one) (M_two := M_two) (M_three := M_three) (M_begins := M_begins) (M_done := M_done) (M_stopBy := M_stopBy) (M_hash := M_hash) (M_s := M_s) (M_saved := M_saved) (M_snapshot := M_snapshot) (M_text := M_text) hv8) dX11_knot_39 w1181 ⟨w1183, w20⟩ cal_X11_holds rfl ⟨⟨Nat.le_of_ble_eq_true rfl, Nat.le_of_ble_eq_true rfl⟩, Nat.le_of_ble_eq_true rfl, Nat.le_of_ble_eq_true rfl⟩ (Nat.le_of_ble_eq_true rfl) (Or.inl ⟨_, _, _, _, rfl, rfl⟩) rfl ⟨rfl, ⟨by decide, by decide⟩, rfl, (fr_cons (Or.inl (Nat.le_of_ble_eq_true rfl)) (fr_cons (Or.inl (Nat.le_of_ble_eq_true rfl)) (fr_cons (Or.inl (Nat.le_of_ble_eq_true rfl)) (fr_cons (Or.inl (Nat.le_of_ble_eq_true rfl)) (fr_nil))))), rfl⟩ fr_i rfl rfl rfl rfl ?_
        refine V.if_ne (tgt := 47) dX11_knot_42 (by decide) (fun h => ?_) (fun h => ?_)
        · have hf := fif_f h hf
          refine V.iload_n (i := 1) dX11_knot_47 rfl rfl ?_
          refine V.iload_n (i := 2) dX11_knot_48 rfl rfl ?_
          obtain ⟨v9, hv9, hf⟩ := fbind hf
          refine V.callSn (pl := []) (σ' := [.inl (6, [.ref 1, .ref 2, .int M_savedMany, .ref 3, .int M_isTaken, .ref 4, .int M_length, .int v8.2, .int M_spelt, .int M_speltMany, .int M_place, .int M_kind, .int M_one, .int M_two, .int M_three, .int M_begins, .int M_done, .int M_stopBy, .long M_hash]), .inr (406, .inl M_s), .inr (2436, .inl M_saved), .inr (406, .inl M_snapshot), .inr (60, .inl M_text)]) (st2 := [.int v9]) (cl2 := 0) (sl2 := 0) (ct_X11_whereIs (a0 := a1) (a1 := a2) hv9) dX11_knot_49 w1147 w1148 cal_X11_whereIs ⟨⟨Nat.le_of_ble_eq_true rfl, Nat.le_of_ble_eq_true rfl⟩, Nat.le_of_ble_eq_true rfl, Nat.le_of_ble_eq_true rfl⟩ (Nat.le_of_ble_eq_true rfl) rfl ⟨rfl, ⟨by decide, by decide⟩, rfl, (fr_nil), rfl⟩ fr_i rfl rfl rfl rfl ?_
          refine V.istore (i := 5) (L' := [some (.ref 0), some (.int a1), some (.int a2), some (.int a3), some (.int a4), some (.int v9)]) dX11_knot_52 (Nat.le_of_ble_eq_true rfl) rfl rfl ?_
          refine V.iload_n (i := 3) dX11_knot_54 rfl rfl ?_
          refine V.aload_n (i := 0) dX11_knot_55 rfl rfl ?_
          refine V.iload (i := 5) dX11_knot_56 rfl ?_
          obtain ⟨v10, hv10, hf⟩ := fbind hf
          refine V.callVn (pl := [0, 1, 2, 3, 4]) (σ' := [.inl (6, [.ref 1, .ref 2, .int M_savedMany, .ref 3, .int M_isTaken, .ref 4, .int M_length, .int v8.2, .int M_spelt, .int M_speltMany, .int M_place, .int M_kind, .int M_one, .int M_two, .int M_three, .int M_begins, .int M_done, .int M_stopBy, .long M_hash]), .inr (406, .inl M_s), .inr (2436, .inl M_saved), .inr (406, .inl M_snapshot), .inr (60, .inl M_text)]) (st2 := [.int v10, .int a3]) (cl2 := 0) (sl2 := 0) (ct_X11_knots (a1 := v9) (M_savedMany := M_savedMany) (M_isTaken := M_isTaken) (M_length := M_length) (M_thrown := v8.2) (M_spelt := M_spelt) (M_speltMany := M_speltMany) (M_place := M_place) (M_kind := M_kind) (M_one := M_one) (M_two := M_two) (M_three := M_three) (M_begins := M_begins) (M_done := M_done) (M_stopBy := M_stopBy) (M_hash := M_hash) (M_s := M_s) (M_saved := M_saved) (M_snapshot := M_snapshot) (M_text := M_text) hv10) dX11_knot_58 w1154 ⟨w1156, w14⟩ cal_X11_knots rfl ⟨⟨Nat.le_of_ble_eq_true rfl, Nat.le_of_ble_eq_true rfl⟩, Nat.le_of_ble_eq_true rfl, Nat.le_of_ble_eq_true rfl⟩ (Nat.le_of_ble_eq_true rfl) (Or.inl ⟨_, _, _, _, rfl, rfl⟩) rfl ⟨rfl, ⟨by decide, by decide⟩, rfl, (fr_cons (Or.inl (Nat.le_of_ble_eq_true rfl)) (fr_cons (Or.inl (Nat.le_of_ble_eq_true rfl)) (fr_cons (Or.inl (Nat.le_of_ble_eq_true rfl)) (fr_cons (Or.inl (Nat.le_of_ble_eq_true rfl)) (fr_nil))))), rfl⟩ fr_i rfl rfl rfl rfl ?_
          refine V.icmp_ge (tgt := 76) dX11_knot_61 (by decide) (fun h => ?_) (fun h => ?_)
          · have hf := fif_t h hf
            refine V.iconst (v := (-1)) dX11_knot_76 rfl ?_
            obtain rfl := Option.some.inj hf
            exact V.iret dX11_knot_77 rfl (Nat.le_of_ble_eq_true rfl) (Nat.le_of_ble_eq_true rfl) rfl
          · have hf := fif_f h hf
            refine V.aload_n (i := 0) dX11_knot_64 rfl rfl ?_
            refine V.iload (i := 5) dX11_knot_65 rfl ?_
            refine V.iload_n (i := 3) dX11_knot_67 rfl rfl ?_
            refine V.iload (i := 4) dX11_knot_68 rfl ?_
            obtain ⟨v11, hv11, hf⟩ := fbind hf
            refine V.callVn (pl := [0, 1, 2, 3, 4]) (σ' := [.inl (6, [.ref 1, .ref 2, .int M_savedMany, .ref 3, .int M_isTaken, .ref 4, .int M_length, .int v8.2, .int M_spelt, .int M_speltMany, .int M_place, .int M_kind, .int M_one, .int M_two, .int M_three, .int M_begins, .int M_done, .int M_stopBy, .long M_hash]), .inr (406, .inl M_s), .inr (2436, .inl M_saved), .inr (406, .inl M_snapshot), .inr (60, .inl M_text)]) (st2 := [.int v11]) (cl2 := 0) (sl2 := 0) (ct_X11_knotNumber (a1 := v9) (a2 := a3) (a3 := a4) (M_savedMany := M_savedMany) (M_isTaken := M_isTaken) (M_length := M_length) (M_thrown := v8.2) (M_spelt := M_spelt) (M_speltMany := M_speltMany) (M_place := M_place) (M_kind := M_kind) (M_one := M_one) (M_two := M_two) (M_three := M_three) (M_begins := M_begins) (M_done := M_done) (M_stopBy := M_stopBy) (M_hash := M_hash) (M_s := M_s) (M_saved := M_saved) (M_snapshot := M_snapshot) (M_text := M_text) hv11) dX11_knot_70 w1367 ⟨w1369, w48⟩ cal_X11_knotNumber rfl ⟨⟨Nat.le_of_ble_eq_true rfl, Nat.le_of_ble_eq_true rfl⟩, Nat.le_of_ble_eq_true rfl, Nat.le_of_ble_eq_true rfl⟩ (Nat.le_of_ble_eq_true rfl) (Or.inl ⟨_, _, _, _, rfl, rfl⟩) rfl ⟨rfl, ⟨by decide, by decide⟩, rfl, (fr_cons (Or.inl (Nat.le_of_ble_eq_true rfl)) (fr_cons (Or.inl (Nat.le_of_ble_eq_true rfl)) (fr_cons (Or.inl (Nat.le_of_ble_eq_true rfl)) (fr_cons (Or.inl (Nat.le_of_ble_eq_true rfl)) (fr_nil))))), rfl⟩ fr_i rfl rfl rfl rfl ?_
            refine V.goto (tgt := 77) dX11_knot_73 (by decide) ?_
            obtain rfl := Option.some.inj hf
            exact V.iret dX11_knot_77 rfl (Nat.le_of_ble_eq_true rfl) (Nat.le_of_ble_eq_true rfl) rfl
        · have hf := fif_t h hf
          refine V.iconst (v := 0) dX11_knot_45 rfl ?_
          obtain rfl := Option.some.inj hf
          exact V.iret dX11_knot_46 rfl (Nat.le_of_ble_eq_true rfl) (Nat.le_of_ble_eq_true rfl) rfl
      · have hf := fif_f h hf
        refine V.iconst (v := 0) dX11_knot_34 rfl ?_
        refine V.goto (tgt := 39) dX11_knot_35 (by decide) ?_
        obtain ⟨v12, hv12, hf⟩ := fbind hf
        refine V.callVn (pl := [0, 1, 2, 3, 4]) (σ' := [.inl (6, [.ref 1, .ref 2, .int M_savedMany, .ref 3, .int M_isTaken, .ref 4, .int M_length, .int v12.2, .int M_spelt, .int M_speltMany, .int M_place, .int M_kind, .int M_one, .int M_two, .int M_three, .int M_begins, .int M_done, .int M_stopBy, .long M_hash]), .inr (406, .inl M_s), .inr (2436, .inl M_saved), .inr (406, .inl M_snapshot), .inr (60, .inl M_text)]) (st2 := [.int v12.1]) (cl2 := 0) (sl2 := 0) (ct_X11_holds (a1 := 0) (M_savedMany := M_savedMany) (M_isTaken := M_isTaken) (M_length := M_length) (M_thrown := M_thrown) (M_spelt := M_spelt) (M_speltMany := M_speltMany) (M_place := M_place) (M_kind := M_kind) (M_one := M_one) (M_two := M_two) (M_three := M_three) (M_begins := M_begins) (M_done := M_done) (M_stopBy := M_stopBy) (M_hash := M_hash) (M_s := M_s) (M_saved := M_saved) (M_snapshot := M_snapshot) (M_text := M_text) hv12) dX11_knot_39 w1181 ⟨w1183, w20⟩ cal_X11_holds rfl ⟨⟨Nat.le_of_ble_eq_true rfl, Nat.le_of_ble_eq_true rfl⟩, Nat.le_of_ble_eq_true rfl, Nat.le_of_ble_eq_true rfl⟩ (Nat.le_of_ble_eq_true rfl) (Or.inl ⟨_, _, _, _, rfl, rfl⟩) rfl ⟨rfl, ⟨by decide, by decide⟩, rfl, (fr_cons (Or.inl (Nat.le_of_ble_eq_true rfl)) (fr_cons (Or.inl (Nat.le_of_ble_eq_true rfl)) (fr_cons (Or.inl (Nat.le_of_ble_eq_true rfl)) (fr_cons (Or.inl (Nat.le_of_ble_eq_true rfl)) (fr_nil))))), rfl⟩ fr_i rfl rfl rfl rfl ?_
        refine V.if_ne (tgt := 47) dX11_knot_42 (by decide) (fun h => ?_) (fun h => ?_)
        · have hf := fif_f h hf
          refine V.iload_n (i := 1) dX11_knot_47 rfl rfl ?_
          refine V.iload_n (i := 2) dX11_knot_48 rfl rfl ?_
          obtain ⟨v13, hv13, hf⟩ := fbind hf
          refine V.callSn (pl := []) (σ' := [.inl (6, [.ref 1, .ref 2, .int M_savedMany, .ref 3, .int M_isTaken, .ref 4, .int M_length, .int v12.2, .int M_spelt, .int M_speltMany, .int M_place, .int M_kind, .int M_one, .int M_two, .int M_three, .int M_begins, .int M_done, .int M_stopBy, .long M_hash]), .inr (406, .inl M_s), .inr (2436, .inl M_saved), .inr (406, .inl M_snapshot), .inr (60, .inl M_text)]) (st2 := [.int v13]) (cl2 := 0) (sl2 := 0) (ct_X11_whereIs (a0 := a1) (a1 := a2) hv13) dX11_knot_49 w1147 w1148 cal_X11_whereIs ⟨⟨Nat.le_of_ble_eq_true rfl, Nat.le_of_ble_eq_true rfl⟩, Nat.le_of_ble_eq_true rfl, Nat.le_of_ble_eq_true rfl⟩ (Nat.le_of_ble_eq_true rfl) rfl ⟨rfl, ⟨by decide, by decide⟩, rfl, (fr_nil), rfl⟩ fr_i rfl rfl rfl rfl ?_
          refine V.istore (i := 5) (L' := [some (.ref 0), some (.int a1), some (.int a2), some (.int a3), some (.int a4), some (.int v13)]) dX11_knot_52 (Nat.le_of_ble_eq_true rfl) rfl rfl ?_
          refine V.iload_n (i := 3) dX11_knot_54 rfl rfl ?_
          refine V.aload_n (i := 0) dX11_knot_55 rfl rfl ?_
          refine V.iload (i := 5) dX11_knot_56 rfl ?_
          obtain ⟨v14, hv14, hf⟩ := fbind hf
          refine V.callVn (pl := [0, 1, 2, 3, 4]) (σ' := [.inl (6, [.ref 1, .ref 2, .int M_savedMany, .ref 3, .int M_isTaken, .ref 4, .int M_length, .int v12.2, .int M_spelt, .int M_speltMany, .int M_place, .int M_kind, .int M_one, .int M_two, .int M_three, .int M_begins, .int M_done, .int M_stopBy, .long M_hash]), .inr (406, .inl M_s), .inr (2436, .inl M_saved), .inr (406, .inl M_snapshot), .inr (60, .inl M_text)]) (st2 := [.int v14, .int a3]) (cl2 := 0) (sl2 := 0) (ct_X11_knots (a1 := v13) (M_savedMany := M_savedMany) (M_isTaken := M_isTaken) (M_length := M_length) (M_thrown := v12.2) (M_spelt := M_spelt) (M_speltMany := M_speltMany) (M_place := M_place) (M_kind := M_kind) (M_one := M_one) (M_two := M_two) (M_three := M_three) (M_begins := M_begins) (M_done := M_done) (M_stopBy := M_stopBy) (M_hash := M_hash) (M_s := M_s) (M_saved := M_saved) (M_snapshot := M_snapshot) (M_text := M_text) hv14) dX11_knot_58 w1154 ⟨w1156, w14⟩ cal_X11_knots rfl ⟨⟨Nat.le_of_ble_eq_true rfl, Nat.le_of_ble_eq_true rfl⟩, Nat.le_of_ble_eq_true rfl, Nat.le_of_ble_eq_true rfl⟩ (Nat.le_of_ble_eq_true rfl) (Or.inl ⟨_, _, _, _, rfl, rfl⟩) rfl ⟨rfl, ⟨by decide, by decide⟩, rfl, (fr_cons (Or.inl (Nat.le_of_ble_eq_true rfl)) (fr_cons (Or.inl (Nat.le_of_ble_eq_true rfl)) (fr_cons (Or.inl (Nat.le_of_ble_eq_true rfl)) (fr_cons (Or.inl (Nat.le_of_ble_eq_true rfl)) (fr_nil))))), rfl⟩ fr_i rfl rfl rfl rfl ?_
          refine V.icmp_ge (tgt := 76) dX11_knot_61 (by decide) (fun h => ?_) (fun h => ?_)
          · have hf := fif_t h hf
            refine V.iconst (v := (-1)) dX11_knot_76 rfl ?_
            obtain rfl := Option.some.inj hf
            exact V.iret dX11_knot_77 rfl (Nat.le_of_ble_eq_true rfl) (Nat.le_of_ble_eq_true rfl) rfl
          · have hf := fif_f h hf
            refine V.aload_n (i := 0) dX11_knot_64 rfl rfl ?_
            refine V.iload (i := 5) dX11_knot_65 rfl ?_
            refine V.iload_n (i := 3) dX11_knot_67 rfl rfl ?_
            refine V.iload (i := 4) dX11_knot_68 rfl ?_
            obtain ⟨v15, hv15, hf⟩ := fbind hf
            refine V.callVn (pl := [0, 1, 2, 3, 4]) (σ' := [.inl (6, [.ref 1, .ref 2, .int M_savedMany, .ref 3, .int M_isTaken, .ref 4, .int M_length, .int v12.2, .int M_spelt, .int M_speltMany, .int M_place, .int M_kind, .int M_one, .int M_two, .int M_three, .int M_begins, .int M_done, .int M_stopBy, .long M_hash]), .inr (406, .inl M_s), .inr (2436, .inl M_saved), .inr (406, .inl M_snapshot), .inr (60, .inl M_text)]) (st2 := [.int v15]) (cl2 := 0) (sl2 := 0) (ct_X11_knotNumber (a1 := v13) (a2 := a3) (a3 := a4) (M_savedMany := M_savedMany) (M_isTaken := M_isTaken) (M_length := M_length) (M_thrown := v12.2) (M_spelt := M_spelt) (M_speltMany := M_speltMany) (M_place := M_place) (M_kind := M_kind) (M_one := M_one) (M_two := M_two) (M_three := M_three) (M_begins := M_begins) (M_done := M_done) (M_stopBy := M_stopBy) (M_hash := M_hash) (M_s := M_s) (M_saved := M_saved) (M_snapshot := M_snapshot) (M_text := M_text) hv15) dX11_knot_70 w1367 ⟨w1369, w48⟩ cal_X11_knotNumber rfl ⟨⟨Nat.le_of_ble_eq_true rfl, Nat.le_of_ble_eq_true rfl⟩, Nat.le_of_ble_eq_true rfl, Nat.le_of_ble_eq_true rfl⟩ (Nat.le_of_ble_eq_true rfl) (Or.inl ⟨_, _, _, _, rfl, rfl⟩) rfl ⟨rfl, ⟨by decide, by decide⟩, rfl, (fr_cons (Or.inl (Nat.le_of_ble_eq_true rfl)) (fr_cons (Or.inl (Nat.le_of_ble_eq_true rfl)) (fr_cons (Or.inl (Nat.le_of_ble_eq_true rfl)) (fr_cons (Or.inl (Nat.le_of_ble_eq_true rfl)) (fr_nil))))), rfl⟩ fr_i rfl rfl rfl rfl ?_
            refine V.goto (tgt := 77) dX11_knot_73 (by decide) ?_
            obtain rfl := Option.some.inj hf
            exact V.iret dX11_knot_77 rfl (Nat.le_of_ble_eq_true rfl) (Nat.le_of_ble_eq_true rfl) rfl
        · have hf := fif_t h hf
          refine V.iconst (v := 0) dX11_knot_45 rfl ?_
          obtain rfl := Option.some.inj hf
          exact V.iret dX11_knot_46 rfl (Nat.le_of_ble_eq_true rfl) (Nat.le_of_ble_eq_true rfl) rfl
  · have hf := fif_t h hf
    refine V.iconst (v := 1) dX11_knot_10 rfl ?_
    refine V.goto (tgt := 39) dX11_knot_11 (by decide) ?_
    obtain ⟨v16, hv16, hf⟩ := fbind hf
    refine V.callVn (pl := [0, 1, 2, 3, 4]) (σ' := [.inl (6, [.ref 1, .ref 2, .int M_savedMany, .ref 3, .int M_isTaken, .ref 4, .int M_length, .int v16.2, .int M_spelt, .int M_speltMany, .int M_place, .int M_kind, .int M_one, .int M_two, .int M_three, .int M_begins, .int M_done, .int M_stopBy, .long M_hash]), .inr (406, .inl M_s), .inr (2436, .inl M_saved), .inr (406, .inl M_snapshot), .inr (60, .inl M_text)]) (st2 := [.int v16.1]) (cl2 := 0) (sl2 := 0) (ct_X11_holds (a1 := 1) (M_savedMany := M_savedMany) (M_isTaken := M_isTaken) (M_length := M_length) (M_thrown := M_thrown) (M_spelt := M_spelt) (M_speltMany := M_speltMany) (M_place := M_place) (M_kind := M_kind) (M_one := M_one) (M_two := M_two) (M_three := M_three) (M_begins := M_begins) (M_done := M_done) (M_stopBy := M_stopBy) (M_hash := M_hash) (M_s := M_s) (M_saved := M_saved) (M_snapshot := M_snapshot) (M_text := M_text) hv16) dX11_knot_39 w1181 ⟨w1183, w20⟩ cal_X11_holds rfl ⟨⟨Nat.le_of_ble_eq_true rfl, Nat.le_of_ble_eq_true rfl⟩, Nat.le_of_ble_eq_true rfl, Nat.le_of_ble_eq_true rfl⟩ (Nat.le_of_ble_eq_true rfl) (Or.inl ⟨_, _, _, _, rfl, rfl⟩) rfl ⟨rfl, ⟨by decide, by decide⟩, rfl, (fr_cons (Or.inl (Nat.le_of_ble_eq_true rfl)) (fr_cons (Or.inl (Nat.le_of_ble_eq_true rfl)) (fr_cons (Or.inl (Nat.le_of_ble_eq_true rfl)) (fr_cons (Or.inl (Nat.le_of_ble_eq_true rfl)) (fr_nil))))), rfl⟩ fr_i rfl rfl rfl rfl ?_
    refine V.if_ne (tgt := 47) dX11_knot_42 (by decide) (fun h => ?_) (fun h => ?_)
    · have hf := fif_f h hf
      refine V.iload_n (i := 1) dX11_knot_47 rfl rfl ?_
      refine V.iload_n (i := 2) dX11_knot_48 rfl rfl ?_
      obtain ⟨v17, hv17, hf⟩ := fbind hf
      refine V.callSn (pl := []) (σ' := [.inl (6, [.ref 1, .ref 2, .int M_savedMany, .ref 3, .int M_isTaken, .ref 4, .int M_length, .int v16.2, .int M_spelt, .int M_speltMany, .int M_place, .int M_kind, .int M_one, .int M_two, .int M_three, .int M_begins, .int M_done, .int M_stopBy, .long M_hash]), .inr (406, .inl M_s), .inr (2436, .inl M_saved), .inr (406, .inl M_snapshot), .inr (60, .inl M_text)]) (st2 := [.int v17]) (cl2 := 0) (sl2 := 0) (ct_X11_whereIs (a0 := a1) (a1 := a2) hv17) dX11_knot_49 w1147 w1148 cal_X11_whereIs ⟨⟨Nat.le_of_ble_eq_true rfl, Nat.le_of_ble_eq_true rfl⟩, Nat.le_of_ble_eq_true rfl, Nat.le_of_ble_eq_true rfl⟩ (Nat.le_of_ble_eq_true rfl) rfl ⟨rfl, ⟨by decide, by decide⟩, rfl, (fr_nil), rfl⟩ fr_i rfl rfl rfl rfl ?_
      refine V.istore (i := 5) (L' := [some (.ref 0), some (.int a1), some (.int a2), some (.int a3), some (.int a4), some (.int v17)]) dX11_knot_52 (Nat.le_of_ble_eq_true rfl) rfl rfl ?_
      refine V.iload_n (i := 3) dX11_knot_54 rfl rfl ?_
      refine V.aload_n (i := 0) dX11_knot_55 rfl rfl ?_
      refine V.iload (i := 5) dX11_knot_56 rfl ?_
      obtain ⟨v18, hv18, hf⟩ := fbind hf
      refine V.callVn (pl := [0, 1, 2, 3, 4]) (σ' := [.inl (6, [.ref 1, .ref 2, .int M_savedMany, .ref 3, .int M_isTaken, .ref 4, .int M_length, .int v16.2, .int M_spelt, .int M_speltMany, .int M_place, .int M_kind, .int M_one, .int M_two, .int M_three, .int M_begins, .int M_done, .int M_stopBy, .long M_hash]), .inr (406, .inl M_s), .inr (2436, .inl M_saved), .inr (406, .inl M_snapshot), .inr (60, .inl M_text)]) (st2 := [.int v18, .int a3]) (cl2 := 0) (sl2 := 0) (ct_X11_knots (a1 := v17) (M_savedMany := M_savedMany) (M_isTaken := M_isTaken) (M_length := M_length) (M_thrown := v16.2) (M_spelt := M_spelt) (M_speltMany := M_speltMany) (M_place := M_place) (M_kind := M_kind) (M_one := M_one) (M_two := M_two) (M_three := M_three) (M_begins := M_begins) (M_done := M_done) (M_stopBy := M_stopBy) (M_hash := M_hash) (M_s := M_s) (M_saved := M_saved) (M_snapshot := M_snapshot) (M_text := M_text) hv18) dX11_knot_58 w1154 ⟨w1156, w14⟩ cal_X11_knots rfl ⟨⟨Nat.le_of_ble_eq_true rfl, Nat.le_of_ble_eq_true rfl⟩, Nat.le_of_ble_eq_true rfl, Nat.le_of_ble_eq_true rfl⟩ (Nat.le_of_ble_eq_true rfl) (Or.inl ⟨_, _, _, _, rfl, rfl⟩) rfl ⟨rfl, ⟨by decide, by decide⟩, rfl, (fr_cons (Or.inl (Nat.le_of_ble_eq_true rfl)) (fr_cons (Or.inl (Nat.le_of_ble_eq_true rfl)) (fr_cons (Or.inl (Nat.le_of_ble_eq_true rfl)) (fr_cons (Or.inl (Nat.le_of_ble_eq_true rfl)) (fr_nil))))), rfl⟩ fr_i rfl rfl rfl rfl ?_
      refine V.icmp_ge (tgt := 76) dX11_knot_61 (by decide) (fun h => ?_) (fun h => ?_)
      · have hf := fif_t h hf
        refine V.iconst (v := (-1)) dX11_knot_76 rfl ?_
        obtain rfl := Option.some.inj hf
        exact V.iret dX11_knot_77 rfl (Nat.le_of_ble_eq_true rfl) (Nat.le_of_ble_eq_true rfl) rfl
      · have hf := fif_f h hf
        refine V.aload_n (i := 0) dX11_knot_64 rfl rfl ?_
        refine V.iload (i := 5) dX11_knot_65 rfl ?_
        refine V.iload_n (i := 3) dX11_knot_67 rfl rfl ?_
        refine V.iload (i := 4) dX11_knot_68 rfl ?_
        obtain ⟨v19, hv19, hf⟩ := fbind hf
        refine V.callVn (pl := [0, 1, 2, 3, 4]) (σ' := [.inl (6, [.ref 1, .ref 2, .int M_savedMany, .ref 3, .int M_isTaken, .ref 4, .int M_length, .int v16.2, .int M_spelt, .int M_speltMany, .int M_place, .int M_kind, .int M_one, .int M_two, .int M_three, .int M_begins, .int M_done, .int M_stopBy, .long M_hash]), .inr (406, .inl M_s), .inr (2436, .inl M_saved), .inr (406, .inl M_snapshot), .inr (60, .inl M_text)]) (st2 := [.int v19]) (cl2 := 0) (sl2 := 0) (ct_X11_knotNumber (a1 := v17) (a2 := a3) (a3 := a4) (M_savedMany := M_savedMany) (M_isTaken := M_isTaken) (M_length := M_length) (M_thrown := v16.2) (M_spelt := M_spelt) (M_speltMany := M_speltMany) (M_place := M_place) (M_kind := M_kind) (M_one := M_one) (M_two := M_two) (M_three := M_three) (M_begins := M_begins) (M_done := M_done) (M_stopBy := M_stopBy) (M_hash := M_hash) (M_s := M_s) (M_saved := M_saved) (M_snapshot := M_snapshot) (M_text := M_text) hv19) dX11_knot_70 w1367 ⟨w1369, w48⟩ cal_X11_knotNumber rfl ⟨⟨Nat.le_of_ble_eq_true rfl, Nat.le_of_ble_eq_true rfl⟩, Nat.le_of_ble_eq_true rfl, Nat.le_of_ble_eq_true rfl⟩ (Nat.le_of_ble_eq_true rfl) (Or.inl ⟨_, _, _, _, rfl, rfl⟩) rfl ⟨rfl, ⟨by decide, by decide⟩, rfl, (fr_cons (Or.inl (Nat.le_of_ble_eq_true rfl)) (fr_cons (Or.inl (Nat.le_of_ble_eq_true rfl)) (fr_cons (Or.inl (Nat.le_of_ble_eq_true rfl)) (fr_cons (Or.inl (Nat.le_of_ble_eq_true rfl)) (fr_nil))))), rfl⟩ fr_i rfl rfl rfl rfl ?_
        refine V.goto (tgt := 77) dX11_knot_73 (by decide) ?_
        obtain rfl := Option.some.inj hf
        exact V.iret dX11_knot_77 rfl (Nat.le_of_ble_eq_true rfl) (Nat.le_of_ble_eq_true rfl) rfl
    · have hf := fif_t h hf
      refine V.iconst (v := 0) dX11_knot_45 rfl ?_
      obtain rfl := Option.some.inj hf
      exact V.iret dX11_knot_46 rfl (Nat.le_of_ble_eq_true rfl) (Nat.le_of_ble_eq_true rfl) rfl
def k_X11_storms : fK := (yX11_storms, cX11_storms, 7, (some .int), [], (3, 66), (0, 0), (0, 0))
theorem cal_X11_storms : fCal k_X11_storms 1 := ⟨⟨wc1382, w73⟩, ⟨by decide +kernel, by decide +kernel⟩, by decide +kernel, by decide +kernel⟩
def s_X11_storms_L39 (p1 : Int32) (p2 : Int32) (p4 : Int32) (M_s : Nat → Int32) : Nat → Int32 → Int32 → Option (Int32 × Int32)
  | 0, _, _ => none
  | n + 1, x5, x6 => if (p2 < x6 : Prop) then (some (x5, x6)) else (fld 406 M_s 0 fun v3 => (s_X11_loosens p1 p4 (v3 + x6) M_s).bind fun v4 => if (v4 = 0 : Prop) then (s_X11_storms_L39 p1 p2 p4 M_s n (x5 + 0) (x6 + 1)) else (s_X11_storms_L39 p1 p2 p4 M_s n (x5 + 1) (x6 + 1)))
set_option maxHeartbeats 4000000 in
set_option maxRecDepth 100000 in
theorem v_X11_storms_L39 {out : fO} {σ' : List fE} {p1 : Int32} {p2 : Int32} {p3 : Int32} {p4 : Int32} {M_savedMany : Int32} {M_isTaken : Int32} {M_length : Int32} {M_thrown : Int32} {M_spelt : Int32} {M_speltMany : Int32} {M_place : Int32} {M_kind : Int32} {M_one : Int32} {M_two : Int32} {M_three : Int32} {M_begins : Int32} {M_done : Int32} {M_stopBy : Int32} {M_hash : Int64} {M_s : Nat → Int32} {M_saved : Nat → Int32} {M_snapshot : Nat → Int32} {M_text : Nat → Int32} : ∀ (n : Nat) {x5 : Int32} {x6 : Int32} {res : Int32 × Int32} (hf : s_X11_storms_L39 p1 p2 p4 M_s n x5 x6 = some res) (hx : V (fXm 5 k_X11_storms out σ') (krm k_X11_storms) k_X11_storms 5 80 [some (.ref 0), some (.int p1), some (.int p2), some (.int p3), some (.int p4), some (.int res.1), some (.int res.2)] [] [.inl (6, [.ref 1, .ref 2, .int M_savedMany, .ref 3, .int M_isTaken, .ref 4, .int M_length, .int M_thrown, .int M_spelt, .int M_speltMany, .int M_place, .int M_kind, .int M_one, .int M_two, .int M_three, .int M_begins, .int M_done, .int M_stopBy, .long M_hash]), .inr (406, .inl M_s), .inr (2436, .inl M_saved), .inr (406, .inl M_snapshot), .inr (60, .inl M_text)] 0 0), V (fXm 5 k_X11_storms out σ') (krm k_X11_storms) k_X11_storms 5 39 [some (.ref 0), some (.int p1), some (.int p2), some (.int p3), some (.int p4), some (.int x5), some (.int x6)] [] [.inl (6, [.ref 1, .ref 2, .int M_savedMany, .ref 3, .int M_isTaken, .ref 4, .int M_length, .int M_thrown, .int M_spelt, .int M_speltMany, .int M_place, .int M_kind, .int M_one, .int M_two, .int M_three, .int M_begins, .int M_done, .int M_stopBy, .long M_hash]), .inr (406, .inl M_s), .inr (2436, .inl M_saved), .inr (406, .inl M_snapshot), .inr (60, .inl M_text)] 0 0 := by
  intro n
  induction n with
  | zero =>
    intro x5 x6 res hf hx
    rw [s_X11_storms_L39] at hf
    cases hf
  | succ n ih =>
    intro x5 x6 res hf hx
    rw [s_X11_storms_L39] at hf
    refine V.iload (i := 6) dX11_storms_39 rfl ?_
    refine V.iload_n (i := 2) dX11_storms_41 rfl rfl ?_
    refine V.icmp_gt (tgt := 80) dX11_storms_42 (by decide) (fun h => ?_) (fun h => ?_)
    · have hf := fif_t h hf
      obtain rfl := Option.some.inj hf
      exact hx
    · have hf := fif_f h hf
      refine V.iload (i := 5) dX11_storms_45 rfl ?_
      refine V.aload_n (i := 0) dX11_storms_47 rfl rfl ?_
      refine V.iload_n (i := 1) dX11_storms_48 rfl rfl ?_
      refine V.iload (i := 4) dX11_storms_49 rfl ?_
      refine V.aload_n (i := 0) dX11_storms_51 rfl rfl ?_
      refine V.getfield (kf := 0) (v := .ref 1) fl_RX11 dX11_storms_52 w1043 (Nat.le_of_ble_eq_true rfl) rfl rfl ?_
      refine V.iconst (v := 0) dX11_storms_55 rfl ?_
      obtain ⟨hi, v3, ev3, hf⟩ := fld_e hf
      refine V.fld dX11_storms_56 rfl hi ev3 ?_
      refine V.iload (i := 6) dX11_storms_57 rfl ?_
      refine V.iadd dX11_storms_59 ?_
      obtain ⟨v4, hv4, hf⟩ := fbind hf
      refine V.callVn (pl := [0, 1, 2, 3, 4]) (σ' := [.inl (6, [.ref 1, .ref 2, .int M_savedMany, .ref 3, .int M_isTaken, .ref 4, .int M_length, .int M_thrown, .int M_spelt, .int M_speltMany, .int M_place, .int M_kind, .int M_one, .int M_two, .int M_three, .int M_begins, .int M_done, .int M_stopBy, .long M_hash]), .inr (406, .inl M_s), .inr (2436, .inl M_saved), .inr (406, .inl M_snapshot), .inr (60, .inl M_text)]) (st2 := [.int v4, .int x5]) (cl2 := 0) (sl2 := 0) (ct_X11_loosens (a1 := p1) (a2 := p4) (a3 := (v3 + x6)) (M_savedMany := M_savedMany) (M_isTaken := M_isTaken) (M_length := M_length) (M_thrown := M_thrown) (M_spelt := M_spelt) (M_speltMany := M_speltMany) (M_place := M_place) (M_kind := M_kind) (M_one := M_one) (M_two := M_two) (M_three := M_three) (M_begins := M_begins) (M_done := M_done) (M_stopBy := M_stopBy) (M_hash := M_hash) (M_s := M_s) (M_saved := M_saved) (M_snapshot := M_snapshot) (M_text := M_text) hv4) dX11_storms_60 w1248 ⟨w1250, w32⟩ cal_X11_loosens rfl ⟨⟨Nat.le_of_ble_eq_true rfl, Nat.le_of_ble_eq_true rfl⟩, Nat.le_of_ble_eq_true rfl, Nat.le_of_ble_eq_true rfl⟩ (Nat.le_of_ble_eq_true rfl) (Or.inl ⟨_, _, _, _, rfl, rfl⟩) rfl ⟨rfl, ⟨by decide, by decide⟩, rfl, (fr_cons (Or.inl (Nat.le_of_ble_eq_true rfl)) (fr_cons (Or.inl (Nat.le_of_ble_eq_true rfl)) (fr_cons (Or.inl (Nat.le_of_ble_eq_true rfl)) (fr_cons (Or.inl (Nat.le_of_ble_eq_true rfl)) (fr_nil))))), rfl⟩ fr_i rfl rfl rfl rfl ?_
      refine V.if_eq (tgt := 70) dX11_storms_63 (by decide) (fun h => ?_) (fun h => ?_)
      · have hf := fif_t h hf
        refine V.iconst (v := 0) dX11_storms_70 rfl ?_
        refine V.iadd dX11_storms_71 ?_
        refine V.istore (i := 5) (L' := [some (.ref 0), some (.int p1), some (.int p2), some (.int p3), some (.int p4), some (.int (x5 + 0)), some (.int x6)]) dX11_storms_72 (Nat.le_of_ble_eq_true rfl) rfl rfl ?_
        refine V.iinc (i := 6) (v := (x6 + 1)) (L' := [some (.ref 0), some (.int p1), some (.int p2), some (.int p3), some (.int p4), some (.int (x5 + 0)), some (.int (x6 + 1))]) dX11_storms_74 rfl rfl (Nat.le_of_ble_eq_true rfl) rfl rfl ?_
        refine V.goto (tgt := 39) dX11_storms_77 (by decide) ?_
        exact ih hf hx
      · have hf := fif_f h hf
        refine V.iconst (v := 1) dX11_storms_66 rfl ?_
        refine V.goto (tgt := 71) dX11_storms_67 (by decide) ?_
        refine V.iadd dX11_storms_71 ?_
        refine V.istore (i := 5) (L' := [some (.ref 0), some (.int p1), some (.int p2), some (.int p3), some (.int p4), some (.int (x5 + 1)), some (.int x6)]) dX11_storms_72 (Nat.le_of_ble_eq_true rfl) rfl rfl ?_
        refine V.iinc (i := 6) (v := (x6 + 1)) (L' := [some (.ref 0), some (.int p1), some (.int p2), some (.int p3), some (.int p4), some (.int (x5 + 1)), some (.int (x6 + 1))]) dX11_storms_74 rfl rfl (Nat.le_of_ble_eq_true rfl) rfl rfl ?_
        refine V.goto (tgt := 39) dX11_storms_77 (by decide) ?_
        exact ih hf hx
def s_X11_storms_L13 (p1 : Int32) (p2 : Int32) (M_s : Nat → Int32) : Nat → Int32 → Int32 → Option (Int32 × Int32)
  | 0, _, _ => none
  | n + 1, x3, x4 => (s_X11_knots p1 M_s).bind fun v1 => if (v1 ≤ x4 : Prop) then (some (x3, x4)) else (fld 406 M_s ((p1 + 3) + x4) fun v2 => (s_X11_storms_L39 p1 p2 x4 M_s gF v2 1).bind fun r5 => if (r5.1 ≤ 1 : Prop) then (s_X11_storms_L13 p1 p2 M_s n (x3 + 0) (x4 + 1)) else (s_X11_storms_L13 p1 p2 M_s n (x3 + 1) (x4 + 1)))
set_option maxHeartbeats 4000000 in
set_option maxRecDepth 100000 in
theorem v_X11_storms_L13 {out : fO} {σ' : List fE} {p1 : Int32} {p2 : Int32} {M_savedMany : Int32} {M_isTaken : Int32} {M_length : Int32} {M_thrown : Int32} {M_spelt : Int32} {M_speltMany : Int32} {M_place : Int32} {M_kind : Int32} {M_one : Int32} {M_two : Int32} {M_three : Int32} {M_begins : Int32} {M_done : Int32} {M_stopBy : Int32} {M_hash : Int64} {M_s : Nat → Int32} {M_saved : Nat → Int32} {M_snapshot : Nat → Int32} {M_text : Nat → Int32} : ∀ (n : Nat) {x3 : Int32} {x4 : Int32} {res : Int32 × Int32} (hf : s_X11_storms_L13 p1 p2 M_s n x3 x4 = some res) (hx : V (fXm 5 k_X11_storms out σ') (krm k_X11_storms) k_X11_storms 5 100 [some (.ref 0), some (.int p1), some (.int p2), some (.int res.1), some (.int res.2), none, none] [] [.inl (6, [.ref 1, .ref 2, .int M_savedMany, .ref 3, .int M_isTaken, .ref 4, .int M_length, .int M_thrown, .int M_spelt, .int M_speltMany, .int M_place, .int M_kind, .int M_one, .int M_two, .int M_three, .int M_begins, .int M_done, .int M_stopBy, .long M_hash]), .inr (406, .inl M_s), .inr (2436, .inl M_saved), .inr (406, .inl M_snapshot), .inr (60, .inl M_text)] 0 0), V (fXm 5 k_X11_storms out σ') (krm k_X11_storms) k_X11_storms 5 13 [some (.ref 0), some (.int p1), some (.int p2), some (.int x3), some (.int x4), none, none] [] [.inl (6, [.ref 1, .ref 2, .int M_savedMany, .ref 3, .int M_isTaken, .ref 4, .int M_length, .int M_thrown, .int M_spelt, .int M_speltMany, .int M_place, .int M_kind, .int M_one, .int M_two, .int M_three, .int M_begins, .int M_done, .int M_stopBy, .long M_hash]), .inr (406, .inl M_s), .inr (2436, .inl M_saved), .inr (406, .inl M_snapshot), .inr (60, .inl M_text)] 0 0 := by
  intro n
  induction n with
  | zero =>
    intro x3 x4 res hf hx
    rw [s_X11_storms_L13] at hf
    cases hf
  | succ n ih =>
    intro x3 x4 res hf hx
    rw [s_X11_storms_L13] at hf
    refine V.iload (i := 4) dX11_storms_13 rfl ?_
    refine V.aload_n (i := 0) dX11_storms_15 rfl rfl ?_
    refine V.iload_n (i := 1) dX11_storms_16 rfl rfl ?_
    obtain ⟨v1, hv1, hf⟩ := fbind hf
    refine V.callVn (pl := [0, 1, 2, 3, 4]) (σ' := [.inl (6, [.ref 1, .ref 2, .int M_savedMany, .ref 3, .int M_isTaken, .ref 4, .int M_length, .int M_thrown, .int M_spelt, .int M_speltMany, .int M_place, .int M_kind, .int M_one, .int M_two, .int M_three, .int M_begins, .int M_done, .int M_stopBy, .long M_hash]), .inr (406, .inl M_s), .inr (2436, .inl M_saved), .inr (406, .inl M_snapshot), .inr (60, .inl M_text)]) (st2 := [.int v1, .int x4]) (cl2 := 0) (sl2 := 0) (ct_X11_knots (a1 := p1) (M_savedMany := M_savedMany) (M_isTaken := M_isTaken) (M_length := M_length) (M_thrown := M_thrown) (M_spelt := M_spelt) (M_speltMany := M_speltMany) (M_place := M_place) (M_kind := M_kind) (M_one := M_one) (M_two := M_two) (M_three := M_three) (M_begins := M_begins) (M_done := M_done) (M_stopBy := M_stopBy) (M_hash := M_hash) (M_s := M_s) (M_saved := M_saved) (M_snapshot := M_snapshot) (M_text := M_text) hv1) dX11_storms_17 w1154 ⟨w1156, w14⟩ cal_X11_knots rfl ⟨⟨Nat.le_of_ble_eq_true rfl, Nat.le_of_ble_eq_true rfl⟩, Nat.le_of_ble_eq_true rfl, Nat.le_of_ble_eq_true rfl⟩ (Nat.le_of_ble_eq_true rfl) (Or.inl ⟨_, _, _, _, rfl, rfl⟩) rfl ⟨rfl, ⟨by decide, by decide⟩, rfl, (fr_cons (Or.inl (Nat.le_of_ble_eq_true rfl)) (fr_cons (Or.inl (Nat.le_of_ble_eq_true rfl)) (fr_cons (Or.inl (Nat.le_of_ble_eq_true rfl)) (fr_cons (Or.inl (Nat.le_of_ble_eq_true rfl)) (fr_nil))))), rfl⟩ fr_i rfl rfl rfl rfl ?_
    refine V.icmp_ge (tgt := 100) dX11_storms_20 (by decide) (fun h => ?_) (fun h => ?_)
    · have hf := fif_t h hf
      obtain rfl := Option.some.inj hf
      exact hx
    · have hf := fif_f h hf
      refine V.aload_n (i := 0) dX11_storms_23 rfl rfl ?_
      refine V.getfield (kf := 0) (v := .ref 1) fl_RX11 dX11_storms_24 w1043 (Nat.le_of_ble_eq_true rfl) rfl rfl ?_
      refine V.iload_n (i := 1) dX11_storms_27 rfl rfl ?_
      refine V.iconst (v := 3) dX11_storms_28 rfl ?_
      refine V.iadd dX11_storms_29 ?_
      refine V.iload (i := 4) dX11_storms_30 rfl ?_
      refine V.iadd dX11_storms_32 ?_
      obtain ⟨hi, v2, ev2, hf⟩ := fld_e hf
      refine V.fld dX11_storms_33 rfl hi ev2 ?_
      refine V.istore (i := 5) (L' := [some (.ref 0), some (.int p1), some (.int p2), some (.int x3), some (.int x4), some (.int v2), none]) dX11_storms_34 (Nat.le_of_ble_eq_true rfl) rfl rfl ?_
      refine V.iconst (v := 1) dX11_storms_36 rfl ?_
      refine V.istore (i := 6) (L' := [some (.ref 0), some (.int p1), some (.int p2), some (.int x3), some (.int x4), some (.int v2), some (.int 1)]) dX11_storms_37 (Nat.le_of_ble_eq_true rfl) rfl rfl ?_
      obtain ⟨r5, hr5, hf⟩ := fbind hf
      refine v_X11_storms_L39 gF hr5 ?_
      refine V.iload_n (i := 3) dX11_storms_80 rfl rfl ?_
      refine V.iload (i := 5) dX11_storms_81 rfl ?_
      refine V.iconst (v := 1) dX11_storms_83 rfl ?_
      refine V.icmp_le (tgt := 91) dX11_storms_84 (by decide) (fun h => ?_) (fun h => ?_)
      · have hf := fif_t h hf
        refine V.iconst (v := 0) dX11_storms_91 rfl ?_
        refine V.iadd dX11_storms_92 ?_
        refine V.istore_n (i := 3) (L' := [some (.ref 0), some (.int p1), some (.int p2), some (.int (x3 + 0)), some (.int x4), some (.int r5.1), some (.int r5.2)]) dX11_storms_93 rfl (Nat.le_of_ble_eq_true rfl) rfl rfl ?_
        refine V.iinc (i := 4) (v := (x4 + 1)) (L' := [some (.ref 0), some (.int p1), some (.int p2), some (.int (x3 + 0)), some (.int (x4 + 1)), some (.int r5.1), some (.int r5.2)]) dX11_storms_94 rfl rfl (Nat.le_of_ble_eq_true rfl) rfl rfl ?_
        refine V.goto (tgt := 13) dX11_storms_97 (by decide) ?_
        exact V.locs (L' := [some (.ref 0), some (.int p1), some (.int p2), some (.int (x3 + 0)), some (.int (x4 + 1)), none, none]) ⟨rfl, ⟨rfl, ⟨rfl, ⟨rfl, ⟨rfl, trivial⟩⟩⟩⟩⟩ (ih hf hx)
      · have hf := fif_f h hf
        refine V.iconst (v := 1) dX11_storms_87 rfl ?_
        refine V.goto (tgt := 92) dX11_storms_88 (by decide) ?_
        refine V.iadd dX11_storms_92 ?_
        refine V.istore_n (i := 3) (L' := [some (.ref 0), some (.int p1), some (.int p2), some (.int (x3 + 1)), some (.int x4), some (.int r5.1), some (.int r5.2)]) dX11_storms_93 rfl (Nat.le_of_ble_eq_true rfl) rfl rfl ?_
        refine V.iinc (i := 4) (v := (x4 + 1)) (L' := [some (.ref 0), some (.int p1), some (.int p2), some (.int (x3 + 1)), some (.int (x4 + 1)), some (.int r5.1), some (.int r5.2)]) dX11_storms_94 rfl rfl (Nat.le_of_ble_eq_true rfl) rfl rfl ?_
        refine V.goto (tgt := 13) dX11_storms_97 (by decide) ?_
        exact V.locs (L' := [some (.ref 0), some (.int p1), some (.int p2), some (.int (x3 + 1)), some (.int (x4 + 1)), none, none]) ⟨rfl, ⟨rfl, ⟨rfl, ⟨rfl, ⟨rfl, trivial⟩⟩⟩⟩⟩ (ih hf hx)
def s_X11_storms_L2 (p1 : Int32) (M_s : Nat → Int32) : Nat → Int32 → Option ((Int32) ⊕ (Int32))
  | 0, _ => none
  | n + 1, x2 => if (60 < x2 : Prop) then (some (.inr x2)) else ((s_X11_storms_L13 p1 x2 M_s gF 0 0).bind fun r6 => fld 406 M_s 5 fun v7 => if (r6.1 ≤ v7 : Prop) then (s_X11_storms_L2 p1 M_s n (x2 + 1)) else (some (.inl x2)))
set_option maxHeartbeats 4000000 in
set_option maxRecDepth 100000 in
theorem v_X11_storms_L2 {out : fO} {σ' : List fE} {p1 : Int32} {M_savedMany : Int32} {M_isTaken : Int32} {M_length : Int32} {M_thrown : Int32} {M_spelt : Int32} {M_speltMany : Int32} {M_place : Int32} {M_kind : Int32} {M_one : Int32} {M_two : Int32} {M_three : Int32} {M_begins : Int32} {M_done : Int32} {M_stopBy : Int32} {M_hash : Int64} {M_s : Nat → Int32} {M_saved : Nat → Int32} {M_snapshot : Nat → Int32} {M_text : Nat → Int32} : ∀ (n : Nat) {x2 : Int32} {res : (Int32) ⊕ (Int32)} (hf : s_X11_storms_L2 p1 M_s n x2 = some res) (hr : ∀ r, res = .inl r → out = (.inl (some (.int r))) ∧ σ' = [.inl (6, [.ref 1, .ref 2, .int M_savedMany, .ref 3, .int M_isTaken, .ref 4, .int M_length, .int M_thrown, .int M_spelt, .int M_speltMany, .int M_place, .int M_kind, .int M_one, .int M_two, .int M_three, .int M_begins, .int M_done, .int M_stopBy, .long M_hash]), .inr (406, .inl M_s), .inr (2436, .inl M_saved), .inr (406, .inl M_snapshot), .inr (60, .inl M_text)]) (hx : ∀ e, res = .inr e → V (fXm 5 k_X11_storms out σ') (krm k_X11_storms) k_X11_storms 5 118 [some (.ref 0), some (.int p1), some (.int e), none, none, none, none] [] [.inl (6, [.ref 1, .ref 2, .int M_savedMany, .ref 3, .int M_isTaken, .ref 4, .int M_length, .int M_thrown, .int M_spelt, .int M_speltMany, .int M_place, .int M_kind, .int M_one, .int M_two, .int M_three, .int M_begins, .int M_done, .int M_stopBy, .long M_hash]), .inr (406, .inl M_s), .inr (2436, .inl M_saved), .inr (406, .inl M_snapshot), .inr (60, .inl M_text)] 0 0), V (fXm 5 k_X11_storms out σ') (krm k_X11_storms) k_X11_storms 5 2 [some (.ref 0), some (.int p1), some (.int x2), none, none, none, none] [] [.inl (6, [.ref 1, .ref 2, .int M_savedMany, .ref 3, .int M_isTaken, .ref 4, .int M_length, .int M_thrown, .int M_spelt, .int M_speltMany, .int M_place, .int M_kind, .int M_one, .int M_two, .int M_three, .int M_begins, .int M_done, .int M_stopBy, .long M_hash]), .inr (406, .inl M_s), .inr (2436, .inl M_saved), .inr (406, .inl M_snapshot), .inr (60, .inl M_text)] 0 0 := by
  intro n
  induction n with
  | zero =>
    intro x2 res hf hr hx
    rw [s_X11_storms_L2] at hf
    cases hf
  | succ n ih =>
    intro x2 res hf hr hx
    rw [s_X11_storms_L2] at hf
    refine V.iload_n (i := 2) dX11_storms_2 rfl rfl ?_
    refine V.bipush (v := 60) dX11_storms_3 rfl ?_
    refine V.icmp_gt (tgt := 118) dX11_storms_5 (by decide) (fun h => ?_) (fun h => ?_)
    · have hf := fif_t h hf
      obtain rfl := Option.some.inj hf
      exact hx _ rfl
    · have hf := fif_f h hf
      refine V.iconst (v := 0) dX11_storms_8 rfl ?_
      refine V.istore_n (i := 3) (L' := [some (.ref 0), some (.int p1), some (.int x2), some (.int 0), none, none, none]) dX11_storms_9 rfl (Nat.le_of_ble_eq_true rfl) rfl rfl ?_
      refine V.iconst (v := 0) dX11_storms_10 rfl ?_
      refine V.istore (i := 4) (L' := [some (.ref 0), some (.int p1), some (.int x2), some (.int 0), some (.int 0), none, none]) dX11_storms_11 (Nat.le_of_ble_eq_true rfl) rfl rfl ?_
      obtain ⟨r6, hr6, hf⟩ := fbind hf
      refine v_X11_storms_L13 gF hr6 ?_
      refine V.iload_n (i := 3) dX11_storms_100 rfl rfl ?_
      refine V.aload_n (i := 0) dX11_storms_101 rfl rfl ?_
      refine V.getfield (kf := 0) (v := .ref 1) fl_RX11 dX11_storms_102 w1043 (Nat.le_of_ble_eq_true rfl) rfl rfl ?_
      refine V.iconst (v := 5) dX11_storms_105 rfl ?_
      obtain ⟨hi, v7, ev7, hf⟩ := fld_e hf
      refine V.fld dX11_storms_106 rfl hi ev7 ?_
      refine V.icmp_le (tgt := 112) dX11_storms_107 (by decide) (fun h => ?_) (fun h => ?_)
      · have hf := fif_t h hf
        refine V.iinc (i := 2) (v := (x2 + 1)) (L' := [some (.ref 0), some (.int p1), some (.int (x2 + 1)), some (.int r6.1), some (.int r6.2), none, none]) dX11_storms_112 rfl rfl (Nat.le_of_ble_eq_true rfl) rfl rfl ?_
        refine V.goto (tgt := 2) dX11_storms_115 (by decide) ?_
        exact V.locs (L' := [some (.ref 0), some (.int p1), some (.int (x2 + 1)), none, none, none, none]) ⟨rfl, ⟨rfl, ⟨rfl, trivial⟩⟩⟩ (ih hf hr hx)
      · have hf := fif_f h hf
        refine V.iload_n (i := 2) dX11_storms_110 rfl rfl ?_
        obtain rfl := Option.some.inj hf
        obtain ⟨e1, e2⟩ := hr _ rfl
        subst e1; subst e2
        exact V.iret dX11_storms_111 rfl (Nat.le_of_ble_eq_true rfl) (Nat.le_of_ble_eq_true rfl) rfl
def s_X11_storms (a1 : Int32) (M_s : Nat → Int32) : Option (Int32) := (s_X11_storms_L2 a1 M_s gF 1).bind fun r8 => fsum r8 (fun r9 => some r9) (fun e9 => some (-1))
set_option maxHeartbeats 4000000 in
set_option maxRecDepth 100000 in
theorem ct_X11_storms {a1 : Int32} {M_savedMany : Int32} {M_isTaken : Int32} {M_length : Int32} {M_thrown : Int32} {M_spelt : Int32} {M_speltMany : Int32} {M_place : Int32} {M_kind : Int32} {M_one : Int32} {M_two : Int32} {M_three : Int32} {M_begins : Int32} {M_done : Int32} {M_stopBy : Int32} {M_hash : Int64} {M_s : Nat → Int32} {M_saved : Nat → Int32} {M_snapshot : Nat → Int32} {M_text : Nat → Int32} {res : Int32} (hf : s_X11_storms a1 M_s = some res) : Ct k_X11_storms [.ref 0, .int a1] [.inl (6, [.ref 1, .ref 2, .int M_savedMany, .ref 3, .int M_isTaken, .ref 4, .int M_length, .int M_thrown, .int M_spelt, .int M_speltMany, .int M_place, .int M_kind, .int M_one, .int M_two, .int M_three, .int M_begins, .int M_done, .int M_stopBy, .long M_hash]), .inr (406, .inl M_s), .inr (2436, .inl M_saved), .inr (406, .inl M_snapshot), .inr (60, .inl M_text)] (.inl (some (.int res))) [.inl (6, [.ref 1, .ref 2, .int M_savedMany, .ref 3, .int M_isTaken, .ref 4, .int M_length, .int M_thrown, .int M_spelt, .int M_speltMany, .int M_place, .int M_kind, .int M_one, .int M_two, .int M_three, .int M_begins, .int M_done, .int M_stopBy, .long M_hash]), .inr (406, .inl M_s), .inr (2436, .inl M_saved), .inr (406, .inl M_snapshot), .inr (60, .inl M_text)] := by
  unfold s_X11_storms at hf
  refine Ct.of (L := [some (.ref 0), some (.int a1), none, none, none, none, none]) cal_X11_storms (fent_pad (j := 5) rfl) (Nat.le_of_ble_eq_true rfl) ?_
  refine V.iconst (v := 1) dX11_storms_0 rfl ?_
  refine V.istore_n (i := 2) (L' := [some (.ref 0), some (.int a1), some (.int 1), none, none, none, none]) dX11_storms_1 rfl (Nat.le_of_ble_eq_true rfl) rfl rfl ?_
  obtain ⟨r8, hr8, hf⟩ := fbind hf
  rcases r8 with r9 | e9
  · obtain rfl := Option.some.inj (show some _ = some res from hf)
    exact v_X11_storms_L2 gF hr8 (fun _ h => by cases h; exact ⟨rfl, rfl⟩) (fun _ h => by cases h)
  · replace hf : _ = some res := hf
    dsimp only [fsum] at hf
    refine v_X11_storms_L2 gF hr8 (fun _ h => by cases h) (fun _ h => ?_)
    cases h
    refine V.iconst (v := (-1)) dX11_storms_118 rfl ?_
    obtain rfl := Option.some.inj hf
    exact V.iret dX11_storms_119 rfl (Nat.le_of_ble_eq_true rfl) (Nat.le_of_ble_eq_true rfl) rfl
def k_X11_nameNumber : fK := (yX11_nameNumber, cX11_nameNumber, 3, (some .int), [], (4, 92), (0, 0), (0, 0))
theorem cal_X11_nameNumber : fCal k_X11_nameNumber 2 := ⟨⟨wc1378, w73⟩, ⟨by decide +kernel, by decide +kernel⟩, by decide +kernel, by decide +kernel⟩
def s_X11_nameNumber (a1 : Int32) (a2 : Int32) (M_s : Nat → Int32) : Option (Int32) := if (a2 = 0 : Prop) then ((s_X11_knots a1 M_s).bind fun v1 => some v1) else (if (a2 = 1 : Prop) then ((s_X11_cordOf a1 M_s).bind fun v2 => some v2) else (if (a2 = 2 : Prop) then ((s_X11_loosened a1 1 M_s).bind fun v3 => some v3) else (if (a2 = 3 : Prop) then ((s_X11_loosened a1 2 M_s).bind fun v4 => some v4) else ((s_X11_storms a1 M_s).bind fun v5 => some v5))))
set_option maxHeartbeats 4000000 in
set_option maxRecDepth 100000 in
theorem ct_X11_nameNumber {a1 : Int32} {a2 : Int32} {M_savedMany : Int32} {M_isTaken : Int32} {M_length : Int32} {M_thrown : Int32} {M_spelt : Int32} {M_speltMany : Int32} {M_place : Int32} {M_kind : Int32} {M_one : Int32} {M_two : Int32} {M_three : Int32} {M_begins : Int32} {M_done : Int32} {M_stopBy : Int32} {M_hash : Int64} {M_s : Nat → Int32} {M_saved : Nat → Int32} {M_snapshot : Nat → Int32} {M_text : Nat → Int32} {res : Int32} (hf : s_X11_nameNumber a1 a2 M_s = some res) : Ct k_X11_nameNumber [.ref 0, .int a1, .int a2] [.inl (6, [.ref 1, .ref 2, .int M_savedMany, .ref 3, .int M_isTaken, .ref 4, .int M_length, .int M_thrown, .int M_spelt, .int M_speltMany, .int M_place, .int M_kind, .int M_one, .int M_two, .int M_three, .int M_begins, .int M_done, .int M_stopBy, .long M_hash]), .inr (406, .inl M_s), .inr (2436, .inl M_saved), .inr (406, .inl M_snapshot), .inr (60, .inl M_text)] (.inl (some (.int res))) [.inl (6, [.ref 1, .ref 2, .int M_savedMany, .ref 3, .int M_isTaken, .ref 4, .int M_length, .int M_thrown, .int M_spelt, .int M_speltMany, .int M_place, .int M_kind, .int M_one, .int M_two, .int M_three, .int M_begins, .int M_done, .int M_stopBy, .long M_hash]), .inr (406, .inl M_s), .inr (2436, .inl M_saved), .inr (406, .inl M_snapshot), .inr (60, .inl M_text)] := by
  unfold s_X11_nameNumber at hf
  refine Ct.of (L := [some (.ref 0), some (.int a1), some (.int a2)]) cal_X11_nameNumber (fent_pad (j := 0) rfl) (Nat.le_of_ble_eq_true rfl) ?_
  refine V.iload_n (i := 2) dX11_nameNumber_0 rfl rfl ?_
  by_cases h0 : a2 = 0
  · have hf := fif_t h0 hf
    refine V.cgi h0 (V.tableIn (off := 31) (tgt := 32) dX11_nameNumber_1 (by decide) (by decide) rfl (by decide) ?_)
    refine V.aload_n (i := 0) dX11_nameNumber_32 rfl rfl ?_
    refine V.iload_n (i := 1) dX11_nameNumber_33 rfl rfl ?_
    obtain ⟨v1, hv1, hf⟩ := fbind hf
    refine V.callVn (pl := [0, 1, 2, 3, 4]) (σ' := [.inl (6, [.ref 1, .ref 2, .int M_savedMany, .ref 3, .int M_isTaken, .ref 4, .int M_length, .int M_thrown, .int M_spelt, .int M_speltMany, .int M_place, .int M_kind, .int M_one, .int M_two, .int M_three, .int M_begins, .int M_done, .int M_stopBy, .long M_hash]), .inr (406, .inl M_s), .inr (2436, .inl M_saved), .inr (406, .inl M_snapshot), .inr (60, .inl M_text)]) (st2 := [.int v1]) (cl2 := 0) (sl2 := 0) (ct_X11_knots (a1 := a1) (M_savedMany := M_savedMany) (M_isTaken := M_isTaken) (M_length := M_length) (M_thrown := M_thrown) (M_spelt := M_spelt) (M_speltMany := M_speltMany) (M_place := M_place) (M_kind := M_kind) (M_one := M_one) (M_two := M_two) (M_three := M_three) (M_begins := M_begins) (M_done := M_done) (M_stopBy := M_stopBy) (M_hash := M_hash) (M_s := M_s) (M_saved := M_saved) (M_snapshot := M_snapshot) (M_text := M_text) hv1) dX11_nameNumber_34 w1154 ⟨w1156, w14⟩ cal_X11_knots rfl ⟨⟨Nat.le_of_ble_eq_true rfl, Nat.le_of_ble_eq_true rfl⟩, Nat.le_of_ble_eq_true rfl, Nat.le_of_ble_eq_true rfl⟩ (Nat.le_of_ble_eq_true rfl) (Or.inl ⟨_, _, _, _, rfl, rfl⟩) rfl ⟨rfl, ⟨by decide, by decide⟩, rfl, (fr_cons (Or.inl (Nat.le_of_ble_eq_true rfl)) (fr_cons (Or.inl (Nat.le_of_ble_eq_true rfl)) (fr_cons (Or.inl (Nat.le_of_ble_eq_true rfl)) (fr_cons (Or.inl (Nat.le_of_ble_eq_true rfl)) (fr_nil))))), rfl⟩ fr_i rfl rfl rfl rfl ?_
    obtain rfl := Option.some.inj hf
    exact V.iret dX11_nameNumber_37 rfl (Nat.le_of_ble_eq_true rfl) (Nat.le_of_ble_eq_true rfl) rfl
  · have hf := fif_f h0 hf
    by_cases h1 : a2 = 1
    · have hf := fif_t h1 hf
      refine V.cgi h1 (V.tableIn (off := 37) (tgt := 38) dX11_nameNumber_1 (by decide) (by decide) rfl (by decide) ?_)
      refine V.aload_n (i := 0) dX11_nameNumber_38 rfl rfl ?_
      refine V.iload_n (i := 1) dX11_nameNumber_39 rfl rfl ?_
      obtain ⟨v2, hv2, hf⟩ := fbind hf
      refine V.callVn (pl := [0, 1, 2, 3, 4]) (σ' := [.inl (6, [.ref 1, .ref 2, .int M_savedMany, .ref 3, .int M_isTaken, .ref 4, .int M_length, .int M_thrown, .int M_spelt, .int M_speltMany, .int M_place, .int M_kind, .int M_one, .int M_two, .int M_three, .int M_begins, .int M_done, .int M_stopBy, .long M_hash]), .inr (406, .inl M_s), .inr (2436, .inl M_saved), .inr (406, .inl M_snapshot), .inr (60, .inl M_text)]) (st2 := [.int v2]) (cl2 := 0) (sl2 := 0) (ct_X11_cordOf (a1 := a1) (M_savedMany := M_savedMany) (M_isTaken := M_isTaken) (M_length := M_length) (M_thrown := M_thrown) (M_spelt := M_spelt) (M_speltMany := M_speltMany) (M_place := M_place) (M_kind := M_kind) (M_one := M_one) (M_two := M_two) (M_three := M_three) (M_begins := M_begins) (M_done := M_done) (M_stopBy := M_stopBy) (M_hash := M_hash) (M_s := M_s) (M_saved := M_saved) (M_snapshot := M_snapshot) (M_text := M_text) hv2) dX11_nameNumber_40 w1150 ⟨w1152, w13⟩ cal_X11_cordOf rfl ⟨⟨Nat.le_of_ble_eq_true rfl, Nat.le_of_ble_eq_true rfl⟩, Nat.le_of_ble_eq_true rfl, Nat.le_of_ble_eq_true rfl⟩ (Nat.le_of_ble_eq_true rfl) (Or.inl ⟨_, _, _, _, rfl, rfl⟩) rfl ⟨rfl, ⟨by decide, by decide⟩, rfl, (fr_cons (Or.inl (Nat.le_of_ble_eq_true rfl)) (fr_cons (Or.inl (Nat.le_of_ble_eq_true rfl)) (fr_cons (Or.inl (Nat.le_of_ble_eq_true rfl)) (fr_cons (Or.inl (Nat.le_of_ble_eq_true rfl)) (fr_nil))))), rfl⟩ fr_i rfl rfl rfl rfl ?_
      obtain rfl := Option.some.inj hf
      exact V.iret dX11_nameNumber_43 rfl (Nat.le_of_ble_eq_true rfl) (Nat.le_of_ble_eq_true rfl) rfl
    · have hf := fif_f h1 hf
      by_cases h2 : a2 = 2
      · have hf := fif_t h2 hf
        refine V.cgi h2 (V.tableIn (off := 43) (tgt := 44) dX11_nameNumber_1 (by decide) (by decide) rfl (by decide) ?_)
        refine V.aload_n (i := 0) dX11_nameNumber_44 rfl rfl ?_
        refine V.iload_n (i := 1) dX11_nameNumber_45 rfl rfl ?_
        refine V.iconst (v := 1) dX11_nameNumber_46 rfl ?_
        obtain ⟨v3, hv3, hf⟩ := fbind hf
        refine V.callVn (pl := [0, 1, 2, 3, 4]) (σ' := [.inl (6, [.ref 1, .ref 2, .int M_savedMany, .ref 3, .int M_isTaken, .ref 4, .int M_length, .int M_thrown, .int M_spelt, .int M_speltMany, .int M_place, .int M_kind, .int M_one, .int M_two, .int M_three, .int M_begins, .int M_done, .int M_stopBy, .long M_hash]), .inr (406, .inl M_s), .inr (2436, .inl M_saved), .inr (406, .inl M_snapshot), .inr (60, .inl M_text)]) (st2 := [.int v3]) (cl2 := 0) (sl2 := 0) (ct_X11_loosened (a1 := a1) (a2 := 1) (M_savedMany := M_savedMany) (M_isTaken := M_isTaken) (M_length := M_length) (M_thrown := M_thrown) (M_spelt := M_spelt) (M_speltMany := M_speltMany) (M_place := M_place) (M_kind := M_kind) (M_one := M_one) (M_two := M_two) (M_three := M_three) (M_begins := M_begins) (M_done := M_done) (M_stopBy := M_stopBy) (M_hash := M_hash) (M_s := M_s) (M_saved := M_saved) (M_snapshot := M_snapshot) (M_text := M_text) hv3) dX11_nameNumber_47 w1162 ⟨w1164, w16⟩ cal_X11_loosened rfl ⟨⟨Nat.le_of_ble_eq_true rfl, Nat.le_of_ble_eq_true rfl⟩, Nat.le_of_ble_eq_true rfl, Nat.le_of_ble_eq_true rfl⟩ (Nat.le_of_ble_eq_true rfl) (Or.inl ⟨_, _, _, _, rfl, rfl⟩) rfl ⟨rfl, ⟨by decide, by decide⟩, rfl, (fr_cons (Or.inl (Nat.le_of_ble_eq_true rfl)) (fr_cons (Or.inl (Nat.le_of_ble_eq_true rfl)) (fr_cons (Or.inl (Nat.le_of_ble_eq_true rfl)) (fr_cons (Or.inl (Nat.le_of_ble_eq_true rfl)) (fr_nil))))), rfl⟩ fr_i rfl rfl rfl rfl ?_
        obtain rfl := Option.some.inj hf
        exact V.iret dX11_nameNumber_50 rfl (Nat.le_of_ble_eq_true rfl) (Nat.le_of_ble_eq_true rfl) rfl
      · have hf := fif_f h2 hf
        by_cases h3 : a2 = 3
        · have hf := fif_t h3 hf
          refine V.cgi h3 (V.tableIn (off := 50) (tgt := 51) dX11_nameNumber_1 (by decide) (by decide) rfl (by decide) ?_)
          refine V.aload_n (i := 0) dX11_nameNumber_51 rfl rfl ?_
          refine V.iload_n (i := 1) dX11_nameNumber_52 rfl rfl ?_
          refine V.iconst (v := 2) dX11_nameNumber_53 rfl ?_
          obtain ⟨v4, hv4, hf⟩ := fbind hf
          refine V.callVn (pl := [0, 1, 2, 3, 4]) (σ' := [.inl (6, [.ref 1, .ref 2, .int M_savedMany, .ref 3, .int M_isTaken, .ref 4, .int M_length, .int M_thrown, .int M_spelt, .int M_speltMany, .int M_place, .int M_kind, .int M_one, .int M_two, .int M_three, .int M_begins, .int M_done, .int M_stopBy, .long M_hash]), .inr (406, .inl M_s), .inr (2436, .inl M_saved), .inr (406, .inl M_snapshot), .inr (60, .inl M_text)]) (st2 := [.int v4]) (cl2 := 0) (sl2 := 0) (ct_X11_loosened (a1 := a1) (a2 := 2) (M_savedMany := M_savedMany) (M_isTaken := M_isTaken) (M_length := M_length) (M_thrown := M_thrown) (M_spelt := M_spelt) (M_speltMany := M_speltMany) (M_place := M_place) (M_kind := M_kind) (M_one := M_one) (M_two := M_two) (M_three := M_three) (M_begins := M_begins) (M_done := M_done) (M_stopBy := M_stopBy) (M_hash := M_hash) (M_s := M_s) (M_saved := M_saved) (M_snapshot := M_snapshot) (M_text := M_text) hv4) dX11_nameNumber_54 w1162 ⟨w1164, w16⟩ cal_X11_loosened rfl ⟨⟨Nat.le_of_ble_eq_true rfl, Nat.le_of_ble_eq_true rfl⟩, Nat.le_of_ble_eq_true rfl, Nat.le_of_ble_eq_true rfl⟩ (Nat.le_of_ble_eq_true rfl) (Or.inl ⟨_, _, _, _, rfl, rfl⟩) rfl ⟨rfl, ⟨by decide, by decide⟩, rfl, (fr_cons (Or.inl (Nat.le_of_ble_eq_true rfl)) (fr_cons (Or.inl (Nat.le_of_ble_eq_true rfl)) (fr_cons (Or.inl (Nat.le_of_ble_eq_true rfl)) (fr_cons (Or.inl (Nat.le_of_ble_eq_true rfl)) (fr_nil))))), rfl⟩ fr_i rfl rfl rfl rfl ?_
          obtain rfl := Option.some.inj hf
          exact V.iret dX11_nameNumber_57 rfl (Nat.le_of_ble_eq_true rfl) (Nat.le_of_ble_eq_true rfl) rfl
        · have hf := fif_f h3 hf
          refine V.tableOut (tgt := 58) dX11_nameNumber_1 (by have g0 := lv_neT (a := 0) h0 (by decide); have g1 := lv_neT (a := 1) h1 (by decide); have g2 := lv_neT (a := 2) h2 (by decide); have g3 := lv_neT (a := 3) h3 (by decide); omega) (by decide) ?_
          refine V.aload_n (i := 0) dX11_nameNumber_58 rfl rfl ?_
          refine V.iload_n (i := 1) dX11_nameNumber_59 rfl rfl ?_
          obtain ⟨v5, hv5, hf⟩ := fbind hf
          refine V.callVn (pl := [0, 1, 2, 3, 4]) (σ' := [.inl (6, [.ref 1, .ref 2, .int M_savedMany, .ref 3, .int M_isTaken, .ref 4, .int M_length, .int M_thrown, .int M_spelt, .int M_speltMany, .int M_place, .int M_kind, .int M_one, .int M_two, .int M_three, .int M_begins, .int M_done, .int M_stopBy, .long M_hash]), .inr (406, .inl M_s), .inr (2436, .inl M_saved), .inr (406, .inl M_snapshot), .inr (60, .inl M_text)]) (st2 := [.int v5]) (cl2 := 0) (sl2 := 0) (ct_X11_storms (a1 := a1) (M_savedMany := M_savedMany) (M_isTaken := M_isTaken) (M_length := M_length) (M_thrown := M_thrown) (M_spelt := M_spelt) (M_speltMany := M_speltMany) (M_place := M_place) (M_kind := M_kind) (M_one := M_one) (M_two := M_two) (M_three := M_three) (M_begins := M_begins) (M_done := M_done) (M_stopBy := M_stopBy) (M_hash := M_hash) (M_s := M_s) (M_saved := M_saved) (M_snapshot := M_snapshot) (M_text := M_text) hv5) dX11_nameNumber_60 w1379 ⟨w1381, w50⟩ cal_X11_storms rfl ⟨⟨Nat.le_of_ble_eq_true rfl, Nat.le_of_ble_eq_true rfl⟩, Nat.le_of_ble_eq_true rfl, Nat.le_of_ble_eq_true rfl⟩ (Nat.le_of_ble_eq_true rfl) (Or.inl ⟨_, _, _, _, rfl, rfl⟩) rfl ⟨rfl, ⟨by decide, by decide⟩, rfl, (fr_cons (Or.inl (Nat.le_of_ble_eq_true rfl)) (fr_cons (Or.inl (Nat.le_of_ble_eq_true rfl)) (fr_cons (Or.inl (Nat.le_of_ble_eq_true rfl)) (fr_cons (Or.inl (Nat.le_of_ble_eq_true rfl)) (fr_nil))))), rfl⟩ fr_i rfl rfl rfl rfl ?_
          obtain rfl := Option.some.inj hf
          exact V.iret dX11_nameNumber_63 rfl (Nat.le_of_ble_eq_true rfl) (Nat.le_of_ble_eq_true rfl) rfl
def k_X11_name : fK := (yX11_name, cX11_name, 4, (some .int), [], (5, 114), (0, 0), (0, 0))
theorem cal_X11_name : fCal k_X11_name 3 := ⟨⟨wc1374, w73⟩, ⟨by decide +kernel, by decide +kernel⟩, by decide +kernel, by decide +kernel⟩
def s_X11_name (a1 : Int32) (a2 : Int32) (a3 : Int32) (M_thrown : Int32) (M_s : Nat → Int32) : Option (Int32 × (Int32)) := (s_X11_isName a1 a2 M_s).bind fun v1 => if (v1 = 0 : Prop) then ((s_X11_holds 1 M_thrown).bind fun v9 => if (v9.1 = 0 : Prop) then (some (0, v9.2)) else ((s_X11_whereIs a1 a2).bind fun v10 => (s_X11_nameNumber v10 a3 M_s).bind fun v11 => some (v11, v9.2))) else ((s_X11_in a3 0 4).bind fun v2 => if (v2 = 0 : Prop) then ((s_X11_holds 2 M_thrown).bind fun v3 => if (v3.1 = 0 : Prop) then (some (0, v3.2)) else ((s_X11_whereIs a1 a2).bind fun v4 => (s_X11_nameNumber v4 a3 M_s).bind fun v5 => some (v5, v3.2))) else ((s_X11_holds 0 M_thrown).bind fun v6 => if (v6.1 = 0 : Prop) then (some (0, v6.2)) else ((s_X11_whereIs a1 a2).bind fun v7 => (s_X11_nameNumber v7 a3 M_s).bind fun v8 => some (v8, v6.2))))
set_option maxHeartbeats 4000000 in
set_option maxRecDepth 100000 in
theorem ct_X11_name {a1 : Int32} {a2 : Int32} {a3 : Int32} {M_savedMany : Int32} {M_isTaken : Int32} {M_length : Int32} {M_thrown : Int32} {M_spelt : Int32} {M_speltMany : Int32} {M_place : Int32} {M_kind : Int32} {M_one : Int32} {M_two : Int32} {M_three : Int32} {M_begins : Int32} {M_done : Int32} {M_stopBy : Int32} {M_hash : Int64} {M_s : Nat → Int32} {M_saved : Nat → Int32} {M_snapshot : Nat → Int32} {M_text : Nat → Int32} {res : Int32 × (Int32)} (hf : s_X11_name a1 a2 a3 M_thrown M_s = some res) : Ct k_X11_name [.ref 0, .int a1, .int a2, .int a3] [.inl (6, [.ref 1, .ref 2, .int M_savedMany, .ref 3, .int M_isTaken, .ref 4, .int M_length, .int M_thrown, .int M_spelt, .int M_speltMany, .int M_place, .int M_kind, .int M_one, .int M_two, .int M_three, .int M_begins, .int M_done, .int M_stopBy, .long M_hash]), .inr (406, .inl M_s), .inr (2436, .inl M_saved), .inr (406, .inl M_snapshot), .inr (60, .inl M_text)] (.inl (some (.int res.1))) [.inl (6, [.ref 1, .ref 2, .int M_savedMany, .ref 3, .int M_isTaken, .ref 4, .int M_length, .int res.2, .int M_spelt, .int M_speltMany, .int M_place, .int M_kind, .int M_one, .int M_two, .int M_three, .int M_begins, .int M_done, .int M_stopBy, .long M_hash]), .inr (406, .inl M_s), .inr (2436, .inl M_saved), .inr (406, .inl M_snapshot), .inr (60, .inl M_text)] := by
  unfold s_X11_name at hf
  refine Ct.of (L := [some (.ref 0), some (.int a1), some (.int a2), some (.int a3)]) cal_X11_name (fent_pad (j := 0) rfl) (Nat.le_of_ble_eq_true rfl) ?_
  refine V.aload_n (i := 0) dX11_name_0 rfl rfl ?_
  refine V.aload_n (i := 0) dX11_name_1 rfl rfl ?_
  refine V.iload_n (i := 1) dX11_name_2 rfl rfl ?_
  refine V.iload_n (i := 2) dX11_name_3 rfl rfl ?_
  obtain ⟨v1, hv1, hf⟩ := fbind hf
  refine V.callVn (pl := [0, 1, 2, 3, 4]) (σ' := [.inl (6, [.ref 1, .ref 2, .int M_savedMany, .ref 3, .int M_isTaken, .ref 4, .int M_length, .int M_thrown, .int M_spelt, .int M_speltMany, .int M_place, .int M_kind, .int M_one, .int M_two, .int M_three, .int M_begins, .int M_done, .int M_stopBy, .long M_hash]), .inr (406, .inl M_s), .inr (2436, .inl M_saved), .inr (406, .inl M_snapshot), .inr (60, .inl M_text)]) (st2 := [.int v1, .ref 0]) (cl2 := 0) (sl2 := 0) (ct_X11_isName (a1 := a1) (a2 := a2) (M_savedMany := M_savedMany) (M_isTaken := M_isTaken) (M_length := M_length) (M_thrown := M_thrown) (M_spelt := M_spelt) (M_speltMany := M_speltMany) (M_place := M_place) (M_kind := M_kind) (M_one := M_one) (M_two := M_two) (M_three := M_three) (M_begins := M_begins) (M_done := M_done) (M_stopBy := M_stopBy) (M_hash := M_hash) (M_s := M_s) (M_saved := M_saved) (M_snapshot := M_snapshot) (M_text := M_text) hv1) dX11_name_4 w1204 ⟨w1206, w24⟩ cal_X11_isName rfl ⟨⟨Nat.le_of_ble_eq_true rfl, Nat.le_of_ble_eq_true rfl⟩, Nat.le_of_ble_eq_true rfl, Nat.le_of_ble_eq_true rfl⟩ (Nat.le_of_ble_eq_true rfl) (Or.inl ⟨_, _, _, _, rfl, rfl⟩) rfl ⟨rfl, ⟨by decide, by decide⟩, rfl, (fr_cons (Or.inl (Nat.le_of_ble_eq_true rfl)) (fr_cons (Or.inl (Nat.le_of_ble_eq_true rfl)) (fr_cons (Or.inl (Nat.le_of_ble_eq_true rfl)) (fr_cons (Or.inl (Nat.le_of_ble_eq_true rfl)) (fr_nil))))), rfl⟩ fr_i rfl rfl rfl rfl ?_
  refine V.if_ne (tgt := 14) dX11_name_7 (by decide) (fun h => ?_) (fun h => ?_)
  · have hf := fif_f h hf
    refine V.iload_n (i := 3) dX11_name_14 rfl rfl ?_
    refine V.iconst (v := 0) dX11_name_15 rfl ?_
    refine V.iconst (v := 4) dX11_name_16 rfl ?_
    obtain ⟨v2, hv2, hf⟩ := fbind hf
    refine V.callSn (pl := []) (σ' := [.inl (6, [.ref 1, .ref 2, .int M_savedMany, .ref 3, .int M_isTaken, .ref 4, .int M_length, .int M_thrown, .int M_spelt, .int M_speltMany, .int M_place, .int M_kind, .int M_one, .int M_two, .int M_three, .int M_begins, .int M_done, .int M_stopBy, .long M_hash]), .inr (406, .inl M_s), .inr (2436, .inl M_saved), .inr (406, .inl M_snapshot), .inr (60, .inl M_text)]) (st2 := [.int v2, .ref 0]) (cl2 := 0) (sl2 := 0) (ct_X11_in (a0 := a3) (a1 := 0) (a2 := 4) hv2) dX11_name_17 w1113 w1114 cal_X11_in ⟨⟨Nat.le_of_ble_eq_true rfl, Nat.le_of_ble_eq_true rfl⟩, Nat.le_of_ble_eq_true rfl, Nat.le_of_ble_eq_true rfl⟩ (Nat.le_of_ble_eq_true rfl) rfl ⟨rfl, ⟨by decide, by decide⟩, rfl, (fr_nil), rfl⟩ fr_i rfl rfl rfl rfl ?_
    refine V.if_eq (tgt := 27) dX11_name_20 (by decide) (fun h => ?_) (fun h => ?_)
    · have hf := fif_t h hf
      refine V.iconst (v := 2) dX11_name_27 rfl ?_
      obtain ⟨v3, hv3, hf⟩ := fbind hf
      refine V.callVn (pl := [0, 1, 2, 3, 4]) (σ' := [.inl (6, [.ref 1, .ref 2, .int M_savedMany, .ref 3, .int M_isTaken, .ref 4, .int M_length, .int v3.2, .int M_spelt, .int M_speltMany, .int M_place, .int M_kind, .int M_one, .int M_two, .int M_three, .int M_begins, .int M_done, .int M_stopBy, .long M_hash]), .inr (406, .inl M_s), .inr (2436, .inl M_saved), .inr (406, .inl M_snapshot), .inr (60, .inl M_text)]) (st2 := [.int v3.1]) (cl2 := 0) (sl2 := 0) (ct_X11_holds (a1 := 2) (M_savedMany := M_savedMany) (M_isTaken := M_isTaken) (M_length := M_length) (M_thrown := M_thrown) (M_spelt := M_spelt) (M_speltMany := M_speltMany) (M_place := M_place) (M_kind := M_kind) (M_one := M_one) (M_two := M_two) (M_three := M_three) (M_begins := M_begins) (M_done := M_done) (M_stopBy := M_stopBy) (M_hash := M_hash) (M_s := M_s) (M_saved := M_saved) (M_snapshot := M_snapshot) (M_text := M_text) hv3) dX11_name_28 w1181 ⟨w1183, w20⟩ cal_X11_holds rfl ⟨⟨Nat.le_of_ble_eq_true rfl, Nat.le_of_ble_eq_true rfl⟩, Nat.le_of_ble_eq_true rfl, Nat.le_of_ble_eq_true rfl⟩ (Nat.le_of_ble_eq_true rfl) (Or.inl ⟨_, _, _, _, rfl, rfl⟩) rfl ⟨rfl, ⟨by decide, by decide⟩, rfl, (fr_cons (Or.inl (Nat.le_of_ble_eq_true rfl)) (fr_cons (Or.inl (Nat.le_of_ble_eq_true rfl)) (fr_cons (Or.inl (Nat.le_of_ble_eq_true rfl)) (fr_cons (Or.inl (Nat.le_of_ble_eq_true rfl)) (fr_nil))))), rfl⟩ fr_i rfl rfl rfl rfl ?_
      refine V.if_eq (tgt := 47) dX11_name_31 (by decide) (fun h => ?_) (fun h => ?_)
      · have hf := fif_t h hf
        refine V.iconst (v := 0) dX11_name_47 rfl ?_
        obtain rfl := Option.some.inj hf
        exact V.iret dX11_name_48 rfl (Nat.le_of_ble_eq_true rfl) (Nat.le_of_ble_eq_true rfl) rfl
      · have hf := fif_f h hf
        refine V.aload_n (i := 0) dX11_name_34 rfl rfl ?_
        refine V.iload_n (i := 1) dX11_name_35 rfl rfl ?_
        refine V.iload_n (i := 2) dX11_name_36 rfl rfl ?_
        obtain ⟨v4, hv4, hf⟩ := fbind hf
        refine V.callSn (pl := []) (σ' := [.inl (6, [.ref 1, .ref 2, .int M_savedMany, .ref 3, .int M_isTaken, .ref 4, .int M_length, .int v3.2, .int M_spelt, .int M_speltMany, .int M_place, .int M_kind, .int M_one, .int M_two, .int M_three, .int M_begins, .int M_done, .int M_stopBy, .long M_hash]), .inr (406, .inl M_s), .inr (2436, .inl M_saved), .inr (406, .inl M_snapshot), .inr (60, .inl M_text)]) (st2 := [.int v4, .ref 0]) (cl2 := 0) (sl2 := 0) (ct_X11_whereIs (a0 := a1) (a1 := a2) hv4) dX11_name_37 w1147 w1148 cal_X11_whereIs ⟨⟨Nat.le_of_ble_eq_true rfl, Nat.le_of_ble_eq_true rfl⟩, Nat.le_of_ble_eq_true rfl, Nat.le_of_ble_eq_true rfl⟩ (Nat.le_of_ble_eq_true rfl) rfl ⟨rfl, ⟨by decide, by decide⟩, rfl, (fr_nil), rfl⟩ fr_i rfl rfl rfl rfl ?_
        refine V.iload_n (i := 3) dX11_name_40 rfl rfl ?_
        obtain ⟨v5, hv5, hf⟩ := fbind hf
        refine V.callVn (pl := [0, 1, 2, 3, 4]) (σ' := [.inl (6, [.ref 1, .ref 2, .int M_savedMany, .ref 3, .int M_isTaken, .ref 4, .int M_length, .int v3.2, .int M_spelt, .int M_speltMany, .int M_place, .int M_kind, .int M_one, .int M_two, .int M_three, .int M_begins, .int M_done, .int M_stopBy, .long M_hash]), .inr (406, .inl M_s), .inr (2436, .inl M_saved), .inr (406, .inl M_snapshot), .inr (60, .inl M_text)]) (st2 := [.int v5]) (cl2 := 0) (sl2 := 0) (ct_X11_nameNumber (a1 := v4) (a2 := a3) (M_savedMany := M_savedMany) (M_isTaken := M_isTaken) (M_length := M_length) (M_thrown := v3.2) (M_spelt := M_spelt) (M_speltMany := M_speltMany) (M_place := M_place) (M_kind := M_kind) (M_one := M_one) (M_two := M_two) (M_three := M_three) (M_begins := M_begins) (M_done := M_done) (M_stopBy := M_stopBy) (M_hash := M_hash) (M_s := M_s) (M_saved := M_saved) (M_snapshot := M_snapshot) (M_text := M_text) hv5) dX11_name_41 w1375 ⟨w1377, w49⟩ cal_X11_nameNumber rfl ⟨⟨Nat.le_of_ble_eq_true rfl, Nat.le_of_ble_eq_true rfl⟩, Nat.le_of_ble_eq_true rfl, Nat.le_of_ble_eq_true rfl⟩ (Nat.le_of_ble_eq_true rfl) (Or.inl ⟨_, _, _, _, rfl, rfl⟩) rfl ⟨rfl, ⟨by decide, by decide⟩, rfl, (fr_cons (Or.inl (Nat.le_of_ble_eq_true rfl)) (fr_cons (Or.inl (Nat.le_of_ble_eq_true rfl)) (fr_cons (Or.inl (Nat.le_of_ble_eq_true rfl)) (fr_cons (Or.inl (Nat.le_of_ble_eq_true rfl)) (fr_nil))))), rfl⟩ fr_i rfl rfl rfl rfl ?_
        refine V.goto (tgt := 48) dX11_name_44 (by decide) ?_
        obtain rfl := Option.some.inj hf
        exact V.iret dX11_name_48 rfl (Nat.le_of_ble_eq_true rfl) (Nat.le_of_ble_eq_true rfl) rfl
    · have hf := fif_f h hf
      refine V.iconst (v := 0) dX11_name_23 rfl ?_
      refine V.goto (tgt := 28) dX11_name_24 (by decide) ?_
      obtain ⟨v6, hv6, hf⟩ := fbind hf
      refine V.callVn (pl := [0, 1, 2, 3, 4]) (σ' := [.inl (6, [.ref 1, .ref 2, .int M_savedMany, .ref 3, .int M_isTaken, .ref 4, .int M_length, .int v6.2, .int M_spelt, .int M_speltMany, .int M_place, .int M_kind, .int M_one, .int M_two, .int M_three, .int M_begins, .int M_done, .int M_stopBy, .long M_hash]), .inr (406, .inl M_s), .inr (2436, .inl M_saved), .inr (406, .inl M_snapshot), .inr (60, .inl M_text)]) (st2 := [.int v6.1]) (cl2 := 0) (sl2 := 0) (ct_X11_holds (a1 := 0) (M_savedMany := M_savedMany) (M_isTaken := M_isTaken) (M_length := M_length) (M_thrown := M_thrown) (M_spelt := M_spelt) (M_speltMany := M_speltMany) (M_place := M_place) (M_kind := M_kind) (M_one := M_one) (M_two := M_two) (M_three := M_three) (M_begins := M_begins) (M_done := M_done) (M_stopBy := M_stopBy) (M_hash := M_hash) (M_s := M_s) (M_saved := M_saved) (M_snapshot := M_snapshot) (M_text := M_text) hv6) dX11_name_28 w1181 ⟨w1183, w20⟩ cal_X11_holds rfl ⟨⟨Nat.le_of_ble_eq_true rfl, Nat.le_of_ble_eq_true rfl⟩, Nat.le_of_ble_eq_true rfl, Nat.le_of_ble_eq_true rfl⟩ (Nat.le_of_ble_eq_true rfl) (Or.inl ⟨_, _, _, _, rfl, rfl⟩) rfl ⟨rfl, ⟨by decide, by decide⟩, rfl, (fr_cons (Or.inl (Nat.le_of_ble_eq_true rfl)) (fr_cons (Or.inl (Nat.le_of_ble_eq_true rfl)) (fr_cons (Or.inl (Nat.le_of_ble_eq_true rfl)) (fr_cons (Or.inl (Nat.le_of_ble_eq_true rfl)) (fr_nil))))), rfl⟩ fr_i rfl rfl rfl rfl ?_
      refine V.if_eq (tgt := 47) dX11_name_31 (by decide) (fun h => ?_) (fun h => ?_)
      · have hf := fif_t h hf
        refine V.iconst (v := 0) dX11_name_47 rfl ?_
        obtain rfl := Option.some.inj hf
        exact V.iret dX11_name_48 rfl (Nat.le_of_ble_eq_true rfl) (Nat.le_of_ble_eq_true rfl) rfl
      · have hf := fif_f h hf
        refine V.aload_n (i := 0) dX11_name_34 rfl rfl ?_
        refine V.iload_n (i := 1) dX11_name_35 rfl rfl ?_
        refine V.iload_n (i := 2) dX11_name_36 rfl rfl ?_
        obtain ⟨v7, hv7, hf⟩ := fbind hf
        refine V.callSn (pl := []) (σ' := [.inl (6, [.ref 1, .ref 2, .int M_savedMany, .ref 3, .int M_isTaken, .ref 4, .int M_length, .int v6.2, .int M_spelt, .int M_speltMany, .int M_place, .int M_kind, .int M_one, .int M_two, .int M_three, .int M_begins, .int M_done, .int M_stopBy, .long M_hash]), .inr (406, .inl M_s), .inr (2436, .inl M_saved), .inr (406, .inl M_snapshot), .inr (60, .inl M_text)]) (st2 := [.int v7, .ref 0]) (cl2 := 0) (sl2 := 0) (ct_X11_whereIs (a0 := a1) (a1 := a2) hv7) dX11_name_37 w1147 w1148 cal_X11_whereIs ⟨⟨Nat.le_of_ble_eq_true rfl, Nat.le_of_ble_eq_true rfl⟩, Nat.le_of_ble_eq_true rfl, Nat.le_of_ble_eq_true rfl⟩ (Nat.le_of_ble_eq_true rfl) rfl ⟨rfl, ⟨by decide, by decide⟩, rfl, (fr_nil), rfl⟩ fr_i rfl rfl rfl rfl ?_
        refine V.iload_n (i := 3) dX11_name_40 rfl rfl ?_
        obtain ⟨v8, hv8, hf⟩ := fbind hf
        refine V.callVn (pl := [0, 1, 2, 3, 4]) (σ' := [.inl (6, [.ref 1, .ref 2, .int M_savedMany, .ref 3, .int M_isTaken, .ref 4, .int M_length, .int v6.2, .int M_spelt, .int M_speltMany, .int M_place, .int M_kind, .int M_one, .int M_two, .int M_three, .int M_begins, .int M_done, .int M_stopBy, .long M_hash]), .inr (406, .inl M_s), .inr (2436, .inl M_saved), .inr (406, .inl M_snapshot), .inr (60, .inl M_text)]) (st2 := [.int v8]) (cl2 := 0) (sl2 := 0) (ct_X11_nameNumber (a1 := v7) (a2 := a3) (M_savedMany := M_savedMany) (M_isTaken := M_isTaken) (M_length := M_length) (M_thrown := v6.2) (M_spelt := M_spelt) (M_speltMany := M_speltMany) (M_place := M_place) (M_kind := M_kind) (M_one := M_one) (M_two := M_two) (M_three := M_three) (M_begins := M_begins) (M_done := M_done) (M_stopBy := M_stopBy) (M_hash := M_hash) (M_s := M_s) (M_saved := M_saved) (M_snapshot := M_snapshot) (M_text := M_text) hv8) dX11_name_41 w1375 ⟨w1377, w49⟩ cal_X11_nameNumber rfl ⟨⟨Nat.le_of_ble_eq_true rfl, Nat.le_of_ble_eq_true rfl⟩, Nat.le_of_ble_eq_true rfl, Nat.le_of_ble_eq_true rfl⟩ (Nat.le_of_ble_eq_true rfl) (Or.inl ⟨_, _, _, _, rfl, rfl⟩) rfl ⟨rfl, ⟨by decide, by decide⟩, rfl, (fr_cons (Or.inl (Nat.le_of_ble_eq_true rfl)) (fr_cons (Or.inl (Nat.le_of_ble_eq_true rfl)) (fr_cons (Or.inl (Nat.le_of_ble_eq_true rfl)) (fr_cons (Or.inl (Nat.le_of_ble_eq_true rfl)) (fr_nil))))), rfl⟩ fr_i rfl rfl rfl rfl ?_
        refine V.goto (tgt := 48) dX11_name_44 (by decide) ?_
        obtain rfl := Option.some.inj hf
        exact V.iret dX11_name_48 rfl (Nat.le_of_ble_eq_true rfl) (Nat.le_of_ble_eq_true rfl) rfl
  · have hf := fif_t h hf
    refine V.iconst (v := 1) dX11_name_10 rfl ?_
    refine V.goto (tgt := 28) dX11_name_11 (by decide) ?_
    obtain ⟨v9, hv9, hf⟩ := fbind hf
    refine V.callVn (pl := [0, 1, 2, 3, 4]) (σ' := [.inl (6, [.ref 1, .ref 2, .int M_savedMany, .ref 3, .int M_isTaken, .ref 4, .int M_length, .int v9.2, .int M_spelt, .int M_speltMany, .int M_place, .int M_kind, .int M_one, .int M_two, .int M_three, .int M_begins, .int M_done, .int M_stopBy, .long M_hash]), .inr (406, .inl M_s), .inr (2436, .inl M_saved), .inr (406, .inl M_snapshot), .inr (60, .inl M_text)]) (st2 := [.int v9.1]) (cl2 := 0) (sl2 := 0) (ct_X11_holds (a1 := 1) (M_savedMany := M_savedMany) (M_isTaken := M_isTaken) (M_length := M_length) (M_thrown := M_thrown) (M_spelt := M_spelt) (M_speltMany := M_speltMany) (M_place := M_place) (M_kind := M_kind) (M_one := M_one) (M_two := M_two) (M_three := M_three) (M_begins := M_begins) (M_done := M_done) (M_stopBy := M_stopBy) (M_hash := M_hash) (M_s := M_s) (M_saved := M_saved) (M_snapshot := M_snapshot) (M_text := M_text) hv9) dX11_name_28 w1181 ⟨w1183, w20⟩ cal_X11_holds rfl ⟨⟨Nat.le_of_ble_eq_true rfl, Nat.le_of_ble_eq_true rfl⟩, Nat.le_of_ble_eq_true rfl, Nat.le_of_ble_eq_true rfl⟩ (Nat.le_of_ble_eq_true rfl) (Or.inl ⟨_, _, _, _, rfl, rfl⟩) rfl ⟨rfl, ⟨by decide, by decide⟩, rfl, (fr_cons (Or.inl (Nat.le_of_ble_eq_true rfl)) (fr_cons (Or.inl (Nat.le_of_ble_eq_true rfl)) (fr_cons (Or.inl (Nat.le_of_ble_eq_true rfl)) (fr_cons (Or.inl (Nat.le_of_ble_eq_true rfl)) (fr_nil))))), rfl⟩ fr_i rfl rfl rfl rfl ?_
    refine V.if_eq (tgt := 47) dX11_name_31 (by decide) (fun h => ?_) (fun h => ?_)
    · have hf := fif_t h hf
      refine V.iconst (v := 0) dX11_name_47 rfl ?_
      obtain rfl := Option.some.inj hf
      exact V.iret dX11_name_48 rfl (Nat.le_of_ble_eq_true rfl) (Nat.le_of_ble_eq_true rfl) rfl
    · have hf := fif_f h hf
      refine V.aload_n (i := 0) dX11_name_34 rfl rfl ?_
      refine V.iload_n (i := 1) dX11_name_35 rfl rfl ?_
      refine V.iload_n (i := 2) dX11_name_36 rfl rfl ?_
      obtain ⟨v10, hv10, hf⟩ := fbind hf
      refine V.callSn (pl := []) (σ' := [.inl (6, [.ref 1, .ref 2, .int M_savedMany, .ref 3, .int M_isTaken, .ref 4, .int M_length, .int v9.2, .int M_spelt, .int M_speltMany, .int M_place, .int M_kind, .int M_one, .int M_two, .int M_three, .int M_begins, .int M_done, .int M_stopBy, .long M_hash]), .inr (406, .inl M_s), .inr (2436, .inl M_saved), .inr (406, .inl M_snapshot), .inr (60, .inl M_text)]) (st2 := [.int v10, .ref 0]) (cl2 := 0) (sl2 := 0) (ct_X11_whereIs (a0 := a1) (a1 := a2) hv10) dX11_name_37 w1147 w1148 cal_X11_whereIs ⟨⟨Nat.le_of_ble_eq_true rfl, Nat.le_of_ble_eq_true rfl⟩, Nat.le_of_ble_eq_true rfl, Nat.le_of_ble_eq_true rfl⟩ (Nat.le_of_ble_eq_true rfl) rfl ⟨rfl, ⟨by decide, by decide⟩, rfl, (fr_nil), rfl⟩ fr_i rfl rfl rfl rfl ?_
      refine V.iload_n (i := 3) dX11_name_40 rfl rfl ?_
      obtain ⟨v11, hv11, hf⟩ := fbind hf
      refine V.callVn (pl := [0, 1, 2, 3, 4]) (σ' := [.inl (6, [.ref 1, .ref 2, .int M_savedMany, .ref 3, .int M_isTaken, .ref 4, .int M_length, .int v9.2, .int M_spelt, .int M_speltMany, .int M_place, .int M_kind, .int M_one, .int M_two, .int M_three, .int M_begins, .int M_done, .int M_stopBy, .long M_hash]), .inr (406, .inl M_s), .inr (2436, .inl M_saved), .inr (406, .inl M_snapshot), .inr (60, .inl M_text)]) (st2 := [.int v11]) (cl2 := 0) (sl2 := 0) (ct_X11_nameNumber (a1 := v10) (a2 := a3) (M_savedMany := M_savedMany) (M_isTaken := M_isTaken) (M_length := M_length) (M_thrown := v9.2) (M_spelt := M_spelt) (M_speltMany := M_speltMany) (M_place := M_place) (M_kind := M_kind) (M_one := M_one) (M_two := M_two) (M_three := M_three) (M_begins := M_begins) (M_done := M_done) (M_stopBy := M_stopBy) (M_hash := M_hash) (M_s := M_s) (M_saved := M_saved) (M_snapshot := M_snapshot) (M_text := M_text) hv11) dX11_name_41 w1375 ⟨w1377, w49⟩ cal_X11_nameNumber rfl ⟨⟨Nat.le_of_ble_eq_true rfl, Nat.le_of_ble_eq_true rfl⟩, Nat.le_of_ble_eq_true rfl, Nat.le_of_ble_eq_true rfl⟩ (Nat.le_of_ble_eq_true rfl) (Or.inl ⟨_, _, _, _, rfl, rfl⟩) rfl ⟨rfl, ⟨by decide, by decide⟩, rfl, (fr_cons (Or.inl (Nat.le_of_ble_eq_true rfl)) (fr_cons (Or.inl (Nat.le_of_ble_eq_true rfl)) (fr_cons (Or.inl (Nat.le_of_ble_eq_true rfl)) (fr_cons (Or.inl (Nat.le_of_ble_eq_true rfl)) (fr_nil))))), rfl⟩ fr_i rfl rfl rfl rfl ?_
      refine V.goto (tgt := 48) dX11_name_44 (by decide) ?_
      obtain rfl := Option.some.inj hf
      exact V.iret dX11_name_48 rfl (Nat.le_of_ble_eq_true rfl) (Nat.le_of_ble_eq_true rfl) rfl
