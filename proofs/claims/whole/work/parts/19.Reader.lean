/-! laid by program: shallow functions and contracts -/
def k_X5_init : fK := (yX5_init, cX5_init, 1, none, [], (1, 12), (0, 0), (0, 0))
theorem cal_X5_init : fCal k_X5_init 0 := ⟨⟨wc157, w71⟩, ⟨by decide +kernel, by decide +kernel⟩, by decide +kernel, by decide +kernel⟩
def s_X5_init : Option ((Nat) × (Int32)) := some (0, 0)
set_option maxHeartbeats 4000000 in
set_option maxRecDepth 100000 in
theorem ct_X5_init {res : (Nat) × (Int32)} (hf : s_X5_init = some res) : Ct k_X5_init [.ref 0] [.inl (2, [.null, .int 0])] (.inl none) [.inl (2, [.ref (res.1 + 1000), .int res.2])] := by
  unfold s_X5_init at hf
  refine Ct.of (L := [some (.ref 0)]) cal_X5_init (fent_pad (j := 0) rfl) (Nat.le_of_ble_eq_true rfl) ?_
  refine V.aload_n (i := 0) dX5_init_0 rfl rfl ?_
  refine V.objInit dX5_init_1 w158 w98 w99 (Nat.le_of_ble_eq_true rfl) (Nat.le_of_ble_eq_true rfl) ?_
  refine V.aload_n (i := 0) dX5_init_4 rfl rfl ?_
  refine V.ldcS (i := 0) dX5_init_5 (List.mem_of_getElem? (i := 0) rfl) ?_
  refine V.putfield (ty := tyX5) (kf := 0) (σ' := [.inl (2, [.ref 1000, .int 0])]) fl_RX5 dX5_init_7 w160 (Nat.le_of_ble_eq_true rfl) rfl (fun _ => ⟨rfl, rfl⟩) rfl (Nat.le_of_ble_eq_true rfl) rfl ?_
  refine V.aload_n (i := 0) dX5_init_10 rfl rfl ?_
  refine V.iconst (v := 0) dX5_init_11 rfl ?_
  refine V.putfield (ty := tyX5) (kf := 1) (σ' := [.inl (2, [.ref 1000, .int 0])]) fl_RX5 dX5_init_12 w161 (Nat.le_of_ble_eq_true rfl) rfl (fun _ => ⟨rfl, rfl⟩) rfl (Nat.le_of_ble_eq_true rfl) rfl ?_
  obtain rfl := Option.some.inj hf
  exact V.vret dX5_init_15 rfl (Nat.le_of_ble_eq_true rfl) (Nat.le_of_ble_eq_true rfl) rfl
def k_X5_patternOf : fK := (yX5_patternOf, cX5_patternOf, 1, (some (.object "java/lang/String")), [], (0, 0), (0, 0), (0, 0))
theorem cal_X5_patternOf : fCal k_X5_patternOf 1 := ⟨⟨wc279, w71⟩, ⟨by decide +kernel, by decide +kernel⟩, by decide +kernel, by decide +kernel⟩
def s_X5_patternOf (a0 : Int32) : Option (Nat) := if (a0 = 99 : Prop) then (some 5) else (if (a0 = 102 : Prop) then (some 4) else (if (a0 = 103 : Prop) then (some 3) else (if (a0 = 115 : Prop) then (some 2) else (if (a0 = 116 : Prop) then (some 1) else (some 0)))))
set_option maxHeartbeats 4000000 in
set_option maxRecDepth 100000 in
theorem ct_X5_patternOf {a0 : Int32} {res : Nat} (hf : s_X5_patternOf a0 = some res) : Ct k_X5_patternOf [.int a0] [] (.inl (some (.ref (res + 1000)))) [] := by
  unfold s_X5_patternOf at hf
  refine Ct.of (L := [some (.int a0)]) cal_X5_patternOf (fent_pad (j := 0) rfl) (Nat.le_of_ble_eq_true rfl) ?_
  refine V.iload_n (i := 0) dX5_patternOf_0 rfl rfl ?_
  by_cases h99 : a0 = 99
  · have hf := fif_t h99 hf
    refine V.cgi h99 (V.lookup (off := 63) (tgt := 64) dX5_patternOf_1 rfl rfl (by decide) ?_)
    refine V.ldcS (i := 5) dX5_patternOf_64 (List.mem_of_getElem? (i := 5) rfl) ?_
    obtain rfl := Option.some.inj hf
    exact V.aret dX5_patternOf_66 rfl (Nat.le_of_ble_eq_true rfl) (Nat.le_of_ble_eq_true rfl) rfl
  · have hf := fif_f h99 hf
    by_cases h102 : a0 = 102
    · have hf := fif_t h102 hf
      refine V.cgi h102 (V.lookup (off := 60) (tgt := 61) dX5_patternOf_1 rfl rfl (by decide) ?_)
      refine V.ldcS (i := 4) dX5_patternOf_61 (List.mem_of_getElem? (i := 4) rfl) ?_
      obtain rfl := Option.some.inj hf
      exact V.aret dX5_patternOf_63 rfl (Nat.le_of_ble_eq_true rfl) (Nat.le_of_ble_eq_true rfl) rfl
    · have hf := fif_f h102 hf
      by_cases h103 : a0 = 103
      · have hf := fif_t h103 hf
        refine V.cgi h103 (V.lookup (off := 57) (tgt := 58) dX5_patternOf_1 rfl rfl (by decide) ?_)
        refine V.ldcS (i := 3) dX5_patternOf_58 (List.mem_of_getElem? (i := 3) rfl) ?_
        obtain rfl := Option.some.inj hf
        exact V.aret dX5_patternOf_60 rfl (Nat.le_of_ble_eq_true rfl) (Nat.le_of_ble_eq_true rfl) rfl
      · have hf := fif_f h103 hf
        by_cases h115 : a0 = 115
        · have hf := fif_t h115 hf
          refine V.cgi h115 (V.lookup (off := 54) (tgt := 55) dX5_patternOf_1 rfl rfl (by decide) ?_)
          refine V.ldcS (i := 2) dX5_patternOf_55 (List.mem_of_getElem? (i := 2) rfl) ?_
          obtain rfl := Option.some.inj hf
          exact V.aret dX5_patternOf_57 rfl (Nat.le_of_ble_eq_true rfl) (Nat.le_of_ble_eq_true rfl) rfl
        · have hf := fif_f h115 hf
          by_cases h116 : a0 = 116
          · have hf := fif_t h116 hf
            refine V.cgi h116 (V.lookup (off := 51) (tgt := 52) dX5_patternOf_1 rfl rfl (by decide) ?_)
            refine V.ldcS (i := 1) dX5_patternOf_52 (List.mem_of_getElem? (i := 1) rfl) ?_
            obtain rfl := Option.some.inj hf
            exact V.aret dX5_patternOf_54 rfl (Nat.le_of_ble_eq_true rfl) (Nat.le_of_ble_eq_true rfl) rfl
          · have hf := fif_f h116 hf
            refine V.lookup (off := 66) (tgt := 67) dX5_patternOf_1 rfl (by simp only [Array.toList]; rw [lv_osw h99 (by decide), lv_osw h102 (by decide), lv_osw h103 (by decide), lv_osw h115 (by decide), lv_osw h116 (by decide)]; rfl) (by decide) ?_
            refine V.ldcS (i := 0) dX5_patternOf_67 (List.mem_of_getElem? (i := 0) rfl) ?_
            obtain rfl := Option.some.inj hf
            exact V.aret dX5_patternOf_69 rfl (Nat.le_of_ble_eq_true rfl) (Nat.le_of_ble_eq_true rfl) rfl
def k_X5_placeOfFisher : fK := (yX5_placeOfFisher, cX5_placeOfFisher, 1, (some .int), [], (4, 91), (0, 0), (0, 0))
theorem cal_X5_placeOfFisher : fCal k_X5_placeOfFisher 1 := ⟨⟨wc817, w71⟩, ⟨by decide +kernel, by decide +kernel⟩, by decide +kernel, by decide +kernel⟩
def s_X5_placeOfFisher (a0 : Int32) : Option (Int32) := (s_X5_patternOf a0).bind fun v1 => fsl v1 <| (s_J0_indexOf_0f7a4 v1 70).bind fun v2 => some v2
set_option maxHeartbeats 4000000 in
set_option maxRecDepth 100000 in
theorem ct_X5_placeOfFisher {a0 : Int32} {res : Int32} (hf : s_X5_placeOfFisher a0 = some res) : Ct k_X5_placeOfFisher [.int a0] [] (.inl (some (.int res))) [] := by
  unfold s_X5_placeOfFisher at hf
  refine Ct.of (L := [some (.int a0)]) cal_X5_placeOfFisher (fent_pad (j := 0) rfl) (Nat.le_of_ble_eq_true rfl) ?_
  refine V.iload_n (i := 0) dX5_placeOfFisher_0 rfl rfl ?_
  obtain ⟨v1, hv1, hf⟩ := fbind hf
  refine V.callSn (pl := []) (σ' := []) (st2 := [.ref (v1 + 1000)]) (cl2 := 0) (sl2 := 0) (ct_X5_patternOf (a0 := a0) hv1) dX5_placeOfFisher_1 w277 w278 cal_X5_patternOf ⟨⟨Nat.le_of_ble_eq_true rfl, Nat.le_of_ble_eq_true rfl⟩, Nat.le_of_ble_eq_true rfl, Nat.le_of_ble_eq_true rfl⟩ (Nat.le_of_ble_eq_true rfl) rfl ⟨rfl, ⟨by decide, by decide⟩, rfl, (fr_nil), rfl⟩ fr_s rfl rfl rfl rfl ?_
  refine V.bipush (v := 70) dX5_placeOfFisher_4 rfl ?_
  obtain ⟨hv1, hf⟩ := fsl_e hf
  obtain ⟨v2, hv2, hf⟩ := fbind hf
  refine V.callVn (pl := []) (σ' := []) (st2 := [.int v2]) (cl2 := 0) (sl2 := 0) (ct_J0_indexOf_0f7a4 (a0 := v1) (a1 := 70) hv1 hv2) dX5_placeOfFisher_6 w818 ⟨w819, w820⟩ cal_J0_indexOf_0f7a4 rfl ⟨⟨Nat.le_of_ble_eq_true rfl, Nat.le_of_ble_eq_true rfl⟩, Nat.le_of_ble_eq_true rfl, Nat.le_of_ble_eq_true rfl⟩ (Nat.le_of_ble_eq_true rfl) (Or.inr ⟨_, hv1, rfl, rfl⟩) rfl ⟨rfl, ⟨by decide, by decide⟩, rfl, (fr_nil), rfl⟩ fr_i rfl rfl rfl rfl ?_
  obtain rfl := Option.some.inj hf
  exact V.iret dX5_placeOfFisher_9 rfl (Nat.le_of_ble_eq_true rfl) (Nat.le_of_ble_eq_true rfl) rfl
def k_X5_mayEnd : fK := (yX5_mayEnd, cX5_mayEnd, 1, (some .boolean), [], (5, 106), (0, 0), (0, 0))
theorem cal_X5_mayEnd : fCal k_X5_mayEnd 0 := ⟨⟨wc228, w71⟩, ⟨by decide +kernel, by decide +kernel⟩, by decide +kernel, by decide +kernel⟩
def s_X5_mayEnd (Reader_pattern : Nat) (Reader_place : Int32) : Option (Int32) := if (Reader_place < 1 : Prop) then (some 0) else (fsl Reader_pattern <| (s_J0_length_8abf5 Reader_pattern).bind fun v1 => if (Reader_place ≤ v1 : Prop) then (fsl Reader_pattern <| (s_J0_length_8abf5 Reader_pattern).bind fun v2 => if (Reader_place = v2 : Prop) then (some 1) else (fsl Reader_pattern <| (s_J0_charAt_5068e Reader_pattern (Reader_place - 1)).bind fun v3 => if (v3 = 76 : Prop) then (some 1) else (some 0))) else (some 0))
set_option maxHeartbeats 4000000 in
set_option maxRecDepth 100000 in
theorem ct_X5_mayEnd {Reader_pattern : Nat} {Reader_place : Int32} {res : Int32} (hf : s_X5_mayEnd Reader_pattern Reader_place = some res) : Ct k_X5_mayEnd [.ref 0] [.inl (2, [.ref (Reader_pattern + 1000), .int Reader_place])] (.inl (some (.int res))) [.inl (2, [.ref (Reader_pattern + 1000), .int Reader_place])] := by
  unfold s_X5_mayEnd at hf
  refine Ct.of (L := [some (.ref 0)]) cal_X5_mayEnd (fent_pad (j := 0) rfl) (Nat.le_of_ble_eq_true rfl) ?_
  refine V.aload_n (i := 0) dX5_mayEnd_0 rfl rfl ?_
  refine V.getfield (kf := 1) (v := .int Reader_place) fl_RX5 dX5_mayEnd_1 w161 (Nat.le_of_ble_eq_true rfl) rfl rfl ?_
  refine V.iconst (v := 1) dX5_mayEnd_4 rfl ?_
  refine V.icmp_lt (tgt := 22) dX5_mayEnd_5 (by decide) (fun h => ?_) (fun h => ?_)
  · have hf := fif_t h hf
    refine V.iconst (v := 0) dX5_mayEnd_22 rfl ?_
    obtain rfl := Option.some.inj hf
    exact V.zret (v := 0) dX5_mayEnd_23 rfl (by decide +kernel) (Nat.le_of_ble_eq_true rfl) (Nat.le_of_ble_eq_true rfl) rfl
  · have hf := fif_f h hf
    refine V.aload_n (i := 0) dX5_mayEnd_8 rfl rfl ?_
    refine V.getfield (kf := 1) (v := .int Reader_place) fl_RX5 dX5_mayEnd_9 w161 (Nat.le_of_ble_eq_true rfl) rfl rfl ?_
    refine V.aload_n (i := 0) dX5_mayEnd_12 rfl rfl ?_
    refine V.getfield (kf := 0) (v := .ref (Reader_pattern + 1000)) fl_RX5 dX5_mayEnd_13 w160 (Nat.le_of_ble_eq_true rfl) rfl rfl ?_
    obtain ⟨hReader_pattern, hf⟩ := fsl_e hf
    obtain ⟨v1, hv1, hf⟩ := fbind hf
    refine V.callVn (pl := []) (σ' := [.inl (2, [.ref (Reader_pattern + 1000), .int Reader_place])]) (st2 := [.int v1, .int Reader_place]) (cl2 := 0) (sl2 := 0) (ct_J0_length_8abf5 (a0 := Reader_pattern) hReader_pattern hv1) dX5_mayEnd_16 w229 ⟨w230, w231⟩ cal_J0_length_8abf5 rfl ⟨⟨Nat.le_of_ble_eq_true rfl, Nat.le_of_ble_eq_true rfl⟩, Nat.le_of_ble_eq_true rfl, Nat.le_of_ble_eq_true rfl⟩ (Nat.le_of_ble_eq_true rfl) (Or.inr ⟨_, hReader_pattern, rfl, rfl⟩) rfl ⟨rfl, ⟨by decide, by decide⟩, rfl, (fr_nil), rfl⟩ fr_i rfl rfl rfl rfl ?_
    refine V.icmp_le (tgt := 24) dX5_mayEnd_19 (by decide) (fun h => ?_) (fun h => ?_)
    · have hf := fif_t h hf
      refine V.aload_n (i := 0) dX5_mayEnd_24 rfl rfl ?_
      refine V.getfield (kf := 1) (v := .int Reader_place) fl_RX5 dX5_mayEnd_25 w161 (Nat.le_of_ble_eq_true rfl) rfl rfl ?_
      refine V.aload_n (i := 0) dX5_mayEnd_28 rfl rfl ?_
      refine V.getfield (kf := 0) (v := .ref (Reader_pattern + 1000)) fl_RX5 dX5_mayEnd_29 w160 (Nat.le_of_ble_eq_true rfl) rfl rfl ?_
      obtain ⟨hReader_pattern, hf⟩ := fsl_e hf
      obtain ⟨v2, hv2, hf⟩ := fbind hf
      refine V.callVn (pl := []) (σ' := [.inl (2, [.ref (Reader_pattern + 1000), .int Reader_place])]) (st2 := [.int v2, .int Reader_place]) (cl2 := 0) (sl2 := 0) (ct_J0_length_8abf5 (a0 := Reader_pattern) hReader_pattern hv2) dX5_mayEnd_32 w229 ⟨w230, w231⟩ cal_J0_length_8abf5 rfl ⟨⟨Nat.le_of_ble_eq_true rfl, Nat.le_of_ble_eq_true rfl⟩, Nat.le_of_ble_eq_true rfl, Nat.le_of_ble_eq_true rfl⟩ (Nat.le_of_ble_eq_true rfl) (Or.inr ⟨_, hReader_pattern, rfl, rfl⟩) rfl ⟨rfl, ⟨by decide, by decide⟩, rfl, (fr_nil), rfl⟩ fr_i rfl rfl rfl rfl ?_
      refine V.icmp_eq (tgt := 56) dX5_mayEnd_35 (by decide) (fun h => ?_) (fun h => ?_)
      · have hf := fif_t h hf
        refine V.iconst (v := 1) dX5_mayEnd_56 rfl ?_
        refine V.goto (tgt := 61) dX5_mayEnd_57 (by decide) ?_
        obtain rfl := Option.some.inj hf
        exact V.zret (v := 1) dX5_mayEnd_61 rfl (by decide +kernel) (Nat.le_of_ble_eq_true rfl) (Nat.le_of_ble_eq_true rfl) rfl
      · have hf := fif_f h hf
        refine V.aload_n (i := 0) dX5_mayEnd_38 rfl rfl ?_
        refine V.getfield (kf := 0) (v := .ref (Reader_pattern + 1000)) fl_RX5 dX5_mayEnd_39 w160 (Nat.le_of_ble_eq_true rfl) rfl rfl ?_
        refine V.aload_n (i := 0) dX5_mayEnd_42 rfl rfl ?_
        refine V.getfield (kf := 1) (v := .int Reader_place) fl_RX5 dX5_mayEnd_43 w161 (Nat.le_of_ble_eq_true rfl) rfl rfl ?_
        refine V.iconst (v := 1) dX5_mayEnd_46 rfl ?_
        refine V.isub dX5_mayEnd_47 ?_
        obtain ⟨hReader_pattern, hf⟩ := fsl_e hf
        obtain ⟨v3, hv3, hf⟩ := fbind hf
        refine V.callVn (pl := []) (σ' := [.inl (2, [.ref (Reader_pattern + 1000), .int Reader_place])]) (st2 := [.int v3]) (cl2 := 0) (sl2 := 0) (ct_J0_charAt_5068e (a0 := Reader_pattern) (a1 := (Reader_place - 1)) hReader_pattern hv3) dX5_mayEnd_48 w239 ⟨w240, w241⟩ cal_J0_charAt_5068e rfl ⟨⟨Nat.le_of_ble_eq_true rfl, Nat.le_of_ble_eq_true rfl⟩, Nat.le_of_ble_eq_true rfl, Nat.le_of_ble_eq_true rfl⟩ (Nat.le_of_ble_eq_true rfl) (Or.inr ⟨_, hReader_pattern, rfl, rfl⟩) rfl ⟨rfl, ⟨by decide, by decide⟩, rfl, (fr_nil), rfl⟩ fr_i rfl rfl rfl rfl ?_
        refine V.bipush (v := 76) dX5_mayEnd_51 rfl ?_
        refine V.icmp_ne (tgt := 60) dX5_mayEnd_53 (by decide) (fun h => ?_) (fun h => ?_)
        · have hf := fif_f h hf
          refine V.iconst (v := 0) dX5_mayEnd_60 rfl ?_
          obtain rfl := Option.some.inj hf
          exact V.zret (v := 0) dX5_mayEnd_61 rfl (by decide +kernel) (Nat.le_of_ble_eq_true rfl) (Nat.le_of_ble_eq_true rfl) rfl
        · have hf := fif_t h hf
          refine V.iconst (v := 1) dX5_mayEnd_56 rfl ?_
          refine V.goto (tgt := 61) dX5_mayEnd_57 (by decide) ?_
          obtain rfl := Option.some.inj hf
          exact V.zret (v := 1) dX5_mayEnd_61 rfl (by decide +kernel) (Nat.le_of_ble_eq_true rfl) (Nat.le_of_ble_eq_true rfl) rfl
    · have hf := fif_f h hf
      refine V.iconst (v := 0) dX5_mayEnd_22 rfl ?_
      obtain rfl := Option.some.inj hf
      exact V.zret (v := 0) dX5_mayEnd_23 rfl (by decide +kernel) (Nat.le_of_ble_eq_true rfl) (Nat.le_of_ble_eq_true rfl) rfl
def k_X5_fits : fK := (yX5_fits, cX5_fits, 2, (some .boolean), [], (1, 20), (0, 0), (0, 0))
theorem cal_X5_fits : fCal k_X5_fits 2 := ⟨⟨wc287, w71⟩, ⟨by decide +kernel, by decide +kernel⟩, by decide +kernel, by decide +kernel⟩
def s_X5_fits (a0 : Int32) (a1 : Int32) : Option (Int32) := if (a0 = 70 : Prop) then (if (a1 < 48 : Prop) then (some 0) else (if (53 ≤ a1 : Prop) then (some 0) else (some 1))) else (if (a0 = 76 : Prop) then ((s_X0_isCode a1).bind fun v1 => fz v1 (some v1)) else (if (a0 = 78 : Prop) then (if (a1 < 48 : Prop) then (some 0) else (if (54 ≤ a1 : Prop) then (some 0) else (some 1))) else (if (a1 = a0 : Prop) then (some 1) else (some 0))))
set_option maxHeartbeats 4000000 in
set_option maxRecDepth 100000 in
theorem ct_X5_fits {a0 : Int32} {a1 : Int32} {res : Int32} (hf : s_X5_fits a0 a1 = some res) : Ct k_X5_fits [.int a0, .int a1] [] (.inl (some (.int res))) [] := by
  unfold s_X5_fits at hf
  refine Ct.of (L := [some (.int a0), some (.int a1)]) cal_X5_fits (fent_pad (j := 0) rfl) (Nat.le_of_ble_eq_true rfl) ?_
  refine V.iload_n (i := 0) dX5_fits_0 rfl rfl ?_
  by_cases h70 : a0 = 70
  · have hf := fif_t h70 hf
    refine V.cgi h70 (V.lookup (off := 35) (tgt := 36) dX5_fits_1 rfl rfl (by decide) ?_)
    refine V.iload_n (i := 1) dX5_fits_36 rfl rfl ?_
    refine V.bipush (v := 48) dX5_fits_37 rfl ?_
    refine V.icmp_lt (tgt := 52) dX5_fits_39 (by decide) (fun h => ?_) (fun h => ?_)
    · have hf := fif_t h hf
      refine V.iconst (v := 0) dX5_fits_52 rfl ?_
      obtain rfl := Option.some.inj hf
      exact V.zret (v := 0) dX5_fits_53 rfl (by decide +kernel) (Nat.le_of_ble_eq_true rfl) (Nat.le_of_ble_eq_true rfl) rfl
    · have hf := fif_f h hf
      refine V.iload_n (i := 1) dX5_fits_42 rfl rfl ?_
      refine V.bipush (v := 53) dX5_fits_43 rfl ?_
      refine V.icmp_ge (tgt := 52) dX5_fits_45 (by decide) (fun h => ?_) (fun h => ?_)
      · have hf := fif_t h hf
        refine V.iconst (v := 0) dX5_fits_52 rfl ?_
        obtain rfl := Option.some.inj hf
        exact V.zret (v := 0) dX5_fits_53 rfl (by decide +kernel) (Nat.le_of_ble_eq_true rfl) (Nat.le_of_ble_eq_true rfl) rfl
      · have hf := fif_f h hf
        refine V.iconst (v := 1) dX5_fits_48 rfl ?_
        refine V.goto (tgt := 53) dX5_fits_49 (by decide) ?_
        obtain rfl := Option.some.inj hf
        exact V.zret (v := 1) dX5_fits_53 rfl (by decide +kernel) (Nat.le_of_ble_eq_true rfl) (Nat.le_of_ble_eq_true rfl) rfl
  · have hf := fif_f h70 hf
    by_cases h76 : a0 = 76
    · have hf := fif_t h76 hf
      refine V.cgi h76 (V.lookup (off := 71) (tgt := 72) dX5_fits_1 rfl rfl (by decide) ?_)
      refine V.iload_n (i := 1) dX5_fits_72 rfl rfl ?_
      obtain ⟨v1, hv1, hf⟩ := fbind hf
      refine V.callSn (pl := []) (σ' := []) (st2 := [.int v1]) (cl2 := 0) (sl2 := 0) (ct_X0_isCode (a0 := a1) hv1) dX5_fits_73 w288 w289 cal_X0_isCode ⟨⟨Nat.le_of_ble_eq_true rfl, Nat.le_of_ble_eq_true rfl⟩, Nat.le_of_ble_eq_true rfl, Nat.le_of_ble_eq_true rfl⟩ (Nat.le_of_ble_eq_true rfl) rfl ⟨rfl, ⟨by decide, by decide⟩, rfl, (fr_nil), rfl⟩ fr_i rfl rfl rfl rfl ?_
      obtain ⟨hz, hf⟩ := fz_e hf
      obtain rfl := Option.some.inj hf
      exact V.zret (v := v1) dX5_fits_76 rfl hz (Nat.le_of_ble_eq_true rfl) (Nat.le_of_ble_eq_true rfl) rfl
    · have hf := fif_f h76 hf
      by_cases h78 : a0 = 78
      · have hf := fif_t h78 hf
        refine V.cgi h78 (V.lookup (off := 53) (tgt := 54) dX5_fits_1 rfl rfl (by decide) ?_)
        refine V.iload_n (i := 1) dX5_fits_54 rfl rfl ?_
        refine V.bipush (v := 48) dX5_fits_55 rfl ?_
        refine V.icmp_lt (tgt := 70) dX5_fits_57 (by decide) (fun h => ?_) (fun h => ?_)
        · have hf := fif_t h hf
          refine V.iconst (v := 0) dX5_fits_70 rfl ?_
          obtain rfl := Option.some.inj hf
          exact V.zret (v := 0) dX5_fits_71 rfl (by decide +kernel) (Nat.le_of_ble_eq_true rfl) (Nat.le_of_ble_eq_true rfl) rfl
        · have hf := fif_f h hf
          refine V.iload_n (i := 1) dX5_fits_60 rfl rfl ?_
          refine V.bipush (v := 54) dX5_fits_61 rfl ?_
          refine V.icmp_ge (tgt := 70) dX5_fits_63 (by decide) (fun h => ?_) (fun h => ?_)
          · have hf := fif_t h hf
            refine V.iconst (v := 0) dX5_fits_70 rfl ?_
            obtain rfl := Option.some.inj hf
            exact V.zret (v := 0) dX5_fits_71 rfl (by decide +kernel) (Nat.le_of_ble_eq_true rfl) (Nat.le_of_ble_eq_true rfl) rfl
          · have hf := fif_f h hf
            refine V.iconst (v := 1) dX5_fits_66 rfl ?_
            refine V.goto (tgt := 71) dX5_fits_67 (by decide) ?_
            obtain rfl := Option.some.inj hf
            exact V.zret (v := 1) dX5_fits_71 rfl (by decide +kernel) (Nat.le_of_ble_eq_true rfl) (Nat.le_of_ble_eq_true rfl) rfl
      · have hf := fif_f h78 hf
        refine V.lookup (off := 76) (tgt := 77) dX5_fits_1 rfl (by simp only [Array.toList]; rw [lv_osw h70 (by decide), lv_osw h76 (by decide), lv_osw h78 (by decide)]; rfl) (by decide) ?_
        refine V.iload_n (i := 1) dX5_fits_77 rfl rfl ?_
        refine V.iload_n (i := 0) dX5_fits_78 rfl rfl ?_
        refine V.icmp_ne (tgt := 86) dX5_fits_79 (by decide) (fun h => ?_) (fun h => ?_)
        · have hf := fif_f h hf
          refine V.iconst (v := 0) dX5_fits_86 rfl ?_
          obtain rfl := Option.some.inj hf
          exact V.zret (v := 0) dX5_fits_87 rfl (by decide +kernel) (Nat.le_of_ble_eq_true rfl) (Nat.le_of_ble_eq_true rfl) rfl
        · have hf := fif_t h hf
          refine V.iconst (v := 1) dX5_fits_82 rfl ?_
          refine V.goto (tgt := 87) dX5_fits_83 (by decide) ?_
          obtain rfl := Option.some.inj hf
          exact V.zret (v := 1) dX5_fits_87 rfl (by decide +kernel) (Nat.le_of_ble_eq_true rfl) (Nat.le_of_ble_eq_true rfl) rfl
def k_X5_takes : fK := (yX5_takes, cX5_takes, 2, (some .boolean), [], (6, 126), (0, 0), (0, 0))
theorem cal_X5_takes : fCal k_X5_takes 1 := ⟨⟨wc224, w71⟩, ⟨by decide +kernel, by decide +kernel⟩, by decide +kernel, by decide +kernel⟩
def s_X5_takes (a1 : Int32) (Reader_pattern : Nat) (Reader_place : Int32) : Option (Int32 × (Nat) × (Int32)) := if (a1 = 59 : Prop) then ((s_X5_mayEnd Reader_pattern Reader_place).bind fun v8 => if (v8 = 0 : Prop) then (if (Reader_place = 0 : Prop) then ((s_X5_patternOf a1).bind fun v12 => if (Reader_place < 0 : Prop) then (some (0, v12, Reader_place)) else (fsl v12 <| (s_J0_length_8abf5 v12).bind fun v13 => if (v13 ≤ Reader_place : Prop) then (some (0, v12, Reader_place)) else (fsl v12 <| (s_J0_charAt_5068e v12 Reader_place).bind fun v14 => (s_X5_fits v14 a1).bind fun v15 => if (v15 = 0 : Prop) then (some (0, v12, Reader_place)) else (some (1, v12, (Reader_place + 1)))))) else (if (Reader_place < 0 : Prop) then (some (0, Reader_pattern, Reader_place)) else (fsl Reader_pattern <| (s_J0_length_8abf5 Reader_pattern).bind fun v9 => if (v9 ≤ Reader_place : Prop) then (some (0, Reader_pattern, Reader_place)) else (fsl Reader_pattern <| (s_J0_charAt_5068e Reader_pattern Reader_place).bind fun v10 => (s_X5_fits v10 a1).bind fun v11 => if (v11 = 0 : Prop) then (some (0, Reader_pattern, Reader_place)) else (some (1, Reader_pattern, (Reader_place + 1))))))) else (some (1, Reader_pattern, 0))) else (if (Reader_place = 0 : Prop) then ((s_X5_patternOf a1).bind fun v4 => if (Reader_place < 0 : Prop) then (some (0, v4, Reader_place)) else (fsl v4 <| (s_J0_length_8abf5 v4).bind fun v5 => if (v5 ≤ Reader_place : Prop) then (some (0, v4, Reader_place)) else (fsl v4 <| (s_J0_charAt_5068e v4 Reader_place).bind fun v6 => (s_X5_fits v6 a1).bind fun v7 => if (v7 = 0 : Prop) then (some (0, v4, Reader_place)) else (some (1, v4, (Reader_place + 1)))))) else (if (Reader_place < 0 : Prop) then (some (0, Reader_pattern, Reader_place)) else (fsl Reader_pattern <| (s_J0_length_8abf5 Reader_pattern).bind fun v1 => if (v1 ≤ Reader_place : Prop) then (some (0, Reader_pattern, Reader_place)) else (fsl Reader_pattern <| (s_J0_charAt_5068e Reader_pattern Reader_place).bind fun v2 => (s_X5_fits v2 a1).bind fun v3 => if (v3 = 0 : Prop) then (some (0, Reader_pattern, Reader_place)) else (some (1, Reader_pattern, (Reader_place + 1)))))))
set_option maxHeartbeats 4000000 in
set_option maxRecDepth 100000 in
theorem ct_X5_takes {a1 : Int32} {Reader_pattern : Nat} {Reader_place : Int32} {res : Int32 × (Nat) × (Int32)} (hf : s_X5_takes a1 Reader_pattern Reader_place = some res) : Ct k_X5_takes [.ref 0, .int a1] [.inl (2, [.ref (Reader_pattern + 1000), .int Reader_place])] (.inl (some (.int res.1))) [.inl (2, [.ref (res.2.1 + 1000), .int res.2.2])] := by
  unfold s_X5_takes at hf
  refine Ct.of (L := [some (.ref 0), some (.int a1)]) cal_X5_takes (fent_pad (j := 0) rfl) (Nat.le_of_ble_eq_true rfl) ?_
  refine V.iload_n (i := 1) dX5_takes_0 rfl rfl ?_
  refine V.bipush (v := 59) dX5_takes_1 rfl ?_
  refine V.icmp_ne (tgt := 20) dX5_takes_3 (by decide) (fun h => ?_) (fun h => ?_)
  · have hf := fif_f h hf
    refine V.aload_n (i := 0) dX5_takes_20 rfl rfl ?_
    refine V.getfield (kf := 1) (v := .int Reader_place) fl_RX5 dX5_takes_21 w161 (Nat.le_of_ble_eq_true rfl) rfl rfl ?_
    refine V.if_ne (tgt := 35) dX5_takes_24 (by decide) (fun h => ?_) (fun h => ?_)
    · have hf := fif_f h hf
      refine V.aload_n (i := 0) dX5_takes_35 rfl rfl ?_
      refine V.getfield (kf := 1) (v := .int Reader_place) fl_RX5 dX5_takes_36 w161 (Nat.le_of_ble_eq_true rfl) rfl rfl ?_
      refine V.if_lt (tgt := 74) dX5_takes_39 (by decide) (fun h => ?_) (fun h => ?_)
      · have hf := fif_t h hf
        refine V.iconst (v := 0) dX5_takes_74 rfl ?_
        obtain rfl := Option.some.inj hf
        exact V.zret (v := 0) dX5_takes_75 rfl (by decide +kernel) (Nat.le_of_ble_eq_true rfl) (Nat.le_of_ble_eq_true rfl) rfl
      · have hf := fif_f h hf
        refine V.aload_n (i := 0) dX5_takes_42 rfl rfl ?_
        refine V.getfield (kf := 1) (v := .int Reader_place) fl_RX5 dX5_takes_43 w161 (Nat.le_of_ble_eq_true rfl) rfl rfl ?_
        refine V.aload_n (i := 0) dX5_takes_46 rfl rfl ?_
        refine V.getfield (kf := 0) (v := .ref (Reader_pattern + 1000)) fl_RX5 dX5_takes_47 w160 (Nat.le_of_ble_eq_true rfl) rfl rfl ?_
        obtain ⟨hReader_pattern, hf⟩ := fsl_e hf
        obtain ⟨v1, hv1, hf⟩ := fbind hf
        refine V.callVn (pl := []) (σ' := [.inl (2, [.ref (Reader_pattern + 1000), .int Reader_place])]) (st2 := [.int v1, .int Reader_place]) (cl2 := 0) (sl2 := 0) (ct_J0_length_8abf5 (a0 := Reader_pattern) hReader_pattern hv1) dX5_takes_50 w229 ⟨w230, w231⟩ cal_J0_length_8abf5 rfl ⟨⟨Nat.le_of_ble_eq_true rfl, Nat.le_of_ble_eq_true rfl⟩, Nat.le_of_ble_eq_true rfl, Nat.le_of_ble_eq_true rfl⟩ (Nat.le_of_ble_eq_true rfl) (Or.inr ⟨_, hReader_pattern, rfl, rfl⟩) rfl ⟨rfl, ⟨by decide, by decide⟩, rfl, (fr_nil), rfl⟩ fr_i rfl rfl rfl rfl ?_
        refine V.icmp_ge (tgt := 74) dX5_takes_53 (by decide) (fun h => ?_) (fun h => ?_)
        · have hf := fif_t h hf
          refine V.iconst (v := 0) dX5_takes_74 rfl ?_
          obtain rfl := Option.some.inj hf
          exact V.zret (v := 0) dX5_takes_75 rfl (by decide +kernel) (Nat.le_of_ble_eq_true rfl) (Nat.le_of_ble_eq_true rfl) rfl
        · have hf := fif_f h hf
          refine V.aload_n (i := 0) dX5_takes_56 rfl rfl ?_
          refine V.getfield (kf := 0) (v := .ref (Reader_pattern + 1000)) fl_RX5 dX5_takes_57 w160 (Nat.le_of_ble_eq_true rfl) rfl rfl ?_
          refine V.aload_n (i := 0) dX5_takes_60 rfl rfl ?_
          refine V.getfield (kf := 1) (v := .int Reader_place) fl_RX5 dX5_takes_61 w161 (Nat.le_of_ble_eq_true rfl) rfl rfl ?_
          obtain ⟨hReader_pattern, hf⟩ := fsl_e hf
          obtain ⟨v2, hv2, hf⟩ := fbind hf
          refine V.callVn (pl := []) (σ' := [.inl (2, [.ref (Reader_pattern + 1000), .int Reader_place])]) (st2 := [.int v2]) (cl2 := 0) (sl2 := 0) (ct_J0_charAt_5068e (a0 := Reader_pattern) (a1 := Reader_place) hReader_pattern hv2) dX5_takes_64 w239 ⟨w240, w241⟩ cal_J0_charAt_5068e rfl ⟨⟨Nat.le_of_ble_eq_true rfl, Nat.le_of_ble_eq_true rfl⟩, Nat.le_of_ble_eq_true rfl, Nat.le_of_ble_eq_true rfl⟩ (Nat.le_of_ble_eq_true rfl) (Or.inr ⟨_, hReader_pattern, rfl, rfl⟩) rfl ⟨rfl, ⟨by decide, by decide⟩, rfl, (fr_nil), rfl⟩ fr_i rfl rfl rfl rfl ?_
          refine V.iload_n (i := 1) dX5_takes_67 rfl rfl ?_
          obtain ⟨v3, hv3, hf⟩ := fbind hf
          refine V.callSn (pl := []) (σ' := [.inl (2, [.ref (Reader_pattern + 1000), .int Reader_place])]) (st2 := [.int v3]) (cl2 := 0) (sl2 := 0) (ct_X5_fits (a0 := v2) (a1 := a1) hv3) dX5_takes_68 w285 w286 cal_X5_fits ⟨⟨Nat.le_of_ble_eq_true rfl, Nat.le_of_ble_eq_true rfl⟩, Nat.le_of_ble_eq_true rfl, Nat.le_of_ble_eq_true rfl⟩ (Nat.le_of_ble_eq_true rfl) rfl ⟨rfl, ⟨by decide, by decide⟩, rfl, (fr_nil), rfl⟩ fr_i rfl rfl rfl rfl ?_
          refine V.if_ne (tgt := 76) dX5_takes_71 (by decide) (fun h => ?_) (fun h => ?_)
          · have hf := fif_f h hf
            refine V.aload_n (i := 0) dX5_takes_76 rfl rfl ?_
            refine V.dup dX5_takes_77 rfl ?_
            refine V.getfield (kf := 1) (v := .int Reader_place) fl_RX5 dX5_takes_78 w161 (Nat.le_of_ble_eq_true rfl) rfl rfl ?_
            refine V.iconst (v := 1) dX5_takes_81 rfl ?_
            refine V.iadd dX5_takes_82 ?_
            refine V.putfield (ty := tyX5) (kf := 1) (σ' := [.inl (2, [.ref (Reader_pattern + 1000), .int (Reader_place + 1)])]) fl_RX5 dX5_takes_83 w161 (Nat.le_of_ble_eq_true rfl) rfl (fun _ => ⟨rfl, rfl⟩) rfl (Nat.le_of_ble_eq_true rfl) rfl ?_
            refine V.iconst (v := 1) dX5_takes_86 rfl ?_
            obtain rfl := Option.some.inj hf
            exact V.zret (v := 1) dX5_takes_87 rfl (by decide +kernel) (Nat.le_of_ble_eq_true rfl) (Nat.le_of_ble_eq_true rfl) rfl
          · have hf := fif_t h hf
            refine V.iconst (v := 0) dX5_takes_74 rfl ?_
            obtain rfl := Option.some.inj hf
            exact V.zret (v := 0) dX5_takes_75 rfl (by decide +kernel) (Nat.le_of_ble_eq_true rfl) (Nat.le_of_ble_eq_true rfl) rfl
    · have hf := fif_t h hf
      refine V.aload_n (i := 0) dX5_takes_27 rfl rfl ?_
      refine V.iload_n (i := 1) dX5_takes_28 rfl rfl ?_
      obtain ⟨v4, hv4, hf⟩ := fbind hf
      refine V.callSn (pl := []) (σ' := [.inl (2, [.ref (Reader_pattern + 1000), .int Reader_place])]) (st2 := [.ref (v4 + 1000), .ref 0]) (cl2 := 0) (sl2 := 0) (ct_X5_patternOf (a0 := a1) hv4) dX5_takes_29 w277 w278 cal_X5_patternOf ⟨⟨Nat.le_of_ble_eq_true rfl, Nat.le_of_ble_eq_true rfl⟩, Nat.le_of_ble_eq_true rfl, Nat.le_of_ble_eq_true rfl⟩ (Nat.le_of_ble_eq_true rfl) rfl ⟨rfl, ⟨by decide, by decide⟩, rfl, (fr_nil), rfl⟩ fr_s rfl rfl rfl rfl ?_
      refine V.putfield (ty := tyX5) (kf := 0) (σ' := [.inl (2, [.ref (v4 + 1000), .int Reader_place])]) fl_RX5 dX5_takes_32 w160 (Nat.le_of_ble_eq_true rfl) rfl (fun _ => ⟨rfl, rfl⟩) rfl (Nat.le_of_ble_eq_true rfl) rfl ?_
      refine V.aload_n (i := 0) dX5_takes_35 rfl rfl ?_
      refine V.getfield (kf := 1) (v := .int Reader_place) fl_RX5 dX5_takes_36 w161 (Nat.le_of_ble_eq_true rfl) rfl rfl ?_
      refine V.if_lt (tgt := 74) dX5_takes_39 (by decide) (fun h => ?_) (fun h => ?_)
      · have hf := fif_t h hf
        refine V.iconst (v := 0) dX5_takes_74 rfl ?_
        obtain rfl := Option.some.inj hf
        exact V.zret (v := 0) dX5_takes_75 rfl (by decide +kernel) (Nat.le_of_ble_eq_true rfl) (Nat.le_of_ble_eq_true rfl) rfl
      · have hf := fif_f h hf
        refine V.aload_n (i := 0) dX5_takes_42 rfl rfl ?_
        refine V.getfield (kf := 1) (v := .int Reader_place) fl_RX5 dX5_takes_43 w161 (Nat.le_of_ble_eq_true rfl) rfl rfl ?_
        refine V.aload_n (i := 0) dX5_takes_46 rfl rfl ?_
        refine V.getfield (kf := 0) (v := .ref (v4 + 1000)) fl_RX5 dX5_takes_47 w160 (Nat.le_of_ble_eq_true rfl) rfl rfl ?_
        obtain ⟨hv4, hf⟩ := fsl_e hf
        obtain ⟨v5, hv5, hf⟩ := fbind hf
        refine V.callVn (pl := []) (σ' := [.inl (2, [.ref (v4 + 1000), .int Reader_place])]) (st2 := [.int v5, .int Reader_place]) (cl2 := 0) (sl2 := 0) (ct_J0_length_8abf5 (a0 := v4) hv4 hv5) dX5_takes_50 w229 ⟨w230, w231⟩ cal_J0_length_8abf5 rfl ⟨⟨Nat.le_of_ble_eq_true rfl, Nat.le_of_ble_eq_true rfl⟩, Nat.le_of_ble_eq_true rfl, Nat.le_of_ble_eq_true rfl⟩ (Nat.le_of_ble_eq_true rfl) (Or.inr ⟨_, hv4, rfl, rfl⟩) rfl ⟨rfl, ⟨by decide, by decide⟩, rfl, (fr_nil), rfl⟩ fr_i rfl rfl rfl rfl ?_
        refine V.icmp_ge (tgt := 74) dX5_takes_53 (by decide) (fun h => ?_) (fun h => ?_)
        · have hf := fif_t h hf
          refine V.iconst (v := 0) dX5_takes_74 rfl ?_
          obtain rfl := Option.some.inj hf
          exact V.zret (v := 0) dX5_takes_75 rfl (by decide +kernel) (Nat.le_of_ble_eq_true rfl) (Nat.le_of_ble_eq_true rfl) rfl
        · have hf := fif_f h hf
          refine V.aload_n (i := 0) dX5_takes_56 rfl rfl ?_
          refine V.getfield (kf := 0) (v := .ref (v4 + 1000)) fl_RX5 dX5_takes_57 w160 (Nat.le_of_ble_eq_true rfl) rfl rfl ?_
          refine V.aload_n (i := 0) dX5_takes_60 rfl rfl ?_
          refine V.getfield (kf := 1) (v := .int Reader_place) fl_RX5 dX5_takes_61 w161 (Nat.le_of_ble_eq_true rfl) rfl rfl ?_
          obtain ⟨hv4, hf⟩ := fsl_e hf
          obtain ⟨v6, hv6, hf⟩ := fbind hf
          refine V.callVn (pl := []) (σ' := [.inl (2, [.ref (v4 + 1000), .int Reader_place])]) (st2 := [.int v6]) (cl2 := 0) (sl2 := 0) (ct_J0_charAt_5068e (a0 := v4) (a1 := Reader_place) hv4 hv6) dX5_takes_64 w239 ⟨w240, w241⟩ cal_J0_charAt_5068e rfl ⟨⟨Nat.le_of_ble_eq_true rfl, Nat.le_of_ble_eq_true rfl⟩, Nat.le_of_ble_eq_true rfl, Nat.le_of_ble_eq_true rfl⟩ (Nat.le_of_ble_eq_true rfl) (Or.inr ⟨_, hv4, rfl, rfl⟩) rfl ⟨rfl, ⟨by decide, by decide⟩, rfl, (fr_nil), rfl⟩ fr_i rfl rfl rfl rfl ?_
          refine V.iload_n (i := 1) dX5_takes_67 rfl rfl ?_
          obtain ⟨v7, hv7, hf⟩ := fbind hf
          refine V.callSn (pl := []) (σ' := [.inl (2, [.ref (v4 + 1000), .int Reader_place])]) (st2 := [.int v7]) (cl2 := 0) (sl2 := 0) (ct_X5_fits (a0 := v6) (a1 := a1) hv7) dX5_takes_68 w285 w286 cal_X5_fits ⟨⟨Nat.le_of_ble_eq_true rfl, Nat.le_of_ble_eq_true rfl⟩, Nat.le_of_ble_eq_true rfl, Nat.le_of_ble_eq_true rfl⟩ (Nat.le_of_ble_eq_true rfl) rfl ⟨rfl, ⟨by decide, by decide⟩, rfl, (fr_nil), rfl⟩ fr_i rfl rfl rfl rfl ?_
          refine V.if_ne (tgt := 76) dX5_takes_71 (by decide) (fun h => ?_) (fun h => ?_)
          · have hf := fif_f h hf
            refine V.aload_n (i := 0) dX5_takes_76 rfl rfl ?_
            refine V.dup dX5_takes_77 rfl ?_
            refine V.getfield (kf := 1) (v := .int Reader_place) fl_RX5 dX5_takes_78 w161 (Nat.le_of_ble_eq_true rfl) rfl rfl ?_
            refine V.iconst (v := 1) dX5_takes_81 rfl ?_
            refine V.iadd dX5_takes_82 ?_
            refine V.putfield (ty := tyX5) (kf := 1) (σ' := [.inl (2, [.ref (v4 + 1000), .int (Reader_place + 1)])]) fl_RX5 dX5_takes_83 w161 (Nat.le_of_ble_eq_true rfl) rfl (fun _ => ⟨rfl, rfl⟩) rfl (Nat.le_of_ble_eq_true rfl) rfl ?_
            refine V.iconst (v := 1) dX5_takes_86 rfl ?_
            obtain rfl := Option.some.inj hf
            exact V.zret (v := 1) dX5_takes_87 rfl (by decide +kernel) (Nat.le_of_ble_eq_true rfl) (Nat.le_of_ble_eq_true rfl) rfl
          · have hf := fif_t h hf
            refine V.iconst (v := 0) dX5_takes_74 rfl ?_
            obtain rfl := Option.some.inj hf
            exact V.zret (v := 0) dX5_takes_75 rfl (by decide +kernel) (Nat.le_of_ble_eq_true rfl) (Nat.le_of_ble_eq_true rfl) rfl
  · have hf := fif_t h hf
    refine V.aload_n (i := 0) dX5_takes_6 rfl rfl ?_
    obtain ⟨v8, hv8, hf⟩ := fbind hf
    refine V.callVn (pl := [0]) (σ' := [.inl (2, [.ref (Reader_pattern + 1000), .int Reader_place])]) (st2 := [.int v8]) (cl2 := 0) (sl2 := 0) (ct_X5_mayEnd (Reader_pattern := Reader_pattern) (Reader_place := Reader_place) hv8) dX5_takes_7 w225 ⟨w226, w227⟩ cal_X5_mayEnd rfl ⟨⟨Nat.le_of_ble_eq_true rfl, Nat.le_of_ble_eq_true rfl⟩, Nat.le_of_ble_eq_true rfl, Nat.le_of_ble_eq_true rfl⟩ (Nat.le_of_ble_eq_true rfl) (Or.inl ⟨_, _, _, _, rfl, rfl⟩) rfl ⟨rfl, ⟨by decide, by decide⟩, rfl, (fr_cons (Or.inr (Nat.le_add_left 1000 _)) (fr_nil)), rfl⟩ fr_i rfl rfl rfl rfl ?_
    refine V.if_eq (tgt := 20) dX5_takes_10 (by decide) (fun h => ?_) (fun h => ?_)
    · have hf := fif_t h hf
      refine V.aload_n (i := 0) dX5_takes_20 rfl rfl ?_
      refine V.getfield (kf := 1) (v := .int Reader_place) fl_RX5 dX5_takes_21 w161 (Nat.le_of_ble_eq_true rfl) rfl rfl ?_
      refine V.if_ne (tgt := 35) dX5_takes_24 (by decide) (fun h => ?_) (fun h => ?_)
      · have hf := fif_f h hf
        refine V.aload_n (i := 0) dX5_takes_35 rfl rfl ?_
        refine V.getfield (kf := 1) (v := .int Reader_place) fl_RX5 dX5_takes_36 w161 (Nat.le_of_ble_eq_true rfl) rfl rfl ?_
        refine V.if_lt (tgt := 74) dX5_takes_39 (by decide) (fun h => ?_) (fun h => ?_)
        · have hf := fif_t h hf
          refine V.iconst (v := 0) dX5_takes_74 rfl ?_
          obtain rfl := Option.some.inj hf
          exact V.zret (v := 0) dX5_takes_75 rfl (by decide +kernel) (Nat.le_of_ble_eq_true rfl) (Nat.le_of_ble_eq_true rfl) rfl
        · have hf := fif_f h hf
          refine V.aload_n (i := 0) dX5_takes_42 rfl rfl ?_
          refine V.getfield (kf := 1) (v := .int Reader_place) fl_RX5 dX5_takes_43 w161 (Nat.le_of_ble_eq_true rfl) rfl rfl ?_
          refine V.aload_n (i := 0) dX5_takes_46 rfl rfl ?_
          refine V.getfield (kf := 0) (v := .ref (Reader_pattern + 1000)) fl_RX5 dX5_takes_47 w160 (Nat.le_of_ble_eq_true rfl) rfl rfl ?_
          obtain ⟨hReader_pattern, hf⟩ := fsl_e hf
          obtain ⟨v9, hv9, hf⟩ := fbind hf
          refine V.callVn (pl := []) (σ' := [.inl (2, [.ref (Reader_pattern + 1000), .int Reader_place])]) (st2 := [.int v9, .int Reader_place]) (cl2 := 0) (sl2 := 0) (ct_J0_length_8abf5 (a0 := Reader_pattern) hReader_pattern hv9) dX5_takes_50 w229 ⟨w230, w231⟩ cal_J0_length_8abf5 rfl ⟨⟨Nat.le_of_ble_eq_true rfl, Nat.le_of_ble_eq_true rfl⟩, Nat.le_of_ble_eq_true rfl, Nat.le_of_ble_eq_true rfl⟩ (Nat.le_of_ble_eq_true rfl) (Or.inr ⟨_, hReader_pattern, rfl, rfl⟩) rfl ⟨rfl, ⟨by decide, by decide⟩, rfl, (fr_nil), rfl⟩ fr_i rfl rfl rfl rfl ?_
          refine V.icmp_ge (tgt := 74) dX5_takes_53 (by decide) (fun h => ?_) (fun h => ?_)
          · have hf := fif_t h hf
            refine V.iconst (v := 0) dX5_takes_74 rfl ?_
            obtain rfl := Option.some.inj hf
            exact V.zret (v := 0) dX5_takes_75 rfl (by decide +kernel) (Nat.le_of_ble_eq_true rfl) (Nat.le_of_ble_eq_true rfl) rfl
          · have hf := fif_f h hf
            refine V.aload_n (i := 0) dX5_takes_56 rfl rfl ?_
            refine V.getfield (kf := 0) (v := .ref (Reader_pattern + 1000)) fl_RX5 dX5_takes_57 w160 (Nat.le_of_ble_eq_true rfl) rfl rfl ?_
            refine V.aload_n (i := 0) dX5_takes_60 rfl rfl ?_
            refine V.getfield (kf := 1) (v := .int Reader_place) fl_RX5 dX5_takes_61 w161 (Nat.le_of_ble_eq_true rfl) rfl rfl ?_
            obtain ⟨hReader_pattern, hf⟩ := fsl_e hf
            obtain ⟨v10, hv10, hf⟩ := fbind hf
            refine V.callVn (pl := []) (σ' := [.inl (2, [.ref (Reader_pattern + 1000), .int Reader_place])]) (st2 := [.int v10]) (cl2 := 0) (sl2 := 0) (ct_J0_charAt_5068e (a0 := Reader_pattern) (a1 := Reader_place) hReader_pattern hv10) dX5_takes_64 w239 ⟨w240, w241⟩ cal_J0_charAt_5068e rfl ⟨⟨Nat.le_of_ble_eq_true rfl, Nat.le_of_ble_eq_true rfl⟩, Nat.le_of_ble_eq_true rfl, Nat.le_of_ble_eq_true rfl⟩ (Nat.le_of_ble_eq_true rfl) (Or.inr ⟨_, hReader_pattern, rfl, rfl⟩) rfl ⟨rfl, ⟨by decide, by decide⟩, rfl, (fr_nil), rfl⟩ fr_i rfl rfl rfl rfl ?_
            refine V.iload_n (i := 1) dX5_takes_67 rfl rfl ?_
            obtain ⟨v11, hv11, hf⟩ := fbind hf
            refine V.callSn (pl := []) (σ' := [.inl (2, [.ref (Reader_pattern + 1000), .int Reader_place])]) (st2 := [.int v11]) (cl2 := 0) (sl2 := 0) (ct_X5_fits (a0 := v10) (a1 := a1) hv11) dX5_takes_68 w285 w286 cal_X5_fits ⟨⟨Nat.le_of_ble_eq_true rfl, Nat.le_of_ble_eq_true rfl⟩, Nat.le_of_ble_eq_true rfl, Nat.le_of_ble_eq_true rfl⟩ (Nat.le_of_ble_eq_true rfl) rfl ⟨rfl, ⟨by decide, by decide⟩, rfl, (fr_nil), rfl⟩ fr_i rfl rfl rfl rfl ?_
            refine V.if_ne (tgt := 76) dX5_takes_71 (by decide) (fun h => ?_) (fun h => ?_)
            · have hf := fif_f h hf
              refine V.aload_n (i := 0) dX5_takes_76 rfl rfl ?_
              refine V.dup dX5_takes_77 rfl ?_
              refine V.getfield (kf := 1) (v := .int Reader_place) fl_RX5 dX5_takes_78 w161 (Nat.le_of_ble_eq_true rfl) rfl rfl ?_
              refine V.iconst (v := 1) dX5_takes_81 rfl ?_
              refine V.iadd dX5_takes_82 ?_
              refine V.putfield (ty := tyX5) (kf := 1) (σ' := [.inl (2, [.ref (Reader_pattern + 1000), .int (Reader_place + 1)])]) fl_RX5 dX5_takes_83 w161 (Nat.le_of_ble_eq_true rfl) rfl (fun _ => ⟨rfl, rfl⟩) rfl (Nat.le_of_ble_eq_true rfl) rfl ?_
              refine V.iconst (v := 1) dX5_takes_86 rfl ?_
              obtain rfl := Option.some.inj hf
              exact V.zret (v := 1) dX5_takes_87 rfl (by decide +kernel) (Nat.le_of_ble_eq_true rfl) (Nat.le_of_ble_eq_true rfl) rfl
            · have hf := fif_t h hf
              refine V.iconst (v := 0) dX5_takes_74 rfl ?_
              obtain rfl := Option.some.inj hf
              exact V.zret (v := 0) dX5_takes_75 rfl (by decide +kernel) (Nat.le_of_ble_eq_true rfl) (Nat.le_of_ble_eq_true rfl) rfl
      · have hf := fif_t h hf
        refine V.aload_n (i := 0) dX5_takes_27 rfl rfl ?_
        refine V.iload_n (i := 1) dX5_takes_28 rfl rfl ?_
        obtain ⟨v12, hv12, hf⟩ := fbind hf
        refine V.callSn (pl := []) (σ' := [.inl (2, [.ref (Reader_pattern + 1000), .int Reader_place])]) (st2 := [.ref (v12 + 1000), .ref 0]) (cl2 := 0) (sl2 := 0) (ct_X5_patternOf (a0 := a1) hv12) dX5_takes_29 w277 w278 cal_X5_patternOf ⟨⟨Nat.le_of_ble_eq_true rfl, Nat.le_of_ble_eq_true rfl⟩, Nat.le_of_ble_eq_true rfl, Nat.le_of_ble_eq_true rfl⟩ (Nat.le_of_ble_eq_true rfl) rfl ⟨rfl, ⟨by decide, by decide⟩, rfl, (fr_nil), rfl⟩ fr_s rfl rfl rfl rfl ?_
        refine V.putfield (ty := tyX5) (kf := 0) (σ' := [.inl (2, [.ref (v12 + 1000), .int Reader_place])]) fl_RX5 dX5_takes_32 w160 (Nat.le_of_ble_eq_true rfl) rfl (fun _ => ⟨rfl, rfl⟩) rfl (Nat.le_of_ble_eq_true rfl) rfl ?_
        refine V.aload_n (i := 0) dX5_takes_35 rfl rfl ?_
        refine V.getfield (kf := 1) (v := .int Reader_place) fl_RX5 dX5_takes_36 w161 (Nat.le_of_ble_eq_true rfl) rfl rfl ?_
        refine V.if_lt (tgt := 74) dX5_takes_39 (by decide) (fun h => ?_) (fun h => ?_)
        · have hf := fif_t h hf
          refine V.iconst (v := 0) dX5_takes_74 rfl ?_
          obtain rfl := Option.some.inj hf
          exact V.zret (v := 0) dX5_takes_75 rfl (by decide +kernel) (Nat.le_of_ble_eq_true rfl) (Nat.le_of_ble_eq_true rfl) rfl
        · have hf := fif_f h hf
          refine V.aload_n (i := 0) dX5_takes_42 rfl rfl ?_
          refine V.getfield (kf := 1) (v := .int Reader_place) fl_RX5 dX5_takes_43 w161 (Nat.le_of_ble_eq_true rfl) rfl rfl ?_
          refine V.aload_n (i := 0) dX5_takes_46 rfl rfl ?_
          refine V.getfield (kf := 0) (v := .ref (v12 + 1000)) fl_RX5 dX5_takes_47 w160 (Nat.le_of_ble_eq_true rfl) rfl rfl ?_
          obtain ⟨hv12, hf⟩ := fsl_e hf
          obtain ⟨v13, hv13, hf⟩ := fbind hf
          refine V.callVn (pl := []) (σ' := [.inl (2, [.ref (v12 + 1000), .int Reader_place])]) (st2 := [.int v13, .int Reader_place]) (cl2 := 0) (sl2 := 0) (ct_J0_length_8abf5 (a0 := v12) hv12 hv13) dX5_takes_50 w229 ⟨w230, w231⟩ cal_J0_length_8abf5 rfl ⟨⟨Nat.le_of_ble_eq_true rfl, Nat.le_of_ble_eq_true rfl⟩, Nat.le_of_ble_eq_true rfl, Nat.le_of_ble_eq_true rfl⟩ (Nat.le_of_ble_eq_true rfl) (Or.inr ⟨_, hv12, rfl, rfl⟩) rfl ⟨rfl, ⟨by decide, by decide⟩, rfl, (fr_nil), rfl⟩ fr_i rfl rfl rfl rfl ?_
          refine V.icmp_ge (tgt := 74) dX5_takes_53 (by decide) (fun h => ?_) (fun h => ?_)
          · have hf := fif_t h hf
            refine V.iconst (v := 0) dX5_takes_74 rfl ?_
            obtain rfl := Option.some.inj hf
            exact V.zret (v := 0) dX5_takes_75 rfl (by decide +kernel) (Nat.le_of_ble_eq_true rfl) (Nat.le_of_ble_eq_true rfl) rfl
          · have hf := fif_f h hf
            refine V.aload_n (i := 0) dX5_takes_56 rfl rfl ?_
            refine V.getfield (kf := 0) (v := .ref (v12 + 1000)) fl_RX5 dX5_takes_57 w160 (Nat.le_of_ble_eq_true rfl) rfl rfl ?_
            refine V.aload_n (i := 0) dX5_takes_60 rfl rfl ?_
            refine V.getfield (kf := 1) (v := .int Reader_place) fl_RX5 dX5_takes_61 w161 (Nat.le_of_ble_eq_true rfl) rfl rfl ?_
            obtain ⟨hv12, hf⟩ := fsl_e hf
            obtain ⟨v14, hv14, hf⟩ := fbind hf
            refine V.callVn (pl := []) (σ' := [.inl (2, [.ref (v12 + 1000), .int Reader_place])]) (st2 := [.int v14]) (cl2 := 0) (sl2 := 0) (ct_J0_charAt_5068e (a0 := v12) (a1 := Reader_place) hv12 hv14) dX5_takes_64 w239 ⟨w240, w241⟩ cal_J0_charAt_5068e rfl ⟨⟨Nat.le_of_ble_eq_true rfl, Nat.le_of_ble_eq_true rfl⟩, Nat.le_of_ble_eq_true rfl, Nat.le_of_ble_eq_true rfl⟩ (Nat.le_of_ble_eq_true rfl) (Or.inr ⟨_, hv12, rfl, rfl⟩) rfl ⟨rfl, ⟨by decide, by decide⟩, rfl, (fr_nil), rfl⟩ fr_i rfl rfl rfl rfl ?_
            refine V.iload_n (i := 1) dX5_takes_67 rfl rfl ?_
            obtain ⟨v15, hv15, hf⟩ := fbind hf
            refine V.callSn (pl := []) (σ' := [.inl (2, [.ref (v12 + 1000), .int Reader_place])]) (st2 := [.int v15]) (cl2 := 0) (sl2 := 0) (ct_X5_fits (a0 := v14) (a1 := a1) hv15) dX5_takes_68 w285 w286 cal_X5_fits ⟨⟨Nat.le_of_ble_eq_true rfl, Nat.le_of_ble_eq_true rfl⟩, Nat.le_of_ble_eq_true rfl, Nat.le_of_ble_eq_true rfl⟩ (Nat.le_of_ble_eq_true rfl) rfl ⟨rfl, ⟨by decide, by decide⟩, rfl, (fr_nil), rfl⟩ fr_i rfl rfl rfl rfl ?_
            refine V.if_ne (tgt := 76) dX5_takes_71 (by decide) (fun h => ?_) (fun h => ?_)
            · have hf := fif_f h hf
              refine V.aload_n (i := 0) dX5_takes_76 rfl rfl ?_
              refine V.dup dX5_takes_77 rfl ?_
              refine V.getfield (kf := 1) (v := .int Reader_place) fl_RX5 dX5_takes_78 w161 (Nat.le_of_ble_eq_true rfl) rfl rfl ?_
              refine V.iconst (v := 1) dX5_takes_81 rfl ?_
              refine V.iadd dX5_takes_82 ?_
              refine V.putfield (ty := tyX5) (kf := 1) (σ' := [.inl (2, [.ref (v12 + 1000), .int (Reader_place + 1)])]) fl_RX5 dX5_takes_83 w161 (Nat.le_of_ble_eq_true rfl) rfl (fun _ => ⟨rfl, rfl⟩) rfl (Nat.le_of_ble_eq_true rfl) rfl ?_
              refine V.iconst (v := 1) dX5_takes_86 rfl ?_
              obtain rfl := Option.some.inj hf
              exact V.zret (v := 1) dX5_takes_87 rfl (by decide +kernel) (Nat.le_of_ble_eq_true rfl) (Nat.le_of_ble_eq_true rfl) rfl
            · have hf := fif_t h hf
              refine V.iconst (v := 0) dX5_takes_74 rfl ?_
              obtain rfl := Option.some.inj hf
              exact V.zret (v := 0) dX5_takes_75 rfl (by decide +kernel) (Nat.le_of_ble_eq_true rfl) (Nat.le_of_ble_eq_true rfl) rfl
    · have hf := fif_f h hf
      refine V.aload_n (i := 0) dX5_takes_13 rfl rfl ?_
      refine V.iconst (v := 0) dX5_takes_14 rfl ?_
      refine V.putfield (ty := tyX5) (kf := 1) (σ' := [.inl (2, [.ref (Reader_pattern + 1000), .int 0])]) fl_RX5 dX5_takes_15 w161 (Nat.le_of_ble_eq_true rfl) rfl (fun _ => ⟨rfl, rfl⟩) rfl (Nat.le_of_ble_eq_true rfl) rfl ?_
      refine V.iconst (v := 1) dX5_takes_18 rfl ?_
      obtain rfl := Option.some.inj hf
      exact V.zret (v := 1) dX5_takes_19 rfl (by decide +kernel) (Nat.le_of_ble_eq_true rfl) (Nat.le_of_ble_eq_true rfl) rfl
def k_X5_readAll : fK := (yX5_readAll, cX5_readAll, 3, (some .int), [], (7, 147), (0, 0), (0, 0))
theorem cal_X5_readAll : fCal k_X5_readAll 1 := ⟨⟨wc212, w71⟩, ⟨by decide +kernel, by decide +kernel⟩, by decide +kernel, by decide +kernel⟩
def s_X5_readAll_L13 (Buffer_size : Int32) (Buffer_codes : Nat → Int32) : Nat → Int32 → (Nat) → (Int32) → Option ((Int32 × (Nat) × (Int32)) ⊕ (Int32 × (Nat) × (Int32)))
  | 0, _, _, _ => none
  | n + 1, x2, Reader_pattern, Reader_place => (s_X1_size Buffer_size).bind fun v1 => if (v1 ≤ x2 : Prop) then (some (.inr (x2, Reader_pattern, Reader_place))) else ((s_X1_at x2 Buffer_size Buffer_codes).bind fun v2 => (s_X5_takes v2 Reader_pattern Reader_place).bind fun v3 => if (v3.1 = 0 : Prop) then (some (.inl (x2, v3.2.1, v3.2.2))) else (s_X5_readAll_L13 Buffer_size Buffer_codes n (x2 + 1) v3.2.1 v3.2.2))
set_option maxHeartbeats 4000000 in
set_option maxRecDepth 100000 in
theorem v_X5_readAll_L13 {out : fO} {σ' : List fE} {Buffer_size : Int32} {Buffer_codes : Nat → Int32} : ∀ (n : Nat) {x2 : Int32} {Reader_pattern : (Nat)} {Reader_place : (Int32)} {res : (Int32 × (Nat) × (Int32)) ⊕ (Int32 × (Nat) × (Int32))} (hf : s_X5_readAll_L13 Buffer_size Buffer_codes n x2 Reader_pattern Reader_place = some res) (hr : ∀ r, res = .inl r → out = (.inl (some (.int r.1))) ∧ σ' = [.inl (2, [.ref (r.2.1 + 1000), .int r.2.2]), .inl (0, [.ref 2, .int Buffer_size]), .inr (60, .inl Buffer_codes)]) (hx : ∀ e, res = .inr e → V (fXm 3 k_X5_readAll out σ') (krm k_X5_readAll) k_X5_readAll 3 41 [some (.ref 0), some (.ref 1), some (.int e.1)] [] [.inl (2, [.ref (e.2.1 + 1000), .int e.2.2]), .inl (0, [.ref 2, .int Buffer_size]), .inr (60, .inl Buffer_codes)] 0 0), V (fXm 3 k_X5_readAll out σ') (krm k_X5_readAll) k_X5_readAll 3 13 [some (.ref 0), some (.ref 1), some (.int x2)] [] [.inl (2, [.ref (Reader_pattern + 1000), .int Reader_place]), .inl (0, [.ref 2, .int Buffer_size]), .inr (60, .inl Buffer_codes)] 0 0 := by
  intro n
  induction n with
  | zero =>
    intro x2 Reader_pattern Reader_place res hf hr hx
    rw [s_X5_readAll_L13] at hf
    cases hf
  | succ n ih =>
    intro x2 Reader_pattern Reader_place res hf hr hx
    rw [s_X5_readAll_L13] at hf
    refine V.iload_n (i := 2) dX5_readAll_13 rfl rfl ?_
    refine V.aload_n (i := 1) dX5_readAll_14 rfl rfl ?_
    obtain ⟨v1, hv1, hf⟩ := fbind hf
    refine V.callVn (pl := [1, 2]) (σ' := [.inl (2, [.ref (Reader_pattern + 1000), .int Reader_place]), .inl (0, [.ref 2, .int Buffer_size]), .inr (60, .inl Buffer_codes)]) (st2 := [.int v1, .int x2]) (cl2 := 0) (sl2 := 0) (ct_X1_size (Buffer_size := Buffer_size) (Buffer_codes := Buffer_codes) hv1) dX5_readAll_15 w213 ⟨w214, w215⟩ cal_X1_size rfl ⟨⟨Nat.le_of_ble_eq_true rfl, Nat.le_of_ble_eq_true rfl⟩, Nat.le_of_ble_eq_true rfl, Nat.le_of_ble_eq_true rfl⟩ (Nat.le_of_ble_eq_true rfl) (Or.inl ⟨_, _, _, _, rfl, rfl⟩) rfl ⟨rfl, ⟨by decide, by decide⟩, rfl, (fr_cons (Or.inl (Nat.le_of_ble_eq_true rfl)) (fr_nil)), rfl⟩ fr_i rfl rfl rfl rfl ?_
    refine V.icmp_ge (tgt := 41) dX5_readAll_18 (by decide) (fun h => ?_) (fun h => ?_)
    · have hf := fif_t h hf
      obtain rfl := Option.some.inj hf
      exact hx _ rfl
    · have hf := fif_f h hf
      refine V.aload_n (i := 0) dX5_readAll_21 rfl rfl ?_
      refine V.aload_n (i := 1) dX5_readAll_22 rfl rfl ?_
      refine V.iload_n (i := 2) dX5_readAll_23 rfl rfl ?_
      obtain ⟨v2, hv2, hf⟩ := fbind hf
      refine V.callVn (pl := [1, 2]) (σ' := [.inl (2, [.ref (Reader_pattern + 1000), .int Reader_place]), .inl (0, [.ref 2, .int Buffer_size]), .inr (60, .inl Buffer_codes)]) (st2 := [.int v2, .ref 0]) (cl2 := 0) (sl2 := 0) (ct_X1_at (a1 := x2) (Buffer_size := Buffer_size) (Buffer_codes := Buffer_codes) hv2) dX5_readAll_24 w217 ⟨w218, w219⟩ cal_X1_at rfl ⟨⟨Nat.le_of_ble_eq_true rfl, Nat.le_of_ble_eq_true rfl⟩, Nat.le_of_ble_eq_true rfl, Nat.le_of_ble_eq_true rfl⟩ (Nat.le_of_ble_eq_true rfl) (Or.inl ⟨_, _, _, _, rfl, rfl⟩) rfl ⟨rfl, ⟨by decide, by decide⟩, rfl, (fr_cons (Or.inl (Nat.le_of_ble_eq_true rfl)) (fr_nil)), rfl⟩ fr_i rfl rfl rfl rfl ?_
      obtain ⟨v3, hv3, hf⟩ := fbind hf
      refine V.callVn (pl := [0]) (σ' := [.inl (2, [.ref (v3.2.1 + 1000), .int v3.2.2]), .inl (0, [.ref 2, .int Buffer_size]), .inr (60, .inl Buffer_codes)]) (st2 := [.int v3.1]) (cl2 := 0) (sl2 := 0) (ct_X5_takes (a1 := v2) (Reader_pattern := Reader_pattern) (Reader_place := Reader_place) hv3) dX5_readAll_27 w221 ⟨w223, w0⟩ cal_X5_takes rfl ⟨⟨Nat.le_of_ble_eq_true rfl, Nat.le_of_ble_eq_true rfl⟩, Nat.le_of_ble_eq_true rfl, Nat.le_of_ble_eq_true rfl⟩ (Nat.le_of_ble_eq_true rfl) (Or.inl ⟨_, _, _, _, rfl, rfl⟩) rfl ⟨rfl, ⟨by decide, by decide⟩, rfl, (fr_cons (Or.inr (Nat.le_add_left 1000 _)) (fr_nil)), rfl⟩ fr_i rfl rfl rfl rfl ?_
      refine V.if_ne (tgt := 35) dX5_readAll_30 (by decide) (fun h => ?_) (fun h => ?_)
      · have hf := fif_f h hf
        refine V.iinc (i := 2) (v := (x2 + 1)) (L' := [some (.ref 0), some (.ref 1), some (.int (x2 + 1))]) dX5_readAll_35 rfl rfl (Nat.le_of_ble_eq_true rfl) rfl rfl ?_
        refine V.goto (tgt := 13) dX5_readAll_38 (by decide) ?_
        exact ih hf hr hx
      · have hf := fif_t h hf
        refine V.iload_n (i := 2) dX5_readAll_33 rfl rfl ?_
        obtain rfl := Option.some.inj hf
        obtain ⟨e1, e2⟩ := hr _ rfl
        subst e1; subst e2
        exact V.iret dX5_readAll_34 rfl (Nat.le_of_ble_eq_true rfl) (Nat.le_of_ble_eq_true rfl) rfl
def s_X5_readAll (Reader_pattern : Nat) (Reader_place : Int32) (Buffer_size : Int32) (Buffer_codes : Nat → Int32) : Option (Int32 × (Nat) × (Int32)) := (s_X5_readAll_L13 Buffer_size Buffer_codes gF 0 0 0).bind fun r4 => fsum r4 (fun r9 => some r9) (fun e5 => (s_X1_size Buffer_size).bind fun v6 => some (v6, e5.2.1, e5.2.2))
set_option maxHeartbeats 4000000 in
set_option maxRecDepth 100000 in
theorem ct_X5_readAll {Reader_pattern : Nat} {Reader_place : Int32} {Buffer_size : Int32} {Buffer_codes : Nat → Int32} {res : Int32 × (Nat) × (Int32)} (hf : s_X5_readAll Reader_pattern Reader_place Buffer_size Buffer_codes = some res) : Ct k_X5_readAll [.ref 0, .ref 1] [.inl (2, [.ref (Reader_pattern + 1000), .int Reader_place]), .inl (0, [.ref 2, .int Buffer_size]), .inr (60, .inl Buffer_codes)] (.inl (some (.int res.1))) [.inl (2, [.ref (res.2.1 + 1000), .int res.2.2]), .inl (0, [.ref 2, .int Buffer_size]), .inr (60, .inl Buffer_codes)] := by
  unfold s_X5_readAll at hf
  refine Ct.of (L := [some (.ref 0), some (.ref 1), none]) cal_X5_readAll (fent_pad (j := 1) rfl) (Nat.le_of_ble_eq_true rfl) ?_
  refine V.aload_n (i := 0) dX5_readAll_0 rfl rfl ?_
  refine V.ldcS (i := 0) dX5_readAll_1 (List.mem_of_getElem? (i := 0) rfl) ?_
  refine V.putfield (ty := tyX5) (kf := 0) (σ' := [.inl (2, [.ref 1000, .int Reader_place]), .inl (0, [.ref 2, .int Buffer_size]), .inr (60, .inl Buffer_codes)]) fl_RX5 dX5_readAll_3 w160 (Nat.le_of_ble_eq_true rfl) rfl (fun _ => ⟨rfl, rfl⟩) rfl (Nat.le_of_ble_eq_true rfl) rfl ?_
  refine V.aload_n (i := 0) dX5_readAll_6 rfl rfl ?_
  refine V.iconst (v := 0) dX5_readAll_7 rfl ?_
  refine V.putfield (ty := tyX5) (kf := 1) (σ' := [.inl (2, [.ref 1000, .int 0]), .inl (0, [.ref 2, .int Buffer_size]), .inr (60, .inl Buffer_codes)]) fl_RX5 dX5_readAll_8 w161 (Nat.le_of_ble_eq_true rfl) rfl (fun _ => ⟨rfl, rfl⟩) rfl (Nat.le_of_ble_eq_true rfl) rfl ?_
  refine V.iconst (v := 0) dX5_readAll_11 rfl ?_
  refine V.istore_n (i := 2) (L' := [some (.ref 0), some (.ref 1), some (.int 0)]) dX5_readAll_12 rfl (Nat.le_of_ble_eq_true rfl) rfl rfl ?_
  obtain ⟨r4, hr4, hf⟩ := fbind hf
  rcases r4 with r9 | e5
  · obtain rfl := Option.some.inj (show some _ = some res from hf)
    exact v_X5_readAll_L13 gF hr4 (fun _ h => by cases h; exact ⟨rfl, rfl⟩) (fun _ h => by cases h)
  · replace hf : _ = some res := hf
    dsimp only [fsum] at hf
    refine v_X5_readAll_L13 gF hr4 (fun _ h => by cases h) (fun _ h => ?_)
    cases h
    refine V.aload_n (i := 1) dX5_readAll_41 rfl rfl ?_
    obtain ⟨v6, hv6, hf⟩ := fbind hf
    refine V.callVn (pl := [1, 2]) (σ' := [.inl (2, [.ref (e5.2.1 + 1000), .int e5.2.2]), .inl (0, [.ref 2, .int Buffer_size]), .inr (60, .inl Buffer_codes)]) (st2 := [.int v6]) (cl2 := 0) (sl2 := 0) (ct_X1_size (Buffer_size := Buffer_size) (Buffer_codes := Buffer_codes) hv6) dX5_readAll_42 w213 ⟨w214, w215⟩ cal_X1_size rfl ⟨⟨Nat.le_of_ble_eq_true rfl, Nat.le_of_ble_eq_true rfl⟩, Nat.le_of_ble_eq_true rfl, Nat.le_of_ble_eq_true rfl⟩ (Nat.le_of_ble_eq_true rfl) (Or.inl ⟨_, _, _, _, rfl, rfl⟩) rfl ⟨rfl, ⟨by decide, by decide⟩, rfl, (fr_cons (Or.inl (Nat.le_of_ble_eq_true rfl)) (fr_nil)), rfl⟩ fr_i rfl rfl rfl rfl ?_
    obtain rfl := Option.some.inj hf
    exact V.iret dX5_readAll_45 rfl (Nat.le_of_ble_eq_true rfl) (Nat.le_of_ble_eq_true rfl) rfl
