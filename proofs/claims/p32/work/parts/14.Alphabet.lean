/-! laid by program: shallow functions and contracts -/
def k_X0_turns : fK := (yX0_turns, cX0_turns, 1, (some .int), [], (0, 0), (0, 0), (0, 0))
theorem cal_X0_turns : fCal k_X0_turns 1 := ⟨⟨wc347, w18⟩, ⟨by decide +kernel, by decide +kernel⟩, by decide +kernel, by decide +kernel⟩
def s_X0_turns (a0 : Int32) : Option (Int32) := some ((a0 / 4) + 1)
set_option maxHeartbeats 4000000 in
set_option maxRecDepth 100000 in
theorem ct_X0_turns {a0 : Int32} {res : Int32} (hf : s_X0_turns a0 = some res) : Ct k_X0_turns [.int a0] [] (.inl (some (.int res))) [] := by
  unfold s_X0_turns at hf
  refine Ct.of (L := [some (.int a0)]) cal_X0_turns (fent_pad (j := 0) rfl) (Nat.le_of_ble_eq_true rfl) ?_
  refine V.iload_n (i := 0) dX0_turns_0 rfl rfl ?_
  refine V.iconst (v := 4) dX0_turns_1 rfl ?_
  refine V.idiv dX0_turns_2 (by decide) ?_
  refine V.iconst (v := 1) dX0_turns_3 rfl ?_
  refine V.iadd dX0_turns_4 ?_
  obtain rfl := Option.some.inj hf
  exact V.iret dX0_turns_5 rfl (Nat.le_of_ble_eq_true rfl) (Nat.le_of_ble_eq_true rfl) rfl
def k_X0_loops : fK := (yX0_loops, cX0_loops, 1, (some .int), [], (0, 0), (0, 0), (0, 0))
theorem cal_X0_loops : fCal k_X0_loops 1 := ⟨⟨wc350, w18⟩, ⟨by decide +kernel, by decide +kernel⟩, by decide +kernel, by decide +kernel⟩
def s_X0_loops (a0 : Int32) : Option (Int32) := some (a0 - a0 / 4 * 4)
set_option maxHeartbeats 4000000 in
set_option maxRecDepth 100000 in
theorem ct_X0_loops {a0 : Int32} {res : Int32} (hf : s_X0_loops a0 = some res) : Ct k_X0_loops [.int a0] [] (.inl (some (.int res))) [] := by
  unfold s_X0_loops at hf
  refine Ct.of (L := [some (.int a0)]) cal_X0_loops (fent_pad (j := 0) rfl) (Nat.le_of_ble_eq_true rfl) ?_
  refine V.iload_n (i := 0) dX0_loops_0 rfl rfl ?_
  refine V.iconst (v := 4) dX0_loops_1 rfl ?_
  refine V.irem dX0_loops_2 (by decide) ?_
  obtain rfl := Option.some.inj hf
  exact V.iret dX0_loops_3 rfl (Nat.le_of_ble_eq_true rfl) (Nat.le_of_ble_eq_true rfl) rfl
def k_X0_cordOfKnot : fK := (yX0_cordOfKnot, cX0_cordOfKnot, 1, (some .int), [], (0, 0), (0, 0), (0, 0))
theorem cal_X0_cordOfKnot : fCal k_X0_cordOfKnot 1 := ⟨⟨wc283, w18⟩, ⟨by decide +kernel, by decide +kernel⟩, by decide +kernel, by decide +kernel⟩
def s_X0_cordOfKnot (a0 : Int32) : Option (Int32) := some ((2 * ((a0 / 4) + 1)) + (a0 - a0 / 4 * 4))
set_option maxHeartbeats 4000000 in
set_option maxRecDepth 100000 in
theorem ct_X0_cordOfKnot {a0 : Int32} {res : Int32} (hf : s_X0_cordOfKnot a0 = some res) : Ct k_X0_cordOfKnot [.int a0] [] (.inl (some (.int res))) [] := by
  unfold s_X0_cordOfKnot at hf
  refine Ct.of (L := [some (.int a0)]) cal_X0_cordOfKnot (fent_pad (j := 0) rfl) (Nat.le_of_ble_eq_true rfl) ?_
  refine V.iconst (v := 2) dX0_cordOfKnot_0 rfl ?_
  refine V.iload_n (i := 0) dX0_cordOfKnot_1 rfl rfl ?_
  refine V.iconst (v := 4) dX0_cordOfKnot_2 rfl ?_
  refine V.idiv dX0_cordOfKnot_3 (by decide) ?_
  refine V.iconst (v := 1) dX0_cordOfKnot_4 rfl ?_
  refine V.iadd dX0_cordOfKnot_5 ?_
  refine V.imul dX0_cordOfKnot_6 ?_
  refine V.iload_n (i := 0) dX0_cordOfKnot_7 rfl rfl ?_
  refine V.iconst (v := 4) dX0_cordOfKnot_8 rfl ?_
  refine V.irem dX0_cordOfKnot_9 (by decide) ?_
  refine V.iadd dX0_cordOfKnot_10 ?_
  obtain rfl := Option.some.inj hf
  exact V.iret dX0_cordOfKnot_11 rfl (Nat.le_of_ble_eq_true rfl) (Nat.le_of_ble_eq_true rfl) rfl
def k_X0_isVowel : fK := (yX0_isVowel, cX0_isVowel, 1, (some .boolean), [], (0, 0), (0, 0), (0, 0))
theorem cal_X0_isVowel : fCal k_X0_isVowel 1 := ⟨⟨wc312, w18⟩, ⟨by decide +kernel, by decide +kernel⟩, by decide +kernel, by decide +kernel⟩
def s_X0_isVowel (a0 : Int32) : Option (Int32) := if (a0 = 0 : Prop) then (some 1) else (if (a0 = 4 : Prop) then (some 1) else (if (a0 = 8 : Prop) then (some 1) else (if (a0 = 14 : Prop) then (some 1) else (some 0))))
set_option maxHeartbeats 4000000 in
set_option maxRecDepth 100000 in
theorem ct_X0_isVowel {a0 : Int32} {res : Int32} (hf : s_X0_isVowel a0 = some res) : Ct k_X0_isVowel [.int a0] [] (.inl (some (.int res))) [] := by
  unfold s_X0_isVowel at hf
  refine Ct.of (L := [some (.int a0)]) cal_X0_isVowel (fent_pad (j := 0) rfl) (Nat.le_of_ble_eq_true rfl) ?_
  refine V.iload_n (i := 0) dX0_isVowel_0 rfl rfl ?_
  refine V.if_eq (tgt := 21) dX0_isVowel_1 (by decide) (fun h => ?_) (fun h => ?_)
  · have hf := fif_t h hf
    refine V.iconst (v := 1) dX0_isVowel_21 rfl ?_
    refine V.goto (tgt := 26) dX0_isVowel_22 (by decide) ?_
    obtain rfl := Option.some.inj hf
    exact V.zret (v := 1) dX0_isVowel_26 rfl (by decide +kernel) (Nat.le_of_ble_eq_true rfl) (Nat.le_of_ble_eq_true rfl) rfl
  · have hf := fif_f h hf
    refine V.iload_n (i := 0) dX0_isVowel_4 rfl rfl ?_
    refine V.iconst (v := 4) dX0_isVowel_5 rfl ?_
    refine V.icmp_eq (tgt := 21) dX0_isVowel_6 (by decide) (fun h => ?_) (fun h => ?_)
    · have hf := fif_t h hf
      refine V.iconst (v := 1) dX0_isVowel_21 rfl ?_
      refine V.goto (tgt := 26) dX0_isVowel_22 (by decide) ?_
      obtain rfl := Option.some.inj hf
      exact V.zret (v := 1) dX0_isVowel_26 rfl (by decide +kernel) (Nat.le_of_ble_eq_true rfl) (Nat.le_of_ble_eq_true rfl) rfl
    · have hf := fif_f h hf
      refine V.iload_n (i := 0) dX0_isVowel_9 rfl rfl ?_
      refine V.bipush (v := 8) dX0_isVowel_10 rfl ?_
      refine V.icmp_eq (tgt := 21) dX0_isVowel_12 (by decide) (fun h => ?_) (fun h => ?_)
      · have hf := fif_t h hf
        refine V.iconst (v := 1) dX0_isVowel_21 rfl ?_
        refine V.goto (tgt := 26) dX0_isVowel_22 (by decide) ?_
        obtain rfl := Option.some.inj hf
        exact V.zret (v := 1) dX0_isVowel_26 rfl (by decide +kernel) (Nat.le_of_ble_eq_true rfl) (Nat.le_of_ble_eq_true rfl) rfl
      · have hf := fif_f h hf
        refine V.iload_n (i := 0) dX0_isVowel_15 rfl rfl ?_
        refine V.bipush (v := 14) dX0_isVowel_16 rfl ?_
        refine V.icmp_ne (tgt := 25) dX0_isVowel_18 (by decide) (fun h => ?_) (fun h => ?_)
        · have hf := fif_f h hf
          refine V.iconst (v := 0) dX0_isVowel_25 rfl ?_
          obtain rfl := Option.some.inj hf
          exact V.zret (v := 0) dX0_isVowel_26 rfl (by decide +kernel) (Nat.le_of_ble_eq_true rfl) (Nat.le_of_ble_eq_true rfl) rfl
        · have hf := fif_t h hf
          refine V.iconst (v := 1) dX0_isVowel_21 rfl ?_
          refine V.goto (tgt := 26) dX0_isVowel_22 (by decide) ?_
          obtain rfl := Option.some.inj hf
          exact V.zret (v := 1) dX0_isVowel_26 rfl (by decide +kernel) (Nat.le_of_ble_eq_true rfl) (Nat.le_of_ble_eq_true rfl) rfl
def k_X0_reading : fK := (yX0_reading, cX0_reading, 2, (some .int), [], (0, 0), (0, 0), (0, 0))
theorem cal_X0_reading : fCal k_X0_reading 2 := ⟨⟨wc165, w18⟩, ⟨by decide +kernel, by decide +kernel⟩, by decide +kernel, by decide +kernel⟩
def s_X0_reading (a0 : Int32) (a1 : Int32) : Option (Int32) := if (1 ≤ a1 : Prop) then (if (a1 = 1 : Prop) then (some (a0 + 1)) else (some 16)) else (some a0)
set_option maxHeartbeats 4000000 in
set_option maxRecDepth 100000 in
theorem ct_X0_reading {a0 : Int32} {a1 : Int32} {res : Int32} (hf : s_X0_reading a0 a1 = some res) : Ct k_X0_reading [.int a0, .int a1] [] (.inl (some (.int res))) [] := by
  unfold s_X0_reading at hf
  refine Ct.of (L := [some (.int a0), some (.int a1)]) cal_X0_reading (fent_pad (j := 0) rfl) (Nat.le_of_ble_eq_true rfl) ?_
  refine V.iload_n (i := 1) dX0_reading_0 rfl rfl ?_
  refine V.iconst (v := 1) dX0_reading_1 rfl ?_
  refine V.icmp_ge (tgt := 7) dX0_reading_2 (by decide) (fun h => ?_) (fun h => ?_)
  · have hf := fif_t h hf
    refine V.iload_n (i := 1) dX0_reading_7 rfl rfl ?_
    refine V.iconst (v := 1) dX0_reading_8 rfl ?_
    refine V.icmp_ne (tgt := 18) dX0_reading_9 (by decide) (fun h => ?_) (fun h => ?_)
    · have hf := fif_f h hf
      refine V.bipush (v := 16) dX0_reading_18 rfl ?_
      obtain rfl := Option.some.inj hf
      exact V.iret dX0_reading_20 rfl (Nat.le_of_ble_eq_true rfl) (Nat.le_of_ble_eq_true rfl) rfl
    · have hf := fif_t h hf
      refine V.iload_n (i := 0) dX0_reading_12 rfl rfl ?_
      refine V.iconst (v := 1) dX0_reading_13 rfl ?_
      refine V.iadd dX0_reading_14 ?_
      refine V.goto (tgt := 20) dX0_reading_15 (by decide) ?_
      obtain rfl := Option.some.inj hf
      exact V.iret dX0_reading_20 rfl (Nat.le_of_ble_eq_true rfl) (Nat.le_of_ble_eq_true rfl) rfl
  · have hf := fif_f h hf
    refine V.iload_n (i := 0) dX0_reading_5 rfl rfl ?_
    obtain rfl := Option.some.inj hf
    exact V.iret dX0_reading_6 rfl (Nat.le_of_ble_eq_true rfl) (Nat.le_of_ble_eq_true rfl) rfl
def k_X0_codeOf : fK := (yX0_codeOf, cX0_codeOf, 1, (some .int), [], (0, 0), (0, 0), (0, 0))
theorem cal_X0_codeOf : fCal k_X0_codeOf 1 := ⟨⟨wc586, w18⟩, ⟨by decide +kernel, by decide +kernel⟩, by decide +kernel, by decide +kernel⟩
def s_X0_codeOf (a0 : Int32) : Option (Int32) := if (a0 = 16 : Prop) then (some 63) else (some (97 + a0))
set_option maxHeartbeats 4000000 in
set_option maxRecDepth 100000 in
theorem ct_X0_codeOf {a0 : Int32} {res : Int32} (hf : s_X0_codeOf a0 = some res) : Ct k_X0_codeOf [.int a0] [] (.inl (some (.int res))) [] := by
  unfold s_X0_codeOf at hf
  refine Ct.of (L := [some (.int a0)]) cal_X0_codeOf (fent_pad (j := 0) rfl) (Nat.le_of_ble_eq_true rfl) ?_
  refine V.iload_n (i := 0) dX0_codeOf_0 rfl rfl ?_
  refine V.bipush (v := 16) dX0_codeOf_1 rfl ?_
  refine V.icmp_ne (tgt := 11) dX0_codeOf_3 (by decide) (fun h => ?_) (fun h => ?_)
  · have hf := fif_f h hf
    refine V.bipush (v := 97) dX0_codeOf_11 rfl ?_
    refine V.iload_n (i := 0) dX0_codeOf_13 rfl rfl ?_
    refine V.iadd dX0_codeOf_14 ?_
    obtain rfl := Option.some.inj hf
    exact V.iret dX0_codeOf_15 rfl (Nat.le_of_ble_eq_true rfl) (Nat.le_of_ble_eq_true rfl) rfl
  · have hf := fif_t h hf
    refine V.bipush (v := 63) dX0_codeOf_6 rfl ?_
    refine V.goto (tgt := 15) dX0_codeOf_8 (by decide) ?_
    obtain rfl := Option.some.inj hf
    exact V.iret dX0_codeOf_15 rfl (Nat.le_of_ble_eq_true rfl) (Nat.le_of_ble_eq_true rfl) rfl
def k_X0_isCode : fK := (yX0_isCode, cX0_isCode, 1, (some .boolean), [], (0, 0), (0, 0), (0, 0))
theorem cal_X0_isCode : fCal k_X0_isCode 1 := ⟨⟨wc527, w18⟩, ⟨by decide +kernel, by decide +kernel⟩, by decide +kernel, by decide +kernel⟩
def s_X0_isCode (a0 : Int32) : Option (Int32) := if (a0 < 97 : Prop) then (some 0) else (if (112 < a0 : Prop) then (some 0) else (some 1))
set_option maxHeartbeats 4000000 in
set_option maxRecDepth 100000 in
theorem ct_X0_isCode {a0 : Int32} {res : Int32} (hf : s_X0_isCode a0 = some res) : Ct k_X0_isCode [.int a0] [] (.inl (some (.int res))) [] := by
  unfold s_X0_isCode at hf
  refine Ct.of (L := [some (.int a0)]) cal_X0_isCode (fent_pad (j := 0) rfl) (Nat.le_of_ble_eq_true rfl) ?_
  refine V.iload_n (i := 0) dX0_isCode_0 rfl rfl ?_
  refine V.bipush (v := 97) dX0_isCode_1 rfl ?_
  refine V.icmp_lt (tgt := 16) dX0_isCode_3 (by decide) (fun h => ?_) (fun h => ?_)
  · have hf := fif_t h hf
    refine V.iconst (v := 0) dX0_isCode_16 rfl ?_
    obtain rfl := Option.some.inj hf
    exact V.zret (v := 0) dX0_isCode_17 rfl (by decide +kernel) (Nat.le_of_ble_eq_true rfl) (Nat.le_of_ble_eq_true rfl) rfl
  · have hf := fif_f h hf
    refine V.iload_n (i := 0) dX0_isCode_6 rfl rfl ?_
    refine V.bipush (v := 112) dX0_isCode_7 rfl ?_
    refine V.icmp_gt (tgt := 16) dX0_isCode_9 (by decide) (fun h => ?_) (fun h => ?_)
    · have hf := fif_t h hf
      refine V.iconst (v := 0) dX0_isCode_16 rfl ?_
      obtain rfl := Option.some.inj hf
      exact V.zret (v := 0) dX0_isCode_17 rfl (by decide +kernel) (Nat.le_of_ble_eq_true rfl) (Nat.le_of_ble_eq_true rfl) rfl
    · have hf := fif_f h hf
      refine V.iconst (v := 1) dX0_isCode_12 rfl ?_
      refine V.goto (tgt := 17) dX0_isCode_13 (by decide) ?_
      obtain rfl := Option.some.inj hf
      exact V.zret (v := 1) dX0_isCode_17 rfl (by decide +kernel) (Nat.le_of_ble_eq_true rfl) (Nat.le_of_ble_eq_true rfl) rfl
