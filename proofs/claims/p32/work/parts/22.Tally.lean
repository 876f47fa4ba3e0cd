/-! laid by program: shallow functions and contracts -/
def k_X8_isOfKind : fK := (yX8_isOfKind, cX8_isOfKind, 6, (some .boolean), [], (1, 21), (0, 0), (0, 0))
theorem cal_X8_isOfKind : fCal k_X8_isOfKind 4 := ⟨⟨wc161, w17⟩, ⟨by decide +kernel, by decide +kernel⟩, by decide +kernel, by decide +kernel⟩
def s_X8_isOfKind (a1 : Int32) (a2 : Int32) (a3 : Int32) (State_cells : Nat → Int32) : Option (Int32) := (s_X7_at (a1 + 0) State_cells).bind fun v1 => (s_X7_at (a1 + 1) State_cells).bind fun v2 => if (a2 = 1 : Prop) then (if (v2 ≤ 0 : Prop) then (some 0) else (some 1)) else (if (a2 = 2 : Prop) then (if (v1 = a3 : Prop) then (some 1) else (some 0)) else (if (a2 = 3 : Prop) then ((s_X0_reading v1 v2).bind fun v3 => if (v3 = a3 : Prop) then (some 1) else (some 0)) else (some 1)))
set_option maxHeartbeats 4000000 in
set_option maxRecDepth 100000 in
theorem ct_X8_isOfKind {a1 : Int32} {a2 : Int32} {a3 : Int32} {State_cells : Nat → Int32} {res : Int32} (hf : s_X8_isOfKind a1 a2 a3 State_cells = some res) : Ct k_X8_isOfKind [.ref 0, .int a1, .int a2, .int a3] [.inl (3, [.ref 1]), .inr (910, .inl State_cells)] (.inl (some (.int res))) [.inl (3, [.ref 1]), .inr (910, .inl State_cells)] := by
  unfold s_X8_isOfKind at hf
  refine Ct.of (L := [some (.ref 0), some (.int a1), some (.int a2), some (.int a3), none, none]) cal_X8_isOfKind (fent_pad (j := 2) rfl) (Nat.le_of_ble_eq_true rfl) ?_
  refine V.aload_n (i := 0) dX8_isOfKind_0 rfl rfl ?_
  refine V.iload_n (i := 1) dX8_isOfKind_1 rfl rfl ?_
  refine V.iconst (v := 0) dX8_isOfKind_2 rfl ?_
  refine V.iadd dX8_isOfKind_3 ?_
  obtain ⟨v1, hv1, hf⟩ := fbind hf
  refine V.callVn (pl := [0, 1]) (σ' := [.inl (3, [.ref 1]), .inr (910, .inl State_cells)]) (st2 := [.int v1]) (cl2 := 0) (sl2 := 0) (ct_X7_at (a1 := (a1 + 0)) (State_cells := State_cells) hv1) dX8_isOfKind_4 w162 ⟨w143, w144⟩ cal_X7_at rfl ⟨⟨Nat.le_of_ble_eq_true rfl, Nat.le_of_ble_eq_true rfl⟩, Nat.le_of_ble_eq_true rfl, Nat.le_of_ble_eq_true rfl⟩ (Nat.le_of_ble_eq_true rfl) ⟨_, _, _, _, rfl, rfl⟩ rfl ⟨rfl, ⟨by decide, by decide⟩, rfl, (fr_cons (Or.inl (Nat.le_of_ble_eq_true rfl)) (fr_nil)), rfl⟩ fr_i rfl rfl rfl rfl ?_
  refine V.istore (i := 4) (L' := [some (.ref 0), some (.int a1), some (.int a2), some (.int a3), some (.int v1), none]) dX8_isOfKind_7 (Nat.le_of_ble_eq_true rfl) rfl rfl ?_
  refine V.aload_n (i := 0) dX8_isOfKind_9 rfl rfl ?_
  refine V.iload_n (i := 1) dX8_isOfKind_10 rfl rfl ?_
  refine V.iconst (v := 1) dX8_isOfKind_11 rfl ?_
  refine V.iadd dX8_isOfKind_12 ?_
  obtain ⟨v2, hv2, hf⟩ := fbind hf
  refine V.callVn (pl := [0, 1]) (σ' := [.inl (3, [.ref 1]), .inr (910, .inl State_cells)]) (st2 := [.int v2]) (cl2 := 0) (sl2 := 0) (ct_X7_at (a1 := (a1 + 1)) (State_cells := State_cells) hv2) dX8_isOfKind_13 w162 ⟨w143, w144⟩ cal_X7_at rfl ⟨⟨Nat.le_of_ble_eq_true rfl, Nat.le_of_ble_eq_true rfl⟩, Nat.le_of_ble_eq_true rfl, Nat.le_of_ble_eq_true rfl⟩ (Nat.le_of_ble_eq_true rfl) ⟨_, _, _, _, rfl, rfl⟩ rfl ⟨rfl, ⟨by decide, by decide⟩, rfl, (fr_cons (Or.inl (Nat.le_of_ble_eq_true rfl)) (fr_nil)), rfl⟩ fr_i rfl rfl rfl rfl ?_
  refine V.istore (i := 5) (L' := [some (.ref 0), some (.int a1), some (.int a2), some (.int a3), some (.int v1), some (.int v2)]) dX8_isOfKind_16 (Nat.le_of_ble_eq_true rfl) rfl rfl ?_
  refine V.iload_n (i := 2) dX8_isOfKind_18 rfl rfl ?_
  by_cases h1 : a2 = 1
  · have hf := fif_t h1 hf
    refine V.cgi h1 (V.tableIn (off := 25) (tgt := 44) dX8_isOfKind_19 (by decide) (by decide) rfl (by decide) ?_)
    refine V.iload (i := 5) dX8_isOfKind_44 rfl ?_
    refine V.if_le (tgt := 53) dX8_isOfKind_46 (by decide) (fun h => ?_) (fun h => ?_)
    · have hf := fif_t h hf
      refine V.iconst (v := 0) dX8_isOfKind_53 rfl ?_
      obtain rfl := Option.some.inj hf
      exact V.zret (v := 0) dX8_isOfKind_54 rfl (by decide +kernel) (Nat.le_of_ble_eq_true rfl) (Nat.le_of_ble_eq_true rfl) rfl
    · have hf := fif_f h hf
      refine V.iconst (v := 1) dX8_isOfKind_49 rfl ?_
      refine V.goto (tgt := 54) dX8_isOfKind_50 (by decide) ?_
      obtain rfl := Option.some.inj hf
      exact V.zret (v := 1) dX8_isOfKind_54 rfl (by decide +kernel) (Nat.le_of_ble_eq_true rfl) (Nat.le_of_ble_eq_true rfl) rfl
  · have hf := fif_f h1 hf
    by_cases h2 : a2 = 2
    · have hf := fif_t h2 hf
      refine V.cgi h2 (V.tableIn (off := 36) (tgt := 55) dX8_isOfKind_19 (by decide) (by decide) rfl (by decide) ?_)
      refine V.iload (i := 4) dX8_isOfKind_55 rfl ?_
      refine V.iload_n (i := 3) dX8_isOfKind_57 rfl rfl ?_
      refine V.icmp_ne (tgt := 65) dX8_isOfKind_58 (by decide) (fun h => ?_) (fun h => ?_)
      · have hf := fif_f h hf
        refine V.iconst (v := 0) dX8_isOfKind_65 rfl ?_
        obtain rfl := Option.some.inj hf
        exact V.zret (v := 0) dX8_isOfKind_66 rfl (by decide +kernel) (Nat.le_of_ble_eq_true rfl) (Nat.le_of_ble_eq_true rfl) rfl
      · have hf := fif_t h hf
        refine V.iconst (v := 1) dX8_isOfKind_61 rfl ?_
        refine V.goto (tgt := 66) dX8_isOfKind_62 (by decide) ?_
        obtain rfl := Option.some.inj hf
        exact V.zret (v := 1) dX8_isOfKind_66 rfl (by decide +kernel) (Nat.le_of_ble_eq_true rfl) (Nat.le_of_ble_eq_true rfl) rfl
    · have hf := fif_f h2 hf
      by_cases h3 : a2 = 3
      · have hf := fif_t h3 hf
        refine V.cgi h3 (V.tableIn (off := 48) (tgt := 67) dX8_isOfKind_19 (by decide) (by decide) rfl (by decide) ?_)
        refine V.iload (i := 4) dX8_isOfKind_67 rfl ?_
        refine V.iload (i := 5) dX8_isOfKind_69 rfl ?_
        obtain ⟨v3, hv3, hf⟩ := fbind hf
        refine V.callSn (pl := []) (σ' := [.inl (3, [.ref 1]), .inr (910, .inl State_cells)]) (st2 := [.int v3]) (cl2 := 0) (sl2 := 0) (ct_X0_reading (a0 := v1) (a1 := v2) hv3) dX8_isOfKind_71 w163 w164 cal_X0_reading ⟨⟨Nat.le_of_ble_eq_true rfl, Nat.le_of_ble_eq_true rfl⟩, Nat.le_of_ble_eq_true rfl, Nat.le_of_ble_eq_true rfl⟩ (Nat.le_of_ble_eq_true rfl) rfl ⟨rfl, ⟨by decide, by decide⟩, rfl, (fr_nil), rfl⟩ fr_i rfl rfl rfl rfl ?_
        refine V.iload_n (i := 3) dX8_isOfKind_74 rfl rfl ?_
        refine V.icmp_ne (tgt := 82) dX8_isOfKind_75 (by decide) (fun h => ?_) (fun h => ?_)
        · have hf := fif_f h hf
          refine V.iconst (v := 0) dX8_isOfKind_82 rfl ?_
          obtain rfl := Option.some.inj hf
          exact V.zret (v := 0) dX8_isOfKind_83 rfl (by decide +kernel) (Nat.le_of_ble_eq_true rfl) (Nat.le_of_ble_eq_true rfl) rfl
        · have hf := fif_t h hf
          refine V.iconst (v := 1) dX8_isOfKind_78 rfl ?_
          refine V.goto (tgt := 83) dX8_isOfKind_79 (by decide) ?_
          obtain rfl := Option.some.inj hf
          exact V.zret (v := 1) dX8_isOfKind_83 rfl (by decide +kernel) (Nat.le_of_ble_eq_true rfl) (Nat.le_of_ble_eq_true rfl) rfl
      · have hf := fif_f h3 hf
        refine V.tableOut (tgt := 84) dX8_isOfKind_19 (by have g1 := lv_neT (a := 1) h1 (by decide); have g2 := lv_neT (a := 2) h2 (by decide); have g3 := lv_neT (a := 3) h3 (by decide); omega) (by decide) ?_
        refine V.iconst (v := 1) dX8_isOfKind_84 rfl ?_
        obtain rfl := Option.some.inj hf
        exact V.zret (v := 1) dX8_isOfKind_85 rfl (by decide +kernel) (Nat.le_of_ble_eq_true rfl) (Nat.le_of_ble_eq_true rfl) rfl
def k_X8_knotsOfName : fK := (yX8_knotsOfName, cX8_knotsOfName, 8, (some .int), [], (2, 46), (0, 0), (0, 0))
theorem cal_X8_knotsOfName : fCal k_X8_knotsOfName 5 := ⟨⟨wc148, w17⟩, ⟨by decide +kernel, by decide +kernel⟩, by decide +kernel, by decide +kernel⟩
def s_X8_knotsOfName_L14 (p1 : Int32) (p2 : Int32) (p3 : Int32) (p4 : Int32) (p6 : Int32) (State_cells : Nat → Int32) : Nat → Int32 → Int32 → Option (Int32 × Int32)
  | 0, _, _ => none
  | n + 1, x5, x7 => if (p6 ≤ x7 : Prop) then (some (x5, x7)) else ((s_X7_knotCell p1 p2 x7).bind fun v2 => (s_X8_isOfKind v2 p3 p4 State_cells).bind fun v3 => if (v3 = 0 : Prop) then (s_X8_knotsOfName_L14 p1 p2 p3 p4 p6 State_cells n (x5 + 0) (x7 + 1)) else (s_X8_knotsOfName_L14 p1 p2 p3 p4 p6 State_cells n (x5 + 1) (x7 + 1)))
set_option maxHeartbeats 4000000 in
set_option maxRecDepth 100000 in
theorem v_X8_knotsOfName_L14 {out : fO} {σ' : List fE} {p1 : Int32} {p2 : Int32} {p3 : Int32} {p4 : Int32} {p6 : Int32} {State_cells : Nat → Int32} : ∀ (n : Nat) {x5 : Int32} {x7 : Int32} {res : Int32 × Int32} (hf : s_X8_knotsOfName_L14 p1 p2 p3 p4 p6 State_cells n x5 x7 = some res) (hx : V (fXm 2 k_X8_knotsOfName out σ') (krm k_X8_knotsOfName) k_X8_knotsOfName 2 54 [some (.ref 0), some (.int p1), some (.int p2), some (.int p3), some (.int p4), some (.int res.1), some (.int p6), some (.int res.2)] [] [.inl (3, [.ref 1]), .inr (910, .inl State_cells)] 0 0), V (fXm 2 k_X8_knotsOfName out σ') (krm k_X8_knotsOfName) k_X8_knotsOfName 2 14 [some (.ref 0), some (.int p1), some (.int p2), some (.int p3), some (.int p4), some (.int x5), some (.int p6), some (.int x7)] [] [.inl (3, [.ref 1]), .inr (910, .inl State_cells)] 0 0 := by
  intro n
  induction n with
  | zero =>
    intro x5 x7 res hf hx
    rw [s_X8_knotsOfName_L14] at hf
    cases hf
  | succ n ih =>
    intro x5 x7 res hf hx
    rw [s_X8_knotsOfName_L14] at hf
    refine V.iload (i := 7) dX8_knotsOfName_14 rfl ?_
    refine V.iload (i := 6) dX8_knotsOfName_16 rfl ?_
    refine V.icmp_ge (tgt := 54) dX8_knotsOfName_18 (by decide) (fun h => ?_) (fun h => ?_)
    · have hf := fif_t h hf
      obtain rfl := Option.some.inj hf
      exact hx
    · have hf := fif_f h hf
      refine V.iload (i := 5) dX8_knotsOfName_21 rfl ?_
      refine V.aload_n (i := 0) dX8_knotsOfName_23 rfl rfl ?_
      refine V.iload_n (i := 1) dX8_knotsOfName_24 rfl rfl ?_
      refine V.iload_n (i := 2) dX8_knotsOfName_25 rfl rfl ?_
      refine V.iload (i := 7) dX8_knotsOfName_26 rfl ?_
      obtain ⟨v2, hv2, hf⟩ := fbind hf
      refine V.callSn (pl := []) (σ' := [.inl (3, [.ref 1]), .inr (910, .inl State_cells)]) (st2 := [.int v2, .ref 0, .int x5]) (cl2 := 0) (sl2 := 0) (ct_X7_knotCell (a0 := p1) (a1 := p2) (a2 := x7) hv2) dX8_knotsOfName_28 w156 w157 cal_X7_knotCell ⟨⟨Nat.le_of_ble_eq_true rfl, Nat.le_of_ble_eq_true rfl⟩, Nat.le_of_ble_eq_true rfl, Nat.le_of_ble_eq_true rfl⟩ (Nat.le_of_ble_eq_true rfl) rfl ⟨rfl, ⟨by decide, by decide⟩, rfl, (fr_nil), rfl⟩ fr_i rfl rfl rfl rfl ?_
      refine V.iload_n (i := 3) dX8_knotsOfName_31 rfl rfl ?_
      refine V.iload (i := 4) dX8_knotsOfName_32 rfl ?_
      obtain ⟨v3, hv3, hf⟩ := fbind hf
      refine V.callSn (pl := [0, 1]) (σ' := [.inl (3, [.ref 1]), .inr (910, .inl State_cells)]) (st2 := [.int v3, .int x5]) (cl2 := 0) (sl2 := 0) (ct_X8_isOfKind (a1 := v2) (a2 := p3) (a3 := p4) (State_cells := State_cells) hv3) dX8_knotsOfName_34 w159 w160 cal_X8_isOfKind ⟨⟨Nat.le_of_ble_eq_true rfl, Nat.le_of_ble_eq_true rfl⟩, Nat.le_of_ble_eq_true rfl, Nat.le_of_ble_eq_true rfl⟩ (Nat.le_of_ble_eq_true rfl) rfl ⟨rfl, ⟨by decide, by decide⟩, rfl, (fr_cons (Or.inl (Nat.le_of_ble_eq_true rfl)) (fr_nil)), rfl⟩ fr_i rfl rfl rfl rfl ?_
      refine V.if_eq (tgt := 44) dX8_knotsOfName_37 (by decide) (fun h => ?_) (fun h => ?_)
      · have hf := fif_t h hf
        refine V.iconst (v := 0) dX8_knotsOfName_44 rfl ?_
        refine V.iadd dX8_knotsOfName_45 ?_
        refine V.istore (i := 5) (L' := [some (.ref 0), some (.int p1), some (.int p2), some (.int p3), some (.int p4), some (.int (x5 + 0)), some (.int p6), some (.int x7)]) dX8_knotsOfName_46 (Nat.le_of_ble_eq_true rfl) rfl rfl ?_
        refine V.iinc (i := 7) (v := (x7 + 1)) (L' := [some (.ref 0), some (.int p1), some (.int p2), some (.int p3), some (.int p4), some (.int (x5 + 0)), some (.int p6), some (.int (x7 + 1))]) dX8_knotsOfName_48 rfl rfl (Nat.le_of_ble_eq_true rfl) rfl rfl ?_
        refine V.goto (tgt := 14) dX8_knotsOfName_51 (by decide) ?_
        exact ih hf hx
      · have hf := fif_f h hf
        refine V.iconst (v := 1) dX8_knotsOfName_40 rfl ?_
        refine V.goto (tgt := 45) dX8_knotsOfName_41 (by decide) ?_
        refine V.iadd dX8_knotsOfName_45 ?_
        refine V.istore (i := 5) (L' := [some (.ref 0), some (.int p1), some (.int p2), some (.int p3), some (.int p4), some (.int (x5 + 1)), some (.int p6), some (.int x7)]) dX8_knotsOfName_46 (Nat.le_of_ble_eq_true rfl) rfl rfl ?_
        refine V.iinc (i := 7) (v := (x7 + 1)) (L' := [some (.ref 0), some (.int p1), some (.int p2), some (.int p3), some (.int p4), some (.int (x5 + 1)), some (.int p6), some (.int (x7 + 1))]) dX8_knotsOfName_48 rfl rfl (Nat.le_of_ble_eq_true rfl) rfl rfl ?_
        refine V.goto (tgt := 14) dX8_knotsOfName_51 (by decide) ?_
        exact ih hf hx
def s_X8_knotsOfName (a1 : Int32) (a2 : Int32) (a3 : Int32) (a4 : Int32) (State_cells : Nat → Int32) : Option (Int32) := (s_X7_knots a1 a2 State_cells).bind fun v1 => (s_X8_knotsOfName_L14 a1 a2 a3 a4 v1 State_cells gF 0 0).bind fun r4 => some r4.1
set_option maxHeartbeats 4000000 in
set_option maxRecDepth 100000 in
theorem ct_X8_knotsOfName {a1 : Int32} {a2 : Int32} {a3 : Int32} {a4 : Int32} {State_cells : Nat → Int32} {res : Int32} (hf : s_X8_knotsOfName a1 a2 a3 a4 State_cells = some res) : Ct k_X8_knotsOfName [.ref 0, .int a1, .int a2, .int a3, .int a4] [.inl (3, [.ref 1]), .inr (910, .inl State_cells)] (.inl (some (.int res))) [.inl (3, [.ref 1]), .inr (910, .inl State_cells)] := by
  unfold s_X8_knotsOfName at hf
  refine Ct.of (L := [some (.ref 0), some (.int a1), some (.int a2), some (.int a3), some (.int a4), none, none, none]) cal_X8_knotsOfName (fent_pad (j := 3) rfl) (Nat.le_of_ble_eq_true rfl) ?_
  refine V.iconst (v := 0) dX8_knotsOfName_0 rfl ?_
  refine V.istore (i := 5) (L' := [some (.ref 0), some (.int a1), some (.int a2), some (.int a3), some (.int a4), some (.int 0), none, none]) dX8_knotsOfName_1 (Nat.le_of_ble_eq_true rfl) rfl rfl ?_
  refine V.aload_n (i := 0) dX8_knotsOfName_3 rfl rfl ?_
  refine V.iload_n (i := 1) dX8_knotsOfName_4 rfl rfl ?_
  refine V.iload_n (i := 2) dX8_knotsOfName_5 rfl rfl ?_
  obtain ⟨v1, hv1, hf⟩ := fbind hf
  refine V.callVn (pl := [0, 1]) (σ' := [.inl (3, [.ref 1]), .inr (910, .inl State_cells)]) (st2 := [.int v1]) (cl2 := 0) (sl2 := 0) (ct_X7_knots (a1 := a1) (a2 := a2) (State_cells := State_cells) hv1) dX8_knotsOfName_6 w149 ⟨w150, w151⟩ cal_X7_knots rfl ⟨⟨Nat.le_of_ble_eq_true rfl, Nat.le_of_ble_eq_true rfl⟩, Nat.le_of_ble_eq_true rfl, Nat.le_of_ble_eq_true rfl⟩ (Nat.le_of_ble_eq_true rfl) ⟨_, _, _, _, rfl, rfl⟩ rfl ⟨rfl, ⟨by decide, by decide⟩, rfl, (fr_cons (Or.inl (Nat.le_of_ble_eq_true rfl)) (fr_nil)), rfl⟩ fr_i rfl rfl rfl rfl ?_
  refine V.istore (i := 6) (L' := [some (.ref 0), some (.int a1), some (.int a2), some (.int a3), some (.int a4), some (.int 0), some (.int v1), none]) dX8_knotsOfName_9 (Nat.le_of_ble_eq_true rfl) rfl rfl ?_
  refine V.iconst (v := 0) dX8_knotsOfName_11 rfl ?_
  refine V.istore (i := 7) (L' := [some (.ref 0), some (.int a1), some (.int a2), some (.int a3), some (.int a4), some (.int 0), some (.int v1), some (.int 0)]) dX8_knotsOfName_12 (Nat.le_of_ble_eq_true rfl) rfl rfl ?_
  obtain ⟨r4, hr4, hf⟩ := fbind hf
  refine v_X8_knotsOfName_L14 gF hr4 ?_
  refine V.iload (i := 5) dX8_knotsOfName_54 rfl ?_
  obtain rfl := Option.some.inj hf
  exact V.iret dX8_knotsOfName_56 rfl (Nat.le_of_ble_eq_true rfl) (Nat.le_of_ble_eq_true rfl) rfl
def k_X8_knotsThatAre : fK := (yX8_knotsThatAre, cX8_knotsThatAre, 7, (some .int), [], (3, 73), (0, 0), (0, 0))
theorem cal_X8_knotsThatAre : fCal k_X8_knotsThatAre 3 := ⟨⟨wc137, w17⟩, ⟨by decide +kernel, by decide +kernel⟩, by decide +kernel, by decide +kernel⟩
def s_X8_knotsThatAre_L22 (p1 : Int32) (p2 : Int32) (p4 : Int32) (p5 : Int32) (State_cells : Nat → Int32) : Nat → Int32 → Int32 → Option (Int32 × Int32)
  | 0, _, _ => none
  | n + 1, x3, x6 => if (p5 ≤ x6 : Prop) then (some (x3, x6)) else ((s_X8_knotsOfName p4 x6 p1 p2 State_cells).bind fun v2 => s_X8_knotsThatAre_L22 p1 p2 p4 p5 State_cells n (x3 + v2) (x6 + 1))
set_option maxHeartbeats 4000000 in
set_option maxRecDepth 100000 in
theorem v_X8_knotsThatAre_L22 {out : fO} {σ' : List fE} {p1 : Int32} {p2 : Int32} {p4 : Int32} {p5 : Int32} {State_cells : Nat → Int32} : ∀ (n : Nat) {x3 : Int32} {x6 : Int32} {res : Int32 × Int32} (hf : s_X8_knotsThatAre_L22 p1 p2 p4 p5 State_cells n x3 x6 = some res) (hx : V (fXm 2 k_X8_knotsThatAre out σ') (krm k_X8_knotsThatAre) k_X8_knotsThatAre 2 48 [some (.ref 0), some (.int p1), some (.int p2), some (.int res.1), some (.int p4), some (.int p5), some (.int res.2)] [] [.inl (3, [.ref 1]), .inr (910, .inl State_cells)] 0 0), V (fXm 2 k_X8_knotsThatAre out σ') (krm k_X8_knotsThatAre) k_X8_knotsThatAre 2 22 [some (.ref 0), some (.int p1), some (.int p2), some (.int x3), some (.int p4), some (.int p5), some (.int x6)] [] [.inl (3, [.ref 1]), .inr (910, .inl State_cells)] 0 0 := by
  intro n
  induction n with
  | zero =>
    intro x3 x6 res hf hx
    rw [s_X8_knotsThatAre_L22] at hf
    cases hf
  | succ n ih =>
    intro x3 x6 res hf hx
    rw [s_X8_knotsThatAre_L22] at hf
    refine V.iload (i := 6) dX8_knotsThatAre_22 rfl ?_
    refine V.iload (i := 5) dX8_knotsThatAre_24 rfl ?_
    refine V.icmp_ge (tgt := 48) dX8_knotsThatAre_26 (by decide) (fun h => ?_) (fun h => ?_)
    · have hf := fif_t h hf
      obtain rfl := Option.some.inj hf
      exact hx
    · have hf := fif_f h hf
      refine V.iload_n (i := 3) dX8_knotsThatAre_29 rfl rfl ?_
      refine V.aload_n (i := 0) dX8_knotsThatAre_30 rfl rfl ?_
      refine V.iload (i := 4) dX8_knotsThatAre_31 rfl ?_
      refine V.iload (i := 6) dX8_knotsThatAre_33 rfl ?_
      refine V.iload_n (i := 1) dX8_knotsThatAre_35 rfl rfl ?_
      refine V.iload_n (i := 2) dX8_knotsThatAre_36 rfl rfl ?_
      obtain ⟨v2, hv2, hf⟩ := fbind hf
      refine V.callSn (pl := [0, 1]) (σ' := [.inl (3, [.ref 1]), .inr (910, .inl State_cells)]) (st2 := [.int v2, .int x3]) (cl2 := 0) (sl2 := 0) (ct_X8_knotsOfName (a1 := p4) (a2 := x6) (a3 := p1) (a4 := p2) (State_cells := State_cells) hv2) dX8_knotsThatAre_37 w146 w147 cal_X8_knotsOfName ⟨⟨Nat.le_of_ble_eq_true rfl, Nat.le_of_ble_eq_true rfl⟩, Nat.le_of_ble_eq_true rfl, Nat.le_of_ble_eq_true rfl⟩ (Nat.le_of_ble_eq_true rfl) rfl ⟨rfl, ⟨by decide, by decide⟩, rfl, (fr_cons (Or.inl (Nat.le_of_ble_eq_true rfl)) (fr_nil)), rfl⟩ fr_i rfl rfl rfl rfl ?_
      refine V.iadd dX8_knotsThatAre_40 ?_
      refine V.istore_n (i := 3) (L' := [some (.ref 0), some (.int p1), some (.int p2), some (.int (x3 + v2)), some (.int p4), some (.int p5), some (.int x6)]) dX8_knotsThatAre_41 rfl (Nat.le_of_ble_eq_true rfl) rfl rfl ?_
      refine V.iinc (i := 6) (v := (x6 + 1)) (L' := [some (.ref 0), some (.int p1), some (.int p2), some (.int (x3 + v2)), some (.int p4), some (.int p5), some (.int (x6 + 1))]) dX8_knotsThatAre_42 rfl rfl (Nat.le_of_ble_eq_true rfl) rfl rfl ?_
      refine V.goto (tgt := 22) dX8_knotsThatAre_45 (by decide) ?_
      exact ih hf hx
def s_X8_knotsThatAre_L5 (p1 : Int32) (p2 : Int32) (State_cells : Nat → Int32) : Nat → Int32 → Int32 → Option (Int32 × Int32)
  | 0, _, _ => none
  | n + 1, x3, x4 => if (5 ≤ x4 : Prop) then (some (x3, x4)) else ((s_X7_names x4 State_cells).bind fun v1 => (s_X8_knotsThatAre_L22 p1 p2 x4 v1 State_cells gF x3 0).bind fun r3 => s_X8_knotsThatAre_L5 p1 p2 State_cells n r3.1 (x4 + 1))
set_option maxHeartbeats 4000000 in
set_option maxRecDepth 100000 in
theorem v_X8_knotsThatAre_L5 {out : fO} {σ' : List fE} {p1 : Int32} {p2 : Int32} {State_cells : Nat → Int32} : ∀ (n : Nat) {x3 : Int32} {x4 : Int32} {res : Int32 × Int32} (hf : s_X8_knotsThatAre_L5 p1 p2 State_cells n x3 x4 = some res) (hx : V (fXm 2 k_X8_knotsThatAre out σ') (krm k_X8_knotsThatAre) k_X8_knotsThatAre 2 54 [some (.ref 0), some (.int p1), some (.int p2), some (.int res.1), some (.int res.2), none, none] [] [.inl (3, [.ref 1]), .inr (910, .inl State_cells)] 0 0), V (fXm 2 k_X8_knotsThatAre out σ') (krm k_X8_knotsThatAre) k_X8_knotsThatAre 2 5 [some (.ref 0), some (.int p1), some (.int p2), some (.int x3), some (.int x4), none, none] [] [.inl (3, [.ref 1]), .inr (910, .inl State_cells)] 0 0 := by
  intro n
  induction n with
  | zero =>
    intro x3 x4 res hf hx
    rw [s_X8_knotsThatAre_L5] at hf
    cases hf
  | succ n ih =>
    intro x3 x4 res hf hx
    rw [s_X8_knotsThatAre_L5] at hf
    refine V.iload (i := 4) dX8_knotsThatAre_5 rfl ?_
    refine V.iconst (v := 5) dX8_knotsThatAre_7 rfl ?_
    refine V.icmp_ge (tgt := 54) dX8_knotsThatAre_8 (by decide) (fun h => ?_) (fun h => ?_)
    · have hf := fif_t h hf
      obtain rfl := Option.some.inj hf
      exact hx
    · have hf := fif_f h hf
      refine V.aload_n (i := 0) dX8_knotsThatAre_11 rfl rfl ?_
      refine V.iload (i := 4) dX8_knotsThatAre_12 rfl ?_
      obtain ⟨v1, hv1, hf⟩ := fbind hf
      refine V.callVn (pl := [0, 1]) (σ' := [.inl (3, [.ref 1]), .inr (910, .inl State_cells)]) (st2 := [.int v1]) (cl2 := 0) (sl2 := 0) (ct_X7_names (a1 := x4) (State_cells := State_cells) hv1) dX8_knotsThatAre_14 w138 ⟨w139, w140⟩ cal_X7_names rfl ⟨⟨Nat.le_of_ble_eq_true rfl, Nat.le_of_ble_eq_true rfl⟩, Nat.le_of_ble_eq_true rfl, Nat.le_of_ble_eq_true rfl⟩ (Nat.le_of_ble_eq_true rfl) ⟨_, _, _, _, rfl, rfl⟩ rfl ⟨rfl, ⟨by decide, by decide⟩, rfl, (fr_cons (Or.inl (Nat.le_of_ble_eq_true rfl)) (fr_nil)), rfl⟩ fr_i rfl rfl rfl rfl ?_
      refine V.istore (i := 5) (L' := [some (.ref 0), some (.int p1), some (.int p2), some (.int x3), some (.int x4), some (.int v1), none]) dX8_knotsThatAre_17 (Nat.le_of_ble_eq_true rfl) rfl rfl ?_
      refine V.iconst (v := 0) dX8_knotsThatAre_19 rfl ?_
      refine V.istore (i := 6) (L' := [some (.ref 0), some (.int p1), some (.int p2), some (.int x3), some (.int x4), some (.int v1), some (.int 0)]) dX8_knotsThatAre_20 (Nat.le_of_ble_eq_true rfl) rfl rfl ?_
      obtain ⟨r3, hr3, hf⟩ := fbind hf
      refine v_X8_knotsThatAre_L22 gF hr3 ?_
      refine V.iinc (i := 4) (v := (x4 + 1)) (L' := [some (.ref 0), some (.int p1), some (.int p2), some (.int r3.1), some (.int (x4 + 1)), some (.int v1), some (.int r3.2)]) dX8_knotsThatAre_48 rfl rfl (Nat.le_of_ble_eq_true rfl) rfl rfl ?_
      refine V.goto (tgt := 5) dX8_knotsThatAre_51 (by decide) ?_
      exact V.locs (L' := [some (.ref 0), some (.int p1), some (.int p2), some (.int r3.1), some (.int (x4 + 1)), none, none]) ⟨rfl, ⟨rfl, ⟨rfl, ⟨rfl, ⟨rfl, trivial⟩⟩⟩⟩⟩ (ih hf hx)
def s_X8_knotsThatAre (a1 : Int32) (a2 : Int32) (State_cells : Nat → Int32) : Option (Int32) := (s_X8_knotsThatAre_L5 a1 a2 State_cells gF 0 0).bind fun r4 => some r4.1
set_option maxHeartbeats 4000000 in
set_option maxRecDepth 100000 in
theorem ct_X8_knotsThatAre {a1 : Int32} {a2 : Int32} {State_cells : Nat → Int32} {res : Int32} (hf : s_X8_knotsThatAre a1 a2 State_cells = some res) : Ct k_X8_knotsThatAre [.ref 0, .int a1, .int a2] [.inl (3, [.ref 1]), .inr (910, .inl State_cells)] (.inl (some (.int res))) [.inl (3, [.ref 1]), .inr (910, .inl State_cells)] := by
  unfold s_X8_knotsThatAre at hf
  refine Ct.of (L := [some (.ref 0), some (.int a1), some (.int a2), none, none, none, none]) cal_X8_knotsThatAre (fent_pad (j := 4) rfl) (Nat.le_of_ble_eq_true rfl) ?_
  refine V.iconst (v := 0) dX8_knotsThatAre_0 rfl ?_
  refine V.istore_n (i := 3) (L' := [some (.ref 0), some (.int a1), some (.int a2), some (.int 0), none, none, none]) dX8_knotsThatAre_1 rfl (Nat.le_of_ble_eq_true rfl) rfl rfl ?_
  refine V.iconst (v := 0) dX8_knotsThatAre_2 rfl ?_
  refine V.istore (i := 4) (L' := [some (.ref 0), some (.int a1), some (.int a2), some (.int 0), some (.int 0), none, none]) dX8_knotsThatAre_3 (Nat.le_of_ble_eq_true rfl) rfl rfl ?_
  obtain ⟨r4, hr4, hf⟩ := fbind hf
  refine v_X8_knotsThatAre_L5 gF hr4 ?_
  refine V.iload_n (i := 3) dX8_knotsThatAre_54 rfl rfl ?_
  obtain rfl := Option.some.inj hf
  exact V.iret dX8_knotsThatAre_55 rfl (Nat.le_of_ble_eq_true rfl) (Nat.le_of_ble_eq_true rfl) rfl
def k_X8_ofLetter : fK := (yX8_ofLetter, cX8_ofLetter, 3, (some .int), [], (4, 99), (0, 0), (0, 0))
theorem cal_X8_ofLetter : fCal k_X8_ofLetter 3 := ⟨⟨wc344, w17⟩, ⟨by decide +kernel, by decide +kernel⟩, by decide +kernel, by decide +kernel⟩
def s_X8_ofLetter (a1 : Int32) (a2 : Int32) (State_cells : Nat → Int32) : Option (Int32) := if (a2 = 0 : Prop) then ((s_X0_turns a1).bind fun v1 => some v1) else (if (a2 = 1 : Prop) then ((s_X0_loops a1).bind fun v2 => some v2) else (if (a2 = 2 : Prop) then ((s_X0_cordOfKnot a1).bind fun v3 => some v3) else (if (a2 = 3 : Prop) then ((s_X0_isVowel a1).bind fun v4 => if (v4 = 0 : Prop) then (some 0) else (some 1)) else (if (a2 = 4 : Prop) then ((s_X8_knotsThatAre 2 a1 State_cells).bind fun v5 => some v5) else ((s_X8_knotsThatAre 3 a1 State_cells).bind fun v6 => some v6)))))
set_option maxHeartbeats 4000000 in
set_option maxRecDepth 100000 in
theorem ct_X8_ofLetter {a1 : Int32} {a2 : Int32} {State_cells : Nat → Int32} {res : Int32} (hf : s_X8_ofLetter a1 a2 State_cells = some res) : Ct k_X8_ofLetter [.ref 0, .int a1, .int a2] [.inl (3, [.ref 1]), .inr (910, .inl State_cells)] (.inl (some (.int res))) [.inl (3, [.ref 1]), .inr (910, .inl State_cells)] := by
  unfold s_X8_ofLetter at hf
  refine Ct.of (L := [some (.ref 0), some (.int a1), some (.int a2)]) cal_X8_ofLetter (fent_pad (j := 0) rfl) (Nat.le_of_ble_eq_true rfl) ?_
  refine V.iload_n (i := 2) dX8_ofLetter_0 rfl rfl ?_
  by_cases h0 : a2 = 0
  · have hf := fif_t h0 hf
    refine V.cgi h0 (V.tableIn (off := 35) (tgt := 36) dX8_ofLetter_1 (by decide) (by decide) rfl (by decide) ?_)
    refine V.iload_n (i := 1) dX8_ofLetter_36 rfl rfl ?_
    obtain ⟨v1, hv1, hf⟩ := fbind hf
    refine V.callSn (pl := []) (σ' := [.inl (3, [.ref 1]), .inr (910, .inl State_cells)]) (st2 := [.int v1]) (cl2 := 0) (sl2 := 0) (ct_X0_turns (a0 := a1) hv1) dX8_ofLetter_37 w345 w346 cal_X0_turns ⟨⟨Nat.le_of_ble_eq_true rfl, Nat.le_of_ble_eq_true rfl⟩, Nat.le_of_ble_eq_true rfl, Nat.le_of_ble_eq_true rfl⟩ (Nat.le_of_ble_eq_true rfl) rfl ⟨rfl, ⟨by decide, by decide⟩, rfl, (fr_nil), rfl⟩ fr_i rfl rfl rfl rfl ?_
    obtain rfl := Option.some.inj hf
    exact V.iret dX8_ofLetter_40 rfl (Nat.le_of_ble_eq_true rfl) (Nat.le_of_ble_eq_true rfl) rfl
  · have hf := fif_f h0 hf
    by_cases h1 : a2 = 1
    · have hf := fif_t h1 hf
      refine V.cgi h1 (V.tableIn (off := 40) (tgt := 41) dX8_ofLetter_1 (by decide) (by decide) rfl (by decide) ?_)
      refine V.iload_n (i := 1) dX8_ofLetter_41 rfl rfl ?_
      obtain ⟨v2, hv2, hf⟩ := fbind hf
      refine V.callSn (pl := []) (σ' := [.inl (3, [.ref 1]), .inr (910, .inl State_cells)]) (st2 := [.int v2]) (cl2 := 0) (sl2 := 0) (ct_X0_loops (a0 := a1) hv2) dX8_ofLetter_42 w348 w349 cal_X0_loops ⟨⟨Nat.le_of_ble_eq_true rfl, Nat.le_of_ble_eq_true rfl⟩, Nat.le_of_ble_eq_true rfl, Nat.le_of_ble_eq_true rfl⟩ (Nat.le_of_ble_eq_true rfl) rfl ⟨rfl, ⟨by decide, by decide⟩, rfl, (fr_nil), rfl⟩ fr_i rfl rfl rfl rfl ?_
      obtain rfl := Option.some.inj hf
      exact V.iret dX8_ofLetter_45 rfl (Nat.le_of_ble_eq_true rfl) (Nat.le_of_ble_eq_true rfl) rfl
    · have hf := fif_f h1 hf
      by_cases h2 : a2 = 2
      · have hf := fif_t h2 hf
        refine V.cgi h2 (V.tableIn (off := 45) (tgt := 46) dX8_ofLetter_1 (by decide) (by decide) rfl (by decide) ?_)
        refine V.iload_n (i := 1) dX8_ofLetter_46 rfl rfl ?_
        obtain ⟨v3, hv3, hf⟩ := fbind hf
        refine V.callSn (pl := []) (σ' := [.inl (3, [.ref 1]), .inr (910, .inl State_cells)]) (st2 := [.int v3]) (cl2 := 0) (sl2 := 0) (ct_X0_cordOfKnot (a0 := a1) hv3) dX8_ofLetter_47 w351 w282 cal_X0_cordOfKnot ⟨⟨Nat.le_of_ble_eq_true rfl, Nat.le_of_ble_eq_true rfl⟩, Nat.le_of_ble_eq_true rfl, Nat.le_of_ble_eq_true rfl⟩ (Nat.le_of_ble_eq_true rfl) rfl ⟨rfl, ⟨by decide, by decide⟩, rfl, (fr_nil), rfl⟩ fr_i rfl rfl rfl rfl ?_
        obtain rfl := Option.some.inj hf
        exact V.iret dX8_ofLetter_50 rfl (Nat.le_of_ble_eq_true rfl) (Nat.le_of_ble_eq_true rfl) rfl
      · have hf := fif_f h2 hf
        by_cases h3 : a2 = 3
        · have hf := fif_t h3 hf
          refine V.cgi h3 (V.tableIn (off := 50) (tgt := 51) dX8_ofLetter_1 (by decide) (by decide) rfl (by decide) ?_)
          refine V.iload_n (i := 1) dX8_ofLetter_51 rfl rfl ?_
          obtain ⟨v4, hv4, hf⟩ := fbind hf
          refine V.callSn (pl := []) (σ' := [.inl (3, [.ref 1]), .inr (910, .inl State_cells)]) (st2 := [.int v4]) (cl2 := 0) (sl2 := 0) (ct_X0_isVowel (a0 := a1) hv4) dX8_ofLetter_52 w352 w311 cal_X0_isVowel ⟨⟨Nat.le_of_ble_eq_true rfl, Nat.le_of_ble_eq_true rfl⟩, Nat.le_of_ble_eq_true rfl, Nat.le_of_ble_eq_true rfl⟩ (Nat.le_of_ble_eq_true rfl) rfl ⟨rfl, ⟨by decide, by decide⟩, rfl, (fr_nil), rfl⟩ fr_i rfl rfl rfl rfl ?_
          refine V.if_eq (tgt := 62) dX8_ofLetter_55 (by decide) (fun h => ?_) (fun h => ?_)
          · have hf := fif_t h hf
            refine V.iconst (v := 0) dX8_ofLetter_62 rfl ?_
            obtain rfl := Option.some.inj hf
            exact V.iret dX8_ofLetter_63 rfl (Nat.le_of_ble_eq_true rfl) (Nat.le_of_ble_eq_true rfl) rfl
          · have hf := fif_f h hf
            refine V.iconst (v := 1) dX8_ofLetter_58 rfl ?_
            refine V.goto (tgt := 63) dX8_ofLetter_59 (by decide) ?_
            obtain rfl := Option.some.inj hf
            exact V.iret dX8_ofLetter_63 rfl (Nat.le_of_ble_eq_true rfl) (Nat.le_of_ble_eq_true rfl) rfl
        · have hf := fif_f h3 hf
          by_cases h4 : a2 = 4
          · have hf := fif_t h4 hf
            refine V.cgi h4 (V.tableIn (off := 63) (tgt := 64) dX8_ofLetter_1 (by decide) (by decide) rfl (by decide) ?_)
            refine V.aload_n (i := 0) dX8_ofLetter_64 rfl rfl ?_
            refine V.iconst (v := 2) dX8_ofLetter_65 rfl ?_
            refine V.iload_n (i := 1) dX8_ofLetter_66 rfl rfl ?_
            obtain ⟨v5, hv5, hf⟩ := fbind hf
            refine V.callSn (pl := [0, 1]) (σ' := [.inl (3, [.ref 1]), .inr (910, .inl State_cells)]) (st2 := [.int v5]) (cl2 := 0) (sl2 := 0) (ct_X8_knotsThatAre (a1 := 2) (a2 := a1) (State_cells := State_cells) hv5) dX8_ofLetter_67 w135 w136 cal_X8_knotsThatAre ⟨⟨Nat.le_of_ble_eq_true rfl, Nat.le_of_ble_eq_true rfl⟩, Nat.le_of_ble_eq_true rfl, Nat.le_of_ble_eq_true rfl⟩ (Nat.le_of_ble_eq_true rfl) rfl ⟨rfl, ⟨by decide, by decide⟩, rfl, (fr_cons (Or.inl (Nat.le_of_ble_eq_true rfl)) (fr_nil)), rfl⟩ fr_i rfl rfl rfl rfl ?_
            obtain rfl := Option.some.inj hf
            exact V.iret dX8_ofLetter_70 rfl (Nat.le_of_ble_eq_true rfl) (Nat.le_of_ble_eq_true rfl) rfl
          · have hf := fif_f h4 hf
            refine V.tableOut (tgt := 71) dX8_ofLetter_1 (by have g0 := lv_neT (a := 0) h0 (by decide); have g1 := lv_neT (a := 1) h1 (by decide); have g2 := lv_neT (a := 2) h2 (by decide); have g3 := lv_neT (a := 3) h3 (by decide); have g4 := lv_neT (a := 4) h4 (by decide); omega) (by decide) ?_
            refine V.aload_n (i := 0) dX8_ofLetter_71 rfl rfl ?_
            refine V.iconst (v := 3) dX8_ofLetter_72 rfl ?_
            refine V.iload_n (i := 1) dX8_ofLetter_73 rfl rfl ?_
            obtain ⟨v6, hv6, hf⟩ := fbind hf
            refine V.callSn (pl := [0, 1]) (σ' := [.inl (3, [.ref 1]), .inr (910, .inl State_cells)]) (st2 := [.int v6]) (cl2 := 0) (sl2 := 0) (ct_X8_knotsThatAre (a1 := 3) (a2 := a1) (State_cells := State_cells) hv6) dX8_ofLetter_74 w135 w136 cal_X8_knotsThatAre ⟨⟨Nat.le_of_ble_eq_true rfl, Nat.le_of_ble_eq_true rfl⟩, Nat.le_of_ble_eq_true rfl, Nat.le_of_ble_eq_true rfl⟩ (Nat.le_of_ble_eq_true rfl) rfl ⟨rfl, ⟨by decide, by decide⟩, rfl, (fr_cons (Or.inl (Nat.le_of_ble_eq_true rfl)) (fr_nil)), rfl⟩ fr_i rfl rfl rfl rfl ?_
            obtain rfl := Option.some.inj hf
            exact V.iret dX8_ofLetter_77 rfl (Nat.le_of_ble_eq_true rfl) (Nat.le_of_ble_eq_true rfl) rfl
def k_X8_ofKnot : fK := (yX8_ofKnot, cX8_ofKnot, 5, (some .int), [], (2, 47), (0, 0), (0, 0))
theorem cal_X8_ofKnot : fCal k_X8_ofKnot 5 := ⟨⟨wc327, w17⟩, ⟨by decide +kernel, by decide +kernel⟩, by decide +kernel, by decide +kernel⟩
def s_X8_ofKnot (a1 : Int32) (a2 : Int32) (a3 : Int32) (a4 : Int32) (State_cells : Nat → Int32) : Option (Int32) := if (a3 < 0 : Prop) then (some (-1)) else ((s_X7_knots a1 a2 State_cells).bind fun v1 => if (a3 < v1 : Prop) then (if (a4 = 0 : Prop) then ((s_X7_knotCell a1 a2 a3).bind fun v2 => (s_X7_at (v2 + 0) State_cells).bind fun v3 => some v3) else (if (a4 = 1 : Prop) then ((s_X7_readsAs a1 a2 a3 State_cells).bind fun v4 => some v4) else ((s_X7_loosened a1 a2 a3 State_cells).bind fun v5 => some v5))) else (some (-1)))
set_option maxHeartbeats 4000000 in
set_option maxRecDepth 100000 in
theorem ct_X8_ofKnot {a1 : Int32} {a2 : Int32} {a3 : Int32} {a4 : Int32} {State_cells : Nat → Int32} {res : Int32} (hf : s_X8_ofKnot a1 a2 a3 a4 State_cells = some res) : Ct k_X8_ofKnot [.ref 0, .int a1, .int a2, .int a3, .int a4] [.inl (3, [.ref 1]), .inr (910, .inl State_cells)] (.inl (some (.int res))) [.inl (3, [.ref 1]), .inr (910, .inl State_cells)] := by
  unfold s_X8_ofKnot at hf
  refine Ct.of (L := [some (.ref 0), some (.int a1), some (.int a2), some (.int a3), some (.int a4)]) cal_X8_ofKnot (fent_pad (j := 0) rfl) (Nat.le_of_ble_eq_true rfl) ?_
  refine V.iload_n (i := 3) dX8_ofKnot_0 rfl rfl ?_
  refine V.if_lt (tgt := 14) dX8_ofKnot_1 (by decide) (fun h => ?_) (fun h => ?_)
  · have hf := fif_t h hf
    refine V.iconst (v := (-1)) dX8_ofKnot_14 rfl ?_
    obtain rfl := Option.some.inj hf
    exact V.iret dX8_ofKnot_15 rfl (Nat.le_of_ble_eq_true rfl) (Nat.le_of_ble_eq_true rfl) rfl
  · have hf := fif_f h hf
    refine V.iload_n (i := 3) dX8_ofKnot_4 rfl rfl ?_
    refine V.aload_n (i := 0) dX8_ofKnot_5 rfl rfl ?_
    refine V.iload_n (i := 1) dX8_ofKnot_6 rfl rfl ?_
    refine V.iload_n (i := 2) dX8_ofKnot_7 rfl rfl ?_
    obtain ⟨v1, hv1, hf⟩ := fbind hf
    refine V.callVn (pl := [0, 1]) (σ' := [.inl (3, [.ref 1]), .inr (910, .inl State_cells)]) (st2 := [.int v1, .int a3]) (cl2 := 0) (sl2 := 0) (ct_X7_knots (a1 := a1) (a2 := a2) (State_cells := State_cells) hv1) dX8_ofKnot_8 w149 ⟨w150, w151⟩ cal_X7_knots rfl ⟨⟨Nat.le_of_ble_eq_true rfl, Nat.le_of_ble_eq_true rfl⟩, Nat.le_of_ble_eq_true rfl, Nat.le_of_ble_eq_true rfl⟩ (Nat.le_of_ble_eq_true rfl) ⟨_, _, _, _, rfl, rfl⟩ rfl ⟨rfl, ⟨by decide, by decide⟩, rfl, (fr_cons (Or.inl (Nat.le_of_ble_eq_true rfl)) (fr_nil)), rfl⟩ fr_i rfl rfl rfl rfl ?_
    refine V.icmp_lt (tgt := 16) dX8_ofKnot_11 (by decide) (fun h => ?_) (fun h => ?_)
    · have hf := fif_t h hf
      refine V.iload (i := 4) dX8_ofKnot_16 rfl ?_
      by_cases h0 : a4 = 0
      · have hf := fif_t h0 hf
        refine V.cgi h0 (V.lookup (off := 26) (tgt := 44) dX8_ofKnot_18 rfl rfl (by decide) ?_)
        refine V.aload_n (i := 0) dX8_ofKnot_44 rfl rfl ?_
        refine V.iload_n (i := 1) dX8_ofKnot_45 rfl rfl ?_
        refine V.iload_n (i := 2) dX8_ofKnot_46 rfl rfl ?_
        refine V.iload_n (i := 3) dX8_ofKnot_47 rfl rfl ?_
        obtain ⟨v2, hv2, hf⟩ := fbind hf
        refine V.callSn (pl := []) (σ' := [.inl (3, [.ref 1]), .inr (910, .inl State_cells)]) (st2 := [.int v2, .ref 0]) (cl2 := 0) (sl2 := 0) (ct_X7_knotCell (a0 := a1) (a1 := a2) (a2 := a3) hv2) dX8_ofKnot_48 w156 w157 cal_X7_knotCell ⟨⟨Nat.le_of_ble_eq_true rfl, Nat.le_of_ble_eq_true rfl⟩, Nat.le_of_ble_eq_true rfl, Nat.le_of_ble_eq_true rfl⟩ (Nat.le_of_ble_eq_true rfl) rfl ⟨rfl, ⟨by decide, by decide⟩, rfl, (fr_nil), rfl⟩ fr_i rfl rfl rfl rfl ?_
        refine V.iconst (v := 0) dX8_ofKnot_51 rfl ?_
        refine V.iadd dX8_ofKnot_52 ?_
        obtain ⟨v3, hv3, hf⟩ := fbind hf
        refine V.callVn (pl := [0, 1]) (σ' := [.inl (3, [.ref 1]), .inr (910, .inl State_cells)]) (st2 := [.int v3]) (cl2 := 0) (sl2 := 0) (ct_X7_at (a1 := (v2 + 0)) (State_cells := State_cells) hv3) dX8_ofKnot_53 w162 ⟨w143, w144⟩ cal_X7_at rfl ⟨⟨Nat.le_of_ble_eq_true rfl, Nat.le_of_ble_eq_true rfl⟩, Nat.le_of_ble_eq_true rfl, Nat.le_of_ble_eq_true rfl⟩ (Nat.le_of_ble_eq_true rfl) ⟨_, _, _, _, rfl, rfl⟩ rfl ⟨rfl, ⟨by decide, by decide⟩, rfl, (fr_cons (Or.inl (Nat.le_of_ble_eq_true rfl)) (fr_nil)), rfl⟩ fr_i rfl rfl rfl rfl ?_
        obtain rfl := Option.some.inj hf
        exact V.iret dX8_ofKnot_56 rfl (Nat.le_of_ble_eq_true rfl) (Nat.le_of_ble_eq_true rfl) rfl
      · have hf := fif_f h0 hf
        by_cases h1 : a4 = 1
        · have hf := fif_t h1 hf
          refine V.cgi h1 (V.lookup (off := 39) (tgt := 57) dX8_ofKnot_18 rfl rfl (by decide) ?_)
          refine V.aload_n (i := 0) dX8_ofKnot_57 rfl rfl ?_
          refine V.iload_n (i := 1) dX8_ofKnot_58 rfl rfl ?_
          refine V.iload_n (i := 2) dX8_ofKnot_59 rfl rfl ?_
          refine V.iload_n (i := 3) dX8_ofKnot_60 rfl rfl ?_
          obtain ⟨v4, hv4, hf⟩ := fbind hf
          refine V.callVn (pl := [0, 1]) (σ' := [.inl (3, [.ref 1]), .inr (910, .inl State_cells)]) (st2 := [.int v4]) (cl2 := 0) (sl2 := 0) (ct_X7_readsAs (a1 := a1) (a2 := a2) (a3 := a3) (State_cells := State_cells) hv4) dX8_ofKnot_61 w328 ⟨w329, w330⟩ cal_X7_readsAs rfl ⟨⟨Nat.le_of_ble_eq_true rfl, Nat.le_of_ble_eq_true rfl⟩, Nat.le_of_ble_eq_true rfl, Nat.le_of_ble_eq_true rfl⟩ (Nat.le_of_ble_eq_true rfl) ⟨_, _, _, _, rfl, rfl⟩ rfl ⟨rfl, ⟨by decide, by decide⟩, rfl, (fr_cons (Or.inl (Nat.le_of_ble_eq_true rfl)) (fr_nil)), rfl⟩ fr_i rfl rfl rfl rfl ?_
          obtain rfl := Option.some.inj hf
          exact V.iret dX8_ofKnot_64 rfl (Nat.le_of_ble_eq_true rfl) (Nat.le_of_ble_eq_true rfl) rfl
        · have hf := fif_f h1 hf
          refine V.lookup (off := 47) (tgt := 65) dX8_ofKnot_18 rfl (by simp only [Array.toList]; rw [lv_osw h0 (by decide), lv_osw h1 (by decide)]; rfl) (by decide) ?_
          refine V.aload_n (i := 0) dX8_ofKnot_65 rfl rfl ?_
          refine V.iload_n (i := 1) dX8_ofKnot_66 rfl rfl ?_
          refine V.iload_n (i := 2) dX8_ofKnot_67 rfl rfl ?_
          refine V.iload_n (i := 3) dX8_ofKnot_68 rfl rfl ?_
          obtain ⟨v5, hv5, hf⟩ := fbind hf
          refine V.callVn (pl := [0, 1]) (σ' := [.inl (3, [.ref 1]), .inr (910, .inl State_cells)]) (st2 := [.int v5]) (cl2 := 0) (sl2 := 0) (ct_X7_loosened (a1 := a1) (a2 := a2) (a3 := a3) (State_cells := State_cells) hv5) dX8_ofKnot_69 w333 ⟨w334, w335⟩ cal_X7_loosened rfl ⟨⟨Nat.le_of_ble_eq_true rfl, Nat.le_of_ble_eq_true rfl⟩, Nat.le_of_ble_eq_true rfl, Nat.le_of_ble_eq_true rfl⟩ (Nat.le_of_ble_eq_true rfl) ⟨_, _, _, _, rfl, rfl⟩ rfl ⟨rfl, ⟨by decide, by decide⟩, rfl, (fr_cons (Or.inl (Nat.le_of_ble_eq_true rfl)) (fr_nil)), rfl⟩ fr_i rfl rfl rfl rfl ?_
          obtain rfl := Option.some.inj hf
          exact V.iret dX8_ofKnot_72 rfl (Nat.le_of_ble_eq_true rfl) (Nat.le_of_ble_eq_true rfl) rfl
    · have hf := fif_f h hf
      refine V.iconst (v := (-1)) dX8_ofKnot_14 rfl ?_
      obtain rfl := Option.some.inj hf
      exact V.iret dX8_ofKnot_15 rfl (Nat.le_of_ble_eq_true rfl) (Nat.le_of_ble_eq_true rfl) rfl
def k_X8_ofName : fK := (yX8_ofName, cX8_ofName, 4, (some .int), [], (4, 101), (0, 0), (0, 0))
theorem cal_X8_ofName : fCal k_X8_ofName 4 := ⟨⟨wc299, w17⟩, ⟨by decide +kernel, by decide +kernel⟩, by decide +kernel, by decide +kernel⟩
def s_X8_ofName (a1 : Int32) (a2 : Int32) (a3 : Int32) (State_cells : Nat → Int32) : Option (Int32) := if (a3 = 0 : Prop) then ((s_X7_knots a1 a2 State_cells).bind fun v1 => some v1) else (if (a3 = 1 : Prop) then ((s_X7_cordOf a1 a2 State_cells).bind fun v2 => some v2) else (if (a3 = 2 : Prop) then ((s_X8_knotsOfName a1 a2 1 (-1) State_cells).bind fun v3 => some v3) else (if (a3 = 3 : Prop) then ((s_X6_unreadableBehind a1 a2 0 State_cells).bind fun v4 => some v4) else ((s_X6_stormsToLoss a1 a2 State_cells).bind fun v5 => some v5))))
set_option maxHeartbeats 4000000 in
set_option maxRecDepth 100000 in
theorem ct_X8_ofName {a1 : Int32} {a2 : Int32} {a3 : Int32} {State_cells : Nat → Int32} {res : Int32} (hf : s_X8_ofName a1 a2 a3 State_cells = some res) : Ct k_X8_ofName [.ref 0, .int a1, .int a2, .int a3] [.inl (3, [.ref 1]), .inr (910, .inl State_cells)] (.inl (some (.int res))) [.inl (3, [.ref 1]), .inr (910, .inl State_cells)] := by
  unfold s_X8_ofName at hf
  refine Ct.of (L := [some (.ref 0), some (.int a1), some (.int a2), some (.int a3)]) cal_X8_ofName (fent_pad (j := 0) rfl) (Nat.le_of_ble_eq_true rfl) ?_
  refine V.iload_n (i := 3) dX8_ofName_0 rfl rfl ?_
  by_cases h0 : a3 = 0
  · have hf := fif_t h0 hf
    refine V.cgi h0 (V.tableIn (off := 31) (tgt := 32) dX8_ofName_1 (by decide) (by decide) rfl (by decide) ?_)
    refine V.aload_n (i := 0) dX8_ofName_32 rfl rfl ?_
    refine V.iload_n (i := 1) dX8_ofName_33 rfl rfl ?_
    refine V.iload_n (i := 2) dX8_ofName_34 rfl rfl ?_
    obtain ⟨v1, hv1, hf⟩ := fbind hf
    refine V.callVn (pl := [0, 1]) (σ' := [.inl (3, [.ref 1]), .inr (910, .inl State_cells)]) (st2 := [.int v1]) (cl2 := 0) (sl2 := 0) (ct_X7_knots (a1 := a1) (a2 := a2) (State_cells := State_cells) hv1) dX8_ofName_35 w149 ⟨w150, w151⟩ cal_X7_knots rfl ⟨⟨Nat.le_of_ble_eq_true rfl, Nat.le_of_ble_eq_true rfl⟩, Nat.le_of_ble_eq_true rfl, Nat.le_of_ble_eq_true rfl⟩ (Nat.le_of_ble_eq_true rfl) ⟨_, _, _, _, rfl, rfl⟩ rfl ⟨rfl, ⟨by decide, by decide⟩, rfl, (fr_cons (Or.inl (Nat.le_of_ble_eq_true rfl)) (fr_nil)), rfl⟩ fr_i rfl rfl rfl rfl ?_
    obtain rfl := Option.some.inj hf
    exact V.iret dX8_ofName_38 rfl (Nat.le_of_ble_eq_true rfl) (Nat.le_of_ble_eq_true rfl) rfl
  · have hf := fif_f h0 hf
    by_cases h1 : a3 = 1
    · have hf := fif_t h1 hf
      refine V.cgi h1 (V.tableIn (off := 38) (tgt := 39) dX8_ofName_1 (by decide) (by decide) rfl (by decide) ?_)
      refine V.aload_n (i := 0) dX8_ofName_39 rfl rfl ?_
      refine V.iload_n (i := 1) dX8_ofName_40 rfl rfl ?_
      refine V.iload_n (i := 2) dX8_ofName_41 rfl rfl ?_
      obtain ⟨v2, hv2, hf⟩ := fbind hf
      refine V.callVn (pl := [0, 1]) (σ' := [.inl (3, [.ref 1]), .inr (910, .inl State_cells)]) (st2 := [.int v2]) (cl2 := 0) (sl2 := 0) (ct_X7_cordOf (a1 := a1) (a2 := a2) (State_cells := State_cells) hv2) dX8_ofName_42 w300 ⟨w277, w278⟩ cal_X7_cordOf rfl ⟨⟨Nat.le_of_ble_eq_true rfl, Nat.le_of_ble_eq_true rfl⟩, Nat.le_of_ble_eq_true rfl, Nat.le_of_ble_eq_true rfl⟩ (Nat.le_of_ble_eq_true rfl) ⟨_, _, _, _, rfl, rfl⟩ rfl ⟨rfl, ⟨by decide, by decide⟩, rfl, (fr_cons (Or.inl (Nat.le_of_ble_eq_true rfl)) (fr_nil)), rfl⟩ fr_i rfl rfl rfl rfl ?_
      obtain rfl := Option.some.inj hf
      exact V.iret dX8_ofName_45 rfl (Nat.le_of_ble_eq_true rfl) (Nat.le_of_ble_eq_true rfl) rfl
    · have hf := fif_f h1 hf
      by_cases h2 : a3 = 2
      · have hf := fif_t h2 hf
        refine V.cgi h2 (V.tableIn (off := 45) (tgt := 46) dX8_ofName_1 (by decide) (by decide) rfl (by decide) ?_)
        refine V.aload_n (i := 0) dX8_ofName_46 rfl rfl ?_
        refine V.iload_n (i := 1) dX8_ofName_47 rfl rfl ?_
        refine V.iload_n (i := 2) dX8_ofName_48 rfl rfl ?_
        refine V.iconst (v := 1) dX8_ofName_49 rfl ?_
        refine V.iconst (v := (-1)) dX8_ofName_50 rfl ?_
        obtain ⟨v3, hv3, hf⟩ := fbind hf
        refine V.callSn (pl := [0, 1]) (σ' := [.inl (3, [.ref 1]), .inr (910, .inl State_cells)]) (st2 := [.int v3]) (cl2 := 0) (sl2 := 0) (ct_X8_knotsOfName (a1 := a1) (a2 := a2) (a3 := 1) (a4 := (-1)) (State_cells := State_cells) hv3) dX8_ofName_51 w146 w147 cal_X8_knotsOfName ⟨⟨Nat.le_of_ble_eq_true rfl, Nat.le_of_ble_eq_true rfl⟩, Nat.le_of_ble_eq_true rfl, Nat.le_of_ble_eq_true rfl⟩ (Nat.le_of_ble_eq_true rfl) rfl ⟨rfl, ⟨by decide, by decide⟩, rfl, (fr_cons (Or.inl (Nat.le_of_ble_eq_true rfl)) (fr_nil)), rfl⟩ fr_i rfl rfl rfl rfl ?_
        obtain rfl := Option.some.inj hf
        exact V.iret dX8_ofName_54 rfl (Nat.le_of_ble_eq_true rfl) (Nat.le_of_ble_eq_true rfl) rfl
      · have hf := fif_f h2 hf
        by_cases h3 : a3 = 3
        · have hf := fif_t h3 hf
          refine V.cgi h3 (V.tableIn (off := 54) (tgt := 55) dX8_ofName_1 (by decide) (by decide) rfl (by decide) ?_)
          refine V.aload_n (i := 0) dX8_ofName_55 rfl rfl ?_
          refine V.iload_n (i := 1) dX8_ofName_56 rfl rfl ?_
          refine V.iload_n (i := 2) dX8_ofName_57 rfl rfl ?_
          refine V.iconst (v := 0) dX8_ofName_58 rfl ?_
          obtain ⟨v4, hv4, hf⟩ := fbind hf
          refine V.callSn (pl := [0, 1]) (σ' := [.inl (3, [.ref 1]), .inr (910, .inl State_cells)]) (st2 := [.int v4]) (cl2 := 0) (sl2 := 0) (ct_X6_unreadableBehind (a1 := a1) (a2 := a2) (a3 := 0) (State_cells := State_cells) hv4) dX8_ofName_59 w301 w302 cal_X6_unreadableBehind ⟨⟨Nat.le_of_ble_eq_true rfl, Nat.le_of_ble_eq_true rfl⟩, Nat.le_of_ble_eq_true rfl, Nat.le_of_ble_eq_true rfl⟩ (Nat.le_of_ble_eq_true rfl) rfl ⟨rfl, ⟨by decide, by decide⟩, rfl, (fr_cons (Or.inl (Nat.le_of_ble_eq_true rfl)) (fr_nil)), rfl⟩ fr_i rfl rfl rfl rfl ?_
          obtain rfl := Option.some.inj hf
          exact V.iret dX8_ofName_62 rfl (Nat.le_of_ble_eq_true rfl) (Nat.le_of_ble_eq_true rfl) rfl
        · have hf := fif_f h3 hf
          refine V.tableOut (tgt := 63) dX8_ofName_1 (by have g0 := lv_neT (a := 0) h0 (by decide); have g1 := lv_neT (a := 1) h1 (by decide); have g2 := lv_neT (a := 2) h2 (by decide); have g3 := lv_neT (a := 3) h3 (by decide); omega) (by decide) ?_
          refine V.aload_n (i := 0) dX8_ofName_63 rfl rfl ?_
          refine V.iload_n (i := 1) dX8_ofName_64 rfl rfl ?_
          refine V.iload_n (i := 2) dX8_ofName_65 rfl rfl ?_
          obtain ⟨v5, hv5, hf⟩ := fbind hf
          refine V.callSn (pl := [0, 1]) (σ' := [.inl (3, [.ref 1]), .inr (910, .inl State_cells)]) (st2 := [.int v5]) (cl2 := 0) (sl2 := 0) (ct_X6_stormsToLoss (a1 := a1) (a2 := a2) (State_cells := State_cells) hv5) dX8_ofName_66 w313 w314 cal_X6_stormsToLoss ⟨⟨Nat.le_of_ble_eq_true rfl, Nat.le_of_ble_eq_true rfl⟩, Nat.le_of_ble_eq_true rfl, Nat.le_of_ble_eq_true rfl⟩ (Nat.le_of_ble_eq_true rfl) rfl ⟨rfl, ⟨by decide, by decide⟩, rfl, (fr_cons (Or.inl (Nat.le_of_ble_eq_true rfl)) (fr_nil)), rfl⟩ fr_i rfl rfl rfl rfl ?_
          obtain rfl := Option.some.inj hf
          exact V.iret dX8_ofName_69 rfl (Nat.le_of_ble_eq_true rfl) (Nat.le_of_ble_eq_true rfl) rfl
def k_X8_ofFisher : fK := (yX8_ofFisher, cX8_ofFisher, 3, (some .int), [], (3, 73), (0, 0), (0, 0))
theorem cal_X8_ofFisher : fCal k_X8_ofFisher 3 := ⟨⟨wc269, w17⟩, ⟨by decide +kernel, by decide +kernel⟩, by decide +kernel, by decide +kernel⟩
def s_X8_ofFisher (a1 : Int32) (a2 : Int32) (State_cells : Nat → Int32) : Option (Int32) := if (a2 = 0 : Prop) then ((s_X7_fisherCell a1 0).bind fun v1 => (s_X7_at v1 State_cells).bind fun v2 => some v2) else (if (a2 = 1 : Prop) then ((s_X7_names a1 State_cells).bind fun v3 => some v3) else (if (a2 = 2 : Prop) then ((s_X7_left a1 State_cells).bind fun v4 => some v4) else (if (a2 = 3 : Prop) then ((s_X7_fisherCell a1 2).bind fun v5 => (s_X7_at v5 State_cells).bind fun v6 => some v6) else ((s_X7_fisherCell a1 3).bind fun v7 => (s_X7_at v7 State_cells).bind fun v8 => some v8))))
set_option maxHeartbeats 4000000 in
set_option maxRecDepth 100000 in
theorem ct_X8_ofFisher {a1 : Int32} {a2 : Int32} {State_cells : Nat → Int32} {res : Int32} (hf : s_X8_ofFisher a1 a2 State_cells = some res) : Ct k_X8_ofFisher [.ref 0, .int a1, .int a2] [.inl (3, [.ref 1]), .inr (910, .inl State_cells)] (.inl (some (.int res))) [.inl (3, [.ref 1]), .inr (910, .inl State_cells)] := by
  unfold s_X8_ofFisher at hf
  refine Ct.of (L := [some (.ref 0), some (.int a1), some (.int a2)]) cal_X8_ofFisher (fent_pad (j := 0) rfl) (Nat.le_of_ble_eq_true rfl) ?_
  refine V.iload_n (i := 2) dX8_ofFisher_0 rfl rfl ?_
  by_cases h0 : a2 = 0
  · have hf := fif_t h0 hf
    refine V.cgi h0 (V.tableIn (off := 31) (tgt := 32) dX8_ofFisher_1 (by decide) (by decide) rfl (by decide) ?_)
    refine V.aload_n (i := 0) dX8_ofFisher_32 rfl rfl ?_
    refine V.iload_n (i := 1) dX8_ofFisher_33 rfl rfl ?_
    refine V.iconst (v := 0) dX8_ofFisher_34 rfl ?_
    obtain ⟨v1, hv1, hf⟩ := fbind hf
    refine V.callSn (pl := []) (σ' := [.inl (3, [.ref 1]), .inr (910, .inl State_cells)]) (st2 := [.int v1, .ref 0]) (cl2 := 0) (sl2 := 0) (ct_X7_fisherCell (a0 := a1) (a1 := 0) hv1) dX8_ofFisher_35 w270 w42 cal_X7_fisherCell ⟨⟨Nat.le_of_ble_eq_true rfl, Nat.le_of_ble_eq_true rfl⟩, Nat.le_of_ble_eq_true rfl, Nat.le_of_ble_eq_true rfl⟩ (Nat.le_of_ble_eq_true rfl) rfl ⟨rfl, ⟨by decide, by decide⟩, rfl, (fr_nil), rfl⟩ fr_i rfl rfl rfl rfl ?_
    obtain ⟨v2, hv2, hf⟩ := fbind hf
    refine V.callVn (pl := [0, 1]) (σ' := [.inl (3, [.ref 1]), .inr (910, .inl State_cells)]) (st2 := [.int v2]) (cl2 := 0) (sl2 := 0) (ct_X7_at (a1 := v1) (State_cells := State_cells) hv2) dX8_ofFisher_38 w162 ⟨w143, w144⟩ cal_X7_at rfl ⟨⟨Nat.le_of_ble_eq_true rfl, Nat.le_of_ble_eq_true rfl⟩, Nat.le_of_ble_eq_true rfl, Nat.le_of_ble_eq_true rfl⟩ (Nat.le_of_ble_eq_true rfl) ⟨_, _, _, _, rfl, rfl⟩ rfl ⟨rfl, ⟨by decide, by decide⟩, rfl, (fr_cons (Or.inl (Nat.le_of_ble_eq_true rfl)) (fr_nil)), rfl⟩ fr_i rfl rfl rfl rfl ?_
    obtain rfl := Option.some.inj hf
    exact V.iret dX8_ofFisher_41 rfl (Nat.le_of_ble_eq_true rfl) (Nat.le_of_ble_eq_true rfl) rfl
  · have hf := fif_f h0 hf
    by_cases h1 : a2 = 1
    · have hf := fif_t h1 hf
      refine V.cgi h1 (V.tableIn (off := 41) (tgt := 42) dX8_ofFisher_1 (by decide) (by decide) rfl (by decide) ?_)
      refine V.aload_n (i := 0) dX8_ofFisher_42 rfl rfl ?_
      refine V.iload_n (i := 1) dX8_ofFisher_43 rfl rfl ?_
      obtain ⟨v3, hv3, hf⟩ := fbind hf
      refine V.callVn (pl := [0, 1]) (σ' := [.inl (3, [.ref 1]), .inr (910, .inl State_cells)]) (st2 := [.int v3]) (cl2 := 0) (sl2 := 0) (ct_X7_names (a1 := a1) (State_cells := State_cells) hv3) dX8_ofFisher_44 w138 ⟨w139, w140⟩ cal_X7_names rfl ⟨⟨Nat.le_of_ble_eq_true rfl, Nat.le_of_ble_eq_true rfl⟩, Nat.le_of_ble_eq_true rfl, Nat.le_of_ble_eq_true rfl⟩ (Nat.le_of_ble_eq_true rfl) ⟨_, _, _, _, rfl, rfl⟩ rfl ⟨rfl, ⟨by decide, by decide⟩, rfl, (fr_cons (Or.inl (Nat.le_of_ble_eq_true rfl)) (fr_nil)), rfl⟩ fr_i rfl rfl rfl rfl ?_
      obtain rfl := Option.some.inj hf
      exact V.iret dX8_ofFisher_47 rfl (Nat.le_of_ble_eq_true rfl) (Nat.le_of_ble_eq_true rfl) rfl
    · have hf := fif_f h1 hf
      by_cases h2 : a2 = 2
      · have hf := fif_t h2 hf
        refine V.cgi h2 (V.tableIn (off := 47) (tgt := 48) dX8_ofFisher_1 (by decide) (by decide) rfl (by decide) ?_)
        refine V.aload_n (i := 0) dX8_ofFisher_48 rfl rfl ?_
        refine V.iload_n (i := 1) dX8_ofFisher_49 rfl rfl ?_
        obtain ⟨v4, hv4, hf⟩ := fbind hf
        refine V.callVn (pl := [0, 1]) (σ' := [.inl (3, [.ref 1]), .inr (910, .inl State_cells)]) (st2 := [.int v4]) (cl2 := 0) (sl2 := 0) (ct_X7_left (a1 := a1) (State_cells := State_cells) hv4) dX8_ofFisher_50 w271 ⟨w272, w273⟩ cal_X7_left rfl ⟨⟨Nat.le_of_ble_eq_true rfl, Nat.le_of_ble_eq_true rfl⟩, Nat.le_of_ble_eq_true rfl, Nat.le_of_ble_eq_true rfl⟩ (Nat.le_of_ble_eq_true rfl) ⟨_, _, _, _, rfl, rfl⟩ rfl ⟨rfl, ⟨by decide, by decide⟩, rfl, (fr_cons (Or.inl (Nat.le_of_ble_eq_true rfl)) (fr_nil)), rfl⟩ fr_i rfl rfl rfl rfl ?_
        obtain rfl := Option.some.inj hf
        exact V.iret dX8_ofFisher_53 rfl (Nat.le_of_ble_eq_true rfl) (Nat.le_of_ble_eq_true rfl) rfl
      · have hf := fif_f h2 hf
        by_cases h3 : a2 = 3
        · have hf := fif_t h3 hf
          refine V.cgi h3 (V.tableIn (off := 53) (tgt := 54) dX8_ofFisher_1 (by decide) (by decide) rfl (by decide) ?_)
          refine V.aload_n (i := 0) dX8_ofFisher_54 rfl rfl ?_
          refine V.iload_n (i := 1) dX8_ofFisher_55 rfl rfl ?_
          refine V.iconst (v := 2) dX8_ofFisher_56 rfl ?_
          obtain ⟨v5, hv5, hf⟩ := fbind hf
          refine V.callSn (pl := []) (σ' := [.inl (3, [.ref 1]), .inr (910, .inl State_cells)]) (st2 := [.int v5, .ref 0]) (cl2 := 0) (sl2 := 0) (ct_X7_fisherCell (a0 := a1) (a1 := 2) hv5) dX8_ofFisher_57 w270 w42 cal_X7_fisherCell ⟨⟨Nat.le_of_ble_eq_true rfl, Nat.le_of_ble_eq_true rfl⟩, Nat.le_of_ble_eq_true rfl, Nat.le_of_ble_eq_true rfl⟩ (Nat.le_of_ble_eq_true rfl) rfl ⟨rfl, ⟨by decide, by decide⟩, rfl, (fr_nil), rfl⟩ fr_i rfl rfl rfl rfl ?_
          obtain ⟨v6, hv6, hf⟩ := fbind hf
          refine V.callVn (pl := [0, 1]) (σ' := [.inl (3, [.ref 1]), .inr (910, .inl State_cells)]) (st2 := [.int v6]) (cl2 := 0) (sl2 := 0) (ct_X7_at (a1 := v5) (State_cells := State_cells) hv6) dX8_ofFisher_60 w162 ⟨w143, w144⟩ cal_X7_at rfl ⟨⟨Nat.le_of_ble_eq_true rfl, Nat.le_of_ble_eq_true rfl⟩, Nat.le_of_ble_eq_true rfl, Nat.le_of_ble_eq_true rfl⟩ (Nat.le_of_ble_eq_true rfl) ⟨_, _, _, _, rfl, rfl⟩ rfl ⟨rfl, ⟨by decide, by decide⟩, rfl, (fr_cons (Or.inl (Nat.le_of_ble_eq_true rfl)) (fr_nil)), rfl⟩ fr_i rfl rfl rfl rfl ?_
          obtain rfl := Option.some.inj hf
          exact V.iret dX8_ofFisher_63 rfl (Nat.le_of_ble_eq_true rfl) (Nat.le_of_ble_eq_true rfl) rfl
        · have hf := fif_f h3 hf
          refine V.tableOut (tgt := 64) dX8_ofFisher_1 (by have g0 := lv_neT (a := 0) h0 (by decide); have g1 := lv_neT (a := 1) h1 (by decide); have g2 := lv_neT (a := 2) h2 (by decide); have g3 := lv_neT (a := 3) h3 (by decide); omega) (by decide) ?_
          refine V.aload_n (i := 0) dX8_ofFisher_64 rfl rfl ?_
          refine V.iload_n (i := 1) dX8_ofFisher_65 rfl rfl ?_
          refine V.iconst (v := 3) dX8_ofFisher_66 rfl ?_
          obtain ⟨v7, hv7, hf⟩ := fbind hf
          refine V.callSn (pl := []) (σ' := [.inl (3, [.ref 1]), .inr (910, .inl State_cells)]) (st2 := [.int v7, .ref 0]) (cl2 := 0) (sl2 := 0) (ct_X7_fisherCell (a0 := a1) (a1 := 3) hv7) dX8_ofFisher_67 w270 w42 cal_X7_fisherCell ⟨⟨Nat.le_of_ble_eq_true rfl, Nat.le_of_ble_eq_true rfl⟩, Nat.le_of_ble_eq_true rfl, Nat.le_of_ble_eq_true rfl⟩ (Nat.le_of_ble_eq_true rfl) rfl ⟨rfl, ⟨by decide, by decide⟩, rfl, (fr_nil), rfl⟩ fr_i rfl rfl rfl rfl ?_
          obtain ⟨v8, hv8, hf⟩ := fbind hf
          refine V.callVn (pl := [0, 1]) (σ' := [.inl (3, [.ref 1]), .inr (910, .inl State_cells)]) (st2 := [.int v8]) (cl2 := 0) (sl2 := 0) (ct_X7_at (a1 := v7) (State_cells := State_cells) hv8) dX8_ofFisher_70 w162 ⟨w143, w144⟩ cal_X7_at rfl ⟨⟨Nat.le_of_ble_eq_true rfl, Nat.le_of_ble_eq_true rfl⟩, Nat.le_of_ble_eq_true rfl, Nat.le_of_ble_eq_true rfl⟩ (Nat.le_of_ble_eq_true rfl) ⟨_, _, _, _, rfl, rfl⟩ rfl ⟨rfl, ⟨by decide, by decide⟩, rfl, (fr_cons (Or.inl (Nat.le_of_ble_eq_true rfl)) (fr_nil)), rfl⟩ fr_i rfl rfl rfl rfl ?_
          obtain rfl := Option.some.inj hf
          exact V.iret dX8_ofFisher_73 rfl (Nat.le_of_ble_eq_true rfl) (Nat.le_of_ble_eq_true rfl) rfl
def k_X8_ofFishers : fK := (yX8_ofFishers, cX8_ofFishers, 4, (some .int), [], (1, 21), (0, 0), (0, 0))
theorem cal_X8_ofFishers : fCal k_X8_ofFishers 2 := ⟨⟨wc420, w17⟩, ⟨by decide +kernel, by decide +kernel⟩, by decide +kernel, by decide +kernel⟩
def s_X8_ofFishers_L4 (p1 : Int32) (State_cells : Nat → Int32) : Nat → Int32 → Int32 → Option (Int32 × Int32)
  | 0, _, _ => none
  | n + 1, x2, x3 => if (5 ≤ x3 : Prop) then (some (x2, x3)) else ((s_X7_fisherCell x3 p1).bind fun v1 => (s_X7_at v1 State_cells).bind fun v2 => s_X8_ofFishers_L4 p1 State_cells n (x2 + v2) (x3 + 1))
set_option maxHeartbeats 4000000 in
set_option maxRecDepth 100000 in
theorem v_X8_ofFishers_L4 {out : fO} {σ' : List fE} {p1 : Int32} {State_cells : Nat → Int32} : ∀ (n : Nat) {x2 : Int32} {x3 : Int32} {res : Int32 × Int32} (hf : s_X8_ofFishers_L4 p1 State_cells n x2 x3 = some res) (hx : V (fXm 2 k_X8_ofFishers out σ') (krm k_X8_ofFishers) k_X8_ofFishers 2 27 [some (.ref 0), some (.int p1), some (.int res.1), some (.int res.2)] [] [.inl (3, [.ref 1]), .inr (910, .inl State_cells)] 0 0), V (fXm 2 k_X8_ofFishers out σ') (krm k_X8_ofFishers) k_X8_ofFishers 2 4 [some (.ref 0), some (.int p1), some (.int x2), some (.int x3)] [] [.inl (3, [.ref 1]), .inr (910, .inl State_cells)] 0 0 := by
  intro n
  induction n with
  | zero =>
    intro x2 x3 res hf hx
    rw [s_X8_ofFishers_L4] at hf
    cases hf
  | succ n ih =>
    intro x2 x3 res hf hx
    rw [s_X8_ofFishers_L4] at hf
    refine V.iload_n (i := 3) dX8_ofFishers_4 rfl rfl ?_
    refine V.iconst (v := 5) dX8_ofFishers_5 rfl ?_
    refine V.icmp_ge (tgt := 27) dX8_ofFishers_6 (by decide) (fun h => ?_) (fun h => ?_)
    · have hf := fif_t h hf
      obtain rfl := Option.some.inj hf
      exact hx
    · have hf := fif_f h hf
      refine V.iload_n (i := 2) dX8_ofFishers_9 rfl rfl ?_
      refine V.aload_n (i := 0) dX8_ofFishers_10 rfl rfl ?_
      refine V.iload_n (i := 3) dX8_ofFishers_11 rfl rfl ?_
      refine V.iload_n (i := 1) dX8_ofFishers_12 rfl rfl ?_
      obtain ⟨v1, hv1, hf⟩ := fbind hf
      refine V.callSn (pl := []) (σ' := [.inl (3, [.ref 1]), .inr (910, .inl State_cells)]) (st2 := [.int v1, .ref 0, .int x2]) (cl2 := 0) (sl2 := 0) (ct_X7_fisherCell (a0 := x3) (a1 := p1) hv1) dX8_ofFishers_13 w270 w42 cal_X7_fisherCell ⟨⟨Nat.le_of_ble_eq_true rfl, Nat.le_of_ble_eq_true rfl⟩, Nat.le_of_ble_eq_true rfl, Nat.le_of_ble_eq_true rfl⟩ (Nat.le_of_ble_eq_true rfl) rfl ⟨rfl, ⟨by decide, by decide⟩, rfl, (fr_nil), rfl⟩ fr_i rfl rfl rfl rfl ?_
      obtain ⟨v2, hv2, hf⟩ := fbind hf
      refine V.callVn (pl := [0, 1]) (σ' := [.inl (3, [.ref 1]), .inr (910, .inl State_cells)]) (st2 := [.int v2, .int x2]) (cl2 := 0) (sl2 := 0) (ct_X7_at (a1 := v1) (State_cells := State_cells) hv2) dX8_ofFishers_16 w162 ⟨w143, w144⟩ cal_X7_at rfl ⟨⟨Nat.le_of_ble_eq_true rfl, Nat.le_of_ble_eq_true rfl⟩, Nat.le_of_ble_eq_true rfl, Nat.le_of_ble_eq_true rfl⟩ (Nat.le_of_ble_eq_true rfl) ⟨_, _, _, _, rfl, rfl⟩ rfl ⟨rfl, ⟨by decide, by decide⟩, rfl, (fr_cons (Or.inl (Nat.le_of_ble_eq_true rfl)) (fr_nil)), rfl⟩ fr_i rfl rfl rfl rfl ?_
      refine V.iadd dX8_ofFishers_19 ?_
      refine V.istore_n (i := 2) (L' := [some (.ref 0), some (.int p1), some (.int (x2 + v2)), some (.int x3)]) dX8_ofFishers_20 rfl (Nat.le_of_ble_eq_true rfl) rfl rfl ?_
      refine V.iinc (i := 3) (v := (x3 + 1)) (L' := [some (.ref 0), some (.int p1), some (.int (x2 + v2)), some (.int (x3 + 1))]) dX8_ofFishers_21 rfl rfl (Nat.le_of_ble_eq_true rfl) rfl rfl ?_
      refine V.goto (tgt := 4) dX8_ofFishers_24 (by decide) ?_
      exact ih hf hx
def s_X8_ofFishers (a1 : Int32) (State_cells : Nat → Int32) : Option (Int32) := (s_X8_ofFishers_L4 a1 State_cells gF 0 0).bind fun r3 => some r3.1
set_option maxHeartbeats 4000000 in
set_option maxRecDepth 100000 in
theorem ct_X8_ofFishers {a1 : Int32} {State_cells : Nat → Int32} {res : Int32} (hf : s_X8_ofFishers a1 State_cells = some res) : Ct k_X8_ofFishers [.ref 0, .int a1] [.inl (3, [.ref 1]), .inr (910, .inl State_cells)] (.inl (some (.int res))) [.inl (3, [.ref 1]), .inr (910, .inl State_cells)] := by
  unfold s_X8_ofFishers at hf
  refine Ct.of (L := [some (.ref 0), some (.int a1), none, none]) cal_X8_ofFishers (fent_pad (j := 2) rfl) (Nat.le_of_ble_eq_true rfl) ?_
  refine V.iconst (v := 0) dX8_ofFishers_0 rfl ?_
  refine V.istore_n (i := 2) (L' := [some (.ref 0), some (.int a1), some (.int 0), none]) dX8_ofFishers_1 rfl (Nat.le_of_ble_eq_true rfl) rfl rfl ?_
  refine V.iconst (v := 0) dX8_ofFishers_2 rfl ?_
  refine V.istore_n (i := 3) (L' := [some (.ref 0), some (.int a1), some (.int 0), some (.int 0)]) dX8_ofFishers_3 rfl (Nat.le_of_ble_eq_true rfl) rfl rfl ?_
  obtain ⟨r3, hr3, hf⟩ := fbind hf
  refine v_X8_ofFishers_L4 gF hr3 ?_
  refine V.iload_n (i := 2) dX8_ofFishers_27 rfl rfl ?_
  obtain rfl := Option.some.inj hf
  exact V.iret dX8_ofFishers_28 rfl (Nat.le_of_ble_eq_true rfl) (Nat.le_of_ble_eq_true rfl) rfl
def k_X8_names : fK := (yX8_names, cX8_names, 1, (some .int), [], (2, 44), (0, 0), (0, 0))
theorem cal_X8_names : fCal k_X8_names 1 := ⟨⟨wc417, w17⟩, ⟨by decide +kernel, by decide +kernel⟩, by decide +kernel, by decide +kernel⟩
def s_X8_names (State_cells : Nat → Int32) : Option (Int32) := (s_X8_ofFishers 1 State_cells).bind fun v1 => some v1
set_option maxHeartbeats 4000000 in
set_option maxRecDepth 100000 in
theorem ct_X8_names {State_cells : Nat → Int32} {res : Int32} (hf : s_X8_names State_cells = some res) : Ct k_X8_names [.ref 0] [.inl (3, [.ref 1]), .inr (910, .inl State_cells)] (.inl (some (.int res))) [.inl (3, [.ref 1]), .inr (910, .inl State_cells)] := by
  unfold s_X8_names at hf
  refine Ct.of (L := [some (.ref 0)]) cal_X8_names (fent_pad (j := 0) rfl) (Nat.le_of_ble_eq_true rfl) ?_
  refine V.aload_n (i := 0) dX8_names_0 rfl rfl ?_
  refine V.iconst (v := 1) dX8_names_1 rfl ?_
  obtain ⟨v1, hv1, hf⟩ := fbind hf
  refine V.callSn (pl := [0, 1]) (σ' := [.inl (3, [.ref 1]), .inr (910, .inl State_cells)]) (st2 := [.int v1]) (cl2 := 0) (sl2 := 0) (ct_X8_ofFishers (a1 := 1) (State_cells := State_cells) hv1) dX8_names_2 w418 w419 cal_X8_ofFishers ⟨⟨Nat.le_of_ble_eq_true rfl, Nat.le_of_ble_eq_true rfl⟩, Nat.le_of_ble_eq_true rfl, Nat.le_of_ble_eq_true rfl⟩ (Nat.le_of_ble_eq_true rfl) rfl ⟨rfl, ⟨by decide, by decide⟩, rfl, (fr_cons (Or.inl (Nat.le_of_ble_eq_true rfl)) (fr_nil)), rfl⟩ fr_i rfl rfl rfl rfl ?_
  obtain rfl := Option.some.inj hf
  exact V.iret dX8_names_5 rfl (Nat.le_of_ble_eq_true rfl) (Nat.le_of_ble_eq_true rfl) rfl
def k_X8_cordByNames : fK := (yX8_cordByNames, cX8_cordByNames, 5, (some .int), [], (2, 49), (0, 0), (0, 0))
theorem cal_X8_cordByNames : fCal k_X8_cordByNames 1 := ⟨⟨wc423, w17⟩, ⟨by decide +kernel, by decide +kernel⟩, by decide +kernel, by decide +kernel⟩
def s_X8_cordByNames_L18 (p2 : Int32) (p3 : Int32) (State_cells : Nat → Int32) : Nat → Int32 → Int32 → Option (Int32 × Int32)
  | 0, _, _ => none
  | n + 1, x1, x4 => if (p3 ≤ x4 : Prop) then (some (x1, x4)) else ((s_X7_cordOf p2 x4 State_cells).bind fun v2 => s_X8_cordByNames_L18 p2 p3 State_cells n (x1 + v2) (x4 + 1))
set_option maxHeartbeats 4000000 in
set_option maxRecDepth 100000 in
theorem v_X8_cordByNames_L18 {out : fO} {σ' : List fE} {p2 : Int32} {p3 : Int32} {State_cells : Nat → Int32} : ∀ (n : Nat) {x1 : Int32} {x4 : Int32} {res : Int32 × Int32} (hf : s_X8_cordByNames_L18 p2 p3 State_cells n x1 x4 = some res) (hx : V (fXm 2 k_X8_cordByNames out σ') (krm k_X8_cordByNames) k_X8_cordByNames 2 40 [some (.ref 0), some (.int res.1), some (.int p2), some (.int p3), some (.int res.2)] [] [.inl (3, [.ref 1]), .inr (910, .inl State_cells)] 0 0), V (fXm 2 k_X8_cordByNames out σ') (krm k_X8_cordByNames) k_X8_cordByNames 2 18 [some (.ref 0), some (.int x1), some (.int p2), some (.int p3), some (.int x4)] [] [.inl (3, [.ref 1]), .inr (910, .inl State_cells)] 0 0 := by
  intro n
  induction n with
  | zero =>
    intro x1 x4 res hf hx
    rw [s_X8_cordByNames_L18] at hf
    cases hf
  | succ n ih =>
    intro x1 x4 res hf hx
    rw [s_X8_cordByNames_L18] at hf
    refine V.iload (i := 4) dX8_cordByNames_18 rfl ?_
    refine V.iload_n (i := 3) dX8_cordByNames_20 rfl rfl ?_
    refine V.icmp_ge (tgt := 40) dX8_cordByNames_21 (by decide) (fun h => ?_) (fun h => ?_)
    · have hf := fif_t h hf
      obtain rfl := Option.some.inj hf
      exact hx
    · have hf := fif_f h hf
      refine V.iload_n (i := 1) dX8_cordByNames_24 rfl rfl ?_
      refine V.aload_n (i := 0) dX8_cordByNames_25 rfl rfl ?_
      refine V.iload_n (i := 2) dX8_cordByNames_26 rfl rfl ?_
      refine V.iload (i := 4) dX8_cordByNames_27 rfl ?_
      obtain ⟨v2, hv2, hf⟩ := fbind hf
      refine V.callVn (pl := [0, 1]) (σ' := [.inl (3, [.ref 1]), .inr (910, .inl State_cells)]) (st2 := [.int v2, .int x1]) (cl2 := 0) (sl2 := 0) (ct_X7_cordOf (a1 := p2) (a2 := x4) (State_cells := State_cells) hv2) dX8_cordByNames_29 w300 ⟨w277, w278⟩ cal_X7_cordOf rfl ⟨⟨Nat.le_of_ble_eq_true rfl, Nat.le_of_ble_eq_true rfl⟩, Nat.le_of_ble_eq_true rfl, Nat.le_of_ble_eq_true rfl⟩ (Nat.le_of_ble_eq_true rfl) ⟨_, _, _, _, rfl, rfl⟩ rfl ⟨rfl, ⟨by decide, by decide⟩, rfl, (fr_cons (Or.inl (Nat.le_of_ble_eq_true rfl)) (fr_nil)), rfl⟩ fr_i rfl rfl rfl rfl ?_
      refine V.iadd dX8_cordByNames_32 ?_
      refine V.istore_n (i := 1) (L' := [some (.ref 0), some (.int (x1 + v2)), some (.int p2), some (.int p3), some (.int x4)]) dX8_cordByNames_33 rfl (Nat.le_of_ble_eq_true rfl) rfl rfl ?_
      refine V.iinc (i := 4) (v := (x4 + 1)) (L' := [some (.ref 0), some (.int (x1 + v2)), some (.int p2), some (.int p3), some (.int (x4 + 1))]) dX8_cordByNames_34 rfl rfl (Nat.le_of_ble_eq_true rfl) rfl rfl ?_
      refine V.goto (tgt := 18) dX8_cordByNames_37 (by decide) ?_
      exact ih hf hx
def s_X8_cordByNames_L4 (State_cells : Nat → Int32) : Nat → Int32 → Int32 → Option (Int32 × Int32)
  | 0, _, _ => none
  | n + 1, x1, x2 => if (5 ≤ x2 : Prop) then (some (x1, x2)) else ((s_X7_names x2 State_cells).bind fun v1 => (s_X8_cordByNames_L18 x2 v1 State_cells gF x1 0).bind fun r3 => s_X8_cordByNames_L4 State_cells n r3.1 (x2 + 1))
set_option maxHeartbeats 4000000 in
set_option maxRecDepth 100000 in
theorem v_X8_cordByNames_L4 {out : fO} {σ' : List fE} {State_cells : Nat → Int32} : ∀ (n : Nat) {x1 : Int32} {x2 : Int32} {res : Int32 × Int32} (hf : s_X8_cordByNames_L4 State_cells n x1 x2 = some res) (hx : V (fXm 2 k_X8_cordByNames out σ') (krm k_X8_cordByNames) k_X8_cordByNames 2 46 [some (.ref 0), some (.int res.1), some (.int res.2), none, none] [] [.inl (3, [.ref 1]), .inr (910, .inl State_cells)] 0 0), V (fXm 2 k_X8_cordByNames out σ') (krm k_X8_cordByNames) k_X8_cordByNames 2 4 [some (.ref 0), some (.int x1), some (.int x2), none, none] [] [.inl (3, [.ref 1]), .inr (910, .inl State_cells)] 0 0 := by
  intro n
  induction n with
  | zero =>
    intro x1 x2 res hf hx
    rw [s_X8_cordByNames_L4] at hf
    cases hf
  | succ n ih =>
    intro x1 x2 res hf hx
    rw [s_X8_cordByNames_L4] at hf
    refine V.iload_n (i := 2) dX8_cordByNames_4 rfl rfl ?_
    refine V.iconst (v := 5) dX8_cordByNames_5 rfl ?_
    refine V.icmp_ge (tgt := 46) dX8_cordByNames_6 (by decide) (fun h => ?_) (fun h => ?_)
    · have hf := fif_t h hf
      obtain rfl := Option.some.inj hf
      exact hx
    · have hf := fif_f h hf
      refine V.aload_n (i := 0) dX8_cordByNames_9 rfl rfl ?_
      refine V.iload_n (i := 2) dX8_cordByNames_10 rfl rfl ?_
      obtain ⟨v1, hv1, hf⟩ := fbind hf
      refine V.callVn (pl := [0, 1]) (σ' := [.inl (3, [.ref 1]), .inr (910, .inl State_cells)]) (st2 := [.int v1]) (cl2 := 0) (sl2 := 0) (ct_X7_names (a1 := x2) (State_cells := State_cells) hv1) dX8_cordByNames_11 w138 ⟨w139, w140⟩ cal_X7_names rfl ⟨⟨Nat.le_of_ble_eq_true rfl, Nat.le_of_ble_eq_true rfl⟩, Nat.le_of_ble_eq_true rfl, Nat.le_of_ble_eq_true rfl⟩ (Nat.le_of_ble_eq_true rfl) ⟨_, _, _, _, rfl, rfl⟩ rfl ⟨rfl, ⟨by decide, by decide⟩, rfl, (fr_cons (Or.inl (Nat.le_of_ble_eq_true rfl)) (fr_nil)), rfl⟩ fr_i rfl rfl rfl rfl ?_
      refine V.istore_n (i := 3) (L' := [some (.ref 0), some (.int x1), some (.int x2), some (.int v1), none]) dX8_cordByNames_14 rfl (Nat.le_of_ble_eq_true rfl) rfl rfl ?_
      refine V.iconst (v := 0) dX8_cordByNames_15 rfl ?_
      refine V.istore (i := 4) (L' := [some (.ref 0), some (.int x1), some (.int x2), some (.int v1), some (.int 0)]) dX8_cordByNames_16 (Nat.le_of_ble_eq_true rfl) rfl rfl ?_
      obtain ⟨r3, hr3, hf⟩ := fbind hf
      refine v_X8_cordByNames_L18 gF hr3 ?_
      refine V.iinc (i := 2) (v := (x2 + 1)) (L' := [some (.ref 0), some (.int r3.1), some (.int (x2 + 1)), some (.int v1), some (.int r3.2)]) dX8_cordByNames_40 rfl rfl (Nat.le_of_ble_eq_true rfl) rfl rfl ?_
      refine V.goto (tgt := 4) dX8_cordByNames_43 (by decide) ?_
      exact V.locs (L' := [some (.ref 0), some (.int r3.1), some (.int (x2 + 1)), none, none]) ⟨rfl, ⟨rfl, ⟨rfl, trivial⟩⟩⟩ (ih hf hx)
def s_X8_cordByNames (State_cells : Nat → Int32) : Option (Int32) := (s_X8_cordByNames_L4 State_cells gF 0 0).bind fun r4 => some r4.1
set_option maxHeartbeats 4000000 in
set_option maxRecDepth 100000 in
theorem ct_X8_cordByNames {State_cells : Nat → Int32} {res : Int32} (hf : s_X8_cordByNames State_cells = some res) : Ct k_X8_cordByNames [.ref 0] [.inl (3, [.ref 1]), .inr (910, .inl State_cells)] (.inl (some (.int res))) [.inl (3, [.ref 1]), .inr (910, .inl State_cells)] := by
  unfold s_X8_cordByNames at hf
  refine Ct.of (L := [some (.ref 0), none, none, none, none]) cal_X8_cordByNames (fent_pad (j := 4) rfl) (Nat.le_of_ble_eq_true rfl) ?_
  refine V.iconst (v := 0) dX8_cordByNames_0 rfl ?_
  refine V.istore_n (i := 1) (L' := [some (.ref 0), some (.int 0), none, none, none]) dX8_cordByNames_1 rfl (Nat.le_of_ble_eq_true rfl) rfl rfl ?_
  refine V.iconst (v := 0) dX8_cordByNames_2 rfl ?_
  refine V.istore_n (i := 2) (L' := [some (.ref 0), some (.int 0), some (.int 0), none, none]) dX8_cordByNames_3 rfl (Nat.le_of_ble_eq_true rfl) rfl rfl ?_
  obtain ⟨r4, hr4, hf⟩ := fbind hf
  refine v_X8_cordByNames_L4 gF hr4 ?_
  refine V.iload_n (i := 1) dX8_cordByNames_46 rfl rfl ?_
  obtain rfl := Option.some.inj hf
  exact V.iret dX8_cordByNames_47 rfl (Nat.le_of_ble_eq_true rfl) (Nat.le_of_ble_eq_true rfl) rfl
def k_X8_cordByLetters : fK := (yX8_cordByLetters, cX8_cordByLetters, 4, (some .int), [], (4, 99), (0, 0), (0, 0))
theorem cal_X8_cordByLetters : fCal k_X8_cordByLetters 1 := ⟨⟨wc426, w17⟩, ⟨by decide +kernel, by decide +kernel⟩, by decide +kernel, by decide +kernel⟩
def s_X8_cordByLetters_L9 (State_cells : Nat → Int32) : Nat → Int32 → Int32 → Option (Int32 × Int32)
  | 0, _, _ => none
  | n + 1, x1, x2 => if (16 ≤ x2 : Prop) then (some (x1, x2)) else ((s_X0_cordOfKnot x2).bind fun v2 => (s_X8_knotsThatAre 2 x2 State_cells).bind fun v3 => s_X8_cordByLetters_L9 State_cells n (x1 + (v3 * (v2 + 1))) (x2 + 1))
set_option maxHeartbeats 4000000 in
set_option maxRecDepth 100000 in
theorem v_X8_cordByLetters_L9 {out : fO} {σ' : List fE} {State_cells : Nat → Int32} : ∀ (n : Nat) {x1 : Int32} {x2 : Int32} {res : Int32 × Int32} (hf : s_X8_cordByLetters_L9 State_cells n x1 x2 = some res) (hx : V (fXm 2 k_X8_cordByLetters out σ') (krm k_X8_cordByLetters) k_X8_cordByLetters 2 39 [some (.ref 0), some (.int res.1), some (.int res.2), none] [] [.inl (3, [.ref 1]), .inr (910, .inl State_cells)] 0 0), V (fXm 2 k_X8_cordByLetters out σ') (krm k_X8_cordByLetters) k_X8_cordByLetters 2 9 [some (.ref 0), some (.int x1), some (.int x2), none] [] [.inl (3, [.ref 1]), .inr (910, .inl State_cells)] 0 0 := by
  intro n
  induction n with
  | zero =>
    intro x1 x2 res hf hx
    rw [s_X8_cordByLetters_L9] at hf
    cases hf
  | succ n ih =>
    intro x1 x2 res hf hx
    rw [s_X8_cordByLetters_L9] at hf
    refine V.iload_n (i := 2) dX8_cordByLetters_9 rfl rfl ?_
    refine V.bipush (v := 16) dX8_cordByLetters_10 rfl ?_
    refine V.icmp_ge (tgt := 39) dX8_cordByLetters_12 (by decide) (fun h => ?_) (fun h => ?_)
    · have hf := fif_t h hf
      obtain rfl := Option.some.inj hf
      exact hx
    · have hf := fif_f h hf
      refine V.iload_n (i := 2) dX8_cordByLetters_15 rfl rfl ?_
      obtain ⟨v2, hv2, hf⟩ := fbind hf
      refine V.callSn (pl := []) (σ' := [.inl (3, [.ref 1]), .inr (910, .inl State_cells)]) (st2 := [.int v2]) (cl2 := 0) (sl2 := 0) (ct_X0_cordOfKnot (a0 := x2) hv2) dX8_cordByLetters_16 w351 w282 cal_X0_cordOfKnot ⟨⟨Nat.le_of_ble_eq_true rfl, Nat.le_of_ble_eq_true rfl⟩, Nat.le_of_ble_eq_true rfl, Nat.le_of_ble_eq_true rfl⟩ (Nat.le_of_ble_eq_true rfl) rfl ⟨rfl, ⟨by decide, by decide⟩, rfl, (fr_nil), rfl⟩ fr_i rfl rfl rfl rfl ?_
      refine V.iconst (v := 1) dX8_cordByLetters_19 rfl ?_
      refine V.iadd dX8_cordByLetters_20 ?_
      refine V.istore_n (i := 3) (L' := [some (.ref 0), some (.int x1), some (.int x2), some (.int (v2 + 1))]) dX8_cordByLetters_21 rfl (Nat.le_of_ble_eq_true rfl) rfl rfl ?_
      refine V.iload_n (i := 1) dX8_cordByLetters_22 rfl rfl ?_
      refine V.aload_n (i := 0) dX8_cordByLetters_23 rfl rfl ?_
      refine V.iconst (v := 2) dX8_cordByLetters_24 rfl ?_
      refine V.iload_n (i := 2) dX8_cordByLetters_25 rfl rfl ?_
      obtain ⟨v3, hv3, hf⟩ := fbind hf
      refine V.callSn (pl := [0, 1]) (σ' := [.inl (3, [.ref 1]), .inr (910, .inl State_cells)]) (st2 := [.int v3, .int x1]) (cl2 := 0) (sl2 := 0) (ct_X8_knotsThatAre (a1 := 2) (a2 := x2) (State_cells := State_cells) hv3) dX8_cordByLetters_26 w135 w136 cal_X8_knotsThatAre ⟨⟨Nat.le_of_ble_eq_true rfl, Nat.le_of_ble_eq_true rfl⟩, Nat.le_of_ble_eq_true rfl, Nat.le_of_ble_eq_true rfl⟩ (Nat.le_of_ble_eq_true rfl) rfl ⟨rfl, ⟨by decide, by decide⟩, rfl, (fr_cons (Or.inl (Nat.le_of_ble_eq_true rfl)) (fr_nil)), rfl⟩ fr_i rfl rfl rfl rfl ?_
      refine V.iload_n (i := 3) dX8_cordByLetters_29 rfl rfl ?_
      refine V.imul dX8_cordByLetters_30 ?_
      refine V.iadd dX8_cordByLetters_31 ?_
      refine V.istore_n (i := 1) (L' := [some (.ref 0), some (.int (x1 + (v3 * (v2 + 1)))), some (.int x2), some (.int (v2 + 1))]) dX8_cordByLetters_32 rfl (Nat.le_of_ble_eq_true rfl) rfl rfl ?_
      refine V.iinc (i := 2) (v := (x2 + 1)) (L' := [some (.ref 0), some (.int (x1 + (v3 * (v2 + 1)))), some (.int (x2 + 1)), some (.int (v2 + 1))]) dX8_cordByLetters_33 rfl rfl (Nat.le_of_ble_eq_true rfl) rfl rfl ?_
      refine V.goto (tgt := 9) dX8_cordByLetters_36 (by decide) ?_
      exact V.locs (L' := [some (.ref 0), some (.int (x1 + (v3 * (v2 + 1)))), some (.int (x2 + 1)), none]) ⟨rfl, ⟨rfl, ⟨rfl, trivial⟩⟩⟩ (ih hf hx)
def s_X8_cordByLetters (State_cells : Nat → Int32) : Option (Int32) := (s_X8_names State_cells).bind fun v1 => (s_X8_cordByLetters_L9 State_cells gF (2 * v1) 0).bind fun r4 => some r4.1
set_option maxHeartbeats 4000000 in
set_option maxRecDepth 100000 in
theorem ct_X8_cordByLetters {State_cells : Nat → Int32} {res : Int32} (hf : s_X8_cordByLetters State_cells = some res) : Ct k_X8_cordByLetters [.ref 0] [.inl (3, [.ref 1]), .inr (910, .inl State_cells)] (.inl (some (.int res))) [.inl (3, [.ref 1]), .inr (910, .inl State_cells)] := by
  unfold s_X8_cordByLetters at hf
  refine Ct.of (L := [some (.ref 0), none, none, none]) cal_X8_cordByLetters (fent_pad (j := 3) rfl) (Nat.le_of_ble_eq_true rfl) ?_
  refine V.iconst (v := 2) dX8_cordByLetters_0 rfl ?_
  refine V.aload_n (i := 0) dX8_cordByLetters_1 rfl rfl ?_
  obtain ⟨v1, hv1, hf⟩ := fbind hf
  refine V.callSn (pl := [0, 1]) (σ' := [.inl (3, [.ref 1]), .inr (910, .inl State_cells)]) (st2 := [.int v1, .int 2]) (cl2 := 0) (sl2 := 0) (ct_X8_names (State_cells := State_cells) hv1) dX8_cordByLetters_2 w415 w416 cal_X8_names ⟨⟨Nat.le_of_ble_eq_true rfl, Nat.le_of_ble_eq_true rfl⟩, Nat.le_of_ble_eq_true rfl, Nat.le_of_ble_eq_true rfl⟩ (Nat.le_of_ble_eq_true rfl) rfl ⟨rfl, ⟨by decide, by decide⟩, rfl, (fr_cons (Or.inl (Nat.le_of_ble_eq_true rfl)) (fr_nil)), rfl⟩ fr_i rfl rfl rfl rfl ?_
  refine V.imul dX8_cordByLetters_5 ?_
  refine V.istore_n (i := 1) (L' := [some (.ref 0), some (.int (2 * v1)), none, none]) dX8_cordByLetters_6 rfl (Nat.le_of_ble_eq_true rfl) rfl rfl ?_
  refine V.iconst (v := 0) dX8_cordByLetters_7 rfl ?_
  refine V.istore_n (i := 2) (L' := [some (.ref 0), some (.int (2 * v1)), some (.int 0), none]) dX8_cordByLetters_8 rfl (Nat.le_of_ble_eq_true rfl) rfl rfl ?_
  obtain ⟨r4, hr4, hf⟩ := fbind hf
  refine v_X8_cordByLetters_L9 gF hr4 ?_
  refine V.iload_n (i := 1) dX8_cordByLetters_39 rfl rfl ?_
  obtain rfl := Option.some.inj hf
  exact V.iret dX8_cordByLetters_40 rfl (Nat.le_of_ble_eq_true rfl) (Nat.le_of_ble_eq_true rfl) rfl
def k_X8_readAlike : fK := (yX8_readAlike, cX8_readAlike, 7, (some .boolean), [], (2, 47), (0, 0), (0, 0))
theorem cal_X8_readAlike : fCal k_X8_readAlike 5 := ⟨⟨wc435, w17⟩, ⟨by decide +kernel, by decide +kernel⟩, by decide +kernel, by decide +kernel⟩
def s_X8_readAlike_L25 (p1 : Int32) (p2 : Int32) (p3 : Int32) (p4 : Int32) (p5 : Int32) (State_cells : Nat → Int32) : Nat → Int32 → Option ((Int32) ⊕ (Int32))
  | 0, _ => none
  | n + 1, x6 => if (p5 ≤ x6 : Prop) then (some (.inr x6)) else ((s_X7_readsAs p1 p2 x6 State_cells).bind fun v3 => (s_X7_readsAs p3 p4 x6 State_cells).bind fun v4 => if (v3 = v4 : Prop) then (s_X8_readAlike_L25 p1 p2 p3 p4 p5 State_cells n (x6 + 1)) else (some (.inl 0)))
set_option maxHeartbeats 4000000 in
set_option maxRecDepth 100000 in
theorem v_X8_readAlike_L25 {out : fO} {σ' : List fE} {p1 : Int32} {p2 : Int32} {p3 : Int32} {p4 : Int32} {p5 : Int32} {State_cells : Nat → Int32} : ∀ (n : Nat) {x6 : Int32} {res : (Int32) ⊕ (Int32)} (hf : s_X8_readAlike_L25 p1 p2 p3 p4 p5 State_cells n x6 = some res) (hr : ∀ r, res = .inl r → out = (.inl (some (.int r))) ∧ σ' = [.inl (3, [.ref 1]), .inr (910, .inl State_cells)]) (hx : ∀ e, res = .inr e → V (fXm 2 k_X8_readAlike out σ') (krm k_X8_readAlike) k_X8_readAlike 2 60 [some (.ref 0), some (.int p1), some (.int p2), some (.int p3), some (.int p4), some (.int p5), some (.int e)] [] [.inl (3, [.ref 1]), .inr (910, .inl State_cells)] 0 0), V (fXm 2 k_X8_readAlike out σ') (krm k_X8_readAlike) k_X8_readAlike 2 25 [some (.ref 0), some (.int p1), some (.int p2), some (.int p3), some (.int p4), some (.int p5), some (.int x6)] [] [.inl (3, [.ref 1]), .inr (910, .inl State_cells)] 0 0 := by
  intro n
  induction n with
  | zero =>
    intro x6 res hf hr hx
    rw [s_X8_readAlike_L25] at hf
    cases hf
  | succ n ih =>
    intro x6 res hf hr hx
    rw [s_X8_readAlike_L25] at hf
    refine V.iload (i := 6) dX8_readAlike_25 rfl ?_
    refine V.iload (i := 5) dX8_readAlike_27 rfl ?_
    refine V.icmp_ge (tgt := 60) dX8_readAlike_29 (by decide) (fun h => ?_) (fun h => ?_)
    · have hf := fif_t h hf
      obtain rfl := Option.some.inj hf
      exact hx _ rfl
    · have hf := fif_f h hf
      refine V.aload_n (i := 0) dX8_readAlike_32 rfl rfl ?_
      refine V.iload_n (i := 1) dX8_readAlike_33 rfl rfl ?_
      refine V.iload_n (i := 2) dX8_readAlike_34 rfl rfl ?_
      refine V.iload (i := 6) dX8_readAlike_35 rfl ?_
      obtain ⟨v3, hv3, hf⟩ := fbind hf
      refine V.callVn (pl := [0, 1]) (σ' := [.inl (3, [.ref 1]), .inr (910, .inl State_cells)]) (st2 := [.int v3]) (cl2 := 0) (sl2 := 0) (ct_X7_readsAs (a1 := p1) (a2 := p2) (a3 := x6) (State_cells := State_cells) hv3) dX8_readAlike_37 w328 ⟨w329, w330⟩ cal_X7_readsAs rfl ⟨⟨Nat.le_of_ble_eq_true rfl, Nat.le_of_ble_eq_true rfl⟩, Nat.le_of_ble_eq_true rfl, Nat.le_of_ble_eq_true rfl⟩ (Nat.le_of_ble_eq_true rfl) ⟨_, _, _, _, rfl, rfl⟩ rfl ⟨rfl, ⟨by decide, by decide⟩, rfl, (fr_cons (Or.inl (Nat.le_of_ble_eq_true rfl)) (fr_nil)), rfl⟩ fr_i rfl rfl rfl rfl ?_
      refine V.aload_n (i := 0) dX8_readAlike_40 rfl rfl ?_
      refine V.iload_n (i := 3) dX8_readAlike_41 rfl rfl ?_
      refine V.iload (i := 4) dX8_readAlike_42 rfl ?_
      refine V.iload (i := 6) dX8_readAlike_44 rfl ?_
      obtain ⟨v4, hv4, hf⟩ := fbind hf
      refine V.callVn (pl := [0, 1]) (σ' := [.inl (3, [.ref 1]), .inr (910, .inl State_cells)]) (st2 := [.int v4, .int v3]) (cl2 := 0) (sl2 := 0) (ct_X7_readsAs (a1 := p3) (a2 := p4) (a3 := x6) (State_cells := State_cells) hv4) dX8_readAlike_46 w328 ⟨w329, w330⟩ cal_X7_readsAs rfl ⟨⟨Nat.le_of_ble_eq_true rfl, Nat.le_of_ble_eq_true rfl⟩, Nat.le_of_ble_eq_true rfl, Nat.le_of_ble_eq_true rfl⟩ (Nat.le_of_ble_eq_true rfl) ⟨_, _, _, _, rfl, rfl⟩ rfl ⟨rfl, ⟨by decide, by decide⟩, rfl, (fr_cons (Or.inl (Nat.le_of_ble_eq_true rfl)) (fr_nil)), rfl⟩ fr_i rfl rfl rfl rfl ?_
      refine V.icmp_eq (tgt := 54) dX8_readAlike_49 (by decide) (fun h => ?_) (fun h => ?_)
      · have hf := fif_t h hf
        refine V.iinc (i := 6) (v := (x6 + 1)) (L' := [some (.ref 0), some (.int p1), some (.int p2), some (.int p3), some (.int p4), some (.int p5), some (.int (x6 + 1))]) dX8_readAlike_54 rfl rfl (Nat.le_of_ble_eq_true rfl) rfl rfl ?_
        refine V.goto (tgt := 25) dX8_readAlike_57 (by decide) ?_
        exact ih hf hr hx
      · have hf := fif_f h hf
        refine V.iconst (v := 0) dX8_readAlike_52 rfl ?_
        obtain rfl := Option.some.inj hf
        obtain ⟨e1, e2⟩ := hr _ rfl
        subst e1; subst e2
        exact V.zret (v := 0) dX8_readAlike_53 rfl (by decide +kernel) (Nat.le_of_ble_eq_true rfl) (Nat.le_of_ble_eq_true rfl) rfl
def s_X8_readAlike (a1 : Int32) (a2 : Int32) (a3 : Int32) (a4 : Int32) (State_cells : Nat → Int32) : Option (Int32) := (s_X7_knots a1 a2 State_cells).bind fun v1 => (s_X7_knots a3 a4 State_cells).bind fun v2 => if (v1 = v2 : Prop) then ((s_X8_readAlike_L25 a1 a2 a3 a4 v1 State_cells gF 0).bind fun r5 => fsum r5 (fun r9 => some r9) (fun e6 => some 1)) else (some 0)
set_option maxHeartbeats 4000000 in
set_option maxRecDepth 100000 in
theorem ct_X8_readAlike {a1 : Int32} {a2 : Int32} {a3 : Int32} {a4 : Int32} {State_cells : Nat → Int32} {res : Int32} (hf : s_X8_readAlike a1 a2 a3 a4 State_cells = some res) : Ct k_X8_readAlike [.ref 0, .int a1, .int a2, .int a3, .int a4] [.inl (3, [.ref 1]), .inr (910, .inl State_cells)] (.inl (some (.int res))) [.inl (3, [.ref 1]), .inr (910, .inl State_cells)] := by
  unfold s_X8_readAlike at hf
  refine Ct.of (L := [some (.ref 0), some (.int a1), some (.int a2), some (.int a3), some (.int a4), none, none]) cal_X8_readAlike (fent_pad (j := 2) rfl) (Nat.le_of_ble_eq_true rfl) ?_
  refine V.aload_n (i := 0) dX8_readAlike_0 rfl rfl ?_
  refine V.iload_n (i := 1) dX8_readAlike_1 rfl rfl ?_
  refine V.iload_n (i := 2) dX8_readAlike_2 rfl rfl ?_
  obtain ⟨v1, hv1, hf⟩ := fbind hf
  refine V.callVn (pl := [0, 1]) (σ' := [.inl (3, [.ref 1]), .inr (910, .inl State_cells)]) (st2 := [.int v1]) (cl2 := 0) (sl2 := 0) (ct_X7_knots (a1 := a1) (a2 := a2) (State_cells := State_cells) hv1) dX8_readAlike_3 w149 ⟨w150, w151⟩ cal_X7_knots rfl ⟨⟨Nat.le_of_ble_eq_true rfl, Nat.le_of_ble_eq_true rfl⟩, Nat.le_of_ble_eq_true rfl, Nat.le_of_ble_eq_true rfl⟩ (Nat.le_of_ble_eq_true rfl) ⟨_, _, _, _, rfl, rfl⟩ rfl ⟨rfl, ⟨by decide, by decide⟩, rfl, (fr_cons (Or.inl (Nat.le_of_ble_eq_true rfl)) (fr_nil)), rfl⟩ fr_i rfl rfl rfl rfl ?_
  refine V.istore (i := 5) (L' := [some (.ref 0), some (.int a1), some (.int a2), some (.int a3), some (.int a4), some (.int v1), none]) dX8_readAlike_6 (Nat.le_of_ble_eq_true rfl) rfl rfl ?_
  refine V.iload (i := 5) dX8_readAlike_8 rfl ?_
  refine V.aload_n (i := 0) dX8_readAlike_10 rfl rfl ?_
  refine V.iload_n (i := 3) dX8_readAlike_11 rfl rfl ?_
  refine V.iload (i := 4) dX8_readAlike_12 rfl ?_
  obtain ⟨v2, hv2, hf⟩ := fbind hf
  refine V.callVn (pl := [0, 1]) (σ' := [.inl (3, [.ref 1]), .inr (910, .inl State_cells)]) (st2 := [.int v2, .int v1]) (cl2 := 0) (sl2 := 0) (ct_X7_knots (a1 := a3) (a2 := a4) (State_cells := State_cells) hv2) dX8_readAlike_14 w149 ⟨w150, w151⟩ cal_X7_knots rfl ⟨⟨Nat.le_of_ble_eq_true rfl, Nat.le_of_ble_eq_true rfl⟩, Nat.le_of_ble_eq_true rfl, Nat.le_of_ble_eq_true rfl⟩ (Nat.le_of_ble_eq_true rfl) ⟨_, _, _, _, rfl, rfl⟩ rfl ⟨rfl, ⟨by decide, by decide⟩, rfl, (fr_cons (Or.inl (Nat.le_of_ble_eq_true rfl)) (fr_nil)), rfl⟩ fr_i rfl rfl rfl rfl ?_
  refine V.icmp_eq (tgt := 22) dX8_readAlike_17 (by decide) (fun h => ?_) (fun h => ?_)
  · have hf := fif_t h hf
    refine V.iconst (v := 0) dX8_readAlike_22 rfl ?_
    refine V.istore (i := 6) (L' := [some (.ref 0), some (.int a1), some (.int a2), some (.int a3), some (.int a4), some (.int v1), some (.int 0)]) dX8_readAlike_23 (Nat.le_of_ble_eq_true rfl) rfl rfl ?_
    obtain ⟨r5, hr5, hf⟩ := fbind hf
    rcases r5 with r9 | e6
    · obtain rfl := Option.some.inj (show some _ = some res from hf)
      exact v_X8_readAlike_L25 gF hr5 (fun _ h => by cases h; exact ⟨rfl, rfl⟩) (fun _ h => by cases h)
    · replace hf : _ = some res := hf
      dsimp only [fsum] at hf
      refine v_X8_readAlike_L25 gF hr5 (fun _ h => by cases h) (fun _ h => ?_)
      cases h
      refine V.iconst (v := 1) dX8_readAlike_60 rfl ?_
      obtain rfl := Option.some.inj hf
      exact V.zret (v := 1) dX8_readAlike_61 rfl (by decide +kernel) (Nat.le_of_ble_eq_true rfl) (Nat.le_of_ble_eq_true rfl) rfl
  · have hf := fif_f h hf
    refine V.iconst (v := 0) dX8_readAlike_20 rfl ?_
    obtain rfl := Option.some.inj hf
    exact V.zret (v := 0) dX8_readAlike_21 rfl (by decide +kernel) (Nat.le_of_ble_eq_true rfl) (Nat.le_of_ble_eq_true rfl) rfl
def k_X8_share : fK := (yX8_share, cX8_share, 7, (some .boolean), [], (3, 73), (0, 0), (0, 0))
theorem cal_X8_share : fCal k_X8_share 3 := ⟨⟨wc432, w17⟩, ⟨by decide +kernel, by decide +kernel⟩, by decide +kernel, by decide +kernel⟩
def s_X8_share_L25 (p1 : Int32) (p2 : Int32) (p4 : Int32) (p5 : Int32) (State_cells : Nat → Int32) : Nat → Int32 → Option ((Int32) ⊕ (Int32))
  | 0, _ => none
  | n + 1, x6 => if (p4 ≤ x6 : Prop) then (some (.inr x6)) else ((s_X8_readAlike p1 p5 p2 x6 State_cells).bind fun v3 => if (v3 = 0 : Prop) then (s_X8_share_L25 p1 p2 p4 p5 State_cells n (x6 + 1)) else (some (.inl 1)))
set_option maxHeartbeats 4000000 in
set_option maxRecDepth 100000 in
theorem v_X8_share_L25 {out : fO} {σ' : List fE} {p1 : Int32} {p2 : Int32} {p3 : Int32} {p4 : Int32} {p5 : Int32} {State_cells : Nat → Int32} : ∀ (n : Nat) {x6 : Int32} {res : (Int32) ⊕ (Int32)} (hf : s_X8_share_L25 p1 p2 p4 p5 State_cells n x6 = some res) (hr : ∀ r, res = .inl r → out = (.inl (some (.int r))) ∧ σ' = [.inl (3, [.ref 1]), .inr (910, .inl State_cells)]) (hx : ∀ e, res = .inr e → V (fXm 2 k_X8_share out σ') (krm k_X8_share) k_X8_share 2 53 [some (.ref 0), some (.int p1), some (.int p2), some (.int p3), some (.int p4), some (.int p5), some (.int e)] [] [.inl (3, [.ref 1]), .inr (910, .inl State_cells)] 0 0), V (fXm 2 k_X8_share out σ') (krm k_X8_share) k_X8_share 2 25 [some (.ref 0), some (.int p1), some (.int p2), some (.int p3), some (.int p4), some (.int p5), some (.int x6)] [] [.inl (3, [.ref 1]), .inr (910, .inl State_cells)] 0 0 := by
  intro n
  induction n with
  | zero =>
    intro x6 res hf hr hx
    rw [s_X8_share_L25] at hf
    cases hf
  | succ n ih =>
    intro x6 res hf hr hx
    rw [s_X8_share_L25] at hf
    refine V.iload (i := 6) dX8_share_25 rfl ?_
    refine V.iload (i := 4) dX8_share_27 rfl ?_
    refine V.icmp_ge (tgt := 53) dX8_share_29 (by decide) (fun h => ?_) (fun h => ?_)
    · have hf := fif_t h hf
      obtain rfl := Option.some.inj hf
      exact hx _ rfl
    · have hf := fif_f h hf
      refine V.aload_n (i := 0) dX8_share_32 rfl rfl ?_
      refine V.iload_n (i := 1) dX8_share_33 rfl rfl ?_
      refine V.iload (i := 5) dX8_share_34 rfl ?_
      refine V.iload_n (i := 2) dX8_share_36 rfl rfl ?_
      refine V.iload (i := 6) dX8_share_37 rfl ?_
      obtain ⟨v3, hv3, hf⟩ := fbind hf
      refine V.callSn (pl := [0, 1]) (σ' := [.inl (3, [.ref 1]), .inr (910, .inl State_cells)]) (st2 := [.int v3]) (cl2 := 0) (sl2 := 0) (ct_X8_readAlike (a1 := p1) (a2 := p5) (a3 := p2) (a4 := x6) (State_cells := State_cells) hv3) dX8_share_39 w433 w434 cal_X8_readAlike ⟨⟨Nat.le_of_ble_eq_true rfl, Nat.le_of_ble_eq_true rfl⟩, Nat.le_of_ble_eq_true rfl, Nat.le_of_ble_eq_true rfl⟩ (Nat.le_of_ble_eq_true rfl) rfl ⟨rfl, ⟨by decide, by decide⟩, rfl, (fr_cons (Or.inl (Nat.le_of_ble_eq_true rfl)) (fr_nil)), rfl⟩ fr_i rfl rfl rfl rfl ?_
      refine V.if_eq (tgt := 47) dX8_share_42 (by decide) (fun h => ?_) (fun h => ?_)
      · have hf := fif_t h hf
        refine V.iinc (i := 6) (v := (x6 + 1)) (L' := [some (.ref 0), some (.int p1), some (.int p2), some (.int p3), some (.int p4), some (.int p5), some (.int (x6 + 1))]) dX8_share_47 rfl rfl (Nat.le_of_ble_eq_true rfl) rfl rfl ?_
        refine V.goto (tgt := 25) dX8_share_50 (by decide) ?_
        exact ih hf hr hx
      · have hf := fif_f h hf
        refine V.iconst (v := 1) dX8_share_45 rfl ?_
        obtain rfl := Option.some.inj hf
        obtain ⟨e1, e2⟩ := hr _ rfl
        subst e1; subst e2
        exact V.zret (v := 1) dX8_share_46 rfl (by decide +kernel) (Nat.le_of_ble_eq_true rfl) (Nat.le_of_ble_eq_true rfl) rfl
def s_X8_share_L16 (p1 : Int32) (p2 : Int32) (p3 : Int32) (p4 : Int32) (State_cells : Nat → Int32) : Nat → Int32 → Option ((Int32) ⊕ (Int32))
  | 0, _ => none
  | n + 1, x5 => if (p3 ≤ x5 : Prop) then (some (.inr x5)) else ((s_X8_share_L25 p1 p2 p4 x5 State_cells gF 0).bind fun r4 => fsum r4 (fun r9 => some (.inl r9)) (fun e5 => s_X8_share_L16 p1 p2 p3 p4 State_cells n (x5 + 1)))
set_option maxHeartbeats 4000000 in
set_option maxRecDepth 100000 in
theorem v_X8_share_L16 {out : fO} {σ' : List fE} {p1 : Int32} {p2 : Int32} {p3 : Int32} {p4 : Int32} {State_cells : Nat → Int32} : ∀ (n : Nat) {x5 : Int32} {res : (Int32) ⊕ (Int32)} (hf : s_X8_share_L16 p1 p2 p3 p4 State_cells n x5 = some res) (hr : ∀ r, res = .inl r → out = (.inl (some (.int r))) ∧ σ' = [.inl (3, [.ref 1]), .inr (910, .inl State_cells)]) (hx : ∀ e, res = .inr e → V (fXm 2 k_X8_share out σ') (krm k_X8_share) k_X8_share 2 59 [some (.ref 0), some (.int p1), some (.int p2), some (.int p3), some (.int p4), some (.int e), none] [] [.inl (3, [.ref 1]), .inr (910, .inl State_cells)] 0 0), V (fXm 2 k_X8_share out σ') (krm k_X8_share) k_X8_share 2 16 [some (.ref 0), some (.int p1), some (.int p2), some (.int p3), some (.int p4), some (.int x5), none] [] [.inl (3, [.ref 1]), .inr (910, .inl State_cells)] 0 0 := by
  intro n
  induction n with
  | zero =>
    intro x5 res hf hr hx
    rw [s_X8_share_L16] at hf
    cases hf
  | succ n ih =>
    intro x5 res hf hr hx
    rw [s_X8_share_L16] at hf
    refine V.iload (i := 5) dX8_share_16 rfl ?_
    refine V.iload_n (i := 3) dX8_share_18 rfl rfl ?_
    refine V.icmp_ge (tgt := 59) dX8_share_19 (by decide) (fun h => ?_) (fun h => ?_)
    · have hf := fif_t h hf
      obtain rfl := Option.some.inj hf
      exact hx _ rfl
    · have hf := fif_f h hf
      refine V.iconst (v := 0) dX8_share_22 rfl ?_
      refine V.istore (i := 6) (L' := [some (.ref 0), some (.int p1), some (.int p2), some (.int p3), some (.int p4), some (.int x5), some (.int 0)]) dX8_share_23 (Nat.le_of_ble_eq_true rfl) rfl rfl ?_
      obtain ⟨r4, hr4, hf⟩ := fbind hf
      rcases r4 with r9 | e5
      · obtain rfl := Option.some.inj (show some _ = some res from hf)
        obtain ⟨e1, e2⟩ := hr _ rfl
        subst e1; subst e2
        exact v_X8_share_L25 gF hr4 (fun _ h => by cases h; exact ⟨rfl, rfl⟩) (fun _ h => by cases h)
      · replace hf : _ = some res := hf
        dsimp only [fsum] at hf
        refine v_X8_share_L25 gF hr4 (fun _ h => by cases h) (fun _ h => ?_)
        cases h
        refine V.iinc (i := 5) (v := (x5 + 1)) (L' := [some (.ref 0), some (.int p1), some (.int p2), some (.int p3), some (.int p4), some (.int (x5 + 1)), some (.int e5)]) dX8_share_53 rfl rfl (Nat.le_of_ble_eq_true rfl) rfl rfl ?_
        refine V.goto (tgt := 16) dX8_share_56 (by decide) ?_
        exact V.locs (L' := [some (.ref 0), some (.int p1), some (.int p2), some (.int p3), some (.int p4), some (.int (x5 + 1)), none]) ⟨rfl, ⟨rfl, ⟨rfl, ⟨rfl, ⟨rfl, ⟨rfl, trivial⟩⟩⟩⟩⟩⟩ (ih hf hr hx)
def s_X8_share (a1 : Int32) (a2 : Int32) (State_cells : Nat → Int32) : Option (Int32) := (s_X7_names a1 State_cells).bind fun v1 => (s_X7_names a2 State_cells).bind fun v2 => (s_X8_share_L16 a1 a2 v1 v2 State_cells gF 0).bind fun r6 => fsum r6 (fun r9 => some r9) (fun e7 => some 0)
set_option maxHeartbeats 4000000 in
set_option maxRecDepth 100000 in
theorem ct_X8_share {a1 : Int32} {a2 : Int32} {State_cells : Nat → Int32} {res : Int32} (hf : s_X8_share a1 a2 State_cells = some res) : Ct k_X8_share [.ref 0, .int a1, .int a2] [.inl (3, [.ref 1]), .inr (910, .inl State_cells)] (.inl (some (.int res))) [.inl (3, [.ref 1]), .inr (910, .inl State_cells)] := by
  unfold s_X8_share at hf
  refine Ct.of (L := [some (.ref 0), some (.int a1), some (.int a2), none, none, none, none]) cal_X8_share (fent_pad (j := 4) rfl) (Nat.le_of_ble_eq_true rfl) ?_
  refine V.aload_n (i := 0) dX8_share_0 rfl rfl ?_
  refine V.iload_n (i := 1) dX8_share_1 rfl rfl ?_
  obtain ⟨v1, hv1, hf⟩ := fbind hf
  refine V.callVn (pl := [0, 1]) (σ' := [.inl (3, [.ref 1]), .inr (910, .inl State_cells)]) (st2 := [.int v1]) (cl2 := 0) (sl2 := 0) (ct_X7_names (a1 := a1) (State_cells := State_cells) hv1) dX8_share_2 w138 ⟨w139, w140⟩ cal_X7_names rfl ⟨⟨Nat.le_of_ble_eq_true rfl, Nat.le_of_ble_eq_true rfl⟩, Nat.le_of_ble_eq_true rfl, Nat.le_of_ble_eq_true rfl⟩ (Nat.le_of_ble_eq_true rfl) ⟨_, _, _, _, rfl, rfl⟩ rfl ⟨rfl, ⟨by decide, by decide⟩, rfl, (fr_cons (Or.inl (Nat.le_of_ble_eq_true rfl)) (fr_nil)), rfl⟩ fr_i rfl rfl rfl rfl ?_
  refine V.istore_n (i := 3) (L' := [some (.ref 0), some (.int a1), some (.int a2), some (.int v1), none, none, none]) dX8_share_5 rfl (Nat.le_of_ble_eq_true rfl) rfl rfl ?_
  refine V.aload_n (i := 0) dX8_share_6 rfl rfl ?_
  refine V.iload_n (i := 2) dX8_share_7 rfl rfl ?_
  obtain ⟨v2, hv2, hf⟩ := fbind hf
  refine V.callVn (pl := [0, 1]) (σ' := [.inl (3, [.ref 1]), .inr (910, .inl State_cells)]) (st2 := [.int v2]) (cl2 := 0) (sl2 := 0) (ct_X7_names (a1 := a2) (State_cells := State_cells) hv2) dX8_share_8 w138 ⟨w139, w140⟩ cal_X7_names rfl ⟨⟨Nat.le_of_ble_eq_true rfl, Nat.le_of_ble_eq_true rfl⟩, Nat.le_of_ble_eq_true rfl, Nat.le_of_ble_eq_true rfl⟩ (Nat.le_of_ble_eq_true rfl) ⟨_, _, _, _, rfl, rfl⟩ rfl ⟨rfl, ⟨by decide, by decide⟩, rfl, (fr_cons (Or.inl (Nat.le_of_ble_eq_true rfl)) (fr_nil)), rfl⟩ fr_i rfl rfl rfl rfl ?_
  refine V.istore (i := 4) (L' := [some (.ref 0), some (.int a1), some (.int a2), some (.int v1), some (.int v2), none, none]) dX8_share_11 (Nat.le_of_ble_eq_true rfl) rfl rfl ?_
  refine V.iconst (v := 0) dX8_share_13 rfl ?_
  refine V.istore (i := 5) (L' := [some (.ref 0), some (.int a1), some (.int a2), some (.int v1), some (.int v2), some (.int 0), none]) dX8_share_14 (Nat.le_of_ble_eq_true rfl) rfl rfl ?_
  obtain ⟨r6, hr6, hf⟩ := fbind hf
  rcases r6 with r9 | e7
  · obtain rfl := Option.some.inj (show some _ = some res from hf)
    exact v_X8_share_L16 gF hr6 (fun _ h => by cases h; exact ⟨rfl, rfl⟩) (fun _ h => by cases h)
  · replace hf : _ = some res := hf
    dsimp only [fsum] at hf
    refine v_X8_share_L16 gF hr6 (fun _ h => by cases h) (fun _ h => ?_)
    cases h
    refine V.iconst (v := 0) dX8_share_59 rfl ?_
    obtain rfl := Option.some.inj hf
    exact V.zret (v := 0) dX8_share_60 rfl (by decide +kernel) (Nat.le_of_ble_eq_true rfl) (Nat.le_of_ble_eq_true rfl) rfl
def k_X8_fishersWithSharedNames : fK := (yX8_fishersWithSharedNames, cX8_fishersWithSharedNames, 4, (some .int), [], (4, 99), (0, 0), (0, 0))
theorem cal_X8_fishersWithSharedNames : fCal k_X8_fishersWithSharedNames 1 := ⟨⟨wc429, w17⟩, ⟨by decide +kernel, by decide +kernel⟩, by decide +kernel, by decide +kernel⟩
def s_X8_fishersWithSharedNames_L13 (p2 : Int32) (State_cells : Nat → Int32) : Nat → Int32 → Int32 → Option (Int32 × Int32)
  | 0, _, _ => none
  | n + 1, x1, x3 => if (5 ≤ x3 : Prop) then (some (x1, x3)) else ((s_X8_share p2 x3 State_cells).bind fun v1 => if (v1 = 0 : Prop) then (s_X8_fishersWithSharedNames_L13 p2 State_cells n x1 (x3 + 1)) else (s_X8_fishersWithSharedNames_L13 p2 State_cells n (x1 ||| ((1 <<< (p2 &&& 31)) ||| (1 <<< (x3 &&& 31)))) (x3 + 1)))
set_option maxHeartbeats 4000000 in
set_option maxRecDepth 100000 in
theorem v_X8_fishersWithSharedNames_L13 {out : fO} {σ' : List fE} {p2 : Int32} {State_cells : Nat → Int32} : ∀ (n : Nat) {x1 : Int32} {x3 : Int32} {res : Int32 × Int32} (hf : s_X8_fishersWithSharedNames_L13 p2 State_cells n x1 x3 = some res) (hx : V (fXm 2 k_X8_fishersWithSharedNames out σ') (krm k_X8_fishersWithSharedNames) k_X8_fishersWithSharedNames 2 43 [some (.ref 0), some (.int res.1), some (.int p2), some (.int res.2)] [] [.inl (3, [.ref 1]), .inr (910, .inl State_cells)] 0 0), V (fXm 2 k_X8_fishersWithSharedNames out σ') (krm k_X8_fishersWithSharedNames) k_X8_fishersWithSharedNames 2 13 [some (.ref 0), some (.int x1), some (.int p2), some (.int x3)] [] [.inl (3, [.ref 1]), .inr (910, .inl State_cells)] 0 0 := by
  intro n
  induction n with
  | zero =>
    intro x1 x3 res hf hx
    rw [s_X8_fishersWithSharedNames_L13] at hf
    cases hf
  | succ n ih =>
    intro x1 x3 res hf hx
    rw [s_X8_fishersWithSharedNames_L13] at hf
    refine V.iload_n (i := 3) dX8_fishersWithSharedNames_13 rfl rfl ?_
    refine V.iconst (v := 5) dX8_fishersWithSharedNames_14 rfl ?_
    refine V.icmp_ge (tgt := 43) dX8_fishersWithSharedNames_15 (by decide) (fun h => ?_) (fun h => ?_)
    · have hf := fif_t h hf
      obtain rfl := Option.some.inj hf
      exact hx
    · have hf := fif_f h hf
      refine V.aload_n (i := 0) dX8_fishersWithSharedNames_18 rfl rfl ?_
      refine V.iload_n (i := 2) dX8_fishersWithSharedNames_19 rfl rfl ?_
      refine V.iload_n (i := 3) dX8_fishersWithSharedNames_20 rfl rfl ?_
      obtain ⟨v1, hv1, hf⟩ := fbind hf
      refine V.callSn (pl := [0, 1]) (σ' := [.inl (3, [.ref 1]), .inr (910, .inl State_cells)]) (st2 := [.int v1]) (cl2 := 0) (sl2 := 0) (ct_X8_share (a1 := p2) (a2 := x3) (State_cells := State_cells) hv1) dX8_fishersWithSharedNames_21 w430 w431 cal_X8_share ⟨⟨Nat.le_of_ble_eq_true rfl, Nat.le_of_ble_eq_true rfl⟩, Nat.le_of_ble_eq_true rfl, Nat.le_of_ble_eq_true rfl⟩ (Nat.le_of_ble_eq_true rfl) rfl ⟨rfl, ⟨by decide, by decide⟩, rfl, (fr_cons (Or.inl (Nat.le_of_ble_eq_true rfl)) (fr_nil)), rfl⟩ fr_i rfl rfl rfl rfl ?_
      refine V.if_eq (tgt := 37) dX8_fishersWithSharedNames_24 (by decide) (fun h => ?_) (fun h => ?_)
      · have hf := fif_t h hf
        refine V.iinc (i := 3) (v := (x3 + 1)) (L' := [some (.ref 0), some (.int x1), some (.int p2), some (.int (x3 + 1))]) dX8_fishersWithSharedNames_37 rfl rfl (Nat.le_of_ble_eq_true rfl) rfl rfl ?_
        refine V.goto (tgt := 13) dX8_fishersWithSharedNames_40 (by decide) ?_
        exact ih hf hx
      · have hf := fif_f h hf
        refine V.iload_n (i := 1) dX8_fishersWithSharedNames_27 rfl rfl ?_
        refine V.iconst (v := 1) dX8_fishersWithSharedNames_28 rfl ?_
        refine V.iload_n (i := 2) dX8_fishersWithSharedNames_29 rfl rfl ?_
        refine V.ishl dX8_fishersWithSharedNames_30 ?_
        refine V.iconst (v := 1) dX8_fishersWithSharedNames_31 rfl ?_
        refine V.iload_n (i := 3) dX8_fishersWithSharedNames_32 rfl rfl ?_
        refine V.ishl dX8_fishersWithSharedNames_33 ?_
        refine V.ior dX8_fishersWithSharedNames_34 ?_
        refine V.ior dX8_fishersWithSharedNames_35 ?_
        refine V.istore_n (i := 1) (L' := [some (.ref 0), some (.int (x1 ||| ((1 <<< (p2 &&& 31)) ||| (1 <<< (x3 &&& 31))))), some (.int p2), some (.int x3)]) dX8_fishersWithSharedNames_36 rfl (Nat.le_of_ble_eq_true rfl) rfl rfl ?_
        refine V.iinc (i := 3) (v := (x3 + 1)) (L' := [some (.ref 0), some (.int (x1 ||| ((1 <<< (p2 &&& 31)) ||| (1 <<< (x3 &&& 31))))), some (.int p2), some (.int (x3 + 1))]) dX8_fishersWithSharedNames_37 rfl rfl (Nat.le_of_ble_eq_true rfl) rfl rfl ?_
        refine V.goto (tgt := 13) dX8_fishersWithSharedNames_40 (by decide) ?_
        exact ih hf hx
def s_X8_fishersWithSharedNames_L4 (State_cells : Nat → Int32) : Nat → Int32 → Int32 → Option (Int32 × Int32)
  | 0, _, _ => none
  | n + 1, x1, x2 => if (5 ≤ x2 : Prop) then (some (x1, x2)) else ((s_X8_fishersWithSharedNames_L13 x2 State_cells gF x1 (x2 + 1)).bind fun r2 => s_X8_fishersWithSharedNames_L4 State_cells n r2.1 (x2 + 1))
set_option maxHeartbeats 4000000 in
set_option maxRecDepth 100000 in
theorem v_X8_fishersWithSharedNames_L4 {out : fO} {σ' : List fE} {State_cells : Nat → Int32} : ∀ (n : Nat) {x1 : Int32} {x2 : Int32} {res : Int32 × Int32} (hf : s_X8_fishersWithSharedNames_L4 State_cells n x1 x2 = some res) (hx : V (fXm 2 k_X8_fishersWithSharedNames out σ') (krm k_X8_fishersWithSharedNames) k_X8_fishersWithSharedNames 2 49 [some (.ref 0), some (.int res.1), some (.int res.2), none] [] [.inl (3, [.ref 1]), .inr (910, .inl State_cells)] 0 0), V (fXm 2 k_X8_fishersWithSharedNames out σ') (krm k_X8_fishersWithSharedNames) k_X8_fishersWithSharedNames 2 4 [some (.ref 0), some (.int x1), some (.int x2), none] [] [.inl (3, [.ref 1]), .inr (910, .inl State_cells)] 0 0 := by
  intro n
  induction n with
  | zero =>
    intro x1 x2 res hf hx
    rw [s_X8_fishersWithSharedNames_L4] at hf
    cases hf
  | succ n ih =>
    intro x1 x2 res hf hx
    rw [s_X8_fishersWithSharedNames_L4] at hf
    refine V.iload_n (i := 2) dX8_fishersWithSharedNames_4 rfl rfl ?_
    refine V.iconst (v := 5) dX8_fishersWithSharedNames_5 rfl ?_
    refine V.icmp_ge (tgt := 49) dX8_fishersWithSharedNames_6 (by decide) (fun h => ?_) (fun h => ?_)
    · have hf := fif_t h hf
      obtain rfl := Option.some.inj hf
      exact hx
    · have hf := fif_f h hf
      refine V.iload_n (i := 2) dX8_fishersWithSharedNames_9 rfl rfl ?_
      refine V.iconst (v := 1) dX8_fishersWithSharedNames_10 rfl ?_
      refine V.iadd dX8_fishersWithSharedNames_11 ?_
      refine V.istore_n (i := 3) (L' := [some (.ref 0), some (.int x1), some (.int x2), some (.int (x2 + 1))]) dX8_fishersWithSharedNames_12 rfl (Nat.le_of_ble_eq_true rfl) rfl rfl ?_
      obtain ⟨r2, hr2, hf⟩ := fbind hf
      refine v_X8_fishersWithSharedNames_L13 gF hr2 ?_
      refine V.iinc (i := 2) (v := (x2 + 1)) (L' := [some (.ref 0), some (.int r2.1), some (.int (x2 + 1)), some (.int r2.2)]) dX8_fishersWithSharedNames_43 rfl rfl (Nat.le_of_ble_eq_true rfl) rfl rfl ?_
      refine V.goto (tgt := 4) dX8_fishersWithSharedNames_46 (by decide) ?_
      exact V.locs (L' := [some (.ref 0), some (.int r2.1), some (.int (x2 + 1)), none]) ⟨rfl, ⟨rfl, ⟨rfl, trivial⟩⟩⟩ (ih hf hx)
def s_X8_fishersWithSharedNames (State_cells : Nat → Int32) : Option (Int32) := (s_X8_fishersWithSharedNames_L4 State_cells gF 0 0).bind fun r3 => some r3.1
set_option maxHeartbeats 4000000 in
set_option maxRecDepth 100000 in
theorem ct_X8_fishersWithSharedNames {State_cells : Nat → Int32} {res : Int32} (hf : s_X8_fishersWithSharedNames State_cells = some res) : Ct k_X8_fishersWithSharedNames [.ref 0] [.inl (3, [.ref 1]), .inr (910, .inl State_cells)] (.inl (some (.int res))) [.inl (3, [.ref 1]), .inr (910, .inl State_cells)] := by
  unfold s_X8_fishersWithSharedNames at hf
  refine Ct.of (L := [some (.ref 0), none, none, none]) cal_X8_fishersWithSharedNames (fent_pad (j := 3) rfl) (Nat.le_of_ble_eq_true rfl) ?_
  refine V.iconst (v := 0) dX8_fishersWithSharedNames_0 rfl ?_
  refine V.istore_n (i := 1) (L' := [some (.ref 0), some (.int 0), none, none]) dX8_fishersWithSharedNames_1 rfl (Nat.le_of_ble_eq_true rfl) rfl rfl ?_
  refine V.iconst (v := 0) dX8_fishersWithSharedNames_2 rfl ?_
  refine V.istore_n (i := 2) (L' := [some (.ref 0), some (.int 0), some (.int 0), none]) dX8_fishersWithSharedNames_3 rfl (Nat.le_of_ble_eq_true rfl) rfl rfl ?_
  obtain ⟨r3, hr3, hf⟩ := fbind hf
  refine v_X8_fishersWithSharedNames_L4 gF hr3 ?_
  refine V.iload_n (i := 1) dX8_fishersWithSharedNames_49 rfl rfl ?_
  obtain rfl := Option.some.inj hf
  exact V.iret dX8_fishersWithSharedNames_50 rfl (Nat.le_of_ble_eq_true rfl) (Nat.le_of_ble_eq_true rfl) rfl
def k_X8_ofAll : fK := (yX8_ofAll, cX8_ofAll, 2, (some .int), [], (5, 122), (0, 0), (0, 0))
theorem cal_X8_ofAll : fCal k_X8_ofAll 2 := ⟨⟨wc414, w17⟩, ⟨by decide +kernel, by decide +kernel⟩, by decide +kernel, by decide +kernel⟩
def s_X8_ofAll (a1 : Int32) (State_cells : Nat → Int32) : Option (Int32) := if (a1 = 0 : Prop) then ((s_X8_names State_cells).bind fun v1 => some v1) else (if (a1 = 1 : Prop) then ((s_X7_at 0 State_cells).bind fun v2 => some v2) else (if (a1 = 2 : Prop) then ((s_X8_cordByNames State_cells).bind fun v3 => some v3) else (if (a1 = 3 : Prop) then ((s_X8_cordByLetters State_cells).bind fun v4 => some v4) else (if (a1 = 4 : Prop) then ((s_X7_at 4 State_cells).bind fun v5 => some v5) else (if (a1 = 5 : Prop) then ((s_X8_knotsThatAre 1 (-1) State_cells).bind fun v6 => some v6) else (if (a1 = 6 : Prop) then ((s_X7_at 7 State_cells).bind fun v7 => some v7) else (if (a1 = 7 : Prop) then ((s_X8_ofFishers 2 State_cells).bind fun v8 => some v8) else (if (a1 = 8 : Prop) then ((s_X8_ofFishers 3 State_cells).bind fun v9 => some v9) else (if (a1 = 9 : Prop) then ((s_X7_at 3 State_cells).bind fun v10 => some v10) else (if (a1 = 10 : Prop) then ((s_X8_fishersWithSharedNames State_cells).bind fun v11 => some v11) else (if (a1 = 11 : Prop) then ((s_X7_at 1 State_cells).bind fun v12 => some v12) else ((s_X7_at 2 State_cells).bind fun v13 => some v13))))))))))))
set_option maxHeartbeats 4000000 in
set_option maxRecDepth 100000 in
theorem ct_X8_ofAll {a1 : Int32} {State_cells : Nat → Int32} {res : Int32} (hf : s_X8_ofAll a1 State_cells = some res) : Ct k_X8_ofAll [.ref 0, .int a1] [.inl (3, [.ref 1]), .inr (910, .inl State_cells)] (.inl (some (.int res))) [.inl (3, [.ref 1]), .inr (910, .inl State_cells)] := by
  unfold s_X8_ofAll at hf
  refine Ct.of (L := [some (.ref 0), some (.int a1)]) cal_X8_ofAll (fent_pad (j := 0) rfl) (Nat.le_of_ble_eq_true rfl) ?_
  refine V.iload_n (i := 1) dX8_ofAll_0 rfl rfl ?_
  by_cases h0 : a1 = 0
  · have hf := fif_t h0 hf
    refine V.cgi h0 (V.tableIn (off := 63) (tgt := 64) dX8_ofAll_1 (by decide) (by decide) rfl (by decide) ?_)
    refine V.aload_n (i := 0) dX8_ofAll_64 rfl rfl ?_
    obtain ⟨v1, hv1, hf⟩ := fbind hf
    refine V.callSn (pl := [0, 1]) (σ' := [.inl (3, [.ref 1]), .inr (910, .inl State_cells)]) (st2 := [.int v1]) (cl2 := 0) (sl2 := 0) (ct_X8_names (State_cells := State_cells) hv1) dX8_ofAll_65 w415 w416 cal_X8_names ⟨⟨Nat.le_of_ble_eq_true rfl, Nat.le_of_ble_eq_true rfl⟩, Nat.le_of_ble_eq_true rfl, Nat.le_of_ble_eq_true rfl⟩ (Nat.le_of_ble_eq_true rfl) rfl ⟨rfl, ⟨by decide, by decide⟩, rfl, (fr_cons (Or.inl (Nat.le_of_ble_eq_true rfl)) (fr_nil)), rfl⟩ fr_i rfl rfl rfl rfl ?_
    obtain rfl := Option.some.inj hf
    exact V.iret dX8_ofAll_68 rfl (Nat.le_of_ble_eq_true rfl) (Nat.le_of_ble_eq_true rfl) rfl
  · have hf := fif_f h0 hf
    by_cases h1 : a1 = 1
    · have hf := fif_t h1 hf
      refine V.cgi h1 (V.tableIn (off := 68) (tgt := 69) dX8_ofAll_1 (by decide) (by decide) rfl (by decide) ?_)
      refine V.aload_n (i := 0) dX8_ofAll_69 rfl rfl ?_
      refine V.iconst (v := 0) dX8_ofAll_70 rfl ?_
      obtain ⟨v2, hv2, hf⟩ := fbind hf
      refine V.callVn (pl := [0, 1]) (σ' := [.inl (3, [.ref 1]), .inr (910, .inl State_cells)]) (st2 := [.int v2]) (cl2 := 0) (sl2 := 0) (ct_X7_at (a1 := 0) (State_cells := State_cells) hv2) dX8_ofAll_71 w162 ⟨w143, w144⟩ cal_X7_at rfl ⟨⟨Nat.le_of_ble_eq_true rfl, Nat.le_of_ble_eq_true rfl⟩, Nat.le_of_ble_eq_true rfl, Nat.le_of_ble_eq_true rfl⟩ (Nat.le_of_ble_eq_true rfl) ⟨_, _, _, _, rfl, rfl⟩ rfl ⟨rfl, ⟨by decide, by decide⟩, rfl, (fr_cons (Or.inl (Nat.le_of_ble_eq_true rfl)) (fr_nil)), rfl⟩ fr_i rfl rfl rfl rfl ?_
      obtain rfl := Option.some.inj hf
      exact V.iret dX8_ofAll_74 rfl (Nat.le_of_ble_eq_true rfl) (Nat.le_of_ble_eq_true rfl) rfl
    · have hf := fif_f h1 hf
      by_cases h2 : a1 = 2
      · have hf := fif_t h2 hf
        refine V.cgi h2 (V.tableIn (off := 74) (tgt := 75) dX8_ofAll_1 (by decide) (by decide) rfl (by decide) ?_)
        refine V.aload_n (i := 0) dX8_ofAll_75 rfl rfl ?_
        obtain ⟨v3, hv3, hf⟩ := fbind hf
        refine V.callSn (pl := [0, 1]) (σ' := [.inl (3, [.ref 1]), .inr (910, .inl State_cells)]) (st2 := [.int v3]) (cl2 := 0) (sl2 := 0) (ct_X8_cordByNames (State_cells := State_cells) hv3) dX8_ofAll_76 w421 w422 cal_X8_cordByNames ⟨⟨Nat.le_of_ble_eq_true rfl, Nat.le_of_ble_eq_true rfl⟩, Nat.le_of_ble_eq_true rfl, Nat.le_of_ble_eq_true rfl⟩ (Nat.le_of_ble_eq_true rfl) rfl ⟨rfl, ⟨by decide, by decide⟩, rfl, (fr_cons (Or.inl (Nat.le_of_ble_eq_true rfl)) (fr_nil)), rfl⟩ fr_i rfl rfl rfl rfl ?_
        obtain rfl := Option.some.inj hf
        exact V.iret dX8_ofAll_79 rfl (Nat.le_of_ble_eq_true rfl) (Nat.le_of_ble_eq_true rfl) rfl
      · have hf := fif_f h2 hf
        by_cases h3 : a1 = 3
        · have hf := fif_t h3 hf
          refine V.cgi h3 (V.tableIn (off := 79) (tgt := 80) dX8_ofAll_1 (by decide) (by decide) rfl (by decide) ?_)
          refine V.aload_n (i := 0) dX8_ofAll_80 rfl rfl ?_
          obtain ⟨v4, hv4, hf⟩ := fbind hf
          refine V.callSn (pl := [0, 1]) (σ' := [.inl (3, [.ref 1]), .inr (910, .inl State_cells)]) (st2 := [.int v4]) (cl2 := 0) (sl2 := 0) (ct_X8_cordByLetters (State_cells := State_cells) hv4) dX8_ofAll_81 w424 w425 cal_X8_cordByLetters ⟨⟨Nat.le_of_ble_eq_true rfl, Nat.le_of_ble_eq_true rfl⟩, Nat.le_of_ble_eq_true rfl, Nat.le_of_ble_eq_true rfl⟩ (Nat.le_of_ble_eq_true rfl) rfl ⟨rfl, ⟨by decide, by decide⟩, rfl, (fr_cons (Or.inl (Nat.le_of_ble_eq_true rfl)) (fr_nil)), rfl⟩ fr_i rfl rfl rfl rfl ?_
          obtain rfl := Option.some.inj hf
          exact V.iret dX8_ofAll_84 rfl (Nat.le_of_ble_eq_true rfl) (Nat.le_of_ble_eq_true rfl) rfl
        · have hf := fif_f h3 hf
          by_cases h4 : a1 = 4
          · have hf := fif_t h4 hf
            refine V.cgi h4 (V.tableIn (off := 84) (tgt := 85) dX8_ofAll_1 (by decide) (by decide) rfl (by decide) ?_)
            refine V.aload_n (i := 0) dX8_ofAll_85 rfl rfl ?_
            refine V.iconst (v := 4) dX8_ofAll_86 rfl ?_
            obtain ⟨v5, hv5, hf⟩ := fbind hf
            refine V.callVn (pl := [0, 1]) (σ' := [.inl (3, [.ref 1]), .inr (910, .inl State_cells)]) (st2 := [.int v5]) (cl2 := 0) (sl2 := 0) (ct_X7_at (a1 := 4) (State_cells := State_cells) hv5) dX8_ofAll_87 w162 ⟨w143, w144⟩ cal_X7_at rfl ⟨⟨Nat.le_of_ble_eq_true rfl, Nat.le_of_ble_eq_true rfl⟩, Nat.le_of_ble_eq_true rfl, Nat.le_of_ble_eq_true rfl⟩ (Nat.le_of_ble_eq_true rfl) ⟨_, _, _, _, rfl, rfl⟩ rfl ⟨rfl, ⟨by decide, by decide⟩, rfl, (fr_cons (Or.inl (Nat.le_of_ble_eq_true rfl)) (fr_nil)), rfl⟩ fr_i rfl rfl rfl rfl ?_
            obtain rfl := Option.some.inj hf
            exact V.iret dX8_ofAll_90 rfl (Nat.le_of_ble_eq_true rfl) (Nat.le_of_ble_eq_true rfl) rfl
          · have hf := fif_f h4 hf
            by_cases h5 : a1 = 5
            · have hf := fif_t h5 hf
              refine V.cgi h5 (V.tableIn (off := 90) (tgt := 91) dX8_ofAll_1 (by decide) (by decide) rfl (by decide) ?_)
              refine V.aload_n (i := 0) dX8_ofAll_91 rfl rfl ?_
              refine V.iconst (v := 1) dX8_ofAll_92 rfl ?_
              refine V.iconst (v := (-1)) dX8_ofAll_93 rfl ?_
              obtain ⟨v6, hv6, hf⟩ := fbind hf
              refine V.callSn (pl := [0, 1]) (σ' := [.inl (3, [.ref 1]), .inr (910, .inl State_cells)]) (st2 := [.int v6]) (cl2 := 0) (sl2 := 0) (ct_X8_knotsThatAre (a1 := 1) (a2 := (-1)) (State_cells := State_cells) hv6) dX8_ofAll_94 w135 w136 cal_X8_knotsThatAre ⟨⟨Nat.le_of_ble_eq_true rfl, Nat.le_of_ble_eq_true rfl⟩, Nat.le_of_ble_eq_true rfl, Nat.le_of_ble_eq_true rfl⟩ (Nat.le_of_ble_eq_true rfl) rfl ⟨rfl, ⟨by decide, by decide⟩, rfl, (fr_cons (Or.inl (Nat.le_of_ble_eq_true rfl)) (fr_nil)), rfl⟩ fr_i rfl rfl rfl rfl ?_
              obtain rfl := Option.some.inj hf
              exact V.iret dX8_ofAll_97 rfl (Nat.le_of_ble_eq_true rfl) (Nat.le_of_ble_eq_true rfl) rfl
            · have hf := fif_f h5 hf
              by_cases h6 : a1 = 6
              · have hf := fif_t h6 hf
                refine V.cgi h6 (V.tableIn (off := 97) (tgt := 98) dX8_ofAll_1 (by decide) (by decide) rfl (by decide) ?_)
                refine V.aload_n (i := 0) dX8_ofAll_98 rfl rfl ?_
                refine V.bipush (v := 7) dX8_ofAll_99 rfl ?_
                obtain ⟨v7, hv7, hf⟩ := fbind hf
                refine V.callVn (pl := [0, 1]) (σ' := [.inl (3, [.ref 1]), .inr (910, .inl State_cells)]) (st2 := [.int v7]) (cl2 := 0) (sl2 := 0) (ct_X7_at (a1 := 7) (State_cells := State_cells) hv7) dX8_ofAll_101 w162 ⟨w143, w144⟩ cal_X7_at rfl ⟨⟨Nat.le_of_ble_eq_true rfl, Nat.le_of_ble_eq_true rfl⟩, Nat.le_of_ble_eq_true rfl, Nat.le_of_ble_eq_true rfl⟩ (Nat.le_of_ble_eq_true rfl) ⟨_, _, _, _, rfl, rfl⟩ rfl ⟨rfl, ⟨by decide, by decide⟩, rfl, (fr_cons (Or.inl (Nat.le_of_ble_eq_true rfl)) (fr_nil)), rfl⟩ fr_i rfl rfl rfl rfl ?_
                obtain rfl := Option.some.inj hf
                exact V.iret dX8_ofAll_104 rfl (Nat.le_of_ble_eq_true rfl) (Nat.le_of_ble_eq_true rfl) rfl
              · have hf := fif_f h6 hf
                by_cases h7 : a1 = 7
                · have hf := fif_t h7 hf
                  refine V.cgi h7 (V.tableIn (off := 104) (tgt := 105) dX8_ofAll_1 (by decide) (by decide) rfl (by decide) ?_)
                  refine V.aload_n (i := 0) dX8_ofAll_105 rfl rfl ?_
                  refine V.iconst (v := 2) dX8_ofAll_106 rfl ?_
                  obtain ⟨v8, hv8, hf⟩ := fbind hf
                  refine V.callSn (pl := [0, 1]) (σ' := [.inl (3, [.ref 1]), .inr (910, .inl State_cells)]) (st2 := [.int v8]) (cl2 := 0) (sl2 := 0) (ct_X8_ofFishers (a1 := 2) (State_cells := State_cells) hv8) dX8_ofAll_107 w418 w419 cal_X8_ofFishers ⟨⟨Nat.le_of_ble_eq_true rfl, Nat.le_of_ble_eq_true rfl⟩, Nat.le_of_ble_eq_true rfl, Nat.le_of_ble_eq_true rfl⟩ (Nat.le_of_ble_eq_true rfl) rfl ⟨rfl, ⟨by decide, by decide⟩, rfl, (fr_cons (Or.inl (Nat.le_of_ble_eq_true rfl)) (fr_nil)), rfl⟩ fr_i rfl rfl rfl rfl ?_
                  obtain rfl := Option.some.inj hf
                  exact V.iret dX8_ofAll_110 rfl (Nat.le_of_ble_eq_true rfl) (Nat.le_of_ble_eq_true rfl) rfl
                · have hf := fif_f h7 hf
                  by_cases h8 : a1 = 8
                  · have hf := fif_t h8 hf
                    refine V.cgi h8 (V.tableIn (off := 110) (tgt := 111) dX8_ofAll_1 (by decide) (by decide) rfl (by decide) ?_)
                    refine V.aload_n (i := 0) dX8_ofAll_111 rfl rfl ?_
                    refine V.iconst (v := 3) dX8_ofAll_112 rfl ?_
                    obtain ⟨v9, hv9, hf⟩ := fbind hf
                    refine V.callSn (pl := [0, 1]) (σ' := [.inl (3, [.ref 1]), .inr (910, .inl State_cells)]) (st2 := [.int v9]) (cl2 := 0) (sl2 := 0) (ct_X8_ofFishers (a1 := 3) (State_cells := State_cells) hv9) dX8_ofAll_113 w418 w419 cal_X8_ofFishers ⟨⟨Nat.le_of_ble_eq_true rfl, Nat.le_of_ble_eq_true rfl⟩, Nat.le_of_ble_eq_true rfl, Nat.le_of_ble_eq_true rfl⟩ (Nat.le_of_ble_eq_true rfl) rfl ⟨rfl, ⟨by decide, by decide⟩, rfl, (fr_cons (Or.inl (Nat.le_of_ble_eq_true rfl)) (fr_nil)), rfl⟩ fr_i rfl rfl rfl rfl ?_
                    obtain rfl := Option.some.inj hf
                    exact V.iret dX8_ofAll_116 rfl (Nat.le_of_ble_eq_true rfl) (Nat.le_of_ble_eq_true rfl) rfl
                  · have hf := fif_f h8 hf
                    by_cases h9 : a1 = 9
                    · have hf := fif_t h9 hf
                      refine V.cgi h9 (V.tableIn (off := 116) (tgt := 117) dX8_ofAll_1 (by decide) (by decide) rfl (by decide) ?_)
                      refine V.aload_n (i := 0) dX8_ofAll_117 rfl rfl ?_
                      refine V.iconst (v := 3) dX8_ofAll_118 rfl ?_
                      obtain ⟨v10, hv10, hf⟩ := fbind hf
                      refine V.callVn (pl := [0, 1]) (σ' := [.inl (3, [.ref 1]), .inr (910, .inl State_cells)]) (st2 := [.int v10]) (cl2 := 0) (sl2 := 0) (ct_X7_at (a1 := 3) (State_cells := State_cells) hv10) dX8_ofAll_119 w162 ⟨w143, w144⟩ cal_X7_at rfl ⟨⟨Nat.le_of_ble_eq_true rfl, Nat.le_of_ble_eq_true rfl⟩, Nat.le_of_ble_eq_true rfl, Nat.le_of_ble_eq_true rfl⟩ (Nat.le_of_ble_eq_true rfl) ⟨_, _, _, _, rfl, rfl⟩ rfl ⟨rfl, ⟨by decide, by decide⟩, rfl, (fr_cons (Or.inl (Nat.le_of_ble_eq_true rfl)) (fr_nil)), rfl⟩ fr_i rfl rfl rfl rfl ?_
                      obtain rfl := Option.some.inj hf
                      exact V.iret dX8_ofAll_122 rfl (Nat.le_of_ble_eq_true rfl) (Nat.le_of_ble_eq_true rfl) rfl
                    · have hf := fif_f h9 hf
                      by_cases h10 : a1 = 10
                      · have hf := fif_t h10 hf
                        refine V.cgi h10 (V.tableIn (off := 122) (tgt := 123) dX8_ofAll_1 (by decide) (by decide) rfl (by decide) ?_)
                        refine V.aload_n (i := 0) dX8_ofAll_123 rfl rfl ?_
                        obtain ⟨v11, hv11, hf⟩ := fbind hf
                        refine V.callSn (pl := [0, 1]) (σ' := [.inl (3, [.ref 1]), .inr (910, .inl State_cells)]) (st2 := [.int v11]) (cl2 := 0) (sl2 := 0) (ct_X8_fishersWithSharedNames (State_cells := State_cells) hv11) dX8_ofAll_124 w427 w428 cal_X8_fishersWithSharedNames ⟨⟨Nat.le_of_ble_eq_true rfl, Nat.le_of_ble_eq_true rfl⟩, Nat.le_of_ble_eq_true rfl, Nat.le_of_ble_eq_true rfl⟩ (Nat.le_of_ble_eq_true rfl) rfl ⟨rfl, ⟨by decide, by decide⟩, rfl, (fr_cons (Or.inl (Nat.le_of_ble_eq_true rfl)) (fr_nil)), rfl⟩ fr_i rfl rfl rfl rfl ?_
                        obtain rfl := Option.some.inj hf
                        exact V.iret dX8_ofAll_127 rfl (Nat.le_of_ble_eq_true rfl) (Nat.le_of_ble_eq_true rfl) rfl
                      · have hf := fif_f h10 hf
                        by_cases h11 : a1 = 11
                        · have hf := fif_t h11 hf
                          refine V.cgi h11 (V.tableIn (off := 127) (tgt := 128) dX8_ofAll_1 (by decide) (by decide) rfl (by decide) ?_)
                          refine V.aload_n (i := 0) dX8_ofAll_128 rfl rfl ?_
                          refine V.iconst (v := 1) dX8_ofAll_129 rfl ?_
                          obtain ⟨v12, hv12, hf⟩ := fbind hf
                          refine V.callVn (pl := [0, 1]) (σ' := [.inl (3, [.ref 1]), .inr (910, .inl State_cells)]) (st2 := [.int v12]) (cl2 := 0) (sl2 := 0) (ct_X7_at (a1 := 1) (State_cells := State_cells) hv12) dX8_ofAll_130 w162 ⟨w143, w144⟩ cal_X7_at rfl ⟨⟨Nat.le_of_ble_eq_true rfl, Nat.le_of_ble_eq_true rfl⟩, Nat.le_of_ble_eq_true rfl, Nat.le_of_ble_eq_true rfl⟩ (Nat.le_of_ble_eq_true rfl) ⟨_, _, _, _, rfl, rfl⟩ rfl ⟨rfl, ⟨by decide, by decide⟩, rfl, (fr_cons (Or.inl (Nat.le_of_ble_eq_true rfl)) (fr_nil)), rfl⟩ fr_i rfl rfl rfl rfl ?_
                          obtain rfl := Option.some.inj hf
                          exact V.iret dX8_ofAll_133 rfl (Nat.le_of_ble_eq_true rfl) (Nat.le_of_ble_eq_true rfl) rfl
                        · have hf := fif_f h11 hf
                          refine V.tableOut (tgt := 134) dX8_ofAll_1 (by have g0 := lv_neT (a := 0) h0 (by decide); have g1 := lv_neT (a := 1) h1 (by decide); have g2 := lv_neT (a := 2) h2 (by decide); have g3 := lv_neT (a := 3) h3 (by decide); have g4 := lv_neT (a := 4) h4 (by decide); have g5 := lv_neT (a := 5) h5 (by decide); have g6 := lv_neT (a := 6) h6 (by decide); have g7 := lv_neT (a := 7) h7 (by decide); have g8 := lv_neT (a := 8) h8 (by decide); have g9 := lv_neT (a := 9) h9 (by decide); have g10 := lv_neT (a := 10) h10 (by decide); have g11 := lv_neT (a := 11) h11 (by decide); omega) (by decide) ?_
                          refine V.aload_n (i := 0) dX8_ofAll_134 rfl rfl ?_
                          refine V.iconst (v := 2) dX8_ofAll_135 rfl ?_
                          obtain ⟨v13, hv13, hf⟩ := fbind hf
                          refine V.callVn (pl := [0, 1]) (σ' := [.inl (3, [.ref 1]), .inr (910, .inl State_cells)]) (st2 := [.int v13]) (cl2 := 0) (sl2 := 0) (ct_X7_at (a1 := 2) (State_cells := State_cells) hv13) dX8_ofAll_136 w162 ⟨w143, w144⟩ cal_X7_at rfl ⟨⟨Nat.le_of_ble_eq_true rfl, Nat.le_of_ble_eq_true rfl⟩, Nat.le_of_ble_eq_true rfl, Nat.le_of_ble_eq_true rfl⟩ (Nat.le_of_ble_eq_true rfl) ⟨_, _, _, _, rfl, rfl⟩ rfl ⟨rfl, ⟨by decide, by decide⟩, rfl, (fr_cons (Or.inl (Nat.le_of_ble_eq_true rfl)) (fr_nil)), rfl⟩ fr_i rfl rfl rfl rfl ?_
                          obtain rfl := Option.some.inj hf
                          exact V.iret dX8_ofAll_139 rfl (Nat.le_of_ble_eq_true rfl) (Nat.le_of_ble_eq_true rfl) rfl
def k_X8_codeOfBelt : fK := (yX8_codeOfBelt, cX8_codeOfBelt, 8, (some .int), [], (2, 47), (0, 0), (0, 0))
theorem cal_X8_codeOfBelt : fCal k_X8_codeOfBelt 3 := ⟨⟨wc583, w17⟩, ⟨by decide +kernel, by decide +kernel⟩, by decide +kernel, by decide +kernel⟩
def s_X8_codeOfBelt_L12 (p1 : Int32) (p2 : Int32) (p3 : Int32) (State_cells : Nat → Int32) : Nat → Int32 → Int32 → Option ((Int32) ⊕ (Int32 × Int32))
  | 0, _, _ => none
  | n + 1, x4, x5 => if (p3 ≤ x5 : Prop) then (some (.inr (x4, x5))) else ((s_X7_knots p1 x5 State_cells).bind fun v2 => if (v2 ≤ (p2 - x4) : Prop) then (if ((p2 - x4) = v2 : Prop) then (if (p3 ≤ (x5 + 1) : Prop) then (some (.inl (-1))) else (some (.inl 45))) else (s_X8_codeOfBelt_L12 p1 p2 p3 State_cells n (x4 + (v2 + 1)) (x5 + 1))) else ((s_X7_readsAs p1 x5 (p2 - x4) State_cells).bind fun v3 => (s_X0_codeOf v3).bind fun v4 => some (.inl v4)))
set_option maxHeartbeats 4000000 in
set_option maxRecDepth 100000 in
theorem v_X8_codeOfBelt_L12 {out : fO} {σ' : List fE} {p1 : Int32} {p2 : Int32} {p3 : Int32} {State_cells : Nat → Int32} : ∀ (n : Nat) {x4 : Int32} {x5 : Int32} {res : (Int32) ⊕ (Int32 × Int32)} (hf : s_X8_codeOfBelt_L12 p1 p2 p3 State_cells n x4 x5 = some res) (hr : ∀ r, res = .inl r → out = (.inl (some (.int r))) ∧ σ' = [.inl (3, [.ref 1]), .inr (910, .inl State_cells)]) (hx : ∀ e, res = .inr e → V (fXm 2 k_X8_codeOfBelt out σ') (krm k_X8_codeOfBelt) k_X8_codeOfBelt 2 90 [some (.ref 0), some (.int p1), some (.int p2), some (.int p3), some (.int e.1), some (.int e.2), none, none] [] [.inl (3, [.ref 1]), .inr (910, .inl State_cells)] 0 0), V (fXm 2 k_X8_codeOfBelt out σ') (krm k_X8_codeOfBelt) k_X8_codeOfBelt 2 12 [some (.ref 0), some (.int p1), some (.int p2), some (.int p3), some (.int x4), some (.int x5), none, none] [] [.inl (3, [.ref 1]), .inr (910, .inl State_cells)] 0 0 := by
  intro n
  induction n with
  | zero =>
    intro x4 x5 res hf hr hx
    rw [s_X8_codeOfBelt_L12] at hf
    cases hf
  | succ n ih =>
    intro x4 x5 res hf hr hx
    rw [s_X8_codeOfBelt_L12] at hf
    refine V.iload (i := 5) dX8_codeOfBelt_12 rfl ?_
    refine V.iload_n (i := 3) dX8_codeOfBelt_14 rfl rfl ?_
    refine V.icmp_ge (tgt := 90) dX8_codeOfBelt_15 (by decide) (fun h => ?_) (fun h => ?_)
    · have hf := fif_t h hf
      obtain rfl := Option.some.inj hf
      exact hx _ rfl
    · have hf := fif_f h hf
      refine V.iload_n (i := 2) dX8_codeOfBelt_18 rfl rfl ?_
      refine V.iload (i := 4) dX8_codeOfBelt_19 rfl ?_
      refine V.isub dX8_codeOfBelt_21 ?_
      refine V.istore (i := 6) (L' := [some (.ref 0), some (.int p1), some (.int p2), some (.int p3), some (.int x4), some (.int x5), some (.int (p2 - x4)), none]) dX8_codeOfBelt_22 (Nat.le_of_ble_eq_true rfl) rfl rfl ?_
      refine V.aload_n (i := 0) dX8_codeOfBelt_24 rfl rfl ?_
      refine V.iload_n (i := 1) dX8_codeOfBelt_25 rfl rfl ?_
      refine V.iload (i := 5) dX8_codeOfBelt_26 rfl ?_
      obtain ⟨v2, hv2, hf⟩ := fbind hf
      refine V.callVn (pl := [0, 1]) (σ' := [.inl (3, [.ref 1]), .inr (910, .inl State_cells)]) (st2 := [.int v2]) (cl2 := 0) (sl2 := 0) (ct_X7_knots (a1 := p1) (a2 := x5) (State_cells := State_cells) hv2) dX8_codeOfBelt_28 w149 ⟨w150, w151⟩ cal_X7_knots rfl ⟨⟨Nat.le_of_ble_eq_true rfl, Nat.le_of_ble_eq_true rfl⟩, Nat.le_of_ble_eq_true rfl, Nat.le_of_ble_eq_true rfl⟩ (Nat.le_of_ble_eq_true rfl) ⟨_, _, _, _, rfl, rfl⟩ rfl ⟨rfl, ⟨by decide, by decide⟩, rfl, (fr_cons (Or.inl (Nat.le_of_ble_eq_true rfl)) (fr_nil)), rfl⟩ fr_i rfl rfl rfl rfl ?_
      refine V.istore (i := 7) (L' := [some (.ref 0), some (.int p1), some (.int p2), some (.int p3), some (.int x4), some (.int x5), some (.int (p2 - x4)), some (.int v2)]) dX8_codeOfBelt_31 (Nat.le_of_ble_eq_true rfl) rfl rfl ?_
      refine V.iload (i := 6) dX8_codeOfBelt_33 rfl ?_
      refine V.iload (i := 7) dX8_codeOfBelt_35 rfl ?_
      refine V.icmp_ge (tgt := 53) dX8_codeOfBelt_37 (by decide) (fun h => ?_) (fun h => ?_)
      · have hf := fif_t h hf
        refine V.iload (i := 6) dX8_codeOfBelt_53 rfl ?_
        refine V.iload (i := 7) dX8_codeOfBelt_55 rfl ?_
        refine V.icmp_ne (tgt := 75) dX8_codeOfBelt_57 (by decide) (fun h => ?_) (fun h => ?_)
        · have hf := fif_f h hf
          refine V.iload (i := 4) dX8_codeOfBelt_75 rfl ?_
          refine V.iload (i := 7) dX8_codeOfBelt_77 rfl ?_
          refine V.iconst (v := 1) dX8_codeOfBelt_79 rfl ?_
          refine V.iadd dX8_codeOfBelt_80 ?_
          refine V.iadd dX8_codeOfBelt_81 ?_
          refine V.istore (i := 4) (L' := [some (.ref 0), some (.int p1), some (.int p2), some (.int p3), some (.int (x4 + (v2 + 1))), some (.int x5), some (.int (p2 - x4)), some (.int v2)]) dX8_codeOfBelt_82 (Nat.le_of_ble_eq_true rfl) rfl rfl ?_
          refine V.iinc (i := 5) (v := (x5 + 1)) (L' := [some (.ref 0), some (.int p1), some (.int p2), some (.int p3), some (.int (x4 + (v2 + 1))), some (.int (x5 + 1)), some (.int (p2 - x4)), some (.int v2)]) dX8_codeOfBelt_84 rfl rfl (Nat.le_of_ble_eq_true rfl) rfl rfl ?_
          refine V.goto (tgt := 12) dX8_codeOfBelt_87 (by decide) ?_
          exact V.locs (L' := [some (.ref 0), some (.int p1), some (.int p2), some (.int p3), some (.int (x4 + (v2 + 1))), some (.int (x5 + 1)), none, none]) ⟨rfl, ⟨rfl, ⟨rfl, ⟨rfl, ⟨rfl, ⟨rfl, trivial⟩⟩⟩⟩⟩⟩ (ih hf hr hx)
        · have hf := fif_t h hf
          refine V.iload (i := 5) dX8_codeOfBelt_60 rfl ?_
          refine V.iconst (v := 1) dX8_codeOfBelt_62 rfl ?_
          refine V.iadd dX8_codeOfBelt_63 ?_
          refine V.iload_n (i := 3) dX8_codeOfBelt_64 rfl rfl ?_
          refine V.icmp_ge (tgt := 73) dX8_codeOfBelt_65 (by decide) (fun h => ?_) (fun h => ?_)
          · have hf := fif_t h hf
            refine V.iconst (v := (-1)) dX8_codeOfBelt_73 rfl ?_
            obtain rfl := Option.some.inj hf
            obtain ⟨e1, e2⟩ := hr _ rfl
            subst e1; subst e2
            exact V.iret dX8_codeOfBelt_74 rfl (Nat.le_of_ble_eq_true rfl) (Nat.le_of_ble_eq_true rfl) rfl
          · have hf := fif_f h hf
            refine V.bipush (v := 45) dX8_codeOfBelt_68 rfl ?_
            refine V.goto (tgt := 74) dX8_codeOfBelt_70 (by decide) ?_
            obtain rfl := Option.some.inj hf
            obtain ⟨e1, e2⟩ := hr _ rfl
            subst e1; subst e2
            exact V.iret dX8_codeOfBelt_74 rfl (Nat.le_of_ble_eq_true rfl) (Nat.le_of_ble_eq_true rfl) rfl
      · have hf := fif_f h hf
        refine V.aload_n (i := 0) dX8_codeOfBelt_40 rfl rfl ?_
        refine V.iload_n (i := 1) dX8_codeOfBelt_41 rfl rfl ?_
        refine V.iload (i := 5) dX8_codeOfBelt_42 rfl ?_
        refine V.iload (i := 6) dX8_codeOfBelt_44 rfl ?_
        obtain ⟨v3, hv3, hf⟩ := fbind hf
        refine V.callVn (pl := [0, 1]) (σ' := [.inl (3, [.ref 1]), .inr (910, .inl State_cells)]) (st2 := [.int v3]) (cl2 := 0) (sl2 := 0) (ct_X7_readsAs (a1 := p1) (a2 := x5) (a3 := (p2 - x4)) (State_cells := State_cells) hv3) dX8_codeOfBelt_46 w328 ⟨w329, w330⟩ cal_X7_readsAs rfl ⟨⟨Nat.le_of_ble_eq_true rfl, Nat.le_of_ble_eq_true rfl⟩, Nat.le_of_ble_eq_true rfl, Nat.le_of_ble_eq_true rfl⟩ (Nat.le_of_ble_eq_true rfl) ⟨_, _, _, _, rfl, rfl⟩ rfl ⟨rfl, ⟨by decide, by decide⟩, rfl, (fr_cons (Or.inl (Nat.le_of_ble_eq_true rfl)) (fr_nil)), rfl⟩ fr_i rfl rfl rfl rfl ?_
        obtain ⟨v4, hv4, hf⟩ := fbind hf
        refine V.callSn (pl := []) (σ' := [.inl (3, [.ref 1]), .inr (910, .inl State_cells)]) (st2 := [.int v4]) (cl2 := 0) (sl2 := 0) (ct_X0_codeOf (a0 := v3) hv4) dX8_codeOfBelt_49 w584 w585 cal_X0_codeOf ⟨⟨Nat.le_of_ble_eq_true rfl, Nat.le_of_ble_eq_true rfl⟩, Nat.le_of_ble_eq_true rfl, Nat.le_of_ble_eq_true rfl⟩ (Nat.le_of_ble_eq_true rfl) rfl ⟨rfl, ⟨by decide, by decide⟩, rfl, (fr_nil), rfl⟩ fr_i rfl rfl rfl rfl ?_
        obtain rfl := Option.some.inj hf
        obtain ⟨e1, e2⟩ := hr _ rfl
        subst e1; subst e2
        exact V.iret dX8_codeOfBelt_52 rfl (Nat.le_of_ble_eq_true rfl) (Nat.le_of_ble_eq_true rfl) rfl
def s_X8_codeOfBelt (a1 : Int32) (a2 : Int32) (State_cells : Nat → Int32) : Option (Int32) := (s_X7_names a1 State_cells).bind fun v1 => (s_X8_codeOfBelt_L12 a1 a2 v1 State_cells gF 0 0).bind fun r5 => fsum r5 (fun r9 => some r9) (fun e6 => some (-1))
set_option maxHeartbeats 4000000 in
set_option maxRecDepth 100000 in
theorem ct_X8_codeOfBelt {a1 : Int32} {a2 : Int32} {State_cells : Nat → Int32} {res : Int32} (hf : s_X8_codeOfBelt a1 a2 State_cells = some res) : Ct k_X8_codeOfBelt [.ref 0, .int a1, .int a2] [.inl (3, [.ref 1]), .inr (910, .inl State_cells)] (.inl (some (.int res))) [.inl (3, [.ref 1]), .inr (910, .inl State_cells)] := by
  unfold s_X8_codeOfBelt at hf
  refine Ct.of (L := [some (.ref 0), some (.int a1), some (.int a2), none, none, none, none, none]) cal_X8_codeOfBelt (fent_pad (j := 5) rfl) (Nat.le_of_ble_eq_true rfl) ?_
  refine V.aload_n (i := 0) dX8_codeOfBelt_0 rfl rfl ?_
  refine V.iload_n (i := 1) dX8_codeOfBelt_1 rfl rfl ?_
  obtain ⟨v1, hv1, hf⟩ := fbind hf
  refine V.callVn (pl := [0, 1]) (σ' := [.inl (3, [.ref 1]), .inr (910, .inl State_cells)]) (st2 := [.int v1]) (cl2 := 0) (sl2 := 0) (ct_X7_names (a1 := a1) (State_cells := State_cells) hv1) dX8_codeOfBelt_2 w138 ⟨w139, w140⟩ cal_X7_names rfl ⟨⟨Nat.le_of_ble_eq_true rfl, Nat.le_of_ble_eq_true rfl⟩, Nat.le_of_ble_eq_true rfl, Nat.le_of_ble_eq_true rfl⟩ (Nat.le_of_ble_eq_true rfl) ⟨_, _, _, _, rfl, rfl⟩ rfl ⟨rfl, ⟨by decide, by decide⟩, rfl, (fr_cons (Or.inl (Nat.le_of_ble_eq_true rfl)) (fr_nil)), rfl⟩ fr_i rfl rfl rfl rfl ?_
  refine V.istore_n (i := 3) (L' := [some (.ref 0), some (.int a1), some (.int a2), some (.int v1), none, none, none, none]) dX8_codeOfBelt_5 rfl (Nat.le_of_ble_eq_true rfl) rfl rfl ?_
  refine V.iconst (v := 0) dX8_codeOfBelt_6 rfl ?_
  refine V.istore (i := 4) (L' := [some (.ref 0), some (.int a1), some (.int a2), some (.int v1), some (.int 0), none, none, none]) dX8_codeOfBelt_7 (Nat.le_of_ble_eq_true rfl) rfl rfl ?_
  refine V.iconst (v := 0) dX8_codeOfBelt_9 rfl ?_
  refine V.istore (i := 5) (L' := [some (.ref 0), some (.int a1), some (.int a2), some (.int v1), some (.int 0), some (.int 0), none, none]) dX8_codeOfBelt_10 (Nat.le_of_ble_eq_true rfl) rfl rfl ?_
  obtain ⟨r5, hr5, hf⟩ := fbind hf
  rcases r5 with r9 | e6
  · obtain rfl := Option.some.inj (show some _ = some res from hf)
    exact v_X8_codeOfBelt_L12 gF hr5 (fun _ h => by cases h; exact ⟨rfl, rfl⟩) (fun _ h => by cases h)
  · replace hf : _ = some res := hf
    dsimp only [fsum] at hf
    refine v_X8_codeOfBelt_L12 gF hr5 (fun _ h => by cases h) (fun _ h => ?_)
    cases h
    refine V.iconst (v := (-1)) dX8_codeOfBelt_90 rfl ?_
    obtain rfl := Option.some.inj hf
    exact V.iret dX8_codeOfBelt_91 rfl (Nat.le_of_ble_eq_true rfl) (Nat.le_of_ble_eq_true rfl) rfl
def k_X8_shareThatReadsTrue : fK := (yX8_shareThatReadsTrue, cX8_shareThatReadsTrue, 3, (some .double), [], (4, 99), (0, 0), (0, 0))
theorem cal_X8_shareThatReadsTrue : fCal k_X8_shareThatReadsTrue 1 := ⟨⟨wc134, w17⟩, ⟨by decide +kernel, by decide +kernel⟩, by decide +kernel, by decide +kernel⟩
def s_X8_shareThatReadsTrue (State_cells : Nat → Int32) : Option (UInt64) := (s_X8_knotsThatAre 0 (-1) State_cells).bind fun v1 => (s_X8_knotsThatAre 1 (-1) State_cells).bind fun v2 => if (v1 = 0 : Prop) then (some FP.dconst1) else (fnn (FP.ddiv (FP.i2d (v1 - v2)) (FP.i2d v1)) fun v3 => some v3)
set_option maxHeartbeats 4000000 in
set_option maxRecDepth 100000 in
theorem ct_X8_shareThatReadsTrue {State_cells : Nat → Int32} {res : UInt64} (hf : s_X8_shareThatReadsTrue State_cells = some res) : Ct k_X8_shareThatReadsTrue [.ref 0] [.inl (3, [.ref 1]), .inr (910, .inl State_cells)] (.inl (some (.double res))) [.inl (3, [.ref 1]), .inr (910, .inl State_cells)] := by
  unfold s_X8_shareThatReadsTrue at hf
  refine Ct.of (L := [some (.ref 0), none, none]) cal_X8_shareThatReadsTrue (fent_pad (j := 2) rfl) (Nat.le_of_ble_eq_true rfl) ?_
  refine V.aload_n (i := 0) dX8_shareThatReadsTrue_0 rfl rfl ?_
  refine V.iconst (v := 0) dX8_shareThatReadsTrue_1 rfl ?_
  refine V.iconst (v := (-1)) dX8_shareThatReadsTrue_2 rfl ?_
  obtain ⟨v1, hv1, hf⟩ := fbind hf
  refine V.callSn (pl := [0, 1]) (σ' := [.inl (3, [.ref 1]), .inr (910, .inl State_cells)]) (st2 := [.int v1]) (cl2 := 0) (sl2 := 0) (ct_X8_knotsThatAre (a1 := 0) (a2 := (-1)) (State_cells := State_cells) hv1) dX8_shareThatReadsTrue_3 w135 w136 cal_X8_knotsThatAre ⟨⟨Nat.le_of_ble_eq_true rfl, Nat.le_of_ble_eq_true rfl⟩, Nat.le_of_ble_eq_true rfl, Nat.le_of_ble_eq_true rfl⟩ (Nat.le_of_ble_eq_true rfl) rfl ⟨rfl, ⟨by decide, by decide⟩, rfl, (fr_cons (Or.inl (Nat.le_of_ble_eq_true rfl)) (fr_nil)), rfl⟩ fr_i rfl rfl rfl rfl ?_
  refine V.istore_n (i := 1) (L' := [some (.ref 0), some (.int v1), none]) dX8_shareThatReadsTrue_6 rfl (Nat.le_of_ble_eq_true rfl) rfl rfl ?_
  refine V.aload_n (i := 0) dX8_shareThatReadsTrue_7 rfl rfl ?_
  refine V.iconst (v := 1) dX8_shareThatReadsTrue_8 rfl ?_
  refine V.iconst (v := (-1)) dX8_shareThatReadsTrue_9 rfl ?_
  obtain ⟨v2, hv2, hf⟩ := fbind hf
  refine V.callSn (pl := [0, 1]) (σ' := [.inl (3, [.ref 1]), .inr (910, .inl State_cells)]) (st2 := [.int v2]) (cl2 := 0) (sl2 := 0) (ct_X8_knotsThatAre (a1 := 1) (a2 := (-1)) (State_cells := State_cells) hv2) dX8_shareThatReadsTrue_10 w135 w136 cal_X8_knotsThatAre ⟨⟨Nat.le_of_ble_eq_true rfl, Nat.le_of_ble_eq_true rfl⟩, Nat.le_of_ble_eq_true rfl, Nat.le_of_ble_eq_true rfl⟩ (Nat.le_of_ble_eq_true rfl) rfl ⟨rfl, ⟨by decide, by decide⟩, rfl, (fr_cons (Or.inl (Nat.le_of_ble_eq_true rfl)) (fr_nil)), rfl⟩ fr_i rfl rfl rfl rfl ?_
  refine V.istore_n (i := 2) (L' := [some (.ref 0), some (.int v1), some (.int v2)]) dX8_shareThatReadsTrue_13 rfl (Nat.le_of_ble_eq_true rfl) rfl rfl ?_
  refine V.iload_n (i := 1) dX8_shareThatReadsTrue_14 rfl rfl ?_
  refine V.if_ne (tgt := 22) dX8_shareThatReadsTrue_15 (by decide) (fun h => ?_) (fun h => ?_)
  · have hf := fif_f h hf
    refine V.iload_n (i := 1) dX8_shareThatReadsTrue_22 rfl rfl ?_
    refine V.iload_n (i := 2) dX8_shareThatReadsTrue_23 rfl rfl ?_
    refine V.isub dX8_shareThatReadsTrue_24 ?_
    refine V.i2d dX8_shareThatReadsTrue_25 ?_
    refine V.iload_n (i := 1) dX8_shareThatReadsTrue_26 rfl rfl ?_
    refine V.i2d dX8_shareThatReadsTrue_27 ?_
    obtain ⟨hn, v3, ev3, hf⟩ := fnn_e hf
    refine V.ddiv dX8_shareThatReadsTrue_28 hn ?_
    refine V.cgd ev3 ?_
    obtain rfl := Option.some.inj hf
    exact V.dret dX8_shareThatReadsTrue_29 rfl (Nat.le_of_ble_eq_true rfl) (Nat.le_of_ble_eq_true rfl) rfl
  · have hf := fif_t h hf
    refine V.dconst1 dX8_shareThatReadsTrue_18 ?_
    refine V.goto (tgt := 29) dX8_shareThatReadsTrue_19 (by decide) ?_
    obtain rfl := Option.some.inj hf
    exact V.dret dX8_shareThatReadsTrue_29 rfl (Nat.le_of_ble_eq_true rfl) (Nat.le_of_ble_eq_true rfl) rfl
