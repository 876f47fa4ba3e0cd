/-! laid by program: shallow functions and contracts -/
def k_X6_loosenedBehind : fK := (yX6_loosenedBehind, cX6_loosenedBehind, 9, (some .int), [], (1, 23), (0, 0), (0, 0))
theorem cal_X6_loosenedBehind : fCal k_X6_loosenedBehind 5 := ⟨⟨wc307, w19⟩, ⟨by decide +kernel, by decide +kernel⟩, by decide +kernel, by decide +kernel⟩
def s_X6_loosenedBehind (a1 : Int32) (a2 : Int32) (a3 : Int32) (a4 : Int32) (State_cells : Nat → Int32) : Option (Int32) := (s_X7_knotCell a1 a2 a3).bind fun v1 => (s_X7_at (v1 + 1) State_cells).bind fun v2 => (s_X7_at 1 State_cells).bind fun v3 => if (v3 < 1 : Prop) then (some v2) else ((s_X7_at (v1 + 0) State_cells).bind fun v4 => (s_X0_isVowel v4).bind fun v5 => if (v5 = 0 : Prop) then (some v2) else ((s_X7_at 0 State_cells).bind fun v6 => fnz v3 (fnz v3 (some ((v2 + ((((a3 + 1) + v6) + a4) / v3)) - (((a3 + 1) + v6) / v3))))))
set_option maxHeartbeats 4000000 in
set_option maxRecDepth 100000 in
theorem ct_X6_loosenedBehind {a1 : Int32} {a2 : Int32} {a3 : Int32} {a4 : Int32} {State_cells : Nat → Int32} {res : Int32} (hf : s_X6_loosenedBehind a1 a2 a3 a4 State_cells = some res) : Ct k_X6_loosenedBehind [.ref 0, .int a1, .int a2, .int a3, .int a4] [.inl (3, [.ref 1]), .inr (910, .inl State_cells)] (.inl (some (.int res))) [.inl (3, [.ref 1]), .inr (910, .inl State_cells)] := by
  unfold s_X6_loosenedBehind at hf
  refine Ct.of (L := [some (.ref 0), some (.int a1), some (.int a2), some (.int a3), some (.int a4), none, none, none, none]) cal_X6_loosenedBehind (fent_pad (j := 4) rfl) (Nat.le_of_ble_eq_true rfl) ?_
  refine V.iload_n (i := 1) dX6_loosenedBehind_0 rfl rfl ?_
  refine V.iload_n (i := 2) dX6_loosenedBehind_1 rfl rfl ?_
  refine V.iload_n (i := 3) dX6_loosenedBehind_2 rfl rfl ?_
  obtain ⟨v1, hv1, hf⟩ := fbind hf
  refine V.callSn (pl := []) (σ' := [.inl (3, [.ref 1]), .inr (910, .inl State_cells)]) (st2 := [.int v1]) (cl2 := 0) (sl2 := 0) (ct_X7_knotCell (a0 := a1) (a1 := a2) (a2 := a3) hv1) dX6_loosenedBehind_3 w308 w157 cal_X7_knotCell ⟨⟨Nat.le_of_ble_eq_true rfl, Nat.le_of_ble_eq_true rfl⟩, Nat.le_of_ble_eq_true rfl, Nat.le_of_ble_eq_true rfl⟩ (Nat.le_of_ble_eq_true rfl) rfl ⟨rfl, ⟨by decide, by decide⟩, rfl, (fr_nil), rfl⟩ fr_i rfl rfl rfl rfl ?_
  refine V.istore (i := 5) (L' := [some (.ref 0), some (.int a1), some (.int a2), some (.int a3), some (.int a4), some (.int v1), none, none, none]) dX6_loosenedBehind_6 (Nat.le_of_ble_eq_true rfl) rfl rfl ?_
  refine V.aload_n (i := 0) dX6_loosenedBehind_8 rfl rfl ?_
  refine V.iload (i := 5) dX6_loosenedBehind_9 rfl ?_
  refine V.iconst (v := 1) dX6_loosenedBehind_11 rfl ?_
  refine V.iadd dX6_loosenedBehind_12 ?_
  obtain ⟨v2, hv2, hf⟩ := fbind hf
  refine V.callVn (pl := [0, 1]) (σ' := [.inl (3, [.ref 1]), .inr (910, .inl State_cells)]) (st2 := [.int v2]) (cl2 := 0) (sl2 := 0) (ct_X7_at (a1 := (v1 + 1)) (State_cells := State_cells) hv2) dX6_loosenedBehind_13 w309 ⟨w143, w144⟩ cal_X7_at rfl ⟨⟨Nat.le_of_ble_eq_true rfl, Nat.le_of_ble_eq_true rfl⟩, Nat.le_of_ble_eq_true rfl, Nat.le_of_ble_eq_true rfl⟩ (Nat.le_of_ble_eq_true rfl) ⟨_, _, _, _, rfl, rfl⟩ rfl ⟨rfl, ⟨by decide, by decide⟩, rfl, (fr_cons (Or.inl (Nat.le_of_ble_eq_true rfl)) (fr_nil)), rfl⟩ fr_i rfl rfl rfl rfl ?_
  refine V.istore (i := 6) (L' := [some (.ref 0), some (.int a1), some (.int a2), some (.int a3), some (.int a4), some (.int v1), some (.int v2), none, none]) dX6_loosenedBehind_16 (Nat.le_of_ble_eq_true rfl) rfl rfl ?_
  refine V.aload_n (i := 0) dX6_loosenedBehind_18 rfl rfl ?_
  refine V.iconst (v := 1) dX6_loosenedBehind_19 rfl ?_
  obtain ⟨v3, hv3, hf⟩ := fbind hf
  refine V.callVn (pl := [0, 1]) (σ' := [.inl (3, [.ref 1]), .inr (910, .inl State_cells)]) (st2 := [.int v3]) (cl2 := 0) (sl2 := 0) (ct_X7_at (a1 := 1) (State_cells := State_cells) hv3) dX6_loosenedBehind_20 w309 ⟨w143, w144⟩ cal_X7_at rfl ⟨⟨Nat.le_of_ble_eq_true rfl, Nat.le_of_ble_eq_true rfl⟩, Nat.le_of_ble_eq_true rfl, Nat.le_of_ble_eq_true rfl⟩ (Nat.le_of_ble_eq_true rfl) ⟨_, _, _, _, rfl, rfl⟩ rfl ⟨rfl, ⟨by decide, by decide⟩, rfl, (fr_cons (Or.inl (Nat.le_of_ble_eq_true rfl)) (fr_nil)), rfl⟩ fr_i rfl rfl rfl rfl ?_
  refine V.istore (i := 7) (L' := [some (.ref 0), some (.int a1), some (.int a2), some (.int a3), some (.int a4), some (.int v1), some (.int v2), some (.int v3), none]) dX6_loosenedBehind_23 (Nat.le_of_ble_eq_true rfl) rfl rfl ?_
  refine V.iload (i := 7) dX6_loosenedBehind_25 rfl ?_
  refine V.iconst (v := 1) dX6_loosenedBehind_27 rfl ?_
  refine V.icmp_lt (tgt := 45) dX6_loosenedBehind_28 (by decide) (fun h => ?_) (fun h => ?_)
  · have hf := fif_t h hf
    refine V.iload (i := 6) dX6_loosenedBehind_45 rfl ?_
    obtain rfl := Option.some.inj hf
    exact V.iret dX6_loosenedBehind_47 rfl (Nat.le_of_ble_eq_true rfl) (Nat.le_of_ble_eq_true rfl) rfl
  · have hf := fif_f h hf
    refine V.aload_n (i := 0) dX6_loosenedBehind_31 rfl rfl ?_
    refine V.iload (i := 5) dX6_loosenedBehind_32 rfl ?_
    refine V.iconst (v := 0) dX6_loosenedBehind_34 rfl ?_
    refine V.iadd dX6_loosenedBehind_35 ?_
    obtain ⟨v4, hv4, hf⟩ := fbind hf
    refine V.callVn (pl := [0, 1]) (σ' := [.inl (3, [.ref 1]), .inr (910, .inl State_cells)]) (st2 := [.int v4]) (cl2 := 0) (sl2 := 0) (ct_X7_at (a1 := (v1 + 0)) (State_cells := State_cells) hv4) dX6_loosenedBehind_36 w309 ⟨w143, w144⟩ cal_X7_at rfl ⟨⟨Nat.le_of_ble_eq_true rfl, Nat.le_of_ble_eq_true rfl⟩, Nat.le_of_ble_eq_true rfl, Nat.le_of_ble_eq_true rfl⟩ (Nat.le_of_ble_eq_true rfl) ⟨_, _, _, _, rfl, rfl⟩ rfl ⟨rfl, ⟨by decide, by decide⟩, rfl, (fr_cons (Or.inl (Nat.le_of_ble_eq_true rfl)) (fr_nil)), rfl⟩ fr_i rfl rfl rfl rfl ?_
    obtain ⟨v5, hv5, hf⟩ := fbind hf
    refine V.callSn (pl := []) (σ' := [.inl (3, [.ref 1]), .inr (910, .inl State_cells)]) (st2 := [.int v5]) (cl2 := 0) (sl2 := 0) (ct_X0_isVowel (a0 := v4) hv5) dX6_loosenedBehind_39 w310 w311 cal_X0_isVowel ⟨⟨Nat.le_of_ble_eq_true rfl, Nat.le_of_ble_eq_true rfl⟩, Nat.le_of_ble_eq_true rfl, Nat.le_of_ble_eq_true rfl⟩ (Nat.le_of_ble_eq_true rfl) rfl ⟨rfl, ⟨by decide, by decide⟩, rfl, (fr_nil), rfl⟩ fr_i rfl rfl rfl rfl ?_
    refine V.if_ne (tgt := 48) dX6_loosenedBehind_42 (by decide) (fun h => ?_) (fun h => ?_)
    · have hf := fif_f h hf
      refine V.iload_n (i := 3) dX6_loosenedBehind_48 rfl rfl ?_
      refine V.iconst (v := 1) dX6_loosenedBehind_49 rfl ?_
      refine V.iadd dX6_loosenedBehind_50 ?_
      refine V.aload_n (i := 0) dX6_loosenedBehind_51 rfl rfl ?_
      refine V.iconst (v := 0) dX6_loosenedBehind_52 rfl ?_
      obtain ⟨v6, hv6, hf⟩ := fbind hf
      refine V.callVn (pl := [0, 1]) (σ' := [.inl (3, [.ref 1]), .inr (910, .inl State_cells)]) (st2 := [.int v6, .int (a3 + 1)]) (cl2 := 0) (sl2 := 0) (ct_X7_at (a1 := 0) (State_cells := State_cells) hv6) dX6_loosenedBehind_53 w309 ⟨w143, w144⟩ cal_X7_at rfl ⟨⟨Nat.le_of_ble_eq_true rfl, Nat.le_of_ble_eq_true rfl⟩, Nat.le_of_ble_eq_true rfl, Nat.le_of_ble_eq_true rfl⟩ (Nat.le_of_ble_eq_true rfl) ⟨_, _, _, _, rfl, rfl⟩ rfl ⟨rfl, ⟨by decide, by decide⟩, rfl, (fr_cons (Or.inl (Nat.le_of_ble_eq_true rfl)) (fr_nil)), rfl⟩ fr_i rfl rfl rfl rfl ?_
      refine V.iadd dX6_loosenedBehind_56 ?_
      refine V.istore (i := 8) (L' := [some (.ref 0), some (.int a1), some (.int a2), some (.int a3), some (.int a4), some (.int v1), some (.int v2), some (.int v3), some (.int ((a3 + 1) + v6))]) dX6_loosenedBehind_57 (Nat.le_of_ble_eq_true rfl) rfl rfl ?_
      refine V.iload (i := 6) dX6_loosenedBehind_59 rfl ?_
      refine V.iload (i := 8) dX6_loosenedBehind_61 rfl ?_
      refine V.iload (i := 4) dX6_loosenedBehind_63 rfl ?_
      refine V.iadd dX6_loosenedBehind_65 ?_
      refine V.iload (i := 7) dX6_loosenedBehind_66 rfl ?_
      obtain ⟨hz, hf⟩ := fnz_e hf
      refine V.idiv dX6_loosenedBehind_68 hz ?_
      refine V.iadd dX6_loosenedBehind_69 ?_
      refine V.iload (i := 8) dX6_loosenedBehind_70 rfl ?_
      refine V.iload (i := 7) dX6_loosenedBehind_72 rfl ?_
      obtain ⟨hz, hf⟩ := fnz_e hf
      refine V.idiv dX6_loosenedBehind_74 hz ?_
      refine V.isub dX6_loosenedBehind_75 ?_
      obtain rfl := Option.some.inj hf
      exact V.iret dX6_loosenedBehind_76 rfl (Nat.le_of_ble_eq_true rfl) (Nat.le_of_ble_eq_true rfl) rfl
    · have hf := fif_t h hf
      refine V.iload (i := 6) dX6_loosenedBehind_45 rfl ?_
      obtain rfl := Option.some.inj hf
      exact V.iret dX6_loosenedBehind_47 rfl (Nat.le_of_ble_eq_true rfl) (Nat.le_of_ble_eq_true rfl) rfl
def k_X6_unreadableBehind : fK := (yX6_unreadableBehind, cX6_unreadableBehind, 7, (some .int), [], (2, 51), (0, 0), (0, 0))
theorem cal_X6_unreadableBehind : fCal k_X6_unreadableBehind 4 := ⟨⟨wc303, w19⟩, ⟨by decide +kernel, by decide +kernel⟩, by decide +kernel, by decide +kernel⟩
def s_X6_unreadableBehind_L14 (p1 : Int32) (p2 : Int32) (p3 : Int32) (p5 : Int32) (State_cells : Nat → Int32) : Nat → Int32 → Int32 → Option (Int32 × Int32)
  | 0, _, _ => none
  | n + 1, x4, x6 => if (p5 ≤ x6 : Prop) then (some (x4, x6)) else ((s_X6_loosenedBehind p1 p2 x6 p3 State_cells).bind fun v2 => if (v2 ≤ 1 : Prop) then (s_X6_unreadableBehind_L14 p1 p2 p3 p5 State_cells n (x4 + 0) (x6 + 1)) else (s_X6_unreadableBehind_L14 p1 p2 p3 p5 State_cells n (x4 + 1) (x6 + 1)))
set_option maxHeartbeats 4000000 in
set_option maxRecDepth 100000 in
theorem v_X6_unreadableBehind_L14 {out : fO} {σ' : List fE} {p1 : Int32} {p2 : Int32} {p3 : Int32} {p5 : Int32} {State_cells : Nat → Int32} : ∀ (n : Nat) {x4 : Int32} {x6 : Int32} {res : Int32 × Int32} (hf : s_X6_unreadableBehind_L14 p1 p2 p3 p5 State_cells n x4 x6 = some res) (hx : V (fXm 2 k_X6_unreadableBehind out σ') (krm k_X6_unreadableBehind) k_X6_unreadableBehind 2 50 [some (.ref 0), some (.int p1), some (.int p2), some (.int p3), some (.int res.1), some (.int p5), some (.int res.2)] [] [.inl (3, [.ref 1]), .inr (910, .inl State_cells)] 0 0), V (fXm 2 k_X6_unreadableBehind out σ') (krm k_X6_unreadableBehind) k_X6_unreadableBehind 2 14 [some (.ref 0), some (.int p1), some (.int p2), some (.int p3), some (.int x4), some (.int p5), some (.int x6)] [] [.inl (3, [.ref 1]), .inr (910, .inl State_cells)] 0 0 := by
  intro n
  induction n with
  | zero =>
    intro x4 x6 res hf hx
    rw [s_X6_unreadableBehind_L14] at hf
    cases hf
  | succ n ih =>
    intro x4 x6 res hf hx
    rw [s_X6_unreadableBehind_L14] at hf
    refine V.iload (i := 6) dX6_unreadableBehind_14 rfl ?_
    refine V.iload (i := 5) dX6_unreadableBehind_16 rfl ?_
    refine V.icmp_ge (tgt := 50) dX6_unreadableBehind_18 (by decide) (fun h => ?_) (fun h => ?_)
    · have hf := fif_t h hf
      obtain rfl := Option.some.inj hf
      exact hx
    · have hf := fif_f h hf
      refine V.iload (i := 4) dX6_unreadableBehind_21 rfl ?_
      refine V.aload_n (i := 0) dX6_unreadableBehind_23 rfl rfl ?_
      refine V.iload_n (i := 1) dX6_unreadableBehind_24 rfl rfl ?_
      refine V.iload_n (i := 2) dX6_unreadableBehind_25 rfl rfl ?_
      refine V.iload (i := 6) dX6_unreadableBehind_26 rfl ?_
      refine V.iload_n (i := 3) dX6_unreadableBehind_28 rfl rfl ?_
      obtain ⟨v2, hv2, hf⟩ := fbind hf
      refine V.callSn (pl := [0, 1]) (σ' := [.inl (3, [.ref 1]), .inr (910, .inl State_cells)]) (st2 := [.int v2, .int x4]) (cl2 := 0) (sl2 := 0) (ct_X6_loosenedBehind (a1 := p1) (a2 := p2) (a3 := x6) (a4 := p3) (State_cells := State_cells) hv2) dX6_unreadableBehind_29 w305 w306 cal_X6_loosenedBehind ⟨⟨Nat.le_of_ble_eq_true rfl, Nat.le_of_ble_eq_true rfl⟩, Nat.le_of_ble_eq_true rfl, Nat.le_of_ble_eq_true rfl⟩ (Nat.le_of_ble_eq_true rfl) rfl ⟨rfl, ⟨by decide, by decide⟩, rfl, (fr_cons (Or.inl (Nat.le_of_ble_eq_true rfl)) (fr_nil)), rfl⟩ fr_i rfl rfl rfl rfl ?_
      refine V.iconst (v := 1) dX6_unreadableBehind_32 rfl ?_
      refine V.icmp_le (tgt := 40) dX6_unreadableBehind_33 (by decide) (fun h => ?_) (fun h => ?_)
      · have hf := fif_t h hf
        refine V.iconst (v := 0) dX6_unreadableBehind_40 rfl ?_
        refine V.iadd dX6_unreadableBehind_41 ?_
        refine V.istore (i := 4) (L' := [some (.ref 0), some (.int p1), some (.int p2), some (.int p3), some (.int (x4 + 0)), some (.int p5), some (.int x6)]) dX6_unreadableBehind_42 (Nat.le_of_ble_eq_true rfl) rfl rfl ?_
        refine V.iinc (i := 6) (v := (x6 + 1)) (L' := [some (.ref 0), some (.int p1), some (.int p2), some (.int p3), some (.int (x4 + 0)), some (.int p5), some (.int (x6 + 1))]) dX6_unreadableBehind_44 rfl rfl (Nat.le_of_ble_eq_true rfl) rfl rfl ?_
        refine V.goto (tgt := 14) dX6_unreadableBehind_47 (by decide) ?_
        exact ih hf hx
      · have hf := fif_f h hf
        refine V.iconst (v := 1) dX6_unreadableBehind_36 rfl ?_
        refine V.goto (tgt := 41) dX6_unreadableBehind_37 (by decide) ?_
        refine V.iadd dX6_unreadableBehind_41 ?_
        refine V.istore (i := 4) (L' := [some (.ref 0), some (.int p1), some (.int p2), some (.int p3), some (.int (x4 + 1)), some (.int p5), some (.int x6)]) dX6_unreadableBehind_42 (Nat.le_of_ble_eq_true rfl) rfl rfl ?_
        refine V.iinc (i := 6) (v := (x6 + 1)) (L' := [some (.ref 0), some (.int p1), some (.int p2), some (.int p3), some (.int (x4 + 1)), some (.int p5), some (.int (x6 + 1))]) dX6_unreadableBehind_44 rfl rfl (Nat.le_of_ble_eq_true rfl) rfl rfl ?_
        refine V.goto (tgt := 14) dX6_unreadableBehind_47 (by decide) ?_
        exact ih hf hx
def s_X6_unreadableBehind (a1 : Int32) (a2 : Int32) (a3 : Int32) (State_cells : Nat → Int32) : Option (Int32) := (s_X7_knots a1 a2 State_cells).bind fun v1 => (s_X6_unreadableBehind_L14 a1 a2 a3 v1 State_cells gF 0 0).bind fun r3 => some r3.1
set_option maxHeartbeats 4000000 in
set_option maxRecDepth 100000 in
theorem ct_X6_unreadableBehind {a1 : Int32} {a2 : Int32} {a3 : Int32} {State_cells : Nat → Int32} {res : Int32} (hf : s_X6_unreadableBehind a1 a2 a3 State_cells = some res) : Ct k_X6_unreadableBehind [.ref 0, .int a1, .int a2, .int a3] [.inl (3, [.ref 1]), .inr (910, .inl State_cells)] (.inl (some (.int res))) [.inl (3, [.ref 1]), .inr (910, .inl State_cells)] := by
  unfold s_X6_unreadableBehind at hf
  refine Ct.of (L := [some (.ref 0), some (.int a1), some (.int a2), some (.int a3), none, none, none]) cal_X6_unreadableBehind (fent_pad (j := 3) rfl) (Nat.le_of_ble_eq_true rfl) ?_
  refine V.iconst (v := 0) dX6_unreadableBehind_0 rfl ?_
  refine V.istore (i := 4) (L' := [some (.ref 0), some (.int a1), some (.int a2), some (.int a3), some (.int 0), none, none]) dX6_unreadableBehind_1 (Nat.le_of_ble_eq_true rfl) rfl rfl ?_
  refine V.aload_n (i := 0) dX6_unreadableBehind_3 rfl rfl ?_
  refine V.iload_n (i := 1) dX6_unreadableBehind_4 rfl rfl ?_
  refine V.iload_n (i := 2) dX6_unreadableBehind_5 rfl rfl ?_
  obtain ⟨v1, hv1, hf⟩ := fbind hf
  refine V.callVn (pl := [0, 1]) (σ' := [.inl (3, [.ref 1]), .inr (910, .inl State_cells)]) (st2 := [.int v1]) (cl2 := 0) (sl2 := 0) (ct_X7_knots (a1 := a1) (a2 := a2) (State_cells := State_cells) hv1) dX6_unreadableBehind_6 w304 ⟨w150, w151⟩ cal_X7_knots rfl ⟨⟨Nat.le_of_ble_eq_true rfl, Nat.le_of_ble_eq_true rfl⟩, Nat.le_of_ble_eq_true rfl, Nat.le_of_ble_eq_true rfl⟩ (Nat.le_of_ble_eq_true rfl) ⟨_, _, _, _, rfl, rfl⟩ rfl ⟨rfl, ⟨by decide, by decide⟩, rfl, (fr_cons (Or.inl (Nat.le_of_ble_eq_true rfl)) (fr_nil)), rfl⟩ fr_i rfl rfl rfl rfl ?_
  refine V.istore (i := 5) (L' := [some (.ref 0), some (.int a1), some (.int a2), some (.int a3), some (.int 0), some (.int v1), none]) dX6_unreadableBehind_9 (Nat.le_of_ble_eq_true rfl) rfl rfl ?_
  refine V.iconst (v := 0) dX6_unreadableBehind_11 rfl ?_
  refine V.istore (i := 6) (L' := [some (.ref 0), some (.int a1), some (.int a2), some (.int a3), some (.int 0), some (.int v1), some (.int 0)]) dX6_unreadableBehind_12 (Nat.le_of_ble_eq_true rfl) rfl rfl ?_
  obtain ⟨r3, hr3, hf⟩ := fbind hf
  refine v_X6_unreadableBehind_L14 gF hr3 ?_
  refine V.iload (i := 4) dX6_unreadableBehind_50 rfl ?_
  obtain rfl := Option.some.inj hf
  exact V.iret dX6_unreadableBehind_52 rfl (Nat.le_of_ble_eq_true rfl) (Nat.le_of_ble_eq_true rfl) rfl
def k_X6_stormsToLoss : fK := (yX6_stormsToLoss, cX6_stormsToLoss, 5, (some .int), [], (3, 77), (0, 0), (0, 0))
theorem cal_X6_stormsToLoss : fCal k_X6_stormsToLoss 3 := ⟨⟨wc315, w19⟩, ⟨by decide +kernel, by decide +kernel⟩, by decide +kernel, by decide +kernel⟩
def s_X6_stormsToLoss_L9 (p1 : Int32) (p2 : Int32) (p3 : Int32) (State_cells : Nat → Int32) : Nat → Int32 → Option ((Int32) ⊕ (Int32))
  | 0, _ => none
  | n + 1, x4 => if (60 < x4 : Prop) then (some (.inr x4)) else ((s_X6_unreadableBehind p1 p2 x4 State_cells).bind fun v2 => if (v2 ≤ p3 : Prop) then (s_X6_stormsToLoss_L9 p1 p2 p3 State_cells n (x4 + 1)) else (some (.inl x4)))
set_option maxHeartbeats 4000000 in
set_option maxRecDepth 100000 in
theorem v_X6_stormsToLoss_L9 {out : fO} {σ' : List fE} {p1 : Int32} {p2 : Int32} {p3 : Int32} {State_cells : Nat → Int32} : ∀ (n : Nat) {x4 : Int32} {res : (Int32) ⊕ (Int32)} (hf : s_X6_stormsToLoss_L9 p1 p2 p3 State_cells n x4 = some res) (hr : ∀ r, res = .inl r → out = (.inl (some (.int r))) ∧ σ' = [.inl (3, [.ref 1]), .inr (910, .inl State_cells)]) (hx : ∀ e, res = .inr e → V (fXm 2 k_X6_stormsToLoss out σ') (krm k_X6_stormsToLoss) k_X6_stormsToLoss 2 37 [some (.ref 0), some (.int p1), some (.int p2), some (.int p3), some (.int e)] [] [.inl (3, [.ref 1]), .inr (910, .inl State_cells)] 0 0), V (fXm 2 k_X6_stormsToLoss out σ') (krm k_X6_stormsToLoss) k_X6_stormsToLoss 2 9 [some (.ref 0), some (.int p1), some (.int p2), some (.int p3), some (.int x4)] [] [.inl (3, [.ref 1]), .inr (910, .inl State_cells)] 0 0 := by
  intro n
  induction n with
  | zero =>
    intro x4 res hf hr hx
    rw [s_X6_stormsToLoss_L9] at hf
    cases hf
  | succ n ih =>
    intro x4 res hf hr hx
    rw [s_X6_stormsToLoss_L9] at hf
    refine V.iload (i := 4) dX6_stormsToLoss_9 rfl ?_
    refine V.bipush (v := 60) dX6_stormsToLoss_11 rfl ?_
    refine V.icmp_gt (tgt := 37) dX6_stormsToLoss_13 (by decide) (fun h => ?_) (fun h => ?_)
    · have hf := fif_t h hf
      obtain rfl := Option.some.inj hf
      exact hx _ rfl
    · have hf := fif_f h hf
      refine V.aload_n (i := 0) dX6_stormsToLoss_16 rfl rfl ?_
      refine V.iload_n (i := 1) dX6_stormsToLoss_17 rfl rfl ?_
      refine V.iload_n (i := 2) dX6_stormsToLoss_18 rfl rfl ?_
      refine V.iload (i := 4) dX6_stormsToLoss_19 rfl ?_
      obtain ⟨v2, hv2, hf⟩ := fbind hf
      refine V.callSn (pl := [0, 1]) (σ' := [.inl (3, [.ref 1]), .inr (910, .inl State_cells)]) (st2 := [.int v2]) (cl2 := 0) (sl2 := 0) (ct_X6_unreadableBehind (a1 := p1) (a2 := p2) (a3 := x4) (State_cells := State_cells) hv2) dX6_stormsToLoss_21 w316 w302 cal_X6_unreadableBehind ⟨⟨Nat.le_of_ble_eq_true rfl, Nat.le_of_ble_eq_true rfl⟩, Nat.le_of_ble_eq_true rfl, Nat.le_of_ble_eq_true rfl⟩ (Nat.le_of_ble_eq_true rfl) rfl ⟨rfl, ⟨by decide, by decide⟩, rfl, (fr_cons (Or.inl (Nat.le_of_ble_eq_true rfl)) (fr_nil)), rfl⟩ fr_i rfl rfl rfl rfl ?_
      refine V.iload_n (i := 3) dX6_stormsToLoss_24 rfl rfl ?_
      refine V.icmp_le (tgt := 31) dX6_stormsToLoss_25 (by decide) (fun h => ?_) (fun h => ?_)
      · have hf := fif_t h hf
        refine V.iinc (i := 4) (v := (x4 + 1)) (L' := [some (.ref 0), some (.int p1), some (.int p2), some (.int p3), some (.int (x4 + 1))]) dX6_stormsToLoss_31 rfl rfl (Nat.le_of_ble_eq_true rfl) rfl rfl ?_
        refine V.goto (tgt := 9) dX6_stormsToLoss_34 (by decide) ?_
        exact ih hf hr hx
      · have hf := fif_f h hf
        refine V.iload (i := 4) dX6_stormsToLoss_28 rfl ?_
        obtain rfl := Option.some.inj hf
        obtain ⟨e1, e2⟩ := hr _ rfl
        subst e1; subst e2
        exact V.iret dX6_stormsToLoss_30 rfl (Nat.le_of_ble_eq_true rfl) (Nat.le_of_ble_eq_true rfl) rfl
def s_X6_stormsToLoss (a1 : Int32) (a2 : Int32) (State_cells : Nat → Int32) : Option (Int32) := (s_X7_at 2 State_cells).bind fun v1 => (s_X6_stormsToLoss_L9 a1 a2 v1 State_cells gF 1).bind fun r3 => fsum r3 (fun r9 => some r9) (fun e4 => some (-1))
set_option maxHeartbeats 4000000 in
set_option maxRecDepth 100000 in
theorem ct_X6_stormsToLoss {a1 : Int32} {a2 : Int32} {State_cells : Nat → Int32} {res : Int32} (hf : s_X6_stormsToLoss a1 a2 State_cells = some res) : Ct k_X6_stormsToLoss [.ref 0, .int a1, .int a2] [.inl (3, [.ref 1]), .inr (910, .inl State_cells)] (.inl (some (.int res))) [.inl (3, [.ref 1]), .inr (910, .inl State_cells)] := by
  unfold s_X6_stormsToLoss at hf
  refine Ct.of (L := [some (.ref 0), some (.int a1), some (.int a2), none, none]) cal_X6_stormsToLoss (fent_pad (j := 2) rfl) (Nat.le_of_ble_eq_true rfl) ?_
  refine V.aload_n (i := 0) dX6_stormsToLoss_0 rfl rfl ?_
  refine V.iconst (v := 2) dX6_stormsToLoss_1 rfl ?_
  obtain ⟨v1, hv1, hf⟩ := fbind hf
  refine V.callVn (pl := [0, 1]) (σ' := [.inl (3, [.ref 1]), .inr (910, .inl State_cells)]) (st2 := [.int v1]) (cl2 := 0) (sl2 := 0) (ct_X7_at (a1 := 2) (State_cells := State_cells) hv1) dX6_stormsToLoss_2 w309 ⟨w143, w144⟩ cal_X7_at rfl ⟨⟨Nat.le_of_ble_eq_true rfl, Nat.le_of_ble_eq_true rfl⟩, Nat.le_of_ble_eq_true rfl, Nat.le_of_ble_eq_true rfl⟩ (Nat.le_of_ble_eq_true rfl) ⟨_, _, _, _, rfl, rfl⟩ rfl ⟨rfl, ⟨by decide, by decide⟩, rfl, (fr_cons (Or.inl (Nat.le_of_ble_eq_true rfl)) (fr_nil)), rfl⟩ fr_i rfl rfl rfl rfl ?_
  refine V.istore_n (i := 3) (L' := [some (.ref 0), some (.int a1), some (.int a2), some (.int v1), none]) dX6_stormsToLoss_5 rfl (Nat.le_of_ble_eq_true rfl) rfl rfl ?_
  refine V.iconst (v := 1) dX6_stormsToLoss_6 rfl ?_
  refine V.istore (i := 4) (L' := [some (.ref 0), some (.int a1), some (.int a2), some (.int v1), some (.int 1)]) dX6_stormsToLoss_7 (Nat.le_of_ble_eq_true rfl) rfl rfl ?_
  obtain ⟨r3, hr3, hf⟩ := fbind hf
  rcases r3 with r9 | e4
  · obtain rfl := Option.some.inj (show some _ = some res from hf)
    exact v_X6_stormsToLoss_L9 gF hr3 (fun _ h => by cases h; exact ⟨rfl, rfl⟩) (fun _ h => by cases h)
  · replace hf : _ = some res := hf
    dsimp only [fsum] at hf
    refine v_X6_stormsToLoss_L9 gF hr3 (fun _ h => by cases h) (fun _ h => ?_)
    cases h
    refine V.iconst (v := (-1)) dX6_stormsToLoss_37 rfl ?_
    obtain rfl := Option.some.inj hf
    exact V.iret dX6_stormsToLoss_38 rfl (Nat.le_of_ble_eq_true rfl) (Nat.le_of_ble_eq_true rfl) rfl
def k_X6_loosenedByNext : fK := (yX6_loosenedByNext, cX6_loosenedByNext, 7, (some .int), [], (2, 51), (0, 0), (0, 0))
theorem cal_X6_loosenedByNext : fCal k_X6_loosenedByNext 3 := ⟨⟨wc402, w19⟩, ⟨by decide +kernel, by decide +kernel⟩, by decide +kernel, by decide +kernel⟩
def s_X6_loosenedByNext_L13 (p1 : Int32) (p2 : Int32) (p4 : Int32) (State_cells : Nat → Int32) : Nat → Int32 → Int32 → Option (Int32 × Int32)
  | 0, _, _ => none
  | n + 1, x3, x5 => if (p4 ≤ x5 : Prop) then (some (x3, x5)) else ((s_X7_loosened p1 p2 x5 State_cells).bind fun v2 => (s_X6_loosenedBehind p1 p2 x5 1 State_cells).bind fun v3 => s_X6_loosenedByNext_L13 p1 p2 p4 State_cells n (x3 + (v3 - v2)) (x5 + 1))
set_option maxHeartbeats 4000000 in
set_option maxRecDepth 100000 in
theorem v_X6_loosenedByNext_L13 {out : fO} {σ' : List fE} {p1 : Int32} {p2 : Int32} {p4 : Int32} {State_cells : Nat → Int32} : ∀ (n : Nat) {x3 : Int32} {x5 : Int32} {res : Int32 × Int32} (hf : s_X6_loosenedByNext_L13 p1 p2 p4 State_cells n x3 x5 = some res) (hx : V (fXm 2 k_X6_loosenedByNext out σ') (krm k_X6_loosenedByNext) k_X6_loosenedByNext 2 51 [some (.ref 0), some (.int p1), some (.int p2), some (.int res.1), some (.int p4), some (.int res.2), none] [] [.inl (3, [.ref 1]), .inr (910, .inl State_cells)] 0 0), V (fXm 2 k_X6_loosenedByNext out σ') (krm k_X6_loosenedByNext) k_X6_loosenedByNext 2 13 [some (.ref 0), some (.int p1), some (.int p2), some (.int x3), some (.int p4), some (.int x5), none] [] [.inl (3, [.ref 1]), .inr (910, .inl State_cells)] 0 0 := by
  intro n
  induction n with
  | zero =>
    intro x3 x5 res hf hx
    rw [s_X6_loosenedByNext_L13] at hf
    cases hf
  | succ n ih =>
    intro x3 x5 res hf hx
    rw [s_X6_loosenedByNext_L13] at hf
    refine V.iload (i := 5) dX6_loosenedByNext_13 rfl ?_
    refine V.iload (i := 4) dX6_loosenedByNext_15 rfl ?_
    refine V.icmp_ge (tgt := 51) dX6_loosenedByNext_17 (by decide) (fun h => ?_) (fun h => ?_)
    · have hf := fif_t h hf
      obtain rfl := Option.some.inj hf
      exact hx
    · have hf := fif_f h hf
      refine V.aload_n (i := 0) dX6_loosenedByNext_20 rfl rfl ?_
      refine V.iload_n (i := 1) dX6_loosenedByNext_21 rfl rfl ?_
      refine V.iload_n (i := 2) dX6_loosenedByNext_22 rfl rfl ?_
      refine V.iload (i := 5) dX6_loosenedByNext_23 rfl ?_
      obtain ⟨v2, hv2, hf⟩ := fbind hf
      refine V.callVn (pl := [0, 1]) (σ' := [.inl (3, [.ref 1]), .inr (910, .inl State_cells)]) (st2 := [.int v2]) (cl2 := 0) (sl2 := 0) (ct_X7_loosened (a1 := p1) (a2 := p2) (a3 := x5) (State_cells := State_cells) hv2) dX6_loosenedByNext_25 w403 ⟨w334, w335⟩ cal_X7_loosened rfl ⟨⟨Nat.le_of_ble_eq_true rfl, Nat.le_of_ble_eq_true rfl⟩, Nat.le_of_ble_eq_true rfl, Nat.le_of_ble_eq_true rfl⟩ (Nat.le_of_ble_eq_true rfl) ⟨_, _, _, _, rfl, rfl⟩ rfl ⟨rfl, ⟨by decide, by decide⟩, rfl, (fr_cons (Or.inl (Nat.le_of_ble_eq_true rfl)) (fr_nil)), rfl⟩ fr_i rfl rfl rfl rfl ?_
      refine V.istore (i := 6) (L' := [some (.ref 0), some (.int p1), some (.int p2), some (.int x3), some (.int p4), some (.int x5), some (.int v2)]) dX6_loosenedByNext_28 (Nat.le_of_ble_eq_true rfl) rfl rfl ?_
      refine V.iload_n (i := 3) dX6_loosenedByNext_30 rfl rfl ?_
      refine V.aload_n (i := 0) dX6_loosenedByNext_31 rfl rfl ?_
      refine V.iload_n (i := 1) dX6_loosenedByNext_32 rfl rfl ?_
      refine V.iload_n (i := 2) dX6_loosenedByNext_33 rfl rfl ?_
      refine V.iload (i := 5) dX6_loosenedByNext_34 rfl ?_
      refine V.iconst (v := 1) dX6_loosenedByNext_36 rfl ?_
      obtain ⟨v3, hv3, hf⟩ := fbind hf
      refine V.callSn (pl := [0, 1]) (σ' := [.inl (3, [.ref 1]), .inr (910, .inl State_cells)]) (st2 := [.int v3, .int x3]) (cl2 := 0) (sl2 := 0) (ct_X6_loosenedBehind (a1 := p1) (a2 := p2) (a3 := x5) (a4 := 1) (State_cells := State_cells) hv3) dX6_loosenedByNext_37 w305 w306 cal_X6_loosenedBehind ⟨⟨Nat.le_of_ble_eq_true rfl, Nat.le_of_ble_eq_true rfl⟩, Nat.le_of_ble_eq_true rfl, Nat.le_of_ble_eq_true rfl⟩ (Nat.le_of_ble_eq_true rfl) rfl ⟨rfl, ⟨by decide, by decide⟩, rfl, (fr_cons (Or.inl (Nat.le_of_ble_eq_true rfl)) (fr_nil)), rfl⟩ fr_i rfl rfl rfl rfl ?_
      refine V.iload (i := 6) dX6_loosenedByNext_40 rfl ?_
      refine V.isub dX6_loosenedByNext_42 ?_
      refine V.iadd dX6_loosenedByNext_43 ?_
      refine V.istore_n (i := 3) (L' := [some (.ref 0), some (.int p1), some (.int p2), some (.int (x3 + (v3 - v2))), some (.int p4), some (.int x5), some (.int v2)]) dX6_loosenedByNext_44 rfl (Nat.le_of_ble_eq_true rfl) rfl rfl ?_
      refine V.iinc (i := 5) (v := (x5 + 1)) (L' := [some (.ref 0), some (.int p1), some (.int p2), some (.int (x3 + (v3 - v2))), some (.int p4), some (.int (x5 + 1)), some (.int v2)]) dX6_loosenedByNext_45 rfl rfl (Nat.le_of_ble_eq_true rfl) rfl rfl ?_
      refine V.goto (tgt := 13) dX6_loosenedByNext_48 (by decide) ?_
      exact V.locs (L' := [some (.ref 0), some (.int p1), some (.int p2), some (.int (x3 + (v3 - v2))), some (.int p4), some (.int (x5 + 1)), none]) ⟨rfl, ⟨rfl, ⟨rfl, ⟨rfl, ⟨rfl, ⟨rfl, trivial⟩⟩⟩⟩⟩⟩ (ih hf hx)
def s_X6_loosenedByNext (a1 : Int32) (a2 : Int32) (State_cells : Nat → Int32) : Option (Int32) := (s_X7_knots a1 a2 State_cells).bind fun v1 => (s_X6_loosenedByNext_L13 a1 a2 v1 State_cells gF 0 0).bind fun r4 => some r4.1
set_option maxHeartbeats 4000000 in
set_option maxRecDepth 100000 in
theorem ct_X6_loosenedByNext {a1 : Int32} {a2 : Int32} {State_cells : Nat → Int32} {res : Int32} (hf : s_X6_loosenedByNext a1 a2 State_cells = some res) : Ct k_X6_loosenedByNext [.ref 0, .int a1, .int a2] [.inl (3, [.ref 1]), .inr (910, .inl State_cells)] (.inl (some (.int res))) [.inl (3, [.ref 1]), .inr (910, .inl State_cells)] := by
  unfold s_X6_loosenedByNext at hf
  refine Ct.of (L := [some (.ref 0), some (.int a1), some (.int a2), none, none, none, none]) cal_X6_loosenedByNext (fent_pad (j := 4) rfl) (Nat.le_of_ble_eq_true rfl) ?_
  refine V.iconst (v := 0) dX6_loosenedByNext_0 rfl ?_
  refine V.istore_n (i := 3) (L' := [some (.ref 0), some (.int a1), some (.int a2), some (.int 0), none, none, none]) dX6_loosenedByNext_1 rfl (Nat.le_of_ble_eq_true rfl) rfl rfl ?_
  refine V.aload_n (i := 0) dX6_loosenedByNext_2 rfl rfl ?_
  refine V.iload_n (i := 1) dX6_loosenedByNext_3 rfl rfl ?_
  refine V.iload_n (i := 2) dX6_loosenedByNext_4 rfl rfl ?_
  obtain ⟨v1, hv1, hf⟩ := fbind hf
  refine V.callVn (pl := [0, 1]) (σ' := [.inl (3, [.ref 1]), .inr (910, .inl State_cells)]) (st2 := [.int v1]) (cl2 := 0) (sl2 := 0) (ct_X7_knots (a1 := a1) (a2 := a2) (State_cells := State_cells) hv1) dX6_loosenedByNext_5 w304 ⟨w150, w151⟩ cal_X7_knots rfl ⟨⟨Nat.le_of_ble_eq_true rfl, Nat.le_of_ble_eq_true rfl⟩, Nat.le_of_ble_eq_true rfl, Nat.le_of_ble_eq_true rfl⟩ (Nat.le_of_ble_eq_true rfl) ⟨_, _, _, _, rfl, rfl⟩ rfl ⟨rfl, ⟨by decide, by decide⟩, rfl, (fr_cons (Or.inl (Nat.le_of_ble_eq_true rfl)) (fr_nil)), rfl⟩ fr_i rfl rfl rfl rfl ?_
  refine V.istore (i := 4) (L' := [some (.ref 0), some (.int a1), some (.int a2), some (.int 0), some (.int v1), none, none]) dX6_loosenedByNext_8 (Nat.le_of_ble_eq_true rfl) rfl rfl ?_
  refine V.iconst (v := 0) dX6_loosenedByNext_10 rfl ?_
  refine V.istore (i := 5) (L' := [some (.ref 0), some (.int a1), some (.int a2), some (.int 0), some (.int v1), some (.int 0), none]) dX6_loosenedByNext_11 (Nat.le_of_ble_eq_true rfl) rfl rfl ?_
  obtain ⟨r4, hr4, hf⟩ := fbind hf
  refine v_X6_loosenedByNext_L13 gF hr4 ?_
  refine V.iload_n (i := 3) dX6_loosenedByNext_51 rfl rfl ?_
  obtain rfl := Option.some.inj hf
  exact V.iret dX6_loosenedByNext_52 rfl (Nat.le_of_ble_eq_true rfl) (Nat.le_of_ble_eq_true rfl) rfl
def k_X6_ofNextStorm : fK := (yX6_ofNextStorm, cX6_ofNextStorm, 8, (some .int), [], (3, 77), (0, 0), (0, 0))
theorem cal_X6_ofNextStorm : fCal k_X6_ofNextStorm 3 := ⟨⟨wc398, w19⟩, ⟨by decide +kernel, by decide +kernel⟩, by decide +kernel, by decide +kernel⟩
def s_X6_ofNextStorm_L22 (p1 : Int32) (p5 : Int32) (p6 : Int32) (State_cells : Nat → Int32) : Nat → Int32 → Int32 → Int32 → Option (Int32 × Int32 × Int32)
  | 0, _, _, _ => none
  | n + 1, x3, x4, x7 => if (p6 ≤ x7 : Prop) then (some (x3, x4, x7)) else ((s_X6_unreadableBehind p1 x7 1 State_cells).bind fun v3 => if (v3 ≤ p5 : Prop) then ((s_X6_loosenedByNext p1 x7 State_cells).bind fun v4 => s_X6_ofNextStorm_L22 p1 p5 p6 State_cells n (x3 + 0) (x4 + v4) (x7 + 1)) else ((s_X6_loosenedByNext p1 x7 State_cells).bind fun v5 => s_X6_ofNextStorm_L22 p1 p5 p6 State_cells n (x3 + 1) (x4 + v5) (x7 + 1)))
set_option maxHeartbeats 4000000 in
set_option maxRecDepth 100000 in
theorem v_X6_ofNextStorm_L22 {out : fO} {σ' : List fE} {p1 : Int32} {p2 : Int32} {p5 : Int32} {p6 : Int32} {State_cells : Nat → Int32} : ∀ (n : Nat) {x3 : Int32} {x4 : Int32} {x7 : Int32} {res : Int32 × Int32 × Int32} (hf : s_X6_ofNextStorm_L22 p1 p5 p6 State_cells n x3 x4 x7 = some res) (hx : V (fXm 2 k_X6_ofNextStorm out σ') (krm k_X6_ofNextStorm) k_X6_ofNextStorm 2 68 [some (.ref 0), some (.int p1), some (.int p2), some (.int res.1), some (.int res.2.1), some (.int p5), some (.int p6), some (.int res.2.2)] [] [.inl (3, [.ref 1]), .inr (910, .inl State_cells)] 0 0), V (fXm 2 k_X6_ofNextStorm out σ') (krm k_X6_ofNextStorm) k_X6_ofNextStorm 2 22 [some (.ref 0), some (.int p1), some (.int p2), some (.int x3), some (.int x4), some (.int p5), some (.int p6), some (.int x7)] [] [.inl (3, [.ref 1]), .inr (910, .inl State_cells)] 0 0 := by
  intro n
  induction n with
  | zero =>
    intro x3 x4 x7 res hf hx
    rw [s_X6_ofNextStorm_L22] at hf
    cases hf
  | succ n ih =>
    intro x3 x4 x7 res hf hx
    rw [s_X6_ofNextStorm_L22] at hf
    refine V.iload (i := 7) dX6_ofNextStorm_22 rfl ?_
    refine V.iload (i := 6) dX6_ofNextStorm_24 rfl ?_
    refine V.icmp_ge (tgt := 68) dX6_ofNextStorm_26 (by decide) (fun h => ?_) (fun h => ?_)
    · have hf := fif_t h hf
      obtain rfl := Option.some.inj hf
      exact hx
    · have hf := fif_f h hf
      refine V.iload_n (i := 3) dX6_ofNextStorm_29 rfl rfl ?_
      refine V.aload_n (i := 0) dX6_ofNextStorm_30 rfl rfl ?_
      refine V.iload_n (i := 1) dX6_ofNextStorm_31 rfl rfl ?_
      refine V.iload (i := 7) dX6_ofNextStorm_32 rfl ?_
      refine V.iconst (v := 1) dX6_ofNextStorm_34 rfl ?_
      obtain ⟨v3, hv3, hf⟩ := fbind hf
      refine V.callSn (pl := [0, 1]) (σ' := [.inl (3, [.ref 1]), .inr (910, .inl State_cells)]) (st2 := [.int v3, .int x3]) (cl2 := 0) (sl2 := 0) (ct_X6_unreadableBehind (a1 := p1) (a2 := x7) (a3 := 1) (State_cells := State_cells) hv3) dX6_ofNextStorm_35 w316 w302 cal_X6_unreadableBehind ⟨⟨Nat.le_of_ble_eq_true rfl, Nat.le_of_ble_eq_true rfl⟩, Nat.le_of_ble_eq_true rfl, Nat.le_of_ble_eq_true rfl⟩ (Nat.le_of_ble_eq_true rfl) rfl ⟨rfl, ⟨by decide, by decide⟩, rfl, (fr_cons (Or.inl (Nat.le_of_ble_eq_true rfl)) (fr_nil)), rfl⟩ fr_i rfl rfl rfl rfl ?_
      refine V.iload (i := 5) dX6_ofNextStorm_38 rfl ?_
      refine V.icmp_le (tgt := 47) dX6_ofNextStorm_40 (by decide) (fun h => ?_) (fun h => ?_)
      · have hf := fif_t h hf
        refine V.iconst (v := 0) dX6_ofNextStorm_47 rfl ?_
        refine V.iadd dX6_ofNextStorm_48 ?_
        refine V.istore_n (i := 3) (L' := [some (.ref 0), some (.int p1), some (.int p2), some (.int (x3 + 0)), some (.int x4), some (.int p5), some (.int p6), some (.int x7)]) dX6_ofNextStorm_49 rfl (Nat.le_of_ble_eq_true rfl) rfl rfl ?_
        refine V.iload (i := 4) dX6_ofNextStorm_50 rfl ?_
        refine V.aload_n (i := 0) dX6_ofNextStorm_52 rfl rfl ?_
        refine V.iload_n (i := 1) dX6_ofNextStorm_53 rfl rfl ?_
        refine V.iload (i := 7) dX6_ofNextStorm_54 rfl ?_
        obtain ⟨v4, hv4, hf⟩ := fbind hf
        refine V.callSn (pl := [0, 1]) (σ' := [.inl (3, [.ref 1]), .inr (910, .inl State_cells)]) (st2 := [.int v4, .int x4]) (cl2 := 0) (sl2 := 0) (ct_X6_loosenedByNext (a1 := p1) (a2 := x7) (State_cells := State_cells) hv4) dX6_ofNextStorm_56 w400 w401 cal_X6_loosenedByNext ⟨⟨Nat.le_of_ble_eq_true rfl, Nat.le_of_ble_eq_true rfl⟩, Nat.le_of_ble_eq_true rfl, Nat.le_of_ble_eq_true rfl⟩ (Nat.le_of_ble_eq_true rfl) rfl ⟨rfl, ⟨by decide, by decide⟩, rfl, (fr_cons (Or.inl (Nat.le_of_ble_eq_true rfl)) (fr_nil)), rfl⟩ fr_i rfl rfl rfl rfl ?_
        refine V.iadd dX6_ofNextStorm_59 ?_
        refine V.istore (i := 4) (L' := [some (.ref 0), some (.int p1), some (.int p2), some (.int (x3 + 0)), some (.int (x4 + v4)), some (.int p5), some (.int p6), some (.int x7)]) dX6_ofNextStorm_60 (Nat.le_of_ble_eq_true rfl) rfl rfl ?_
        refine V.iinc (i := 7) (v := (x7 + 1)) (L' := [some (.ref 0), some (.int p1), some (.int p2), some (.int (x3 + 0)), some (.int (x4 + v4)), some (.int p5), some (.int p6), some (.int (x7 + 1))]) dX6_ofNextStorm_62 rfl rfl (Nat.le_of_ble_eq_true rfl) rfl rfl ?_
        refine V.goto (tgt := 22) dX6_ofNextStorm_65 (by decide) ?_
        exact ih hf hx
      · have hf := fif_f h hf
        refine V.iconst (v := 1) dX6_ofNextStorm_43 rfl ?_
        refine V.goto (tgt := 48) dX6_ofNextStorm_44 (by decide) ?_
        refine V.iadd dX6_ofNextStorm_48 ?_
        refine V.istore_n (i := 3) (L' := [some (.ref 0), some (.int p1), some (.int p2), some (.int (x3 + 1)), some (.int x4), some (.int p5), some (.int p6), some (.int x7)]) dX6_ofNextStorm_49 rfl (Nat.le_of_ble_eq_true rfl) rfl rfl ?_
        refine V.iload (i := 4) dX6_ofNextStorm_50 rfl ?_
        refine V.aload_n (i := 0) dX6_ofNextStorm_52 rfl rfl ?_
        refine V.iload_n (i := 1) dX6_ofNextStorm_53 rfl rfl ?_
        refine V.iload (i := 7) dX6_ofNextStorm_54 rfl ?_
        obtain ⟨v5, hv5, hf⟩ := fbind hf
        refine V.callSn (pl := [0, 1]) (σ' := [.inl (3, [.ref 1]), .inr (910, .inl State_cells)]) (st2 := [.int v5, .int x4]) (cl2 := 0) (sl2 := 0) (ct_X6_loosenedByNext (a1 := p1) (a2 := x7) (State_cells := State_cells) hv5) dX6_ofNextStorm_56 w400 w401 cal_X6_loosenedByNext ⟨⟨Nat.le_of_ble_eq_true rfl, Nat.le_of_ble_eq_true rfl⟩, Nat.le_of_ble_eq_true rfl, Nat.le_of_ble_eq_true rfl⟩ (Nat.le_of_ble_eq_true rfl) rfl ⟨rfl, ⟨by decide, by decide⟩, rfl, (fr_cons (Or.inl (Nat.le_of_ble_eq_true rfl)) (fr_nil)), rfl⟩ fr_i rfl rfl rfl rfl ?_
        refine V.iadd dX6_ofNextStorm_59 ?_
        refine V.istore (i := 4) (L' := [some (.ref 0), some (.int p1), some (.int p2), some (.int (x3 + 1)), some (.int (x4 + v5)), some (.int p5), some (.int p6), some (.int x7)]) dX6_ofNextStorm_60 (Nat.le_of_ble_eq_true rfl) rfl rfl ?_
        refine V.iinc (i := 7) (v := (x7 + 1)) (L' := [some (.ref 0), some (.int p1), some (.int p2), some (.int (x3 + 1)), some (.int (x4 + v5)), some (.int p5), some (.int p6), some (.int (x7 + 1))]) dX6_ofNextStorm_62 rfl rfl (Nat.le_of_ble_eq_true rfl) rfl rfl ?_
        refine V.goto (tgt := 22) dX6_ofNextStorm_65 (by decide) ?_
        exact ih hf hx
def s_X6_ofNextStorm (a1 : Int32) (a2 : Int32) (State_cells : Nat → Int32) : Option (Int32) := (s_X7_at 2 State_cells).bind fun v1 => (s_X7_names a1 State_cells).bind fun v2 => (s_X6_ofNextStorm_L22 a1 v1 v2 State_cells gF 0 0 0).bind fun r6 => if (a2 = 0 : Prop) then (some r6.1) else (some r6.2.1)
set_option maxHeartbeats 4000000 in
set_option maxRecDepth 100000 in
theorem ct_X6_ofNextStorm {a1 : Int32} {a2 : Int32} {State_cells : Nat → Int32} {res : Int32} (hf : s_X6_ofNextStorm a1 a2 State_cells = some res) : Ct k_X6_ofNextStorm [.ref 0, .int a1, .int a2] [.inl (3, [.ref 1]), .inr (910, .inl State_cells)] (.inl (some (.int res))) [.inl (3, [.ref 1]), .inr (910, .inl State_cells)] := by
  unfold s_X6_ofNextStorm at hf
  refine Ct.of (L := [some (.ref 0), some (.int a1), some (.int a2), none, none, none, none, none]) cal_X6_ofNextStorm (fent_pad (j := 5) rfl) (Nat.le_of_ble_eq_true rfl) ?_
  refine V.iconst (v := 0) dX6_ofNextStorm_0 rfl ?_
  refine V.istore_n (i := 3) (L' := [some (.ref 0), some (.int a1), some (.int a2), some (.int 0), none, none, none, none]) dX6_ofNextStorm_1 rfl (Nat.le_of_ble_eq_true rfl) rfl rfl ?_
  refine V.iconst (v := 0) dX6_ofNextStorm_2 rfl ?_
  refine V.istore (i := 4) (L' := [some (.ref 0), some (.int a1), some (.int a2), some (.int 0), some (.int 0), none, none, none]) dX6_ofNextStorm_3 (Nat.le_of_ble_eq_true rfl) rfl rfl ?_
  refine V.aload_n (i := 0) dX6_ofNextStorm_5 rfl rfl ?_
  refine V.iconst (v := 2) dX6_ofNextStorm_6 rfl ?_
  obtain ⟨v1, hv1, hf⟩ := fbind hf
  refine V.callVn (pl := [0, 1]) (σ' := [.inl (3, [.ref 1]), .inr (910, .inl State_cells)]) (st2 := [.int v1]) (cl2 := 0) (sl2 := 0) (ct_X7_at (a1 := 2) (State_cells := State_cells) hv1) dX6_ofNextStorm_7 w309 ⟨w143, w144⟩ cal_X7_at rfl ⟨⟨Nat.le_of_ble_eq_true rfl, Nat.le_of_ble_eq_true rfl⟩, Nat.le_of_ble_eq_true rfl, Nat.le_of_ble_eq_true rfl⟩ (Nat.le_of_ble_eq_true rfl) ⟨_, _, _, _, rfl, rfl⟩ rfl ⟨rfl, ⟨by decide, by decide⟩, rfl, (fr_cons (Or.inl (Nat.le_of_ble_eq_true rfl)) (fr_nil)), rfl⟩ fr_i rfl rfl rfl rfl ?_
  refine V.istore (i := 5) (L' := [some (.ref 0), some (.int a1), some (.int a2), some (.int 0), some (.int 0), some (.int v1), none, none]) dX6_ofNextStorm_10 (Nat.le_of_ble_eq_true rfl) rfl rfl ?_
  refine V.aload_n (i := 0) dX6_ofNextStorm_12 rfl rfl ?_
  refine V.iload_n (i := 1) dX6_ofNextStorm_13 rfl rfl ?_
  obtain ⟨v2, hv2, hf⟩ := fbind hf
  refine V.callVn (pl := [0, 1]) (σ' := [.inl (3, [.ref 1]), .inr (910, .inl State_cells)]) (st2 := [.int v2]) (cl2 := 0) (sl2 := 0) (ct_X7_names (a1 := a1) (State_cells := State_cells) hv2) dX6_ofNextStorm_14 w399 ⟨w139, w140⟩ cal_X7_names rfl ⟨⟨Nat.le_of_ble_eq_true rfl, Nat.le_of_ble_eq_true rfl⟩, Nat.le_of_ble_eq_true rfl, Nat.le_of_ble_eq_true rfl⟩ (Nat.le_of_ble_eq_true rfl) ⟨_, _, _, _, rfl, rfl⟩ rfl ⟨rfl, ⟨by decide, by decide⟩, rfl, (fr_cons (Or.inl (Nat.le_of_ble_eq_true rfl)) (fr_nil)), rfl⟩ fr_i rfl rfl rfl rfl ?_
  refine V.istore (i := 6) (L' := [some (.ref 0), some (.int a1), some (.int a2), some (.int 0), some (.int 0), some (.int v1), some (.int v2), none]) dX6_ofNextStorm_17 (Nat.le_of_ble_eq_true rfl) rfl rfl ?_
  refine V.iconst (v := 0) dX6_ofNextStorm_19 rfl ?_
  refine V.istore (i := 7) (L' := [some (.ref 0), some (.int a1), some (.int a2), some (.int 0), some (.int 0), some (.int v1), some (.int v2), some (.int 0)]) dX6_ofNextStorm_20 (Nat.le_of_ble_eq_true rfl) rfl rfl ?_
  obtain ⟨r6, hr6, hf⟩ := fbind hf
  refine v_X6_ofNextStorm_L22 gF hr6 ?_
  refine V.iload_n (i := 2) dX6_ofNextStorm_68 rfl rfl ?_
  refine V.if_ne (tgt := 76) dX6_ofNextStorm_69 (by decide) (fun h => ?_) (fun h => ?_)
  · have hf := fif_f h hf
    refine V.iload (i := 4) dX6_ofNextStorm_76 rfl ?_
    obtain rfl := Option.some.inj hf
    exact V.iret dX6_ofNextStorm_78 rfl (Nat.le_of_ble_eq_true rfl) (Nat.le_of_ble_eq_true rfl) rfl
  · have hf := fif_t h hf
    refine V.iload_n (i := 3) dX6_ofNextStorm_72 rfl rfl ?_
    refine V.goto (tgt := 78) dX6_ofNextStorm_73 (by decide) ?_
    obtain rfl := Option.some.inj hf
    exact V.iret dX6_ofNextStorm_78 rfl (Nat.le_of_ble_eq_true rfl) (Nat.le_of_ble_eq_true rfl) rfl
def k_X6_loosen : fK := (yX6_loosen, cX6_loosen, 6, none, [], (2, 51), (0, 0), (0, 0))
theorem cal_X6_loosen : fCal k_X6_loosen 3 := ⟨⟨wc599, w19⟩, ⟨by decide +kernel, by decide +kernel⟩, by decide +kernel, by decide +kernel⟩
def s_X6_loosen_L10 (p1 : Int32) (p2 : Int32) (p3 : Int32) : Nat → Int32 → (Nat → Int32) → Option (Int32 × (Nat → Int32))
  | 0, _, _ => none
  | n + 1, x4, State_cells => if (p3 ≤ x4 : Prop) then (some (x4, State_cells)) else ((s_X6_loosenedBehind p1 p2 x4 1 State_cells).bind fun v2 => (s_X7_knotCell p1 p2 x4).bind fun v3 => (s_X7_put (v3 + 1) v2 State_cells).bind fun v4 => s_X6_loosen_L10 p1 p2 p3 n (x4 + 1) v4)
set_option maxHeartbeats 4000000 in
set_option maxRecDepth 100000 in
theorem v_X6_loosen_L10 {out : fO} {σ' : List fE} {p1 : Int32} {p2 : Int32} {p3 : Int32} : ∀ (n : Nat) {x4 : Int32} {State_cells : (Nat → Int32)} {res : Int32 × (Nat → Int32)} (hf : s_X6_loosen_L10 p1 p2 p3 n x4 State_cells = some res) (hx : V (fXm 2 k_X6_loosen out σ') (krm k_X6_loosen) k_X6_loosen 2 48 [some (.ref 0), some (.int p1), some (.int p2), some (.int p3), some (.int res.1), none] [] [.inl (3, [.ref 1]), .inr (910, .inl res.2)] 0 0), V (fXm 2 k_X6_loosen out σ') (krm k_X6_loosen) k_X6_loosen 2 10 [some (.ref 0), some (.int p1), some (.int p2), some (.int p3), some (.int x4), none] [] [.inl (3, [.ref 1]), .inr (910, .inl State_cells)] 0 0 := by
  intro n
  induction n with
  | zero =>
    intro x4 State_cells res hf hx
    rw [s_X6_loosen_L10] at hf
    cases hf
  | succ n ih =>
    intro x4 State_cells res hf hx
    rw [s_X6_loosen_L10] at hf
    refine V.iload (i := 4) dX6_loosen_10 rfl ?_
    refine V.iload_n (i := 3) dX6_loosen_12 rfl rfl ?_
    refine V.icmp_ge (tgt := 48) dX6_loosen_13 (by decide) (fun h => ?_) (fun h => ?_)
    · have hf := fif_t h hf
      obtain rfl := Option.some.inj hf
      exact hx
    · have hf := fif_f h hf
      refine V.aload_n (i := 0) dX6_loosen_16 rfl rfl ?_
      refine V.iload_n (i := 1) dX6_loosen_17 rfl rfl ?_
      refine V.iload_n (i := 2) dX6_loosen_18 rfl rfl ?_
      refine V.iload (i := 4) dX6_loosen_19 rfl ?_
      refine V.iconst (v := 1) dX6_loosen_21 rfl ?_
      obtain ⟨v2, hv2, hf⟩ := fbind hf
      refine V.callSn (pl := [0, 1]) (σ' := [.inl (3, [.ref 1]), .inr (910, .inl State_cells)]) (st2 := [.int v2]) (cl2 := 0) (sl2 := 0) (ct_X6_loosenedBehind (a1 := p1) (a2 := p2) (a3 := x4) (a4 := 1) (State_cells := State_cells) hv2) dX6_loosen_22 w305 w306 cal_X6_loosenedBehind ⟨⟨Nat.le_of_ble_eq_true rfl, Nat.le_of_ble_eq_true rfl⟩, Nat.le_of_ble_eq_true rfl, Nat.le_of_ble_eq_true rfl⟩ (Nat.le_of_ble_eq_true rfl) rfl ⟨rfl, ⟨by decide, by decide⟩, rfl, (fr_cons (Or.inl (Nat.le_of_ble_eq_true rfl)) (fr_nil)), rfl⟩ fr_i rfl rfl rfl rfl ?_
      refine V.istore (i := 5) (L' := [some (.ref 0), some (.int p1), some (.int p2), some (.int p3), some (.int x4), some (.int v2)]) dX6_loosen_25 (Nat.le_of_ble_eq_true rfl) rfl rfl ?_
      refine V.aload_n (i := 0) dX6_loosen_27 rfl rfl ?_
      refine V.iload_n (i := 1) dX6_loosen_28 rfl rfl ?_
      refine V.iload_n (i := 2) dX6_loosen_29 rfl rfl ?_
      refine V.iload (i := 4) dX6_loosen_30 rfl ?_
      obtain ⟨v3, hv3, hf⟩ := fbind hf
      refine V.callSn (pl := []) (σ' := [.inl (3, [.ref 1]), .inr (910, .inl State_cells)]) (st2 := [.int v3, .ref 0]) (cl2 := 0) (sl2 := 0) (ct_X7_knotCell (a0 := p1) (a1 := p2) (a2 := x4) hv3) dX6_loosen_32 w308 w157 cal_X7_knotCell ⟨⟨Nat.le_of_ble_eq_true rfl, Nat.le_of_ble_eq_true rfl⟩, Nat.le_of_ble_eq_true rfl, Nat.le_of_ble_eq_true rfl⟩ (Nat.le_of_ble_eq_true rfl) rfl ⟨rfl, ⟨by decide, by decide⟩, rfl, (fr_nil), rfl⟩ fr_i rfl rfl rfl rfl ?_
      refine V.iconst (v := 1) dX6_loosen_35 rfl ?_
      refine V.iadd dX6_loosen_36 ?_
      refine V.iload (i := 5) dX6_loosen_37 rfl ?_
      obtain ⟨v4, hv4, hf⟩ := fbind hf
      refine V.callVn (pl := [0, 1]) (σ' := [.inl (3, [.ref 1]), .inr (910, .inl v4)]) (st2 := []) (cl2 := 0) (sl2 := 0) (ct_X7_put (a1 := (v3 + 1)) (a2 := v2) (State_cells := State_cells) hv4) dX6_loosen_39 w600 ⟨w38, w39⟩ cal_X7_put rfl ⟨⟨Nat.le_of_ble_eq_true rfl, Nat.le_of_ble_eq_true rfl⟩, Nat.le_of_ble_eq_true rfl, Nat.le_of_ble_eq_true rfl⟩ (Nat.le_of_ble_eq_true rfl) ⟨_, _, _, _, rfl, rfl⟩ rfl ⟨rfl, ⟨by decide, by decide⟩, rfl, (fr_cons (Or.inl (Nat.le_of_ble_eq_true rfl)) (fr_nil)), rfl⟩ fr_v rfl rfl rfl rfl ?_
      refine V.iinc (i := 4) (v := (x4 + 1)) (L' := [some (.ref 0), some (.int p1), some (.int p2), some (.int p3), some (.int (x4 + 1)), some (.int v2)]) dX6_loosen_42 rfl rfl (Nat.le_of_ble_eq_true rfl) rfl rfl ?_
      refine V.goto (tgt := 10) dX6_loosen_45 (by decide) ?_
      exact V.locs (L' := [some (.ref 0), some (.int p1), some (.int p2), some (.int p3), some (.int (x4 + 1)), none]) ⟨rfl, ⟨rfl, ⟨rfl, ⟨rfl, ⟨rfl, trivial⟩⟩⟩⟩⟩ (ih hf hx)
def s_X6_loosen (a1 : Int32) (a2 : Int32) (State_cells : Nat → Int32) : Option ((Nat → Int32)) := (s_X7_knots a1 a2 State_cells).bind fun v1 => (s_X6_loosen_L10 a1 a2 v1 gF 0 State_cells).bind fun r5 => some r5.2
set_option maxHeartbeats 4000000 in
set_option maxRecDepth 100000 in
theorem ct_X6_loosen {a1 : Int32} {a2 : Int32} {State_cells : Nat → Int32} {res : (Nat → Int32)} (hf : s_X6_loosen a1 a2 State_cells = some res) : Ct k_X6_loosen [.ref 0, .int a1, .int a2] [.inl (3, [.ref 1]), .inr (910, .inl State_cells)] (.inl none) [.inl (3, [.ref 1]), .inr (910, .inl res)] := by
  unfold s_X6_loosen at hf
  refine Ct.of (L := [some (.ref 0), some (.int a1), some (.int a2), none, none, none]) cal_X6_loosen (fent_pad (j := 3) rfl) (Nat.le_of_ble_eq_true rfl) ?_
  refine V.aload_n (i := 0) dX6_loosen_0 rfl rfl ?_
  refine V.iload_n (i := 1) dX6_loosen_1 rfl rfl ?_
  refine V.iload_n (i := 2) dX6_loosen_2 rfl rfl ?_
  obtain ⟨v1, hv1, hf⟩ := fbind hf
  refine V.callVn (pl := [0, 1]) (σ' := [.inl (3, [.ref 1]), .inr (910, .inl State_cells)]) (st2 := [.int v1]) (cl2 := 0) (sl2 := 0) (ct_X7_knots (a1 := a1) (a2 := a2) (State_cells := State_cells) hv1) dX6_loosen_3 w304 ⟨w150, w151⟩ cal_X7_knots rfl ⟨⟨Nat.le_of_ble_eq_true rfl, Nat.le_of_ble_eq_true rfl⟩, Nat.le_of_ble_eq_true rfl, Nat.le_of_ble_eq_true rfl⟩ (Nat.le_of_ble_eq_true rfl) ⟨_, _, _, _, rfl, rfl⟩ rfl ⟨rfl, ⟨by decide, by decide⟩, rfl, (fr_cons (Or.inl (Nat.le_of_ble_eq_true rfl)) (fr_nil)), rfl⟩ fr_i rfl rfl rfl rfl ?_
  refine V.istore_n (i := 3) (L' := [some (.ref 0), some (.int a1), some (.int a2), some (.int v1), none, none]) dX6_loosen_6 rfl (Nat.le_of_ble_eq_true rfl) rfl rfl ?_
  refine V.iconst (v := 0) dX6_loosen_7 rfl ?_
  refine V.istore (i := 4) (L' := [some (.ref 0), some (.int a1), some (.int a2), some (.int v1), some (.int 0), none]) dX6_loosen_8 (Nat.le_of_ble_eq_true rfl) rfl rfl ?_
  obtain ⟨r5, hr5, hf⟩ := fbind hf
  refine v_X6_loosen_L10 gF hr5 ?_
  obtain rfl := Option.some.inj hf
  exact V.vret dX6_loosen_48 rfl (Nat.le_of_ble_eq_true rfl) (Nat.le_of_ble_eq_true rfl) rfl
def k_X6_enter : fK := (yX6_enter, cX6_enter, 7, none, [], (2, 46), (0, 0), (0, 0))
theorem cal_X6_enter : fCal k_X6_enter 3 := ⟨⟨wc607, w19⟩, ⟨by decide +kernel, by decide +kernel⟩, by decide +kernel, by decide +kernel⟩
def s_X6_enter_L88 (p1 : Int32) (p2 : Int32) (p3 : Int32) (p4 : Int32) : Nat → Int32 → (Nat → Int32) → Option (Int32 × (Nat → Int32))
  | 0, _, _ => none
  | n + 1, x5, State_cells => if (p4 ≤ x5 : Prop) then (some (x5, State_cells)) else ((s_X7_knotCell p1 p2 x5).bind fun v9 => (s_X7_at (v9 + 2) State_cells).bind fun v10 => (s_X7_put ((p3 + 3) + x5) v10 State_cells).bind fun v11 => s_X6_enter_L88 p1 p2 p3 p4 n (x5 + 1) v11)
set_option maxHeartbeats 4000000 in
set_option maxRecDepth 100000 in
theorem v_X6_enter_L88 {out : fO} {σ' : List fE} {p1 : Int32} {p2 : Int32} {p3 : Int32} {p4 : Int32} : ∀ (n : Nat) {x5 : Int32} {State_cells : (Nat → Int32)} {res : Int32 × (Nat → Int32)} (hf : s_X6_enter_L88 p1 p2 p3 p4 n x5 State_cells = some res) (hx : V (fXm 2 k_X6_enter out σ') (krm k_X6_enter) k_X6_enter 2 128 [some (.ref 0), some (.int p1), some (.int p2), some (.int p3), some (.int p4), some (.int res.1), none] [] [.inl (3, [.ref 1]), .inr (910, .inl res.2)] 0 0), V (fXm 2 k_X6_enter out σ') (krm k_X6_enter) k_X6_enter 2 88 [some (.ref 0), some (.int p1), some (.int p2), some (.int p3), some (.int p4), some (.int x5), none] [] [.inl (3, [.ref 1]), .inr (910, .inl State_cells)] 0 0 := by
  intro n
  induction n with
  | zero =>
    intro x5 State_cells res hf hx
    rw [s_X6_enter_L88] at hf
    cases hf
  | succ n ih =>
    intro x5 State_cells res hf hx
    rw [s_X6_enter_L88] at hf
    refine V.iload (i := 5) dX6_enter_88 rfl ?_
    refine V.iload (i := 4) dX6_enter_90 rfl ?_
    refine V.icmp_ge (tgt := 128) dX6_enter_92 (by decide) (fun h => ?_) (fun h => ?_)
    · have hf := fif_t h hf
      obtain rfl := Option.some.inj hf
      exact hx
    · have hf := fif_f h hf
      refine V.aload_n (i := 0) dX6_enter_95 rfl rfl ?_
      refine V.iload_n (i := 1) dX6_enter_96 rfl rfl ?_
      refine V.iload_n (i := 2) dX6_enter_97 rfl rfl ?_
      refine V.iload (i := 5) dX6_enter_98 rfl ?_
      obtain ⟨v9, hv9, hf⟩ := fbind hf
      refine V.callSn (pl := []) (σ' := [.inl (3, [.ref 1]), .inr (910, .inl State_cells)]) (st2 := [.int v9, .ref 0]) (cl2 := 0) (sl2 := 0) (ct_X7_knotCell (a0 := p1) (a1 := p2) (a2 := x5) hv9) dX6_enter_100 w308 w157 cal_X7_knotCell ⟨⟨Nat.le_of_ble_eq_true rfl, Nat.le_of_ble_eq_true rfl⟩, Nat.le_of_ble_eq_true rfl, Nat.le_of_ble_eq_true rfl⟩ (Nat.le_of_ble_eq_true rfl) rfl ⟨rfl, ⟨by decide, by decide⟩, rfl, (fr_nil), rfl⟩ fr_i rfl rfl rfl rfl ?_
      refine V.iconst (v := 2) dX6_enter_103 rfl ?_
      refine V.iadd dX6_enter_104 ?_
      obtain ⟨v10, hv10, hf⟩ := fbind hf
      refine V.callVn (pl := [0, 1]) (σ' := [.inl (3, [.ref 1]), .inr (910, .inl State_cells)]) (st2 := [.int v10]) (cl2 := 0) (sl2 := 0) (ct_X7_at (a1 := (v9 + 2)) (State_cells := State_cells) hv10) dX6_enter_105 w309 ⟨w143, w144⟩ cal_X7_at rfl ⟨⟨Nat.le_of_ble_eq_true rfl, Nat.le_of_ble_eq_true rfl⟩, Nat.le_of_ble_eq_true rfl, Nat.le_of_ble_eq_true rfl⟩ (Nat.le_of_ble_eq_true rfl) ⟨_, _, _, _, rfl, rfl⟩ rfl ⟨rfl, ⟨by decide, by decide⟩, rfl, (fr_cons (Or.inl (Nat.le_of_ble_eq_true rfl)) (fr_nil)), rfl⟩ fr_i rfl rfl rfl rfl ?_
      refine V.istore (i := 6) (L' := [some (.ref 0), some (.int p1), some (.int p2), some (.int p3), some (.int p4), some (.int x5), some (.int v10)]) dX6_enter_108 (Nat.le_of_ble_eq_true rfl) rfl rfl ?_
      refine V.aload_n (i := 0) dX6_enter_110 rfl rfl ?_
      refine V.iload_n (i := 3) dX6_enter_111 rfl rfl ?_
      refine V.iconst (v := 3) dX6_enter_112 rfl ?_
      refine V.iadd dX6_enter_113 ?_
      refine V.iload (i := 5) dX6_enter_114 rfl ?_
      refine V.iadd dX6_enter_116 ?_
      refine V.iload (i := 6) dX6_enter_117 rfl ?_
      obtain ⟨v11, hv11, hf⟩ := fbind hf
      refine V.callVn (pl := [0, 1]) (σ' := [.inl (3, [.ref 1]), .inr (910, .inl v11)]) (st2 := []) (cl2 := 0) (sl2 := 0) (ct_X7_put (a1 := ((p3 + 3) + x5)) (a2 := v10) (State_cells := State_cells) hv11) dX6_enter_119 w600 ⟨w38, w39⟩ cal_X7_put rfl ⟨⟨Nat.le_of_ble_eq_true rfl, Nat.le_of_ble_eq_true rfl⟩, Nat.le_of_ble_eq_true rfl, Nat.le_of_ble_eq_true rfl⟩ (Nat.le_of_ble_eq_true rfl) ⟨_, _, _, _, rfl, rfl⟩ rfl ⟨rfl, ⟨by decide, by decide⟩, rfl, (fr_cons (Or.inl (Nat.le_of_ble_eq_true rfl)) (fr_nil)), rfl⟩ fr_v rfl rfl rfl rfl ?_
      refine V.iinc (i := 5) (v := (x5 + 1)) (L' := [some (.ref 0), some (.int p1), some (.int p2), some (.int p3), some (.int p4), some (.int (x5 + 1)), some (.int v10)]) dX6_enter_122 rfl rfl (Nat.le_of_ble_eq_true rfl) rfl rfl ?_
      refine V.goto (tgt := 88) dX6_enter_125 (by decide) ?_
      exact V.locs (L' := [some (.ref 0), some (.int p1), some (.int p2), some (.int p3), some (.int p4), some (.int (x5 + 1)), none]) ⟨rfl, ⟨rfl, ⟨rfl, ⟨rfl, ⟨rfl, ⟨rfl, trivial⟩⟩⟩⟩⟩⟩ (ih hf hx)
def s_X6_enter (a1 : Int32) (a2 : Int32) (State_cells : Nat → Int32) : Option ((Nat → Int32)) := (s_X7_at 7 State_cells).bind fun v1 => if (v1 < 12 : Prop) then ((s_X7_at 7 State_cells).bind fun v2 => (s_X7_entryCell v2 0).bind fun v3 => (s_X7_knots a1 a2 State_cells).bind fun v4 => (s_X7_put (v3 + 0) v4 State_cells).bind fun v5 => (s_X7_put (v3 + 1) a1 v5).bind fun v6 => (s_X7_at 0 v6).bind fun v7 => (s_X7_put (v3 + 2) v7 v6).bind fun v8 => (s_X6_enter_L88 a1 a2 v3 v4 gF 0 v8).bind fun r12 => (s_X7_add 7 1 r12.2).bind fun v13 => some v13) else ((s_X7_entryCell 12 0).bind fun v14 => (s_X7_entryCell 0 0).bind fun v15 => (s_X7_closeUp v15 v14 11 State_cells).bind fun v16 => (s_X7_add 7 (-1) v16).bind fun v17 => (s_X7_at 7 v17).bind fun v18 => (s_X7_entryCell v18 0).bind fun v19 => (s_X7_knots a1 a2 v17).bind fun v20 => (s_X7_put (v19 + 0) v20 v17).bind fun v21 => (s_X7_put (v19 + 1) a1 v21).bind fun v22 => (s_X7_at 0 v22).bind fun v23 => (s_X7_put (v19 + 2) v23 v22).bind fun v24 => (s_X6_enter_L88 a1 a2 v19 v20 gF 0 v24).bind fun r25 => (s_X7_add 7 1 r25.2).bind fun v26 => some v26)
set_option maxHeartbeats 4000000 in
set_option maxRecDepth 100000 in
theorem ct_X6_enter {a1 : Int32} {a2 : Int32} {State_cells : Nat → Int32} {res : (Nat → Int32)} (hf : s_X6_enter a1 a2 State_cells = some res) : Ct k_X6_enter [.ref 0, .int a1, .int a2] [.inl (3, [.ref 1]), .inr (910, .inl State_cells)] (.inl none) [.inl (3, [.ref 1]), .inr (910, .inl res)] := by
  unfold s_X6_enter at hf
  refine Ct.of (L := [some (.ref 0), some (.int a1), some (.int a2), none, none, none, none]) cal_X6_enter (fent_pad (j := 4) rfl) (Nat.le_of_ble_eq_true rfl) ?_
  refine V.aload_n (i := 0) dX6_enter_0 rfl rfl ?_
  refine V.bipush (v := 7) dX6_enter_1 rfl ?_
  obtain ⟨v1, hv1, hf⟩ := fbind hf
  refine V.callVn (pl := [0, 1]) (σ' := [.inl (3, [.ref 1]), .inr (910, .inl State_cells)]) (st2 := [.int v1]) (cl2 := 0) (sl2 := 0) (ct_X7_at (a1 := 7) (State_cells := State_cells) hv1) dX6_enter_3 w309 ⟨w143, w144⟩ cal_X7_at rfl ⟨⟨Nat.le_of_ble_eq_true rfl, Nat.le_of_ble_eq_true rfl⟩, Nat.le_of_ble_eq_true rfl, Nat.le_of_ble_eq_true rfl⟩ (Nat.le_of_ble_eq_true rfl) ⟨_, _, _, _, rfl, rfl⟩ rfl ⟨rfl, ⟨by decide, by decide⟩, rfl, (fr_cons (Or.inl (Nat.le_of_ble_eq_true rfl)) (fr_nil)), rfl⟩ fr_i rfl rfl rfl rfl ?_
  refine V.bipush (v := 12) dX6_enter_6 rfl ?_
  refine V.icmp_lt (tgt := 37) dX6_enter_8 (by decide) (fun h => ?_) (fun h => ?_)
  · have hf := fif_t h hf
    refine V.aload_n (i := 0) dX6_enter_37 rfl rfl ?_
    refine V.bipush (v := 7) dX6_enter_38 rfl ?_
    obtain ⟨v2, hv2, hf⟩ := fbind hf
    refine V.callVn (pl := [0, 1]) (σ' := [.inl (3, [.ref 1]), .inr (910, .inl State_cells)]) (st2 := [.int v2]) (cl2 := 0) (sl2 := 0) (ct_X7_at (a1 := 7) (State_cells := State_cells) hv2) dX6_enter_40 w309 ⟨w143, w144⟩ cal_X7_at rfl ⟨⟨Nat.le_of_ble_eq_true rfl, Nat.le_of_ble_eq_true rfl⟩, Nat.le_of_ble_eq_true rfl, Nat.le_of_ble_eq_true rfl⟩ (Nat.le_of_ble_eq_true rfl) ⟨_, _, _, _, rfl, rfl⟩ rfl ⟨rfl, ⟨by decide, by decide⟩, rfl, (fr_cons (Or.inl (Nat.le_of_ble_eq_true rfl)) (fr_nil)), rfl⟩ fr_i rfl rfl rfl rfl ?_
    refine V.iconst (v := 0) dX6_enter_43 rfl ?_
    obtain ⟨v3, hv3, hf⟩ := fbind hf
    refine V.callSn (pl := []) (σ' := [.inl (3, [.ref 1]), .inr (910, .inl State_cells)]) (st2 := [.int v3]) (cl2 := 0) (sl2 := 0) (ct_X7_entryCell (a0 := v2) (a1 := 0) hv3) dX6_enter_44 w444 w445 cal_X7_entryCell ⟨⟨Nat.le_of_ble_eq_true rfl, Nat.le_of_ble_eq_true rfl⟩, Nat.le_of_ble_eq_true rfl, Nat.le_of_ble_eq_true rfl⟩ (Nat.le_of_ble_eq_true rfl) rfl ⟨rfl, ⟨by decide, by decide⟩, rfl, (fr_nil), rfl⟩ fr_i rfl rfl rfl rfl ?_
    refine V.istore_n (i := 3) (L' := [some (.ref 0), some (.int a1), some (.int a2), some (.int v3), none, none, none]) dX6_enter_47 rfl (Nat.le_of_ble_eq_true rfl) rfl rfl ?_
    refine V.aload_n (i := 0) dX6_enter_48 rfl rfl ?_
    refine V.iload_n (i := 1) dX6_enter_49 rfl rfl ?_
    refine V.iload_n (i := 2) dX6_enter_50 rfl rfl ?_
    obtain ⟨v4, hv4, hf⟩ := fbind hf
    refine V.callVn (pl := [0, 1]) (σ' := [.inl (3, [.ref 1]), .inr (910, .inl State_cells)]) (st2 := [.int v4]) (cl2 := 0) (sl2 := 0) (ct_X7_knots (a1 := a1) (a2 := a2) (State_cells := State_cells) hv4) dX6_enter_51 w304 ⟨w150, w151⟩ cal_X7_knots rfl ⟨⟨Nat.le_of_ble_eq_true rfl, Nat.le_of_ble_eq_true rfl⟩, Nat.le_of_ble_eq_true rfl, Nat.le_of_ble_eq_true rfl⟩ (Nat.le_of_ble_eq_true rfl) ⟨_, _, _, _, rfl, rfl⟩ rfl ⟨rfl, ⟨by decide, by decide⟩, rfl, (fr_cons (Or.inl (Nat.le_of_ble_eq_true rfl)) (fr_nil)), rfl⟩ fr_i rfl rfl rfl rfl ?_
    refine V.istore (i := 4) (L' := [some (.ref 0), some (.int a1), some (.int a2), some (.int v3), some (.int v4), none, none]) dX6_enter_54 (Nat.le_of_ble_eq_true rfl) rfl rfl ?_
    refine V.aload_n (i := 0) dX6_enter_56 rfl rfl ?_
    refine V.iload_n (i := 3) dX6_enter_57 rfl rfl ?_
    refine V.iconst (v := 0) dX6_enter_58 rfl ?_
    refine V.iadd dX6_enter_59 ?_
    refine V.iload (i := 4) dX6_enter_60 rfl ?_
    obtain ⟨v5, hv5, hf⟩ := fbind hf
    refine V.callVn (pl := [0, 1]) (σ' := [.inl (3, [.ref 1]), .inr (910, .inl v5)]) (st2 := []) (cl2 := 0) (sl2 := 0) (ct_X7_put (a1 := (v3 + 0)) (a2 := v4) (State_cells := State_cells) hv5) dX6_enter_62 w600 ⟨w38, w39⟩ cal_X7_put rfl ⟨⟨Nat.le_of_ble_eq_true rfl, Nat.le_of_ble_eq_true rfl⟩, Nat.le_of_ble_eq_true rfl, Nat.le_of_ble_eq_true rfl⟩ (Nat.le_of_ble_eq_true rfl) ⟨_, _, _, _, rfl, rfl⟩ rfl ⟨rfl, ⟨by decide, by decide⟩, rfl, (fr_cons (Or.inl (Nat.le_of_ble_eq_true rfl)) (fr_nil)), rfl⟩ fr_v rfl rfl rfl rfl ?_
    refine V.aload_n (i := 0) dX6_enter_65 rfl rfl ?_
    refine V.iload_n (i := 3) dX6_enter_66 rfl rfl ?_
    refine V.iconst (v := 1) dX6_enter_67 rfl ?_
    refine V.iadd dX6_enter_68 ?_
    refine V.iload_n (i := 1) dX6_enter_69 rfl rfl ?_
    obtain ⟨v6, hv6, hf⟩ := fbind hf
    refine V.callVn (pl := [0, 1]) (σ' := [.inl (3, [.ref 1]), .inr (910, .inl v6)]) (st2 := []) (cl2 := 0) (sl2 := 0) (ct_X7_put (a1 := (v3 + 1)) (a2 := a1) (State_cells := v5) hv6) dX6_enter_70 w600 ⟨w38, w39⟩ cal_X7_put rfl ⟨⟨Nat.le_of_ble_eq_true rfl, Nat.le_of_ble_eq_true rfl⟩, Nat.le_of_ble_eq_true rfl, Nat.le_of_ble_eq_true rfl⟩ (Nat.le_of_ble_eq_true rfl) ⟨_, _, _, _, rfl, rfl⟩ rfl ⟨rfl, ⟨by decide, by decide⟩, rfl, (fr_cons (Or.inl (Nat.le_of_ble_eq_true rfl)) (fr_nil)), rfl⟩ fr_v rfl rfl rfl rfl ?_
    refine V.aload_n (i := 0) dX6_enter_73 rfl rfl ?_
    refine V.iload_n (i := 3) dX6_enter_74 rfl rfl ?_
    refine V.iconst (v := 2) dX6_enter_75 rfl ?_
    refine V.iadd dX6_enter_76 ?_
    refine V.aload_n (i := 0) dX6_enter_77 rfl rfl ?_
    refine V.iconst (v := 0) dX6_enter_78 rfl ?_
    obtain ⟨v7, hv7, hf⟩ := fbind hf
    refine V.callVn (pl := [0, 1]) (σ' := [.inl (3, [.ref 1]), .inr (910, .inl v6)]) (st2 := [.int v7, .int (v3 + 2), .ref 0]) (cl2 := 0) (sl2 := 0) (ct_X7_at (a1 := 0) (State_cells := v6) hv7) dX6_enter_79 w309 ⟨w143, w144⟩ cal_X7_at rfl ⟨⟨Nat.le_of_ble_eq_true rfl, Nat.le_of_ble_eq_true rfl⟩, Nat.le_of_ble_eq_true rfl, Nat.le_of_ble_eq_true rfl⟩ (Nat.le_of_ble_eq_true rfl) ⟨_, _, _, _, rfl, rfl⟩ rfl ⟨rfl, ⟨by decide, by decide⟩, rfl, (fr_cons (Or.inl (Nat.le_of_ble_eq_true rfl)) (fr_nil)), rfl⟩ fr_i rfl rfl rfl rfl ?_
    obtain ⟨v8, hv8, hf⟩ := fbind hf
    refine V.callVn (pl := [0, 1]) (σ' := [.inl (3, [.ref 1]), .inr (910, .inl v8)]) (st2 := []) (cl2 := 0) (sl2 := 0) (ct_X7_put (a1 := (v3 + 2)) (a2 := v7) (State_cells := v6) hv8) dX6_enter_82 w600 ⟨w38, w39⟩ cal_X7_put rfl ⟨⟨Nat.le_of_ble_eq_true rfl, Nat.le_of_ble_eq_true rfl⟩, Nat.le_of_ble_eq_true rfl, Nat.le_of_ble_eq_true rfl⟩ (Nat.le_of_ble_eq_true rfl) ⟨_, _, _, _, rfl, rfl⟩ rfl ⟨rfl, ⟨by decide, by decide⟩, rfl, (fr_cons (Or.inl (Nat.le_of_ble_eq_true rfl)) (fr_nil)), rfl⟩ fr_v rfl rfl rfl rfl ?_
    refine V.iconst (v := 0) dX6_enter_85 rfl ?_
    refine V.istore (i := 5) (L' := [some (.ref 0), some (.int a1), some (.int a2), some (.int v3), some (.int v4), some (.int 0), none]) dX6_enter_86 (Nat.le_of_ble_eq_true rfl) rfl rfl ?_
    obtain ⟨r12, hr12, hf⟩ := fbind hf
    refine v_X6_enter_L88 gF hr12 ?_
    refine V.aload_n (i := 0) dX6_enter_128 rfl rfl ?_
    refine V.bipush (v := 7) dX6_enter_129 rfl ?_
    refine V.iconst (v := 1) dX6_enter_131 rfl ?_
    obtain ⟨v13, hv13, hf⟩ := fbind hf
    refine V.callVn (pl := [0, 1]) (σ' := [.inl (3, [.ref 1]), .inr (910, .inl v13)]) (st2 := []) (cl2 := 0) (sl2 := 0) (ct_X7_add (a1 := 7) (a2 := 1) (State_cells := r12.2) hv13) dX6_enter_132 w601 ⟨w570, w571⟩ cal_X7_add rfl ⟨⟨Nat.le_of_ble_eq_true rfl, Nat.le_of_ble_eq_true rfl⟩, Nat.le_of_ble_eq_true rfl, Nat.le_of_ble_eq_true rfl⟩ (Nat.le_of_ble_eq_true rfl) ⟨_, _, _, _, rfl, rfl⟩ rfl ⟨rfl, ⟨by decide, by decide⟩, rfl, (fr_cons (Or.inl (Nat.le_of_ble_eq_true rfl)) (fr_nil)), rfl⟩ fr_v rfl rfl rfl rfl ?_
    obtain rfl := Option.some.inj hf
    exact V.vret dX6_enter_135 rfl (Nat.le_of_ble_eq_true rfl) (Nat.le_of_ble_eq_true rfl) rfl
  · have hf := fif_f h hf
    refine V.bipush (v := 12) dX6_enter_11 rfl ?_
    refine V.iconst (v := 0) dX6_enter_13 rfl ?_
    obtain ⟨v14, hv14, hf⟩ := fbind hf
    refine V.callSn (pl := []) (σ' := [.inl (3, [.ref 1]), .inr (910, .inl State_cells)]) (st2 := [.int v14]) (cl2 := 0) (sl2 := 0) (ct_X7_entryCell (a0 := 12) (a1 := 0) hv14) dX6_enter_14 w444 w445 cal_X7_entryCell ⟨⟨Nat.le_of_ble_eq_true rfl, Nat.le_of_ble_eq_true rfl⟩, Nat.le_of_ble_eq_true rfl, Nat.le_of_ble_eq_true rfl⟩ (Nat.le_of_ble_eq_true rfl) rfl ⟨rfl, ⟨by decide, by decide⟩, rfl, (fr_nil), rfl⟩ fr_i rfl rfl rfl rfl ?_
    refine V.istore_n (i := 3) (L' := [some (.ref 0), some (.int a1), some (.int a2), some (.int v14), none, none, none]) dX6_enter_17 rfl (Nat.le_of_ble_eq_true rfl) rfl rfl ?_
    refine V.aload_n (i := 0) dX6_enter_18 rfl rfl ?_
    refine V.iconst (v := 0) dX6_enter_19 rfl ?_
    refine V.iconst (v := 0) dX6_enter_20 rfl ?_
    obtain ⟨v15, hv15, hf⟩ := fbind hf
    refine V.callSn (pl := []) (σ' := [.inl (3, [.ref 1]), .inr (910, .inl State_cells)]) (st2 := [.int v15, .ref 0]) (cl2 := 0) (sl2 := 0) (ct_X7_entryCell (a0 := 0) (a1 := 0) hv15) dX6_enter_21 w444 w445 cal_X7_entryCell ⟨⟨Nat.le_of_ble_eq_true rfl, Nat.le_of_ble_eq_true rfl⟩, Nat.le_of_ble_eq_true rfl, Nat.le_of_ble_eq_true rfl⟩ (Nat.le_of_ble_eq_true rfl) rfl ⟨rfl, ⟨by decide, by decide⟩, rfl, (fr_nil), rfl⟩ fr_i rfl rfl rfl rfl ?_
    refine V.iload_n (i := 3) dX6_enter_24 rfl rfl ?_
    refine V.bipush (v := 11) dX6_enter_25 rfl ?_
    obtain ⟨v16, hv16, hf⟩ := fbind hf
    refine V.callVn (pl := [0, 1]) (σ' := [.inl (3, [.ref 1]), .inr (910, .inl v16)]) (st2 := []) (cl2 := 0) (sl2 := 0) (ct_X7_closeUp (a1 := v15) (a2 := v14) (a3 := 11) (State_cells := State_cells) hv16) dX6_enter_27 w608 ⟨w609, w610⟩ cal_X7_closeUp rfl ⟨⟨Nat.le_of_ble_eq_true rfl, Nat.le_of_ble_eq_true rfl⟩, Nat.le_of_ble_eq_true rfl, Nat.le_of_ble_eq_true rfl⟩ (Nat.le_of_ble_eq_true rfl) ⟨_, _, _, _, rfl, rfl⟩ rfl ⟨rfl, ⟨by decide, by decide⟩, rfl, (fr_cons (Or.inl (Nat.le_of_ble_eq_true rfl)) (fr_nil)), rfl⟩ fr_v rfl rfl rfl rfl ?_
    refine V.aload_n (i := 0) dX6_enter_30 rfl rfl ?_
    refine V.bipush (v := 7) dX6_enter_31 rfl ?_
    refine V.iconst (v := (-1)) dX6_enter_33 rfl ?_
    obtain ⟨v17, hv17, hf⟩ := fbind hf
    refine V.callVn (pl := [0, 1]) (σ' := [.inl (3, [.ref 1]), .inr (910, .inl v17)]) (st2 := []) (cl2 := 0) (sl2 := 0) (ct_X7_add (a1 := 7) (a2 := (-1)) (State_cells := v16) hv17) dX6_enter_34 w601 ⟨w570, w571⟩ cal_X7_add rfl ⟨⟨Nat.le_of_ble_eq_true rfl, Nat.le_of_ble_eq_true rfl⟩, Nat.le_of_ble_eq_true rfl, Nat.le_of_ble_eq_true rfl⟩ (Nat.le_of_ble_eq_true rfl) ⟨_, _, _, _, rfl, rfl⟩ rfl ⟨rfl, ⟨by decide, by decide⟩, rfl, (fr_cons (Or.inl (Nat.le_of_ble_eq_true rfl)) (fr_nil)), rfl⟩ fr_v rfl rfl rfl rfl ?_
    refine V.aload_n (i := 0) dX6_enter_37 rfl rfl ?_
    refine V.bipush (v := 7) dX6_enter_38 rfl ?_
    obtain ⟨v18, hv18, hf⟩ := fbind hf
    refine V.callVn (pl := [0, 1]) (σ' := [.inl (3, [.ref 1]), .inr (910, .inl v17)]) (st2 := [.int v18]) (cl2 := 0) (sl2 := 0) (ct_X7_at (a1 := 7) (State_cells := v17) hv18) dX6_enter_40 w309 ⟨w143, w144⟩ cal_X7_at rfl ⟨⟨Nat.le_of_ble_eq_true rfl, Nat.le_of_ble_eq_true rfl⟩, Nat.le_of_ble_eq_true rfl, Nat.le_of_ble_eq_true rfl⟩ (Nat.le_of_ble_eq_true rfl) ⟨_, _, _, _, rfl, rfl⟩ rfl ⟨rfl, ⟨by decide, by decide⟩, rfl, (fr_cons (Or.inl (Nat.le_of_ble_eq_true rfl)) (fr_nil)), rfl⟩ fr_i rfl rfl rfl rfl ?_
    refine V.iconst (v := 0) dX6_enter_43 rfl ?_
    obtain ⟨v19, hv19, hf⟩ := fbind hf
    refine V.callSn (pl := []) (σ' := [.inl (3, [.ref 1]), .inr (910, .inl v17)]) (st2 := [.int v19]) (cl2 := 0) (sl2 := 0) (ct_X7_entryCell (a0 := v18) (a1 := 0) hv19) dX6_enter_44 w444 w445 cal_X7_entryCell ⟨⟨Nat.le_of_ble_eq_true rfl, Nat.le_of_ble_eq_true rfl⟩, Nat.le_of_ble_eq_true rfl, Nat.le_of_ble_eq_true rfl⟩ (Nat.le_of_ble_eq_true rfl) rfl ⟨rfl, ⟨by decide, by decide⟩, rfl, (fr_nil), rfl⟩ fr_i rfl rfl rfl rfl ?_
    refine V.istore_n (i := 3) (L' := [some (.ref 0), some (.int a1), some (.int a2), some (.int v19), none, none, none]) dX6_enter_47 rfl (Nat.le_of_ble_eq_true rfl) rfl rfl ?_
    refine V.aload_n (i := 0) dX6_enter_48 rfl rfl ?_
    refine V.iload_n (i := 1) dX6_enter_49 rfl rfl ?_
    refine V.iload_n (i := 2) dX6_enter_50 rfl rfl ?_
    obtain ⟨v20, hv20, hf⟩ := fbind hf
    refine V.callVn (pl := [0, 1]) (σ' := [.inl (3, [.ref 1]), .inr (910, .inl v17)]) (st2 := [.int v20]) (cl2 := 0) (sl2 := 0) (ct_X7_knots (a1 := a1) (a2 := a2) (State_cells := v17) hv20) dX6_enter_51 w304 ⟨w150, w151⟩ cal_X7_knots rfl ⟨⟨Nat.le_of_ble_eq_true rfl, Nat.le_of_ble_eq_true rfl⟩, Nat.le_of_ble_eq_true rfl, Nat.le_of_ble_eq_true rfl⟩ (Nat.le_of_ble_eq_true rfl) ⟨_, _, _, _, rfl, rfl⟩ rfl ⟨rfl, ⟨by decide, by decide⟩, rfl, (fr_cons (Or.inl (Nat.le_of_ble_eq_true rfl)) (fr_nil)), rfl⟩ fr_i rfl rfl rfl rfl ?_
    refine V.istore (i := 4) (L' := [some (.ref 0), some (.int a1), some (.int a2), some (.int v19), some (.int v20), none, none]) dX6_enter_54 (Nat.le_of_ble_eq_true rfl) rfl rfl ?_
    refine V.aload_n (i := 0) dX6_enter_56 rfl rfl ?_
    refine V.iload_n (i := 3) dX6_enter_57 rfl rfl ?_
    refine V.iconst (v := 0) dX6_enter_58 rfl ?_
    refine V.iadd dX6_enter_59 ?_
    refine V.iload (i := 4) dX6_enter_60 rfl ?_
    obtain ⟨v21, hv21, hf⟩ := fbind hf
    refine V.callVn (pl := [0, 1]) (σ' := [.inl (3, [.ref 1]), .inr (910, .inl v21)]) (st2 := []) (cl2 := 0) (sl2 := 0) (ct_X7_put (a1 := (v19 + 0)) (a2 := v20) (State_cells := v17) hv21) dX6_enter_62 w600 ⟨w38, w39⟩ cal_X7_put rfl ⟨⟨Nat.le_of_ble_eq_true rfl, Nat.le_of_ble_eq_true rfl⟩, Nat.le_of_ble_eq_true rfl, Nat.le_of_ble_eq_true rfl⟩ (Nat.le_of_ble_eq_true rfl) ⟨_, _, _, _, rfl, rfl⟩ rfl ⟨rfl, ⟨by decide, by decide⟩, rfl, (fr_cons (Or.inl (Nat.le_of_ble_eq_true rfl)) (fr_nil)), rfl⟩ fr_v rfl rfl rfl rfl ?_
    refine V.aload_n (i := 0) dX6_enter_65 rfl rfl ?_
    refine V.iload_n (i := 3) dX6_enter_66 rfl rfl ?_
    refine V.iconst (v := 1) dX6_enter_67 rfl ?_
    refine V.iadd dX6_enter_68 ?_
    refine V.iload_n (i := 1) dX6_enter_69 rfl rfl ?_
    obtain ⟨v22, hv22, hf⟩ := fbind hf
    refine V.callVn (pl := [0, 1]) (σ' := [.inl (3, [.ref 1]), .inr (910, .inl v22)]) (st2 := []) (cl2 := 0) (sl2 := 0) (ct_X7_put (a1 := (v19 + 1)) (a2 := a1) (State_cells := v21) hv22) dX6_enter_70 w600 ⟨w38, w39⟩ cal_X7_put rfl ⟨⟨Nat.le_of_ble_eq_true rfl, Nat.le_of_ble_eq_true rfl⟩, Nat.le_of_ble_eq_true rfl, Nat.le_of_ble_eq_true rfl⟩ (Nat.le_of_ble_eq_true rfl) ⟨_, _, _, _, rfl, rfl⟩ rfl ⟨rfl, ⟨by decide, by decide⟩, rfl, (fr_cons (Or.inl (Nat.le_of_ble_eq_true rfl)) (fr_nil)), rfl⟩ fr_v rfl rfl rfl rfl ?_
    refine V.aload_n (i := 0) dX6_enter_73 rfl rfl ?_
    refine V.iload_n (i := 3) dX6_enter_74 rfl rfl ?_
    refine V.iconst (v := 2) dX6_enter_75 rfl ?_
    refine V.iadd dX6_enter_76 ?_
    refine V.aload_n (i := 0) dX6_enter_77 rfl rfl ?_
    refine V.iconst (v := 0) dX6_enter_78 rfl ?_
    obtain ⟨v23, hv23, hf⟩ := fbind hf
    refine V.callVn (pl := [0, 1]) (σ' := [.inl (3, [.ref 1]), .inr (910, .inl v22)]) (st2 := [.int v23, .int (v19 + 2), .ref 0]) (cl2 := 0) (sl2 := 0) (ct_X7_at (a1 := 0) (State_cells := v22) hv23) dX6_enter_79 w309 ⟨w143, w144⟩ cal_X7_at rfl ⟨⟨Nat.le_of_ble_eq_true rfl, Nat.le_of_ble_eq_true rfl⟩, Nat.le_of_ble_eq_true rfl, Nat.le_of_ble_eq_true rfl⟩ (Nat.le_of_ble_eq_true rfl) ⟨_, _, _, _, rfl, rfl⟩ rfl ⟨rfl, ⟨by decide, by decide⟩, rfl, (fr_cons (Or.inl (Nat.le_of_ble_eq_true rfl)) (fr_nil)), rfl⟩ fr_i rfl rfl rfl rfl ?_
    obtain ⟨v24, hv24, hf⟩ := fbind hf
    refine V.callVn (pl := [0, 1]) (σ' := [.inl (3, [.ref 1]), .inr (910, .inl v24)]) (st2 := []) (cl2 := 0) (sl2 := 0) (ct_X7_put (a1 := (v19 + 2)) (a2 := v23) (State_cells := v22) hv24) dX6_enter_82 w600 ⟨w38, w39⟩ cal_X7_put rfl ⟨⟨Nat.le_of_ble_eq_true rfl, Nat.le_of_ble_eq_true rfl⟩, Nat.le_of_ble_eq_true rfl, Nat.le_of_ble_eq_true rfl⟩ (Nat.le_of_ble_eq_true rfl) ⟨_, _, _, _, rfl, rfl⟩ rfl ⟨rfl, ⟨by decide, by decide⟩, rfl, (fr_cons (Or.inl (Nat.le_of_ble_eq_true rfl)) (fr_nil)), rfl⟩ fr_v rfl rfl rfl rfl ?_
    refine V.iconst (v := 0) dX6_enter_85 rfl ?_
    refine V.istore (i := 5) (L' := [some (.ref 0), some (.int a1), some (.int a2), some (.int v19), some (.int v20), some (.int 0), none]) dX6_enter_86 (Nat.le_of_ble_eq_true rfl) rfl rfl ?_
    obtain ⟨r25, hr25, hf⟩ := fbind hf
    refine v_X6_enter_L88 gF hr25 ?_
    refine V.aload_n (i := 0) dX6_enter_128 rfl rfl ?_
    refine V.bipush (v := 7) dX6_enter_129 rfl ?_
    refine V.iconst (v := 1) dX6_enter_131 rfl ?_
    obtain ⟨v26, hv26, hf⟩ := fbind hf
    refine V.callVn (pl := [0, 1]) (σ' := [.inl (3, [.ref 1]), .inr (910, .inl v26)]) (st2 := []) (cl2 := 0) (sl2 := 0) (ct_X7_add (a1 := 7) (a2 := 1) (State_cells := r25.2) hv26) dX6_enter_132 w601 ⟨w570, w571⟩ cal_X7_add rfl ⟨⟨Nat.le_of_ble_eq_true rfl, Nat.le_of_ble_eq_true rfl⟩, Nat.le_of_ble_eq_true rfl, Nat.le_of_ble_eq_true rfl⟩ (Nat.le_of_ble_eq_true rfl) ⟨_, _, _, _, rfl, rfl⟩ rfl ⟨rfl, ⟨by decide, by decide⟩, rfl, (fr_cons (Or.inl (Nat.le_of_ble_eq_true rfl)) (fr_nil)), rfl⟩ fr_v rfl rfl rfl rfl ?_
    obtain rfl := Option.some.inj hf
    exact V.vret dX6_enter_135 rfl (Nat.le_of_ble_eq_true rfl) (Nat.le_of_ble_eq_true rfl) rfl
def k_X6_lose : fK := (yX6_lose, cX6_lose, 3, none, [], (3, 73), (0, 0), (0, 0))
theorem cal_X6_lose : fCal k_X6_lose 3 := ⟨⟨wc604, w19⟩, ⟨by decide +kernel, by decide +kernel⟩, by decide +kernel, by decide +kernel⟩
def s_X6_lose (a1 : Int32) (a2 : Int32) (State_cells : Nat → Int32) : Option ((Nat → Int32)) := (s_X6_enter a1 a2 State_cells).bind fun v1 => (s_X4_takeOff a1 a2 v1).bind fun v2 => (s_X7_fisherCell a1 2).bind fun v3 => (s_X7_add v3 1 v2.2).bind fun v4 => some v4
set_option maxHeartbeats 4000000 in
set_option maxRecDepth 100000 in
theorem ct_X6_lose {a1 : Int32} {a2 : Int32} {State_cells : Nat → Int32} {res : (Nat → Int32)} (hf : s_X6_lose a1 a2 State_cells = some res) : Ct k_X6_lose [.ref 0, .int a1, .int a2] [.inl (3, [.ref 1]), .inr (910, .inl State_cells)] (.inl none) [.inl (3, [.ref 1]), .inr (910, .inl res)] := by
  unfold s_X6_lose at hf
  refine Ct.of (L := [some (.ref 0), some (.int a1), some (.int a2)]) cal_X6_lose (fent_pad (j := 0) rfl) (Nat.le_of_ble_eq_true rfl) ?_
  refine V.aload_n (i := 0) dX6_lose_0 rfl rfl ?_
  refine V.iload_n (i := 1) dX6_lose_1 rfl rfl ?_
  refine V.iload_n (i := 2) dX6_lose_2 rfl rfl ?_
  obtain ⟨v1, hv1, hf⟩ := fbind hf
  refine V.callSn (pl := [0, 1]) (σ' := [.inl (3, [.ref 1]), .inr (910, .inl v1)]) (st2 := []) (cl2 := 0) (sl2 := 0) (ct_X6_enter (a1 := a1) (a2 := a2) (State_cells := State_cells) hv1) dX6_lose_3 w605 w606 cal_X6_enter ⟨⟨Nat.le_of_ble_eq_true rfl, Nat.le_of_ble_eq_true rfl⟩, Nat.le_of_ble_eq_true rfl, Nat.le_of_ble_eq_true rfl⟩ (Nat.le_of_ble_eq_true rfl) rfl ⟨rfl, ⟨by decide, by decide⟩, rfl, (fr_cons (Or.inl (Nat.le_of_ble_eq_true rfl)) (fr_nil)), rfl⟩ fr_v rfl rfl rfl rfl ?_
  refine V.aload_n (i := 0) dX6_lose_6 rfl rfl ?_
  refine V.iload_n (i := 1) dX6_lose_7 rfl rfl ?_
  refine V.iload_n (i := 2) dX6_lose_8 rfl rfl ?_
  obtain ⟨v2, hv2, hf⟩ := fbind hf
  refine V.callSn (pl := [0, 1]) (σ' := [.inl (3, [.ref 1]), .inr (910, .inl v2.2)]) (st2 := [.int v2.1]) (cl2 := 0) (sl2 := 0) (ct_X4_takeOff (a1 := a1) (a2 := a2) (State_cells := v1) hv2) dX6_lose_9 w612 w613 cal_X4_takeOff ⟨⟨Nat.le_of_ble_eq_true rfl, Nat.le_of_ble_eq_true rfl⟩, Nat.le_of_ble_eq_true rfl, Nat.le_of_ble_eq_true rfl⟩ (Nat.le_of_ble_eq_true rfl) rfl ⟨rfl, ⟨by decide, by decide⟩, rfl, (fr_cons (Or.inl (Nat.le_of_ble_eq_true rfl)) (fr_nil)), rfl⟩ fr_i rfl rfl rfl rfl ?_
  refine V.pop dX6_lose_12 rfl ?_
  refine V.aload_n (i := 0) dX6_lose_13 rfl rfl ?_
  refine V.iload_n (i := 1) dX6_lose_14 rfl rfl ?_
  refine V.iconst (v := 2) dX6_lose_15 rfl ?_
  obtain ⟨v3, hv3, hf⟩ := fbind hf
  refine V.callSn (pl := []) (σ' := [.inl (3, [.ref 1]), .inr (910, .inl v2.2)]) (st2 := [.int v3, .ref 0]) (cl2 := 0) (sl2 := 0) (ct_X7_fisherCell (a0 := a1) (a1 := 2) hv3) dX6_lose_16 w617 w42 cal_X7_fisherCell ⟨⟨Nat.le_of_ble_eq_true rfl, Nat.le_of_ble_eq_true rfl⟩, Nat.le_of_ble_eq_true rfl, Nat.le_of_ble_eq_true rfl⟩ (Nat.le_of_ble_eq_true rfl) rfl ⟨rfl, ⟨by decide, by decide⟩, rfl, (fr_nil), rfl⟩ fr_i rfl rfl rfl rfl ?_
  refine V.iconst (v := 1) dX6_lose_19 rfl ?_
  obtain ⟨v4, hv4, hf⟩ := fbind hf
  refine V.callVn (pl := [0, 1]) (σ' := [.inl (3, [.ref 1]), .inr (910, .inl v4)]) (st2 := []) (cl2 := 0) (sl2 := 0) (ct_X7_add (a1 := v3) (a2 := 1) (State_cells := v2.2) hv4) dX6_lose_20 w601 ⟨w570, w571⟩ cal_X7_add rfl ⟨⟨Nat.le_of_ble_eq_true rfl, Nat.le_of_ble_eq_true rfl⟩, Nat.le_of_ble_eq_true rfl, Nat.le_of_ble_eq_true rfl⟩ (Nat.le_of_ble_eq_true rfl) ⟨_, _, _, _, rfl, rfl⟩ rfl ⟨rfl, ⟨by decide, by decide⟩, rfl, (fr_cons (Or.inl (Nat.le_of_ble_eq_true rfl)) (fr_nil)), rfl⟩ fr_v rfl rfl rfl rfl ?_
  obtain rfl := Option.some.inj hf
  exact V.vret dX6_lose_23 rfl (Nat.le_of_ble_eq_true rfl) (Nat.le_of_ble_eq_true rfl) rfl
def k_X6_comeOver : fK := (yX6_comeOver, cX6_comeOver, 7, (some .int), [], (4, 95), (0, 0), (0, 0))
theorem cal_X6_comeOver : fCal k_X6_comeOver 2 := ⟨⟨wc596, w19⟩, ⟨by decide +kernel, by decide +kernel⟩, by decide +kernel, by decide +kernel⟩
def s_X6_comeOver_L8 (p1 : Int32) (p2 : Int32) : Nat → Int32 → (Nat → Int32) → Option (Int32 × (Nat → Int32))
  | 0, _, _ => none
  | n + 1, x3, State_cells => if (p2 ≤ x3 : Prop) then (some (x3, State_cells)) else ((s_X6_loosen p1 x3 State_cells).bind fun v2 => s_X6_comeOver_L8 p1 p2 n (x3 + 1) v2)
set_option maxHeartbeats 4000000 in
set_option maxRecDepth 100000 in
theorem v_X6_comeOver_L8 {out : fO} {σ' : List fE} {p1 : Int32} {p2 : Int32} : ∀ (n : Nat) {x3 : Int32} {State_cells : (Nat → Int32)} {res : Int32 × (Nat → Int32)} (hf : s_X6_comeOver_L8 p1 p2 n x3 State_cells = some res) (hx : V (fXm 2 k_X6_comeOver out σ') (krm k_X6_comeOver) k_X6_comeOver 2 25 [some (.ref 0), some (.int p1), some (.int p2), some (.int res.1), none, none, none] [] [.inl (3, [.ref 1]), .inr (910, .inl res.2)] 0 0), V (fXm 2 k_X6_comeOver out σ') (krm k_X6_comeOver) k_X6_comeOver 2 8 [some (.ref 0), some (.int p1), some (.int p2), some (.int x3), none, none, none] [] [.inl (3, [.ref 1]), .inr (910, .inl State_cells)] 0 0 := by
  intro n
  induction n with
  | zero =>
    intro x3 State_cells res hf hx
    rw [s_X6_comeOver_L8] at hf
    cases hf
  | succ n ih =>
    intro x3 State_cells res hf hx
    rw [s_X6_comeOver_L8] at hf
    refine V.iload_n (i := 3) dX6_comeOver_8 rfl rfl ?_
    refine V.iload_n (i := 2) dX6_comeOver_9 rfl rfl ?_
    refine V.icmp_ge (tgt := 25) dX6_comeOver_10 (by decide) (fun h => ?_) (fun h => ?_)
    · have hf := fif_t h hf
      obtain rfl := Option.some.inj hf
      exact hx
    · have hf := fif_f h hf
      refine V.aload_n (i := 0) dX6_comeOver_13 rfl rfl ?_
      refine V.iload_n (i := 1) dX6_comeOver_14 rfl rfl ?_
      refine V.iload_n (i := 3) dX6_comeOver_15 rfl rfl ?_
      obtain ⟨v2, hv2, hf⟩ := fbind hf
      refine V.callSn (pl := [0, 1]) (σ' := [.inl (3, [.ref 1]), .inr (910, .inl v2)]) (st2 := []) (cl2 := 0) (sl2 := 0) (ct_X6_loosen (a1 := p1) (a2 := x3) (State_cells := State_cells) hv2) dX6_comeOver_16 w597 w598 cal_X6_loosen ⟨⟨Nat.le_of_ble_eq_true rfl, Nat.le_of_ble_eq_true rfl⟩, Nat.le_of_ble_eq_true rfl, Nat.le_of_ble_eq_true rfl⟩ (Nat.le_of_ble_eq_true rfl) rfl ⟨rfl, ⟨by decide, by decide⟩, rfl, (fr_cons (Or.inl (Nat.le_of_ble_eq_true rfl)) (fr_nil)), rfl⟩ fr_v rfl rfl rfl rfl ?_
      refine V.iinc (i := 3) (v := (x3 + 1)) (L' := [some (.ref 0), some (.int p1), some (.int p2), some (.int (x3 + 1)), none, none, none]) dX6_comeOver_19 rfl rfl (Nat.le_of_ble_eq_true rfl) rfl rfl ?_
      refine V.goto (tgt := 8) dX6_comeOver_22 (by decide) ?_
      exact ih hf hx
def s_X6_comeOver_L43 (p1 : Int32) (p2 : Int32) (p3 : Int32) : Nat → Int32 → Int32 → (Nat → Int32) → Option (Int32 × Int32 × (Nat → Int32))
  | 0, _, _, _ => none
  | n + 1, x4, x5, State_cells => if (p2 ≤ x5 : Prop) then (some (x4, x5, State_cells)) else ((s_X6_unreadableBehind p1 (x5 - x4) 0 State_cells).bind fun v6 => if (v6 ≤ p3 : Prop) then (s_X6_comeOver_L43 p1 p2 p3 n x4 (x5 + 1) State_cells) else ((s_X6_lose p1 (x5 - x4) State_cells).bind fun v7 => s_X6_comeOver_L43 p1 p2 p3 n (x4 + 1) (x5 + 1) v7))
set_option maxHeartbeats 4000000 in
set_option maxRecDepth 100000 in
theorem v_X6_comeOver_L43 {out : fO} {σ' : List fE} {p1 : Int32} {p2 : Int32} {p3 : Int32} : ∀ (n : Nat) {x4 : Int32} {x5 : Int32} {State_cells : (Nat → Int32)} {res : Int32 × Int32 × (Nat → Int32)} (hf : s_X6_comeOver_L43 p1 p2 p3 n x4 x5 State_cells = some res) (hx : V (fXm 2 k_X6_comeOver out σ') (krm k_X6_comeOver) k_X6_comeOver 2 84 [some (.ref 0), some (.int p1), some (.int p2), some (.int p3), some (.int res.1), some (.int res.2.1), none] [] [.inl (3, [.ref 1]), .inr (910, .inl res.2.2)] 0 0), V (fXm 2 k_X6_comeOver out σ') (krm k_X6_comeOver) k_X6_comeOver 2 43 [some (.ref 0), some (.int p1), some (.int p2), some (.int p3), some (.int x4), some (.int x5), none] [] [.inl (3, [.ref 1]), .inr (910, .inl State_cells)] 0 0 := by
  intro n
  induction n with
  | zero =>
    intro x4 x5 State_cells res hf hx
    rw [s_X6_comeOver_L43] at hf
    cases hf
  | succ n ih =>
    intro x4 x5 State_cells res hf hx
    rw [s_X6_comeOver_L43] at hf
    refine V.iload (i := 5) dX6_comeOver_43 rfl ?_
    refine V.iload_n (i := 2) dX6_comeOver_45 rfl rfl ?_
    refine V.icmp_ge (tgt := 84) dX6_comeOver_46 (by decide) (fun h => ?_) (fun h => ?_)
    · have hf := fif_t h hf
      obtain rfl := Option.some.inj hf
      exact hx
    · have hf := fif_f h hf
      refine V.iload (i := 5) dX6_comeOver_49 rfl ?_
      refine V.iload (i := 4) dX6_comeOver_51 rfl ?_
      refine V.isub dX6_comeOver_53 ?_
      refine V.istore (i := 6) (L' := [some (.ref 0), some (.int p1), some (.int p2), some (.int p3), some (.int x4), some (.int x5), some (.int (x5 - x4))]) dX6_comeOver_54 (Nat.le_of_ble_eq_true rfl) rfl rfl ?_
      refine V.aload_n (i := 0) dX6_comeOver_56 rfl rfl ?_
      refine V.iload_n (i := 1) dX6_comeOver_57 rfl rfl ?_
      refine V.iload (i := 6) dX6_comeOver_58 rfl ?_
      refine V.iconst (v := 0) dX6_comeOver_60 rfl ?_
      obtain ⟨v6, hv6, hf⟩ := fbind hf
      refine V.callSn (pl := [0, 1]) (σ' := [.inl (3, [.ref 1]), .inr (910, .inl State_cells)]) (st2 := [.int v6]) (cl2 := 0) (sl2 := 0) (ct_X6_unreadableBehind (a1 := p1) (a2 := (x5 - x4)) (a3 := 0) (State_cells := State_cells) hv6) dX6_comeOver_61 w316 w302 cal_X6_unreadableBehind ⟨⟨Nat.le_of_ble_eq_true rfl, Nat.le_of_ble_eq_true rfl⟩, Nat.le_of_ble_eq_true rfl, Nat.le_of_ble_eq_true rfl⟩ (Nat.le_of_ble_eq_true rfl) rfl ⟨rfl, ⟨by decide, by decide⟩, rfl, (fr_cons (Or.inl (Nat.le_of_ble_eq_true rfl)) (fr_nil)), rfl⟩ fr_i rfl rfl rfl rfl ?_
      refine V.iload_n (i := 3) dX6_comeOver_64 rfl rfl ?_
      refine V.icmp_le (tgt := 78) dX6_comeOver_65 (by decide) (fun h => ?_) (fun h => ?_)
      · have hf := fif_t h hf
        refine V.iinc (i := 5) (v := (x5 + 1)) (L' := [some (.ref 0), some (.int p1), some (.int p2), some (.int p3), some (.int x4), some (.int (x5 + 1)), some (.int (x5 - x4))]) dX6_comeOver_78 rfl rfl (Nat.le_of_ble_eq_true rfl) rfl rfl ?_
        refine V.goto (tgt := 43) dX6_comeOver_81 (by decide) ?_
        exact V.locs (L' := [some (.ref 0), some (.int p1), some (.int p2), some (.int p3), some (.int x4), some (.int (x5 + 1)), none]) ⟨rfl, ⟨rfl, ⟨rfl, ⟨rfl, ⟨rfl, ⟨rfl, trivial⟩⟩⟩⟩⟩⟩ (ih hf hx)
      · have hf := fif_f h hf
        refine V.aload_n (i := 0) dX6_comeOver_68 rfl rfl ?_
        refine V.iload_n (i := 1) dX6_comeOver_69 rfl rfl ?_
        refine V.iload (i := 6) dX6_comeOver_70 rfl ?_
        obtain ⟨v7, hv7, hf⟩ := fbind hf
        refine V.callSn (pl := [0, 1]) (σ' := [.inl (3, [.ref 1]), .inr (910, .inl v7)]) (st2 := []) (cl2 := 0) (sl2 := 0) (ct_X6_lose (a1 := p1) (a2 := (x5 - x4)) (State_cells := State_cells) hv7) dX6_comeOver_72 w602 w603 cal_X6_lose ⟨⟨Nat.le_of_ble_eq_true rfl, Nat.le_of_ble_eq_true rfl⟩, Nat.le_of_ble_eq_true rfl, Nat.le_of_ble_eq_true rfl⟩ (Nat.le_of_ble_eq_true rfl) rfl ⟨rfl, ⟨by decide, by decide⟩, rfl, (fr_cons (Or.inl (Nat.le_of_ble_eq_true rfl)) (fr_nil)), rfl⟩ fr_v rfl rfl rfl rfl ?_
        refine V.iinc (i := 4) (v := (x4 + 1)) (L' := [some (.ref 0), some (.int p1), some (.int p2), some (.int p3), some (.int (x4 + 1)), some (.int x5), some (.int (x5 - x4))]) dX6_comeOver_75 rfl rfl (Nat.le_of_ble_eq_true rfl) rfl rfl ?_
        refine V.iinc (i := 5) (v := (x5 + 1)) (L' := [some (.ref 0), some (.int p1), some (.int p2), some (.int p3), some (.int (x4 + 1)), some (.int (x5 + 1)), some (.int (x5 - x4))]) dX6_comeOver_78 rfl rfl (Nat.le_of_ble_eq_true rfl) rfl rfl ?_
        refine V.goto (tgt := 43) dX6_comeOver_81 (by decide) ?_
        exact V.locs (L' := [some (.ref 0), some (.int p1), some (.int p2), some (.int p3), some (.int (x4 + 1)), some (.int (x5 + 1)), none]) ⟨rfl, ⟨rfl, ⟨rfl, ⟨rfl, ⟨rfl, ⟨rfl, trivial⟩⟩⟩⟩⟩⟩ (ih hf hx)
def s_X6_comeOver (a1 : Int32) (State_cells : Nat → Int32) : Option (Int32 × (Nat → Int32)) := (s_X7_names a1 State_cells).bind fun v1 => (s_X6_comeOver_L8 a1 v1 gF 0 State_cells).bind fun r3 => (s_X7_add 0 1 r3.2).bind fun v4 => (s_X7_at 2 v4).bind fun v5 => (s_X6_comeOver_L43 a1 v1 v5 gF 0 0 v4).bind fun r8 => some (r8.1, r8.2.2)
set_option maxHeartbeats 4000000 in
set_option maxRecDepth 100000 in
theorem ct_X6_comeOver {a1 : Int32} {State_cells : Nat → Int32} {res : Int32 × (Nat → Int32)} (hf : s_X6_comeOver a1 State_cells = some res) : Ct k_X6_comeOver [.ref 0, .int a1] [.inl (3, [.ref 1]), .inr (910, .inl State_cells)] (.inl (some (.int res.1))) [.inl (3, [.ref 1]), .inr (910, .inl res.2)] := by
  unfold s_X6_comeOver at hf
  refine Ct.of (L := [some (.ref 0), some (.int a1), none, none, none, none, none]) cal_X6_comeOver (fent_pad (j := 5) rfl) (Nat.le_of_ble_eq_true rfl) ?_
  refine V.aload_n (i := 0) dX6_comeOver_0 rfl rfl ?_
  refine V.iload_n (i := 1) dX6_comeOver_1 rfl rfl ?_
  obtain ⟨v1, hv1, hf⟩ := fbind hf
  refine V.callVn (pl := [0, 1]) (σ' := [.inl (3, [.ref 1]), .inr (910, .inl State_cells)]) (st2 := [.int v1]) (cl2 := 0) (sl2 := 0) (ct_X7_names (a1 := a1) (State_cells := State_cells) hv1) dX6_comeOver_2 w399 ⟨w139, w140⟩ cal_X7_names rfl ⟨⟨Nat.le_of_ble_eq_true rfl, Nat.le_of_ble_eq_true rfl⟩, Nat.le_of_ble_eq_true rfl, Nat.le_of_ble_eq_true rfl⟩ (Nat.le_of_ble_eq_true rfl) ⟨_, _, _, _, rfl, rfl⟩ rfl ⟨rfl, ⟨by decide, by decide⟩, rfl, (fr_cons (Or.inl (Nat.le_of_ble_eq_true rfl)) (fr_nil)), rfl⟩ fr_i rfl rfl rfl rfl ?_
  refine V.istore_n (i := 2) (L' := [some (.ref 0), some (.int a1), some (.int v1), none, none, none, none]) dX6_comeOver_5 rfl (Nat.le_of_ble_eq_true rfl) rfl rfl ?_
  refine V.iconst (v := 0) dX6_comeOver_6 rfl ?_
  refine V.istore_n (i := 3) (L' := [some (.ref 0), some (.int a1), some (.int v1), some (.int 0), none, none, none]) dX6_comeOver_7 rfl (Nat.le_of_ble_eq_true rfl) rfl rfl ?_
  obtain ⟨r3, hr3, hf⟩ := fbind hf
  refine v_X6_comeOver_L8 gF hr3 ?_
  refine V.aload_n (i := 0) dX6_comeOver_25 rfl rfl ?_
  refine V.iconst (v := 0) dX6_comeOver_26 rfl ?_
  refine V.iconst (v := 1) dX6_comeOver_27 rfl ?_
  obtain ⟨v4, hv4, hf⟩ := fbind hf
  refine V.callVn (pl := [0, 1]) (σ' := [.inl (3, [.ref 1]), .inr (910, .inl v4)]) (st2 := []) (cl2 := 0) (sl2 := 0) (ct_X7_add (a1 := 0) (a2 := 1) (State_cells := r3.2) hv4) dX6_comeOver_28 w601 ⟨w570, w571⟩ cal_X7_add rfl ⟨⟨Nat.le_of_ble_eq_true rfl, Nat.le_of_ble_eq_true rfl⟩, Nat.le_of_ble_eq_true rfl, Nat.le_of_ble_eq_true rfl⟩ (Nat.le_of_ble_eq_true rfl) ⟨_, _, _, _, rfl, rfl⟩ rfl ⟨rfl, ⟨by decide, by decide⟩, rfl, (fr_cons (Or.inl (Nat.le_of_ble_eq_true rfl)) (fr_nil)), rfl⟩ fr_v rfl rfl rfl rfl ?_
  refine V.aload_n (i := 0) dX6_comeOver_31 rfl rfl ?_
  refine V.iconst (v := 2) dX6_comeOver_32 rfl ?_
  obtain ⟨v5, hv5, hf⟩ := fbind hf
  refine V.callVn (pl := [0, 1]) (σ' := [.inl (3, [.ref 1]), .inr (910, .inl v4)]) (st2 := [.int v5]) (cl2 := 0) (sl2 := 0) (ct_X7_at (a1 := 2) (State_cells := v4) hv5) dX6_comeOver_33 w309 ⟨w143, w144⟩ cal_X7_at rfl ⟨⟨Nat.le_of_ble_eq_true rfl, Nat.le_of_ble_eq_true rfl⟩, Nat.le_of_ble_eq_true rfl, Nat.le_of_ble_eq_true rfl⟩ (Nat.le_of_ble_eq_true rfl) ⟨_, _, _, _, rfl, rfl⟩ rfl ⟨rfl, ⟨by decide, by decide⟩, rfl, (fr_cons (Or.inl (Nat.le_of_ble_eq_true rfl)) (fr_nil)), rfl⟩ fr_i rfl rfl rfl rfl ?_
  refine V.istore_n (i := 3) (L' := [some (.ref 0), some (.int a1), some (.int v1), some (.int v5), none, none, none]) dX6_comeOver_36 rfl (Nat.le_of_ble_eq_true rfl) rfl rfl ?_
  refine V.iconst (v := 0) dX6_comeOver_37 rfl ?_
  refine V.istore (i := 4) (L' := [some (.ref 0), some (.int a1), some (.int v1), some (.int v5), some (.int 0), none, none]) dX6_comeOver_38 (Nat.le_of_ble_eq_true rfl) rfl rfl ?_
  refine V.iconst (v := 0) dX6_comeOver_40 rfl ?_
  refine V.istore (i := 5) (L' := [some (.ref 0), some (.int a1), some (.int v1), some (.int v5), some (.int 0), some (.int 0), none]) dX6_comeOver_41 (Nat.le_of_ble_eq_true rfl) rfl rfl ?_
  obtain ⟨r8, hr8, hf⟩ := fbind hf
  refine v_X6_comeOver_L43 gF hr8 ?_
  refine V.iload (i := 4) dX6_comeOver_84 rfl ?_
  obtain rfl := Option.some.inj hf
  exact V.iret dX6_comeOver_86 rfl (Nat.le_of_ble_eq_true rfl) (Nat.le_of_ble_eq_true rfl) rfl
def k_X6_ofEntry : fK := (yX6_ofEntry, cX6_ofEntry, 3, (some .int), [], (1, 21), (0, 0), (0, 0))
theorem cal_X6_ofEntry : fCal k_X6_ofEntry 3 := ⟨⟨wc443, w19⟩, ⟨by decide +kernel, by decide +kernel⟩, by decide +kernel, by decide +kernel⟩
def s_X6_ofEntry (a1 : Int32) (a2 : Int32) (State_cells : Nat → Int32) : Option (Int32) := if (a1 < 0 : Prop) then (some (-1)) else ((s_X7_at 7 State_cells).bind fun v1 => if (a1 < v1 : Prop) then (if (a2 = 0 : Prop) then ((s_X7_entryCell a1 0).bind fun v2 => (s_X7_at v2 State_cells).bind fun v3 => some v3) else (if (a2 = 1 : Prop) then ((s_X7_entryCell a1 1).bind fun v4 => (s_X7_at v4 State_cells).bind fun v5 => some v5) else (if (a2 = 2 : Prop) then ((s_X7_entryCell a1 2).bind fun v6 => (s_X7_at v6 State_cells).bind fun v7 => some v7) else ((s_X7_entryCell a1 3).bind fun v8 => (s_X7_at v8 State_cells).bind fun v9 => some v9)))) else (some (-1)))
set_option maxHeartbeats 4000000 in
set_option maxRecDepth 100000 in
theorem ct_X6_ofEntry {a1 : Int32} {a2 : Int32} {State_cells : Nat → Int32} {res : Int32} (hf : s_X6_ofEntry a1 a2 State_cells = some res) : Ct k_X6_ofEntry [.ref 0, .int a1, .int a2] [.inl (3, [.ref 1]), .inr (910, .inl State_cells)] (.inl (some (.int res))) [.inl (3, [.ref 1]), .inr (910, .inl State_cells)] := by
  unfold s_X6_ofEntry at hf
  refine Ct.of (L := [some (.ref 0), some (.int a1), some (.int a2)]) cal_X6_ofEntry (fent_pad (j := 0) rfl) (Nat.le_of_ble_eq_true rfl) ?_
  refine V.iload_n (i := 1) dX6_ofEntry_0 rfl rfl ?_
  refine V.if_lt (tgt := 14) dX6_ofEntry_1 (by decide) (fun h => ?_) (fun h => ?_)
  · have hf := fif_t h hf
    refine V.iconst (v := (-1)) dX6_ofEntry_14 rfl ?_
    obtain rfl := Option.some.inj hf
    exact V.iret dX6_ofEntry_15 rfl (Nat.le_of_ble_eq_true rfl) (Nat.le_of_ble_eq_true rfl) rfl
  · have hf := fif_f h hf
    refine V.iload_n (i := 1) dX6_ofEntry_4 rfl rfl ?_
    refine V.aload_n (i := 0) dX6_ofEntry_5 rfl rfl ?_
    refine V.bipush (v := 7) dX6_ofEntry_6 rfl ?_
    obtain ⟨v1, hv1, hf⟩ := fbind hf
    refine V.callVn (pl := [0, 1]) (σ' := [.inl (3, [.ref 1]), .inr (910, .inl State_cells)]) (st2 := [.int v1, .int a1]) (cl2 := 0) (sl2 := 0) (ct_X7_at (a1 := 7) (State_cells := State_cells) hv1) dX6_ofEntry_8 w309 ⟨w143, w144⟩ cal_X7_at rfl ⟨⟨Nat.le_of_ble_eq_true rfl, Nat.le_of_ble_eq_true rfl⟩, Nat.le_of_ble_eq_true rfl, Nat.le_of_ble_eq_true rfl⟩ (Nat.le_of_ble_eq_true rfl) ⟨_, _, _, _, rfl, rfl⟩ rfl ⟨rfl, ⟨by decide, by decide⟩, rfl, (fr_cons (Or.inl (Nat.le_of_ble_eq_true rfl)) (fr_nil)), rfl⟩ fr_i rfl rfl rfl rfl ?_
    refine V.icmp_lt (tgt := 16) dX6_ofEntry_11 (by decide) (fun h => ?_) (fun h => ?_)
    · have hf := fif_t h hf
      refine V.iload_n (i := 2) dX6_ofEntry_16 rfl rfl ?_
      by_cases h0 : a2 = 0
      · have hf := fif_t h0 hf
        refine V.cgi h0 (V.tableIn (off := 27) (tgt := 44) dX6_ofEntry_17 (by decide) (by decide) rfl (by decide) ?_)
        refine V.aload_n (i := 0) dX6_ofEntry_44 rfl rfl ?_
        refine V.iload_n (i := 1) dX6_ofEntry_45 rfl rfl ?_
        refine V.iconst (v := 0) dX6_ofEntry_46 rfl ?_
        obtain ⟨v2, hv2, hf⟩ := fbind hf
        refine V.callSn (pl := []) (σ' := [.inl (3, [.ref 1]), .inr (910, .inl State_cells)]) (st2 := [.int v2, .ref 0]) (cl2 := 0) (sl2 := 0) (ct_X7_entryCell (a0 := a1) (a1 := 0) hv2) dX6_ofEntry_47 w444 w445 cal_X7_entryCell ⟨⟨Nat.le_of_ble_eq_true rfl, Nat.le_of_ble_eq_true rfl⟩, Nat.le_of_ble_eq_true rfl, Nat.le_of_ble_eq_true rfl⟩ (Nat.le_of_ble_eq_true rfl) rfl ⟨rfl, ⟨by decide, by decide⟩, rfl, (fr_nil), rfl⟩ fr_i rfl rfl rfl rfl ?_
        obtain ⟨v3, hv3, hf⟩ := fbind hf
        refine V.callVn (pl := [0, 1]) (σ' := [.inl (3, [.ref 1]), .inr (910, .inl State_cells)]) (st2 := [.int v3]) (cl2 := 0) (sl2 := 0) (ct_X7_at (a1 := v2) (State_cells := State_cells) hv3) dX6_ofEntry_50 w309 ⟨w143, w144⟩ cal_X7_at rfl ⟨⟨Nat.le_of_ble_eq_true rfl, Nat.le_of_ble_eq_true rfl⟩, Nat.le_of_ble_eq_true rfl, Nat.le_of_ble_eq_true rfl⟩ (Nat.le_of_ble_eq_true rfl) ⟨_, _, _, _, rfl, rfl⟩ rfl ⟨rfl, ⟨by decide, by decide⟩, rfl, (fr_cons (Or.inl (Nat.le_of_ble_eq_true rfl)) (fr_nil)), rfl⟩ fr_i rfl rfl rfl rfl ?_
        obtain rfl := Option.some.inj hf
        exact V.iret dX6_ofEntry_53 rfl (Nat.le_of_ble_eq_true rfl) (Nat.le_of_ble_eq_true rfl) rfl
      · have hf := fif_f h0 hf
        by_cases h1 : a2 = 1
        · have hf := fif_t h1 hf
          refine V.cgi h1 (V.tableIn (off := 37) (tgt := 54) dX6_ofEntry_17 (by decide) (by decide) rfl (by decide) ?_)
          refine V.aload_n (i := 0) dX6_ofEntry_54 rfl rfl ?_
          refine V.iload_n (i := 1) dX6_ofEntry_55 rfl rfl ?_
          refine V.iconst (v := 1) dX6_ofEntry_56 rfl ?_
          obtain ⟨v4, hv4, hf⟩ := fbind hf
          refine V.callSn (pl := []) (σ' := [.inl (3, [.ref 1]), .inr (910, .inl State_cells)]) (st2 := [.int v4, .ref 0]) (cl2 := 0) (sl2 := 0) (ct_X7_entryCell (a0 := a1) (a1 := 1) hv4) dX6_ofEntry_57 w444 w445 cal_X7_entryCell ⟨⟨Nat.le_of_ble_eq_true rfl, Nat.le_of_ble_eq_true rfl⟩, Nat.le_of_ble_eq_true rfl, Nat.le_of_ble_eq_true rfl⟩ (Nat.le_of_ble_eq_true rfl) rfl ⟨rfl, ⟨by decide, by decide⟩, rfl, (fr_nil), rfl⟩ fr_i rfl rfl rfl rfl ?_
          obtain ⟨v5, hv5, hf⟩ := fbind hf
          refine V.callVn (pl := [0, 1]) (σ' := [.inl (3, [.ref 1]), .inr (910, .inl State_cells)]) (st2 := [.int v5]) (cl2 := 0) (sl2 := 0) (ct_X7_at (a1 := v4) (State_cells := State_cells) hv5) dX6_ofEntry_60 w309 ⟨w143, w144⟩ cal_X7_at rfl ⟨⟨Nat.le_of_ble_eq_true rfl, Nat.le_of_ble_eq_true rfl⟩, Nat.le_of_ble_eq_true rfl, Nat.le_of_ble_eq_true rfl⟩ (Nat.le_of_ble_eq_true rfl) ⟨_, _, _, _, rfl, rfl⟩ rfl ⟨rfl, ⟨by decide, by decide⟩, rfl, (fr_cons (Or.inl (Nat.le_of_ble_eq_true rfl)) (fr_nil)), rfl⟩ fr_i rfl rfl rfl rfl ?_
          obtain rfl := Option.some.inj hf
          exact V.iret dX6_ofEntry_63 rfl (Nat.le_of_ble_eq_true rfl) (Nat.le_of_ble_eq_true rfl) rfl
        · have hf := fif_f h1 hf
          by_cases h2 : a2 = 2
          · have hf := fif_t h2 hf
            refine V.cgi h2 (V.tableIn (off := 47) (tgt := 64) dX6_ofEntry_17 (by decide) (by decide) rfl (by decide) ?_)
            refine V.aload_n (i := 0) dX6_ofEntry_64 rfl rfl ?_
            refine V.iload_n (i := 1) dX6_ofEntry_65 rfl rfl ?_
            refine V.iconst (v := 2) dX6_ofEntry_66 rfl ?_
            obtain ⟨v6, hv6, hf⟩ := fbind hf
            refine V.callSn (pl := []) (σ' := [.inl (3, [.ref 1]), .inr (910, .inl State_cells)]) (st2 := [.int v6, .ref 0]) (cl2 := 0) (sl2 := 0) (ct_X7_entryCell (a0 := a1) (a1 := 2) hv6) dX6_ofEntry_67 w444 w445 cal_X7_entryCell ⟨⟨Nat.le_of_ble_eq_true rfl, Nat.le_of_ble_eq_true rfl⟩, Nat.le_of_ble_eq_true rfl, Nat.le_of_ble_eq_true rfl⟩ (Nat.le_of_ble_eq_true rfl) rfl ⟨rfl, ⟨by decide, by decide⟩, rfl, (fr_nil), rfl⟩ fr_i rfl rfl rfl rfl ?_
            obtain ⟨v7, hv7, hf⟩ := fbind hf
            refine V.callVn (pl := [0, 1]) (σ' := [.inl (3, [.ref 1]), .inr (910, .inl State_cells)]) (st2 := [.int v7]) (cl2 := 0) (sl2 := 0) (ct_X7_at (a1 := v6) (State_cells := State_cells) hv7) dX6_ofEntry_70 w309 ⟨w143, w144⟩ cal_X7_at rfl ⟨⟨Nat.le_of_ble_eq_true rfl, Nat.le_of_ble_eq_true rfl⟩, Nat.le_of_ble_eq_true rfl, Nat.le_of_ble_eq_true rfl⟩ (Nat.le_of_ble_eq_true rfl) ⟨_, _, _, _, rfl, rfl⟩ rfl ⟨rfl, ⟨by decide, by decide⟩, rfl, (fr_cons (Or.inl (Nat.le_of_ble_eq_true rfl)) (fr_nil)), rfl⟩ fr_i rfl rfl rfl rfl ?_
            obtain rfl := Option.some.inj hf
            exact V.iret dX6_ofEntry_73 rfl (Nat.le_of_ble_eq_true rfl) (Nat.le_of_ble_eq_true rfl) rfl
          · have hf := fif_f h2 hf
            refine V.tableOut (tgt := 74) dX6_ofEntry_17 (by have g0 := lv_neT (a := 0) h0 (by decide); have g1 := lv_neT (a := 1) h1 (by decide); have g2 := lv_neT (a := 2) h2 (by decide); omega) (by decide) ?_
            refine V.aload_n (i := 0) dX6_ofEntry_74 rfl rfl ?_
            refine V.iload_n (i := 1) dX6_ofEntry_75 rfl rfl ?_
            refine V.iconst (v := 3) dX6_ofEntry_76 rfl ?_
            obtain ⟨v8, hv8, hf⟩ := fbind hf
            refine V.callSn (pl := []) (σ' := [.inl (3, [.ref 1]), .inr (910, .inl State_cells)]) (st2 := [.int v8, .ref 0]) (cl2 := 0) (sl2 := 0) (ct_X7_entryCell (a0 := a1) (a1 := 3) hv8) dX6_ofEntry_77 w444 w445 cal_X7_entryCell ⟨⟨Nat.le_of_ble_eq_true rfl, Nat.le_of_ble_eq_true rfl⟩, Nat.le_of_ble_eq_true rfl, Nat.le_of_ble_eq_true rfl⟩ (Nat.le_of_ble_eq_true rfl) rfl ⟨rfl, ⟨by decide, by decide⟩, rfl, (fr_nil), rfl⟩ fr_i rfl rfl rfl rfl ?_
            obtain ⟨v9, hv9, hf⟩ := fbind hf
            refine V.callVn (pl := [0, 1]) (σ' := [.inl (3, [.ref 1]), .inr (910, .inl State_cells)]) (st2 := [.int v9]) (cl2 := 0) (sl2 := 0) (ct_X7_at (a1 := v8) (State_cells := State_cells) hv9) dX6_ofEntry_80 w309 ⟨w143, w144⟩ cal_X7_at rfl ⟨⟨Nat.le_of_ble_eq_true rfl, Nat.le_of_ble_eq_true rfl⟩, Nat.le_of_ble_eq_true rfl, Nat.le_of_ble_eq_true rfl⟩ (Nat.le_of_ble_eq_true rfl) ⟨_, _, _, _, rfl, rfl⟩ rfl ⟨rfl, ⟨by decide, by decide⟩, rfl, (fr_cons (Or.inl (Nat.le_of_ble_eq_true rfl)) (fr_nil)), rfl⟩ fr_i rfl rfl rfl rfl ?_
            obtain rfl := Option.some.inj hf
            exact V.iret dX6_ofEntry_83 rfl (Nat.le_of_ble_eq_true rfl) (Nat.le_of_ble_eq_true rfl) rfl
    · have hf := fif_f h hf
      refine V.iconst (v := (-1)) dX6_ofEntry_14 rfl ?_
      obtain rfl := Option.some.inj hf
      exact V.iret dX6_ofEntry_15 rfl (Nat.le_of_ble_eq_true rfl) (Nat.le_of_ble_eq_true rfl) rfl
