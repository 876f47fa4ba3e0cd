/-! laid by program: shallow functions and contracts -/
def k_X2_withLetters : fK := (yX2_withLetters, cX2_withLetters, 7, (some .long), [], (5, 121), (0, 0), (0, 0))
theorem cal_X2_withLetters : fCal k_X2_withLetters 2 := ⟨⟨wc396, w91⟩, ⟨by decide +kernel, by decide +kernel⟩, by decide +kernel, by decide +kernel⟩
def s_X2_withLetters_L15 (p5 : Int32) (State_cells : Nat → Int32) : Nat → Int64 → Int32 → Option (Int64 × Int32)
  | 0, _, _ => none
  | n + 1, x3, x6 => if (5 < x6 : Prop) then (some (x3, x6)) else ((s_X8_ofLetter p5 x6 State_cells).bind fun v1 => s_X2_withLetters_L15 p5 State_cells n ((31 * x3) + (Int32.toInt64 v1)) (x6 + 1))
set_option maxHeartbeats 4000000 in
set_option maxRecDepth 100000 in
theorem v_X2_withLetters_L15 {out : fO} {σ' : List fE} {p1 : Int64} {p5 : Int32} {State_cells : Nat → Int32} : ∀ (n : Nat) {x3 : Int64} {x6 : Int32} {res : Int64 × Int32} (hf : s_X2_withLetters_L15 p5 State_cells n x3 x6 = some res) (hx : V (fXm 2 k_X2_withLetters out σ') (krm k_X2_withLetters) k_X2_withLetters 2 43 [some (.ref 0), some (.long p1), none, some (.long res.1), none, some (.int p5), some (.int res.2)] [] [.inl (3, [.ref 1]), .inr (910, .inl State_cells)] 0 0), V (fXm 2 k_X2_withLetters out σ') (krm k_X2_withLetters) k_X2_withLetters 2 15 [some (.ref 0), some (.long p1), none, some (.long x3), none, some (.int p5), some (.int x6)] [] [.inl (3, [.ref 1]), .inr (910, .inl State_cells)] 0 0 := by
  intro n
  induction n with
  | zero =>
    intro x3 x6 res hf hx
    rw [s_X2_withLetters_L15] at hf
    cases hf
  | succ n ih =>
    intro x3 x6 res hf hx
    rw [s_X2_withLetters_L15] at hf
    refine V.iload (i := 6) dX2_withLetters_15 rfl ?_
    refine V.iconst (v := 5) dX2_withLetters_17 rfl ?_
    refine V.icmp_gt (tgt := 43) dX2_withLetters_18 (by decide) (fun h => ?_) (fun h => ?_)
    · have hf := fif_t h hf
      obtain rfl := Option.some.inj hf
      exact hx
    · have hf := fif_f h hf
      refine V.ldc2 (v := 31) dX2_withLetters_21 w397 ?_
      refine V.lload_n (i := 3) dX2_withLetters_24 rfl rfl ?_
      refine V.lmul dX2_withLetters_25 ?_
      refine V.aload_n (i := 0) dX2_withLetters_26 rfl rfl ?_
      refine V.iload (i := 5) dX2_withLetters_27 rfl ?_
      refine V.iload (i := 6) dX2_withLetters_29 rfl ?_
      obtain ⟨v1, hv1, hf⟩ := fbind hf
      refine V.callSn (pl := [0, 1]) (σ' := [.inl (3, [.ref 1]), .inr (910, .inl State_cells)]) (st2 := [.int v1, .long (31 * x3)]) (cl2 := 0) (sl2 := 0) (ct_X8_ofLetter (a1 := p5) (a2 := x6) (State_cells := State_cells) hv1) dX2_withLetters_31 w398 w399 cal_X8_ofLetter ⟨⟨Nat.le_of_ble_eq_true rfl, Nat.le_of_ble_eq_true rfl⟩, Nat.le_of_ble_eq_true rfl, Nat.le_of_ble_eq_true rfl⟩ (Nat.le_of_ble_eq_true rfl) rfl ⟨rfl, ⟨by decide, by decide⟩, rfl, (fr_cons (Or.inl (Nat.le_of_ble_eq_true rfl)) (fr_nil)), rfl⟩ fr_i rfl rfl rfl rfl ?_
      refine V.i2l dX2_withLetters_34 ?_
      refine V.ladd dX2_withLetters_35 ?_
      refine V.lstore_n (i := 3) (L' := [some (.ref 0), some (.long p1), none, some (.long ((31 * x3) + (Int32.toInt64 v1))), none, some (.int p5), some (.int x6)]) dX2_withLetters_36 rfl (Nat.le_of_ble_eq_true rfl) rfl rfl ?_
      refine V.iinc (i := 6) (v := (x6 + 1)) (L' := [some (.ref 0), some (.long p1), none, some (.long ((31 * x3) + (Int32.toInt64 v1))), none, some (.int p5), some (.int (x6 + 1))]) dX2_withLetters_37 rfl rfl (Nat.le_of_ble_eq_true rfl) rfl rfl ?_
      refine V.goto (tgt := 15) dX2_withLetters_40 (by decide) ?_
      exact ih hf hx
def s_X2_withLetters_L5 (State_cells : Nat → Int32) : Nat → Int64 → Int32 → Option (Int64 × Int32)
  | 0, _, _ => none
  | n + 1, x3, x5 => if (16 ≤ x5 : Prop) then (some (x3, x5)) else ((s_X2_withLetters_L15 x5 State_cells gF x3 0).bind fun r2 => s_X2_withLetters_L5 State_cells n r2.1 (x5 + 1))
set_option maxHeartbeats 4000000 in
set_option maxRecDepth 100000 in
theorem v_X2_withLetters_L5 {out : fO} {σ' : List fE} {p1 : Int64} {State_cells : Nat → Int32} : ∀ (n : Nat) {x3 : Int64} {x5 : Int32} {res : Int64 × Int32} (hf : s_X2_withLetters_L5 State_cells n x3 x5 = some res) (hx : V (fXm 2 k_X2_withLetters out σ') (krm k_X2_withLetters) k_X2_withLetters 2 49 [some (.ref 0), some (.long p1), none, some (.long res.1), none, some (.int res.2), none] [] [.inl (3, [.ref 1]), .inr (910, .inl State_cells)] 0 0), V (fXm 2 k_X2_withLetters out σ') (krm k_X2_withLetters) k_X2_withLetters 2 5 [some (.ref 0), some (.long p1), none, some (.long x3), none, some (.int x5), none] [] [.inl (3, [.ref 1]), .inr (910, .inl State_cells)] 0 0 := by
  intro n
  induction n with
  | zero =>
    intro x3 x5 res hf hx
    rw [s_X2_withLetters_L5] at hf
    cases hf
  | succ n ih =>
    intro x3 x5 res hf hx
    rw [s_X2_withLetters_L5] at hf
    refine V.iload (i := 5) dX2_withLetters_5 rfl ?_
    refine V.bipush (v := 16) dX2_withLetters_7 rfl ?_
    refine V.icmp_ge (tgt := 49) dX2_withLetters_9 (by decide) (fun h => ?_) (fun h => ?_)
    · have hf := fif_t h hf
      obtain rfl := Option.some.inj hf
      exact hx
    · have hf := fif_f h hf
      refine V.iconst (v := 0) dX2_withLetters_12 rfl ?_
      refine V.istore (i := 6) (L' := [some (.ref 0), some (.long p1), none, some (.long x3), none, some (.int x5), some (.int 0)]) dX2_withLetters_13 (Nat.le_of_ble_eq_true rfl) rfl rfl ?_
      obtain ⟨r2, hr2, hf⟩ := fbind hf
      refine v_X2_withLetters_L15 gF hr2 ?_
      refine V.iinc (i := 5) (v := (x5 + 1)) (L' := [some (.ref 0), some (.long p1), none, some (.long r2.1), none, some (.int (x5 + 1)), some (.int r2.2)]) dX2_withLetters_43 rfl rfl (Nat.le_of_ble_eq_true rfl) rfl rfl ?_
      refine V.goto (tgt := 5) dX2_withLetters_46 (by decide) ?_
      exact V.locs (L' := [some (.ref 0), some (.long p1), none, some (.long r2.1), none, some (.int (x5 + 1)), none]) ⟨rfl, ⟨rfl, ⟨rfl, ⟨rfl, trivial⟩⟩⟩⟩ (ih hf hx)
def s_X2_withLetters (a1 : Int64) (State_cells : Nat → Int32) : Option (Int64) := (s_X2_withLetters_L5 State_cells gF a1 0).bind fun r3 => some r3.1
set_option maxHeartbeats 4000000 in
set_option maxRecDepth 100000 in
theorem ct_X2_withLetters {a1 : Int64} {State_cells : Nat → Int32} {res : Int64} (hf : s_X2_withLetters a1 State_cells = some res) : Ct k_X2_withLetters [.ref 0, .long a1] [.inl (3, [.ref 1]), .inr (910, .inl State_cells)] (.inl (some (.long res))) [.inl (3, [.ref 1]), .inr (910, .inl State_cells)] := by
  unfold s_X2_withLetters at hf
  refine Ct.of (L := [some (.ref 0), some (.long a1), none, none, none, none, none]) cal_X2_withLetters (fent_pad (j := 4) rfl) (Nat.le_of_ble_eq_true rfl) ?_
  refine V.lload_n (i := 1) dX2_withLetters_0 rfl rfl ?_
  refine V.lstore_n (i := 3) (L' := [some (.ref 0), some (.long a1), none, some (.long a1), none, none, none]) dX2_withLetters_1 rfl (Nat.le_of_ble_eq_true rfl) rfl rfl ?_
  refine V.iconst (v := 0) dX2_withLetters_2 rfl ?_
  refine V.istore (i := 5) (L' := [some (.ref 0), some (.long a1), none, some (.long a1), none, some (.int 0), none]) dX2_withLetters_3 (Nat.le_of_ble_eq_true rfl) rfl rfl ?_
  obtain ⟨r3, hr3, hf⟩ := fbind hf
  refine v_X2_withLetters_L5 gF hr3 ?_
  refine V.lload_n (i := 3) dX2_withLetters_49 rfl rfl ?_
  obtain rfl := Option.some.inj hf
  exact V.lret dX2_withLetters_50 rfl (Nat.le_of_ble_eq_true rfl) (Nat.le_of_ble_eq_true rfl) rfl
def k_X2_withFisher : fK := (yX2_withFisher, cX2_withFisher, 8, (some .long), [], (4, 104), (0, 0), (0, 0))
theorem cal_X2_withFisher : fCal k_X2_withFisher 3 := ⟨⟨wc412, w91⟩, ⟨by decide +kernel, by decide +kernel⟩, by decide +kernel, by decide +kernel⟩
def s_X2_withFisher_L6 (p1 : Int32) (State_cells : Nat → Int32) : Nat → Int64 → Int32 → Option (Int64 × Int32)
  | 0, _, _ => none
  | n + 1, x4, x6 => if (4 < x6 : Prop) then (some (x4, x6)) else ((s_X8_ofFisher p1 x6 State_cells).bind fun v1 => s_X2_withFisher_L6 p1 State_cells n ((31 * x4) + (Int32.toInt64 v1)) (x6 + 1))
set_option maxHeartbeats 4000000 in
set_option maxRecDepth 100000 in
theorem v_X2_withFisher_L6 {out : fO} {σ' : List fE} {p1 : Int32} {p2 : Int64} {State_cells : Nat → Int32} : ∀ (n : Nat) {x4 : Int64} {x6 : Int32} {res : Int64 × Int32} (hf : s_X2_withFisher_L6 p1 State_cells n x4 x6 = some res) (hx : V (fXm 2 k_X2_withFisher out σ') (krm k_X2_withFisher) k_X2_withFisher 2 35 [some (.ref 0), some (.int p1), some (.long p2), none, some (.long res.1), none, some (.int res.2), none] [] [.inl (3, [.ref 1]), .inr (910, .inl State_cells)] 0 0), V (fXm 2 k_X2_withFisher out σ') (krm k_X2_withFisher) k_X2_withFisher 2 6 [some (.ref 0), some (.int p1), some (.long p2), none, some (.long x4), none, some (.int x6), none] [] [.inl (3, [.ref 1]), .inr (910, .inl State_cells)] 0 0 := by
  intro n
  induction n with
  | zero =>
    intro x4 x6 res hf hx
    rw [s_X2_withFisher_L6] at hf
    cases hf
  | succ n ih =>
    intro x4 x6 res hf hx
    rw [s_X2_withFisher_L6] at hf
    refine V.iload (i := 6) dX2_withFisher_6 rfl ?_
    refine V.iconst (v := 4) dX2_withFisher_8 rfl ?_
    refine V.icmp_gt (tgt := 35) dX2_withFisher_9 (by decide) (fun h => ?_) (fun h => ?_)
    · have hf := fif_t h hf
      obtain rfl := Option.some.inj hf
      exact hx
    · have hf := fif_f h hf
      refine V.ldc2 (v := 31) dX2_withFisher_12 w397 ?_
      refine V.lload (i := 4) dX2_withFisher_15 rfl ?_
      refine V.lmul dX2_withFisher_17 ?_
      refine V.aload_n (i := 0) dX2_withFisher_18 rfl rfl ?_
      refine V.iload_n (i := 1) dX2_withFisher_19 rfl rfl ?_
      refine V.iload (i := 6) dX2_withFisher_20 rfl ?_
      obtain ⟨v1, hv1, hf⟩ := fbind hf
      refine V.callSn (pl := [0, 1]) (σ' := [.inl (3, [.ref 1]), .inr (910, .inl State_cells)]) (st2 := [.int v1, .long (31 * x4)]) (cl2 := 0) (sl2 := 0) (ct_X8_ofFisher (a1 := p1) (a2 := x6) (State_cells := State_cells) hv1) dX2_withFisher_22 w413 w414 cal_X8_ofFisher ⟨⟨Nat.le_of_ble_eq_true rfl, Nat.le_of_ble_eq_true rfl⟩, Nat.le_of_ble_eq_true rfl, Nat.le_of_ble_eq_true rfl⟩ (Nat.le_of_ble_eq_true rfl) rfl ⟨rfl, ⟨by decide, by decide⟩, rfl, (fr_cons (Or.inl (Nat.le_of_ble_eq_true rfl)) (fr_nil)), rfl⟩ fr_i rfl rfl rfl rfl ?_
      refine V.i2l dX2_withFisher_25 ?_
      refine V.ladd dX2_withFisher_26 ?_
      refine V.lstore (i := 4) (L' := [some (.ref 0), some (.int p1), some (.long p2), none, some (.long ((31 * x4) + (Int32.toInt64 v1))), none, some (.int x6), none]) dX2_withFisher_27 (Nat.le_of_ble_eq_true rfl) rfl rfl ?_
      refine V.iinc (i := 6) (v := (x6 + 1)) (L' := [some (.ref 0), some (.int p1), some (.long p2), none, some (.long ((31 * x4) + (Int32.toInt64 v1))), none, some (.int (x6 + 1)), none]) dX2_withFisher_29 rfl rfl (Nat.le_of_ble_eq_true rfl) rfl rfl ?_
      refine V.goto (tgt := 6) dX2_withFisher_32 (by decide) ?_
      exact ih hf hx
def s_X2_withFisher_L38 (p1 : Int32) (State_cells : Nat → Int32) : Nat → Int64 → Int32 → Option (Int64 × Int32)
  | 0, _, _ => none
  | n + 1, x4, x6 => if (1 < x6 : Prop) then (some (x4, x6)) else ((s_X6_ofNextStorm p1 x6 State_cells).bind fun v3 => s_X2_withFisher_L38 p1 State_cells n ((31 * x4) + (Int32.toInt64 v3)) (x6 + 1))
set_option maxHeartbeats 4000000 in
set_option maxRecDepth 100000 in
theorem v_X2_withFisher_L38 {out : fO} {σ' : List fE} {p1 : Int32} {p2 : Int64} {State_cells : Nat → Int32} : ∀ (n : Nat) {x4 : Int64} {x6 : Int32} {res : Int64 × Int32} (hf : s_X2_withFisher_L38 p1 State_cells n x4 x6 = some res) (hx : V (fXm 2 k_X2_withFisher out σ') (krm k_X2_withFisher) k_X2_withFisher 2 67 [some (.ref 0), some (.int p1), some (.long p2), none, some (.long res.1), none, some (.int res.2), none] [] [.inl (3, [.ref 1]), .inr (910, .inl State_cells)] 0 0), V (fXm 2 k_X2_withFisher out σ') (krm k_X2_withFisher) k_X2_withFisher 2 38 [some (.ref 0), some (.int p1), some (.long p2), none, some (.long x4), none, some (.int x6), none] [] [.inl (3, [.ref 1]), .inr (910, .inl State_cells)] 0 0 := by
  intro n
  induction n with
  | zero =>
    intro x4 x6 res hf hx
    rw [s_X2_withFisher_L38] at hf
    cases hf
  | succ n ih =>
    intro x4 x6 res hf hx
    rw [s_X2_withFisher_L38] at hf
    refine V.iload (i := 6) dX2_withFisher_38 rfl ?_
    refine V.iconst (v := 1) dX2_withFisher_40 rfl ?_
    refine V.icmp_gt (tgt := 67) dX2_withFisher_41 (by decide) (fun h => ?_) (fun h => ?_)
    · have hf := fif_t h hf
      obtain rfl := Option.some.inj hf
      exact hx
    · have hf := fif_f h hf
      refine V.ldc2 (v := 31) dX2_withFisher_44 w397 ?_
      refine V.lload (i := 4) dX2_withFisher_47 rfl ?_
      refine V.lmul dX2_withFisher_49 ?_
      refine V.aload_n (i := 0) dX2_withFisher_50 rfl rfl ?_
      refine V.iload_n (i := 1) dX2_withFisher_51 rfl rfl ?_
      refine V.iload (i := 6) dX2_withFisher_52 rfl ?_
      obtain ⟨v3, hv3, hf⟩ := fbind hf
      refine V.callSn (pl := [0, 1]) (σ' := [.inl (3, [.ref 1]), .inr (910, .inl State_cells)]) (st2 := [.int v3, .long (31 * x4)]) (cl2 := 0) (sl2 := 0) (ct_X6_ofNextStorm (a1 := p1) (a2 := x6) (State_cells := State_cells) hv3) dX2_withFisher_54 w422 w423 cal_X6_ofNextStorm ⟨⟨Nat.le_of_ble_eq_true rfl, Nat.le_of_ble_eq_true rfl⟩, Nat.le_of_ble_eq_true rfl, Nat.le_of_ble_eq_true rfl⟩ (Nat.le_of_ble_eq_true rfl) rfl ⟨rfl, ⟨by decide, by decide⟩, rfl, (fr_cons (Or.inl (Nat.le_of_ble_eq_true rfl)) (fr_nil)), rfl⟩ fr_i rfl rfl rfl rfl ?_
      refine V.i2l dX2_withFisher_57 ?_
      refine V.ladd dX2_withFisher_58 ?_
      refine V.lstore (i := 4) (L' := [some (.ref 0), some (.int p1), some (.long p2), none, some (.long ((31 * x4) + (Int32.toInt64 v3))), none, some (.int x6), none]) dX2_withFisher_59 (Nat.le_of_ble_eq_true rfl) rfl rfl ?_
      refine V.iinc (i := 6) (v := (x6 + 1)) (L' := [some (.ref 0), some (.int p1), some (.long p2), none, some (.long ((31 * x4) + (Int32.toInt64 v3))), none, some (.int (x6 + 1)), none]) dX2_withFisher_61 rfl rfl (Nat.le_of_ble_eq_true rfl) rfl rfl ?_
      refine V.goto (tgt := 38) dX2_withFisher_64 (by decide) ?_
      exact ih hf hx
def s_X2_withFisher_L70 (p1 : Int32) (State_cells : Nat → Int32) : Nat → Int64 → Int32 → Option (Int64 × Int32)
  | 0, _, _ => none
  | n + 1, x4, x6 => if (54 ≤ x6 : Prop) then (some (x4, x6)) else ((s_X8_codeOfBelt p1 x6 State_cells).bind fun v5 => if (v5 = (-1) : Prop) then (some (x4, x6)) else (s_X2_withFisher_L70 p1 State_cells n ((31 * x4) + (Int32.toInt64 v5)) (x6 + 1)))
set_option maxHeartbeats 4000000 in
set_option maxRecDepth 100000 in
theorem v_X2_withFisher_L70 {out : fO} {σ' : List fE} {p1 : Int32} {p2 : Int64} {State_cells : Nat → Int32} : ∀ (n : Nat) {x4 : Int64} {x6 : Int32} {res : Int64 × Int32} (hf : s_X2_withFisher_L70 p1 State_cells n x4 x6 = some res) (hx : V (fXm 2 k_X2_withFisher out σ') (krm k_X2_withFisher) k_X2_withFisher 2 113 [some (.ref 0), some (.int p1), some (.long p2), none, some (.long res.1), none, some (.int res.2), none] [] [.inl (3, [.ref 1]), .inr (910, .inl State_cells)] 0 0), V (fXm 2 k_X2_withFisher out σ') (krm k_X2_withFisher) k_X2_withFisher 2 70 [some (.ref 0), some (.int p1), some (.long p2), none, some (.long x4), none, some (.int x6), none] [] [.inl (3, [.ref 1]), .inr (910, .inl State_cells)] 0 0 := by
  intro n
  induction n with
  | zero =>
    intro x4 x6 res hf hx
    rw [s_X2_withFisher_L70] at hf
    cases hf
  | succ n ih =>
    intro x4 x6 res hf hx
    rw [s_X2_withFisher_L70] at hf
    refine V.iload (i := 6) dX2_withFisher_70 rfl ?_
    refine V.bipush (v := 54) dX2_withFisher_72 rfl ?_
    refine V.icmp_ge (tgt := 113) dX2_withFisher_74 (by decide) (fun h => ?_) (fun h => ?_)
    · have hf := fif_t h hf
      obtain rfl := Option.some.inj hf
      exact hx
    · have hf := fif_f h hf
      refine V.aload_n (i := 0) dX2_withFisher_77 rfl rfl ?_
      refine V.iload_n (i := 1) dX2_withFisher_78 rfl rfl ?_
      refine V.iload (i := 6) dX2_withFisher_79 rfl ?_
      obtain ⟨v5, hv5, hf⟩ := fbind hf
      refine V.callSn (pl := [0, 1]) (σ' := [.inl (3, [.ref 1]), .inr (910, .inl State_cells)]) (st2 := [.int v5]) (cl2 := 0) (sl2 := 0) (ct_X8_codeOfBelt (a1 := p1) (a2 := x6) (State_cells := State_cells) hv5) dX2_withFisher_81 w443 w444 cal_X8_codeOfBelt ⟨⟨Nat.le_of_ble_eq_true rfl, Nat.le_of_ble_eq_true rfl⟩, Nat.le_of_ble_eq_true rfl, Nat.le_of_ble_eq_true rfl⟩ (Nat.le_of_ble_eq_true rfl) rfl ⟨rfl, ⟨by decide, by decide⟩, rfl, (fr_cons (Or.inl (Nat.le_of_ble_eq_true rfl)) (fr_nil)), rfl⟩ fr_i rfl rfl rfl rfl ?_
      refine V.istore (i := 7) (L' := [some (.ref 0), some (.int p1), some (.long p2), none, some (.long x4), none, some (.int x6), some (.int v5)]) dX2_withFisher_84 (Nat.le_of_ble_eq_true rfl) rfl rfl ?_
      refine V.iload (i := 7) dX2_withFisher_86 rfl ?_
      refine V.iconst (v := (-1)) dX2_withFisher_88 rfl ?_
      refine V.icmp_ne (tgt := 95) dX2_withFisher_89 (by decide) (fun h => ?_) (fun h => ?_)
      · have hf := fif_f h hf
        refine V.ldc2 (v := 31) dX2_withFisher_95 w397 ?_
        refine V.lload (i := 4) dX2_withFisher_98 rfl ?_
        refine V.lmul dX2_withFisher_100 ?_
        refine V.iload (i := 7) dX2_withFisher_101 rfl ?_
        refine V.i2l dX2_withFisher_103 ?_
        refine V.ladd dX2_withFisher_104 ?_
        refine V.lstore (i := 4) (L' := [some (.ref 0), some (.int p1), some (.long p2), none, some (.long ((31 * x4) + (Int32.toInt64 v5))), none, some (.int x6), some (.int v5)]) dX2_withFisher_105 (Nat.le_of_ble_eq_true rfl) rfl rfl ?_
        refine V.iinc (i := 6) (v := (x6 + 1)) (L' := [some (.ref 0), some (.int p1), some (.long p2), none, some (.long ((31 * x4) + (Int32.toInt64 v5))), none, some (.int (x6 + 1)), some (.int v5)]) dX2_withFisher_107 rfl rfl (Nat.le_of_ble_eq_true rfl) rfl rfl ?_
        refine V.goto (tgt := 70) dX2_withFisher_110 (by decide) ?_
        exact V.locs (L' := [some (.ref 0), some (.int p1), some (.long p2), none, some (.long ((31 * x4) + (Int32.toInt64 v5))), none, some (.int (x6 + 1)), none]) ⟨rfl, ⟨rfl, ⟨rfl, ⟨rfl, ⟨rfl, trivial⟩⟩⟩⟩⟩ (ih hf hx)
      · have hf := fif_t h hf
        refine V.goto (tgt := 113) dX2_withFisher_92 (by decide) ?_
        obtain rfl := Option.some.inj hf
        exact V.locs (L' := [some (.ref 0), some (.int p1), some (.long p2), none, some (.long x4), none, some (.int x6), none]) ⟨rfl, ⟨rfl, ⟨rfl, ⟨rfl, ⟨rfl, trivial⟩⟩⟩⟩⟩ (hx)
def s_X2_withFisher (a1 : Int32) (a2 : Int64) (State_cells : Nat → Int32) : Option (Int64) := (s_X2_withFisher_L6 a1 State_cells gF a2 0).bind fun r2 => (s_X2_withFisher_L38 a1 State_cells gF r2.1 0).bind fun r4 => (s_X2_withFisher_L70 a1 State_cells gF r4.1 0).bind fun r6 => some r6.1
set_option maxHeartbeats 4000000 in
set_option maxRecDepth 100000 in
theorem ct_X2_withFisher {a1 : Int32} {a2 : Int64} {State_cells : Nat → Int32} {res : Int64} (hf : s_X2_withFisher a1 a2 State_cells = some res) : Ct k_X2_withFisher [.ref 0, .int a1, .long a2] [.inl (3, [.ref 1]), .inr (910, .inl State_cells)] (.inl (some (.long res))) [.inl (3, [.ref 1]), .inr (910, .inl State_cells)] := by
  unfold s_X2_withFisher at hf
  refine Ct.of (L := [some (.ref 0), some (.int a1), some (.long a2), none, none, none, none, none]) cal_X2_withFisher (fent_pad (j := 4) rfl) (Nat.le_of_ble_eq_true rfl) ?_
  refine V.lload_n (i := 2) dX2_withFisher_0 rfl rfl ?_
  refine V.lstore (i := 4) (L' := [some (.ref 0), some (.int a1), some (.long a2), none, some (.long a2), none, none, none]) dX2_withFisher_1 (Nat.le_of_ble_eq_true rfl) rfl rfl ?_
  refine V.iconst (v := 0) dX2_withFisher_3 rfl ?_
  refine V.istore (i := 6) (L' := [some (.ref 0), some (.int a1), some (.long a2), none, some (.long a2), none, some (.int 0), none]) dX2_withFisher_4 (Nat.le_of_ble_eq_true rfl) rfl rfl ?_
  obtain ⟨r2, hr2, hf⟩ := fbind hf
  refine v_X2_withFisher_L6 gF hr2 ?_
  refine V.iconst (v := 0) dX2_withFisher_35 rfl ?_
  refine V.istore (i := 6) (L' := [some (.ref 0), some (.int a1), some (.long a2), none, some (.long r2.1), none, some (.int 0), none]) dX2_withFisher_36 (Nat.le_of_ble_eq_true rfl) rfl rfl ?_
  obtain ⟨r4, hr4, hf⟩ := fbind hf
  refine v_X2_withFisher_L38 gF hr4 ?_
  refine V.iconst (v := 0) dX2_withFisher_67 rfl ?_
  refine V.istore (i := 6) (L' := [some (.ref 0), some (.int a1), some (.long a2), none, some (.long r4.1), none, some (.int 0), none]) dX2_withFisher_68 (Nat.le_of_ble_eq_true rfl) rfl rfl ?_
  obtain ⟨r6, hr6, hf⟩ := fbind hf
  refine v_X2_withFisher_L70 gF hr6 ?_
  refine V.lload (i := 4) dX2_withFisher_113 rfl ?_
  obtain rfl := Option.some.inj hf
  exact V.lret dX2_withFisher_115 rfl (Nat.le_of_ble_eq_true rfl) (Nat.le_of_ble_eq_true rfl) rfl
def k_X2_withKnots : fK := (yX2_withKnots, cX2_withKnots, 10, (some .long), [], (3, 71), (0, 0), (0, 0))
theorem cal_X2_withKnots : fCal k_X2_withKnots 4 := ⟨⟨wc462, w91⟩, ⟨by decide +kernel, by decide +kernel⟩, by decide +kernel, by decide +kernel⟩
def s_X2_withKnots_L24 (p1 : Int32) (p2 : Int32) (p8 : Int32) (State_cells : Nat → Int32) : Nat → Int64 → Int32 → Option (Int64 × Int32)
  | 0, _, _ => none
  | n + 1, x5, x9 => if (2 < x9 : Prop) then (some (x5, x9)) else ((s_X8_ofKnot p1 p2 p8 x9 State_cells).bind fun v2 => s_X2_withKnots_L24 p1 p2 p8 State_cells n ((31 * x5) + (Int32.toInt64 v2)) (x9 + 1))
set_option maxHeartbeats 4000000 in
set_option maxRecDepth 100000 in
theorem v_X2_withKnots_L24 {out : fO} {σ' : List fE} {p1 : Int32} {p2 : Int32} {p3 : Int64} {p7 : Int32} {p8 : Int32} {State_cells : Nat → Int32} : ∀ (n : Nat) {x5 : Int64} {x9 : Int32} {res : Int64 × Int32} (hf : s_X2_withKnots_L24 p1 p2 p8 State_cells n x5 x9 = some res) (hx : V (fXm 2 k_X2_withKnots out σ') (krm k_X2_withKnots) k_X2_withKnots 2 56 [some (.ref 0), some (.int p1), some (.int p2), some (.long p3), none, some (.long res.1), none, some (.int p7), some (.int p8), some (.int res.2)] [] [.inl (3, [.ref 1]), .inr (910, .inl State_cells)] 0 0), V (fXm 2 k_X2_withKnots out σ') (krm k_X2_withKnots) k_X2_withKnots 2 24 [some (.ref 0), some (.int p1), some (.int p2), some (.long p3), none, some (.long x5), none, some (.int p7), some (.int p8), some (.int x9)] [] [.inl (3, [.ref 1]), .inr (910, .inl State_cells)] 0 0 := by
  intro n
  induction n with
  | zero =>
    intro x5 x9 res hf hx
    rw [s_X2_withKnots_L24] at hf
    cases hf
  | succ n ih =>
    intro x5 x9 res hf hx
    rw [s_X2_withKnots_L24] at hf
    refine V.iload (i := 9) dX2_withKnots_24 rfl ?_
    refine V.iconst (v := 2) dX2_withKnots_26 rfl ?_
    refine V.icmp_gt (tgt := 56) dX2_withKnots_27 (by decide) (fun h => ?_) (fun h => ?_)
    · have hf := fif_t h hf
      obtain rfl := Option.some.inj hf
      exact hx
    · have hf := fif_f h hf
      refine V.ldc2 (v := 31) dX2_withKnots_30 w397 ?_
      refine V.lload (i := 5) dX2_withKnots_33 rfl ?_
      refine V.lmul dX2_withKnots_35 ?_
      refine V.aload_n (i := 0) dX2_withKnots_36 rfl rfl ?_
      refine V.iload_n (i := 1) dX2_withKnots_37 rfl rfl ?_
      refine V.iload_n (i := 2) dX2_withKnots_38 rfl rfl ?_
      refine V.iload (i := 8) dX2_withKnots_39 rfl ?_
      refine V.iload (i := 9) dX2_withKnots_41 rfl ?_
      obtain ⟨v2, hv2, hf⟩ := fbind hf
      refine V.callSn (pl := [0, 1]) (σ' := [.inl (3, [.ref 1]), .inr (910, .inl State_cells)]) (st2 := [.int v2, .long (31 * x5)]) (cl2 := 0) (sl2 := 0) (ct_X8_ofKnot (a1 := p1) (a2 := p2) (a3 := p8) (a4 := x9) (State_cells := State_cells) hv2) dX2_withKnots_43 w464 w465 cal_X8_ofKnot ⟨⟨Nat.le_of_ble_eq_true rfl, Nat.le_of_ble_eq_true rfl⟩, Nat.le_of_ble_eq_true rfl, Nat.le_of_ble_eq_true rfl⟩ (Nat.le_of_ble_eq_true rfl) rfl ⟨rfl, ⟨by decide, by decide⟩, rfl, (fr_cons (Or.inl (Nat.le_of_ble_eq_true rfl)) (fr_nil)), rfl⟩ fr_i rfl rfl rfl rfl ?_
      refine V.i2l dX2_withKnots_46 ?_
      refine V.ladd dX2_withKnots_47 ?_
      refine V.lstore (i := 5) (L' := [some (.ref 0), some (.int p1), some (.int p2), some (.long p3), none, some (.long ((31 * x5) + (Int32.toInt64 v2))), none, some (.int p7), some (.int p8), some (.int x9)]) dX2_withKnots_48 (Nat.le_of_ble_eq_true rfl) rfl rfl ?_
      refine V.iinc (i := 9) (v := (x9 + 1)) (L' := [some (.ref 0), some (.int p1), some (.int p2), some (.long p3), none, some (.long ((31 * x5) + (Int32.toInt64 v2))), none, some (.int p7), some (.int p8), some (.int (x9 + 1))]) dX2_withKnots_50 rfl rfl (Nat.le_of_ble_eq_true rfl) rfl rfl ?_
      refine V.goto (tgt := 24) dX2_withKnots_53 (by decide) ?_
      exact ih hf hx
def s_X2_withKnots_L14 (p1 : Int32) (p2 : Int32) (p7 : Int32) (State_cells : Nat → Int32) : Nat → Int64 → Int32 → Option (Int64 × Int32)
  | 0, _, _ => none
  | n + 1, x5, x8 => if (p7 ≤ x8 : Prop) then (some (x5, x8)) else ((s_X2_withKnots_L24 p1 p2 x8 State_cells gF x5 0).bind fun r3 => s_X2_withKnots_L14 p1 p2 p7 State_cells n r3.1 (x8 + 1))
set_option maxHeartbeats 4000000 in
set_option maxRecDepth 100000 in
theorem v_X2_withKnots_L14 {out : fO} {σ' : List fE} {p1 : Int32} {p2 : Int32} {p3 : Int64} {p7 : Int32} {State_cells : Nat → Int32} : ∀ (n : Nat) {x5 : Int64} {x8 : Int32} {res : Int64 × Int32} (hf : s_X2_withKnots_L14 p1 p2 p7 State_cells n x5 x8 = some res) (hx : V (fXm 2 k_X2_withKnots out σ') (krm k_X2_withKnots) k_X2_withKnots 2 62 [some (.ref 0), some (.int p1), some (.int p2), some (.long p3), none, some (.long res.1), none, some (.int p7), some (.int res.2), none] [] [.inl (3, [.ref 1]), .inr (910, .inl State_cells)] 0 0), V (fXm 2 k_X2_withKnots out σ') (krm k_X2_withKnots) k_X2_withKnots 2 14 [some (.ref 0), some (.int p1), some (.int p2), some (.long p3), none, some (.long x5), none, some (.int p7), some (.int x8), none] [] [.inl (3, [.ref 1]), .inr (910, .inl State_cells)] 0 0 := by
  intro n
  induction n with
  | zero =>
    intro x5 x8 res hf hx
    rw [s_X2_withKnots_L14] at hf
    cases hf
  | succ n ih =>
    intro x5 x8 res hf hx
    rw [s_X2_withKnots_L14] at hf
    refine V.iload (i := 8) dX2_withKnots_14 rfl ?_
    refine V.iload (i := 7) dX2_withKnots_16 rfl ?_
    refine V.icmp_ge (tgt := 62) dX2_withKnots_18 (by decide) (fun h => ?_) (fun h => ?_)
    · have hf := fif_t h hf
      obtain rfl := Option.some.inj hf
      exact hx
    · have hf := fif_f h hf
      refine V.iconst (v := 0) dX2_withKnots_21 rfl ?_
      refine V.istore (i := 9) (L' := [some (.ref 0), some (.int p1), some (.int p2), some (.long p3), none, some (.long x5), none, some (.int p7), some (.int x8), some (.int 0)]) dX2_withKnots_22 (Nat.le_of_ble_eq_true rfl) rfl rfl ?_
      obtain ⟨r3, hr3, hf⟩ := fbind hf
      refine v_X2_withKnots_L24 gF hr3 ?_
      refine V.iinc (i := 8) (v := (x8 + 1)) (L' := [some (.ref 0), some (.int p1), some (.int p2), some (.long p3), none, some (.long r3.1), none, some (.int p7), some (.int (x8 + 1)), some (.int r3.2)]) dX2_withKnots_56 rfl rfl (Nat.le_of_ble_eq_true rfl) rfl rfl ?_
      refine V.goto (tgt := 14) dX2_withKnots_59 (by decide) ?_
      exact V.locs (L' := [some (.ref 0), some (.int p1), some (.int p2), some (.long p3), none, some (.long r3.1), none, some (.int p7), some (.int (x8 + 1)), none]) ⟨rfl, ⟨rfl, ⟨rfl, ⟨rfl, ⟨rfl, ⟨rfl, ⟨rfl, trivial⟩⟩⟩⟩⟩⟩⟩ (ih hf hx)
def s_X2_withKnots (a1 : Int32) (a2 : Int32) (a3 : Int64) (State_cells : Nat → Int32) : Option (Int64) := (s_X7_knots a1 a2 State_cells).bind fun v1 => (s_X2_withKnots_L14 a1 a2 v1 State_cells gF a3 0).bind fun r4 => some r4.1
set_option maxHeartbeats 4000000 in
set_option maxRecDepth 100000 in
theorem ct_X2_withKnots {a1 : Int32} {a2 : Int32} {a3 : Int64} {State_cells : Nat → Int32} {res : Int64} (hf : s_X2_withKnots a1 a2 a3 State_cells = some res) : Ct k_X2_withKnots [.ref 0, .int a1, .int a2, .long a3] [.inl (3, [.ref 1]), .inr (910, .inl State_cells)] (.inl (some (.long res))) [.inl (3, [.ref 1]), .inr (910, .inl State_cells)] := by
  unfold s_X2_withKnots at hf
  refine Ct.of (L := [some (.ref 0), some (.int a1), some (.int a2), some (.long a3), none, none, none, none, none, none]) cal_X2_withKnots (fent_pad (j := 5) rfl) (Nat.le_of_ble_eq_true rfl) ?_
  refine V.lload_n (i := 3) dX2_withKnots_0 rfl rfl ?_
  refine V.lstore (i := 5) (L' := [some (.ref 0), some (.int a1), some (.int a2), some (.long a3), none, some (.long a3), none, none, none, none]) dX2_withKnots_1 (Nat.le_of_ble_eq_true rfl) rfl rfl ?_
  refine V.aload_n (i := 0) dX2_withKnots_3 rfl rfl ?_
  refine V.iload_n (i := 1) dX2_withKnots_4 rfl rfl ?_
  refine V.iload_n (i := 2) dX2_withKnots_5 rfl rfl ?_
  obtain ⟨v1, hv1, hf⟩ := fbind hf
  refine V.callVn (pl := [0, 1]) (σ' := [.inl (3, [.ref 1]), .inr (910, .inl State_cells)]) (st2 := [.int v1]) (cl2 := 0) (sl2 := 0) (ct_X7_knots (a1 := a1) (a2 := a2) (State_cells := State_cells) hv1) dX2_withKnots_6 w463 ⟨w336, w337⟩ cal_X7_knots rfl ⟨⟨Nat.le_of_ble_eq_true rfl, Nat.le_of_ble_eq_true rfl⟩, Nat.le_of_ble_eq_true rfl, Nat.le_of_ble_eq_true rfl⟩ (Nat.le_of_ble_eq_true rfl) (Or.inl ⟨_, _, _, _, rfl, rfl⟩) rfl ⟨rfl, ⟨by decide, by decide⟩, rfl, (fr_cons (Or.inl (Nat.le_of_ble_eq_true rfl)) (fr_nil)), rfl⟩ fr_i rfl rfl rfl rfl ?_
  refine V.istore (i := 7) (L' := [some (.ref 0), some (.int a1), some (.int a2), some (.long a3), none, some (.long a3), none, some (.int v1), none, none]) dX2_withKnots_9 (Nat.le_of_ble_eq_true rfl) rfl rfl ?_
  refine V.iconst (v := 0) dX2_withKnots_11 rfl ?_
  refine V.istore (i := 8) (L' := [some (.ref 0), some (.int a1), some (.int a2), some (.long a3), none, some (.long a3), none, some (.int v1), some (.int 0), none]) dX2_withKnots_12 (Nat.le_of_ble_eq_true rfl) rfl rfl ?_
  obtain ⟨r4, hr4, hf⟩ := fbind hf
  refine v_X2_withKnots_L14 gF hr4 ?_
  refine V.lload (i := 5) dX2_withKnots_62 rfl ?_
  obtain rfl := Option.some.inj hf
  exact V.lret dX2_withKnots_64 rfl (Nat.le_of_ble_eq_true rfl) (Nat.le_of_ble_eq_true rfl) rfl
def k_X2_withNames : fK := (yX2_withNames, cX2_withNames, 9, (some .long), [], (5, 124), (0, 0), (0, 0))
theorem cal_X2_withNames : fCal k_X2_withNames 3 := ⟨⟨wc451, w91⟩, ⟨by decide +kernel, by decide +kernel⟩, by decide +kernel, by decide +kernel⟩
def s_X2_withNames_L23 (p1 : Int32) (p7 : Int32) (State_cells : Nat → Int32) : Nat → Int64 → Int32 → Option (Int64 × Int32)
  | 0, _, _ => none
  | n + 1, x4, x8 => if (4 < x8 : Prop) then (some (x4, x8)) else ((s_X8_ofName p1 p7 x8 State_cells).bind fun v2 => s_X2_withNames_L23 p1 p7 State_cells n ((31 * x4) + (Int32.toInt64 v2)) (x8 + 1))
set_option maxHeartbeats 4000000 in
set_option maxRecDepth 100000 in
theorem v_X2_withNames_L23 {out : fO} {σ' : List fE} {p1 : Int32} {p2 : Int64} {p6 : Int32} {p7 : Int32} {State_cells : Nat → Int32} : ∀ (n : Nat) {x4 : Int64} {x8 : Int32} {res : Int64 × Int32} (hf : s_X2_withNames_L23 p1 p7 State_cells n x4 x8 = some res) (hx : V (fXm 2 k_X2_withNames out σ') (krm k_X2_withNames) k_X2_withNames 2 54 [some (.ref 0), some (.int p1), some (.long p2), none, some (.long res.1), none, some (.int p6), some (.int p7), some (.int res.2)] [] [.inl (3, [.ref 1]), .inr (910, .inl State_cells)] 0 0), V (fXm 2 k_X2_withNames out σ') (krm k_X2_withNames) k_X2_withNames 2 23 [some (.ref 0), some (.int p1), some (.long p2), none, some (.long x4), none, some (.int p6), some (.int p7), some (.int x8)] [] [.inl (3, [.ref 1]), .inr (910, .inl State_cells)] 0 0 := by
  intro n
  induction n with
  | zero =>
    intro x4 x8 res hf hx
    rw [s_X2_withNames_L23] at hf
    cases hf
  | succ n ih =>
    intro x4 x8 res hf hx
    rw [s_X2_withNames_L23] at hf
    refine V.iload (i := 8) dX2_withNames_23 rfl ?_
    refine V.iconst (v := 4) dX2_withNames_25 rfl ?_
    refine V.icmp_gt (tgt := 54) dX2_withNames_26 (by decide) (fun h => ?_) (fun h => ?_)
    · have hf := fif_t h hf
      obtain rfl := Option.some.inj hf
      exact hx
    · have hf := fif_f h hf
      refine V.ldc2 (v := 31) dX2_withNames_29 w397 ?_
      refine V.lload (i := 4) dX2_withNames_32 rfl ?_
      refine V.lmul dX2_withNames_34 ?_
      refine V.aload_n (i := 0) dX2_withNames_35 rfl rfl ?_
      refine V.iload_n (i := 1) dX2_withNames_36 rfl rfl ?_
      refine V.iload (i := 7) dX2_withNames_37 rfl ?_
      refine V.iload (i := 8) dX2_withNames_39 rfl ?_
      obtain ⟨v2, hv2, hf⟩ := fbind hf
      refine V.callSn (pl := [0, 1]) (σ' := [.inl (3, [.ref 1]), .inr (910, .inl State_cells)]) (st2 := [.int v2, .long (31 * x4)]) (cl2 := 0) (sl2 := 0) (ct_X8_ofName (a1 := p1) (a2 := p7) (a3 := x8) (State_cells := State_cells) hv2) dX2_withNames_41 w453 w454 cal_X8_ofName ⟨⟨Nat.le_of_ble_eq_true rfl, Nat.le_of_ble_eq_true rfl⟩, Nat.le_of_ble_eq_true rfl, Nat.le_of_ble_eq_true rfl⟩ (Nat.le_of_ble_eq_true rfl) rfl ⟨rfl, ⟨by decide, by decide⟩, rfl, (fr_cons (Or.inl (Nat.le_of_ble_eq_true rfl)) (fr_nil)), rfl⟩ fr_i rfl rfl rfl rfl ?_
      refine V.i2l dX2_withNames_44 ?_
      refine V.ladd dX2_withNames_45 ?_
      refine V.lstore (i := 4) (L' := [some (.ref 0), some (.int p1), some (.long p2), none, some (.long ((31 * x4) + (Int32.toInt64 v2))), none, some (.int p6), some (.int p7), some (.int x8)]) dX2_withNames_46 (Nat.le_of_ble_eq_true rfl) rfl rfl ?_
      refine V.iinc (i := 8) (v := (x8 + 1)) (L' := [some (.ref 0), some (.int p1), some (.long p2), none, some (.long ((31 * x4) + (Int32.toInt64 v2))), none, some (.int p6), some (.int p7), some (.int (x8 + 1))]) dX2_withNames_48 rfl rfl (Nat.le_of_ble_eq_true rfl) rfl rfl ?_
      refine V.goto (tgt := 23) dX2_withNames_51 (by decide) ?_
      exact ih hf hx
def s_X2_withNames_L13 (p1 : Int32) (p6 : Int32) (State_cells : Nat → Int32) : Nat → Int64 → Int32 → Option (Int64 × Int32)
  | 0, _, _ => none
  | n + 1, x4, x7 => if (p6 ≤ x7 : Prop) then (some (x4, x7)) else ((s_X2_withNames_L23 p1 x7 State_cells gF x4 0).bind fun r3 => (s_X2_withKnots p1 x7 r3.1 State_cells).bind fun v4 => s_X2_withNames_L13 p1 p6 State_cells n v4 (x7 + 1))
set_option maxHeartbeats 4000000 in
set_option maxRecDepth 100000 in
theorem v_X2_withNames_L13 {out : fO} {σ' : List fE} {p1 : Int32} {p2 : Int64} {p6 : Int32} {State_cells : Nat → Int32} : ∀ (n : Nat) {x4 : Int64} {x7 : Int32} {res : Int64 × Int32} (hf : s_X2_withNames_L13 p1 p6 State_cells n x4 x7 = some res) (hx : V (fXm 2 k_X2_withNames out σ') (krm k_X2_withNames) k_X2_withNames 2 71 [some (.ref 0), some (.int p1), some (.long p2), none, some (.long res.1), none, some (.int p6), some (.int res.2), none] [] [.inl (3, [.ref 1]), .inr (910, .inl State_cells)] 0 0), V (fXm 2 k_X2_withNames out σ') (krm k_X2_withNames) k_X2_withNames 2 13 [some (.ref 0), some (.int p1), some (.long p2), none, some (.long x4), none, some (.int p6), some (.int x7), none] [] [.inl (3, [.ref 1]), .inr (910, .inl State_cells)] 0 0 := by
  intro n
  induction n with
  | zero =>
    intro x4 x7 res hf hx
    rw [s_X2_withNames_L13] at hf
    cases hf
  | succ n ih =>
    intro x4 x7 res hf hx
    rw [s_X2_withNames_L13] at hf
    refine V.iload (i := 7) dX2_withNames_13 rfl ?_
    refine V.iload (i := 6) dX2_withNames_15 rfl ?_
    refine V.icmp_ge (tgt := 71) dX2_withNames_17 (by decide) (fun h => ?_) (fun h => ?_)
    · have hf := fif_t h hf
      obtain rfl := Option.some.inj hf
      exact hx
    · have hf := fif_f h hf
      refine V.iconst (v := 0) dX2_withNames_20 rfl ?_
      refine V.istore (i := 8) (L' := [some (.ref 0), some (.int p1), some (.long p2), none, some (.long x4), none, some (.int p6), some (.int x7), some (.int 0)]) dX2_withNames_21 (Nat.le_of_ble_eq_true rfl) rfl rfl ?_
      obtain ⟨r3, hr3, hf⟩ := fbind hf
      refine v_X2_withNames_L23 gF hr3 ?_
      refine V.aload_n (i := 0) dX2_withNames_54 rfl rfl ?_
      refine V.iload_n (i := 1) dX2_withNames_55 rfl rfl ?_
      refine V.iload (i := 7) dX2_withNames_56 rfl ?_
      refine V.lload (i := 4) dX2_withNames_58 rfl ?_
      obtain ⟨v4, hv4, hf⟩ := fbind hf
      refine V.callSn (pl := [0, 1]) (σ' := [.inl (3, [.ref 1]), .inr (910, .inl State_cells)]) (st2 := [.long v4]) (cl2 := 0) (sl2 := 0) (ct_X2_withKnots (a1 := p1) (a2 := x7) (a3 := r3.1) (State_cells := State_cells) hv4) dX2_withNames_60 w460 w461 cal_X2_withKnots ⟨⟨Nat.le_of_ble_eq_true rfl, Nat.le_of_ble_eq_true rfl⟩, Nat.le_of_ble_eq_true rfl, Nat.le_of_ble_eq_true rfl⟩ (Nat.le_of_ble_eq_true rfl) rfl ⟨rfl, ⟨by decide, by decide⟩, rfl, (fr_cons (Or.inl (Nat.le_of_ble_eq_true rfl)) (fr_nil)), rfl⟩ fr_l rfl rfl rfl rfl ?_
      refine V.lstore (i := 4) (L' := [some (.ref 0), some (.int p1), some (.long p2), none, some (.long v4), none, some (.int p6), some (.int x7), some (.int r3.2)]) dX2_withNames_63 (Nat.le_of_ble_eq_true rfl) rfl rfl ?_
      refine V.iinc (i := 7) (v := (x7 + 1)) (L' := [some (.ref 0), some (.int p1), some (.long p2), none, some (.long v4), none, some (.int p6), some (.int (x7 + 1)), some (.int r3.2)]) dX2_withNames_65 rfl rfl (Nat.le_of_ble_eq_true rfl) rfl rfl ?_
      refine V.goto (tgt := 13) dX2_withNames_68 (by decide) ?_
      exact V.locs (L' := [some (.ref 0), some (.int p1), some (.long p2), none, some (.long v4), none, some (.int p6), some (.int (x7 + 1)), none]) ⟨rfl, ⟨rfl, ⟨rfl, ⟨rfl, ⟨rfl, ⟨rfl, trivial⟩⟩⟩⟩⟩⟩ (ih hf hx)
def s_X2_withNames (a1 : Int32) (a2 : Int64) (State_cells : Nat → Int32) : Option (Int64) := (s_X7_names a1 State_cells).bind fun v1 => (s_X2_withNames_L13 a1 v1 State_cells gF a2 0).bind fun r5 => some r5.1
set_option maxHeartbeats 4000000 in
set_option maxRecDepth 100000 in
theorem ct_X2_withNames {a1 : Int32} {a2 : Int64} {State_cells : Nat → Int32} {res : Int64} (hf : s_X2_withNames a1 a2 State_cells = some res) : Ct k_X2_withNames [.ref 0, .int a1, .long a2] [.inl (3, [.ref 1]), .inr (910, .inl State_cells)] (.inl (some (.long res))) [.inl (3, [.ref 1]), .inr (910, .inl State_cells)] := by
  unfold s_X2_withNames at hf
  refine Ct.of (L := [some (.ref 0), some (.int a1), some (.long a2), none, none, none, none, none, none]) cal_X2_withNames (fent_pad (j := 5) rfl) (Nat.le_of_ble_eq_true rfl) ?_
  refine V.lload_n (i := 2) dX2_withNames_0 rfl rfl ?_
  refine V.lstore (i := 4) (L' := [some (.ref 0), some (.int a1), some (.long a2), none, some (.long a2), none, none, none, none]) dX2_withNames_1 (Nat.le_of_ble_eq_true rfl) rfl rfl ?_
  refine V.aload_n (i := 0) dX2_withNames_3 rfl rfl ?_
  refine V.iload_n (i := 1) dX2_withNames_4 rfl rfl ?_
  obtain ⟨v1, hv1, hf⟩ := fbind hf
  refine V.callVn (pl := [0, 1]) (σ' := [.inl (3, [.ref 1]), .inr (910, .inl State_cells)]) (st2 := [.int v1]) (cl2 := 0) (sl2 := 0) (ct_X7_names (a1 := a1) (State_cells := State_cells) hv1) dX2_withNames_5 w452 ⟨w328, w329⟩ cal_X7_names rfl ⟨⟨Nat.le_of_ble_eq_true rfl, Nat.le_of_ble_eq_true rfl⟩, Nat.le_of_ble_eq_true rfl, Nat.le_of_ble_eq_true rfl⟩ (Nat.le_of_ble_eq_true rfl) (Or.inl ⟨_, _, _, _, rfl, rfl⟩) rfl ⟨rfl, ⟨by decide, by decide⟩, rfl, (fr_cons (Or.inl (Nat.le_of_ble_eq_true rfl)) (fr_nil)), rfl⟩ fr_i rfl rfl rfl rfl ?_
  refine V.istore (i := 6) (L' := [some (.ref 0), some (.int a1), some (.long a2), none, some (.long a2), none, some (.int v1), none, none]) dX2_withNames_8 (Nat.le_of_ble_eq_true rfl) rfl rfl ?_
  refine V.iconst (v := 0) dX2_withNames_10 rfl ?_
  refine V.istore (i := 7) (L' := [some (.ref 0), some (.int a1), some (.long a2), none, some (.long a2), none, some (.int v1), some (.int 0), none]) dX2_withNames_11 (Nat.le_of_ble_eq_true rfl) rfl rfl ?_
  obtain ⟨r5, hr5, hf⟩ := fbind hf
  refine v_X2_withNames_L13 gF hr5 ?_
  refine V.lload (i := 4) dX2_withNames_71 rfl ?_
  obtain rfl := Option.some.inj hf
  exact V.lret dX2_withNames_73 rfl (Nat.le_of_ble_eq_true rfl) (Nat.le_of_ble_eq_true rfl) rfl
def k_X2_withEntries : fK := (yX2_withEntries, cX2_withEntries, 8, (some .long), [], (2, 43), (0, 0), (0, 0))
theorem cal_X2_withEntries : fCal k_X2_withEntries 2 := ⟨⟨wc470, w91⟩, ⟨by decide +kernel, by decide +kernel⟩, by decide +kernel, by decide +kernel⟩
def s_X2_withEntries_L23 (p6 : Int32) (State_cells : Nat → Int32) : Nat → Int64 → Int32 → Option (Int64 × Int32)
  | 0, _, _ => none
  | n + 1, x3, x7 => if (3 < x7 : Prop) then (some (x3, x7)) else ((s_X6_ofEntry p6 x7 State_cells).bind fun v2 => s_X2_withEntries_L23 p6 State_cells n ((31 * x3) + (Int32.toInt64 v2)) (x7 + 1))
set_option maxHeartbeats 4000000 in
set_option maxRecDepth 100000 in
theorem v_X2_withEntries_L23 {out : fO} {σ' : List fE} {p1 : Int64} {p5 : Int32} {p6 : Int32} {State_cells : Nat → Int32} : ∀ (n : Nat) {x3 : Int64} {x7 : Int32} {res : Int64 × Int32} (hf : s_X2_withEntries_L23 p6 State_cells n x3 x7 = some res) (hx : V (fXm 2 k_X2_withEntries out σ') (krm k_X2_withEntries) k_X2_withEntries 2 51 [some (.ref 0), some (.long p1), none, some (.long res.1), none, some (.int p5), some (.int p6), some (.int res.2)] [] [.inl (3, [.ref 1]), .inr (910, .inl State_cells)] 0 0), V (fXm 2 k_X2_withEntries out σ') (krm k_X2_withEntries) k_X2_withEntries 2 23 [some (.ref 0), some (.long p1), none, some (.long x3), none, some (.int p5), some (.int p6), some (.int x7)] [] [.inl (3, [.ref 1]), .inr (910, .inl State_cells)] 0 0 := by
  intro n
  induction n with
  | zero =>
    intro x3 x7 res hf hx
    rw [s_X2_withEntries_L23] at hf
    cases hf
  | succ n ih =>
    intro x3 x7 res hf hx
    rw [s_X2_withEntries_L23] at hf
    refine V.iload (i := 7) dX2_withEntries_23 rfl ?_
    refine V.iconst (v := 3) dX2_withEntries_25 rfl ?_
    refine V.icmp_gt (tgt := 51) dX2_withEntries_26 (by decide) (fun h => ?_) (fun h => ?_)
    · have hf := fif_t h hf
      obtain rfl := Option.some.inj hf
      exact hx
    · have hf := fif_f h hf
      refine V.ldc2 (v := 31) dX2_withEntries_29 w397 ?_
      refine V.lload_n (i := 3) dX2_withEntries_32 rfl rfl ?_
      refine V.lmul dX2_withEntries_33 ?_
      refine V.aload_n (i := 0) dX2_withEntries_34 rfl rfl ?_
      refine V.iload (i := 6) dX2_withEntries_35 rfl ?_
      refine V.iload (i := 7) dX2_withEntries_37 rfl ?_
      obtain ⟨v2, hv2, hf⟩ := fbind hf
      refine V.callSn (pl := [0, 1]) (σ' := [.inl (3, [.ref 1]), .inr (910, .inl State_cells)]) (st2 := [.int v2, .long (31 * x3)]) (cl2 := 0) (sl2 := 0) (ct_X6_ofEntry (a1 := p6) (a2 := x7) (State_cells := State_cells) hv2) dX2_withEntries_39 w472 w473 cal_X6_ofEntry ⟨⟨Nat.le_of_ble_eq_true rfl, Nat.le_of_ble_eq_true rfl⟩, Nat.le_of_ble_eq_true rfl, Nat.le_of_ble_eq_true rfl⟩ (Nat.le_of_ble_eq_true rfl) rfl ⟨rfl, ⟨by decide, by decide⟩, rfl, (fr_cons (Or.inl (Nat.le_of_ble_eq_true rfl)) (fr_nil)), rfl⟩ fr_i rfl rfl rfl rfl ?_
      refine V.i2l dX2_withEntries_42 ?_
      refine V.ladd dX2_withEntries_43 ?_
      refine V.lstore_n (i := 3) (L' := [some (.ref 0), some (.long p1), none, some (.long ((31 * x3) + (Int32.toInt64 v2))), none, some (.int p5), some (.int p6), some (.int x7)]) dX2_withEntries_44 rfl (Nat.le_of_ble_eq_true rfl) rfl rfl ?_
      refine V.iinc (i := 7) (v := (x7 + 1)) (L' := [some (.ref 0), some (.long p1), none, some (.long ((31 * x3) + (Int32.toInt64 v2))), none, some (.int p5), some (.int p6), some (.int (x7 + 1))]) dX2_withEntries_45 rfl rfl (Nat.le_of_ble_eq_true rfl) rfl rfl ?_
      refine V.goto (tgt := 23) dX2_withEntries_48 (by decide) ?_
      exact ih hf hx
def s_X2_withEntries_L13 (p5 : Int32) (State_cells : Nat → Int32) : Nat → Int64 → Int32 → Option (Int64 × Int32)
  | 0, _, _ => none
  | n + 1, x3, x6 => if (p5 ≤ x6 : Prop) then (some (x3, x6)) else ((s_X2_withEntries_L23 x6 State_cells gF x3 0).bind fun r3 => s_X2_withEntries_L13 p5 State_cells n r3.1 (x6 + 1))
set_option maxHeartbeats 4000000 in
set_option maxRecDepth 100000 in
theorem v_X2_withEntries_L13 {out : fO} {σ' : List fE} {p1 : Int64} {p5 : Int32} {State_cells : Nat → Int32} : ∀ (n : Nat) {x3 : Int64} {x6 : Int32} {res : Int64 × Int32} (hf : s_X2_withEntries_L13 p5 State_cells n x3 x6 = some res) (hx : V (fXm 2 k_X2_withEntries out σ') (krm k_X2_withEntries) k_X2_withEntries 2 57 [some (.ref 0), some (.long p1), none, some (.long res.1), none, some (.int p5), some (.int res.2), none] [] [.inl (3, [.ref 1]), .inr (910, .inl State_cells)] 0 0), V (fXm 2 k_X2_withEntries out σ') (krm k_X2_withEntries) k_X2_withEntries 2 13 [some (.ref 0), some (.long p1), none, some (.long x3), none, some (.int p5), some (.int x6), none] [] [.inl (3, [.ref 1]), .inr (910, .inl State_cells)] 0 0 := by
  intro n
  induction n with
  | zero =>
    intro x3 x6 res hf hx
    rw [s_X2_withEntries_L13] at hf
    cases hf
  | succ n ih =>
    intro x3 x6 res hf hx
    rw [s_X2_withEntries_L13] at hf
    refine V.iload (i := 6) dX2_withEntries_13 rfl ?_
    refine V.iload (i := 5) dX2_withEntries_15 rfl ?_
    refine V.icmp_ge (tgt := 57) dX2_withEntries_17 (by decide) (fun h => ?_) (fun h => ?_)
    · have hf := fif_t h hf
      obtain rfl := Option.some.inj hf
      exact hx
    · have hf := fif_f h hf
      refine V.iconst (v := 0) dX2_withEntries_20 rfl ?_
      refine V.istore (i := 7) (L' := [some (.ref 0), some (.long p1), none, some (.long x3), none, some (.int p5), some (.int x6), some (.int 0)]) dX2_withEntries_21 (Nat.le_of_ble_eq_true rfl) rfl rfl ?_
      obtain ⟨r3, hr3, hf⟩ := fbind hf
      refine v_X2_withEntries_L23 gF hr3 ?_
      refine V.iinc (i := 6) (v := (x6 + 1)) (L' := [some (.ref 0), some (.long p1), none, some (.long r3.1), none, some (.int p5), some (.int (x6 + 1)), some (.int r3.2)]) dX2_withEntries_51 rfl rfl (Nat.le_of_ble_eq_true rfl) rfl rfl ?_
      refine V.goto (tgt := 13) dX2_withEntries_54 (by decide) ?_
      exact V.locs (L' := [some (.ref 0), some (.long p1), none, some (.long r3.1), none, some (.int p5), some (.int (x6 + 1)), none]) ⟨rfl, ⟨rfl, ⟨rfl, ⟨rfl, ⟨rfl, trivial⟩⟩⟩⟩⟩ (ih hf hx)
def s_X2_withEntries (a1 : Int64) (State_cells : Nat → Int32) : Option (Int64) := (s_X7_at 7 State_cells).bind fun v1 => (s_X2_withEntries_L13 v1 State_cells gF a1 0).bind fun r4 => some r4.1
set_option maxHeartbeats 4000000 in
set_option maxRecDepth 100000 in
theorem ct_X2_withEntries {a1 : Int64} {State_cells : Nat → Int32} {res : Int64} (hf : s_X2_withEntries a1 State_cells = some res) : Ct k_X2_withEntries [.ref 0, .long a1] [.inl (3, [.ref 1]), .inr (910, .inl State_cells)] (.inl (some (.long res))) [.inl (3, [.ref 1]), .inr (910, .inl State_cells)] := by
  unfold s_X2_withEntries at hf
  refine Ct.of (L := [some (.ref 0), some (.long a1), none, none, none, none, none, none]) cal_X2_withEntries (fent_pad (j := 5) rfl) (Nat.le_of_ble_eq_true rfl) ?_
  refine V.lload_n (i := 1) dX2_withEntries_0 rfl rfl ?_
  refine V.lstore_n (i := 3) (L' := [some (.ref 0), some (.long a1), none, some (.long a1), none, none, none, none]) dX2_withEntries_1 rfl (Nat.le_of_ble_eq_true rfl) rfl rfl ?_
  refine V.aload_n (i := 0) dX2_withEntries_2 rfl rfl ?_
  refine V.bipush (v := 7) dX2_withEntries_3 rfl ?_
  obtain ⟨v1, hv1, hf⟩ := fbind hf
  refine V.callVn (pl := [0, 1]) (σ' := [.inl (3, [.ref 1]), .inr (910, .inl State_cells)]) (st2 := [.int v1]) (cl2 := 0) (sl2 := 0) (ct_X7_at (a1 := 7) (State_cells := State_cells) hv1) dX2_withEntries_5 w471 ⟨w314, w315⟩ cal_X7_at rfl ⟨⟨Nat.le_of_ble_eq_true rfl, Nat.le_of_ble_eq_true rfl⟩, Nat.le_of_ble_eq_true rfl, Nat.le_of_ble_eq_true rfl⟩ (Nat.le_of_ble_eq_true rfl) (Or.inl ⟨_, _, _, _, rfl, rfl⟩) rfl ⟨rfl, ⟨by decide, by decide⟩, rfl, (fr_cons (Or.inl (Nat.le_of_ble_eq_true rfl)) (fr_nil)), rfl⟩ fr_i rfl rfl rfl rfl ?_
  refine V.istore (i := 5) (L' := [some (.ref 0), some (.long a1), none, some (.long a1), none, some (.int v1), none, none]) dX2_withEntries_8 (Nat.le_of_ble_eq_true rfl) rfl rfl ?_
  refine V.iconst (v := 0) dX2_withEntries_10 rfl ?_
  refine V.istore (i := 6) (L' := [some (.ref 0), some (.long a1), none, some (.long a1), none, some (.int v1), some (.int 0), none]) dX2_withEntries_11 (Nat.le_of_ble_eq_true rfl) rfl rfl ?_
  obtain ⟨r4, hr4, hf⟩ := fbind hf
  refine v_X2_withEntries_L13 gF hr4 ?_
  refine V.lload_n (i := 3) dX2_withEntries_57 rfl rfl ?_
  obtain rfl := Option.some.inj hf
  exact V.lret dX2_withEntries_58 rfl (Nat.le_of_ble_eq_true rfl) (Nat.le_of_ble_eq_true rfl) rfl
def k_X2_withBuffer : fK := (yX2_withBuffer, cX2_withBuffer, 6, (some .long), [], (1, 21), (0, 0), (0, 0))
theorem cal_X2_withBuffer : fCal k_X2_withBuffer 2 := ⟨⟨wc491, w91⟩, ⟨by decide +kernel, by decide +kernel⟩, by decide +kernel, by decide +kernel⟩
def s_X2_withBuffer_L15 (Buffer_size : Int32) (Buffer_codes : Nat → Int32) : Nat → Int64 → Int32 → Option (Int64 × Int32)
  | 0, _, _ => none
  | n + 1, x3, x5 => (s_X1_size Buffer_size).bind fun v2 => if (v2 ≤ x5 : Prop) then (some (x3, x5)) else ((s_X1_at x5 Buffer_size Buffer_codes).bind fun v3 => s_X2_withBuffer_L15 Buffer_size Buffer_codes n ((31 * x3) + (Int32.toInt64 v3)) (x5 + 1))
set_option maxHeartbeats 4000000 in
set_option maxRecDepth 100000 in
theorem v_X2_withBuffer_L15 {out : fO} {σ' : List fE} {p1 : Int64} {Buffer_size : Int32} {Buffer_codes : Nat → Int32} : ∀ (n : Nat) {x3 : Int64} {x5 : Int32} {res : Int64 × Int32} (hf : s_X2_withBuffer_L15 Buffer_size Buffer_codes n x3 x5 = some res) (hx : V (fXm 2 k_X2_withBuffer out σ') (krm k_X2_withBuffer) k_X2_withBuffer 2 44 [some (.ref 0), some (.long p1), none, some (.long res.1), none, some (.int res.2)] [] [.inl (0, [.ref 1, .int Buffer_size]), .inr (60, .inl Buffer_codes)] 0 0), V (fXm 2 k_X2_withBuffer out σ') (krm k_X2_withBuffer) k_X2_withBuffer 2 15 [some (.ref 0), some (.long p1), none, some (.long x3), none, some (.int x5)] [] [.inl (0, [.ref 1, .int Buffer_size]), .inr (60, .inl Buffer_codes)] 0 0 := by
  intro n
  induction n with
  | zero =>
    intro x3 x5 res hf hx
    rw [s_X2_withBuffer_L15] at hf
    cases hf
  | succ n ih =>
    intro x3 x5 res hf hx
    rw [s_X2_withBuffer_L15] at hf
    refine V.iload (i := 5) dX2_withBuffer_15 rfl ?_
    refine V.aload_n (i := 0) dX2_withBuffer_17 rfl rfl ?_
    obtain ⟨v2, hv2, hf⟩ := fbind hf
    refine V.callVn (pl := [0, 1]) (σ' := [.inl (0, [.ref 1, .int Buffer_size]), .inr (60, .inl Buffer_codes)]) (st2 := [.int v2, .int x5]) (cl2 := 0) (sl2 := 0) (ct_X1_size (Buffer_size := Buffer_size) (Buffer_codes := Buffer_codes) hv2) dX2_withBuffer_18 w492 ⟨w214, w215⟩ cal_X1_size rfl ⟨⟨Nat.le_of_ble_eq_true rfl, Nat.le_of_ble_eq_true rfl⟩, Nat.le_of_ble_eq_true rfl, Nat.le_of_ble_eq_true rfl⟩ (Nat.le_of_ble_eq_true rfl) (Or.inl ⟨_, _, _, _, rfl, rfl⟩) rfl ⟨rfl, ⟨by decide, by decide⟩, rfl, (fr_cons (Or.inl (Nat.le_of_ble_eq_true rfl)) (fr_nil)), rfl⟩ fr_i rfl rfl rfl rfl ?_
    refine V.icmp_ge (tgt := 44) dX2_withBuffer_21 (by decide) (fun h => ?_) (fun h => ?_)
    · have hf := fif_t h hf
      obtain rfl := Option.some.inj hf
      exact hx
    · have hf := fif_f h hf
      refine V.ldc2 (v := 31) dX2_withBuffer_24 w397 ?_
      refine V.lload_n (i := 3) dX2_withBuffer_27 rfl rfl ?_
      refine V.lmul dX2_withBuffer_28 ?_
      refine V.aload_n (i := 0) dX2_withBuffer_29 rfl rfl ?_
      refine V.iload (i := 5) dX2_withBuffer_30 rfl ?_
      obtain ⟨v3, hv3, hf⟩ := fbind hf
      refine V.callVn (pl := [0, 1]) (σ' := [.inl (0, [.ref 1, .int Buffer_size]), .inr (60, .inl Buffer_codes)]) (st2 := [.int v3, .long (31 * x3)]) (cl2 := 0) (sl2 := 0) (ct_X1_at (a1 := x5) (Buffer_size := Buffer_size) (Buffer_codes := Buffer_codes) hv3) dX2_withBuffer_32 w493 ⟨w218, w219⟩ cal_X1_at rfl ⟨⟨Nat.le_of_ble_eq_true rfl, Nat.le_of_ble_eq_true rfl⟩, Nat.le_of_ble_eq_true rfl, Nat.le_of_ble_eq_true rfl⟩ (Nat.le_of_ble_eq_true rfl) (Or.inl ⟨_, _, _, _, rfl, rfl⟩) rfl ⟨rfl, ⟨by decide, by decide⟩, rfl, (fr_cons (Or.inl (Nat.le_of_ble_eq_true rfl)) (fr_nil)), rfl⟩ fr_i rfl rfl rfl rfl ?_
      refine V.i2l dX2_withBuffer_35 ?_
      refine V.ladd dX2_withBuffer_36 ?_
      refine V.lstore_n (i := 3) (L' := [some (.ref 0), some (.long p1), none, some (.long ((31 * x3) + (Int32.toInt64 v3))), none, some (.int x5)]) dX2_withBuffer_37 rfl (Nat.le_of_ble_eq_true rfl) rfl rfl ?_
      refine V.iinc (i := 5) (v := (x5 + 1)) (L' := [some (.ref 0), some (.long p1), none, some (.long ((31 * x3) + (Int32.toInt64 v3))), none, some (.int (x5 + 1))]) dX2_withBuffer_38 rfl rfl (Nat.le_of_ble_eq_true rfl) rfl rfl ?_
      refine V.goto (tgt := 15) dX2_withBuffer_41 (by decide) ?_
      exact ih hf hx
def s_X2_withBuffer (a1 : Int64) (Buffer_size : Int32) (Buffer_codes : Nat → Int32) : Option (Int64) := (s_X1_size Buffer_size).bind fun v1 => (s_X2_withBuffer_L15 Buffer_size Buffer_codes gF ((31 * a1) + (Int32.toInt64 v1)) 0).bind fun r4 => some r4.1
set_option maxHeartbeats 4000000 in
set_option maxRecDepth 100000 in
theorem ct_X2_withBuffer {a1 : Int64} {Buffer_size : Int32} {Buffer_codes : Nat → Int32} {res : Int64} (hf : s_X2_withBuffer a1 Buffer_size Buffer_codes = some res) : Ct k_X2_withBuffer [.ref 0, .long a1] [.inl (0, [.ref 1, .int Buffer_size]), .inr (60, .inl Buffer_codes)] (.inl (some (.long res))) [.inl (0, [.ref 1, .int Buffer_size]), .inr (60, .inl Buffer_codes)] := by
  unfold s_X2_withBuffer at hf
  refine Ct.of (L := [some (.ref 0), some (.long a1), none, none, none, none]) cal_X2_withBuffer (fent_pad (j := 3) rfl) (Nat.le_of_ble_eq_true rfl) ?_
  refine V.ldc2 (v := 31) dX2_withBuffer_0 w397 ?_
  refine V.lload_n (i := 1) dX2_withBuffer_3 rfl rfl ?_
  refine V.lmul dX2_withBuffer_4 ?_
  refine V.aload_n (i := 0) dX2_withBuffer_5 rfl rfl ?_
  obtain ⟨v1, hv1, hf⟩ := fbind hf
  refine V.callVn (pl := [0, 1]) (σ' := [.inl (0, [.ref 1, .int Buffer_size]), .inr (60, .inl Buffer_codes)]) (st2 := [.int v1, .long (31 * a1)]) (cl2 := 0) (sl2 := 0) (ct_X1_size (Buffer_size := Buffer_size) (Buffer_codes := Buffer_codes) hv1) dX2_withBuffer_6 w492 ⟨w214, w215⟩ cal_X1_size rfl ⟨⟨Nat.le_of_ble_eq_true rfl, Nat.le_of_ble_eq_true rfl⟩, Nat.le_of_ble_eq_true rfl, Nat.le_of_ble_eq_true rfl⟩ (Nat.le_of_ble_eq_true rfl) (Or.inl ⟨_, _, _, _, rfl, rfl⟩) rfl ⟨rfl, ⟨by decide, by decide⟩, rfl, (fr_cons (Or.inl (Nat.le_of_ble_eq_true rfl)) (fr_nil)), rfl⟩ fr_i rfl rfl rfl rfl ?_
  refine V.i2l dX2_withBuffer_9 ?_
  refine V.ladd dX2_withBuffer_10 ?_
  refine V.lstore_n (i := 3) (L' := [some (.ref 0), some (.long a1), none, some (.long ((31 * a1) + (Int32.toInt64 v1))), none, none]) dX2_withBuffer_11 rfl (Nat.le_of_ble_eq_true rfl) rfl rfl ?_
  refine V.iconst (v := 0) dX2_withBuffer_12 rfl ?_
  refine V.istore (i := 5) (L' := [some (.ref 0), some (.long a1), none, some (.long ((31 * a1) + (Int32.toInt64 v1))), none, some (.int 0)]) dX2_withBuffer_13 (Nat.le_of_ble_eq_true rfl) rfl rfl ?_
  obtain ⟨r4, hr4, hf⟩ := fbind hf
  refine v_X2_withBuffer_L15 gF hr4 ?_
  refine V.lload_n (i := 3) dX2_withBuffer_44 rfl rfl ?_
  obtain rfl := Option.some.inj hf
  exact V.lret dX2_withBuffer_45 rfl (Nat.le_of_ble_eq_true rfl) (Nat.le_of_ble_eq_true rfl) rfl
def k_X2_bitsOfShare : fK := (yX2_bitsOfShare, cX2_bitsOfShare, 6, (some .long), [], (0, 0), (0, 0), (0, 0))
theorem cal_X2_bitsOfShare : fCal k_X2_bitsOfShare 1 := ⟨⟨wc485, w91⟩, ⟨by decide +kernel, by decide +kernel⟩, by decide +kernel, by decide +kernel⟩
def s_X2_bitsOfShare_L15 : Nat → UInt64 → Int64 → Option (UInt64 × Int64)
  | 0, _, _ => none
  | n + 1, x2, x4 => if (0 ≤ (Op.cmpValue (FP.dcmp x2 FP.dconst1) .g) : Prop) then (some (x2, x4)) else (if ((lg_cmp x4 1) ≤ 0 : Prop) then (some (x2, x4)) else (fnn (FP.dmul x2 4611686018427387904) fun v1 => s_X2_bitsOfShare_L15 n v1 (x4 - 1)))
set_option maxHeartbeats 4000000 in
set_option maxRecDepth 100000 in
theorem v_X2_bitsOfShare_L15 {out : fO} {σ' : List fE} {p0 : UInt64} : ∀ (n : Nat) {x2 : UInt64} {x4 : Int64} {res : UInt64 × Int64} (hf : s_X2_bitsOfShare_L15 n x2 x4 = some res) (hx : V (fXm 0 k_X2_bitsOfShare out σ') (krm k_X2_bitsOfShare) k_X2_bitsOfShare 0 43 [some (.double p0), none, some (.double res.1), none, some (.long res.2), none] [] [] 0 0), V (fXm 0 k_X2_bitsOfShare out σ') (krm k_X2_bitsOfShare) k_X2_bitsOfShare 0 15 [some (.double p0), none, some (.double x2), none, some (.long x4), none] [] [] 0 0 := by
  intro n
  induction n with
  | zero =>
    intro x2 x4 res hf hx
    rw [s_X2_bitsOfShare_L15] at hf
    cases hf
  | succ n ih =>
    intro x2 x4 res hf hx
    rw [s_X2_bitsOfShare_L15] at hf
    refine V.dload_n (i := 2) dX2_bitsOfShare_15 rfl rfl ?_
    refine V.dconst1 dX2_bitsOfShare_16 ?_
    refine V.dcmp dX2_bitsOfShare_17 ?_
    refine V.if_ge (tgt := 43) dX2_bitsOfShare_18 (by decide) (fun h => ?_) (fun h => ?_)
    · have hf := fif_t h hf
      obtain rfl := Option.some.inj hf
      exact hx
    · have hf := fif_f h hf
      refine V.lload (i := 4) dX2_bitsOfShare_21 rfl ?_
      refine V.lconst (v := 1) dX2_bitsOfShare_23 rfl ?_
      refine V.lcmp dX2_bitsOfShare_24 ?_
      refine V.if_le (tgt := 43) dX2_bitsOfShare_25 (by decide) (fun h => ?_) (fun h => ?_)
      · have hf := fif_t h hf
        obtain rfl := Option.some.inj hf
        exact hx
      · have hf := fif_f h hf
        refine V.dload_n (i := 2) dX2_bitsOfShare_28 rfl rfl ?_
        refine V.ldc2d (v := 4611686018427387904) dX2_bitsOfShare_29 w487 ?_
        obtain ⟨hn, v1, ev1, hf⟩ := fnn_e hf
        refine V.dmul dX2_bitsOfShare_32 hn ?_
        refine V.cgd ev1 ?_
        refine V.dstore_n (i := 2) (L' := [some (.double p0), none, some (.double v1), none, some (.long x4), none]) dX2_bitsOfShare_33 rfl (Nat.le_of_ble_eq_true rfl) rfl rfl ?_
        refine V.lload (i := 4) dX2_bitsOfShare_34 rfl ?_
        refine V.lconst (v := 1) dX2_bitsOfShare_36 rfl ?_
        refine V.lsub dX2_bitsOfShare_37 ?_
        refine V.lstore (i := 4) (L' := [some (.double p0), none, some (.double v1), none, some (.long (x4 - 1)), none]) dX2_bitsOfShare_38 (Nat.le_of_ble_eq_true rfl) rfl rfl ?_
        refine V.goto (tgt := 15) dX2_bitsOfShare_40 (by decide) ?_
        exact ih hf hx
def s_X2_bitsOfShare (a0 : UInt64) : Option (Int64) := if (0 < (Op.cmpValue (FP.dcmp a0 FP.dconst0) .g) : Prop) then ((s_X2_bitsOfShare_L15 gF a0 1023).bind fun r2 => fnn (FP.dsub r2.1 FP.dconst1) fun v3 => fnn (FP.dmul v3 4841369599423283200) fun v4 => some ((r2.2 <<< (Int32.toInt64 52 &&& 63)) + (FP.d2l v4))) else (some 0)
set_option maxHeartbeats 4000000 in
set_option maxRecDepth 100000 in
theorem ct_X2_bitsOfShare {a0 : UInt64} {res : Int64} (hf : s_X2_bitsOfShare a0 = some res) : Ct k_X2_bitsOfShare [.double a0] [] (.inl (some (.long res))) [] := by
  unfold s_X2_bitsOfShare at hf
  refine Ct.of (L := [some (.double a0), none, none, none, none, none]) cal_X2_bitsOfShare (fent_pad (j := 4) rfl) (Nat.le_of_ble_eq_true rfl) ?_
  refine V.dload_n (i := 0) dX2_bitsOfShare_0 rfl rfl ?_
  refine V.dconst0 dX2_bitsOfShare_1 ?_
  refine V.dcmp dX2_bitsOfShare_2 ?_
  refine V.if_gt (tgt := 8) dX2_bitsOfShare_3 (by decide) (fun h => ?_) (fun h => ?_)
  · have hf := fif_t h hf
    refine V.dload_n (i := 0) dX2_bitsOfShare_8 rfl rfl ?_
    refine V.dstore_n (i := 2) (L' := [some (.double a0), none, some (.double a0), none, none, none]) dX2_bitsOfShare_9 rfl (Nat.le_of_ble_eq_true rfl) rfl rfl ?_
    refine V.ldc2 (v := 1023) dX2_bitsOfShare_10 w486 ?_
    refine V.lstore (i := 4) (L' := [some (.double a0), none, some (.double a0), none, some (.long 1023), none]) dX2_bitsOfShare_13 (Nat.le_of_ble_eq_true rfl) rfl rfl ?_
    obtain ⟨r2, hr2, hf⟩ := fbind hf
    refine v_X2_bitsOfShare_L15 gF hr2 ?_
    refine V.lload (i := 4) dX2_bitsOfShare_43 rfl ?_
    refine V.bipush (v := 52) dX2_bitsOfShare_45 rfl ?_
    refine V.lshl dX2_bitsOfShare_47 ?_
    refine V.dload_n (i := 2) dX2_bitsOfShare_48 rfl rfl ?_
    refine V.dconst1 dX2_bitsOfShare_49 ?_
    obtain ⟨hn, v3, ev3, hf⟩ := fnn_e hf
    refine V.dsub dX2_bitsOfShare_50 hn ?_
    refine V.cgd ev3 ?_
    refine V.ldc2d (v := 4841369599423283200) dX2_bitsOfShare_51 w488 ?_
    obtain ⟨hn, v4, ev4, hf⟩ := fnn_e hf
    refine V.dmul dX2_bitsOfShare_54 hn ?_
    refine V.cgd ev4 ?_
    refine V.d2l dX2_bitsOfShare_55 ?_
    refine V.ladd dX2_bitsOfShare_56 ?_
    obtain rfl := Option.some.inj hf
    exact V.lret dX2_bitsOfShare_57 rfl (Nat.le_of_ble_eq_true rfl) (Nat.le_of_ble_eq_true rfl) rfl
  · have hf := fif_f h hf
    refine V.lconst (v := 0) dX2_bitsOfShare_6 rfl ?_
    obtain rfl := Option.some.inj hf
    exact V.lret dX2_bitsOfShare_7 rfl (Nat.le_of_ble_eq_true rfl) (Nat.le_of_ble_eq_true rfl) rfl
