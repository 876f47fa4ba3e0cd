/-! laid by program: shallow functions and contracts -/
def k_X9_empty : fK := (yX9_empty, cX9_empty, 1, none, [], (0, 0), (0, 0), (0, 0))
theorem cal_X9_empty : fCal k_X9_empty 0 := ⟨⟨wc363, w11⟩, ⟨by decide +kernel, by decide +kernel⟩, by decide +kernel, by decide +kernel⟩
def s_X9_empty (Word_size : Int32) : Option ((Int32)) := some 0
set_option maxHeartbeats 4000000 in
set_option maxRecDepth 100000 in
theorem ct_X9_empty {Word_size : Int32} {Word_letters : Nat → Int32} {res : (Int32)} (hf : s_X9_empty Word_size = some res) : Ct k_X9_empty [.ref 0] [.inl (4, [.ref 1, .int Word_size]), .inr (8, .inl Word_letters)] (.inl none) [.inl (4, [.ref 1, .int res]), .inr (8, .inl Word_letters)] := by
  unfold s_X9_empty at hf
  refine Ct.of (L := [some (.ref 0)]) cal_X9_empty (fent_pad (j := 0) rfl) (Nat.le_of_ble_eq_true rfl) ?_
  refine V.aload_n (i := 0) dX9_empty_0 rfl rfl ?_
  refine V.iconst (v := 0) dX9_empty_1 rfl ?_
  refine V.putfield (ty := tyX9) (kf := 1) (σ' := [.inl (4, [.ref 1, .int 0]), .inr (8, .inl Word_letters)]) fl_RX9 dX9_empty_2 w106 (Nat.le_of_ble_eq_true rfl) rfl (fun _ => ⟨rfl, rfl⟩) rfl (Nat.le_of_ble_eq_true rfl) rfl ?_
  obtain rfl := Option.some.inj hf
  exact V.vret dX9_empty_5 rfl (Nat.le_of_ble_eq_true rfl) (Nat.le_of_ble_eq_true rfl) rfl
def k_X9_add : fK := (yX9_add, cX9_add, 2, none, [], (0, 0), (0, 0), (0, 0))
theorem cal_X9_add : fCal k_X9_add 1 := ⟨⟨wc369, w11⟩, ⟨by decide +kernel, by decide +kernel⟩, by decide +kernel, by decide +kernel⟩
def s_X9_add (a1 : Int32) (Word_size : Int32) (Word_letters : Nat → Int32) : Option ((Int32) × (Nat → Int32)) := if (Word_size < 0 : Prop) then (some (Word_size, Word_letters)) else (if (8 ≤ Word_size : Prop) then (some (Word_size, Word_letters)) else (fst 8 Word_letters Word_size a1 fun s1 => some ((Word_size + 1), s1)))
set_option maxHeartbeats 4000000 in
set_option maxRecDepth 100000 in
theorem ct_X9_add {a1 : Int32} {Word_size : Int32} {Word_letters : Nat → Int32} {res : (Int32) × (Nat → Int32)} (hf : s_X9_add a1 Word_size Word_letters = some res) : Ct k_X9_add [.ref 0, .int a1] [.inl (4, [.ref 1, .int Word_size]), .inr (8, .inl Word_letters)] (.inl none) [.inl (4, [.ref 1, .int res.1]), .inr (8, .inl res.2)] := by
  unfold s_X9_add at hf
  refine Ct.of (L := [some (.ref 0), some (.int a1)]) cal_X9_add (fent_pad (j := 0) rfl) (Nat.le_of_ble_eq_true rfl) ?_
  refine V.aload_n (i := 0) dX9_add_0 rfl rfl ?_
  refine V.getfield (kf := 1) (v := .int Word_size) fl_RX9 dX9_add_1 w106 (Nat.le_of_ble_eq_true rfl) rfl rfl ?_
  refine V.if_lt (tgt := 39) dX9_add_4 (by decide) (fun h => ?_) (fun h => ?_)
  · have hf := fif_t h hf
    obtain rfl := Option.some.inj hf
    exact V.vret dX9_add_39 rfl (Nat.le_of_ble_eq_true rfl) (Nat.le_of_ble_eq_true rfl) rfl
  · have hf := fif_f h hf
    refine V.aload_n (i := 0) dX9_add_7 rfl rfl ?_
    refine V.getfield (kf := 1) (v := .int Word_size) fl_RX9 dX9_add_8 w106 (Nat.le_of_ble_eq_true rfl) rfl rfl ?_
    refine V.aload_n (i := 0) dX9_add_11 rfl rfl ?_
    refine V.getfield (kf := 0) (v := .ref 1) fl_RX9 dX9_add_12 w105 (Nat.le_of_ble_eq_true rfl) rfl rfl ?_
    refine V.alen (v := 8) dX9_add_15 rfl rfl ?_
    refine V.icmp_ge (tgt := 39) dX9_add_16 (by decide) (fun h => ?_) (fun h => ?_)
    · have hf := fif_t h hf
      obtain rfl := Option.some.inj hf
      exact V.vret dX9_add_39 rfl (Nat.le_of_ble_eq_true rfl) (Nat.le_of_ble_eq_true rfl) rfl
    · have hf := fif_f h hf
      refine V.aload_n (i := 0) dX9_add_19 rfl rfl ?_
      refine V.getfield (kf := 0) (v := .ref 1) fl_RX9 dX9_add_20 w105 (Nat.le_of_ble_eq_true rfl) rfl rfl ?_
      refine V.aload_n (i := 0) dX9_add_23 rfl rfl ?_
      refine V.getfield (kf := 1) (v := .int Word_size) fl_RX9 dX9_add_24 w106 (Nat.le_of_ble_eq_true rfl) rfl rfl ?_
      refine V.iload_n (i := 1) dX9_add_27 rfl rfl ?_
      obtain ⟨hi, s1, es1, hf⟩ := fst_e hf
      refine V.fst (σ' := [.inl (4, [.ref 1, .int Word_size]), .inr (8, .inl s1)]) dX9_add_28 rfl hi es1 rfl ?_
      refine V.aload_n (i := 0) dX9_add_29 rfl rfl ?_
      refine V.dup dX9_add_30 rfl ?_
      refine V.getfield (kf := 1) (v := .int Word_size) fl_RX9 dX9_add_31 w106 (Nat.le_of_ble_eq_true rfl) rfl rfl ?_
      refine V.iconst (v := 1) dX9_add_34 rfl ?_
      refine V.iadd dX9_add_35 ?_
      refine V.putfield (ty := tyX9) (kf := 1) (σ' := [.inl (4, [.ref 1, .int (Word_size + 1)]), .inr (8, .inl s1)]) fl_RX9 dX9_add_36 w106 (Nat.le_of_ble_eq_true rfl) rfl (fun _ => ⟨rfl, rfl⟩) rfl (Nat.le_of_ble_eq_true rfl) rfl ?_
      obtain rfl := Option.some.inj hf
      exact V.vret dX9_add_39 rfl (Nat.le_of_ble_eq_true rfl) (Nat.le_of_ble_eq_true rfl) rfl
def k_X9_at : fK := (yX9_at, cX9_at, 2, (some .int), [], (0, 0), (0, 0), (0, 0))
theorem cal_X9_at : fCal k_X9_at 1 := ⟨⟨wc381, w11⟩, ⟨by decide +kernel, by decide +kernel⟩, by decide +kernel, by decide +kernel⟩
def s_X9_at (a1 : Int32) (Word_letters : Nat → Int32) : Option (Int32) := if (a1 < 0 : Prop) then (some (-1)) else (if (8 ≤ a1 : Prop) then (some (-1)) else (fld 8 Word_letters a1 fun v1 => some v1))
set_option maxHeartbeats 4000000 in
set_option maxRecDepth 100000 in
theorem ct_X9_at {a1 : Int32} {Word_size : Int32} {Word_letters : Nat → Int32} {res : Int32} (hf : s_X9_at a1 Word_letters = some res) : Ct k_X9_at [.ref 0, .int a1] [.inl (4, [.ref 1, .int Word_size]), .inr (8, .inl Word_letters)] (.inl (some (.int res))) [.inl (4, [.ref 1, .int Word_size]), .inr (8, .inl Word_letters)] := by
  unfold s_X9_at at hf
  refine Ct.of (L := [some (.ref 0), some (.int a1)]) cal_X9_at (fent_pad (j := 0) rfl) (Nat.le_of_ble_eq_true rfl) ?_
  refine V.iload_n (i := 1) dX9_at_0 rfl rfl ?_
  refine V.if_lt (tgt := 22) dX9_at_1 (by decide) (fun h => ?_) (fun h => ?_)
  · have hf := fif_t h hf
    refine V.iconst (v := (-1)) dX9_at_22 rfl ?_
    obtain rfl := Option.some.inj hf
    exact V.iret dX9_at_23 rfl (Nat.le_of_ble_eq_true rfl) (Nat.le_of_ble_eq_true rfl) rfl
  · have hf := fif_f h hf
    refine V.iload_n (i := 1) dX9_at_4 rfl rfl ?_
    refine V.aload_n (i := 0) dX9_at_5 rfl rfl ?_
    refine V.getfield (kf := 0) (v := .ref 1) fl_RX9 dX9_at_6 w105 (Nat.le_of_ble_eq_true rfl) rfl rfl ?_
    refine V.alen (v := 8) dX9_at_9 rfl rfl ?_
    refine V.icmp_ge (tgt := 22) dX9_at_10 (by decide) (fun h => ?_) (fun h => ?_)
    · have hf := fif_t h hf
      refine V.iconst (v := (-1)) dX9_at_22 rfl ?_
      obtain rfl := Option.some.inj hf
      exact V.iret dX9_at_23 rfl (Nat.le_of_ble_eq_true rfl) (Nat.le_of_ble_eq_true rfl) rfl
    · have hf := fif_f h hf
      refine V.aload_n (i := 0) dX9_at_13 rfl rfl ?_
      refine V.getfield (kf := 0) (v := .ref 1) fl_RX9 dX9_at_14 w105 (Nat.le_of_ble_eq_true rfl) rfl rfl ?_
      refine V.iload_n (i := 1) dX9_at_17 rfl rfl ?_
      obtain ⟨hi, v1, ev1, hf⟩ := fld_e hf
      refine V.fld dX9_at_18 rfl hi ev1 ?_
      refine V.goto (tgt := 23) dX9_at_19 (by decide) ?_
      obtain rfl := Option.some.inj hf
      exact V.iret dX9_at_23 rfl (Nat.le_of_ble_eq_true rfl) (Nat.le_of_ble_eq_true rfl) rfl
def k_X9_cord : fK := (yX9_cord, cX9_cord, 3, (some .int), [], (1, 21), (0, 0), (0, 0))
theorem cal_X9_cord : fCal k_X9_cord 0 := ⟨⟨wc377, w11⟩, ⟨by decide +kernel, by decide +kernel⟩, by decide +kernel, by decide +kernel⟩
def s_X9_cord_L4 (Word_size : Int32) (Word_letters : Nat → Int32) : Nat → Int32 → Int32 → Option (Int32 × Int32)
  | 0, _, _ => none
  | n + 1, x1, x2 => if (Word_size ≤ x2 : Prop) then (some (x1, x2)) else ((s_X9_at x2 Word_letters).bind fun v1 => (s_X0_cordOfKnot v1).bind fun v2 => s_X9_cord_L4 Word_size Word_letters n (x1 + (v2 + 1)) (x2 + 1))
set_option maxHeartbeats 4000000 in
set_option maxRecDepth 100000 in
theorem v_X9_cord_L4 {out : fO} {σ' : List fE} {Word_size : Int32} {Word_letters : Nat → Int32} : ∀ (n : Nat) {x1 : Int32} {x2 : Int32} {res : Int32 × Int32} (hf : s_X9_cord_L4 Word_size Word_letters n x1 x2 = some res) (hx : V (fXm 2 k_X9_cord out σ') (krm k_X9_cord) k_X9_cord 2 31 [some (.ref 0), some (.int res.1), some (.int res.2)] [] [.inl (4, [.ref 1, .int Word_size]), .inr (8, .inl Word_letters)] 0 0), V (fXm 2 k_X9_cord out σ') (krm k_X9_cord) k_X9_cord 2 4 [some (.ref 0), some (.int x1), some (.int x2)] [] [.inl (4, [.ref 1, .int Word_size]), .inr (8, .inl Word_letters)] 0 0 := by
  intro n
  induction n with
  | zero =>
    intro x1 x2 res hf hx
    rw [s_X9_cord_L4] at hf
    cases hf
  | succ n ih =>
    intro x1 x2 res hf hx
    rw [s_X9_cord_L4] at hf
    refine V.iload_n (i := 2) dX9_cord_4 rfl rfl ?_
    refine V.aload_n (i := 0) dX9_cord_5 rfl rfl ?_
    refine V.getfield (kf := 1) (v := .int Word_size) fl_RX9 dX9_cord_6 w106 (Nat.le_of_ble_eq_true rfl) rfl rfl ?_
    refine V.icmp_ge (tgt := 31) dX9_cord_9 (by decide) (fun h => ?_) (fun h => ?_)
    · have hf := fif_t h hf
      obtain rfl := Option.some.inj hf
      exact hx
    · have hf := fif_f h hf
      refine V.iload_n (i := 1) dX9_cord_12 rfl rfl ?_
      refine V.aload_n (i := 0) dX9_cord_13 rfl rfl ?_
      refine V.iload_n (i := 2) dX9_cord_14 rfl rfl ?_
      obtain ⟨v1, hv1, hf⟩ := fbind hf
      refine V.callVn (pl := [0, 1]) (σ' := [.inl (4, [.ref 1, .int Word_size]), .inr (8, .inl Word_letters)]) (st2 := [.int v1, .int x1]) (cl2 := 0) (sl2 := 0) (ct_X9_at (a1 := x2) (Word_size := Word_size) (Word_letters := Word_letters) hv1) dX9_cord_15 w378 ⟨w379, w380⟩ cal_X9_at rfl ⟨⟨Nat.le_of_ble_eq_true rfl, Nat.le_of_ble_eq_true rfl⟩, Nat.le_of_ble_eq_true rfl, Nat.le_of_ble_eq_true rfl⟩ (Nat.le_of_ble_eq_true rfl) ⟨_, _, _, _, rfl, rfl⟩ rfl ⟨rfl, ⟨by decide, by decide⟩, rfl, (fr_cons (Or.inl (Nat.le_of_ble_eq_true rfl)) (fr_nil)), rfl⟩ fr_i rfl rfl rfl rfl ?_
      obtain ⟨v2, hv2, hf⟩ := fbind hf
      refine V.callSn (pl := []) (σ' := [.inl (4, [.ref 1, .int Word_size]), .inr (8, .inl Word_letters)]) (st2 := [.int v2, .int x1]) (cl2 := 0) (sl2 := 0) (ct_X0_cordOfKnot (a0 := v1) hv2) dX9_cord_18 w382 w282 cal_X0_cordOfKnot ⟨⟨Nat.le_of_ble_eq_true rfl, Nat.le_of_ble_eq_true rfl⟩, Nat.le_of_ble_eq_true rfl, Nat.le_of_ble_eq_true rfl⟩ (Nat.le_of_ble_eq_true rfl) rfl ⟨rfl, ⟨by decide, by decide⟩, rfl, (fr_nil), rfl⟩ fr_i rfl rfl rfl rfl ?_
      refine V.iconst (v := 1) dX9_cord_21 rfl ?_
      refine V.iadd dX9_cord_22 ?_
      refine V.iadd dX9_cord_23 ?_
      refine V.istore_n (i := 1) (L' := [some (.ref 0), some (.int (x1 + (v2 + 1))), some (.int x2)]) dX9_cord_24 rfl (Nat.le_of_ble_eq_true rfl) rfl rfl ?_
      refine V.iinc (i := 2) (v := (x2 + 1)) (L' := [some (.ref 0), some (.int (x1 + (v2 + 1))), some (.int (x2 + 1))]) dX9_cord_25 rfl rfl (Nat.le_of_ble_eq_true rfl) rfl rfl ?_
      refine V.goto (tgt := 4) dX9_cord_28 (by decide) ?_
      exact ih hf hx
def s_X9_cord (Word_size : Int32) (Word_letters : Nat → Int32) : Option (Int32) := (s_X9_cord_L4 Word_size Word_letters gF 2 0).bind fun r3 => some r3.1
set_option maxHeartbeats 4000000 in
set_option maxRecDepth 100000 in
theorem ct_X9_cord {Word_size : Int32} {Word_letters : Nat → Int32} {res : Int32} (hf : s_X9_cord Word_size Word_letters = some res) : Ct k_X9_cord [.ref 0] [.inl (4, [.ref 1, .int Word_size]), .inr (8, .inl Word_letters)] (.inl (some (.int res))) [.inl (4, [.ref 1, .int Word_size]), .inr (8, .inl Word_letters)] := by
  unfold s_X9_cord at hf
  refine Ct.of (L := [some (.ref 0), none, none]) cal_X9_cord (fent_pad (j := 2) rfl) (Nat.le_of_ble_eq_true rfl) ?_
  refine V.iconst (v := 2) dX9_cord_0 rfl ?_
  refine V.istore_n (i := 1) (L' := [some (.ref 0), some (.int 2), none]) dX9_cord_1 rfl (Nat.le_of_ble_eq_true rfl) rfl rfl ?_
  refine V.iconst (v := 0) dX9_cord_2 rfl ?_
  refine V.istore_n (i := 2) (L' := [some (.ref 0), some (.int 2), some (.int 0)]) dX9_cord_3 rfl (Nat.le_of_ble_eq_true rfl) rfl rfl ?_
  obtain ⟨r3, hr3, hf⟩ := fbind hf
  refine v_X9_cord_L4 gF hr3 ?_
  refine V.iload_n (i := 1) dX9_cord_31 rfl rfl ?_
  obtain rfl := Option.some.inj hf
  exact V.iret dX9_cord_32 rfl (Nat.le_of_ble_eq_true rfl) (Nat.le_of_ble_eq_true rfl) rfl
def k_X9_size : fK := (yX9_size, cX9_size, 1, (some .int), [], (0, 0), (0, 0), (0, 0))
theorem cal_X9_size : fCal k_X9_size 0 := ⟨⟨wc390, w11⟩, ⟨by decide +kernel, by decide +kernel⟩, by decide +kernel, by decide +kernel⟩
def s_X9_size (Word_size : Int32) : Option (Int32) := some Word_size
set_option maxHeartbeats 4000000 in
set_option maxRecDepth 100000 in
theorem ct_X9_size {Word_size : Int32} {Word_letters : Nat → Int32} {res : Int32} (hf : s_X9_size Word_size = some res) : Ct k_X9_size [.ref 0] [.inl (4, [.ref 1, .int Word_size]), .inr (8, .inl Word_letters)] (.inl (some (.int res))) [.inl (4, [.ref 1, .int Word_size]), .inr (8, .inl Word_letters)] := by
  unfold s_X9_size at hf
  refine Ct.of (L := [some (.ref 0)]) cal_X9_size (fent_pad (j := 0) rfl) (Nat.le_of_ble_eq_true rfl) ?_
  refine V.aload_n (i := 0) dX9_size_0 rfl rfl ?_
  refine V.getfield (kf := 1) (v := .int Word_size) fl_RX9 dX9_size_1 w106 (Nat.le_of_ble_eq_true rfl) rfl rfl ?_
  obtain rfl := Option.some.inj hf
  exact V.iret dX9_size_4 rfl (Nat.le_of_ble_eq_true rfl) (Nat.le_of_ble_eq_true rfl) rfl
def k_X9_init : fK := (yX9_init, cX9_init, 1, none, [], (1, 12), (1, 8), (0, 0))
theorem cal_X9_init : fCal k_X9_init 0 := ⟨⟨wc103, w11⟩, ⟨by decide +kernel, by decide +kernel⟩, by decide +kernel, by decide +kernel⟩
def s_X9_init : Option ((Int32) × (Nat → Int32)) := some (0, (fun _ => 0))
set_option maxHeartbeats 4000000 in
set_option maxRecDepth 100000 in
theorem ct_X9_init {res : (Int32) × (Nat → Int32)} (hf : s_X9_init = some res) : Ct k_X9_init [.ref 0] [.inl (4, [.null, .int 0])] (.inl none) [.inl (4, [.ref 1, .int res.1]), .inr (8, .inl res.2)] := by
  unfold s_X9_init at hf
  refine Ct.of (L := [some (.ref 0)]) cal_X9_init (fent_pad (j := 0) rfl) (Nat.le_of_ble_eq_true rfl) ?_
  refine V.aload_n (i := 0) dX9_init_0 rfl rfl ?_
  refine V.objInit dX9_init_1 w104 w29 w30 (Nat.le_of_ble_eq_true rfl) (Nat.le_of_ble_eq_true rfl) ?_
  refine V.aload_n (i := 0) dX9_init_4 rfl rfl ?_
  refine V.bipush (v := 8) dX9_init_5 rfl ?_
  refine V.newI (N := 8) (f := fun _ => 0) rfl dX9_init_7 w48 (by decide) rfl (Nat.le_of_ble_eq_true rfl) rfl (Nat.le_of_ble_eq_true rfl) (Nat.le_of_ble_eq_true rfl) ?_
  refine V.putfinal (ty := tyX9) (kf := 0) (σ' := [.inl (4, [.ref 1, .int 0]), .inr (8, .inl (fun _ => 0))]) fl_RX9 dX9_init_9 w105 (Nat.le_of_ble_eq_true rfl) rfl rfl rfl rfl (fun _ => ⟨rfl, rfl⟩) rfl (Nat.le_of_ble_eq_true rfl) rfl ?_
  refine V.aload_n (i := 0) dX9_init_12 rfl rfl ?_
  refine V.iconst (v := 0) dX9_init_13 rfl ?_
  refine V.putfield (ty := tyX9) (kf := 1) (σ' := [.inl (4, [.ref 1, .int 0]), .inr (8, .inl (fun _ => 0))]) fl_RX9 dX9_init_14 w106 (Nat.le_of_ble_eq_true rfl) rfl (fun _ => ⟨rfl, rfl⟩) rfl (Nat.le_of_ble_eq_true rfl) rfl ?_
  obtain rfl := Option.some.inj hf
  exact V.vret dX9_init_17 rfl (Nat.le_of_ble_eq_true rfl) (Nat.le_of_ble_eq_true rfl) rfl
