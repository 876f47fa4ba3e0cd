/-! laid by program: shallow functions and contracts -/
def k_X11_init : fK := (yX11_init, cX11_init, 2, none, [], (1, 12), (4, 3308), (0, 0))
theorem cal_X11_init : fCal k_X11_init 0 := ⟨⟨wc1041, w73⟩, ⟨by decide +kernel, by decide +kernel⟩, by decide +kernel, by decide +kernel⟩
def s_X11_init_L71 : Nat → Int32 → (Nat → Int32) → Option (Int32 × (Nat → Int32))
  | 0, _, _ => none
  | n + 1, x1, M_s => if (5 ≤ x1 : Prop) then (some (x1, M_s)) else (fst 406 M_s ((8 + (4 * x1)) + 0) 60 fun s5 => s_X11_init_L71 n (x1 + 1) s5)
set_option maxHeartbeats 4000000 in
set_option maxRecDepth 100000 in
theorem v_X11_init_L71 {out : fO} {σ' : List fE} {M_savedMany : Int32} {M_isTaken : Int32} {M_length : Int32} {M_thrown : Int32} {M_spelt : Int32} {M_speltMany : Int32} {M_place : Int32} {M_kind : Int32} {M_one : Int32} {M_two : Int32} {M_three : Int32} {M_begins : Int32} {M_done : Int32} {M_stopBy : Int32} {M_hash : Int64} {M_saved : Nat → Int32} {M_snapshot : Nat → Int32} {M_text : Nat → Int32} : ∀ (n : Nat) {x1 : Int32} {M_s : (Nat → Int32)} {res : Int32 × (Nat → Int32)} (hf : s_X11_init_L71 n x1 M_s = some res) (hx : V (fXm 1 k_X11_init out σ') (krm k_X11_init) k_X11_init 1 97 [some (.ref 0), some (.int res.1)] [] [.inl (6, [.ref 1, .ref 2, .int M_savedMany, .ref 3, .int M_isTaken, .ref 4, .int M_length, .int M_thrown, .int M_spelt, .int M_speltMany, .int M_place, .int M_kind, .int M_one, .int M_two, .int M_three, .int M_begins, .int M_done, .int M_stopBy, .long M_hash]), .inr (406, .inl res.2), .inr (2436, .inl M_saved), .inr (406, .inl M_snapshot), .inr (60, .inl M_text)] 4 3308), V (fXm 1 k_X11_init out σ') (krm k_X11_init) k_X11_init 1 71 [some (.ref 0), some (.int x1)] [] [.inl (6, [.ref 1, .ref 2, .int M_savedMany, .ref 3, .int M_isTaken, .ref 4, .int M_length, .int M_thrown, .int M_spelt, .int M_speltMany, .int M_place, .int M_kind, .int M_one, .int M_two, .int M_three, .int M_begins, .int M_done, .int M_stopBy, .long M_hash]), .inr (406, .inl M_s), .inr (2436, .inl M_saved), .inr (406, .inl M_snapshot), .inr (60, .inl M_text)] 4 3308 := by
  intro n
  induction n with
  | zero =>
    intro x1 M_s res hf hx
    rw [s_X11_init_L71] at hf
    cases hf
  | succ n ih =>
    intro x1 M_s res hf hx
    rw [s_X11_init_L71] at hf
    refine V.iload_n (i := 1) dX11_init_71 rfl rfl ?_
    refine V.iconst (v := 5) dX11_init_72 rfl ?_
    refine V.icmp_ge (tgt := 97) dX11_init_73 (by decide) (fun h => ?_) (fun h => ?_)
    · have hf := fif_t h hf
      obtain rfl := Option.some.inj hf
      exact hx
    · have hf := fif_f h hf
      refine V.aload_n (i := 0) dX11_init_76 rfl rfl ?_
      refine V.getfield (kf := 0) (v := .ref 1) fl_RX11 dX11_init_77 w1043 (Nat.le_of_ble_eq_true rfl) rfl rfl ?_
      refine V.bipush (v := 8) dX11_init_80 rfl ?_
      refine V.iconst (v := 4) dX11_init_82 rfl ?_
      refine V.iload_n (i := 1) dX11_init_83 rfl rfl ?_
      refine V.imul dX11_init_84 ?_
      refine V.iadd dX11_init_85 ?_
      refine V.iconst (v := 0) dX11_init_86 rfl ?_
      refine V.iadd dX11_init_87 ?_
      refine V.bipush (v := 60) dX11_init_88 rfl ?_
      obtain ⟨hi, s5, es5, hf⟩ := fst_e hf
      refine V.fst (σ' := [.inl (6, [.ref 1, .ref 2, .int M_savedMany, .ref 3, .int M_isTaken, .ref 4, .int M_length, .int M_thrown, .int M_spelt, .int M_speltMany, .int M_place, .int M_kind, .int M_one, .int M_two, .int M_three, .int M_begins, .int M_done, .int M_stopBy, .long M_hash]), .inr (406, .inl s5), .inr (2436, .inl M_saved), .inr (406, .inl M_snapshot), .inr (60, .inl M_text)]) dX11_init_90 rfl hi es5 rfl ?_
      refine V.iinc (i := 1) (v := (x1 + 1)) (L' := [some (.ref 0), some (.int (x1 + 1))]) dX11_init_91 rfl rfl (Nat.le_of_ble_eq_true rfl) rfl rfl ?_
      refine V.goto (tgt := 71) dX11_init_94 (by decide) ?_
      exact ih hf hx
def s_X11_init : Option ((Int32) × (Int32) × (Int32) × (Int32) × (Int32) × (Int32) × (Int32) × (Int32) × (Int32) × (Int32) × (Int32) × (Int32) × (Int32) × (Int32) × (Int64) × (Nat → Int32) × (Nat → Int32) × (Nat → Int32) × (Nat → Int32)) := fst 406 (fun _ => 0) 4 3 fun s1 => fst 406 s1 5 1 fun s2 => fst 406 s2 6 (-1) fun s3 => fst 406 s3 7 (-1) fun s4 => (s_X11_init_L71 gF 0 s4).bind fun r6 => some (0, 0, 0, 0, 0, 0, 0, 0, 0, 0, 0, 0, 0, 0, 0, r6.2, (fun _ => 0), (fun _ => 0), (fun _ => 0))
set_option maxHeartbeats 4000000 in
set_option maxRecDepth 100000 in
theorem ct_X11_init {res : (Int32) × (Int32) × (Int32) × (Int32) × (Int32) × (Int32) × (Int32) × (Int32) × (Int32) × (Int32) × (Int32) × (Int32) × (Int32) × (Int32) × (Int64) × (Nat → Int32) × (Nat → Int32) × (Nat → Int32) × (Nat → Int32)} (hf : s_X11_init = some res) : Ct k_X11_init [.ref 0] [.inl (6, [.null, .null, .int 0, .null, .int 0, .null, .int 0, .int 0, .int 0, .int 0, .int 0, .int 0, .int 0, .int 0, .int 0, .int 0, .int 0, .int 0, .long 0])] (.inl none) [.inl (6, [.ref 1, .ref 2, .int res.1, .ref 3, .int res.2.1, .ref 4, .int res.2.2.1, .int res.2.2.2.1, .int res.2.2.2.2.1, .int res.2.2.2.2.2.1, .int res.2.2.2.2.2.2.1, .int res.2.2.2.2.2.2.2.1, .int res.2.2.2.2.2.2.2.2.1, .int res.2.2.2.2.2.2.2.2.2.1, .int res.2.2.2.2.2.2.2.2.2.2.1, .int res.2.2.2.2.2.2.2.2.2.2.2.1, .int res.2.2.2.2.2.2.2.2.2.2.2.2.1, .int res.2.2.2.2.2.2.2.2.2.2.2.2.2.1, .long res.2.2.2.2.2.2.2.2.2.2.2.2.2.2.1]), .inr (406, .inl res.2.2.2.2.2.2.2.2.2.2.2.2.2.2.2.1), .inr (2436, .inl res.2.2.2.2.2.2.2.2.2.2.2.2.2.2.2.2.1), .inr (406, .inl res.2.2.2.2.2.2.2.2.2.2.2.2.2.2.2.2.2.1), .inr (60, .inl res.2.2.2.2.2.2.2.2.2.2.2.2.2.2.2.2.2.2)] := by
  unfold s_X11_init at hf
  refine Ct.of (L := [some (.ref 0), none]) cal_X11_init (fent_pad (j := 1) rfl) (Nat.le_of_ble_eq_true rfl) ?_
  refine V.aload_n (i := 0) dX11_init_0 rfl rfl ?_
  refine V.objInit dX11_init_1 w1042 w98 w99 (Nat.le_of_ble_eq_true rfl) (Nat.le_of_ble_eq_true rfl) ?_
  refine V.aload_n (i := 0) dX11_init_4 rfl rfl ?_
  refine V.sipush (v := 406) dX11_init_5 rfl ?_
  refine V.newI (N := 406) (f := fun _ => 0) rfl dX11_init_8 w117 (by decide) rfl (Nat.le_of_ble_eq_true rfl) rfl (Nat.le_of_ble_eq_true rfl) (Nat.le_of_ble_eq_true rfl) ?_
  refine V.putfinal (ty := tyX11) (kf := 0) (σ' := [.inl (6, [.ref 1, .null, .int 0, .null, .int 0, .null, .int 0, .int 0, .int 0, .int 0, .int 0, .int 0, .int 0, .int 0, .int 0, .int 0, .int 0, .int 0, .long 0]), .inr (406, .inl (fun _ => 0))]) fl_RX11 dX11_init_10 w1043 (Nat.le_of_ble_eq_true rfl) rfl rfl rfl rfl (fun _ => ⟨rfl, rfl⟩) rfl (Nat.le_of_ble_eq_true rfl) rfl ?_
  refine V.aload_n (i := 0) dX11_init_13 rfl rfl ?_
  refine V.sipush (v := 2436) dX11_init_14 rfl ?_
  refine V.newI (N := 2436) (f := fun _ => 0) rfl dX11_init_17 w117 (by decide) rfl (Nat.le_of_ble_eq_true rfl) rfl (Nat.le_of_ble_eq_true rfl) (Nat.le_of_ble_eq_true rfl) ?_
  refine V.putfinal (ty := tyX11) (kf := 1) (σ' := [.inl (6, [.ref 1, .ref 2, .int 0, .null, .int 0, .null, .int 0, .int 0, .int 0, .int 0, .int 0, .int 0, .int 0, .int 0, .int 0, .int 0, .int 0, .int 0, .long 0]), .inr (406, .inl (fun _ => 0)), .inr (2436, .inl (fun _ => 0))]) fl_RX11 dX11_init_19 w1044 (Nat.le_of_ble_eq_true rfl) rfl rfl rfl rfl (fun _ => ⟨rfl, rfl⟩) rfl (Nat.le_of_ble_eq_true rfl) rfl ?_
  refine V.aload_n (i := 0) dX11_init_22 rfl rfl ?_
  refine V.sipush (v := 406) dX11_init_23 rfl ?_
  refine V.newI (N := 406) (f := fun _ => 0) rfl dX11_init_26 w117 (by decide) rfl (Nat.le_of_ble_eq_true rfl) rfl (Nat.le_of_ble_eq_true rfl) (Nat.le_of_ble_eq_true rfl) ?_
  refine V.putfinal (ty := tyX11) (kf := 3) (σ' := [.inl (6, [.ref 1, .ref 2, .int 0, .ref 3, .int 0, .null, .int 0, .int 0, .int 0, .int 0, .int 0, .int 0, .int 0, .int 0, .int 0, .int 0, .int 0, .int 0, .long 0]), .inr (406, .inl (fun _ => 0)), .inr (2436, .inl (fun _ => 0)), .inr (406, .inl (fun _ => 0))]) fl_RX11 dX11_init_28 w1046 (Nat.le_of_ble_eq_true rfl) rfl rfl rfl rfl (fun _ => ⟨rfl, rfl⟩) rfl (Nat.le_of_ble_eq_true rfl) rfl ?_
  refine V.aload_n (i := 0) dX11_init_31 rfl rfl ?_
  refine V.bipush (v := 60) dX11_init_32 rfl ?_
  refine V.newI (N := 60) (f := fun _ => 0) rfl dX11_init_34 w117 (by decide) rfl (Nat.le_of_ble_eq_true rfl) rfl (Nat.le_of_ble_eq_true rfl) (Nat.le_of_ble_eq_true rfl) ?_
  refine V.putfinal (ty := tyX11) (kf := 5) (σ' := [.inl (6, [.ref 1, .ref 2, .int 0, .ref 3, .int 0, .ref 4, .int 0, .int 0, .int 0, .int 0, .int 0, .int 0, .int 0, .int 0, .int 0, .int 0, .int 0, .int 0, .long 0]), .inr (406, .inl (fun _ => 0)), .inr (2436, .inl (fun _ => 0)), .inr (406, .inl (fun _ => 0)), .inr (60, .inl (fun _ => 0))]) fl_RX11 dX11_init_36 w1048 (Nat.le_of_ble_eq_true rfl) rfl rfl rfl rfl (fun _ => ⟨rfl, rfl⟩) rfl (Nat.le_of_ble_eq_true rfl) rfl ?_
  refine V.aload_n (i := 0) dX11_init_39 rfl rfl ?_
  refine V.getfield (kf := 0) (v := .ref 1) fl_RX11 dX11_init_40 w1043 (Nat.le_of_ble_eq_true rfl) rfl rfl ?_
  refine V.iconst (v := 4) dX11_init_43 rfl ?_
  refine V.iconst (v := 3) dX11_init_44 rfl ?_
  obtain ⟨hi, s1, es1, hf⟩ := fst_e hf
  refine V.fst (σ' := [.inl (6, [.ref 1, .ref 2, .int 0, .ref 3, .int 0, .ref 4, .int 0, .int 0, .int 0, .int 0, .int 0, .int 0, .int 0, .int 0, .int 0, .int 0, .int 0, .int 0, .long 0]), .inr (406, .inl s1), .inr (2436, .inl (fun _ => 0)), .inr (406, .inl (fun _ => 0)), .inr (60, .inl (fun _ => 0))]) dX11_init_45 rfl hi es1 rfl ?_
  refine V.aload_n (i := 0) dX11_init_46 rfl rfl ?_
  refine V.getfield (kf := 0) (v := .ref 1) fl_RX11 dX11_init_47 w1043 (Nat.le_of_ble_eq_true rfl) rfl rfl ?_
  refine V.iconst (v := 5) dX11_init_50 rfl ?_
  refine V.iconst (v := 1) dX11_init_51 rfl ?_
  obtain ⟨hi, s2, es2, hf⟩ := fst_e hf
  refine V.fst (σ' := [.inl (6, [.ref 1, .ref 2, .int 0, .ref 3, .int 0, .ref 4, .int 0, .int 0, .int 0, .int 0, .int 0, .int 0, .int 0, .int 0, .int 0, .int 0, .int 0, .int 0, .long 0]), .inr (406, .inl s2), .inr (2436, .inl (fun _ => 0)), .inr (406, .inl (fun _ => 0)), .inr (60, .inl (fun _ => 0))]) dX11_init_52 rfl hi es2 rfl ?_
  refine V.aload_n (i := 0) dX11_init_53 rfl rfl ?_
  refine V.getfield (kf := 0) (v := .ref 1) fl_RX11 dX11_init_54 w1043 (Nat.le_of_ble_eq_true rfl) rfl rfl ?_
  refine V.bipush (v := 6) dX11_init_57 rfl ?_
  refine V.iconst (v := (-1)) dX11_init_59 rfl ?_
  obtain ⟨hi, s3, es3, hf⟩ := fst_e hf
  refine V.fst (σ' := [.inl (6, [.ref 1, .ref 2, .int 0, .ref 3, .int 0, .ref 4, .int 0, .int 0, .int 0, .int 0, .int 0, .int 0, .int 0, .int 0, .int 0, .int 0, .int 0, .int 0, .long 0]), .inr (406, .inl s3), .inr (2436, .inl (fun _ => 0)), .inr (406, .inl (fun _ => 0)), .inr (60, .inl (fun _ => 0))]) dX11_init_60 rfl hi es3 rfl ?_
  refine V.aload_n (i := 0) dX11_init_61 rfl rfl ?_
  refine V.getfield (kf := 0) (v := .ref 1) fl_RX11 dX11_init_62 w1043 (Nat.le_of_ble_eq_true rfl) rfl rfl ?_
  refine V.bipush (v := 7) dX11_init_65 rfl ?_
  refine V.iconst (v := (-1)) dX11_init_67 rfl ?_
  obtain ⟨hi, s4, es4, hf⟩ := fst_e hf
  refine V.fst (σ' := [.inl (6, [.ref 1, .ref 2, .int 0, .ref 3, .int 0, .ref 4, .int 0, .int 0, .int 0, .int 0, .int 0, .int 0, .int 0, .int 0, .int 0, .int 0, .int 0, .int 0, .long 0]), .inr (406, .inl s4), .inr (2436, .inl (fun _ => 0)), .inr (406, .inl (fun _ => 0)), .inr (60, .inl (fun _ => 0))]) dX11_init_68 rfl hi es4 rfl ?_
  refine V.iconst (v := 0) dX11_init_69 rfl ?_
  refine V.istore_n (i := 1) (L' := [some (.ref 0), some (.int 0)]) dX11_init_70 rfl (Nat.le_of_ble_eq_true rfl) rfl rfl ?_
  obtain ⟨r6, hr6, hf⟩ := fbind hf
  refine v_X11_init_L71 gF hr6 ?_
  obtain rfl := Option.some.inj hf
  exact V.vret dX11_init_97 rfl (Nat.le_of_ble_eq_true rfl) (Nat.le_of_ble_eq_true rfl) rfl
def k_X11_thrown : fK := (yX11_thrown, cX11_thrown, 1, (some .int), [], (0, 0), (0, 0), (0, 0))
theorem cal_X11_thrown : fCal k_X11_thrown 0 := ⟨⟨wc1104, w73⟩, ⟨by decide +kernel, by decide +kernel⟩, by decide +kernel, by decide +kernel⟩
def s_X11_thrown (M_thrown : Int32) : Option (Int32) := some M_thrown
set_option maxHeartbeats 4000000 in
set_option maxRecDepth 100000 in
theorem ct_X11_thrown {M_savedMany : Int32} {M_isTaken : Int32} {M_length : Int32} {M_thrown : Int32} {M_spelt : Int32} {M_speltMany : Int32} {M_place : Int32} {M_kind : Int32} {M_one : Int32} {M_two : Int32} {M_three : Int32} {M_begins : Int32} {M_done : Int32} {M_stopBy : Int32} {M_hash : Int64} {M_s : Nat → Int32} {M_saved : Nat → Int32} {M_snapshot : Nat → Int32} {M_text : Nat → Int32} {res : Int32} (hf : s_X11_thrown M_thrown = some res) : Ct k_X11_thrown [.ref 0] [.inl (6, [.ref 1, .ref 2, .int M_savedMany, .ref 3, .int M_isTaken, .ref 4, .int M_length, .int M_thrown, .int M_spelt, .int M_speltMany, .int M_place, .int M_kind, .int M_one, .int M_two, .int M_three, .int M_begins, .int M_done, .int M_stopBy, .long M_hash]), .inr (406, .inl M_s), .inr (2436, .inl M_saved), .inr (406, .inl M_snapshot), .inr (60, .inl M_text)] (.inl (some (.int res))) [.inl (6, [.ref 1, .ref 2, .int M_savedMany, .ref 3, .int M_isTaken, .ref 4, .int M_length, .int M_thrown, .int M_spelt, .int M_speltMany, .int M_place, .int M_kind, .int M_one, .int M_two, .int M_three, .int M_begins, .int M_done, .int M_stopBy, .long M_hash]), .inr (406, .inl M_s), .inr (2436, .inl M_saved), .inr (406, .inl M_snapshot), .inr (60, .inl M_text)] := by
  unfold s_X11_thrown at hf
  refine Ct.of (L := [some (.ref 0)]) cal_X11_thrown (fent_pad (j := 0) rfl) (Nat.le_of_ble_eq_true rfl) ?_
  refine V.aload_n (i := 0) dX11_thrown_0 rfl rfl ?_
  refine V.getfield (kf := 7) (v := .int M_thrown) fl_RX11 dX11_thrown_1 w1050 (Nat.le_of_ble_eq_true rfl) rfl rfl ?_
  obtain rfl := Option.some.inj hf
  exact V.iret dX11_thrown_4 rfl (Nat.le_of_ble_eq_true rfl) (Nat.le_of_ble_eq_true rfl) rfl
def k_X11_holds : fK := (yX11_holds, cX11_holds, 2, (some .boolean), [], (0, 0), (0, 0), (0, 0))
theorem cal_X11_holds : fCal k_X11_holds 1 := ⟨⟨wc1184, w73⟩, ⟨by decide +kernel, by decide +kernel⟩, by decide +kernel, by decide +kernel⟩
def s_X11_holds (a1 : Int32) (M_thrown : Int32) : Option (Int32 × (Int32)) := if (a1 = 0 : Prop) then (some (1, a1)) else (some (0, a1))
set_option maxHeartbeats 4000000 in
set_option maxRecDepth 100000 in
theorem ct_X11_holds {a1 : Int32} {M_savedMany : Int32} {M_isTaken : Int32} {M_length : Int32} {M_thrown : Int32} {M_spelt : Int32} {M_speltMany : Int32} {M_place : Int32} {M_kind : Int32} {M_one : Int32} {M_two : Int32} {M_three : Int32} {M_begins : Int32} {M_done : Int32} {M_stopBy : Int32} {M_hash : Int64} {M_s : Nat → Int32} {M_saved : Nat → Int32} {M_snapshot : Nat → Int32} {M_text : Nat → Int32} {res : Int32 × (Int32)} (hf : s_X11_holds a1 M_thrown = some res) : Ct k_X11_holds [.ref 0, .int a1] [.inl (6, [.ref 1, .ref 2, .int M_savedMany, .ref 3, .int M_isTaken, .ref 4, .int M_length, .int M_thrown, .int M_spelt, .int M_speltMany, .int M_place, .int M_kind, .int M_one, .int M_two, .int M_three, .int M_begins, .int M_done, .int M_stopBy, .long M_hash]), .inr (406, .inl M_s), .inr (2436, .inl M_saved), .inr (406, .inl M_snapshot), .inr (60, .inl M_text)] (.inl (some (.int res.1))) [.inl (6, [.ref 1, .ref 2, .int M_savedMany, .ref 3, .int M_isTaken, .ref 4, .int M_length, .int res.2, .int M_spelt, .int M_speltMany, .int M_place, .int M_kind, .int M_one, .int M_two, .int M_three, .int M_begins, .int M_done, .int M_stopBy, .long M_hash]), .inr (406, .inl M_s), .inr (2436, .inl M_saved), .inr (406, .inl M_snapshot), .inr (60, .inl M_text)] := by
  unfold s_X11_holds at hf
  refine Ct.of (L := [some (.ref 0), some (.int a1)]) cal_X11_holds (fent_pad (j := 0) rfl) (Nat.le_of_ble_eq_true rfl) ?_
  refine V.aload_n (i := 0) dX11_holds_0 rfl rfl ?_
  refine V.iload_n (i := 1) dX11_holds_1 rfl rfl ?_
  refine V.putfield (ty := tyX11) (kf := 7) (σ' := [.inl (6, [.ref 1, .ref 2, .int M_savedMany, .ref 3, .int M_isTaken, .ref 4, .int M_length, .int a1, .int M_spelt, .int M_speltMany, .int M_place, .int M_kind, .int M_one, .int M_two, .int M_three, .int M_begins, .int M_done, .int M_stopBy, .long M_hash]), .inr (406, .inl M_s), .inr (2436, .inl M_saved), .inr (406, .inl M_snapshot), .inr (60, .inl M_text)]) fl_RX11 dX11_holds_2 w1050 (Nat.le_of_ble_eq_true rfl) rfl (fun _ => ⟨rfl, rfl⟩) rfl (Nat.le_of_ble_eq_true rfl) rfl ?_
  refine V.iload_n (i := 1) dX11_holds_5 rfl rfl ?_
  refine V.if_ne (tgt := 13) dX11_holds_6 (by decide) (fun h => ?_) (fun h => ?_)
  · have hf := fif_f h hf
    refine V.iconst (v := 0) dX11_holds_13 rfl ?_
    obtain rfl := Option.some.inj hf
    exact V.zret (v := 0) dX11_holds_14 rfl (by decide +kernel) (Nat.le_of_ble_eq_true rfl) (Nat.le_of_ble_eq_true rfl) rfl
  · have hf := fif_t h hf
    refine V.iconst (v := 1) dX11_holds_9 rfl ?_
    refine V.goto (tgt := 14) dX11_holds_10 (by decide) ?_
    obtain rfl := Option.some.inj hf
    exact V.zret (v := 1) dX11_holds_14 rfl (by decide +kernel) (Nat.le_of_ble_eq_true rfl) (Nat.le_of_ble_eq_true rfl) rfl
def k_X11_plain : fK := (yX11_plain, cX11_plain, 2, (some .int), [], (0, 0), (0, 0), (0, 0))
theorem cal_X11_plain : fCal k_X11_plain 1 := ⟨⟨wc1278, w73⟩, ⟨by decide +kernel, by decide +kernel⟩, by decide +kernel, by decide +kernel⟩
def s_X11_plain (a1 : Int32) (M_thrown : Int32) : Option (Int32 × (Int32)) := some (a1, 0)
set_option maxHeartbeats 4000000 in
set_option maxRecDepth 100000 in
theorem ct_X11_plain {a1 : Int32} {M_savedMany : Int32} {M_isTaken : Int32} {M_length : Int32} {M_thrown : Int32} {M_spelt : Int32} {M_speltMany : Int32} {M_place : Int32} {M_kind : Int32} {M_one : Int32} {M_two : Int32} {M_three : Int32} {M_begins : Int32} {M_done : Int32} {M_stopBy : Int32} {M_hash : Int64} {M_s : Nat → Int32} {M_saved : Nat → Int32} {M_snapshot : Nat → Int32} {M_text : Nat → Int32} {res : Int32 × (Int32)} (hf : s_X11_plain a1 M_thrown = some res) : Ct k_X11_plain [.ref 0, .int a1] [.inl (6, [.ref 1, .ref 2, .int M_savedMany, .ref 3, .int M_isTaken, .ref 4, .int M_length, .int M_thrown, .int M_spelt, .int M_speltMany, .int M_place, .int M_kind, .int M_one, .int M_two, .int M_three, .int M_begins, .int M_done, .int M_stopBy, .long M_hash]), .inr (406, .inl M_s), .inr (2436, .inl M_saved), .inr (406, .inl M_snapshot), .inr (60, .inl M_text)] (.inl (some (.int res.1))) [.inl (6, [.ref 1, .ref 2, .int M_savedMany, .ref 3, .int M_isTaken, .ref 4, .int M_length, .int res.2, .int M_spelt, .int M_speltMany, .int M_place, .int M_kind, .int M_one, .int M_two, .int M_three, .int M_begins, .int M_done, .int M_stopBy, .long M_hash]), .inr (406, .inl M_s), .inr (2436, .inl M_saved), .inr (406, .inl M_snapshot), .inr (60, .inl M_text)] := by
  unfold s_X11_plain at hf
  refine Ct.of (L := [some (.ref 0), some (.int a1)]) cal_X11_plain (fent_pad (j := 0) rfl) (Nat.le_of_ble_eq_true rfl) ?_
  refine V.aload_n (i := 0) dX11_plain_0 rfl rfl ?_
  refine V.iconst (v := 0) dX11_plain_1 rfl ?_
  refine V.putfield (ty := tyX11) (kf := 7) (σ' := [.inl (6, [.ref 1, .ref 2, .int M_savedMany, .ref 3, .int M_isTaken, .ref 4, .int M_length, .int 0, .int M_spelt, .int M_speltMany, .int M_place, .int M_kind, .int M_one, .int M_two, .int M_three, .int M_begins, .int M_done, .int M_stopBy, .long M_hash]), .inr (406, .inl M_s), .inr (2436, .inl M_saved), .inr (406, .inl M_snapshot), .inr (60, .inl M_text)]) fl_RX11 dX11_plain_2 w1050 (Nat.le_of_ble_eq_true rfl) rfl (fun _ => ⟨rfl, rfl⟩) rfl (Nat.le_of_ble_eq_true rfl) rfl ?_
  refine V.iload_n (i := 1) dX11_plain_5 rfl rfl ?_
  obtain rfl := Option.some.inj hf
  exact V.iret dX11_plain_6 rfl (Nat.le_of_ble_eq_true rfl) (Nat.le_of_ble_eq_true rfl) rfl
def k_X11_in : fK := (yX11_in, cX11_in, 3, (some .boolean), [], (0, 0), (0, 0), (0, 0))
theorem cal_X11_in : fCal k_X11_in 3 := ⟨⟨wc1115, w73⟩, ⟨by decide +kernel, by decide +kernel⟩, by decide +kernel, by decide +kernel⟩
def s_X11_in (a0 : Int32) (a1 : Int32) (a2 : Int32) : Option (Int32) := if (a0 < a1 : Prop) then (some 0) else (if (a2 < a0 : Prop) then (some 0) else (some 1))
set_option maxHeartbeats 4000000 in
set_option maxRecDepth 100000 in
theorem ct_X11_in {a0 : Int32} {a1 : Int32} {a2 : Int32} {res : Int32} (hf : s_X11_in a0 a1 a2 = some res) : Ct k_X11_in [.int a0, .int a1, .int a2] [] (.inl (some (.int res))) [] := by
  unfold s_X11_in at hf
  refine Ct.of (L := [some (.int a0), some (.int a1), some (.int a2)]) cal_X11_in (fent_pad (j := 0) rfl) (Nat.le_of_ble_eq_true rfl) ?_
  refine V.iload_n (i := 0) dX11_in_0 rfl rfl ?_
  refine V.iload_n (i := 1) dX11_in_1 rfl rfl ?_
  refine V.icmp_lt (tgt := 14) dX11_in_2 (by decide) (fun h => ?_) (fun h => ?_)
  · have hf := fif_t h hf
    refine V.iconst (v := 0) dX11_in_14 rfl ?_
    obtain rfl := Option.some.inj hf
    exact V.zret (v := 0) dX11_in_15 rfl (by decide +kernel) (Nat.le_of_ble_eq_true rfl) (Nat.le_of_ble_eq_true rfl) rfl
  · have hf := fif_f h hf
    refine V.iload_n (i := 0) dX11_in_5 rfl rfl ?_
    refine V.iload_n (i := 2) dX11_in_6 rfl rfl ?_
    refine V.icmp_gt (tgt := 14) dX11_in_7 (by decide) (fun h => ?_) (fun h => ?_)
    · have hf := fif_t h hf
      refine V.iconst (v := 0) dX11_in_14 rfl ?_
      obtain rfl := Option.some.inj hf
      exact V.zret (v := 0) dX11_in_15 rfl (by decide +kernel) (Nat.le_of_ble_eq_true rfl) (Nat.le_of_ble_eq_true rfl) rfl
    · have hf := fif_f h hf
      refine V.iconst (v := 1) dX11_in_10 rfl ?_
      refine V.goto (tgt := 15) dX11_in_11 (by decide) ?_
      obtain rfl := Option.some.inj hf
      exact V.zret (v := 1) dX11_in_15 rfl (by decide +kernel) (Nat.le_of_ble_eq_true rfl) (Nat.le_of_ble_eq_true rfl) rfl
def k_X11_isFisher : fK := (yX11_isFisher, cX11_isFisher, 1, (some .boolean), [], (1, 22), (0, 0), (0, 0))
theorem cal_X11_isFisher : fCal k_X11_isFisher 1 := ⟨⟨wc1118, w73⟩, ⟨by decide +kernel, by decide +kernel⟩, by decide +kernel, by decide +kernel⟩
def s_X11_isFisher (a0 : Int32) : Option (Int32) := (s_X11_in a0 0 4).bind fun v1 => fz v1 (some v1)
set_option maxHeartbeats 4000000 in
set_option maxRecDepth 100000 in
theorem ct_X11_isFisher {a0 : Int32} {res : Int32} (hf : s_X11_isFisher a0 = some res) : Ct k_X11_isFisher [.int a0] [] (.inl (some (.int res))) [] := by
  unfold s_X11_isFisher at hf
  refine Ct.of (L := [some (.int a0)]) cal_X11_isFisher (fent_pad (j := 0) rfl) (Nat.le_of_ble_eq_true rfl) ?_
  refine V.iload_n (i := 0) dX11_isFisher_0 rfl rfl ?_
  refine V.iconst (v := 0) dX11_isFisher_1 rfl ?_
  refine V.iconst (v := 4) dX11_isFisher_2 rfl ?_
  obtain ⟨v1, hv1, hf⟩ := fbind hf
  refine V.callSn (pl := []) (σ' := []) (st2 := [.int v1]) (cl2 := 0) (sl2 := 0) (ct_X11_in (a0 := a0) (a1 := 0) (a2 := 4) hv1) dX11_isFisher_3 w1113 w1114 cal_X11_in ⟨⟨Nat.le_of_ble_eq_true rfl, Nat.le_of_ble_eq_true rfl⟩, Nat.le_of_ble_eq_true rfl, Nat.le_of_ble_eq_true rfl⟩ (Nat.le_of_ble_eq_true rfl) rfl ⟨rfl, ⟨by decide, by decide⟩, rfl, (fr_nil), rfl⟩ fr_i rfl rfl rfl rfl ?_
  obtain ⟨hz, hf⟩ := fz_e hf
  obtain rfl := Option.some.inj hf
  exact V.zret (v := v1) dX11_isFisher_6 rfl hz (Nat.le_of_ble_eq_true rfl) (Nat.le_of_ble_eq_true rfl) rfl
def k_X11_of : fK := (yX11_of, cX11_of, 3, (some .int), [], (0, 0), (0, 0), (0, 0))
theorem cal_X11_of : fCal k_X11_of 2 := ⟨⟨wc1126, w73⟩, ⟨by decide +kernel, by decide +kernel⟩, by decide +kernel, by decide +kernel⟩
def s_X11_of (a1 : Int32) (a2 : Int32) (M_s : Nat → Int32) : Option (Int32) := fld 406 M_s ((8 + (4 * a1)) + a2) fun v1 => some v1
set_option maxHeartbeats 4000000 in
set_option maxRecDepth 100000 in
theorem ct_X11_of {a1 : Int32} {a2 : Int32} {M_savedMany : Int32} {M_isTaken : Int32} {M_length : Int32} {M_thrown : Int32} {M_spelt : Int32} {M_speltMany : Int32} {M_place : Int32} {M_kind : Int32} {M_one : Int32} {M_two : Int32} {M_three : Int32} {M_begins : Int32} {M_done : Int32} {M_stopBy : Int32} {M_hash : Int64} {M_s : Nat → Int32} {M_saved : Nat → Int32} {M_snapshot : Nat → Int32} {M_text : Nat → Int32} {res : Int32} (hf : s_X11_of a1 a2 M_s = some res) : Ct k_X11_of [.ref 0, .int a1, .int a2] [.inl (6, [.ref 1, .ref 2, .int M_savedMany, .ref 3, .int M_isTaken, .ref 4, .int M_length, .int M_thrown, .int M_spelt, .int M_speltMany, .int M_place, .int M_kind, .int M_one, .int M_two, .int M_three, .int M_begins, .int M_done, .int M_stopBy, .long M_hash]), .inr (406, .inl M_s), .inr (2436, .inl M_saved), .inr (406, .inl M_snapshot), .inr (60, .inl M_text)] (.inl (some (.int res))) [.inl (6, [.ref 1, .ref 2, .int M_savedMany, .ref 3, .int M_isTaken, .ref 4, .int M_length, .int M_thrown, .int M_spelt, .int M_speltMany, .int M_place, .int M_kind, .int M_one, .int M_two, .int M_three, .int M_begins, .int M_done, .int M_stopBy, .long M_hash]), .inr (406, .inl M_s), .inr (2436, .inl M_saved), .inr (406, .inl M_snapshot), .inr (60, .inl M_text)] := by
  unfold s_X11_of at hf
  refine Ct.of (L := [some (.ref 0), some (.int a1), some (.int a2)]) cal_X11_of (fent_pad (j := 0) rfl) (Nat.le_of_ble_eq_true rfl) ?_
  refine V.aload_n (i := 0) dX11_of_0 rfl rfl ?_
  refine V.getfield (kf := 0) (v := .ref 1) fl_RX11 dX11_of_1 w1043 (Nat.le_of_ble_eq_true rfl) rfl rfl ?_
  refine V.bipush (v := 8) dX11_of_4 rfl ?_
  refine V.iconst (v := 4) dX11_of_6 rfl ?_
  refine V.iload_n (i := 1) dX11_of_7 rfl rfl ?_
  refine V.imul dX11_of_8 ?_
  refine V.iadd dX11_of_9 ?_
  refine V.iload_n (i := 2) dX11_of_10 rfl rfl ?_
  refine V.iadd dX11_of_11 ?_
  obtain ⟨hi, v1, ev1, hf⟩ := fld_e hf
  refine V.fld dX11_of_12 rfl hi ev1 ?_
  obtain rfl := Option.some.inj hf
  exact V.iret dX11_of_13 rfl (Nat.le_of_ble_eq_true rfl) (Nat.le_of_ble_eq_true rfl) rfl
def k_X11_isName : fK := (yX11_isName, cX11_isName, 3, (some .boolean), [], (2, 42), (0, 0), (0, 0))
theorem cal_X11_isName : fCal k_X11_isName 2 := ⟨⟨wc1207, w73⟩, ⟨by decide +kernel, by decide +kernel⟩, by decide +kernel, by decide +kernel⟩
def s_X11_isName (a1 : Int32) (a2 : Int32) (M_s : Nat → Int32) : Option (Int32) := (s_X11_isFisher a1).bind fun v1 => if (v1 = 0 : Prop) then (some 0) else ((s_X11_of a1 1 M_s).bind fun v2 => (s_X11_in a2 0 (v2 - 1)).bind fun v3 => if (v3 = 0 : Prop) then (some 0) else (some 1))
set_option maxHeartbeats 4000000 in
set_option maxRecDepth 100000 in
theorem ct_X11_isName {a1 : Int32} {a2 : Int32} {M_savedMany : Int32} {M_isTaken : Int32} {M_length : Int32} {M_thrown : Int32} {M_spelt : Int32} {M_speltMany : Int32} {M_place : Int32} {M_kind : Int32} {M_one : Int32} {M_two : Int32} {M_three : Int32} {M_begins : Int32} {M_done : Int32} {M_stopBy : Int32} {M_hash : Int64} {M_s : Nat → Int32} {M_saved : Nat → Int32} {M_snapshot : Nat → Int32} {M_text : Nat → Int32} {res : Int32} (hf : s_X11_isName a1 a2 M_s = some res) : Ct k_X11_isName [.ref 0, .int a1, .int a2] [.inl (6, [.ref 1, .ref 2, .int M_savedMany, .ref 3, .int M_isTaken, .ref 4, .int M_length, .int M_thrown, .int M_spelt, .int M_speltMany, .int M_place, .int M_kind, .int M_one, .int M_two, .int M_three, .int M_begins, .int M_done, .int M_stopBy, .long M_hash]), .inr (406, .inl M_s), .inr (2436, .inl M_saved), .inr (406, .inl M_snapshot), .inr (60, .inl M_text)] (.inl (some (.int res))) [.inl (6, [.ref 1, .ref 2, .int M_savedMany, .ref 3, .int M_isTaken, .ref 4, .int M_length, .int M_thrown, .int M_spelt, .int M_speltMany, .int M_place, .int M_kind, .int M_one, .int M_two, .int M_three, .int M_begins, .int M_done, .int M_stopBy, .long M_hash]), .inr (406, .inl M_s), .inr (2436, .inl M_saved), .inr (406, .inl M_snapshot), .inr (60, .inl M_text)] := by
  unfold s_X11_isName at hf
  refine Ct.of (L := [some (.ref 0), some (.int a1), some (.int a2)]) cal_X11_isName (fent_pad (j := 0) rfl) (Nat.le_of_ble_eq_true rfl) ?_
  refine V.iload_n (i := 1) dX11_isName_0 rfl rfl ?_
  obtain ⟨v1, hv1, hf⟩ := fbind hf
  refine V.callSn (pl := []) (σ' := [.inl (6, [.ref 1, .ref 2, .int M_savedMany, .ref 3, .int M_isTaken, .ref 4, .int M_length, .int M_thrown, .int M_spelt, .int M_speltMany, .int M_place, .int M_kind, .int M_one, .int M_two, .int M_three, .int M_begins, .int M_done, .int M_stopBy, .long M_hash]), .inr (406, .inl M_s), .inr (2436, .inl M_saved), .inr (406, .inl M_snapshot), .inr (60, .inl M_text)]) (st2 := [.int v1]) (cl2 := 0) (sl2 := 0) (ct_X11_isFisher (a0 := a1) hv1) dX11_isName_1 w1116 w1117 cal_X11_isFisher ⟨⟨Nat.le_of_ble_eq_true rfl, Nat.le_of_ble_eq_true rfl⟩, Nat.le_of_ble_eq_true rfl, Nat.le_of_ble_eq_true rfl⟩ (Nat.le_of_ble_eq_true rfl) rfl ⟨rfl, ⟨by decide, by decide⟩, rfl, (fr_nil), rfl⟩ fr_i rfl rfl rfl rfl ?_
  refine V.if_eq (tgt := 27) dX11_isName_4 (by decide) (fun h => ?_) (fun h => ?_)
  · have hf := fif_t h hf
    refine V.iconst (v := 0) dX11_isName_27 rfl ?_
    obtain rfl := Option.some.inj hf
    exact V.zret (v := 0) dX11_isName_28 rfl (by decide +kernel) (Nat.le_of_ble_eq_true rfl) (Nat.le_of_ble_eq_true rfl) rfl
  · have hf := fif_f h hf
    refine V.iload_n (i := 2) dX11_isName_7 rfl rfl ?_
    refine V.iconst (v := 0) dX11_isName_8 rfl ?_
    refine V.aload_n (i := 0) dX11_isName_9 rfl rfl ?_
    refine V.iload_n (i := 1) dX11_isName_10 rfl rfl ?_
    refine V.iconst (v := 1) dX11_isName_11 rfl ?_
    obtain ⟨v2, hv2, hf⟩ := fbind hf
    refine V.callVn (pl := [0, 1, 2, 3, 4]) (σ' := [.inl (6, [.ref 1, .ref 2, .int M_savedMany, .ref 3, .int M_isTaken, .ref 4, .int M_length, .int M_thrown, .int M_spelt, .int M_speltMany, .int M_place, .int M_kind, .int M_one, .int M_two, .int M_three, .int M_begins, .int M_done, .int M_stopBy, .long M_hash]), .inr (406, .inl M_s), .inr (2436, .inl M_saved), .inr (406, .inl M_snapshot), .inr (60, .inl M_text)]) (st2 := [.int v2, .int 0, .int a2]) (cl2 := 0) (sl2 := 0) (ct_X11_of (a1 := a1) (a2 := 1) (M_savedMany := M_savedMany) (M_isTaken := M_isTaken) (M_length := M_length) (M_thrown := M_thrown) (M_spelt := M_spelt) (M_speltMany := M_speltMany) (M_place := M_place) (M_kind := M_kind) (M_one := M_one) (M_two := M_two) (M_three := M_three) (M_begins := M_begins) (M_done := M_done) (M_stopBy := M_stopBy) (M_hash := M_hash) (M_s := M_s) (M_saved := M_saved) (M_snapshot := M_snapshot) (M_text := M_text) hv2) dX11_isName_12 w1123 ⟨w1125, w10⟩ cal_X11_of rfl ⟨⟨Nat.le_of_ble_eq_true rfl, Nat.le_of_ble_eq_true rfl⟩, Nat.le_of_ble_eq_true rfl, Nat.le_of_ble_eq_true rfl⟩ (Nat.le_of_ble_eq_true rfl) (Or.inl ⟨_, _, _, _, rfl, rfl⟩) rfl ⟨rfl, ⟨by decide, by decide⟩, rfl, (fr_cons (Or.inl (Nat.le_of_ble_eq_true rfl)) (fr_cons (Or.inl (Nat.le_of_ble_eq_true rfl)) (fr_cons (Or.inl (Nat.le_of_ble_eq_true rfl)) (fr_cons (Or.inl (Nat.le_of_ble_eq_true rfl)) (fr_nil))))), rfl⟩ fr_i rfl rfl rfl rfl ?_
    refine V.iconst (v := 1) dX11_isName_15 rfl ?_
    refine V.isub dX11_isName_16 ?_
    obtain ⟨v3, hv3, hf⟩ := fbind hf
    refine V.callSn (pl := []) (σ' := [.inl (6, [.ref 1, .ref 2, .int M_savedMany, .ref 3, .int M_isTaken, .ref 4, .int M_length, .int M_thrown, .int M_spelt, .int M_speltMany, .int M_place, .int M_kind, .int M_one, .int M_two, .int M_three, .int M_begins, .int M_done, .int M_stopBy, .long M_hash]), .inr (406, .inl M_s), .inr (2436, .inl M_saved), .inr (406, .inl M_snapshot), .inr (60, .inl M_text)]) (st2 := [.int v3]) (cl2 := 0) (sl2 := 0) (ct_X11_in (a0 := a2) (a1 := 0) (a2 := (v2 - 1)) hv3) dX11_isName_17 w1113 w1114 cal_X11_in ⟨⟨Nat.le_of_ble_eq_true rfl, Nat.le_of_ble_eq_true rfl⟩, Nat.le_of_ble_eq_true rfl, Nat.le_of_ble_eq_true rfl⟩ (Nat.le_of_ble_eq_true rfl) rfl ⟨rfl, ⟨by decide, by decide⟩, rfl, (fr_nil), rfl⟩ fr_i rfl rfl rfl rfl ?_
    refine V.if_eq (tgt := 27) dX11_isName_20 (by decide) (fun h => ?_) (fun h => ?_)
    · have hf := fif_t h hf
      refine V.iconst (v := 0) dX11_isName_27 rfl ?_
      obtain rfl := Option.some.inj hf
      exact V.zret (v := 0) dX11_isName_28 rfl (by decide +kernel) (Nat.le_of_ble_eq_true rfl) (Nat.le_of_ble_eq_true rfl) rfl
    · have hf := fif_f h hf
      refine V.iconst (v := 1) dX11_isName_23 rfl ?_
      refine V.goto (tgt := 28) dX11_isName_24 (by decide) ?_
      obtain rfl := Option.some.inj hf
      exact V.zret (v := 1) dX11_isName_28 rfl (by decide +kernel) (Nat.le_of_ble_eq_true rfl) (Nat.le_of_ble_eq_true rfl) rfl
def k_X11_add : fK := (yX11_add, cX11_add, 4, none, [], (0, 0), (0, 0), (0, 0))
theorem cal_X11_add : fCal k_X11_add 3 := ⟨⟨wc1199, w73⟩, ⟨by decide +kernel, by decide +kernel⟩, by decide +kernel, by decide +kernel⟩
def s_X11_add (a1 : Int32) (a2 : Int32) (a3 : Int32) (M_s : Nat → Int32) : Option ((Nat → Int32)) := fld 406 M_s ((8 + (4 * a1)) + a2) fun v1 => fst 406 M_s ((8 + (4 * a1)) + a2) (v1 + a3) fun s2 => some s2
set_option maxHeartbeats 4000000 in
set_option maxRecDepth 100000 in
theorem ct_X11_add {a1 : Int32} {a2 : Int32} {a3 : Int32} {M_savedMany : Int32} {M_isTaken : Int32} {M_length : Int32} {M_thrown : Int32} {M_spelt : Int32} {M_speltMany : Int32} {M_place : Int32} {M_kind : Int32} {M_one : Int32} {M_two : Int32} {M_three : Int32} {M_begins : Int32} {M_done : Int32} {M_stopBy : Int32} {M_hash : Int64} {M_s : Nat → Int32} {M_saved : Nat → Int32} {M_snapshot : Nat → Int32} {M_text : Nat → Int32} {res : (Nat → Int32)} (hf : s_X11_add a1 a2 a3 M_s = some res) : Ct k_X11_add [.ref 0, .int a1, .int a2, .int a3] [.inl (6, [.ref 1, .ref 2, .int M_savedMany, .ref 3, .int M_isTaken, .ref 4, .int M_length, .int M_thrown, .int M_spelt, .int M_speltMany, .int M_place, .int M_kind, .int M_one, .int M_two, .int M_three, .int M_begins, .int M_done, .int M_stopBy, .long M_hash]), .inr (406, .inl M_s), .inr (2436, .inl M_saved), .inr (406, .inl M_snapshot), .inr (60, .inl M_text)] (.inl none) [.inl (6, [.ref 1, .ref 2, .int M_savedMany, .ref 3, .int M_isTaken, .ref 4, .int M_length, .int M_thrown, .int M_spelt, .int M_speltMany, .int M_place, .int M_kind, .int M_one, .int M_two, .int M_three, .int M_begins, .int M_done, .int M_stopBy, .long M_hash]), .inr (406, .inl res), .inr (2436, .inl M_saved), .inr (406, .inl M_snapshot), .inr (60, .inl M_text)] := by
  unfold s_X11_add at hf
  refine Ct.of (L := [some (.ref 0), some (.int a1), some (.int a2), some (.int a3)]) cal_X11_add (fent_pad (j := 0) rfl) (Nat.le_of_ble_eq_true rfl) ?_
  refine V.aload_n (i := 0) dX11_add_0 rfl rfl ?_
  refine V.getfield (kf := 0) (v := .ref 1) fl_RX11 dX11_add_1 w1043 (Nat.le_of_ble_eq_true rfl) rfl rfl ?_
  refine V.bipush (v := 8) dX11_add_4 rfl ?_
  refine V.iconst (v := 4) dX11_add_6 rfl ?_
  refine V.iload_n (i := 1) dX11_add_7 rfl rfl ?_
  refine V.imul dX11_add_8 ?_
  refine V.iadd dX11_add_9 ?_
  refine V.iload_n (i := 2) dX11_add_10 rfl rfl ?_
  refine V.iadd dX11_add_11 ?_
  refine V.dup2 dX11_add_12 rfl rfl ?_
  obtain ⟨hi, v1, ev1, hf⟩ := fld_e hf
  refine V.fld dX11_add_13 rfl hi ev1 ?_
  refine V.iload_n (i := 3) dX11_add_14 rfl rfl ?_
  refine V.iadd dX11_add_15 ?_
  obtain ⟨hi, s2, es2, hf⟩ := fst_e hf
  refine V.fst (σ' := [.inl (6, [.ref 1, .ref 2, .int M_savedMany, .ref 3, .int M_isTaken, .ref 4, .int M_length, .int M_thrown, .int M_spelt, .int M_speltMany, .int M_place, .int M_kind, .int M_one, .int M_two, .int M_three, .int M_begins, .int M_done, .int M_stopBy, .long M_hash]), .inr (406, .inl s2), .inr (2436, .inl M_saved), .inr (406, .inl M_snapshot), .inr (60, .inl M_text)]) dX11_add_16 rfl hi es2 rfl ?_
  obtain rfl := Option.some.inj hf
  exact V.vret dX11_add_17 rfl (Nat.le_of_ble_eq_true rfl) (Nat.le_of_ble_eq_true rfl) rfl
def k_X11_whereIs : fK := (yX11_whereIs, cX11_whereIs, 2, (some .int), [], (0, 0), (0, 0), (0, 0))
theorem cal_X11_whereIs : fCal k_X11_whereIs 2 := ⟨⟨wc1149, w73⟩, ⟨by decide +kernel, by decide +kernel⟩, by decide +kernel, by decide +kernel⟩
def s_X11_whereIs (a0 : Int32) (a1 : Int32) : Option (Int32) := some (28 + (11 * ((6 * a0) + a1)))
set_option maxHeartbeats 4000000 in
set_option maxRecDepth 100000 in
theorem ct_X11_whereIs {a0 : Int32} {a1 : Int32} {res : Int32} (hf : s_X11_whereIs a0 a1 = some res) : Ct k_X11_whereIs [.int a0, .int a1] [] (.inl (some (.int res))) [] := by
  unfold s_X11_whereIs at hf
  refine Ct.of (L := [some (.int a0), some (.int a1)]) cal_X11_whereIs (fent_pad (j := 0) rfl) (Nat.le_of_ble_eq_true rfl) ?_
  refine V.bipush (v := 28) dX11_whereIs_0 rfl ?_
  refine V.bipush (v := 11) dX11_whereIs_2 rfl ?_
  refine V.bipush (v := 6) dX11_whereIs_4 rfl ?_
  refine V.iload_n (i := 0) dX11_whereIs_6 rfl rfl ?_
  refine V.imul dX11_whereIs_7 ?_
  refine V.iload_n (i := 1) dX11_whereIs_8 rfl rfl ?_
  refine V.iadd dX11_whereIs_9 ?_
  refine V.imul dX11_whereIs_10 ?_
  refine V.iadd dX11_whereIs_11 ?_
  obtain rfl := Option.some.inj hf
  exact V.iret dX11_whereIs_12 rfl (Nat.le_of_ble_eq_true rfl) (Nat.le_of_ble_eq_true rfl) rfl
def k_X11_copy : fK := (yX11_copy, cX11_copy, 5, none, [], (0, 0), (0, 0), (0, 0))
theorem cal_X11_copy : fCal k_X11_copy 4 := ⟨⟨wc1191, w73⟩, ⟨by decide +kernel, by decide +kernel⟩, by decide +kernel, by decide +kernel⟩
def s_X11_copy_L3 (n0 : Nat) (n2 : Nat) (p1 : Int32) (p3 : Int32) (row0 : Nat → Int32) : Nat → Int32 → (Nat → Int32) → Option (Int32 × (Nat → Int32))
  | 0, _, _ => none
  | n + 1, x4, row2 => if (406 ≤ x4 : Prop) then (some (x4, row2)) else (fld n0 row0 (p1 + x4) fun v1 => fst n2 row2 (p3 + x4) v1 fun s2 => s_X11_copy_L3 n0 n2 p1 p3 row0 n (x4 + 1) s2)
set_option maxHeartbeats 4000000 in
set_option maxRecDepth 100000 in
theorem v_X11_copy_L3 {out : fO} {σ' : List fE} {p1 : Int32} {p3 : Int32} {row0 : Nat → Int32} {n0 : Nat} {n2 : Nat} : ∀ (n : Nat) {x4 : Int32} {row2 : (Nat → Int32)} {res : Int32 × (Nat → Int32)} (hf : s_X11_copy_L3 n0 n2 p1 p3 row0 n x4 row2 = some res) (hx : V (fXm 2 k_X11_copy out σ') (krm k_X11_copy) k_X11_copy 2 29 [some (.ref 0), some (.int p1), some (.ref 1), some (.int p3), some (.int res.1)] [] [.inr (n0, .inl row0), .inr (n2, .inl res.2)] 0 0), V (fXm 2 k_X11_copy out σ') (krm k_X11_copy) k_X11_copy 2 3 [some (.ref 0), some (.int p1), some (.ref 1), some (.int p3), some (.int x4)] [] [.inr (n0, .inl row0), .inr (n2, .inl row2)] 0 0 := by
  intro n
  induction n with
  | zero =>
    intro x4 row2 res hf hx
    rw [s_X11_copy_L3] at hf
    cases hf
  | succ n ih =>
    intro x4 row2 res hf hx
    rw [s_X11_copy_L3] at hf
    refine V.iload (i := 4) dX11_copy_3 rfl ?_
    refine V.sipush (v := 406) dX11_copy_5 rfl ?_
    refine V.icmp_ge (tgt := 29) dX11_copy_8 (by decide) (fun h => ?_) (fun h => ?_)
    · have hf := fif_t h hf
      obtain rfl := Option.some.inj hf
      exact hx
    · have hf := fif_f h hf
      refine V.aload_n (i := 2) dX11_copy_11 rfl rfl ?_
      refine V.iload_n (i := 3) dX11_copy_12 rfl rfl ?_
      refine V.iload (i := 4) dX11_copy_13 rfl ?_
      refine V.iadd dX11_copy_15 ?_
      refine V.aload_n (i := 0) dX11_copy_16 rfl rfl ?_
      refine V.iload_n (i := 1) dX11_copy_17 rfl rfl ?_
      refine V.iload (i := 4) dX11_copy_18 rfl ?_
      refine V.iadd dX11_copy_20 ?_
      obtain ⟨hi, v1, ev1, hf⟩ := fld_e hf
      refine V.fld dX11_copy_21 rfl hi ev1 ?_
      obtain ⟨hi, s2, es2, hf⟩ := fst_e hf
      refine V.fst (σ' := [.inr (n0, .inl row0), .inr (n2, .inl s2)]) dX11_copy_22 rfl hi es2 rfl ?_
      refine V.iinc (i := 4) (v := (x4 + 1)) (L' := [some (.ref 0), some (.int p1), some (.ref 1), some (.int p3), some (.int (x4 + 1))]) dX11_copy_23 rfl rfl (Nat.le_of_ble_eq_true rfl) rfl rfl ?_
      refine V.goto (tgt := 3) dX11_copy_26 (by decide) ?_
      exact ih hf hx
def s_X11_copy (n0 : Nat) (a1 : Int32) (n2 : Nat) (a3 : Int32) (row0 : Nat → Int32) (row2 : Nat → Int32) : Option ((Nat → Int32)) := (s_X11_copy_L3 n0 n2 a1 a3 row0 gF 0 row2).bind fun r3 => some r3.2
set_option maxHeartbeats 4000000 in
set_option maxRecDepth 100000 in
theorem ct_X11_copy {n0 : Nat} {a1 : Int32} {n2 : Nat} {a3 : Int32} {row0 : Nat → Int32} {row2 : Nat → Int32} {res : (Nat → Int32)} (hf : s_X11_copy n0 a1 n2 a3 row0 row2 = some res) : Ct k_X11_copy [.ref 0, .int a1, .ref 1, .int a3] [.inr (n0, .inl row0), .inr (n2, .inl row2)] (.inl none) [.inr (n0, .inl row0), .inr (n2, .inl res)] := by
  unfold s_X11_copy at hf
  refine Ct.of (L := [some (.ref 0), some (.int a1), some (.ref 1), some (.int a3), none]) cal_X11_copy (fent_pad (j := 1) rfl) (Nat.le_of_ble_eq_true rfl) ?_
  refine V.iconst (v := 0) dX11_copy_0 rfl ?_
  refine V.istore (i := 4) (L' := [some (.ref 0), some (.int a1), some (.ref 1), some (.int a3), some (.int 0)]) dX11_copy_1 (Nat.le_of_ble_eq_true rfl) rfl rfl ?_
  obtain ⟨r3, hr3, hf⟩ := fbind hf
  refine v_X11_copy_L3 gF hr3 ?_
  obtain rfl := Option.some.inj hf
  exact V.vret dX11_copy_29 rfl (Nat.le_of_ble_eq_true rfl) (Nat.le_of_ble_eq_true rfl) rfl
def k_X11_save : fK := (yX11_save, cX11_save, 2, none, [], (1, 24), (0, 0), (0, 0))
theorem cal_X11_save : fCal k_X11_save 0 := ⟨⟨wc1188, w73⟩, ⟨by decide +kernel, by decide +kernel⟩, by decide +kernel, by decide +kernel⟩
def s_X11_save_L11 : Nat → Int32 → (Nat → Int32) → Option (Int32 × (Nat → Int32))
  | 0, _, _ => none
  | n + 1, x1, M_saved => if (2030 ≤ x1 : Prop) then (some (x1, M_saved)) else (fld 2436 M_saved (406 + x1) fun v2 => fst 2436 M_saved x1 v2 fun s3 => s_X11_save_L11 n (x1 + 1) s3)
set_option maxHeartbeats 4000000 in
set_option maxRecDepth 100000 in
theorem v_X11_save_L11 {out : fO} {σ' : List fE} {M_savedMany : Int32} {M_isTaken : Int32} {M_length : Int32} {M_thrown : Int32} {M_spelt : Int32} {M_speltMany : Int32} {M_place : Int32} {M_kind : Int32} {M_one : Int32} {M_two : Int32} {M_three : Int32} {M_begins : Int32} {M_done : Int32} {M_stopBy : Int32} {M_hash : Int64} {M_s : Nat → Int32} {M_snapshot : Nat → Int32} {M_text : Nat → Int32} : ∀ (n : Nat) {x1 : Int32} {M_saved : (Nat → Int32)} {res : Int32 × (Nat → Int32)} (hf : s_X11_save_L11 n x1 M_saved = some res) (hx : V (fXm 5 k_X11_save out σ') (krm k_X11_save) k_X11_save 5 40 [some (.ref 0), some (.int res.1)] [] [.inl (6, [.ref 1, .ref 2, .int M_savedMany, .ref 3, .int M_isTaken, .ref 4, .int M_length, .int M_thrown, .int M_spelt, .int M_speltMany, .int M_place, .int M_kind, .int M_one, .int M_two, .int M_three, .int M_begins, .int M_done, .int M_stopBy, .long M_hash]), .inr (406, .inl M_s), .inr (2436, .inl res.2), .inr (406, .inl M_snapshot), .inr (60, .inl M_text)] 0 0), V (fXm 5 k_X11_save out σ') (krm k_X11_save) k_X11_save 5 11 [some (.ref 0), some (.int x1)] [] [.inl (6, [.ref 1, .ref 2, .int M_savedMany, .ref 3, .int M_isTaken, .ref 4, .int M_length, .int M_thrown, .int M_spelt, .int M_speltMany, .int M_place, .int M_kind, .int M_one, .int M_two, .int M_three, .int M_begins, .int M_done, .int M_stopBy, .long M_hash]), .inr (406, .inl M_s), .inr (2436, .inl M_saved), .inr (406, .inl M_snapshot), .inr (60, .inl M_text)] 0 0 := by
  intro n
  induction n with
  | zero =>
    intro x1 M_saved res hf hx
    rw [s_X11_save_L11] at hf
    cases hf
  | succ n ih =>
    intro x1 M_saved res hf hx
    rw [s_X11_save_L11] at hf
    refine V.iload_n (i := 1) dX11_save_11 rfl rfl ?_
    refine V.sipush (v := 2030) dX11_save_12 rfl ?_
    refine V.icmp_ge (tgt := 40) dX11_save_15 (by decide) (fun h => ?_) (fun h => ?_)
    · have hf := fif_t h hf
      obtain rfl := Option.some.inj hf
      exact hx
    · have hf := fif_f h hf
      refine V.aload_n (i := 0) dX11_save_18 rfl rfl ?_
      refine V.getfield (kf := 1) (v := .ref 2) fl_RX11 dX11_save_19 w1044 (Nat.le_of_ble_eq_true rfl) rfl rfl ?_
      refine V.iload_n (i := 1) dX11_save_22 rfl rfl ?_
      refine V.aload_n (i := 0) dX11_save_23 rfl rfl ?_
      refine V.getfield (kf := 1) (v := .ref 2) fl_RX11 dX11_save_24 w1044 (Nat.le_of_ble_eq_true rfl) rfl rfl ?_
      refine V.sipush (v := 406) dX11_save_27 rfl ?_
      refine V.iload_n (i := 1) dX11_save_30 rfl rfl ?_
      refine V.iadd dX11_save_31 ?_
      obtain ⟨hi, v2, ev2, hf⟩ := fld_e hf
      refine V.fld dX11_save_32 rfl hi ev2 ?_
      obtain ⟨hi, s3, es3, hf⟩ := fst_e hf
      refine V.fst (σ' := [.inl (6, [.ref 1, .ref 2, .int M_savedMany, .ref 3, .int M_isTaken, .ref 4, .int M_length, .int M_thrown, .int M_spelt, .int M_speltMany, .int M_place, .int M_kind, .int M_one, .int M_two, .int M_three, .int M_begins, .int M_done, .int M_stopBy, .long M_hash]), .inr (406, .inl M_s), .inr (2436, .inl s3), .inr (406, .inl M_snapshot), .inr (60, .inl M_text)]) dX11_save_33 rfl hi es3 rfl ?_
      refine V.iinc (i := 1) (v := (x1 + 1)) (L' := [some (.ref 0), some (.int (x1 + 1))]) dX11_save_34 rfl rfl (Nat.le_of_ble_eq_true rfl) rfl rfl ?_
      refine V.goto (tgt := 11) dX11_save_37 (by decide) ?_
      exact ih hf hx
def s_X11_save (M_savedMany : Int32) (M_s : Nat → Int32) (M_saved : Nat → Int32) : Option ((Int32) × (Nat → Int32)) := if (M_savedMany = 6 : Prop) then ((s_X11_save_L11 gF 0 M_saved).bind fun r4 => (s_X11_copy 406 0 2436 (406 * (M_savedMany - 1)) M_s r4.2).bind fun v5 => some (((M_savedMany - 1) + 1), v5)) else ((s_X11_copy 406 0 2436 (406 * M_savedMany) M_s M_saved).bind fun v1 => some ((M_savedMany + 1), v1))
set_option maxHeartbeats 4000000 in
set_option maxRecDepth 100000 in
theorem ct_X11_save {M_savedMany : Int32} {M_isTaken : Int32} {M_length : Int32} {M_thrown : Int32} {M_spelt : Int32} {M_speltMany : Int32} {M_place : Int32} {M_kind : Int32} {M_one : Int32} {M_two : Int32} {M_three : Int32} {M_begins : Int32} {M_done : Int32} {M_stopBy : Int32} {M_hash : Int64} {M_s : Nat → Int32} {M_saved : Nat → Int32} {M_snapshot : Nat → Int32} {M_text : Nat → Int32} {res : (Int32) × (Nat → Int32)} (hf : s_X11_save M_savedMany M_s M_saved = some res) : Ct k_X11_save [.ref 0] [.inl (6, [.ref 1, .ref 2, .int M_savedMany, .ref 3, .int M_isTaken, .ref 4, .int M_length, .int M_thrown, .int M_spelt, .int M_speltMany, .int M_place, .int M_kind, .int M_one, .int M_two, .int M_three, .int M_begins, .int M_done, .int M_stopBy, .long M_hash]), .inr (406, .inl M_s), .inr (2436, .inl M_saved), .inr (406, .inl M_snapshot), .inr (60, .inl M_text)] (.inl none) [.inl (6, [.ref 1, .ref 2, .int res.1, .ref 3, .int M_isTaken, .ref 4, .int M_length, .int M_thrown, .int M_spelt, .int M_speltMany, .int M_place, .int M_kind, .int M_one, .int M_two, .int M_three, .int M_begins, .int M_done, .int M_stopBy, .long M_hash]), .inr (406, .inl M_s), .inr (2436, .inl res.2), .inr (406, .inl M_snapshot), .inr (60, .inl M_text)] := by
  unfold s_X11_save at hf
  refine Ct.of (L := [some (.ref 0), none]) cal_X11_save (fent_pad (j := 1) rfl) (Nat.le_of_ble_eq_true rfl) ?_
  refine V.aload_n (i := 0) dX11_save_0 rfl rfl ?_
  refine V.getfield (kf := 2) (v := .int M_savedMany) fl_RX11 dX11_save_1 w1045 (Nat.le_of_ble_eq_true rfl) rfl rfl ?_
  refine V.bipush (v := 6) dX11_save_4 rfl ?_
  refine V.icmp_ne (tgt := 50) dX11_save_6 (by decide) (fun h => ?_) (fun h => ?_)
  · have hf := fif_f h hf
    refine V.aload_n (i := 0) dX11_save_50 rfl rfl ?_
    refine V.getfield (kf := 0) (v := .ref 1) fl_RX11 dX11_save_51 w1043 (Nat.le_of_ble_eq_true rfl) rfl rfl ?_
    refine V.iconst (v := 0) dX11_save_54 rfl ?_
    refine V.aload_n (i := 0) dX11_save_55 rfl rfl ?_
    refine V.getfield (kf := 1) (v := .ref 2) fl_RX11 dX11_save_56 w1044 (Nat.le_of_ble_eq_true rfl) rfl rfl ?_
    refine V.sipush (v := 406) dX11_save_59 rfl ?_
    refine V.aload_n (i := 0) dX11_save_62 rfl rfl ?_
    refine V.getfield (kf := 2) (v := .int M_savedMany) fl_RX11 dX11_save_63 w1045 (Nat.le_of_ble_eq_true rfl) rfl rfl ?_
    refine V.imul dX11_save_66 ?_
    obtain ⟨v1, hv1, hf⟩ := fbind hf
    refine V.callSn (pl := [1, 2]) (σ' := [.inl (6, [.ref 1, .ref 2, .int M_savedMany, .ref 3, .int M_isTaken, .ref 4, .int M_length, .int M_thrown, .int M_spelt, .int M_speltMany, .int M_place, .int M_kind, .int M_one, .int M_two, .int M_three, .int M_begins, .int M_done, .int M_stopBy, .long M_hash]), .inr (406, .inl M_s), .inr (2436, .inl v1), .inr (406, .inl M_snapshot), .inr (60, .inl M_text)]) (st2 := []) (cl2 := 0) (sl2 := 0) (ct_X11_copy (n0 := 406) (a1 := 0) (n2 := 2436) (a3 := (406 * M_savedMany)) (row0 := M_s) (row2 := M_saved) hv1) dX11_save_67 w1189 w1190 cal_X11_copy ⟨⟨Nat.le_of_ble_eq_true rfl, Nat.le_of_ble_eq_true rfl⟩, Nat.le_of_ble_eq_true rfl, Nat.le_of_ble_eq_true rfl⟩ (Nat.le_of_ble_eq_true rfl) rfl ⟨rfl, ⟨by decide, by decide⟩, rfl, (fr_nil), rfl⟩ fr_v rfl rfl rfl rfl ?_
    refine V.aload_n (i := 0) dX11_save_70 rfl rfl ?_
    refine V.dup dX11_save_71 rfl ?_
    refine V.getfield (kf := 2) (v := .int M_savedMany) fl_RX11 dX11_save_72 w1045 (Nat.le_of_ble_eq_true rfl) rfl rfl ?_
    refine V.iconst (v := 1) dX11_save_75 rfl ?_
    refine V.iadd dX11_save_76 ?_
    refine V.putfield (ty := tyX11) (kf := 2) (σ' := [.inl (6, [.ref 1, .ref 2, .int (M_savedMany + 1), .ref 3, .int M_isTaken, .ref 4, .int M_length, .int M_thrown, .int M_spelt, .int M_speltMany, .int M_place, .int M_kind, .int M_one, .int M_two, .int M_three, .int M_begins, .int M_done, .int M_stopBy, .long M_hash]), .inr (406, .inl M_s), .inr (2436, .inl v1), .inr (406, .inl M_snapshot), .inr (60, .inl M_text)]) fl_RX11 dX11_save_77 w1045 (Nat.le_of_ble_eq_true rfl) rfl (fun _ => ⟨rfl, rfl⟩) rfl (Nat.le_of_ble_eq_true rfl) rfl ?_
    obtain rfl := Option.some.inj hf
    exact V.vret dX11_save_80 rfl (Nat.le_of_ble_eq_true rfl) (Nat.le_of_ble_eq_true rfl) rfl
  · have hf := fif_t h hf
    refine V.iconst (v := 0) dX11_save_9 rfl ?_
    refine V.istore_n (i := 1) (L' := [some (.ref 0), some (.int 0)]) dX11_save_10 rfl (Nat.le_of_ble_eq_true rfl) rfl rfl ?_
    obtain ⟨r4, hr4, hf⟩ := fbind hf
    refine v_X11_save_L11 gF hr4 ?_
    refine V.aload_n (i := 0) dX11_save_40 rfl rfl ?_
    refine V.dup dX11_save_41 rfl ?_
    refine V.getfield (kf := 2) (v := .int M_savedMany) fl_RX11 dX11_save_42 w1045 (Nat.le_of_ble_eq_true rfl) rfl rfl ?_
    refine V.iconst (v := 1) dX11_save_45 rfl ?_
    refine V.isub dX11_save_46 ?_
    refine V.putfield (ty := tyX11) (kf := 2) (σ' := [.inl (6, [.ref 1, .ref 2, .int (M_savedMany - 1), .ref 3, .int M_isTaken, .ref 4, .int M_length, .int M_thrown, .int M_spelt, .int M_speltMany, .int M_place, .int M_kind, .int M_one, .int M_two, .int M_three, .int M_begins, .int M_done, .int M_stopBy, .long M_hash]), .inr (406, .inl M_s), .inr (2436, .inl r4.2), .inr (406, .inl M_snapshot), .inr (60, .inl M_text)]) fl_RX11 dX11_save_47 w1045 (Nat.le_of_ble_eq_true rfl) rfl (fun _ => ⟨rfl, rfl⟩) rfl (Nat.le_of_ble_eq_true rfl) rfl ?_
    refine V.aload_n (i := 0) dX11_save_50 rfl rfl ?_
    refine V.getfield (kf := 0) (v := .ref 1) fl_RX11 dX11_save_51 w1043 (Nat.le_of_ble_eq_true rfl) rfl rfl ?_
    refine V.iconst (v := 0) dX11_save_54 rfl ?_
    refine V.aload_n (i := 0) dX11_save_55 rfl rfl ?_
    refine V.getfield (kf := 1) (v := .ref 2) fl_RX11 dX11_save_56 w1044 (Nat.le_of_ble_eq_true rfl) rfl rfl ?_
    refine V.sipush (v := 406) dX11_save_59 rfl ?_
    refine V.aload_n (i := 0) dX11_save_62 rfl rfl ?_
    refine V.getfield (kf := 2) (v := .int (M_savedMany - 1)) fl_RX11 dX11_save_63 w1045 (Nat.le_of_ble_eq_true rfl) rfl rfl ?_
    refine V.imul dX11_save_66 ?_
    obtain ⟨v5, hv5, hf⟩ := fbind hf
    refine V.callSn (pl := [1, 2]) (σ' := [.inl (6, [.ref 1, .ref 2, .int (M_savedMany - 1), .ref 3, .int M_isTaken, .ref 4, .int M_length, .int M_thrown, .int M_spelt, .int M_speltMany, .int M_place, .int M_kind, .int M_one, .int M_two, .int M_three, .int M_begins, .int M_done, .int M_stopBy, .long M_hash]), .inr (406, .inl M_s), .inr (2436, .inl v5), .inr (406, .inl M_snapshot), .inr (60, .inl M_text)]) (st2 := []) (cl2 := 0) (sl2 := 0) (ct_X11_copy (n0 := 406) (a1 := 0) (n2 := 2436) (a3 := (406 * (M_savedMany - 1))) (row0 := M_s) (row2 := r4.2) hv5) dX11_save_67 w1189 w1190 cal_X11_copy ⟨⟨Nat.le_of_ble_eq_true rfl, Nat.le_of_ble_eq_true rfl⟩, Nat.le_of_ble_eq_true rfl, Nat.le_of_ble_eq_true rfl⟩ (Nat.le_of_ble_eq_true rfl) rfl ⟨rfl, ⟨by decide, by decide⟩, rfl, (fr_nil), rfl⟩ fr_v rfl rfl rfl rfl ?_
    refine V.aload_n (i := 0) dX11_save_70 rfl rfl ?_
    refine V.dup dX11_save_71 rfl ?_
    refine V.getfield (kf := 2) (v := .int (M_savedMany - 1)) fl_RX11 dX11_save_72 w1045 (Nat.le_of_ble_eq_true rfl) rfl rfl ?_
    refine V.iconst (v := 1) dX11_save_75 rfl ?_
    refine V.iadd dX11_save_76 ?_
    refine V.putfield (ty := tyX11) (kf := 2) (σ' := [.inl (6, [.ref 1, .ref 2, .int ((M_savedMany - 1) + 1), .ref 3, .int M_isTaken, .ref 4, .int M_length, .int M_thrown, .int M_spelt, .int M_speltMany, .int M_place, .int M_kind, .int M_one, .int M_two, .int M_three, .int M_begins, .int M_done, .int M_stopBy, .long M_hash]), .inr (406, .inl M_s), .inr (2436, .inl v5), .inr (406, .inl M_snapshot), .inr (60, .inl M_text)]) fl_RX11 dX11_save_77 w1045 (Nat.le_of_ble_eq_true rfl) rfl (fun _ => ⟨rfl, rfl⟩) rfl (Nat.le_of_ble_eq_true rfl) rfl ?_
    obtain rfl := Option.some.inj hf
    exact V.vret dX11_save_80 rfl (Nat.le_of_ble_eq_true rfl) (Nat.le_of_ble_eq_true rfl) rfl
def k_X11_turns : fK := (yX11_turns, cX11_turns, 1, (some .int), [], (0, 0), (0, 0), (0, 0))
theorem cal_X11_turns : fCal k_X11_turns 1 := ⟨⟨wc1138, w73⟩, ⟨by decide +kernel, by decide +kernel⟩, by decide +kernel, by decide +kernel⟩
def s_X11_turns (a0 : Int32) : Option (Int32) := some (1 + (a0 / 4))
set_option maxHeartbeats 4000000 in
set_option maxRecDepth 100000 in
theorem ct_X11_turns {a0 : Int32} {res : Int32} (hf : s_X11_turns a0 = some res) : Ct k_X11_turns [.int a0] [] (.inl (some (.int res))) [] := by
  unfold s_X11_turns at hf
  refine Ct.of (L := [some (.int a0)]) cal_X11_turns (fent_pad (j := 0) rfl) (Nat.le_of_ble_eq_true rfl) ?_
  refine V.iconst (v := 1) dX11_turns_0 rfl ?_
  refine V.iload_n (i := 0) dX11_turns_1 rfl rfl ?_
  refine V.iconst (v := 4) dX11_turns_2 rfl ?_
  refine V.idiv dX11_turns_3 (by decide) ?_
  refine V.iadd dX11_turns_4 ?_
  obtain rfl := Option.some.inj hf
  exact V.iret dX11_turns_5 rfl (Nat.le_of_ble_eq_true rfl) (Nat.le_of_ble_eq_true rfl) rfl
def k_X11_cordOfLetter : fK := (yX11_cordOfLetter, cX11_cordOfLetter, 1, (some .int), [], (1, 20), (0, 0), (0, 0))
theorem cal_X11_cordOfLetter : fCal k_X11_cordOfLetter 1 := ⟨⟨wc1135, w73⟩, ⟨by decide +kernel, by decide +kernel⟩, by decide +kernel, by decide +kernel⟩
def s_X11_cordOfLetter (a0 : Int32) : Option (Int32) := (s_X11_turns a0).bind fun v1 => some ((2 * v1) + (a0 - a0 / 4 * 4))
set_option maxHeartbeats 4000000 in
set_option maxRecDepth 100000 in
theorem ct_X11_cordOfLetter {a0 : Int32} {res : Int32} (hf : s_X11_cordOfLetter a0 = some res) : Ct k_X11_cordOfLetter [.int a0] [] (.inl (some (.int res))) [] := by
  unfold s_X11_cordOfLetter at hf
  refine Ct.of (L := [some (.int a0)]) cal_X11_cordOfLetter (fent_pad (j := 0) rfl) (Nat.le_of_ble_eq_true rfl) ?_
  refine V.iconst (v := 2) dX11_cordOfLetter_0 rfl ?_
  refine V.iload_n (i := 0) dX11_cordOfLetter_1 rfl rfl ?_
  obtain ⟨v1, hv1, hf⟩ := fbind hf
  refine V.callSn (pl := []) (σ' := []) (st2 := [.int v1, .int 2]) (cl2 := 0) (sl2 := 0) (ct_X11_turns (a0 := a0) hv1) dX11_cordOfLetter_2 w1136 w1137 cal_X11_turns ⟨⟨Nat.le_of_ble_eq_true rfl, Nat.le_of_ble_eq_true rfl⟩, Nat.le_of_ble_eq_true rfl, Nat.le_of_ble_eq_true rfl⟩ (Nat.le_of_ble_eq_true rfl) rfl ⟨rfl, ⟨by decide, by decide⟩, rfl, (fr_nil), rfl⟩ fr_i rfl rfl rfl rfl ?_
  refine V.imul dX11_cordOfLetter_5 ?_
  refine V.iload_n (i := 0) dX11_cordOfLetter_6 rfl rfl ?_
  refine V.iconst (v := 4) dX11_cordOfLetter_7 rfl ?_
  refine V.irem dX11_cordOfLetter_8 (by decide) ?_
  refine V.iadd dX11_cordOfLetter_9 ?_
  obtain rfl := Option.some.inj hf
  exact V.iret dX11_cordOfLetter_10 rfl (Nat.le_of_ble_eq_true rfl) (Nat.le_of_ble_eq_true rfl) rfl
def k_X11_isVowel : fK := (yX11_isVowel, cX11_isVowel, 1, (some .boolean), [], (0, 0), (0, 0), (0, 0))
theorem cal_X11_isVowel : fCal k_X11_isVowel 1 := ⟨⟨wc1254, w73⟩, ⟨by decide +kernel, by decide +kernel⟩, by decide +kernel, by decide +kernel⟩
def s_X11_isVowel (a0 : Int32) : Option (Int32) := if (a0 = 0 : Prop) then (some 1) else (if (a0 = 4 : Prop) then (some 1) else (if (a0 = 8 : Prop) then (some 1) else (if (a0 = 14 : Prop) then (some 1) else (some 0))))
set_option maxHeartbeats 4000000 in
set_option maxRecDepth 100000 in
theorem ct_X11_isVowel {a0 : Int32} {res : Int32} (hf : s_X11_isVowel a0 = some res) : Ct k_X11_isVowel [.int a0] [] (.inl (some (.int res))) [] := by
  unfold s_X11_isVowel at hf
  refine Ct.of (L := [some (.int a0)]) cal_X11_isVowel (fent_pad (j := 0) rfl) (Nat.le_of_ble_eq_true rfl) ?_
  refine V.iload_n (i := 0) dX11_isVowel_0 rfl rfl ?_
  refine V.if_eq (tgt := 21) dX11_isVowel_1 (by decide) (fun h => ?_) (fun h => ?_)
  · have hf := fif_t h hf
    refine V.iconst (v := 1) dX11_isVowel_21 rfl ?_
    refine V.goto (tgt := 26) dX11_isVowel_22 (by decide) ?_
    obtain rfl := Option.some.inj hf
    exact V.zret (v := 1) dX11_isVowel_26 rfl (by decide +kernel) (Nat.le_of_ble_eq_true rfl) (Nat.le_of_ble_eq_true rfl) rfl
  · have hf := fif_f h hf
    refine V.iload_n (i := 0) dX11_isVowel_4 rfl rfl ?_
    refine V.iconst (v := 4) dX11_isVowel_5 rfl ?_
    refine V.icmp_eq (tgt := 21) dX11_isVowel_6 (by decide) (fun h => ?_) (fun h => ?_)
    · have hf := fif_t h hf
      refine V.iconst (v := 1) dX11_isVowel_21 rfl ?_
      refine V.goto (tgt := 26) dX11_isVowel_22 (by decide) ?_
      obtain rfl := Option.some.inj hf
      exact V.zret (v := 1) dX11_isVowel_26 rfl (by decide +kernel) (Nat.le_of_ble_eq_true rfl) (Nat.le_of_ble_eq_true rfl) rfl
    · have hf := fif_f h hf
      refine V.iload_n (i := 0) dX11_isVowel_9 rfl rfl ?_
      refine V.bipush (v := 8) dX11_isVowel_10 rfl ?_
      refine V.icmp_eq (tgt := 21) dX11_isVowel_12 (by decide) (fun h => ?_) (fun h => ?_)
      · have hf := fif_t h hf
        refine V.iconst (v := 1) dX11_isVowel_21 rfl ?_
        refine V.goto (tgt := 26) dX11_isVowel_22 (by decide) ?_
        obtain rfl := Option.some.inj hf
        exact V.zret (v := 1) dX11_isVowel_26 rfl (by decide +kernel) (Nat.le_of_ble_eq_true rfl) (Nat.le_of_ble_eq_true rfl) rfl
      · have hf := fif_f h hf
        refine V.iload_n (i := 0) dX11_isVowel_15 rfl rfl ?_
        refine V.bipush (v := 14) dX11_isVowel_16 rfl ?_
        refine V.icmp_ne (tgt := 25) dX11_isVowel_18 (by decide) (fun h => ?_) (fun h => ?_)
        · have hf := fif_f h hf
          refine V.iconst (v := 0) dX11_isVowel_25 rfl ?_
          obtain rfl := Option.some.inj hf
          exact V.zret (v := 0) dX11_isVowel_26 rfl (by decide +kernel) (Nat.le_of_ble_eq_true rfl) (Nat.le_of_ble_eq_true rfl) rfl
        · have hf := fif_t h hf
          refine V.iconst (v := 1) dX11_isVowel_21 rfl ?_
          refine V.goto (tgt := 26) dX11_isVowel_22 (by decide) ?_
          obtain rfl := Option.some.inj hf
          exact V.zret (v := 1) dX11_isVowel_26 rfl (by decide +kernel) (Nat.le_of_ble_eq_true rfl) (Nat.le_of_ble_eq_true rfl) rfl
def k_X11_letterAt : fK := (yX11_letterAt, cX11_letterAt, 2, (some .int), [], (0, 0), (0, 0), (0, 0))
theorem cal_X11_letterAt : fCal k_X11_letterAt 2 := ⟨⟨wc1132, w73⟩, ⟨by decide +kernel, by decide +kernel⟩, by decide +kernel, by decide +kernel⟩
def s_X11_letterAt (a0 : Int32) (a1 : Int32) : Option (Int32) := some ((a0 >>> ((4 * a1) &&& 31)) &&& 15)
set_option maxHeartbeats 4000000 in
set_option maxRecDepth 100000 in
theorem ct_X11_letterAt {a0 : Int32} {a1 : Int32} {res : Int32} (hf : s_X11_letterAt a0 a1 = some res) : Ct k_X11_letterAt [.int a0, .int a1] [] (.inl (some (.int res))) [] := by
  unfold s_X11_letterAt at hf
  refine Ct.of (L := [some (.int a0), some (.int a1)]) cal_X11_letterAt (fent_pad (j := 0) rfl) (Nat.le_of_ble_eq_true rfl) ?_
  refine V.iload_n (i := 0) dX11_letterAt_0 rfl rfl ?_
  refine V.iconst (v := 4) dX11_letterAt_1 rfl ?_
  refine V.iload_n (i := 1) dX11_letterAt_2 rfl rfl ?_
  refine V.imul dX11_letterAt_3 ?_
  refine V.ishr dX11_letterAt_4 ?_
  refine V.bipush (v := 15) dX11_letterAt_5 rfl ?_
  refine V.iand dX11_letterAt_7 ?_
  obtain rfl := Option.some.inj hf
  exact V.iret dX11_letterAt_8 rfl (Nat.le_of_ble_eq_true rfl) (Nat.le_of_ble_eq_true rfl) rfl
def k_X11_cordOfLetters : fK := (yX11_cordOfLetters, cX11_cordOfLetters, 4, (some .int), [], (2, 40), (0, 0), (0, 0))
theorem cal_X11_cordOfLetters : fCal k_X11_cordOfLetters 2 := ⟨⟨wc1129, w73⟩, ⟨by decide +kernel, by decide +kernel⟩, by decide +kernel, by decide +kernel⟩
def s_X11_cordOfLetters_L4 (p0 : Int32) (p1 : Int32) : Nat → Int32 → Int32 → Option (Int32 × Int32)
  | 0, _, _ => none
  | n + 1, x2, x3 => if (p1 ≤ x3 : Prop) then (some (x2, x3)) else ((s_X11_letterAt p0 x3).bind fun v1 => (s_X11_cordOfLetter v1).bind fun v2 => s_X11_cordOfLetters_L4 p0 p1 n (x2 + (v2 + 1)) (x3 + 1))
set_option maxHeartbeats 4000000 in
set_option maxRecDepth 100000 in
theorem v_X11_cordOfLetters_L4 {out : fO} {σ' : List fE} {p0 : Int32} {p1 : Int32} : ∀ (n : Nat) {x2 : Int32} {x3 : Int32} {res : Int32 × Int32} (hf : s_X11_cordOfLetters_L4 p0 p1 n x2 x3 = some res) (hx : V (fXm 0 k_X11_cordOfLetters out σ') (krm k_X11_cordOfLetters) k_X11_cordOfLetters 0 28 [some (.int p0), some (.int p1), some (.int res.1), some (.int res.2)] [] [] 0 0), V (fXm 0 k_X11_cordOfLetters out σ') (krm k_X11_cordOfLetters) k_X11_cordOfLetters 0 4 [some (.int p0), some (.int p1), some (.int x2), some (.int x3)] [] [] 0 0 := by
  intro n
  induction n with
  | zero =>
    intro x2 x3 res hf hx
    rw [s_X11_cordOfLetters_L4] at hf
    cases hf
  | succ n ih =>
    intro x2 x3 res hf hx
    rw [s_X11_cordOfLetters_L4] at hf
    refine V.iload_n (i := 3) dX11_cordOfLetters_4 rfl rfl ?_
    refine V.iload_n (i := 1) dX11_cordOfLetters_5 rfl rfl ?_
    refine V.icmp_ge (tgt := 28) dX11_cordOfLetters_6 (by decide) (fun h => ?_) (fun h => ?_)
    · have hf := fif_t h hf
      obtain rfl := Option.some.inj hf
      exact hx
    · have hf := fif_f h hf
      refine V.iload_n (i := 2) dX11_cordOfLetters_9 rfl rfl ?_
      refine V.iload_n (i := 0) dX11_cordOfLetters_10 rfl rfl ?_
      refine V.iload_n (i := 3) dX11_cordOfLetters_11 rfl rfl ?_
      obtain ⟨v1, hv1, hf⟩ := fbind hf
      refine V.callSn (pl := []) (σ' := []) (st2 := [.int v1, .int x2]) (cl2 := 0) (sl2 := 0) (ct_X11_letterAt (a0 := p0) (a1 := x3) hv1) dX11_cordOfLetters_12 w1130 w1131 cal_X11_letterAt ⟨⟨Nat.le_of_ble_eq_true rfl, Nat.le_of_ble_eq_true rfl⟩, Nat.le_of_ble_eq_true rfl, Nat.le_of_ble_eq_true rfl⟩ (Nat.le_of_ble_eq_true rfl) rfl ⟨rfl, ⟨by decide, by decide⟩, rfl, (fr_nil), rfl⟩ fr_i rfl rfl rfl rfl ?_
      obtain ⟨v2, hv2, hf⟩ := fbind hf
      refine V.callSn (pl := []) (σ' := []) (st2 := [.int v2, .int x2]) (cl2 := 0) (sl2 := 0) (ct_X11_cordOfLetter (a0 := v1) hv2) dX11_cordOfLetters_15 w1133 w1134 cal_X11_cordOfLetter ⟨⟨Nat.le_of_ble_eq_true rfl, Nat.le_of_ble_eq_true rfl⟩, Nat.le_of_ble_eq_true rfl, Nat.le_of_ble_eq_true rfl⟩ (Nat.le_of_ble_eq_true rfl) rfl ⟨rfl, ⟨by decide, by decide⟩, rfl, (fr_nil), rfl⟩ fr_i rfl rfl rfl rfl ?_
      refine V.iconst (v := 1) dX11_cordOfLetters_18 rfl ?_
      refine V.iadd dX11_cordOfLetters_19 ?_
      refine V.iadd dX11_cordOfLetters_20 ?_
      refine V.istore_n (i := 2) (L' := [some (.int p0), some (.int p1), some (.int (x2 + (v2 + 1))), some (.int x3)]) dX11_cordOfLetters_21 rfl (Nat.le_of_ble_eq_true rfl) rfl rfl ?_
      refine V.iinc (i := 3) (v := (x3 + 1)) (L' := [some (.int p0), some (.int p1), some (.int (x2 + (v2 + 1))), some (.int (x3 + 1))]) dX11_cordOfLetters_22 rfl rfl (Nat.le_of_ble_eq_true rfl) rfl rfl ?_
      refine V.goto (tgt := 4) dX11_cordOfLetters_25 (by decide) ?_
      exact ih hf hx
def s_X11_cordOfLetters (a0 : Int32) (a1 : Int32) : Option (Int32) := (s_X11_cordOfLetters_L4 a0 a1 gF 2 0).bind fun r3 => some r3.1
set_option maxHeartbeats 4000000 in
set_option maxRecDepth 100000 in
theorem ct_X11_cordOfLetters {a0 : Int32} {a1 : Int32} {res : Int32} (hf : s_X11_cordOfLetters a0 a1 = some res) : Ct k_X11_cordOfLetters [.int a0, .int a1] [] (.inl (some (.int res))) [] := by
  unfold s_X11_cordOfLetters at hf
  refine Ct.of (L := [some (.int a0), some (.int a1), none, none]) cal_X11_cordOfLetters (fent_pad (j := 2) rfl) (Nat.le_of_ble_eq_true rfl) ?_
  refine V.iconst (v := 2) dX11_cordOfLetters_0 rfl ?_
  refine V.istore_n (i := 2) (L' := [some (.int a0), some (.int a1), some (.int 2), none]) dX11_cordOfLetters_1 rfl (Nat.le_of_ble_eq_true rfl) rfl rfl ?_
  refine V.iconst (v := 0) dX11_cordOfLetters_2 rfl ?_
  refine V.istore_n (i := 3) (L' := [some (.int a0), some (.int a1), some (.int 2), some (.int 0)]) dX11_cordOfLetters_3 rfl (Nat.le_of_ble_eq_true rfl) rfl rfl ?_
  obtain ⟨r3, hr3, hf⟩ := fbind hf
  refine v_X11_cordOfLetters_L4 gF hr3 ?_
  refine V.iload_n (i := 2) dX11_cordOfLetters_28 rfl rfl ?_
  obtain rfl := Option.some.inj hf
  exact V.iret dX11_cordOfLetters_29 rfl (Nat.le_of_ble_eq_true rfl) (Nat.le_of_ble_eq_true rfl) rfl
def k_X11_knots : fK := (yX11_knots, cX11_knots, 2, (some .int), [], (0, 0), (0, 0), (0, 0))
theorem cal_X11_knots : fCal k_X11_knots 1 := ⟨⟨wc1157, w73⟩, ⟨by decide +kernel, by decide +kernel⟩, by decide +kernel, by decide +kernel⟩
def s_X11_knots (a1 : Int32) (M_s : Nat → Int32) : Option (Int32) := fld 406 M_s (a1 + 0) fun v1 => some v1
set_option maxHeartbeats 4000000 in
set_option maxRecDepth 100000 in
theorem ct_X11_knots {a1 : Int32} {M_savedMany : Int32} {M_isTaken : Int32} {M_length : Int32} {M_thrown : Int32} {M_spelt : Int32} {M_speltMany : Int32} {M_place : Int32} {M_kind : Int32} {M_one : Int32} {M_two : Int32} {M_three : Int32} {M_begins : Int32} {M_done : Int32} {M_stopBy : Int32} {M_hash : Int64} {M_s : Nat → Int32} {M_saved : Nat → Int32} {M_snapshot : Nat → Int32} {M_text : Nat → Int32} {res : Int32} (hf : s_X11_knots a1 M_s = some res) : Ct k_X11_knots [.ref 0, .int a1] [.inl (6, [.ref 1, .ref 2, .int M_savedMany, .ref 3, .int M_isTaken, .ref 4, .int M_length, .int M_thrown, .int M_spelt, .int M_speltMany, .int M_place, .int M_kind, .int M_one, .int M_two, .int M_three, .int M_begins, .int M_done, .int M_stopBy, .long M_hash]), .inr (406, .inl M_s), .inr (2436, .inl M_saved), .inr (406, .inl M_snapshot), .inr (60, .inl M_text)] (.inl (some (.int res))) [.inl (6, [.ref 1, .ref 2, .int M_savedMany, .ref 3, .int M_isTaken, .ref 4, .int M_length, .int M_thrown, .int M_spelt, .int M_speltMany, .int M_place, .int M_kind, .int M_one, .int M_two, .int M_three, .int M_begins, .int M_done, .int M_stopBy, .long M_hash]), .inr (406, .inl M_s), .inr (2436, .inl M_saved), .inr (406, .inl M_snapshot), .inr (60, .inl M_text)] := by
  unfold s_X11_knots at hf
  refine Ct.of (L := [some (.ref 0), some (.int a1)]) cal_X11_knots (fent_pad (j := 0) rfl) (Nat.le_of_ble_eq_true rfl) ?_
  refine V.aload_n (i := 0) dX11_knots_0 rfl rfl ?_
  refine V.getfield (kf := 0) (v := .ref 1) fl_RX11 dX11_knots_1 w1043 (Nat.le_of_ble_eq_true rfl) rfl rfl ?_
  refine V.iload_n (i := 1) dX11_knots_4 rfl rfl ?_
  refine V.iconst (v := 0) dX11_knots_5 rfl ?_
  refine V.iadd dX11_knots_6 ?_
  obtain ⟨hi, v1, ev1, hf⟩ := fld_e hf
  refine V.fld dX11_knots_7 rfl hi ev1 ?_
  obtain rfl := Option.some.inj hf
  exact V.iret dX11_knots_8 rfl (Nat.le_of_ble_eq_true rfl) (Nat.le_of_ble_eq_true rfl) rfl
def k_X11_tiedAs : fK := (yX11_tiedAs, cX11_tiedAs, 3, (some .int), [], (1, 21), (0, 0), (0, 0))
theorem cal_X11_tiedAs : fCal k_X11_tiedAs 2 := ⟨⟨wc1177, w73⟩, ⟨by decide +kernel, by decide +kernel⟩, by decide +kernel, by decide +kernel⟩
def s_X11_tiedAs (a1 : Int32) (a2 : Int32) (M_s : Nat → Int32) : Option (Int32) := fld 406 M_s (a1 + 2) fun v1 => (s_X11_letterAt v1 a2).bind fun v2 => some v2
set_option maxHeartbeats 4000000 in
set_option maxRecDepth 100000 in
theorem ct_X11_tiedAs {a1 : Int32} {a2 : Int32} {M_savedMany : Int32} {M_isTaken : Int32} {M_length : Int32} {M_thrown : Int32} {M_spelt : Int32} {M_speltMany : Int32} {M_place : Int32} {M_kind : Int32} {M_one : Int32} {M_two : Int32} {M_three : Int32} {M_begins : Int32} {M_done : Int32} {M_stopBy : Int32} {M_hash : Int64} {M_s : Nat → Int32} {M_saved : Nat → Int32} {M_snapshot : Nat → Int32} {M_text : Nat → Int32} {res : Int32} (hf : s_X11_tiedAs a1 a2 M_s = some res) : Ct k_X11_tiedAs [.ref 0, .int a1, .int a2] [.inl (6, [.ref 1, .ref 2, .int M_savedMany, .ref 3, .int M_isTaken, .ref 4, .int M_length, .int M_thrown, .int M_spelt, .int M_speltMany, .int M_place, .int M_kind, .int M_one, .int M_two, .int M_three, .int M_begins, .int M_done, .int M_stopBy, .long M_hash]), .inr (406, .inl M_s), .inr (2436, .inl M_saved), .inr (406, .inl M_snapshot), .inr (60, .inl M_text)] (.inl (some (.int res))) [.inl (6, [.ref 1, .ref 2, .int M_savedMany, .ref 3, .int M_isTaken, .ref 4, .int M_length, .int M_thrown, .int M_spelt, .int M_speltMany, .int M_place, .int M_kind, .int M_one, .int M_two, .int M_three, .int M_begins, .int M_done, .int M_stopBy, .long M_hash]), .inr (406, .inl M_s), .inr (2436, .inl M_saved), .inr (406, .inl M_snapshot), .inr (60, .inl M_text)] := by
  unfold s_X11_tiedAs at hf
  refine Ct.of (L := [some (.ref 0), some (.int a1), some (.int a2)]) cal_X11_tiedAs (fent_pad (j := 0) rfl) (Nat.le_of_ble_eq_true rfl) ?_
  refine V.aload_n (i := 0) dX11_tiedAs_0 rfl rfl ?_
  refine V.getfield (kf := 0) (v := .ref 1) fl_RX11 dX11_tiedAs_1 w1043 (Nat.le_of_ble_eq_true rfl) rfl rfl ?_
  refine V.iload_n (i := 1) dX11_tiedAs_4 rfl rfl ?_
  refine V.iconst (v := 2) dX11_tiedAs_5 rfl ?_
  refine V.iadd dX11_tiedAs_6 ?_
  obtain ⟨hi, v1, ev1, hf⟩ := fld_e hf
  refine V.fld dX11_tiedAs_7 rfl hi ev1 ?_
  refine V.iload_n (i := 2) dX11_tiedAs_8 rfl rfl ?_
  obtain ⟨v2, hv2, hf⟩ := fbind hf
  refine V.callSn (pl := []) (σ' := [.inl (6, [.ref 1, .ref 2, .int M_savedMany, .ref 3, .int M_isTaken, .ref 4, .int M_length, .int M_thrown, .int M_spelt, .int M_speltMany, .int M_place, .int M_kind, .int M_one, .int M_two, .int M_three, .int M_begins, .int M_done, .int M_stopBy, .long M_hash]), .inr (406, .inl M_s), .inr (2436, .inl M_saved), .inr (406, .inl M_snapshot), .inr (60, .inl M_text)]) (st2 := [.int v2]) (cl2 := 0) (sl2 := 0) (ct_X11_letterAt (a0 := v1) (a1 := a2) hv2) dX11_tiedAs_9 w1130 w1131 cal_X11_letterAt ⟨⟨Nat.le_of_ble_eq_true rfl, Nat.le_of_ble_eq_true rfl⟩, Nat.le_of_ble_eq_true rfl, Nat.le_of_ble_eq_true rfl⟩ (Nat.le_of_ble_eq_true rfl) rfl ⟨rfl, ⟨by decide, by decide⟩, rfl, (fr_nil), rfl⟩ fr_i rfl rfl rfl rfl ?_
  obtain rfl := Option.some.inj hf
  exact V.iret dX11_tiedAs_12 rfl (Nat.le_of_ble_eq_true rfl) (Nat.le_of_ble_eq_true rfl) rfl
def k_X11_readAs : fK := (yX11_readAs, cX11_readAs, 4, (some .int), [], (2, 43), (0, 0), (0, 0))
theorem cal_X11_readAs : fCal k_X11_readAs 2 := ⟨⟨wc1173, w73⟩, ⟨by decide +kernel, by decide +kernel⟩, by decide +kernel, by decide +kernel⟩
def s_X11_readAs (a1 : Int32) (a2 : Int32) (M_s : Nat → Int32) : Option (Int32) := fld 406 M_s ((a1 + 3) + a2) fun v1 => if (v1 = 0 : Prop) then ((s_X11_tiedAs a1 a2 M_s).bind fun v3 => some v3) else (if (v1 = 1 : Prop) then ((s_X11_tiedAs a1 a2 M_s).bind fun v2 => some (v2 + 1)) else (some 16))
set_option maxHeartbeats 4000000 in
set_option maxRecDepth 100000 in
theorem ct_X11_readAs {a1 : Int32} {a2 : Int32} {M_savedMany : Int32} {M_isTaken : Int32} {M_length : Int32} {M_thrown : Int32} {M_spelt : Int32} {M_speltMany : Int32} {M_place : Int32} {M_kind : Int32} {M_one : Int32} {M_two : Int32} {M_three : Int32} {M_begins : Int32} {M_done : Int32} {M_stopBy : Int32} {M_hash : Int64} {M_s : Nat → Int32} {M_saved : Nat → Int32} {M_snapshot : Nat → Int32} {M_text : Nat → Int32} {res : Int32} (hf : s_X11_readAs a1 a2 M_s = some res) : Ct k_X11_readAs [.ref 0, .int a1, .int a2] [.inl (6, [.ref 1, .ref 2, .int M_savedMany, .ref 3, .int M_isTaken, .ref 4, .int M_length, .int M_thrown, .int M_spelt, .int M_speltMany, .int M_place, .int M_kind, .int M_one, .int M_two, .int M_three, .int M_begins, .int M_done, .int M_stopBy, .long M_hash]), .inr (406, .inl M_s), .inr (2436, .inl M_saved), .inr (406, .inl M_snapshot), .inr (60, .inl M_text)] (.inl (some (.int res))) [.inl (6, [.ref 1, .ref 2, .int M_savedMany, .ref 3, .int M_isTaken, .ref 4, .int M_length, .int M_thrown, .int M_spelt, .int M_speltMany, .int M_place, .int M_kind, .int M_one, .int M_two, .int M_three, .int M_begins, .int M_done, .int M_stopBy, .long M_hash]), .inr (406, .inl M_s), .inr (2436, .inl M_saved), .inr (406, .inl M_snapshot), .inr (60, .inl M_text)] := by
  unfold s_X11_readAs at hf
  refine Ct.of (L := [some (.ref 0), some (.int a1), some (.int a2), none]) cal_X11_readAs (fent_pad (j := 1) rfl) (Nat.le_of_ble_eq_true rfl) ?_
  refine V.aload_n (i := 0) dX11_readAs_0 rfl rfl ?_
  refine V.getfield (kf := 0) (v := .ref 1) fl_RX11 dX11_readAs_1 w1043 (Nat.le_of_ble_eq_true rfl) rfl rfl ?_
  refine V.iload_n (i := 1) dX11_readAs_4 rfl rfl ?_
  refine V.iconst (v := 3) dX11_readAs_5 rfl ?_
  refine V.iadd dX11_readAs_6 ?_
  refine V.iload_n (i := 2) dX11_readAs_7 rfl rfl ?_
  refine V.iadd dX11_readAs_8 ?_
  obtain ⟨hi, v1, ev1, hf⟩ := fld_e hf
  refine V.fld dX11_readAs_9 rfl hi ev1 ?_
  refine V.istore_n (i := 3) (L' := [some (.ref 0), some (.int a1), some (.int a2), some (.int v1)]) dX11_readAs_10 rfl (Nat.le_of_ble_eq_true rfl) rfl rfl ?_
  refine V.iload_n (i := 3) dX11_readAs_11 rfl rfl ?_
  refine V.if_ne (tgt := 24) dX11_readAs_12 (by decide) (fun h => ?_) (fun h => ?_)
  · have hf := fif_f h hf
    refine V.iload_n (i := 3) dX11_readAs_24 rfl rfl ?_
    refine V.iconst (v := 1) dX11_readAs_25 rfl ?_
    refine V.icmp_ne (tgt := 40) dX11_readAs_26 (by decide) (fun h => ?_) (fun h => ?_)
    · have hf := fif_f h hf
      refine V.bipush (v := 16) dX11_readAs_40 rfl ?_
      obtain rfl := Option.some.inj hf
      exact V.iret dX11_readAs_42 rfl (Nat.le_of_ble_eq_true rfl) (Nat.le_of_ble_eq_true rfl) rfl
    · have hf := fif_t h hf
      refine V.aload_n (i := 0) dX11_readAs_29 rfl rfl ?_
      refine V.iload_n (i := 1) dX11_readAs_30 rfl rfl ?_
      refine V.iload_n (i := 2) dX11_readAs_31 rfl rfl ?_
      obtain ⟨v2, hv2, hf⟩ := fbind hf
      refine V.callVn (pl := [0, 1, 2, 3, 4]) (σ' := [.inl (6, [.ref 1, .ref 2, .int M_savedMany, .ref 3, .int M_isTaken, .ref 4, .int M_length, .int M_thrown, .int M_spelt, .int M_speltMany, .int M_place, .int M_kind, .int M_one, .int M_two, .int M_three, .int M_begins, .int M_done, .int M_stopBy, .long M_hash]), .inr (406, .inl M_s), .inr (2436, .inl M_saved), .inr (406, .inl M_snapshot), .inr (60, .inl M_text)]) (st2 := [.int v2]) (cl2 := 0) (sl2 := 0) (ct_X11_tiedAs (a1 := a1) (a2 := a2) (M_savedMany := M_savedMany) (M_isTaken := M_isTaken) (M_length := M_length) (M_thrown := M_thrown) (M_spelt := M_spelt) (M_speltMany := M_speltMany) (M_place := M_place) (M_kind := M_kind) (M_one := M_one) (M_two := M_two) (M_three := M_three) (M_begins := M_begins) (M_done := M_done) (M_stopBy := M_stopBy) (M_hash := M_hash) (M_s := M_s) (M_saved := M_saved) (M_snapshot := M_snapshot) (M_text := M_text) hv2) dX11_readAs_32 w1174 ⟨w1176, w19⟩ cal_X11_tiedAs rfl ⟨⟨Nat.le_of_ble_eq_true rfl, Nat.le_of_ble_eq_true rfl⟩, Nat.le_of_ble_eq_true rfl, Nat.le_of_ble_eq_true rfl⟩ (Nat.le_of_ble_eq_true rfl) (Or.inl ⟨_, _, _, _, rfl, rfl⟩) rfl ⟨rfl, ⟨by decide, by decide⟩, rfl, (fr_cons (Or.inl (Nat.le_of_ble_eq_true rfl)) (fr_cons (Or.inl (Nat.le_of_ble_eq_true rfl)) (fr_cons (Or.inl (Nat.le_of_ble_eq_true rfl)) (fr_cons (Or.inl (Nat.le_of_ble_eq_true rfl)) (fr_nil))))), rfl⟩ fr_i rfl rfl rfl rfl ?_
      refine V.iconst (v := 1) dX11_readAs_35 rfl ?_
      refine V.iadd dX11_readAs_36 ?_
      refine V.goto (tgt := 42) dX11_readAs_37 (by decide) ?_
      obtain rfl := Option.some.inj hf
      exact V.iret dX11_readAs_42 rfl (Nat.le_of_ble_eq_true rfl) (Nat.le_of_ble_eq_true rfl) rfl
  · have hf := fif_t h hf
    refine V.aload_n (i := 0) dX11_readAs_15 rfl rfl ?_
    refine V.iload_n (i := 1) dX11_readAs_16 rfl rfl ?_
    refine V.iload_n (i := 2) dX11_readAs_17 rfl rfl ?_
    obtain ⟨v3, hv3, hf⟩ := fbind hf
    refine V.callVn (pl := [0, 1, 2, 3, 4]) (σ' := [.inl (6, [.ref 1, .ref 2, .int M_savedMany, .ref 3, .int M_isTaken, .ref 4, .int M_length, .int M_thrown, .int M_spelt, .int M_speltMany, .int M_place, .int M_kind, .int M_one, .int M_two, .int M_three, .int M_begins, .int M_done, .int M_stopBy, .long M_hash]), .inr (406, .inl M_s), .inr (2436, .inl M_saved), .inr (406, .inl M_snapshot), .inr (60, .inl M_text)]) (st2 := [.int v3]) (cl2 := 0) (sl2 := 0) (ct_X11_tiedAs (a1 := a1) (a2 := a2) (M_savedMany := M_savedMany) (M_isTaken := M_isTaken) (M_length := M_length) (M_thrown := M_thrown) (M_spelt := M_spelt) (M_speltMany := M_speltMany) (M_place := M_place) (M_kind := M_kind) (M_one := M_one) (M_two := M_two) (M_three := M_three) (M_begins := M_begins) (M_done := M_done) (M_stopBy := M_stopBy) (M_hash := M_hash) (M_s := M_s) (M_saved := M_saved) (M_snapshot := M_snapshot) (M_text := M_text) hv3) dX11_readAs_18 w1174 ⟨w1176, w19⟩ cal_X11_tiedAs rfl ⟨⟨Nat.le_of_ble_eq_true rfl, Nat.le_of_ble_eq_true rfl⟩, Nat.le_of_ble_eq_true rfl, Nat.le_of_ble_eq_true rfl⟩ (Nat.le_of_ble_eq_true rfl) (Or.inl ⟨_, _, _, _, rfl, rfl⟩) rfl ⟨rfl, ⟨by decide, by decide⟩, rfl, (fr_cons (Or.inl (Nat.le_of_ble_eq_true rfl)) (fr_cons (Or.inl (Nat.le_of_ble_eq_true rfl)) (fr_cons (Or.inl (Nat.le_of_ble_eq_true rfl)) (fr_cons (Or.inl (Nat.le_of_ble_eq_true rfl)) (fr_nil))))), rfl⟩ fr_i rfl rfl rfl rfl ?_
    refine V.goto (tgt := 42) dX11_readAs_21 (by decide) ?_
    obtain rfl := Option.some.inj hf
    exact V.iret dX11_readAs_42 rfl (Nat.le_of_ble_eq_true rfl) (Nat.le_of_ble_eq_true rfl) rfl
def k_X11_cordOf : fK := (yX11_cordOf, cX11_cordOf, 2, (some .int), [], (3, 63), (0, 0), (0, 0))
theorem cal_X11_cordOf : fCal k_X11_cordOf 1 := ⟨⟨wc1153, w73⟩, ⟨by decide +kernel, by decide +kernel⟩, by decide +kernel, by decide +kernel⟩
def s_X11_cordOf (a1 : Int32) (M_s : Nat → Int32) : Option (Int32) := fld 406 M_s (a1 + 2) fun v1 => (s_X11_knots a1 M_s).bind fun v2 => (s_X11_cordOfLetters v1 v2).bind fun v3 => some v3
set_option maxHeartbeats 4000000 in
set_option maxRecDepth 100000 in
theorem ct_X11_cordOf {a1 : Int32} {M_savedMany : Int32} {M_isTaken : Int32} {M_length : Int32} {M_thrown : Int32} {M_spelt : Int32} {M_speltMany : Int32} {M_place : Int32} {M_kind : Int32} {M_one : Int32} {M_two : Int32} {M_three : Int32} {M_begins : Int32} {M_done : Int32} {M_stopBy : Int32} {M_hash : Int64} {M_s : Nat → Int32} {M_saved : Nat → Int32} {M_snapshot : Nat → Int32} {M_text : Nat → Int32} {res : Int32} (hf : s_X11_cordOf a1 M_s = some res) : Ct k_X11_cordOf [.ref 0, .int a1] [.inl (6, [.ref 1, .ref 2, .int M_savedMany, .ref 3, .int M_isTaken, .ref 4, .int M_length, .int M_thrown, .int M_spelt, .int M_speltMany, .int M_place, .int M_kind, .int M_one, .int M_two, .int M_three, .int M_begins, .int M_done, .int M_stopBy, .long M_hash]), .inr (406, .inl M_s), .inr (2436, .inl M_saved), .inr (406, .inl M_snapshot), .inr (60, .inl M_text)] (.inl (some (.int res))) [.inl (6, [.ref 1, .ref 2, .int M_savedMany, .ref 3, .int M_isTaken, .ref 4, .int M_length, .int M_thrown, .int M_spelt, .int M_speltMany, .int M_place, .int M_kind, .int M_one, .int M_two, .int M_three, .int M_begins, .int M_done, .int M_stopBy, .long M_hash]), .inr (406, .inl M_s), .inr (2436, .inl M_saved), .inr (406, .inl M_snapshot), .inr (60, .inl M_text)] := by
  unfold s_X11_cordOf at hf
  refine Ct.of (L := [some (.ref 0), some (.int a1)]) cal_X11_cordOf (fent_pad (j := 0) rfl) (Nat.le_of_ble_eq_true rfl) ?_
  refine V.aload_n (i := 0) dX11_cordOf_0 rfl rfl ?_
  refine V.getfield (kf := 0) (v := .ref 1) fl_RX11 dX11_cordOf_1 w1043 (Nat.le_of_ble_eq_true rfl) rfl rfl ?_
  refine V.iload_n (i := 1) dX11_cordOf_4 rfl rfl ?_
  refine V.iconst (v := 2) dX11_cordOf_5 rfl ?_
  refine V.iadd dX11_cordOf_6 ?_
  obtain ⟨hi, v1, ev1, hf⟩ := fld_e hf
  refine V.fld dX11_cordOf_7 rfl hi ev1 ?_
  refine V.aload_n (i := 0) dX11_cordOf_8 rfl rfl ?_
  refine V.iload_n (i := 1) dX11_cordOf_9 rfl rfl ?_
  obtain ⟨v2, hv2, hf⟩ := fbind hf
  refine V.callVn (pl := [0, 1, 2, 3, 4]) (σ' := [.inl (6, [.ref 1, .ref 2, .int M_savedMany, .ref 3, .int M_isTaken, .ref 4, .int M_length, .int M_thrown, .int M_spelt, .int M_speltMany, .int M_place, .int M_kind, .int M_one, .int M_two, .int M_three, .int M_begins, .int M_done, .int M_stopBy, .long M_hash]), .inr (406, .inl M_s), .inr (2436, .inl M_saved), .inr (406, .inl M_snapshot), .inr (60, .inl M_text)]) (st2 := [.int v2, .int v1]) (cl2 := 0) (sl2 := 0) (ct_X11_knots (a1 := a1) (M_savedMany := M_savedMany) (M_isTaken := M_isTaken) (M_length := M_length) (M_thrown := M_thrown) (M_spelt := M_spelt) (M_speltMany := M_speltMany) (M_place := M_place) (M_kind := M_kind) (M_one := M_one) (M_two := M_two) (M_three := M_three) (M_begins := M_begins) (M_done := M_done) (M_stopBy := M_stopBy) (M_hash := M_hash) (M_s := M_s) (M_saved := M_saved) (M_snapshot := M_snapshot) (M_text := M_text) hv2) dX11_cordOf_10 w1154 ⟨w1156, w14⟩ cal_X11_knots rfl ⟨⟨Nat.le_of_ble_eq_true rfl, Nat.le_of_ble_eq_true rfl⟩, Nat.le_of_ble_eq_true rfl, Nat.le_of_ble_eq_true rfl⟩ (Nat.le_of_ble_eq_true rfl) (Or.inl ⟨_, _, _, _, rfl, rfl⟩) rfl ⟨rfl, ⟨by decide, by decide⟩, rfl, (fr_cons (Or.inl (Nat.le_of_ble_eq_true rfl)) (fr_cons (Or.inl (Nat.le_of_ble_eq_true rfl)) (fr_cons (Or.inl (Nat.le_of_ble_eq_true rfl)) (fr_cons (Or.inl (Nat.le_of_ble_eq_true rfl)) (fr_nil))))), rfl⟩ fr_i rfl rfl rfl rfl ?_
  obtain ⟨v3, hv3, hf⟩ := fbind hf
  refine V.callSn (pl := []) (σ' := [.inl (6, [.ref 1, .ref 2, .int M_savedMany, .ref 3, .int M_isTaken, .ref 4, .int M_length, .int M_thrown, .int M_spelt, .int M_speltMany, .int M_place, .int M_kind, .int M_one, .int M_two, .int M_three, .int M_begins, .int M_done, .int M_stopBy, .long M_hash]), .inr (406, .inl M_s), .inr (2436, .inl M_saved), .inr (406, .inl M_snapshot), .inr (60, .inl M_text)]) (st2 := [.int v3]) (cl2 := 0) (sl2 := 0) (ct_X11_cordOfLetters (a0 := v1) (a1 := v2) hv3) dX11_cordOf_13 w1127 w1128 cal_X11_cordOfLetters ⟨⟨Nat.le_of_ble_eq_true rfl, Nat.le_of_ble_eq_true rfl⟩, Nat.le_of_ble_eq_true rfl, Nat.le_of_ble_eq_true rfl⟩ (Nat.le_of_ble_eq_true rfl) rfl ⟨rfl, ⟨by decide, by decide⟩, rfl, (fr_nil), rfl⟩ fr_i rfl rfl rfl rfl ?_
  obtain rfl := Option.some.inj hf
  exact V.iret dX11_cordOf_16 rfl (Nat.le_of_ble_eq_true rfl) (Nat.le_of_ble_eq_true rfl) rfl
def k_X11_loosened : fK := (yX11_loosened, cX11_loosened, 5, (some .int), [], (1, 21), (0, 0), (0, 0))
theorem cal_X11_loosened : fCal k_X11_loosened 2 := ⟨⟨wc1165, w73⟩, ⟨by decide +kernel, by decide +kernel⟩, by decide +kernel, by decide +kernel⟩
def s_X11_loosened_L5 (p1 : Int32) (p2 : Int32) (M_s : Nat → Int32) : Nat → Int32 → Int32 → Option (Int32 × Int32)
  | 0, _, _ => none
  | n + 1, x3, x4 => (s_X11_knots p1 M_s).bind fun v1 => if (v1 ≤ x4 : Prop) then (some (x3, x4)) else (fld 406 M_s ((p1 + 3) + x4) fun v2 => if (v2 < p2 : Prop) then (s_X11_loosened_L5 p1 p2 M_s n (x3 + 0) (x4 + 1)) else (s_X11_loosened_L5 p1 p2 M_s n (x3 + 1) (x4 + 1)))
set_option maxHeartbeats 4000000 in
set_option maxRecDepth 100000 in
theorem v_X11_loosened_L5 {out : fO} {σ' : List fE} {p1 : Int32} {p2 : Int32} {M_savedMany : Int32} {M_isTaken : Int32} {M_length : Int32} {M_thrown : Int32} {M_spelt : Int32} {M_speltMany : Int32} {M_place : Int32} {M_kind : Int32} {M_one : Int32} {M_two : Int32} {M_three : Int32} {M_begins : Int32} {M_done : Int32} {M_stopBy : Int32} {M_hash : Int64} {M_s : Nat → Int32} {M_saved : Nat → Int32} {M_snapshot : Nat → Int32} {M_text : Nat → Int32} : ∀ (n : Nat) {x3 : Int32} {x4 : Int32} {res : Int32 × Int32} (hf : s_X11_loosened_L5 p1 p2 M_s n x3 x4 = some res) (hx : V (fXm 5 k_X11_loosened out σ') (krm k_X11_loosened) k_X11_loosened 5 44 [some (.ref 0), some (.int p1), some (.int p2), some (.int res.1), some (.int res.2)] [] [.inl (6, [.ref 1, .ref 2, .int M_savedMany, .ref 3, .int M_isTaken, .ref 4, .int M_length, .int M_thrown, .int M_spelt, .int M_speltMany, .int M_place, .int M_kind, .int M_one, .int M_two, .int M_three, .int M_begins, .int M_done, .int M_stopBy, .long M_hash]), .inr (406, .inl M_s), .inr (2436, .inl M_saved), .inr (406, .inl M_snapshot), .inr (60, .inl M_text)] 0 0), V (fXm 5 k_X11_loosened out σ') (krm k_X11_loosened) k_X11_loosened 5 5 [some (.ref 0), some (.int p1), some (.int p2), some (.int x3), some (.int x4)] [] [.inl (6, [.ref 1, .ref 2, .int M_savedMany, .ref 3, .int M_isTaken, .ref 4, .int M_length, .int M_thrown, .int M_spelt, .int M_speltMany, .int M_place, .int M_kind, .int M_one, .int M_two, .int M_three, .int M_begins, .int M_done, .int M_stopBy, .long M_hash]), .inr (406, .inl M_s), .inr (2436, .inl M_saved), .inr (406, .inl M_snapshot), .inr (60, .inl M_text)] 0 0 := by
  intro n
  induction n with
  | zero =>
    intro x3 x4 res hf hx
    rw [s_X11_loosened_L5] at hf
    cases hf
  | succ n ih =>
    intro x3 x4 res hf hx
    rw [s_X11_loosened_L5] at hf
    refine V.iload (i := 4) dX11_loosened_5 rfl ?_
    refine V.aload_n (i := 0) dX11_loosened_7 rfl rfl ?_
    refine V.iload_n (i := 1) dX11_loosened_8 rfl rfl ?_
    obtain ⟨v1, hv1, hf⟩ := fbind hf
    refine V.callVn (pl := [0, 1, 2, 3, 4]) (σ' := [.inl (6, [.ref 1, .ref 2, .int M_savedMany, .ref 3, .int M_isTaken, .ref 4, .int M_length, .int M_thrown, .int M_spelt, .int M_speltMany, .int M_place, .int M_kind, .int M_one, .int M_two, .int M_three, .int M_begins, .int M_done, .int M_stopBy, .long M_hash]), .inr (406, .inl M_s), .inr (2436, .inl M_saved), .inr (406, .inl M_snapshot), .inr (60, .inl M_text)]) (st2 := [.int v1, .int x4]) (cl2 := 0) (sl2 := 0) (ct_X11_knots (a1 := p1) (M_savedMany := M_savedMany) (M_isTaken := M_isTaken) (M_length := M_length) (M_thrown := M_thrown) (M_spelt := M_spelt) (M_speltMany := M_speltMany) (M_place := M_place) (M_kind := M_kind) (M_one := M_one) (M_two := M_two) (M_three := M_three) (M_begins := M_begins) (M_done := M_done) (M_stopBy := M_stopBy) (M_hash := M_hash) (M_s := M_s) (M_saved := M_saved) (M_snapshot := M_snapshot) (M_text := M_text) hv1) dX11_loosened_9 w1154 ⟨w1156, w14⟩ cal_X11_knots rfl ⟨⟨Nat.le_of_ble_eq_true rfl, Nat.le_of_ble_eq_true rfl⟩, Nat.le_of_ble_eq_true rfl, Nat.le_of_ble_eq_true rfl⟩ (Nat.le_of_ble_eq_true rfl) (Or.inl ⟨_, _, _, _, rfl, rfl⟩) rfl ⟨rfl, ⟨by decide, by decide⟩, rfl, (fr_cons (Or.inl (Nat.le_of_ble_eq_true rfl)) (fr_cons (Or.inl (Nat.le_of_ble_eq_true rfl)) (fr_cons (Or.inl (Nat.le_of_ble_eq_true rfl)) (fr_cons (Or.inl (Nat.le_of_ble_eq_true rfl)) (fr_nil))))), rfl⟩ fr_i rfl rfl rfl rfl ?_
    refine V.icmp_ge (tgt := 44) dX11_loosened_12 (by decide) (fun h => ?_) (fun h => ?_)
    · have hf := fif_t h hf
      obtain rfl := Option.some.inj hf
      exact hx
    · have hf := fif_f h hf
      refine V.iload_n (i := 3) dX11_loosened_15 rfl rfl ?_
      refine V.aload_n (i := 0) dX11_loosened_16 rfl rfl ?_
      refine V.getfield (kf := 0) (v := .ref 1) fl_RX11 dX11_loosened_17 w1043 (Nat.le_of_ble_eq_true rfl) rfl rfl ?_
      refine V.iload_n (i := 1) dX11_loosened_20 rfl rfl ?_
      refine V.iconst (v := 3) dX11_loosened_21 rfl ?_
      refine V.iadd dX11_loosened_22 ?_
      refine V.iload (i := 4) dX11_loosened_23 rfl ?_
      refine V.iadd dX11_loosened_25 ?_
      obtain ⟨hi, v2, ev2, hf⟩ := fld_e hf
      refine V.fld dX11_loosened_26 rfl hi ev2 ?_
      refine V.iload_n (i := 2) dX11_loosened_27 rfl rfl ?_
      refine V.icmp_lt (tgt := 35) dX11_loosened_28 (by decide) (fun h => ?_) (fun h => ?_)
      · have hf := fif_t h hf
        refine V.iconst (v := 0) dX11_loosened_35 rfl ?_
        refine V.iadd dX11_loosened_36 ?_
        refine V.istore_n (i := 3) (L' := [some (.ref 0), some (.int p1), some (.int p2), some (.int (x3 + 0)), some (.int x4)]) dX11_loosened_37 rfl (Nat.le_of_ble_eq_true rfl) rfl rfl ?_
        refine V.iinc (i := 4) (v := (x4 + 1)) (L' := [some (.ref 0), some (.int p1), some (.int p2), some (.int (x3 + 0)), some (.int (x4 + 1))]) dX11_loosened_38 rfl rfl (Nat.le_of_ble_eq_true rfl) rfl rfl ?_
        refine V.goto (tgt := 5) dX11_loosened_41 (by decide) ?_
        exact ih hf hx
      · have hf := fif_f h hf
        refine V.iconst (v := 1) dX11_loosened_31 rfl ?_
        refine V.goto (tgt := 36) dX11_loosened_32 (by decide) ?_
        refine V.iadd dX11_loosened_36 ?_
        refine V.istore_n (i := 3) (L' := [some (.ref 0), some (.int p1), some (.int p2), some (.int (x3 + 1)), some (.int x4)]) dX11_loosened_37 rfl (Nat.le_of_ble_eq_true rfl) rfl rfl ?_
        refine V.iinc (i := 4) (v := (x4 + 1)) (L' := [some (.ref 0), some (.int p1), some (.int p2), some (.int (x3 + 1)), some (.int (x4 + 1))]) dX11_loosened_38 rfl rfl (Nat.le_of_ble_eq_true rfl) rfl rfl ?_
        refine V.goto (tgt := 5) dX11_loosened_41 (by decide) ?_
        exact ih hf hx
def s_X11_loosened (a1 : Int32) (a2 : Int32) (M_s : Nat → Int32) : Option (Int32) := (s_X11_loosened_L5 a1 a2 M_s gF 0 0).bind fun r3 => some r3.1
set_option maxHeartbeats 4000000 in
set_option maxRecDepth 100000 in
theorem ct_X11_loosened {a1 : Int32} {a2 : Int32} {M_savedMany : Int32} {M_isTaken : Int32} {M_length : Int32} {M_thrown : Int32} {M_spelt : Int32} {M_speltMany : Int32} {M_place : Int32} {M_kind : Int32} {M_one : Int32} {M_two : Int32} {M_three : Int32} {M_begins : Int32} {M_done : Int32} {M_stopBy : Int32} {M_hash : Int64} {M_s : Nat → Int32} {M_saved : Nat → Int32} {M_snapshot : Nat → Int32} {M_text : Nat → Int32} {res : Int32} (hf : s_X11_loosened a1 a2 M_s = some res) : Ct k_X11_loosened [.ref 0, .int a1, .int a2] [.inl (6, [.ref 1, .ref 2, .int M_savedMany, .ref 3, .int M_isTaken, .ref 4, .int M_length, .int M_thrown, .int M_spelt, .int M_speltMany, .int M_place, .int M_kind, .int M_one, .int M_two, .int M_three, .int M_begins, .int M_done, .int M_stopBy, .long M_hash]), .inr (406, .inl M_s), .inr (2436, .inl M_saved), .inr (406, .inl M_snapshot), .inr (60, .inl M_text)] (.inl (some (.int res))) [.inl (6, [.ref 1, .ref 2, .int M_savedMany, .ref 3, .int M_isTaken, .ref 4, .int M_length, .int M_thrown, .int M_spelt, .int M_speltMany, .int M_place, .int M_kind, .int M_one, .int M_two, .int M_three, .int M_begins, .int M_done, .int M_stopBy, .long M_hash]), .inr (406, .inl M_s), .inr (2436, .inl M_saved), .inr (406, .inl M_snapshot), .inr (60, .inl M_text)] := by
  unfold s_X11_loosened at hf
  refine Ct.of (L := [some (.ref 0), some (.int a1), some (.int a2), none, none]) cal_X11_loosened (fent_pad (j := 2) rfl) (Nat.le_of_ble_eq_true rfl) ?_
  refine V.iconst (v := 0) dX11_loosened_0 rfl ?_
  refine V.istore_n (i := 3) (L' := [some (.ref 0), some (.int a1), some (.int a2), some (.int 0), none]) dX11_loosened_1 rfl (Nat.le_of_ble_eq_true rfl) rfl rfl ?_
  refine V.iconst (v := 0) dX11_loosened_2 rfl ?_
  refine V.istore (i := 4) (L' := [some (.ref 0), some (.int a1), some (.int a2), some (.int 0), some (.int 0)]) dX11_loosened_3 (Nat.le_of_ble_eq_true rfl) rfl rfl ?_
  obtain ⟨r3, hr3, hf⟩ := fbind hf
  refine v_X11_loosened_L5 gF hr3 ?_
  refine V.iload_n (i := 3) dX11_loosened_44 rfl rfl ?_
  obtain rfl := Option.some.inj hf
  exact V.iret dX11_loosened_45 rfl (Nat.le_of_ble_eq_true rfl) (Nat.le_of_ble_eq_true rfl) rfl
def k_X11_whole : fK := (yX11_whole, cX11_whole, 2, (some .int), [], (0, 0), (0, 0), (0, 0))
theorem cal_X11_whole : fCal k_X11_whole 2 := ⟨⟨wc1180, w73⟩, ⟨by decide +kernel, by decide +kernel⟩, by decide +kernel, by decide +kernel⟩
def s_X11_whole (a0 : Int32) (a1 : Int32) : Option (Int32) := if (a1 = 8 : Prop) then (some a0) else (some (a0 &&& ((1 <<< ((4 * a1) &&& 31)) - 1)))
set_option maxHeartbeats 4000000 in
set_option maxRecDepth 100000 in
theorem ct_X11_whole {a0 : Int32} {a1 : Int32} {res : Int32} (hf : s_X11_whole a0 a1 = some res) : Ct k_X11_whole [.int a0, .int a1] [] (.inl (some (.int res))) [] := by
  unfold s_X11_whole at hf
  refine Ct.of (L := [some (.int a0), some (.int a1)]) cal_X11_whole (fent_pad (j := 0) rfl) (Nat.le_of_ble_eq_true rfl) ?_
  refine V.iload_n (i := 1) dX11_whole_0 rfl rfl ?_
  refine V.bipush (v := 8) dX11_whole_1 rfl ?_
  refine V.icmp_ne (tgt := 10) dX11_whole_3 (by decide) (fun h => ?_) (fun h => ?_)
  · have hf := fif_f h hf
    refine V.iload_n (i := 0) dX11_whole_10 rfl rfl ?_
    refine V.iconst (v := 1) dX11_whole_11 rfl ?_
    refine V.iconst (v := 4) dX11_whole_12 rfl ?_
    refine V.iload_n (i := 1) dX11_whole_13 rfl rfl ?_
    refine V.imul dX11_whole_14 ?_
    refine V.ishl dX11_whole_15 ?_
    refine V.iconst (v := 1) dX11_whole_16 rfl ?_
    refine V.isub dX11_whole_17 ?_
    refine V.iand dX11_whole_18 ?_
    obtain rfl := Option.some.inj hf
    exact V.iret dX11_whole_19 rfl (Nat.le_of_ble_eq_true rfl) (Nat.le_of_ble_eq_true rfl) rfl
  · have hf := fif_t h hf
    refine V.iload_n (i := 0) dX11_whole_6 rfl rfl ?_
    refine V.goto (tgt := 19) dX11_whole_7 (by decide) ?_
    obtain rfl := Option.some.inj hf
    exact V.iret dX11_whole_19 rfl (Nat.le_of_ble_eq_true rfl) (Nat.le_of_ble_eq_true rfl) rfl
def k_X11_readLetters : fK := (yX11_readLetters, cX11_readLetters, 4, (some .int), [], (3, 66), (0, 0), (0, 0))
theorem cal_X11_readLetters : fCal k_X11_readLetters 1 := ⟨⟨wc1169, w73⟩, ⟨by decide +kernel, by decide +kernel⟩, by decide +kernel, by decide +kernel⟩
def s_X11_readLetters_L4 (p1 : Int32) (M_s : Nat → Int32) : Nat → Int32 → Int32 → Option (Int32 × Int32)
  | 0, _, _ => none
  | n + 1, x2, x3 => (s_X11_knots p1 M_s).bind fun v1 => if (v1 ≤ x3 : Prop) then (some (x2, x3)) else ((s_X11_readAs p1 x3 M_s).bind fun v2 => s_X11_readLetters_L4 p1 M_s n (x2 ||| (v2 <<< ((4 * x3) &&& 31))) (x3 + 1))
set_option maxHeartbeats 4000000 in
set_option maxRecDepth 100000 in
theorem v_X11_readLetters_L4 {out : fO} {σ' : List fE} {p1 : Int32} {M_savedMany : Int32} {M_isTaken : Int32} {M_length : Int32} {M_thrown : Int32} {M_spelt : Int32} {M_speltMany : Int32} {M_place : Int32} {M_kind : Int32} {M_one : Int32} {M_two : Int32} {M_three : Int32} {M_begins : Int32} {M_done : Int32} {M_stopBy : Int32} {M_hash : Int64} {M_s : Nat → Int32} {M_saved : Nat → Int32} {M_snapshot : Nat → Int32} {M_text : Nat → Int32} : ∀ (n : Nat) {x2 : Int32} {x3 : Int32} {res : Int32 × Int32} (hf : s_X11_readLetters_L4 p1 M_s n x2 x3 = some res) (hx : V (fXm 5 k_X11_readLetters out σ') (krm k_X11_readLetters) k_X11_readLetters 5 32 [some (.ref 0), some (.int p1), some (.int res.1), some (.int res.2)] [] [.inl (6, [.ref 1, .ref 2, .int M_savedMany, .ref 3, .int M_isTaken, .ref 4, .int M_length, .int M_thrown, .int M_spelt, .int M_speltMany, .int M_place, .int M_kind, .int M_one, .int M_two, .int M_three, .int M_begins, .int M_done, .int M_stopBy, .long M_hash]), .inr (406, .inl M_s), .inr (2436, .inl M_saved), .inr (406, .inl M_snapshot), .inr (60, .inl M_text)] 0 0), V (fXm 5 k_X11_readLetters out σ') (krm k_X11_readLetters) k_X11_readLetters 5 4 [some (.ref 0), some (.int p1), some (.int x2), some (.int x3)] [] [.inl (6, [.ref 1, .ref 2, .int M_savedMany, .ref 3, .int M_isTaken, .ref 4, .int M_length, .int M_thrown, .int M_spelt, .int M_speltMany, .int M_place, .int M_kind, .int M_one, .int M_two, .int M_three, .int M_begins, .int M_done, .int M_stopBy, .long M_hash]), .inr (406, .inl M_s), .inr (2436, .inl M_saved), .inr (406, .inl M_snapshot), .inr (60, .inl M_text)] 0 0 := by
  intro n
  induction n with
  | zero =>
    intro x2 x3 res hf hx
    rw [s_X11_readLetters_L4] at hf
    cases hf
  | succ n ih =>
    intro x2 x3 res hf hx
    rw [s_X11_readLetters_L4] at hf
    refine V.iload_n (i := 3) dX11_readLetters_4 rfl rfl ?_
    refine V.aload_n (i := 0) dX11_readLetters_5 rfl rfl ?_
    refine V.iload_n (i := 1) dX11_readLetters_6 rfl rfl ?_
    obtain ⟨v1, hv1, hf⟩ := fbind hf
    refine V.callVn (pl := [0, 1, 2, 3, 4]) (σ' := [.inl (6, [.ref 1, .ref 2, .int M_savedMany, .ref 3, .int M_isTaken, .ref 4, .int M_length, .int M_thrown, .int M_spelt, .int M_speltMany, .int M_place, .int M_kind, .int M_one, .int M_two, .int M_three, .int M_begins, .int M_done, .int M_stopBy, .long M_hash]), .inr (406, .inl M_s), .inr (2436, .inl M_saved), .inr (406, .inl M_snapshot), .inr (60, .inl M_text)]) (st2 := [.int v1, .int x3]) (cl2 := 0) (sl2 := 0) (ct_X11_knots (a1 := p1) (M_savedMany := M_savedMany) (M_isTaken := M_isTaken) (M_length := M_length) (M_thrown := M_thrown) (M_spelt := M_spelt) (M_speltMany := M_speltMany) (M_place := M_place) (M_kind := M_kind) (M_one := M_one) (M_two := M_two) (M_three := M_three) (M_begins := M_begins) (M_done := M_done) (M_stopBy := M_stopBy) (M_hash := M_hash) (M_s := M_s) (M_saved := M_saved) (M_snapshot := M_snapshot) (M_text := M_text) hv1) dX11_readLetters_7 w1154 ⟨w1156, w14⟩ cal_X11_knots rfl ⟨⟨Nat.le_of_ble_eq_true rfl, Nat.le_of_ble_eq_true rfl⟩, Nat.le_of_ble_eq_true rfl, Nat.le_of_ble_eq_true rfl⟩ (Nat.le_of_ble_eq_true rfl) (Or.inl ⟨_, _, _, _, rfl, rfl⟩) rfl ⟨rfl, ⟨by decide, by decide⟩, rfl, (fr_cons (Or.inl (Nat.le_of_ble_eq_true rfl)) (fr_cons (Or.inl (Nat.le_of_ble_eq_true rfl)) (fr_cons (Or.inl (Nat.le_of_ble_eq_true rfl)) (fr_cons (Or.inl (Nat.le_of_ble_eq_true rfl)) (fr_nil))))), rfl⟩ fr_i rfl rfl rfl rfl ?_
    refine V.icmp_ge (tgt := 32) dX11_readLetters_10 (by decide) (fun h => ?_) (fun h => ?_)
    · have hf := fif_t h hf
      obtain rfl := Option.some.inj hf
      exact hx
    · have hf := fif_f h hf
      refine V.iload_n (i := 2) dX11_readLetters_13 rfl rfl ?_
      refine V.aload_n (i := 0) dX11_readLetters_14 rfl rfl ?_
      refine V.iload_n (i := 1) dX11_readLetters_15 rfl rfl ?_
      refine V.iload_n (i := 3) dX11_readLetters_16 rfl rfl ?_
      obtain ⟨v2, hv2, hf⟩ := fbind hf
      refine V.callVn (pl := [0, 1, 2, 3, 4]) (σ' := [.inl (6, [.ref 1, .ref 2, .int M_savedMany, .ref 3, .int M_isTaken, .ref 4, .int M_length, .int M_thrown, .int M_spelt, .int M_speltMany, .int M_place, .int M_kind, .int M_one, .int M_two, .int M_three, .int M_begins, .int M_done, .int M_stopBy, .long M_hash]), .inr (406, .inl M_s), .inr (2436, .inl M_saved), .inr (406, .inl M_snapshot), .inr (60, .inl M_text)]) (st2 := [.int v2, .int x2]) (cl2 := 0) (sl2 := 0) (ct_X11_readAs (a1 := p1) (a2 := x3) (M_savedMany := M_savedMany) (M_isTaken := M_isTaken) (M_length := M_length) (M_thrown := M_thrown) (M_spelt := M_spelt) (M_speltMany := M_speltMany) (M_place := M_place) (M_kind := M_kind) (M_one := M_one) (M_two := M_two) (M_three := M_three) (M_begins := M_begins) (M_done := M_done) (M_stopBy := M_stopBy) (M_hash := M_hash) (M_s := M_s) (M_saved := M_saved) (M_snapshot := M_snapshot) (M_text := M_text) hv2) dX11_readLetters_17 w1170 ⟨w1172, w18⟩ cal_X11_readAs rfl ⟨⟨Nat.le_of_ble_eq_true rfl, Nat.le_of_ble_eq_true rfl⟩, Nat.le_of_ble_eq_true rfl, Nat.le_of_ble_eq_true rfl⟩ (Nat.le_of_ble_eq_true rfl) (Or.inl ⟨_, _, _, _, rfl, rfl⟩) rfl ⟨rfl, ⟨by decide, by decide⟩, rfl, (fr_cons (Or.inl (Nat.le_of_ble_eq_true rfl)) (fr_cons (Or.inl (Nat.le_of_ble_eq_true rfl)) (fr_cons (Or.inl (Nat.le_of_ble_eq_true rfl)) (fr_cons (Or.inl (Nat.le_of_ble_eq_true rfl)) (fr_nil))))), rfl⟩ fr_i rfl rfl rfl rfl ?_
      refine V.iconst (v := 4) dX11_readLetters_20 rfl ?_
      refine V.iload_n (i := 3) dX11_readLetters_21 rfl rfl ?_
      refine V.imul dX11_readLetters_22 ?_
      refine V.ishl dX11_readLetters_23 ?_
      refine V.ior dX11_readLetters_24 ?_
      refine V.istore_n (i := 2) (L' := [some (.ref 0), some (.int p1), some (.int (x2 ||| (v2 <<< ((4 * x3) &&& 31)))), some (.int x3)]) dX11_readLetters_25 rfl (Nat.le_of_ble_eq_true rfl) rfl rfl ?_
      refine V.iinc (i := 3) (v := (x3 + 1)) (L' := [some (.ref 0), some (.int p1), some (.int (x2 ||| (v2 <<< ((4 * x3) &&& 31)))), some (.int (x3 + 1))]) dX11_readLetters_26 rfl rfl (Nat.le_of_ble_eq_true rfl) rfl rfl ?_
      refine V.goto (tgt := 4) dX11_readLetters_29 (by decide) ?_
      exact ih hf hx
def s_X11_readLetters (a1 : Int32) (M_s : Nat → Int32) : Option (Int32) := (s_X11_readLetters_L4 a1 M_s gF 0 0).bind fun r3 => some r3.1
set_option maxHeartbeats 4000000 in
set_option maxRecDepth 100000 in
theorem ct_X11_readLetters {a1 : Int32} {M_savedMany : Int32} {M_isTaken : Int32} {M_length : Int32} {M_thrown : Int32} {M_spelt : Int32} {M_speltMany : Int32} {M_place : Int32} {M_kind : Int32} {M_one : Int32} {M_two : Int32} {M_three : Int32} {M_begins : Int32} {M_done : Int32} {M_stopBy : Int32} {M_hash : Int64} {M_s : Nat → Int32} {M_saved : Nat → Int32} {M_snapshot : Nat → Int32} {M_text : Nat → Int32} {res : Int32} (hf : s_X11_readLetters a1 M_s = some res) : Ct k_X11_readLetters [.ref 0, .int a1] [.inl (6, [.ref 1, .ref 2, .int M_savedMany, .ref 3, .int M_isTaken, .ref 4, .int M_length, .int M_thrown, .int M_spelt, .int M_speltMany, .int M_place, .int M_kind, .int M_one, .int M_two, .int M_three, .int M_begins, .int M_done, .int M_stopBy, .long M_hash]), .inr (406, .inl M_s), .inr (2436, .inl M_saved), .inr (406, .inl M_snapshot), .inr (60, .inl M_text)] (.inl (some (.int res))) [.inl (6, [.ref 1, .ref 2, .int M_savedMany, .ref 3, .int M_isTaken, .ref 4, .int M_length, .int M_thrown, .int M_spelt, .int M_speltMany, .int M_place, .int M_kind, .int M_one, .int M_two, .int M_three, .int M_begins, .int M_done, .int M_stopBy, .long M_hash]), .inr (406, .inl M_s), .inr (2436, .inl M_saved), .inr (406, .inl M_snapshot), .inr (60, .inl M_text)] := by
  unfold s_X11_readLetters at hf
  refine Ct.of (L := [some (.ref 0), some (.int a1), none, none]) cal_X11_readLetters (fent_pad (j := 2) rfl) (Nat.le_of_ble_eq_true rfl) ?_
  refine V.iconst (v := 0) dX11_readLetters_0 rfl ?_
  refine V.istore_n (i := 2) (L' := [some (.ref 0), some (.int a1), some (.int 0), none]) dX11_readLetters_1 rfl (Nat.le_of_ble_eq_true rfl) rfl rfl ?_
  refine V.iconst (v := 0) dX11_readLetters_2 rfl ?_
  refine V.istore_n (i := 3) (L' := [some (.ref 0), some (.int a1), some (.int 0), some (.int 0)]) dX11_readLetters_3 rfl (Nat.le_of_ble_eq_true rfl) rfl rfl ?_
  obtain ⟨r3, hr3, hf⟩ := fbind hf
  refine v_X11_readLetters_L4 gF hr3 ?_
  refine V.iload_n (i := 2) dX11_readLetters_32 rfl rfl ?_
  obtain rfl := Option.some.inj hf
  exact V.iret dX11_readLetters_33 rfl (Nat.le_of_ble_eq_true rfl) (Nat.le_of_ble_eq_true rfl) rfl
def k_X11_readsSo : fK := (yX11_readsSo, cX11_readsSo, 4, (some .boolean), [], (4, 89), (0, 0), (0, 0))
theorem cal_X11_readsSo : fCal k_X11_readsSo 3 := ⟨⟨wc1161, w73⟩, ⟨by decide +kernel, by decide +kernel⟩, by decide +kernel, by decide +kernel⟩
def s_X11_readsSo (a1 : Int32) (a2 : Int32) (a3 : Int32) (M_s : Nat → Int32) : Option (Int32) := (s_X11_knots a1 M_s).bind fun v1 => if (v1 = a3 : Prop) then ((s_X11_loosened a1 2 M_s).bind fun v2 => if (v2 = 0 : Prop) then ((s_X11_readLetters a1 M_s).bind fun v3 => (s_X11_whole a2 a3).bind fun v4 => if (v3 = v4 : Prop) then (some 1) else (some 0)) else (some 0)) else (some 0)
set_option maxHeartbeats 4000000 in
set_option maxRecDepth 100000 in
theorem ct_X11_readsSo {a1 : Int32} {a2 : Int32} {a3 : Int32} {M_savedMany : Int32} {M_isTaken : Int32} {M_length : Int32} {M_thrown : Int32} {M_spelt : Int32} {M_speltMany : Int32} {M_place : Int32} {M_kind : Int32} {M_one : Int32} {M_two : Int32} {M_three : Int32} {M_begins : Int32} {M_done : Int32} {M_stopBy : Int32} {M_hash : Int64} {M_s : Nat → Int32} {M_saved : Nat → Int32} {M_snapshot : Nat → Int32} {M_text : Nat → Int32} {res : Int32} (hf : s_X11_readsSo a1 a2 a3 M_s = some res) : Ct k_X11_readsSo [.ref 0, .int a1, .int a2, .int a3] [.inl (6, [.ref 1, .ref 2, .int M_savedMany, .ref 3, .int M_isTaken, .ref 4, .int M_length, .int M_thrown, .int M_spelt, .int M_speltMany, .int M_place, .int M_kind, .int M_one, .int M_two, .int M_three, .int M_begins, .int M_done, .int M_stopBy, .long M_hash]), .inr (406, .inl M_s), .inr (2436, .inl M_saved), .inr (406, .inl M_snapshot), .inr (60, .inl M_text)] (.inl (some (.int res))) [.inl (6, [.ref 1, .ref 2, .int M_savedMany, .ref 3, .int M_isTaken, .ref 4, .int M_length, .int M_thrown, .int M_spelt, .int M_speltMany, .int M_place, .int M_kind, .int M_one, .int M_two, .int M_three, .int M_begins, .int M_done, .int M_stopBy, .long M_hash]), .inr (406, .inl M_s), .inr (2436, .inl M_saved), .inr (406, .inl M_snapshot), .inr (60, .inl M_text)] := by
  unfold s_X11_readsSo at hf
  refine Ct.of (L := [some (.ref 0), some (.int a1), some (.int a2), some (.int a3)]) cal_X11_readsSo (fent_pad (j := 0) rfl) (Nat.le_of_ble_eq_true rfl) ?_
  refine V.aload_n (i := 0) dX11_readsSo_0 rfl rfl ?_
  refine V.iload_n (i := 1) dX11_readsSo_1 rfl rfl ?_
  obtain ⟨v1, hv1, hf⟩ := fbind hf
  refine V.callVn (pl := [0, 1, 2, 3, 4]) (σ' := [.inl (6, [.ref 1, .ref 2, .int M_savedMany, .ref 3, .int M_isTaken, .ref 4, .int M_length, .int M_thrown, .int M_spelt, .int M_speltMany, .int M_place, .int M_kind, .int M_one, .int M_two, .int M_three, .int M_begins, .int M_done, .int M_stopBy, .long M_hash]), .inr (406, .inl M_s), .inr (2436, .inl M_saved), .inr (406, .inl M_snapshot), .inr (60, .inl M_text)]) (st2 := [.int v1]) (cl2 := 0) (sl2 := 0) (ct_X11_knots (a1 := a1) (M_savedMany := M_savedMany) (M_isTaken := M_isTaken) (M_length := M_length) (M_thrown := M_thrown) (M_spelt := M_spelt) (M_speltMany := M_speltMany) (M_place := M_place) (M_kind := M_kind) (M_one := M_one) (M_two := M_two) (M_three := M_three) (M_begins := M_begins) (M_done := M_done) (M_stopBy := M_stopBy) (M_hash := M_hash) (M_s := M_s) (M_saved := M_saved) (M_snapshot := M_snapshot) (M_text := M_text) hv1) dX11_readsSo_2 w1154 ⟨w1156, w14⟩ cal_X11_knots rfl ⟨⟨Nat.le_of_ble_eq_true rfl, Nat.le_of_ble_eq_true rfl⟩, Nat.le_of_ble_eq_true rfl, Nat.le_of_ble_eq_true rfl⟩ (Nat.le_of_ble_eq_true rfl) (Or.inl ⟨_, _, _, _, rfl, rfl⟩) rfl ⟨rfl, ⟨by decide, by decide⟩, rfl, (fr_cons (Or.inl (Nat.le_of_ble_eq_true rfl)) (fr_cons (Or.inl (Nat.le_of_ble_eq_true rfl)) (fr_cons (Or.inl (Nat.le_of_ble_eq_true rfl)) (fr_cons (Or.inl (Nat.le_of_ble_eq_true rfl)) (fr_nil))))), rfl⟩ fr_i rfl rfl rfl rfl ?_
  refine V.iload_n (i := 3) dX11_readsSo_5 rfl rfl ?_
  refine V.icmp_ne (tgt := 35) dX11_readsSo_6 (by decide) (fun h => ?_) (fun h => ?_)
  · have hf := fif_f h hf
    refine V.iconst (v := 0) dX11_readsSo_35 rfl ?_
    obtain rfl := Option.some.inj hf
    exact V.zret (v := 0) dX11_readsSo_36 rfl (by decide +kernel) (Nat.le_of_ble_eq_true rfl) (Nat.le_of_ble_eq_true rfl) rfl
  · have hf := fif_t h hf
    refine V.aload_n (i := 0) dX11_readsSo_9 rfl rfl ?_
    refine V.iload_n (i := 1) dX11_readsSo_10 rfl rfl ?_
    refine V.iconst (v := 2) dX11_readsSo_11 rfl ?_
    obtain ⟨v2, hv2, hf⟩ := fbind hf
    refine V.callVn (pl := [0, 1, 2, 3, 4]) (σ' := [.inl (6, [.ref 1, .ref 2, .int M_savedMany, .ref 3, .int M_isTaken, .ref 4, .int M_length, .int M_thrown, .int M_spelt, .int M_speltMany, .int M_place, .int M_kind, .int M_one, .int M_two, .int M_three, .int M_begins, .int M_done, .int M_stopBy, .long M_hash]), .inr (406, .inl M_s), .inr (2436, .inl M_saved), .inr (406, .inl M_snapshot), .inr (60, .inl M_text)]) (st2 := [.int v2]) (cl2 := 0) (sl2 := 0) (ct_X11_loosened (a1 := a1) (a2 := 2) (M_savedMany := M_savedMany) (M_isTaken := M_isTaken) (M_length := M_length) (M_thrown := M_thrown) (M_spelt := M_spelt) (M_speltMany := M_speltMany) (M_place := M_place) (M_kind := M_kind) (M_one := M_one) (M_two := M_two) (M_three := M_three) (M_begins := M_begins) (M_done := M_done) (M_stopBy := M_stopBy) (M_hash := M_hash) (M_s := M_s) (M_saved := M_saved) (M_snapshot := M_snapshot) (M_text := M_text) hv2) dX11_readsSo_12 w1162 ⟨w1164, w16⟩ cal_X11_loosened rfl ⟨⟨Nat.le_of_ble_eq_true rfl, Nat.le_of_ble_eq_true rfl⟩, Nat.le_of_ble_eq_true rfl, Nat.le_of_ble_eq_true rfl⟩ (Nat.le_of_ble_eq_true rfl) (Or.inl ⟨_, _, _, _, rfl, rfl⟩) rfl ⟨rfl, ⟨by decide, by decide⟩, rfl, (fr_cons (Or.inl (Nat.le_of_ble_eq_true rfl)) (fr_cons (Or.inl (Nat.le_of_ble_eq_true rfl)) (fr_cons (Or.inl (Nat.le_of_ble_eq_true rfl)) (fr_cons (Or.inl (Nat.le_of_ble_eq_true rfl)) (fr_nil))))), rfl⟩ fr_i rfl rfl rfl rfl ?_
    refine V.if_ne (tgt := 35) dX11_readsSo_15 (by decide) (fun h => ?_) (fun h => ?_)
    · have hf := fif_f h hf
      refine V.iconst (v := 0) dX11_readsSo_35 rfl ?_
      obtain rfl := Option.some.inj hf
      exact V.zret (v := 0) dX11_readsSo_36 rfl (by decide +kernel) (Nat.le_of_ble_eq_true rfl) (Nat.le_of_ble_eq_true rfl) rfl
    · have hf := fif_t h hf
      refine V.aload_n (i := 0) dX11_readsSo_18 rfl rfl ?_
      refine V.iload_n (i := 1) dX11_readsSo_19 rfl rfl ?_
      obtain ⟨v3, hv3, hf⟩ := fbind hf
      refine V.callVn (pl := [0, 1, 2, 3, 4]) (σ' := [.inl (6, [.ref 1, .ref 2, .int M_savedMany, .ref 3, .int M_isTaken, .ref 4, .int M_length, .int M_thrown, .int M_spelt, .int M_speltMany, .int M_place, .int M_kind, .int M_one, .int M_two, .int M_three, .int M_begins, .int M_done, .int M_stopBy, .long M_hash]), .inr (406, .inl M_s), .inr (2436, .inl M_saved), .inr (406, .inl M_snapshot), .inr (60, .inl M_text)]) (st2 := [.int v3]) (cl2 := 0) (sl2 := 0) (ct_X11_readLetters (a1 := a1) (M_savedMany := M_savedMany) (M_isTaken := M_isTaken) (M_length := M_length) (M_thrown := M_thrown) (M_spelt := M_spelt) (M_speltMany := M_speltMany) (M_place := M_place) (M_kind := M_kind) (M_one := M_one) (M_two := M_two) (M_three := M_three) (M_begins := M_begins) (M_done := M_done) (M_stopBy := M_stopBy) (M_hash := M_hash) (M_s := M_s) (M_saved := M_saved) (M_snapshot := M_snapshot) (M_text := M_text) hv3) dX11_readsSo_20 w1166 ⟨w1168, w17⟩ cal_X11_readLetters rfl ⟨⟨Nat.le_of_ble_eq_true rfl, Nat.le_of_ble_eq_true rfl⟩, Nat.le_of_ble_eq_true rfl, Nat.le_of_ble_eq_true rfl⟩ (Nat.le_of_ble_eq_true rfl) (Or.inl ⟨_, _, _, _, rfl, rfl⟩) rfl ⟨rfl, ⟨by decide, by decide⟩, rfl, (fr_cons (Or.inl (Nat.le_of_ble_eq_true rfl)) (fr_cons (Or.inl (Nat.le_of_ble_eq_true rfl)) (fr_cons (Or.inl (Nat.le_of_ble_eq_true rfl)) (fr_cons (Or.inl (Nat.le_of_ble_eq_true rfl)) (fr_nil))))), rfl⟩ fr_i rfl rfl rfl rfl ?_
      refine V.iload_n (i := 2) dX11_readsSo_23 rfl rfl ?_
      refine V.iload_n (i := 3) dX11_readsSo_24 rfl rfl ?_
      obtain ⟨v4, hv4, hf⟩ := fbind hf
      refine V.callSn (pl := []) (σ' := [.inl (6, [.ref 1, .ref 2, .int M_savedMany, .ref 3, .int M_isTaken, .ref 4, .int M_length, .int M_thrown, .int M_spelt, .int M_speltMany, .int M_place, .int M_kind, .int M_one, .int M_two, .int M_three, .int M_begins, .int M_done, .int M_stopBy, .long M_hash]), .inr (406, .inl M_s), .inr (2436, .inl M_saved), .inr (406, .inl M_snapshot), .inr (60, .inl M_text)]) (st2 := [.int v4, .int v3]) (cl2 := 0) (sl2 := 0) (ct_X11_whole (a0 := a2) (a1 := a3) hv4) dX11_readsSo_25 w1178 w1179 cal_X11_whole ⟨⟨Nat.le_of_ble_eq_true rfl, Nat.le_of_ble_eq_true rfl⟩, Nat.le_of_ble_eq_true rfl, Nat.le_of_ble_eq_true rfl⟩ (Nat.le_of_ble_eq_true rfl) rfl ⟨rfl, ⟨by decide, by decide⟩, rfl, (fr_nil), rfl⟩ fr_i rfl rfl rfl rfl ?_
      refine V.icmp_ne (tgt := 35) dX11_readsSo_28 (by decide) (fun h => ?_) (fun h => ?_)
      · have hf := fif_f h hf
        refine V.iconst (v := 0) dX11_readsSo_35 rfl ?_
        obtain rfl := Option.some.inj hf
        exact V.zret (v := 0) dX11_readsSo_36 rfl (by decide +kernel) (Nat.le_of_ble_eq_true rfl) (Nat.le_of_ble_eq_true rfl) rfl
      · have hf := fif_t h hf
        refine V.iconst (v := 1) dX11_readsSo_31 rfl ?_
        refine V.goto (tgt := 36) dX11_readsSo_32 (by decide) ?_
        obtain rfl := Option.some.inj hf
        exact V.zret (v := 1) dX11_readsSo_36 rfl (by decide +kernel) (Nat.le_of_ble_eq_true rfl) (Nat.le_of_ble_eq_true rfl) rfl
def k_X11_readAlike : fK := (yX11_readAlike, cX11_readAlike, 5, (some .boolean), [], (3, 66), (0, 0), (0, 0))
theorem cal_X11_readAlike : fCal k_X11_readAlike 2 := ⟨⟨wc1434, w73⟩, ⟨by decide +kernel, by decide +kernel⟩, by decide +kernel, by decide +kernel⟩
def s_X11_readAlike_L22 (p1 : Int32) (p2 : Int32) (M_s : Nat → Int32) : Nat → Int32 → Int32 → Option (Int32 × Int32)
  | 0, _, _ => none
  | n + 1, x3, x4 => (s_X11_knots p1 M_s).bind fun v3 => if (v3 ≤ x4 : Prop) then (some (x3, x4)) else (if (x3 = 0 : Prop) then (some (x3, x4)) else ((s_X11_readAs p1 x4 M_s).bind fun v4 => (s_X11_readAs p2 x4 M_s).bind fun v5 => if (v4 = v5 : Prop) then (s_X11_readAlike_L22 p1 p2 M_s n 1 (x4 + 1)) else (s_X11_readAlike_L22 p1 p2 M_s n 0 (x4 + 1))))
set_option maxHeartbeats 4000000 in
set_option maxRecDepth 100000 in
theorem v_X11_readAlike_L22 {out : fO} {σ' : List fE} {p1 : Int32} {p2 : Int32} {M_savedMany : Int32} {M_isTaken : Int32} {M_length : Int32} {M_thrown : Int32} {M_spelt : Int32} {M_speltMany : Int32} {M_place : Int32} {M_kind : Int32} {M_one : Int32} {M_two : Int32} {M_three : Int32} {M_begins : Int32} {M_done : Int32} {M_stopBy : Int32} {M_hash : Int64} {M_s : Nat → Int32} {M_saved : Nat → Int32} {M_snapshot : Nat → Int32} {M_text : Nat → Int32} : ∀ (n : Nat) {x3 : Int32} {x4 : Int32} {res : Int32 × Int32} (hf : s_X11_readAlike_L22 p1 p2 M_s n x3 x4 = some res) (hx : V (fXm 5 k_X11_readAlike out σ') (krm k_X11_readAlike) k_X11_readAlike 5 65 [some (.ref 0), some (.int p1), some (.int p2), some (.int res.1), some (.int res.2)] [] [.inl (6, [.ref 1, .ref 2, .int M_savedMany, .ref 3, .int M_isTaken, .ref 4, .int M_length, .int M_thrown, .int M_spelt, .int M_speltMany, .int M_place, .int M_kind, .int M_one, .int M_two, .int M_three, .int M_begins, .int M_done, .int M_stopBy, .long M_hash]), .inr (406, .inl M_s), .inr (2436, .inl M_saved), .inr (406, .inl M_snapshot), .inr (60, .inl M_text)] 0 0), V (fXm 5 k_X11_readAlike out σ') (krm k_X11_readAlike) k_X11_readAlike 5 22 [some (.ref 0), some (.int p1), some (.int p2), some (.int x3), some (.int x4)] [] [.inl (6, [.ref 1, .ref 2, .int M_savedMany, .ref 3, .int M_isTaken, .ref 4, .int M_length, .int M_thrown, .int M_spelt, .int M_speltMany, .int M_place, .int M_kind, .int M_one, .int M_two, .int M_three, .int M_begins, .int M_done, .int M_stopBy, .long M_hash]), .inr (406, .inl M_s), .inr (2436, .inl M_saved), .inr (406, .inl M_snapshot), .inr (60, .inl M_text)] 0 0 := by
  intro n
  induction n with
  | zero =>
    intro x3 x4 res hf hx
    rw [s_X11_readAlike_L22] at hf
    cases hf
  | succ n ih =>
    intro x3 x4 res hf hx
    rw [s_X11_readAlike_L22] at hf
    refine V.iload (i := 4) dX11_readAlike_22 rfl ?_
    refine V.aload_n (i := 0) dX11_readAlike_24 rfl rfl ?_
    refine V.iload_n (i := 1) dX11_readAlike_25 rfl rfl ?_
    obtain ⟨v3, hv3, hf⟩ := fbind hf
    refine V.callVn (pl := [0, 1, 2, 3, 4]) (σ' := [.inl (6, [.ref 1, .ref 2, .int M_savedMany, .ref 3, .int M_isTaken, .ref 4, .int M_length, .int M_thrown, .int M_spelt, .int M_speltMany, .int M_place, .int M_kind, .int M_one, .int M_two, .int M_three, .int M_begins, .int M_done, .int M_stopBy, .long M_hash]), .inr (406, .inl M_s), .inr (2436, .inl M_saved), .inr (406, .inl M_snapshot), .inr (60, .inl M_text)]) (st2 := [.int v3, .int x4]) (cl2 := 0) (sl2 := 0) (ct_X11_knots (a1 := p1) (M_savedMany := M_savedMany) (M_isTaken := M_isTaken) (M_length := M_length) (M_thrown := M_thrown) (M_spelt := M_spelt) (M_speltMany := M_speltMany) (M_place := M_place) (M_kind := M_kind) (M_one := M_one) (M_two := M_two) (M_three := M_three) (M_begins := M_begins) (M_done := M_done) (M_stopBy := M_stopBy) (M_hash := M_hash) (M_s := M_s) (M_saved := M_saved) (M_snapshot := M_snapshot) (M_text := M_text) hv3) dX11_readAlike_26 w1154 ⟨w1156, w14⟩ cal_X11_knots rfl ⟨⟨Nat.le_of_ble_eq_true rfl, Nat.le_of_ble_eq_true rfl⟩, Nat.le_of_ble_eq_true rfl, Nat.le_of_ble_eq_true rfl⟩ (Nat.le_of_ble_eq_true rfl) (Or.inl ⟨_, _, _, _, rfl, rfl⟩) rfl ⟨rfl, ⟨by decide, by decide⟩, rfl, (fr_cons (Or.inl (Nat.le_of_ble_eq_true rfl)) (fr_cons (Or.inl (Nat.le_of_ble_eq_true rfl)) (fr_cons (Or.inl (Nat.le_of_ble_eq_true rfl)) (fr_cons (Or.inl (Nat.le_of_ble_eq_true rfl)) (fr_nil))))), rfl⟩ fr_i rfl rfl rfl rfl ?_
    refine V.icmp_ge (tgt := 65) dX11_readAlike_29 (by decide) (fun h => ?_) (fun h => ?_)
    · have hf := fif_t h hf
      obtain rfl := Option.some.inj hf
      exact hx
    · have hf := fif_f h hf
      refine V.iload_n (i := 3) dX11_readAlike_32 rfl rfl ?_
      refine V.if_eq (tgt := 65) dX11_readAlike_33 (by decide) (fun h => ?_) (fun h => ?_)
      · have hf := fif_t h hf
        obtain rfl := Option.some.inj hf
        exact hx
      · have hf := fif_f h hf
        refine V.aload_n (i := 0) dX11_readAlike_36 rfl rfl ?_
        refine V.iload_n (i := 1) dX11_readAlike_37 rfl rfl ?_
        refine V.iload (i := 4) dX11_readAlike_38 rfl ?_
        obtain ⟨v4, hv4, hf⟩ := fbind hf
        refine V.callVn (pl := [0, 1, 2, 3, 4]) (σ' := [.inl (6, [.ref 1, .ref 2, .int M_savedMany, .ref 3, .int M_isTaken, .ref 4, .int M_length, .int M_thrown, .int M_spelt, .int M_speltMany, .int M_place, .int M_kind, .int M_one, .int M_two, .int M_three, .int M_begins, .int M_done, .int M_stopBy, .long M_hash]), .inr (406, .inl M_s), .inr (2436, .inl M_saved), .inr (406, .inl M_snapshot), .inr (60, .inl M_text)]) (st2 := [.int v4]) (cl2 := 0) (sl2 := 0) (ct_X11_readAs (a1 := p1) (a2 := x4) (M_savedMany := M_savedMany) (M_isTaken := M_isTaken) (M_length := M_length) (M_thrown := M_thrown) (M_spelt := M_spelt) (M_speltMany := M_speltMany) (M_place := M_place) (M_kind := M_kind) (M_one := M_one) (M_two := M_two) (M_three := M_three) (M_begins := M_begins) (M_done := M_done) (M_stopBy := M_stopBy) (M_hash := M_hash) (M_s := M_s) (M_saved := M_saved) (M_snapshot := M_snapshot) (M_text := M_text) hv4) dX11_readAlike_40 w1170 ⟨w1172, w18⟩ cal_X11_readAs rfl ⟨⟨Nat.le_of_ble_eq_true rfl, Nat.le_of_ble_eq_true rfl⟩, Nat.le_of_ble_eq_true rfl, Nat.le_of_ble_eq_true rfl⟩ (Nat.le_of_ble_eq_true rfl) (Or.inl ⟨_, _, _, _, rfl, rfl⟩) rfl ⟨rfl, ⟨by decide, by decide⟩, rfl, (fr_cons (Or.inl (Nat.le_of_ble_eq_true rfl)) (fr_cons (Or.inl (Nat.le_of_ble_eq_true rfl)) (fr_cons (Or.inl (Nat.le_of_ble_eq_true rfl)) (fr_cons (Or.inl (Nat.le_of_ble_eq_true rfl)) (fr_nil))))), rfl⟩ fr_i rfl rfl rfl rfl ?_
        refine V.aload_n (i := 0) dX11_readAlike_43 rfl rfl ?_
        refine V.iload_n (i := 2) dX11_readAlike_44 rfl rfl ?_
        refine V.iload (i := 4) dX11_readAlike_45 rfl ?_
        obtain ⟨v5, hv5, hf⟩ := fbind hf
        refine V.callVn (pl := [0, 1, 2, 3, 4]) (σ' := [.inl (6, [.ref 1, .ref 2, .int M_savedMany, .ref 3, .int M_isTaken, .ref 4, .int M_length, .int M_thrown, .int M_spelt, .int M_speltMany, .int M_place, .int M_kind, .int M_one, .int M_two, .int M_three, .int M_begins, .int M_done, .int M_stopBy, .long M_hash]), .inr (406, .inl M_s), .inr (2436, .inl M_saved), .inr (406, .inl M_snapshot), .inr (60, .inl M_text)]) (st2 := [.int v5, .int v4]) (cl2 := 0) (sl2 := 0) (ct_X11_readAs (a1 := p2) (a2 := x4) (M_savedMany := M_savedMany) (M_isTaken := M_isTaken) (M_length := M_length) (M_thrown := M_thrown) (M_spelt := M_spelt) (M_speltMany := M_speltMany) (M_place := M_place) (M_kind := M_kind) (M_one := M_one) (M_two := M_two) (M_three := M_three) (M_begins := M_begins) (M_done := M_done) (M_stopBy := M_stopBy) (M_hash := M_hash) (M_s := M_s) (M_saved := M_saved) (M_snapshot := M_snapshot) (M_text := M_text) hv5) dX11_readAlike_47 w1170 ⟨w1172, w18⟩ cal_X11_readAs rfl ⟨⟨Nat.le_of_ble_eq_true rfl, Nat.le_of_ble_eq_true rfl⟩, Nat.le_of_ble_eq_true rfl, Nat.le_of_ble_eq_true rfl⟩ (Nat.le_of_ble_eq_true rfl) (Or.inl ⟨_, _, _, _, rfl, rfl⟩) rfl ⟨rfl, ⟨by decide, by decide⟩, rfl, (fr_cons (Or.inl (Nat.le_of_ble_eq_true rfl)) (fr_cons (Or.inl (Nat.le_of_ble_eq_true rfl)) (fr_cons (Or.inl (Nat.le_of_ble_eq_true rfl)) (fr_cons (Or.inl (Nat.le_of_ble_eq_true rfl)) (fr_nil))))), rfl⟩ fr_i rfl rfl rfl rfl ?_
        refine V.icmp_ne (tgt := 57) dX11_readAlike_50 (by decide) (fun h => ?_) (fun h => ?_)
        · have hf := fif_f h hf
          refine V.iconst (v := 0) dX11_readAlike_57 rfl ?_
          refine V.istore_n (i := 3) (L' := [some (.ref 0), some (.int p1), some (.int p2), some (.int 0), some (.int x4)]) dX11_readAlike_58 rfl (Nat.le_of_ble_eq_true rfl) rfl rfl ?_
          refine V.iinc (i := 4) (v := (x4 + 1)) (L' := [some (.ref 0), some (.int p1), some (.int p2), some (.int 0), some (.int (x4 + 1))]) dX11_readAlike_59 rfl rfl (Nat.le_of_ble_eq_true rfl) rfl rfl ?_
          refine V.goto (tgt := 22) dX11_readAlike_62 (by decide) ?_
          exact ih hf hx
        · have hf := fif_t h hf
          refine V.iconst (v := 1) dX11_readAlike_53 rfl ?_
          refine V.goto (tgt := 58) dX11_readAlike_54 (by decide) ?_
          refine V.istore_n (i := 3) (L' := [some (.ref 0), some (.int p1), some (.int p2), some (.int 1), some (.int x4)]) dX11_readAlike_58 rfl (Nat.le_of_ble_eq_true rfl) rfl rfl ?_
          refine V.iinc (i := 4) (v := (x4 + 1)) (L' := [some (.ref 0), some (.int p1), some (.int p2), some (.int 1), some (.int (x4 + 1))]) dX11_readAlike_59 rfl rfl (Nat.le_of_ble_eq_true rfl) rfl rfl ?_
          refine V.goto (tgt := 22) dX11_readAlike_62 (by decide) ?_
          exact ih hf hx
def s_X11_readAlike (a1 : Int32) (a2 : Int32) (M_s : Nat → Int32) : Option (Int32) := (s_X11_knots a1 M_s).bind fun v1 => (s_X11_knots a2 M_s).bind fun v2 => if (v1 = v2 : Prop) then ((s_X11_readAlike_L22 a1 a2 M_s gF 1 0).bind fun r7 => fz r7.1 (some r7.1)) else ((s_X11_readAlike_L22 a1 a2 M_s gF 0 0).bind fun r6 => fz r6.1 (some r6.1))
set_option maxHeartbeats 4000000 in
set_option maxRecDepth 100000 in
theorem ct_X11_readAlike {a1 : Int32} {a2 : Int32} {M_savedMany : Int32} {M_isTaken : Int32} {M_length : Int32} {M_thrown : Int32} {M_spelt : Int32} {M_speltMany : Int32} {M_place : Int32} {M_kind : Int32} {M_one : Int32} {M_two : Int32} {M_three : Int32} {M_begins : Int32} {M_done : Int32} {M_stopBy : Int32} {M_hash : Int64} {M_s : Nat → Int32} {M_saved : Nat → Int32} {M_snapshot : Nat → Int32} {M_text : Nat → Int32} {res : Int32} (hf : s_X11_readAlike a1 a2 M_s = some res) : Ct k_X11_readAlike [.ref 0, .int a1, .int a2] [.inl (6, [.ref 1, .ref 2, .int M_savedMany, .ref 3, .int M_isTaken, .ref 4, .int M_length, .int M_thrown, .int M_spelt, .int M_speltMany, .int M_place, .int M_kind, .int M_one, .int M_two, .int M_three, .int M_begins, .int M_done, .int M_stopBy, .long M_hash]), .inr (406, .inl M_s), .inr (2436, .inl M_saved), .inr (406, .inl M_snapshot), .inr (60, .inl M_text)] (.inl (some (.int res))) [.inl (6, [.ref 1, .ref 2, .int M_savedMany, .ref 3, .int M_isTaken, .ref 4, .int M_length, .int M_thrown, .int M_spelt, .int M_speltMany, .int M_place, .int M_kind, .int M_one, .int M_two, .int M_three, .int M_begins, .int M_done, .int M_stopBy, .long M_hash]), .inr (406, .inl M_s), .inr (2436, .inl M_saved), .inr (406, .inl M_snapshot), .inr (60, .inl M_text)] := by
  unfold s_X11_readAlike at hf
  refine Ct.of (L := [some (.ref 0), some (.int a1), some (.int a2), none, none]) cal_X11_readAlike (fent_pad (j := 2) rfl) (Nat.le_of_ble_eq_true rfl) ?_
  refine V.aload_n (i := 0) dX11_readAlike_0 rfl rfl ?_
  refine V.iload_n (i := 1) dX11_readAlike_1 rfl rfl ?_
  obtain ⟨v1, hv1, hf⟩ := fbind hf
  refine V.callVn (pl := [0, 1, 2, 3, 4]) (σ' := [.inl (6, [.ref 1, .ref 2, .int M_savedMany, .ref 3, .int M_isTaken, .ref 4, .int M_length, .int M_thrown, .int M_spelt, .int M_speltMany, .int M_place, .int M_kind, .int M_one, .int M_two, .int M_three, .int M_begins, .int M_done, .int M_stopBy, .long M_hash]), .inr (406, .inl M_s), .inr (2436, .inl M_saved), .inr (406, .inl M_snapshot), .inr (60, .inl M_text)]) (st2 := [.int v1]) (cl2 := 0) (sl2 := 0) (ct_X11_knots (a1 := a1) (M_savedMany := M_savedMany) (M_isTaken := M_isTaken) (M_length := M_length) (M_thrown := M_thrown) (M_spelt := M_spelt) (M_speltMany := M_speltMany) (M_place := M_place) (M_kind := M_kind) (M_one := M_one) (M_two := M_two) (M_three := M_three) (M_begins := M_begins) (M_done := M_done) (M_stopBy := M_stopBy) (M_hash := M_hash) (M_s := M_s) (M_saved := M_saved) (M_snapshot := M_snapshot) (M_text := M_text) hv1) dX11_readAlike_2 w1154 ⟨w1156, w14⟩ cal_X11_knots rfl ⟨⟨Nat.le_of_ble_eq_true rfl, Nat.le_of_ble_eq_true rfl⟩, Nat.le_of_ble_eq_true rfl, Nat.le_of_ble_eq_true rfl⟩ (Nat.le_of_ble_eq_true rfl) (Or.inl ⟨_, _, _, _, rfl, rfl⟩) rfl ⟨rfl, ⟨by decide, by decide⟩, rfl, (fr_cons (Or.inl (Nat.le_of_ble_eq_true rfl)) (fr_cons (Or.inl (Nat.le_of_ble_eq_true rfl)) (fr_cons (Or.inl (Nat.le_of_ble_eq_true rfl)) (fr_cons (Or.inl (Nat.le_of_ble_eq_true rfl)) (fr_nil))))), rfl⟩ fr_i rfl rfl rfl rfl ?_
  refine V.aload_n (i := 0) dX11_readAlike_5 rfl rfl ?_
  refine V.iload_n (i := 2) dX11_readAlike_6 rfl rfl ?_
  obtain ⟨v2, hv2, hf⟩ := fbind hf
  refine V.callVn (pl := [0, 1, 2, 3, 4]) (σ' := [.inl (6, [.ref 1, .ref 2, .int M_savedMany, .ref 3, .int M_isTaken, .ref 4, .int M_length, .int M_thrown, .int M_spelt, .int M_speltMany, .int M_place, .int M_kind, .int M_one, .int M_two, .int M_three, .int M_begins, .int M_done, .int M_stopBy, .long M_hash]), .inr (406, .inl M_s), .inr (2436, .inl M_saved), .inr (406, .inl M_snapshot), .inr (60, .inl M_text)]) (st2 := [.int v2, .int v1]) (cl2 := 0) (sl2 := 0) (ct_X11_knots (a1 := a2) (M_savedMany := M_savedMany) (M_isTaken := M_isTaken) (M_length := M_length) (M_thrown := M_thrown) (M_spelt := M_spelt) (M_speltMany := M_speltMany) (M_place := M_place) (M_kind := M_kind) (M_one := M_one) (M_two := M_two) (M_three := M_three) (M_begins := M_begins) (M_done := M_done) (M_stopBy := M_stopBy) (M_hash := M_hash) (M_s := M_s) (M_saved := M_saved) (M_snapshot := M_snapshot) (M_text := M_text) hv2) dX11_readAlike_7 w1154 ⟨w1156, w14⟩ cal_X11_knots rfl ⟨⟨Nat.le_of_ble_eq_true rfl, Nat.le_of_ble_eq_true rfl⟩, Nat.le_of_ble_eq_true rfl, Nat.le_of_ble_eq_true rfl⟩ (Nat.le_of_ble_eq_true rfl) (Or.inl ⟨_, _, _, _, rfl, rfl⟩) rfl ⟨rfl, ⟨by decide, by decide⟩, rfl, (fr_cons (Or.inl (Nat.le_of_ble_eq_true rfl)) (fr_cons (Or.inl (Nat.le_of_ble_eq_true rfl)) (fr_cons (Or.inl (Nat.le_of_ble_eq_true rfl)) (fr_cons (Or.inl (Nat.le_of_ble_eq_true rfl)) (fr_nil))))), rfl⟩ fr_i rfl rfl rfl rfl ?_
  refine V.icmp_ne (tgt := 17) dX11_readAlike_10 (by decide) (fun h => ?_) (fun h => ?_)
  · have hf := fif_f h hf
    refine V.iconst (v := 0) dX11_readAlike_17 rfl ?_
    refine V.istore_n (i := 3) (L' := [some (.ref 0), some (.int a1), some (.int a2), some (.int 0), none]) dX11_readAlike_18 rfl (Nat.le_of_ble_eq_true rfl) rfl rfl ?_
    refine V.iconst (v := 0) dX11_readAlike_19 rfl ?_
    refine V.istore (i := 4) (L' := [some (.ref 0), some (.int a1), some (.int a2), some (.int 0), some (.int 0)]) dX11_readAlike_20 (Nat.le_of_ble_eq_true rfl) rfl rfl ?_
    obtain ⟨r6, hr6, hf⟩ := fbind hf
    refine v_X11_readAlike_L22 gF hr6 ?_
    refine V.iload_n (i := 3) dX11_readAlike_65 rfl rfl ?_
    obtain ⟨hz, hf⟩ := fz_e hf
    obtain rfl := Option.some.inj hf
    exact V.zret (v := r6.1) dX11_readAlike_66 rfl hz (Nat.le_of_ble_eq_true rfl) (Nat.le_of_ble_eq_true rfl) rfl
  · have hf := fif_t h hf
    refine V.iconst (v := 1) dX11_readAlike_13 rfl ?_
    refine V.goto (tgt := 18) dX11_readAlike_14 (by decide) ?_
    refine V.istore_n (i := 3) (L' := [some (.ref 0), some (.int a1), some (.int a2), some (.int 1), none]) dX11_readAlike_18 rfl (Nat.le_of_ble_eq_true rfl) rfl rfl ?_
    refine V.iconst (v := 0) dX11_readAlike_19 rfl ?_
    refine V.istore (i := 4) (L' := [some (.ref 0), some (.int a1), some (.int a2), some (.int 1), some (.int 0)]) dX11_readAlike_20 (Nat.le_of_ble_eq_true rfl) rfl rfl ?_
    obtain ⟨r7, hr7, hf⟩ := fbind hf
    refine v_X11_readAlike_L22 gF hr7 ?_
    refine V.iload_n (i := 3) dX11_readAlike_65 rfl rfl ?_
    obtain ⟨hz, hf⟩ := fz_e hf
    obtain rfl := Option.some.inj hf
    exact V.zret (v := r7.1) dX11_readAlike_66 rfl hz (Nat.le_of_ble_eq_true rfl) (Nat.le_of_ble_eq_true rfl) rfl
def k_X11_cordOn : fK := (yX11_cordOn, cX11_cordOn, 4, (some .int), [], (4, 84), (0, 0), (0, 0))
theorem cal_X11_cordOn : fCal k_X11_cordOn 1 := ⟨⟨wc1146, w73⟩, ⟨by decide +kernel, by decide +kernel⟩, by decide +kernel, by decide +kernel⟩
def s_X11_cordOn_L4 (p1 : Int32) (M_s : Nat → Int32) : Nat → Int32 → Int32 → Option (Int32 × Int32)
  | 0, _, _ => none
  | n + 1, x2, x3 => (s_X11_of p1 1 M_s).bind fun v1 => if (v1 ≤ x3 : Prop) then (some (x2, x3)) else ((s_X11_whereIs p1 x3).bind fun v2 => (s_X11_cordOf v2 M_s).bind fun v3 => s_X11_cordOn_L4 p1 M_s n (x2 + v3) (x3 + 1))
set_option maxHeartbeats 4000000 in
set_option maxRecDepth 100000 in
theorem v_X11_cordOn_L4 {out : fO} {σ' : List fE} {p1 : Int32} {M_savedMany : Int32} {M_isTaken : Int32} {M_length : Int32} {M_thrown : Int32} {M_spelt : Int32} {M_speltMany : Int32} {M_place : Int32} {M_kind : Int32} {M_one : Int32} {M_two : Int32} {M_three : Int32} {M_begins : Int32} {M_done : Int32} {M_stopBy : Int32} {M_hash : Int64} {M_s : Nat → Int32} {M_saved : Nat → Int32} {M_snapshot : Nat → Int32} {M_text : Nat → Int32} : ∀ (n : Nat) {x2 : Int32} {x3 : Int32} {res : Int32 × Int32} (hf : s_X11_cordOn_L4 p1 M_s n x2 x3 = some res) (hx : V (fXm 5 k_X11_cordOn out σ') (krm k_X11_cordOn) k_X11_cordOn 5 32 [some (.ref 0), some (.int p1), some (.int res.1), some (.int res.2)] [] [.inl (6, [.ref 1, .ref 2, .int M_savedMany, .ref 3, .int M_isTaken, .ref 4, .int M_length, .int M_thrown, .int M_spelt, .int M_speltMany, .int M_place, .int M_kind, .int M_one, .int M_two, .int M_three, .int M_begins, .int M_done, .int M_stopBy, .long M_hash]), .inr (406, .inl M_s), .inr (2436, .inl M_saved), .inr (406, .inl M_snapshot), .inr (60, .inl M_text)] 0 0), V (fXm 5 k_X11_cordOn out σ') (krm k_X11_cordOn) k_X11_cordOn 5 4 [some (.ref 0), some (.int p1), some (.int x2), some (.int x3)] [] [.inl (6, [.ref 1, .ref 2, .int M_savedMany, .ref 3, .int M_isTaken, .ref 4, .int M_length, .int M_thrown, .int M_spelt, .int M_speltMany, .int M_place, .int M_kind, .int M_one, .int M_two, .int M_three, .int M_begins, .int M_done, .int M_stopBy, .long M_hash]), .inr (406, .inl M_s), .inr (2436, .inl M_saved), .inr (406, .inl M_snapshot), .inr (60, .inl M_text)] 0 0 := by
  intro n
  induction n with
  | zero =>
    intro x2 x3 res hf hx
    rw [s_X11_cordOn_L4] at hf
    cases hf
  | succ n ih =>
    intro x2 x3 res hf hx
    rw [s_X11_cordOn_L4] at hf
    refine V.iload_n (i := 3) dX11_cordOn_4 rfl rfl ?_
    refine V.aload_n (i := 0) dX11_cordOn_5 rfl rfl ?_
    refine V.iload_n (i := 1) dX11_cordOn_6 rfl rfl ?_
    refine V.iconst (v := 1) dX11_cordOn_7 rfl ?_
    obtain ⟨v1, hv1, hf⟩ := fbind hf
    refine V.callVn (pl := [0, 1, 2, 3, 4]) (σ' := [.inl (6, [.ref 1, .ref 2, .int M_savedMany, .ref 3, .int M_isTaken, .ref 4, .int M_length, .int M_thrown, .int M_spelt, .int M_speltMany, .int M_place, .int M_kind, .int M_one, .int M_two, .int M_three, .int M_begins, .int M_done, .int M_stopBy, .long M_hash]), .inr (406, .inl M_s), .inr (2436, .inl M_saved), .inr (406, .inl M_snapshot), .inr (60, .inl M_text)]) (st2 := [.int v1, .int x3]) (cl2 := 0) (sl2 := 0) (ct_X11_of (a1 := p1) (a2 := 1) (M_savedMany := M_savedMany) (M_isTaken := M_isTaken) (M_length := M_length) (M_thrown := M_thrown) (M_spelt := M_spelt) (M_speltMany := M_speltMany) (M_place := M_place) (M_kind := M_kind) (M_one := M_one) (M_two := M_two) (M_three := M_three) (M_begins := M_begins) (M_done := M_done) (M_stopBy := M_stopBy) (M_hash := M_hash) (M_s := M_s) (M_saved := M_saved) (M_snapshot := M_snapshot) (M_text := M_text) hv1) dX11_cordOn_8 w1123 ⟨w1125, w10⟩ cal_X11_of rfl ⟨⟨Nat.le_of_ble_eq_true rfl, Nat.le_of_ble_eq_true rfl⟩, Nat.le_of_ble_eq_true rfl, Nat.le_of_ble_eq_true rfl⟩ (Nat.le_of_ble_eq_true rfl) (Or.inl ⟨_, _, _, _, rfl, rfl⟩) rfl ⟨rfl, ⟨by decide, by decide⟩, rfl, (fr_cons (Or.inl (Nat.le_of_ble_eq_true rfl)) (fr_cons (Or.inl (Nat.le_of_ble_eq_true rfl)) (fr_cons (Or.inl (Nat.le_of_ble_eq_true rfl)) (fr_cons (Or.inl (Nat.le_of_ble_eq_true rfl)) (fr_nil))))), rfl⟩ fr_i rfl rfl rfl rfl ?_
    refine V.icmp_ge (tgt := 32) dX11_cordOn_11 (by decide) (fun h => ?_) (fun h => ?_)
    · have hf := fif_t h hf
      obtain rfl := Option.some.inj hf
      exact hx
    · have hf := fif_f h hf
      refine V.iload_n (i := 2) dX11_cordOn_14 rfl rfl ?_
      refine V.aload_n (i := 0) dX11_cordOn_15 rfl rfl ?_
      refine V.iload_n (i := 1) dX11_cordOn_16 rfl rfl ?_
      refine V.iload_n (i := 3) dX11_cordOn_17 rfl rfl ?_
      obtain ⟨v2, hv2, hf⟩ := fbind hf
      refine V.callSn (pl := []) (σ' := [.inl (6, [.ref 1, .ref 2, .int M_savedMany, .ref 3, .int M_isTaken, .ref 4, .int M_length, .int M_thrown, .int M_spelt, .int M_speltMany, .int M_place, .int M_kind, .int M_one, .int M_two, .int M_three, .int M_begins, .int M_done, .int M_stopBy, .long M_hash]), .inr (406, .inl M_s), .inr (2436, .inl M_saved), .inr (406, .inl M_snapshot), .inr (60, .inl M_text)]) (st2 := [.int v2, .ref 0, .int x2]) (cl2 := 0) (sl2 := 0) (ct_X11_whereIs (a0 := p1) (a1 := x3) hv2) dX11_cordOn_18 w1147 w1148 cal_X11_whereIs ⟨⟨Nat.le_of_ble_eq_true rfl, Nat.le_of_ble_eq_true rfl⟩, Nat.le_of_ble_eq_true rfl, Nat.le_of_ble_eq_true rfl⟩ (Nat.le_of_ble_eq_true rfl) rfl ⟨rfl, ⟨by decide, by decide⟩, rfl, (fr_nil), rfl⟩ fr_i rfl rfl rfl rfl ?_
      obtain ⟨v3, hv3, hf⟩ := fbind hf
      refine V.callVn (pl := [0, 1, 2, 3, 4]) (σ' := [.inl (6, [.ref 1, .ref 2, .int M_savedMany, .ref 3, .int M_isTaken, .ref 4, .int M_length, .int M_thrown, .int M_spelt, .int M_speltMany, .int M_place, .int M_kind, .int M_one, .int M_two, .int M_three, .int M_begins, .int M_done, .int M_stopBy, .long M_hash]), .inr (406, .inl M_s), .inr (2436, .inl M_saved), .inr (406, .inl M_snapshot), .inr (60, .inl M_text)]) (st2 := [.int v3, .int x2]) (cl2 := 0) (sl2 := 0) (ct_X11_cordOf (a1 := v2) (M_savedMany := M_savedMany) (M_isTaken := M_isTaken) (M_length := M_length) (M_thrown := M_thrown) (M_spelt := M_spelt) (M_speltMany := M_speltMany) (M_place := M_place) (M_kind := M_kind) (M_one := M_one) (M_two := M_two) (M_three := M_three) (M_begins := M_begins) (M_done := M_done) (M_stopBy := M_stopBy) (M_hash := M_hash) (M_s := M_s) (M_saved := M_saved) (M_snapshot := M_snapshot) (M_text := M_text) hv3) dX11_cordOn_21 w1150 ⟨w1152, w13⟩ cal_X11_cordOf rfl ⟨⟨Nat.le_of_ble_eq_true rfl, Nat.le_of_ble_eq_true rfl⟩, Nat.le_of_ble_eq_true rfl, Nat.le_of_ble_eq_true rfl⟩ (Nat.le_of_ble_eq_true rfl) (Or.inl ⟨_, _, _, _, rfl, rfl⟩) rfl ⟨rfl, ⟨by decide, by decide⟩, rfl, (fr_cons (Or.inl (Nat.le_of_ble_eq_true rfl)) (fr_cons (Or.inl (Nat.le_of_ble_eq_true rfl)) (fr_cons (Or.inl (Nat.le_of_ble_eq_true rfl)) (fr_cons (Or.inl (Nat.le_of_ble_eq_true rfl)) (fr_nil))))), rfl⟩ fr_i rfl rfl rfl rfl ?_
      refine V.iadd dX11_cordOn_24 ?_
      refine V.istore_n (i := 2) (L' := [some (.ref 0), some (.int p1), some (.int (x2 + v3)), some (.int x3)]) dX11_cordOn_25 rfl (Nat.le_of_ble_eq_true rfl) rfl rfl ?_
      refine V.iinc (i := 3) (v := (x3 + 1)) (L' := [some (.ref 0), some (.int p1), some (.int (x2 + v3)), some (.int (x3 + 1))]) dX11_cordOn_26 rfl rfl (Nat.le_of_ble_eq_true rfl) rfl rfl ?_
      refine V.goto (tgt := 4) dX11_cordOn_29 (by decide) ?_
      exact ih hf hx
def s_X11_cordOn (a1 : Int32) (M_s : Nat → Int32) : Option (Int32) := (s_X11_cordOn_L4 a1 M_s gF 0 0).bind fun r4 => some r4.1
set_option maxHeartbeats 4000000 in
set_option maxRecDepth 100000 in
theorem ct_X11_cordOn {a1 : Int32} {M_savedMany : Int32} {M_isTaken : Int32} {M_length : Int32} {M_thrown : Int32} {M_spelt : Int32} {M_speltMany : Int32} {M_place : Int32} {M_kind : Int32} {M_one : Int32} {M_two : Int32} {M_three : Int32} {M_begins : Int32} {M_done : Int32} {M_stopBy : Int32} {M_hash : Int64} {M_s : Nat → Int32} {M_saved : Nat → Int32} {M_snapshot : Nat → Int32} {M_text : Nat → Int32} {res : Int32} (hf : s_X11_cordOn a1 M_s = some res) : Ct k_X11_cordOn [.ref 0, .int a1] [.inl (6, [.ref 1, .ref 2, .int M_savedMany, .ref 3, .int M_isTaken, .ref 4, .int M_length, .int M_thrown, .int M_spelt, .int M_speltMany, .int M_place, .int M_kind, .int M_one, .int M_two, .int M_three, .int M_begins, .int M_done, .int M_stopBy, .long M_hash]), .inr (406, .inl M_s), .inr (2436, .inl M_saved), .inr (406, .inl M_snapshot), .inr (60, .inl M_text)] (.inl (some (.int res))) [.inl (6, [.ref 1, .ref 2, .int M_savedMany, .ref 3, .int M_isTaken, .ref 4, .int M_length, .int M_thrown, .int M_spelt, .int M_speltMany, .int M_place, .int M_kind, .int M_one, .int M_two, .int M_three, .int M_begins, .int M_done, .int M_stopBy, .long M_hash]), .inr (406, .inl M_s), .inr (2436, .inl M_saved), .inr (406, .inl M_snapshot), .inr (60, .inl M_text)] := by
  unfold s_X11_cordOn at hf
  refine Ct.of (L := [some (.ref 0), some (.int a1), none, none]) cal_X11_cordOn (fent_pad (j := 2) rfl) (Nat.le_of_ble_eq_true rfl) ?_
  refine V.iconst (v := 0) dX11_cordOn_0 rfl ?_
  refine V.istore_n (i := 2) (L' := [some (.ref 0), some (.int a1), some (.int 0), none]) dX11_cordOn_1 rfl (Nat.le_of_ble_eq_true rfl) rfl rfl ?_
  refine V.iconst (v := 0) dX11_cordOn_2 rfl ?_
  refine V.istore_n (i := 3) (L' := [some (.ref 0), some (.int a1), some (.int 0), some (.int 0)]) dX11_cordOn_3 rfl (Nat.le_of_ble_eq_true rfl) rfl rfl ?_
  obtain ⟨r4, hr4, hf⟩ := fbind hf
  refine v_X11_cordOn_L4 gF hr4 ?_
  refine V.iload_n (i := 2) dX11_cordOn_32 rfl rfl ?_
  obtain rfl := Option.some.inj hf
  exact V.iret dX11_cordOn_33 rfl (Nat.le_of_ble_eq_true rfl) (Nat.le_of_ble_eq_true rfl) rfl
def k_X11_left : fK := (yX11_left, cX11_left, 2, (some .int), [], (5, 107), (0, 0), (0, 0))
theorem cal_X11_left : fCal k_X11_left 1 := ⟨⟨wc1142, w73⟩, ⟨by decide +kernel, by decide +kernel⟩, by decide +kernel, by decide +kernel⟩
def s_X11_left (a1 : Int32) (M_s : Nat → Int32) : Option (Int32) := (s_X11_of a1 0 M_s).bind fun v1 => (s_X11_cordOn a1 M_s).bind fun v2 => some (v1 - v2)
set_option maxHeartbeats 4000000 in
set_option maxRecDepth 100000 in
theorem ct_X11_left {a1 : Int32} {M_savedMany : Int32} {M_isTaken : Int32} {M_length : Int32} {M_thrown : Int32} {M_spelt : Int32} {M_speltMany : Int32} {M_place : Int32} {M_kind : Int32} {M_one : Int32} {M_two : Int32} {M_three : Int32} {M_begins : Int32} {M_done : Int32} {M_stopBy : Int32} {M_hash : Int64} {M_s : Nat → Int32} {M_saved : Nat → Int32} {M_snapshot : Nat → Int32} {M_text : Nat → Int32} {res : Int32} (hf : s_X11_left a1 M_s = some res) : Ct k_X11_left [.ref 0, .int a1] [.inl (6, [.ref 1, .ref 2, .int M_savedMany, .ref 3, .int M_isTaken, .ref 4, .int M_length, .int M_thrown, .int M_spelt, .int M_speltMany, .int M_place, .int M_kind, .int M_one, .int M_two, .int M_three, .int M_begins, .int M_done, .int M_stopBy, .long M_hash]), .inr (406, .inl M_s), .inr (2436, .inl M_saved), .inr (406, .inl M_snapshot), .inr (60, .inl M_text)] (.inl (some (.int res))) [.inl (6, [.ref 1, .ref 2, .int M_savedMany, .ref 3, .int M_isTaken, .ref 4, .int M_length, .int M_thrown, .int M_spelt, .int M_speltMany, .int M_place, .int M_kind, .int M_one, .int M_two, .int M_three, .int M_begins, .int M_done, .int M_stopBy, .long M_hash]), .inr (406, .inl M_s), .inr (2436, .inl M_saved), .inr (406, .inl M_snapshot), .inr (60, .inl M_text)] := by
  unfold s_X11_left at hf
  refine Ct.of (L := [some (.ref 0), some (.int a1)]) cal_X11_left (fent_pad (j := 0) rfl) (Nat.le_of_ble_eq_true rfl) ?_
  refine V.aload_n (i := 0) dX11_left_0 rfl rfl ?_
  refine V.iload_n (i := 1) dX11_left_1 rfl rfl ?_
  refine V.iconst (v := 0) dX11_left_2 rfl ?_
  obtain ⟨v1, hv1, hf⟩ := fbind hf
  refine V.callVn (pl := [0, 1, 2, 3, 4]) (σ' := [.inl (6, [.ref 1, .ref 2, .int M_savedMany, .ref 3, .int M_isTaken, .ref 4, .int M_length, .int M_thrown, .int M_spelt, .int M_speltMany, .int M_place, .int M_kind, .int M_one, .int M_two, .int M_three, .int M_begins, .int M_done, .int M_stopBy, .long M_hash]), .inr (406, .inl M_s), .inr (2436, .inl M_saved), .inr (406, .inl M_snapshot), .inr (60, .inl M_text)]) (st2 := [.int v1]) (cl2 := 0) (sl2 := 0) (ct_X11_of (a1 := a1) (a2 := 0) (M_savedMany := M_savedMany) (M_isTaken := M_isTaken) (M_length := M_length) (M_thrown := M_thrown) (M_spelt := M_spelt) (M_speltMany := M_speltMany) (M_place := M_place) (M_kind := M_kind) (M_one := M_one) (M_two := M_two) (M_three := M_three) (M_begins := M_begins) (M_done := M_done) (M_stopBy := M_stopBy) (M_hash := M_hash) (M_s := M_s) (M_saved := M_saved) (M_snapshot := M_snapshot) (M_text := M_text) hv1) dX11_left_3 w1123 ⟨w1125, w10⟩ cal_X11_of rfl ⟨⟨Nat.le_of_ble_eq_true rfl, Nat.le_of_ble_eq_true rfl⟩, Nat.le_of_ble_eq_true rfl, Nat.le_of_ble_eq_true rfl⟩ (Nat.le_of_ble_eq_true rfl) (Or.inl ⟨_, _, _, _, rfl, rfl⟩) rfl ⟨rfl, ⟨by decide, by decide⟩, rfl, (fr_cons (Or.inl (Nat.le_of_ble_eq_true rfl)) (fr_cons (Or.inl (Nat.le_of_ble_eq_true rfl)) (fr_cons (Or.inl (Nat.le_of_ble_eq_true rfl)) (fr_cons (Or.inl (Nat.le_of_ble_eq_true rfl)) (fr_nil))))), rfl⟩ fr_i rfl rfl rfl rfl ?_
  refine V.aload_n (i := 0) dX11_left_6 rfl rfl ?_
  refine V.iload_n (i := 1) dX11_left_7 rfl rfl ?_
  obtain ⟨v2, hv2, hf⟩ := fbind hf
  refine V.callVn (pl := [0, 1, 2, 3, 4]) (σ' := [.inl (6, [.ref 1, .ref 2, .int M_savedMany, .ref 3, .int M_isTaken, .ref 4, .int M_length, .int M_thrown, .int M_spelt, .int M_speltMany, .int M_place, .int M_kind, .int M_one, .int M_two, .int M_three, .int M_begins, .int M_done, .int M_stopBy, .long M_hash]), .inr (406, .inl M_s), .inr (2436, .inl M_saved), .inr (406, .inl M_snapshot), .inr (60, .inl M_text)]) (st2 := [.int v2, .int v1]) (cl2 := 0) (sl2 := 0) (ct_X11_cordOn (a1 := a1) (M_savedMany := M_savedMany) (M_isTaken := M_isTaken) (M_length := M_length) (M_thrown := M_thrown) (M_spelt := M_spelt) (M_speltMany := M_speltMany) (M_place := M_place) (M_kind := M_kind) (M_one := M_one) (M_two := M_two) (M_three := M_three) (M_begins := M_begins) (M_done := M_done) (M_stopBy := M_stopBy) (M_hash := M_hash) (M_s := M_s) (M_saved := M_saved) (M_snapshot := M_snapshot) (M_text := M_text) hv2) dX11_left_8 w1143 ⟨w1145, w12⟩ cal_X11_cordOn rfl ⟨⟨Nat.le_of_ble_eq_true rfl, Nat.le_of_ble_eq_true rfl⟩, Nat.le_of_ble_eq_true rfl, Nat.le_of_ble_eq_true rfl⟩ (Nat.le_of_ble_eq_true rfl) (Or.inl ⟨_, _, _, _, rfl, rfl⟩) rfl ⟨rfl, ⟨by decide, by decide⟩, rfl, (fr_cons (Or.inl (Nat.le_of_ble_eq_true rfl)) (fr_cons (Or.inl (Nat.le_of_ble_eq_true rfl)) (fr_cons (Or.inl (Nat.le_of_ble_eq_true rfl)) (fr_cons (Or.inl (Nat.le_of_ble_eq_true rfl)) (fr_nil))))), rfl⟩ fr_i rfl rfl rfl rfl ?_
  refine V.isub dX11_left_11 ?_
  obtain rfl := Option.some.inj hf
  exact V.iret dX11_left_12 rfl (Nat.le_of_ble_eq_true rfl) (Nat.le_of_ble_eq_true rfl) rfl
def k_X11_reason : fK := (yX11_reason, cX11_reason, 5, (some .int), [], (6, 128), (0, 0), (0, 0))
theorem cal_X11_reason : fCal k_X11_reason 3 := ⟨⟨wc1122, w73⟩, ⟨by decide +kernel, by decide +kernel⟩, by decide +kernel, by decide +kernel⟩
def s_X11_reason_L31 (p1 : Int32) (p2 : Int32) (p3 : Int32) (M_s : Nat → Int32) : Nat → Int32 → Option ((Int32) ⊕ (Int32))
  | 0, _ => none
  | n + 1, x4 => (s_X11_of p1 1 M_s).bind fun v4 => if (v4 ≤ x4 : Prop) then (some (.inr x4)) else ((s_X11_whereIs p1 x4).bind fun v5 => (s_X11_readsSo v5 p2 p3 M_s).bind fun v6 => if (v6 = 0 : Prop) then (s_X11_reason_L31 p1 p2 p3 M_s n (x4 + 1)) else (some (.inl 3)))
set_option maxHeartbeats 4000000 in
set_option maxRecDepth 100000 in
theorem v_X11_reason_L31 {out : fO} {σ' : List fE} {p1 : Int32} {p2 : Int32} {p3 : Int32} {M_savedMany : Int32} {M_isTaken : Int32} {M_length : Int32} {M_thrown : Int32} {M_spelt : Int32} {M_speltMany : Int32} {M_place : Int32} {M_kind : Int32} {M_one : Int32} {M_two : Int32} {M_three : Int32} {M_begins : Int32} {M_done : Int32} {M_stopBy : Int32} {M_hash : Int64} {M_s : Nat → Int32} {M_saved : Nat → Int32} {M_snapshot : Nat → Int32} {M_text : Nat → Int32} : ∀ (n : Nat) {x4 : Int32} {res : (Int32) ⊕ (Int32)} (hf : s_X11_reason_L31 p1 p2 p3 M_s n x4 = some res) (hr : ∀ r, res = .inl r → out = (.inl (some (.int r))) ∧ σ' = [.inl (6, [.ref 1, .ref 2, .int M_savedMany, .ref 3, .int M_isTaken, .ref 4, .int M_length, .int M_thrown, .int M_spelt, .int M_speltMany, .int M_place, .int M_kind, .int M_one, .int M_two, .int M_three, .int M_begins, .int M_done, .int M_stopBy, .long M_hash]), .inr (406, .inl M_s), .inr (2436, .inl M_saved), .inr (406, .inl M_snapshot), .inr (60, .inl M_text)]) (hx : ∀ e, res = .inr e → V (fXm 5 k_X11_reason out σ') (krm k_X11_reason) k_X11_reason 5 65 [some (.ref 0), some (.int p1), some (.int p2), some (.int p3), some (.int e)] [] [.inl (6, [.ref 1, .ref 2, .int M_savedMany, .ref 3, .int M_isTaken, .ref 4, .int M_length, .int M_thrown, .int M_spelt, .int M_speltMany, .int M_place, .int M_kind, .int M_one, .int M_two, .int M_three, .int M_begins, .int M_done, .int M_stopBy, .long M_hash]), .inr (406, .inl M_s), .inr (2436, .inl M_saved), .inr (406, .inl M_snapshot), .inr (60, .inl M_text)] 0 0), V (fXm 5 k_X11_reason out σ') (krm k_X11_reason) k_X11_reason 5 31 [some (.ref 0), some (.int p1), some (.int p2), some (.int p3), some (.int x4)] [] [.inl (6, [.ref 1, .ref 2, .int M_savedMany, .ref 3, .int M_isTaken, .ref 4, .int M_length, .int M_thrown, .int M_spelt, .int M_speltMany, .int M_place, .int M_kind, .int M_one, .int M_two, .int M_three, .int M_begins, .int M_done, .int M_stopBy, .long M_hash]), .inr (406, .inl M_s), .inr (2436, .inl M_saved), .inr (406, .inl M_snapshot), .inr (60, .inl M_text)] 0 0 := by
  intro n
  induction n with
  | zero =>
    intro x4 res hf hr hx
    rw [s_X11_reason_L31] at hf
    cases hf
  | succ n ih =>
    intro x4 res hf hr hx
    rw [s_X11_reason_L31] at hf
    refine V.iload (i := 4) dX11_reason_31 rfl ?_
    refine V.aload_n (i := 0) dX11_reason_33 rfl rfl ?_
    refine V.iload_n (i := 1) dX11_reason_34 rfl rfl ?_
    refine V.iconst (v := 1) dX11_reason_35 rfl ?_
    obtain ⟨v4, hv4, hf⟩ := fbind hf
    refine V.callVn (pl := [0, 1, 2, 3, 4]) (σ' := [.inl (6, [.ref 1, .ref 2, .int M_savedMany, .ref 3, .int M_isTaken, .ref 4, .int M_length, .int M_thrown, .int M_spelt, .int M_speltMany, .int M_place, .int M_kind, .int M_one, .int M_two, .int M_three, .int M_begins, .int M_done, .int M_stopBy, .long M_hash]), .inr (406, .inl M_s), .inr (2436, .inl M_saved), .inr (406, .inl M_snapshot), .inr (60, .inl M_text)]) (st2 := [.int v4, .int x4]) (cl2 := 0) (sl2 := 0) (ct_X11_of (a1 := p1) (a2 := 1) (M_savedMany := M_savedMany) (M_isTaken := M_isTaken) (M_length := M_length) (M_thrown := M_thrown) (M_spelt := M_spelt) (M_speltMany := M_speltMany) (M_place := M_place) (M_kind := M_kind) (M_one := M_one) (M_two := M_two) (M_three := M_three) (M_begins := M_begins) (M_done := M_done) (M_stopBy := M_stopBy) (M_hash := M_hash) (M_s := M_s) (M_saved := M_saved) (M_snapshot := M_snapshot) (M_text := M_text) hv4) dX11_reason_36 w1123 ⟨w1125, w10⟩ cal_X11_of rfl ⟨⟨Nat.le_of_ble_eq_true rfl, Nat.le_of_ble_eq_true rfl⟩, Nat.le_of_ble_eq_true rfl, Nat.le_of_ble_eq_true rfl⟩ (Nat.le_of_ble_eq_true rfl) (Or.inl ⟨_, _, _, _, rfl, rfl⟩) rfl ⟨rfl, ⟨by decide, by decide⟩, rfl, (fr_cons (Or.inl (Nat.le_of_ble_eq_true rfl)) (fr_cons (Or.inl (Nat.le_of_ble_eq_true rfl)) (fr_cons (Or.inl (Nat.le_of_ble_eq_true rfl)) (fr_cons (Or.inl (Nat.le_of_ble_eq_true rfl)) (fr_nil))))), rfl⟩ fr_i rfl rfl rfl rfl ?_
    refine V.icmp_ge (tgt := 65) dX11_reason_39 (by decide) (fun h => ?_) (fun h => ?_)
    · have hf := fif_t h hf
      obtain rfl := Option.some.inj hf
      exact hx _ rfl
    · have hf := fif_f h hf
      refine V.aload_n (i := 0) dX11_reason_42 rfl rfl ?_
      refine V.iload_n (i := 1) dX11_reason_43 rfl rfl ?_
      refine V.iload (i := 4) dX11_reason_44 rfl ?_
      obtain ⟨v5, hv5, hf⟩ := fbind hf
      refine V.callSn (pl := []) (σ' := [.inl (6, [.ref 1, .ref 2, .int M_savedMany, .ref 3, .int M_isTaken, .ref 4, .int M_length, .int M_thrown, .int M_spelt, .int M_speltMany, .int M_place, .int M_kind, .int M_one, .int M_two, .int M_three, .int M_begins, .int M_done, .int M_stopBy, .long M_hash]), .inr (406, .inl M_s), .inr (2436, .inl M_saved), .inr (406, .inl M_snapshot), .inr (60, .inl M_text)]) (st2 := [.int v5, .ref 0]) (cl2 := 0) (sl2 := 0) (ct_X11_whereIs (a0 := p1) (a1 := x4) hv5) dX11_reason_46 w1147 w1148 cal_X11_whereIs ⟨⟨Nat.le_of_ble_eq_true rfl, Nat.le_of_ble_eq_true rfl⟩, Nat.le_of_ble_eq_true rfl, Nat.le_of_ble_eq_true rfl⟩ (Nat.le_of_ble_eq_true rfl) rfl ⟨rfl, ⟨by decide, by decide⟩, rfl, (fr_nil), rfl⟩ fr_i rfl rfl rfl rfl ?_
      refine V.iload_n (i := 2) dX11_reason_49 rfl rfl ?_
      refine V.iload_n (i := 3) dX11_reason_50 rfl rfl ?_
      obtain ⟨v6, hv6, hf⟩ := fbind hf
      refine V.callVn (pl := [0, 1, 2, 3, 4]) (σ' := [.inl (6, [.ref 1, .ref 2, .int M_savedMany, .ref 3, .int M_isTaken, .ref 4, .int M_length, .int M_thrown, .int M_spelt, .int M_speltMany, .int M_place, .int M_kind, .int M_one, .int M_two, .int M_three, .int M_begins, .int M_done, .int M_stopBy, .long M_hash]), .inr (406, .inl M_s), .inr (2436, .inl M_saved), .inr (406, .inl M_snapshot), .inr (60, .inl M_text)]) (st2 := [.int v6]) (cl2 := 0) (sl2 := 0) (ct_X11_readsSo (a1 := v5) (a2 := p2) (a3 := p3) (M_savedMany := M_savedMany) (M_isTaken := M_isTaken) (M_length := M_length) (M_thrown := M_thrown) (M_spelt := M_spelt) (M_speltMany := M_speltMany) (M_place := M_place) (M_kind := M_kind) (M_one := M_one) (M_two := M_two) (M_three := M_three) (M_begins := M_begins) (M_done := M_done) (M_stopBy := M_stopBy) (M_hash := M_hash) (M_s := M_s) (M_saved := M_saved) (M_snapshot := M_snapshot) (M_text := M_text) hv6) dX11_reason_51 w1158 ⟨w1160, w15⟩ cal_X11_readsSo rfl ⟨⟨Nat.le_of_ble_eq_true rfl, Nat.le_of_ble_eq_true rfl⟩, Nat.le_of_ble_eq_true rfl, Nat.le_of_ble_eq_true rfl⟩ (Nat.le_of_ble_eq_true rfl) (Or.inl ⟨_, _, _, _, rfl, rfl⟩) rfl ⟨rfl, ⟨by decide, by decide⟩, rfl, (fr_cons (Or.inl (Nat.le_of_ble_eq_true rfl)) (fr_cons (Or.inl (Nat.le_of_ble_eq_true rfl)) (fr_cons (Or.inl (Nat.le_of_ble_eq_true rfl)) (fr_cons (Or.inl (Nat.le_of_ble_eq_true rfl)) (fr_nil))))), rfl⟩ fr_i rfl rfl rfl rfl ?_
      refine V.if_eq (tgt := 59) dX11_reason_54 (by decide) (fun h => ?_) (fun h => ?_)
      · have hf := fif_t h hf
        refine V.iinc (i := 4) (v := (x4 + 1)) (L' := [some (.ref 0), some (.int p1), some (.int p2), some (.int p3), some (.int (x4 + 1))]) dX11_reason_59 rfl rfl (Nat.le_of_ble_eq_true rfl) rfl rfl ?_
        refine V.goto (tgt := 31) dX11_reason_62 (by decide) ?_
        exact ih hf hr hx
      · have hf := fif_f h hf
        refine V.iconst (v := 3) dX11_reason_57 rfl ?_
        obtain rfl := Option.some.inj hf
        obtain ⟨e1, e2⟩ := hr _ rfl
        subst e1; subst e2
        exact V.iret dX11_reason_58 rfl (Nat.le_of_ble_eq_true rfl) (Nat.le_of_ble_eq_true rfl) rfl
def s_X11_reason (a1 : Int32) (a2 : Int32) (a3 : Int32) (M_s : Nat → Int32) : Option (Int32) := (s_X11_of a1 1 M_s).bind fun v1 => if (v1 = 6 : Prop) then (some 1) else ((s_X11_cordOfLetters a2 a3).bind fun v2 => (s_X11_left a1 M_s).bind fun v3 => if (v2 ≤ v3 : Prop) then ((s_X11_reason_L31 a1 a2 a3 M_s gF 0).bind fun r7 => fsum r7 (fun r9 => some r9) (fun e8 => some 0)) else (some 2))
set_option maxHeartbeats 4000000 in
set_option maxRecDepth 100000 in
theorem ct_X11_reason {a1 : Int32} {a2 : Int32} {a3 : Int32} {M_savedMany : Int32} {M_isTaken : Int32} {M_length : Int32} {M_thrown : Int32} {M_spelt : Int32} {M_speltMany : Int32} {M_place : Int32} {M_kind : Int32} {M_one : Int32} {M_two : Int32} {M_three : Int32} {M_begins : Int32} {M_done : Int32} {M_stopBy : Int32} {M_hash : Int64} {M_s : Nat → Int32} {M_saved : Nat → Int32} {M_snapshot : Nat → Int32} {M_text : Nat → Int32} {res : Int32} (hf : s_X11_reason a1 a2 a3 M_s = some res) : Ct k_X11_reason [.ref 0, .int a1, .int a2, .int a3] [.inl (6, [.ref 1, .ref 2, .int M_savedMany, .ref 3, .int M_isTaken, .ref 4, .int M_length, .int M_thrown, .int M_spelt, .int M_speltMany, .int M_place, .int M_kind, .int M_one, .int M_two, .int M_three, .int M_begins, .int M_done, .int M_stopBy, .long M_hash]), .inr (406, .inl M_s), .inr (2436, .inl M_saved), .inr (406, .inl M_snapshot), .inr (60, .inl M_text)] (.inl (some (.int res))) [.inl (6, [.ref 1, .ref 2, .int M_savedMany, .ref 3, .int M_isTaken, .ref 4, .int M_length, .int M_thrown, .int M_spelt, .int M_speltMany, .int M_place, .int M_kind, .int M_one, .int M_two, .int M_three, .int M_begins, .int M_done, .int M_stopBy, .long M_hash]), .inr (406, .inl M_s), .inr (2436, .inl M_saved), .inr (406, .inl M_snapshot), .inr (60, .inl M_text)] := by
  unfold s_X11_reason at hf
  refine Ct.of (L := [some (.ref 0), some (.int a1), some (.int a2), some (.int a3), none]) cal_X11_reason (fent_pad (j := 1) rfl) (Nat.le_of_ble_eq_true rfl) ?_
  refine V.aload_n (i := 0) dX11_reason_0 rfl rfl ?_
  refine V.iload_n (i := 1) dX11_reason_1 rfl rfl ?_
  refine V.iconst (v := 1) dX11_reason_2 rfl ?_
  obtain ⟨v1, hv1, hf⟩ := fbind hf
  refine V.callVn (pl := [0, 1, 2, 3, 4]) (σ' := [.inl (6, [.ref 1, .ref 2, .int M_savedMany, .ref 3, .int M_isTaken, .ref 4, .int M_length, .int M_thrown, .int M_spelt, .int M_speltMany, .int M_place, .int M_kind, .int M_one, .int M_two, .int M_three, .int M_begins, .int M_done, .int M_stopBy, .long M_hash]), .inr (406, .inl M_s), .inr (2436, .inl M_saved), .inr (406, .inl M_snapshot), .inr (60, .inl M_text)]) (st2 := [.int v1]) (cl2 := 0) (sl2 := 0) (ct_X11_of (a1 := a1) (a2 := 1) (M_savedMany := M_savedMany) (M_isTaken := M_isTaken) (M_length := M_length) (M_thrown := M_thrown) (M_spelt := M_spelt) (M_speltMany := M_speltMany) (M_place := M_place) (M_kind := M_kind) (M_one := M_one) (M_two := M_two) (M_three := M_three) (M_begins := M_begins) (M_done := M_done) (M_stopBy := M_stopBy) (M_hash := M_hash) (M_s := M_s) (M_saved := M_saved) (M_snapshot := M_snapshot) (M_text := M_text) hv1) dX11_reason_3 w1123 ⟨w1125, w10⟩ cal_X11_of rfl ⟨⟨Nat.le_of_ble_eq_true rfl, Nat.le_of_ble_eq_true rfl⟩, Nat.le_of_ble_eq_true rfl, Nat.le_of_ble_eq_true rfl⟩ (Nat.le_of_ble_eq_true rfl) (Or.inl ⟨_, _, _, _, rfl, rfl⟩) rfl ⟨rfl, ⟨by decide, by decide⟩, rfl, (fr_cons (Or.inl (Nat.le_of_ble_eq_true rfl)) (fr_cons (Or.inl (Nat.le_of_ble_eq_true rfl)) (fr_cons (Or.inl (Nat.le_of_ble_eq_true rfl)) (fr_cons (Or.inl (Nat.le_of_ble_eq_true rfl)) (fr_nil))))), rfl⟩ fr_i rfl rfl rfl rfl ?_
  refine V.bipush (v := 6) dX11_reason_6 rfl ?_
  refine V.icmp_ne (tgt := 13) dX11_reason_8 (by decide) (fun h => ?_) (fun h => ?_)
  · have hf := fif_f h hf
    refine V.iload_n (i := 2) dX11_reason_13 rfl rfl ?_
    refine V.iload_n (i := 3) dX11_reason_14 rfl rfl ?_
    obtain ⟨v2, hv2, hf⟩ := fbind hf
    refine V.callSn (pl := []) (σ' := [.inl (6, [.ref 1, .ref 2, .int M_savedMany, .ref 3, .int M_isTaken, .ref 4, .int M_length, .int M_thrown, .int M_spelt, .int M_speltMany, .int M_place, .int M_kind, .int M_one, .int M_two, .int M_three, .int M_begins, .int M_done, .int M_stopBy, .long M_hash]), .inr (406, .inl M_s), .inr (2436, .inl M_saved), .inr (406, .inl M_snapshot), .inr (60, .inl M_text)]) (st2 := [.int v2]) (cl2 := 0) (sl2 := 0) (ct_X11_cordOfLetters (a0 := a2) (a1 := a3) hv2) dX11_reason_15 w1127 w1128 cal_X11_cordOfLetters ⟨⟨Nat.le_of_ble_eq_true rfl, Nat.le_of_ble_eq_true rfl⟩, Nat.le_of_ble_eq_true rfl, Nat.le_of_ble_eq_true rfl⟩ (Nat.le_of_ble_eq_true rfl) rfl ⟨rfl, ⟨by decide, by decide⟩, rfl, (fr_nil), rfl⟩ fr_i rfl rfl rfl rfl ?_
    refine V.aload_n (i := 0) dX11_reason_18 rfl rfl ?_
    refine V.iload_n (i := 1) dX11_reason_19 rfl rfl ?_
    obtain ⟨v3, hv3, hf⟩ := fbind hf
    refine V.callVn (pl := [0, 1, 2, 3, 4]) (σ' := [.inl (6, [.ref 1, .ref 2, .int M_savedMany, .ref 3, .int M_isTaken, .ref 4, .int M_length, .int M_thrown, .int M_spelt, .int M_speltMany, .int M_place, .int M_kind, .int M_one, .int M_two, .int M_three, .int M_begins, .int M_done, .int M_stopBy, .long M_hash]), .inr (406, .inl M_s), .inr (2436, .inl M_saved), .inr (406, .inl M_snapshot), .inr (60, .inl M_text)]) (st2 := [.int v3, .int v2]) (cl2 := 0) (sl2 := 0) (ct_X11_left (a1 := a1) (M_savedMany := M_savedMany) (M_isTaken := M_isTaken) (M_length := M_length) (M_thrown := M_thrown) (M_spelt := M_spelt) (M_speltMany := M_speltMany) (M_place := M_place) (M_kind := M_kind) (M_one := M_one) (M_two := M_two) (M_three := M_three) (M_begins := M_begins) (M_done := M_done) (M_stopBy := M_stopBy) (M_hash := M_hash) (M_s := M_s) (M_saved := M_saved) (M_snapshot := M_snapshot) (M_text := M_text) hv3) dX11_reason_20 w1139 ⟨w1141, w11⟩ cal_X11_left rfl ⟨⟨Nat.le_of_ble_eq_true rfl, Nat.le_of_ble_eq_true rfl⟩, Nat.le_of_ble_eq_true rfl, Nat.le_of_ble_eq_true rfl⟩ (Nat.le_of_ble_eq_true rfl) (Or.inl ⟨_, _, _, _, rfl, rfl⟩) rfl ⟨rfl, ⟨by decide, by decide⟩, rfl, (fr_cons (Or.inl (Nat.le_of_ble_eq_true rfl)) (fr_cons (Or.inl (Nat.le_of_ble_eq_true rfl)) (fr_cons (Or.inl (Nat.le_of_ble_eq_true rfl)) (fr_cons (Or.inl (Nat.le_of_ble_eq_true rfl)) (fr_nil))))), rfl⟩ fr_i rfl rfl rfl rfl ?_
    refine V.icmp_le (tgt := 28) dX11_reason_23 (by decide) (fun h => ?_) (fun h => ?_)
    · have hf := fif_t h hf
      refine V.iconst (v := 0) dX11_reason_28 rfl ?_
      refine V.istore (i := 4) (L' := [some (.ref 0), some (.int a1), some (.int a2), some (.int a3), some (.int 0)]) dX11_reason_29 (Nat.le_of_ble_eq_true rfl) rfl rfl ?_
      obtain ⟨r7, hr7, hf⟩ := fbind hf
      rcases r7 with r9 | e8
      · obtain rfl := Option.some.inj (show some _ = some res from hf)
        exact v_X11_reason_L31 gF hr7 (fun _ h => by cases h; exact ⟨rfl, rfl⟩) (fun _ h => by cases h)
      · replace hf : _ = some res := hf
        dsimp only [fsum] at hf
        refine v_X11_reason_L31 gF hr7 (fun _ h => by cases h) (fun _ h => ?_)
        cases h
        refine V.iconst (v := 0) dX11_reason_65 rfl ?_
        obtain rfl := Option.some.inj hf
        exact V.iret dX11_reason_66 rfl (Nat.le_of_ble_eq_true rfl) (Nat.le_of_ble_eq_true rfl) rfl
    · have hf := fif_f h hf
      refine V.iconst (v := 2) dX11_reason_26 rfl ?_
      obtain rfl := Option.some.inj hf
      exact V.iret dX11_reason_27 rfl (Nat.le_of_ble_eq_true rfl) (Nat.le_of_ble_eq_true rfl) rfl
  · have hf := fif_t h hf
    refine V.iconst (v := 1) dX11_reason_11 rfl ?_
    obtain rfl := Option.some.inj hf
    exact V.iret dX11_reason_12 rfl (Nat.le_of_ble_eq_true rfl) (Nat.le_of_ble_eq_true rfl) rfl
def k_X11_doTie : fK := (yX11_doTie, cX11_doTie, 6, (some .int), [], (4, 84), (0, 0), (0, 0))
theorem cal_X11_doTie : fCal k_X11_doTie 3 := ⟨⟨wc1195, w73⟩, ⟨by decide +kernel, by decide +kernel⟩, by decide +kernel, by decide +kernel⟩
def s_X11_doTie_L53 (p4 : Int32) : Nat → Int32 → (Nat → Int32) → Option (Int32 × (Nat → Int32))
  | 0, _, _ => none
  | n + 1, x5, M_s => if (8 ≤ x5 : Prop) then (some (x5, M_s)) else (fst 406 M_s ((p4 + 3) + x5) 0 fun s8 => s_X11_doTie_L53 p4 n (x5 + 1) s8)
set_option maxHeartbeats 4000000 in
set_option maxRecDepth 100000 in
theorem v_X11_doTie_L53 {out : fO} {σ' : List fE} {p1 : Int32} {p2 : Int32} {p3 : Int32} {p4 : Int32} {M_savedMany : Int32} {M_isTaken : Int32} {M_length : Int32} {M_thrown : Int32} {M_spelt : Int32} {M_speltMany : Int32} {M_place : Int32} {M_kind : Int32} {M_one : Int32} {M_two : Int32} {M_three : Int32} {M_begins : Int32} {M_done : Int32} {M_stopBy : Int32} {M_hash : Int64} {M_saved : Nat → Int32} {M_snapshot : Nat → Int32} {M_text : Nat → Int32} : ∀ (n : Nat) {x5 : Int32} {M_s : (Nat → Int32)} {res : Int32 × (Nat → Int32)} (hf : s_X11_doTie_L53 p4 n x5 M_s = some res) (hx : V (fXm 5 k_X11_doTie out σ') (krm k_X11_doTie) k_X11_doTie 5 79 [some (.ref 0), some (.int p1), some (.int p2), some (.int p3), some (.int p4), some (.int res.1)] [] [.inl (6, [.ref 1, .ref 2, .int M_savedMany, .ref 3, .int M_isTaken, .ref 4, .int M_length, .int M_thrown, .int M_spelt, .int M_speltMany, .int M_place, .int M_kind, .int M_one, .int M_two, .int M_three, .int M_begins, .int M_done, .int M_stopBy, .long M_hash]), .inr (406, .inl res.2), .inr (2436, .inl M_saved), .inr (406, .inl M_snapshot), .inr (60, .inl M_text)] 0 0), V (fXm 5 k_X11_doTie out σ') (krm k_X11_doTie) k_X11_doTie 5 53 [some (.ref 0), some (.int p1), some (.int p2), some (.int p3), some (.int p4), some (.int x5)] [] [.inl (6, [.ref 1, .ref 2, .int M_savedMany, .ref 3, .int M_isTaken, .ref 4, .int M_length, .int M_thrown, .int M_spelt, .int M_speltMany, .int M_place, .int M_kind, .int M_one, .int M_two, .int M_three, .int M_begins, .int M_done, .int M_stopBy, .long M_hash]), .inr (406, .inl M_s), .inr (2436, .inl M_saved), .inr (406, .inl M_snapshot), .inr (60, .inl M_text)] 0 0 := by
  intro n
  induction n with
  | zero =>
    intro x5 M_s res hf hx
    rw [s_X11_doTie_L53] at hf
    cases hf
  | succ n ih =>
    intro x5 M_s res hf hx
    rw [s_X11_doTie_L53] at hf
    refine V.iload (i := 5) dX11_doTie_53 rfl ?_
    refine V.bipush (v := 8) dX11_doTie_55 rfl ?_
    refine V.icmp_ge (tgt := 79) dX11_doTie_57 (by decide) (fun h => ?_) (fun h => ?_)
    · have hf := fif_t h hf
      obtain rfl := Option.some.inj hf
      exact hx
    · have hf := fif_f h hf
      refine V.aload_n (i := 0) dX11_doTie_60 rfl rfl ?_
      refine V.getfield (kf := 0) (v := .ref 1) fl_RX11 dX11_doTie_61 w1043 (Nat.le_of_ble_eq_true rfl) rfl rfl ?_
      refine V.iload (i := 4) dX11_doTie_64 rfl ?_
      refine V.iconst (v := 3) dX11_doTie_66 rfl ?_
      refine V.iadd dX11_doTie_67 ?_
      refine V.iload (i := 5) dX11_doTie_68 rfl ?_
      refine V.iadd dX11_doTie_70 ?_
      refine V.iconst (v := 0) dX11_doTie_71 rfl ?_
      obtain ⟨hi, s8, es8, hf⟩ := fst_e hf
      refine V.fst (σ' := [.inl (6, [.ref 1, .ref 2, .int M_savedMany, .ref 3, .int M_isTaken, .ref 4, .int M_length, .int M_thrown, .int M_spelt, .int M_speltMany, .int M_place, .int M_kind, .int M_one, .int M_two, .int M_three, .int M_begins, .int M_done, .int M_stopBy, .long M_hash]), .inr (406, .inl s8), .inr (2436, .inl M_saved), .inr (406, .inl M_snapshot), .inr (60, .inl M_text)]) dX11_doTie_72 rfl hi es8 rfl ?_
      refine V.iinc (i := 5) (v := (x5 + 1)) (L' := [some (.ref 0), some (.int p1), some (.int p2), some (.int p3), some (.int p4), some (.int (x5 + 1))]) dX11_doTie_73 rfl rfl (Nat.le_of_ble_eq_true rfl) rfl rfl ?_
      refine V.goto (tgt := 53) dX11_doTie_76 (by decide) ?_
      exact ih hf hx
def s_X11_doTie (a1 : Int32) (a2 : Int32) (a3 : Int32) (M_s : Nat → Int32) : Option (Int32 × (Nat → Int32)) := (s_X11_of a1 1 M_s).bind fun v1 => (s_X11_whereIs a1 v1).bind fun v2 => fst 406 M_s (v2 + 0) a3 fun s3 => (s_X11_whole a2 a3).bind fun v4 => fst 406 s3 (v2 + 1) v4 fun s5 => (s_X11_whole a2 a3).bind fun v6 => fst 406 s5 (v2 + 2) v6 fun s7 => (s_X11_doTie_L53 v2 gF 0 s7).bind fun r9 => fld 406 r9.2 2 fun v10 => fst 406 r9.2 2 (v10 + a3) fun s11 => fld 406 s11 3 fun v12 => (s_X11_cordOf v2 s11).bind fun v13 => fst 406 s11 3 (v12 + v13) fun s14 => (s_X11_add a1 1 1 s14).bind fun v15 => (s_X11_of a1 1 v15).bind fun v16 => some ((v16 - 1), v15)
set_option maxHeartbeats 4000000 in
set_option maxRecDepth 100000 in
theorem ct_X11_doTie {a1 : Int32} {a2 : Int32} {a3 : Int32} {M_savedMany : Int32} {M_isTaken : Int32} {M_length : Int32} {M_thrown : Int32} {M_spelt : Int32} {M_speltMany : Int32} {M_place : Int32} {M_kind : Int32} {M_one : Int32} {M_two : Int32} {M_three : Int32} {M_begins : Int32} {M_done : Int32} {M_stopBy : Int32} {M_hash : Int64} {M_s : Nat → Int32} {M_saved : Nat → Int32} {M_snapshot : Nat → Int32} {M_text : Nat → Int32} {res : Int32 × (Nat → Int32)} (hf : s_X11_doTie a1 a2 a3 M_s = some res) : Ct k_X11_doTie [.ref 0, .int a1, .int a2, .int a3] [.inl (6, [.ref 1, .ref 2, .int M_savedMany, .ref 3, .int M_isTaken, .ref 4, .int M_length, .int M_thrown, .int M_spelt, .int M_speltMany, .int M_place, .int M_kind, .int M_one, .int M_two, .int M_three, .int M_begins, .int M_done, .int M_stopBy, .long M_hash]), .inr (406, .inl M_s), .inr (2436, .inl M_saved), .inr (406, .inl M_snapshot), .inr (60, .inl M_text)] (.inl (some (.int res.1))) [.inl (6, [.ref 1, .ref 2, .int M_savedMany, .ref 3, .int M_isTaken, .ref 4, .int M_length, .int M_thrown, .int M_spelt, .int M_speltMany, .int M_place, .int M_kind, .int M_one, .int M_two, .int M_three, .int M_begins, .int M_done, .int M_stopBy, .long M_hash]), .inr (406, .inl res.2), .inr (2436, .inl M_saved), .inr (406, .inl M_snapshot), .inr (60, .inl M_text)] := by
  unfold s_X11_doTie at hf
  refine Ct.of (L := [some (.ref 0), some (.int a1), some (.int a2), some (.int a3), none, none]) cal_X11_doTie (fent_pad (j := 2) rfl) (Nat.le_of_ble_eq_true rfl) ?_
  refine V.iload_n (i := 1) dX11_doTie_0 rfl rfl ?_
  refine V.aload_n (i := 0) dX11_doTie_1 rfl rfl ?_
  refine V.iload_n (i := 1) dX11_doTie_2 rfl rfl ?_
  refine V.iconst (v := 1) dX11_doTie_3 rfl ?_
  obtain ⟨v1, hv1, hf⟩ := fbind hf
  refine V.callVn (pl := [0, 1, 2, 3, 4]) (σ' := [.inl (6, [.ref 1, .ref 2, .int M_savedMany, .ref 3, .int M_isTaken, .ref 4, .int M_length, .int M_thrown, .int M_spelt, .int M_speltMany, .int M_place, .int M_kind, .int M_one, .int M_two, .int M_three, .int M_begins, .int M_done, .int M_stopBy, .long M_hash]), .inr (406, .inl M_s), .inr (2436, .inl M_saved), .inr (406, .inl M_snapshot), .inr (60, .inl M_text)]) (st2 := [.int v1, .int a1]) (cl2 := 0) (sl2 := 0) (ct_X11_of (a1 := a1) (a2 := 1) (M_savedMany := M_savedMany) (M_isTaken := M_isTaken) (M_length := M_length) (M_thrown := M_thrown) (M_spelt := M_spelt) (M_speltMany := M_speltMany) (M_place := M_place) (M_kind := M_kind) (M_one := M_one) (M_two := M_two) (M_three := M_three) (M_begins := M_begins) (M_done := M_done) (M_stopBy := M_stopBy) (M_hash := M_hash) (M_s := M_s) (M_saved := M_saved) (M_snapshot := M_snapshot) (M_text := M_text) hv1) dX11_doTie_4 w1123 ⟨w1125, w10⟩ cal_X11_of rfl ⟨⟨Nat.le_of_ble_eq_true rfl, Nat.le_of_ble_eq_true rfl⟩, Nat.le_of_ble_eq_true rfl, Nat.le_of_ble_eq_true rfl⟩ (Nat.le_of_ble_eq_true rfl) (Or.inl ⟨_, _, _, _, rfl, rfl⟩) rfl ⟨rfl, ⟨by decide, by decide⟩, rfl, (fr_cons (Or.inl (Nat.le_of_ble_eq_true rfl)) (fr_cons (Or.inl (Nat.le_of_ble_eq_true rfl)) (fr_cons (Or.inl (Nat.le_of_ble_eq_true rfl)) (fr_cons (Or.inl (Nat.le_of_ble_eq_true rfl)) (fr_nil))))), rfl⟩ fr_i rfl rfl rfl rfl ?_
  obtain ⟨v2, hv2, hf⟩ := fbind hf
  refine V.callSn (pl := []) (σ' := [.inl (6, [.ref 1, .ref 2, .int M_savedMany, .ref 3, .int M_isTaken, .ref 4, .int M_length, .int M_thrown, .int M_spelt, .int M_speltMany, .int M_place, .int M_kind, .int M_one, .int M_two, .int M_three, .int M_begins, .int M_done, .int M_stopBy, .long M_hash]), .inr (406, .inl M_s), .inr (2436, .inl M_saved), .inr (406, .inl M_snapshot), .inr (60, .inl M_text)]) (st2 := [.int v2]) (cl2 := 0) (sl2 := 0) (ct_X11_whereIs (a0 := a1) (a1 := v1) hv2) dX11_doTie_7 w1147 w1148 cal_X11_whereIs ⟨⟨Nat.le_of_ble_eq_true rfl, Nat.le_of_ble_eq_true rfl⟩, Nat.le_of_ble_eq_true rfl, Nat.le_of_ble_eq_true rfl⟩ (Nat.le_of_ble_eq_true rfl) rfl ⟨rfl, ⟨by decide, by decide⟩, rfl, (fr_nil), rfl⟩ fr_i rfl rfl rfl rfl ?_
  refine V.istore (i := 4) (L' := [some (.ref 0), some (.int a1), some (.int a2), some (.int a3), some (.int v2), none]) dX11_doTie_10 (Nat.le_of_ble_eq_true rfl) rfl rfl ?_
  refine V.aload_n (i := 0) dX11_doTie_12 rfl rfl ?_
  refine V.getfield (kf := 0) (v := .ref 1) fl_RX11 dX11_doTie_13 w1043 (Nat.le_of_ble_eq_true rfl) rfl rfl ?_
  refine V.iload (i := 4) dX11_doTie_16 rfl ?_
  refine V.iconst (v := 0) dX11_doTie_18 rfl ?_
  refine V.iadd dX11_doTie_19 ?_
  refine V.iload_n (i := 3) dX11_doTie_20 rfl rfl ?_
  obtain ⟨hi, s3, es3, hf⟩ := fst_e hf
  refine V.fst (σ' := [.inl (6, [.ref 1, .ref 2, .int M_savedMany, .ref 3, .int M_isTaken, .ref 4, .int M_length, .int M_thrown, .int M_spelt, .int M_speltMany, .int M_place, .int M_kind, .int M_one, .int M_two, .int M_three, .int M_begins, .int M_done, .int M_stopBy, .long M_hash]), .inr (406, .inl s3), .inr (2436, .inl M_saved), .inr (406, .inl M_snapshot), .inr (60, .inl M_text)]) dX11_doTie_21 rfl hi es3 rfl ?_
  refine V.aload_n (i := 0) dX11_doTie_22 rfl rfl ?_
  refine V.getfield (kf := 0) (v := .ref 1) fl_RX11 dX11_doTie_23 w1043 (Nat.le_of_ble_eq_true rfl) rfl rfl ?_
  refine V.iload (i := 4) dX11_doTie_26 rfl ?_
  refine V.iconst (v := 1) dX11_doTie_28 rfl ?_
  refine V.iadd dX11_doTie_29 ?_
  refine V.iload_n (i := 2) dX11_doTie_30 rfl rfl ?_
  refine V.iload_n (i := 3) dX11_doTie_31 rfl rfl ?_
  obtain ⟨v4, hv4, hf⟩ := fbind hf
  refine V.callSn (pl := []) (σ' := [.inl (6, [.ref 1, .ref 2, .int M_savedMany, .ref 3, .int M_isTaken, .ref 4, .int M_length, .int M_thrown, .int M_spelt, .int M_speltMany, .int M_place, .int M_kind, .int M_one, .int M_two, .int M_three, .int M_begins, .int M_done, .int M_stopBy, .long M_hash]), .inr (406, .inl s3), .inr (2436, .inl M_saved), .inr (406, .inl M_snapshot), .inr (60, .inl M_text)]) (st2 := [.int v4, .int (v2 + 1), .ref 1]) (cl2 := 0) (sl2 := 0) (ct_X11_whole (a0 := a2) (a1 := a3) hv4) dX11_doTie_32 w1178 w1179 cal_X11_whole ⟨⟨Nat.le_of_ble_eq_true rfl, Nat.le_of_ble_eq_true rfl⟩, Nat.le_of_ble_eq_true rfl, Nat.le_of_ble_eq_true rfl⟩ (Nat.le_of_ble_eq_true rfl) rfl ⟨rfl, ⟨by decide, by decide⟩, rfl, (fr_nil), rfl⟩ fr_i rfl rfl rfl rfl ?_
  obtain ⟨hi, s5, es5, hf⟩ := fst_e hf
  refine V.fst (σ' := [.inl (6, [.ref 1, .ref 2, .int M_savedMany, .ref 3, .int M_isTaken, .ref 4, .int M_length, .int M_thrown, .int M_spelt, .int M_speltMany, .int M_place, .int M_kind, .int M_one, .int M_two, .int M_three, .int M_begins, .int M_done, .int M_stopBy, .long M_hash]), .inr (406, .inl s5), .inr (2436, .inl M_saved), .inr (406, .inl M_snapshot), .inr (60, .inl M_text)]) dX11_doTie_35 rfl hi es5 rfl ?_
  refine V.aload_n (i := 0) dX11_doTie_36 rfl rfl ?_
  refine V.getfield (kf := 0) (v := .ref 1) fl_RX11 dX11_doTie_37 w1043 (Nat.le_of_ble_eq_true rfl) rfl rfl ?_
  refine V.iload (i := 4) dX11_doTie_40 rfl ?_
  refine V.iconst (v := 2) dX11_doTie_42 rfl ?_
  refine V.iadd dX11_doTie_43 ?_
  refine V.iload_n (i := 2) dX11_doTie_44 rfl rfl ?_
  refine V.iload_n (i := 3) dX11_doTie_45 rfl rfl ?_
  obtain ⟨v6, hv6, hf⟩ := fbind hf
  refine V.callSn (pl := []) (σ' := [.inl (6, [.ref 1, .ref 2, .int M_savedMany, .ref 3, .int M_isTaken, .ref 4, .int M_length, .int M_thrown, .int M_spelt, .int M_speltMany, .int M_place, .int M_kind, .int M_one, .int M_two, .int M_three, .int M_begins, .int M_done, .int M_stopBy, .long M_hash]), .inr (406, .inl s5), .inr (2436, .inl M_saved), .inr (406, .inl M_snapshot), .inr (60, .inl M_text)]) (st2 := [.int v6, .int (v2 + 2), .ref 1]) (cl2 := 0) (sl2 := 0) (ct_X11_whole (a0 := a2) (a1 := a3) hv6) dX11_doTie_46 w1178 w1179 cal_X11_whole ⟨⟨Nat.le_of_ble_eq_true rfl, Nat.le_of_ble_eq_true rfl⟩, Nat.le_of_ble_eq_true rfl, Nat.le_of_ble_eq_true rfl⟩ (Nat.le_of_ble_eq_true rfl) rfl ⟨rfl, ⟨by decide, by decide⟩, rfl, (fr_nil), rfl⟩ fr_i rfl rfl rfl rfl ?_
  obtain ⟨hi, s7, es7, hf⟩ := fst_e hf
  refine V.fst (σ' := [.inl (6, [.ref 1, .ref 2, .int M_savedMany, .ref 3, .int M_isTaken, .ref 4, .int M_length, .int M_thrown, .int M_spelt, .int M_speltMany, .int M_place, .int M_kind, .int M_one, .int M_two, .int M_three, .int M_begins, .int M_done, .int M_stopBy, .long M_hash]), .inr (406, .inl s7), .inr (2436, .inl M_saved), .inr (406, .inl M_snapshot), .inr (60, .inl M_text)]) dX11_doTie_49 rfl hi es7 rfl ?_
  refine V.iconst (v := 0) dX11_doTie_50 rfl ?_
  refine V.istore (i := 5) (L' := [some (.ref 0), some (.int a1), some (.int a2), some (.int a3), some (.int v2), some (.int 0)]) dX11_doTie_51 (Nat.le_of_ble_eq_true rfl) rfl rfl ?_
  obtain ⟨r9, hr9, hf⟩ := fbind hf
  refine v_X11_doTie_L53 gF hr9 ?_
  refine V.aload_n (i := 0) dX11_doTie_79 rfl rfl ?_
  refine V.getfield (kf := 0) (v := .ref 1) fl_RX11 dX11_doTie_80 w1043 (Nat.le_of_ble_eq_true rfl) rfl rfl ?_
  refine V.iconst (v := 2) dX11_doTie_83 rfl ?_
  refine V.dup2 dX11_doTie_84 rfl rfl ?_
  obtain ⟨hi, v10, ev10, hf⟩ := fld_e hf
  refine V.fld dX11_doTie_85 rfl hi ev10 ?_
  refine V.iload_n (i := 3) dX11_doTie_86 rfl rfl ?_
  refine V.iadd dX11_doTie_87 ?_
  obtain ⟨hi, s11, es11, hf⟩ := fst_e hf
  refine V.fst (σ' := [.inl (6, [.ref 1, .ref 2, .int M_savedMany, .ref 3, .int M_isTaken, .ref 4, .int M_length, .int M_thrown, .int M_spelt, .int M_speltMany, .int M_place, .int M_kind, .int M_one, .int M_two, .int M_three, .int M_begins, .int M_done, .int M_stopBy, .long M_hash]), .inr (406, .inl s11), .inr (2436, .inl M_saved), .inr (406, .inl M_snapshot), .inr (60, .inl M_text)]) dX11_doTie_88 rfl hi es11 rfl ?_
  refine V.aload_n (i := 0) dX11_doTie_89 rfl rfl ?_
  refine V.getfield (kf := 0) (v := .ref 1) fl_RX11 dX11_doTie_90 w1043 (Nat.le_of_ble_eq_true rfl) rfl rfl ?_
  refine V.iconst (v := 3) dX11_doTie_93 rfl ?_
  refine V.dup2 dX11_doTie_94 rfl rfl ?_
  obtain ⟨hi, v12, ev12, hf⟩ := fld_e hf
  refine V.fld dX11_doTie_95 rfl hi ev12 ?_
  refine V.aload_n (i := 0) dX11_doTie_96 rfl rfl ?_
  refine V.iload (i := 4) dX11_doTie_97 rfl ?_
  obtain ⟨v13, hv13, hf⟩ := fbind hf
  refine V.callVn (pl := [0, 1, 2, 3, 4]) (σ' := [.inl (6, [.ref 1, .ref 2, .int M_savedMany, .ref 3, .int M_isTaken, .ref 4, .int M_length, .int M_thrown, .int M_spelt, .int M_speltMany, .int M_place, .int M_kind, .int M_one, .int M_two, .int M_three, .int M_begins, .int M_done, .int M_stopBy, .long M_hash]), .inr (406, .inl s11), .inr (2436, .inl M_saved), .inr (406, .inl M_snapshot), .inr (60, .inl M_text)]) (st2 := [.int v13, .int v12, .int 3, .ref 1]) (cl2 := 0) (sl2 := 0) (ct_X11_cordOf (a1 := v2) (M_savedMany := M_savedMany) (M_isTaken := M_isTaken) (M_length := M_length) (M_thrown := M_thrown) (M_spelt := M_spelt) (M_speltMany := M_speltMany) (M_place := M_place) (M_kind := M_kind) (M_one := M_one) (M_two := M_two) (M_three := M_three) (M_begins := M_begins) (M_done := M_done) (M_stopBy := M_stopBy) (M_hash := M_hash) (M_s := s11) (M_saved := M_saved) (M_snapshot := M_snapshot) (M_text := M_text) hv13) dX11_doTie_99 w1150 ⟨w1152, w13⟩ cal_X11_cordOf rfl ⟨⟨Nat.le_of_ble_eq_true rfl, Nat.le_of_ble_eq_true rfl⟩, Nat.le_of_ble_eq_true rfl, Nat.le_of_ble_eq_true rfl⟩ (Nat.le_of_ble_eq_true rfl) (Or.inl ⟨_, _, _, _, rfl, rfl⟩) rfl ⟨rfl, ⟨by decide, by decide⟩, rfl, (fr_cons (Or.inl (Nat.le_of_ble_eq_true rfl)) (fr_cons (Or.inl (Nat.le_of_ble_eq_true rfl)) (fr_cons (Or.inl (Nat.le_of_ble_eq_true rfl)) (fr_cons (Or.inl (Nat.le_of_ble_eq_true rfl)) (fr_nil))))), rfl⟩ fr_i rfl rfl rfl rfl ?_
  refine V.iadd dX11_doTie_102 ?_
  obtain ⟨hi, s14, es14, hf⟩ := fst_e hf
  refine V.fst (σ' := [.inl (6, [.ref 1, .ref 2, .int M_savedMany, .ref 3, .int M_isTaken, .ref 4, .int M_length, .int M_thrown, .int M_spelt, .int M_speltMany, .int M_place, .int M_kind, .int M_one, .int M_two, .int M_three, .int M_begins, .int M_done, .int M_stopBy, .long M_hash]), .inr (406, .inl s14), .inr (2436, .inl M_saved), .inr (406, .inl M_snapshot), .inr (60, .inl M_text)]) dX11_doTie_103 rfl hi es14 rfl ?_
  refine V.aload_n (i := 0) dX11_doTie_104 rfl rfl ?_
  refine V.iload_n (i := 1) dX11_doTie_105 rfl rfl ?_
  refine V.iconst (v := 1) dX11_doTie_106 rfl ?_
  refine V.iconst (v := 1) dX11_doTie_107 rfl ?_
  obtain ⟨v15, hv15, hf⟩ := fbind hf
  refine V.callVn (pl := [0, 1, 2, 3, 4]) (σ' := [.inl (6, [.ref 1, .ref 2, .int M_savedMany, .ref 3, .int M_isTaken, .ref 4, .int M_length, .int M_thrown, .int M_spelt, .int M_speltMany, .int M_place, .int M_kind, .int M_one, .int M_two, .int M_three, .int M_begins, .int M_done, .int M_stopBy, .long M_hash]), .inr (406, .inl v15), .inr (2436, .inl M_saved), .inr (406, .inl M_snapshot), .inr (60, .inl M_text)]) (st2 := []) (cl2 := 0) (sl2 := 0) (ct_X11_add (a1 := a1) (a2 := 1) (a3 := 1) (M_savedMany := M_savedMany) (M_isTaken := M_isTaken) (M_length := M_length) (M_thrown := M_thrown) (M_spelt := M_spelt) (M_speltMany := M_speltMany) (M_place := M_place) (M_kind := M_kind) (M_one := M_one) (M_two := M_two) (M_three := M_three) (M_begins := M_begins) (M_done := M_done) (M_stopBy := M_stopBy) (M_hash := M_hash) (M_s := s14) (M_saved := M_saved) (M_snapshot := M_snapshot) (M_text := M_text) hv15) dX11_doTie_108 w1196 ⟨w1198, w23⟩ cal_X11_add rfl ⟨⟨Nat.le_of_ble_eq_true rfl, Nat.le_of_ble_eq_true rfl⟩, Nat.le_of_ble_eq_true rfl, Nat.le_of_ble_eq_true rfl⟩ (Nat.le_of_ble_eq_true rfl) (Or.inl ⟨_, _, _, _, rfl, rfl⟩) rfl ⟨rfl, ⟨by decide, by decide⟩, rfl, (fr_cons (Or.inl (Nat.le_of_ble_eq_true rfl)) (fr_cons (Or.inl (Nat.le_of_ble_eq_true rfl)) (fr_cons (Or.inl (Nat.le_of_ble_eq_true rfl)) (fr_cons (Or.inl (Nat.le_of_ble_eq_true rfl)) (fr_nil))))), rfl⟩ fr_v rfl rfl rfl rfl ?_
  refine V.aload_n (i := 0) dX11_doTie_111 rfl rfl ?_
  refine V.iload_n (i := 1) dX11_doTie_112 rfl rfl ?_
  refine V.iconst (v := 1) dX11_doTie_113 rfl ?_
  obtain ⟨v16, hv16, hf⟩ := fbind hf
  refine V.callVn (pl := [0, 1, 2, 3, 4]) (σ' := [.inl (6, [.ref 1, .ref 2, .int M_savedMany, .ref 3, .int M_isTaken, .ref 4, .int M_length, .int M_thrown, .int M_spelt, .int M_speltMany, .int M_place, .int M_kind, .int M_one, .int M_two, .int M_three, .int M_begins, .int M_done, .int M_stopBy, .long M_hash]), .inr (406, .inl v15), .inr (2436, .inl M_saved), .inr (406, .inl M_snapshot), .inr (60, .inl M_text)]) (st2 := [.int v16]) (cl2 := 0) (sl2 := 0) (ct_X11_of (a1 := a1) (a2 := 1) (M_savedMany := M_savedMany) (M_isTaken := M_isTaken) (M_length := M_length) (M_thrown := M_thrown) (M_spelt := M_spelt) (M_speltMany := M_speltMany) (M_place := M_place) (M_kind := M_kind) (M_one := M_one) (M_two := M_two) (M_three := M_three) (M_begins := M_begins) (M_done := M_done) (M_stopBy := M_stopBy) (M_hash := M_hash) (M_s := v15) (M_saved := M_saved) (M_snapshot := M_snapshot) (M_text := M_text) hv16) dX11_doTie_114 w1123 ⟨w1125, w10⟩ cal_X11_of rfl ⟨⟨Nat.le_of_ble_eq_true rfl, Nat.le_of_ble_eq_true rfl⟩, Nat.le_of_ble_eq_true rfl, Nat.le_of_ble_eq_true rfl⟩ (Nat.le_of_ble_eq_true rfl) (Or.inl ⟨_, _, _, _, rfl, rfl⟩) rfl ⟨rfl, ⟨by decide, by decide⟩, rfl, (fr_cons (Or.inl (Nat.le_of_ble_eq_true rfl)) (fr_cons (Or.inl (Nat.le_of_ble_eq_true rfl)) (fr_cons (Or.inl (Nat.le_of_ble_eq_true rfl)) (fr_cons (Or.inl (Nat.le_of_ble_eq_true rfl)) (fr_nil))))), rfl⟩ fr_i rfl rfl rfl rfl ?_
  refine V.iconst (v := 1) dX11_doTie_117 rfl ?_
  refine V.isub dX11_doTie_118 ?_
  obtain rfl := Option.some.inj hf
  exact V.iret dX11_doTie_119 rfl (Nat.le_of_ble_eq_true rfl) (Nat.le_of_ble_eq_true rfl) rfl
def k_X11_takeOff : fK := (yX11_takeOff, cX11_takeOff, 5, (some .int), [], (4, 84), (0, 0), (0, 0))
theorem cal_X11_takeOff : fCal k_X11_takeOff 2 := ⟨⟨wc1211, w73⟩, ⟨by decide +kernel, by decide +kernel⟩, by decide +kernel, by decide +kernel⟩
def s_X11_takeOff_L24 (p1 : Int32) : Nat → Int32 → (Nat → Int32) → Option (Int32 × (Nat → Int32))
  | 0, _, _ => none
  | n + 1, x4, M_s => (s_X11_of p1 1 M_s).bind fun v5 => (s_X11_whereIs p1 v5).bind fun v6 => if (v6 ≤ x4 : Prop) then (some (x4, M_s)) else (fld 406 M_s (x4 + 11) fun v7 => fst 406 M_s x4 v7 fun s8 => s_X11_takeOff_L24 p1 n (x4 + 1) s8)
set_option maxHeartbeats 4000000 in
set_option maxRecDepth 100000 in
theorem v_X11_takeOff_L24 {out : fO} {σ' : List fE} {p1 : Int32} {p2 : Int32} {p3 : Int32} {M_savedMany : Int32} {M_isTaken : Int32} {M_length : Int32} {M_thrown : Int32} {M_spelt : Int32} {M_speltMany : Int32} {M_place : Int32} {M_kind : Int32} {M_one : Int32} {M_two : Int32} {M_three : Int32} {M_begins : Int32} {M_done : Int32} {M_stopBy : Int32} {M_hash : Int64} {M_saved : Nat → Int32} {M_snapshot : Nat → Int32} {M_text : Nat → Int32} : ∀ (n : Nat) {x4 : Int32} {M_s : (Nat → Int32)} {res : Int32 × (Nat → Int32)} (hf : s_X11_takeOff_L24 p1 n x4 M_s = some res) (hx : V (fXm 5 k_X11_takeOff out σ') (krm k_X11_takeOff) k_X11_takeOff 5 62 [some (.ref 0), some (.int p1), some (.int p2), some (.int p3), some (.int res.1)] [] [.inl (6, [.ref 1, .ref 2, .int M_savedMany, .ref 3, .int M_isTaken, .ref 4, .int M_length, .int M_thrown, .int M_spelt, .int M_speltMany, .int M_place, .int M_kind, .int M_one, .int M_two, .int M_three, .int M_begins, .int M_done, .int M_stopBy, .long M_hash]), .inr (406, .inl res.2), .inr (2436, .inl M_saved), .inr (406, .inl M_snapshot), .inr (60, .inl M_text)] 0 0), V (fXm 5 k_X11_takeOff out σ') (krm k_X11_takeOff) k_X11_takeOff 5 24 [some (.ref 0), some (.int p1), some (.int p2), some (.int p3), some (.int x4)] [] [.inl (6, [.ref 1, .ref 2, .int M_savedMany, .ref 3, .int M_isTaken, .ref 4, .int M_length, .int M_thrown, .int M_spelt, .int M_speltMany, .int M_place, .int M_kind, .int M_one, .int M_two, .int M_three, .int M_begins, .int M_done, .int M_stopBy, .long M_hash]), .inr (406, .inl M_s), .inr (2436, .inl M_saved), .inr (406, .inl M_snapshot), .inr (60, .inl M_text)] 0 0 := by
  intro n
  induction n with
  | zero =>
    intro x4 M_s res hf hx
    rw [s_X11_takeOff_L24] at hf
    cases hf
  | succ n ih =>
    intro x4 M_s res hf hx
    rw [s_X11_takeOff_L24] at hf
    refine V.iload (i := 4) dX11_takeOff_24 rfl ?_
    refine V.iload_n (i := 1) dX11_takeOff_26 rfl rfl ?_
    refine V.aload_n (i := 0) dX11_takeOff_27 rfl rfl ?_
    refine V.iload_n (i := 1) dX11_takeOff_28 rfl rfl ?_
    refine V.iconst (v := 1) dX11_takeOff_29 rfl ?_
    obtain ⟨v5, hv5, hf⟩ := fbind hf
    refine V.callVn (pl := [0, 1, 2, 3, 4]) (σ' := [.inl (6, [.ref 1, .ref 2, .int M_savedMany, .ref 3, .int M_isTaken, .ref 4, .int M_length, .int M_thrown, .int M_spelt, .int M_speltMany, .int M_place, .int M_kind, .int M_one, .int M_two, .int M_three, .int M_begins, .int M_done, .int M_stopBy, .long M_hash]), .inr (406, .inl M_s), .inr (2436, .inl M_saved), .inr (406, .inl M_snapshot), .inr (60, .inl M_text)]) (st2 := [.int v5, .int p1, .int x4]) (cl2 := 0) (sl2 := 0) (ct_X11_of (a1 := p1) (a2 := 1) (M_savedMany := M_savedMany) (M_isTaken := M_isTaken) (M_length := M_length) (M_thrown := M_thrown) (M_spelt := M_spelt) (M_speltMany := M_speltMany) (M_place := M_place) (M_kind := M_kind) (M_one := M_one) (M_two := M_two) (M_three := M_three) (M_begins := M_begins) (M_done := M_done) (M_stopBy := M_stopBy) (M_hash := M_hash) (M_s := M_s) (M_saved := M_saved) (M_snapshot := M_snapshot) (M_text := M_text) hv5) dX11_takeOff_30 w1123 ⟨w1125, w10⟩ cal_X11_of rfl ⟨⟨Nat.le_of_ble_eq_true rfl, Nat.le_of_ble_eq_true rfl⟩, Nat.le_of_ble_eq_true rfl, Nat.le_of_ble_eq_true rfl⟩ (Nat.le_of_ble_eq_true rfl) (Or.inl ⟨_, _, _, _, rfl, rfl⟩) rfl ⟨rfl, ⟨by decide, by decide⟩, rfl, (fr_cons (Or.inl (Nat.le_of_ble_eq_true rfl)) (fr_cons (Or.inl (Nat.le_of_ble_eq_true rfl)) (fr_cons (Or.inl (Nat.le_of_ble_eq_true rfl)) (fr_cons (Or.inl (Nat.le_of_ble_eq_true rfl)) (fr_nil))))), rfl⟩ fr_i rfl rfl rfl rfl ?_
    obtain ⟨v6, hv6, hf⟩ := fbind hf
    refine V.callSn (pl := []) (σ' := [.inl (6, [.ref 1, .ref 2, .int M_savedMany, .ref 3, .int M_isTaken, .ref 4, .int M_length, .int M_thrown, .int M_spelt, .int M_speltMany, .int M_place, .int M_kind, .int M_one, .int M_two, .int M_three, .int M_begins, .int M_done, .int M_stopBy, .long M_hash]), .inr (406, .inl M_s), .inr (2436, .inl M_saved), .inr (406, .inl M_snapshot), .inr (60, .inl M_text)]) (st2 := [.int v6, .int x4]) (cl2 := 0) (sl2 := 0) (ct_X11_whereIs (a0 := p1) (a1 := v5) hv6) dX11_takeOff_33 w1147 w1148 cal_X11_whereIs ⟨⟨Nat.le_of_ble_eq_true rfl, Nat.le_of_ble_eq_true rfl⟩, Nat.le_of_ble_eq_true rfl, Nat.le_of_ble_eq_true rfl⟩ (Nat.le_of_ble_eq_true rfl) rfl ⟨rfl, ⟨by decide, by decide⟩, rfl, (fr_nil), rfl⟩ fr_i rfl rfl rfl rfl ?_
    refine V.icmp_ge (tgt := 62) dX11_takeOff_36 (by decide) (fun h => ?_) (fun h => ?_)
    · have hf := fif_t h hf
      obtain rfl := Option.some.inj hf
      exact hx
    · have hf := fif_f h hf
      refine V.aload_n (i := 0) dX11_takeOff_39 rfl rfl ?_
      refine V.getfield (kf := 0) (v := .ref 1) fl_RX11 dX11_takeOff_40 w1043 (Nat.le_of_ble_eq_true rfl) rfl rfl ?_
      refine V.iload (i := 4) dX11_takeOff_43 rfl ?_
      refine V.aload_n (i := 0) dX11_takeOff_45 rfl rfl ?_
      refine V.getfield (kf := 0) (v := .ref 1) fl_RX11 dX11_takeOff_46 w1043 (Nat.le_of_ble_eq_true rfl) rfl rfl ?_
      refine V.iload (i := 4) dX11_takeOff_49 rfl ?_
      refine V.bipush (v := 11) dX11_takeOff_51 rfl ?_
      refine V.iadd dX11_takeOff_53 ?_
      obtain ⟨hi, v7, ev7, hf⟩ := fld_e hf
      refine V.fld dX11_takeOff_54 rfl hi ev7 ?_
      obtain ⟨hi, s8, es8, hf⟩ := fst_e hf
      refine V.fst (σ' := [.inl (6, [.ref 1, .ref 2, .int M_savedMany, .ref 3, .int M_isTaken, .ref 4, .int M_length, .int M_thrown, .int M_spelt, .int M_speltMany, .int M_place, .int M_kind, .int M_one, .int M_two, .int M_three, .int M_begins, .int M_done, .int M_stopBy, .long M_hash]), .inr (406, .inl s8), .inr (2436, .inl M_saved), .inr (406, .inl M_snapshot), .inr (60, .inl M_text)]) dX11_takeOff_55 rfl hi es8 rfl ?_
      refine V.iinc (i := 4) (v := (x4 + 1)) (L' := [some (.ref 0), some (.int p1), some (.int p2), some (.int p3), some (.int (x4 + 1))]) dX11_takeOff_56 rfl rfl (Nat.le_of_ble_eq_true rfl) rfl rfl ?_
      refine V.goto (tgt := 24) dX11_takeOff_59 (by decide) ?_
      exact ih hf hx
def s_X11_takeOff (a1 : Int32) (a2 : Int32) (M_s : Nat → Int32) : Option (Int32 × (Nat → Int32)) := (s_X11_whereIs a1 a2).bind fun v1 => (s_X11_cordOf v1 M_s).bind fun v2 => (s_X11_add a1 1 (-1) M_s).bind fun v3 => (s_X11_whereIs a1 a2).bind fun v4 => (s_X11_takeOff_L24 a1 gF v4 v3).bind fun r9 => fld 406 r9.2 3 fun v10 => fst 406 r9.2 3 (v10 - v2) fun s11 => some (v2, s11)
set_option maxHeartbeats 4000000 in
set_option maxRecDepth 100000 in
theorem ct_X11_takeOff {a1 : Int32} {a2 : Int32} {M_savedMany : Int32} {M_isTaken : Int32} {M_length : Int32} {M_thrown : Int32} {M_spelt : Int32} {M_speltMany : Int32} {M_place : Int32} {M_kind : Int32} {M_one : Int32} {M_two : Int32} {M_three : Int32} {M_begins : Int32} {M_done : Int32} {M_stopBy : Int32} {M_hash : Int64} {M_s : Nat → Int32} {M_saved : Nat → Int32} {M_snapshot : Nat → Int32} {M_text : Nat → Int32} {res : Int32 × (Nat → Int32)} (hf : s_X11_takeOff a1 a2 M_s = some res) : Ct k_X11_takeOff [.ref 0, .int a1, .int a2] [.inl (6, [.ref 1, .ref 2, .int M_savedMany, .ref 3, .int M_isTaken, .ref 4, .int M_length, .int M_thrown, .int M_spelt, .int M_speltMany, .int M_place, .int M_kind, .int M_one, .int M_two, .int M_three, .int M_begins, .int M_done, .int M_stopBy, .long M_hash]), .inr (406, .inl M_s), .inr (2436, .inl M_saved), .inr (406, .inl M_snapshot), .inr (60, .inl M_text)] (.inl (some (.int res.1))) [.inl (6, [.ref 1, .ref 2, .int M_savedMany, .ref 3, .int M_isTaken, .ref 4, .int M_length, .int M_thrown, .int M_spelt, .int M_speltMany, .int M_place, .int M_kind, .int M_one, .int M_two, .int M_three, .int M_begins, .int M_done, .int M_stopBy, .long M_hash]), .inr (406, .inl res.2), .inr (2436, .inl M_saved), .inr (406, .inl M_snapshot), .inr (60, .inl M_text)] := by
  unfold s_X11_takeOff at hf
  refine Ct.of (L := [some (.ref 0), some (.int a1), some (.int a2), none, none]) cal_X11_takeOff (fent_pad (j := 2) rfl) (Nat.le_of_ble_eq_true rfl) ?_
  refine V.aload_n (i := 0) dX11_takeOff_0 rfl rfl ?_
  refine V.iload_n (i := 1) dX11_takeOff_1 rfl rfl ?_
  refine V.iload_n (i := 2) dX11_takeOff_2 rfl rfl ?_
  obtain ⟨v1, hv1, hf⟩ := fbind hf
  refine V.callSn (pl := []) (σ' := [.inl (6, [.ref 1, .ref 2, .int M_savedMany, .ref 3, .int M_isTaken, .ref 4, .int M_length, .int M_thrown, .int M_spelt, .int M_speltMany, .int M_place, .int M_kind, .int M_one, .int M_two, .int M_three, .int M_begins, .int M_done, .int M_stopBy, .long M_hash]), .inr (406, .inl M_s), .inr (2436, .inl M_saved), .inr (406, .inl M_snapshot), .inr (60, .inl M_text)]) (st2 := [.int v1, .ref 0]) (cl2 := 0) (sl2 := 0) (ct_X11_whereIs (a0 := a1) (a1 := a2) hv1) dX11_takeOff_3 w1147 w1148 cal_X11_whereIs ⟨⟨Nat.le_of_ble_eq_true rfl, Nat.le_of_ble_eq_true rfl⟩, Nat.le_of_ble_eq_true rfl, Nat.le_of_ble_eq_true rfl⟩ (Nat.le_of_ble_eq_true rfl) rfl ⟨rfl, ⟨by decide, by decide⟩, rfl, (fr_nil), rfl⟩ fr_i rfl rfl rfl rfl ?_
  obtain ⟨v2, hv2, hf⟩ := fbind hf
  refine V.callVn (pl := [0, 1, 2, 3, 4]) (σ' := [.inl (6, [.ref 1, .ref 2, .int M_savedMany, .ref 3, .int M_isTaken, .ref 4, .int M_length, .int M_thrown, .int M_spelt, .int M_speltMany, .int M_place, .int M_kind, .int M_one, .int M_two, .int M_three, .int M_begins, .int M_done, .int M_stopBy, .long M_hash]), .inr (406, .inl M_s), .inr (2436, .inl M_saved), .inr (406, .inl M_snapshot), .inr (60, .inl M_text)]) (st2 := [.int v2]) (cl2 := 0) (sl2 := 0) (ct_X11_cordOf (a1 := v1) (M_savedMany := M_savedMany) (M_isTaken := M_isTaken) (M_length := M_length) (M_thrown := M_thrown) (M_spelt := M_spelt) (M_speltMany := M_speltMany) (M_place := M_place) (M_kind := M_kind) (M_one := M_one) (M_two := M_two) (M_three := M_three) (M_begins := M_begins) (M_done := M_done) (M_stopBy := M_stopBy) (M_hash := M_hash) (M_s := M_s) (M_saved := M_saved) (M_snapshot := M_snapshot) (M_text := M_text) hv2) dX11_takeOff_6 w1150 ⟨w1152, w13⟩ cal_X11_cordOf rfl ⟨⟨Nat.le_of_ble_eq_true rfl, Nat.le_of_ble_eq_true rfl⟩, Nat.le_of_ble_eq_true rfl, Nat.le_of_ble_eq_true rfl⟩ (Nat.le_of_ble_eq_true rfl) (Or.inl ⟨_, _, _, _, rfl, rfl⟩) rfl ⟨rfl, ⟨by decide, by decide⟩, rfl, (fr_cons (Or.inl (Nat.le_of_ble_eq_true rfl)) (fr_cons (Or.inl (Nat.le_of_ble_eq_true rfl)) (fr_cons (Or.inl (Nat.le_of_ble_eq_true rfl)) (fr_cons (Or.inl (Nat.le_of_ble_eq_true rfl)) (fr_nil))))), rfl⟩ fr_i rfl rfl rfl rfl ?_
  refine V.istore_n (i := 3) (L' := [some (.ref 0), some (.int a1), some (.int a2), some (.int v2), none]) dX11_takeOff_9 rfl (Nat.le_of_ble_eq_true rfl) rfl rfl ?_
  refine V.aload_n (i := 0) dX11_takeOff_10 rfl rfl ?_
  refine V.iload_n (i := 1) dX11_takeOff_11 rfl rfl ?_
  refine V.iconst (v := 1) dX11_takeOff_12 rfl ?_
  refine V.iconst (v := (-1)) dX11_takeOff_13 rfl ?_
  obtain ⟨v3, hv3, hf⟩ := fbind hf
  refine V.callVn (pl := [0, 1, 2, 3, 4]) (σ' := [.inl (6, [.ref 1, .ref 2, .int M_savedMany, .ref 3, .int M_isTaken, .ref 4, .int M_length, .int M_thrown, .int M_spelt, .int M_speltMany, .int M_place, .int M_kind, .int M_one, .int M_two, .int M_three, .int M_begins, .int M_done, .int M_stopBy, .long M_hash]), .inr (406, .inl v3), .inr (2436, .inl M_saved), .inr (406, .inl M_snapshot), .inr (60, .inl M_text)]) (st2 := []) (cl2 := 0) (sl2 := 0) (ct_X11_add (a1 := a1) (a2 := 1) (a3 := (-1)) (M_savedMany := M_savedMany) (M_isTaken := M_isTaken) (M_length := M_length) (M_thrown := M_thrown) (M_spelt := M_spelt) (M_speltMany := M_speltMany) (M_place := M_place) (M_kind := M_kind) (M_one := M_one) (M_two := M_two) (M_three := M_three) (M_begins := M_begins) (M_done := M_done) (M_stopBy := M_stopBy) (M_hash := M_hash) (M_s := M_s) (M_saved := M_saved) (M_snapshot := M_snapshot) (M_text := M_text) hv3) dX11_takeOff_14 w1196 ⟨w1198, w23⟩ cal_X11_add rfl ⟨⟨Nat.le_of_ble_eq_true rfl, Nat.le_of_ble_eq_true rfl⟩, Nat.le_of_ble_eq_true rfl, Nat.le_of_ble_eq_true rfl⟩ (Nat.le_of_ble_eq_true rfl) (Or.inl ⟨_, _, _, _, rfl, rfl⟩) rfl ⟨rfl, ⟨by decide, by decide⟩, rfl, (fr_cons (Or.inl (Nat.le_of_ble_eq_true rfl)) (fr_cons (Or.inl (Nat.le_of_ble_eq_true rfl)) (fr_cons (Or.inl (Nat.le_of_ble_eq_true rfl)) (fr_cons (Or.inl (Nat.le_of_ble_eq_true rfl)) (fr_nil))))), rfl⟩ fr_v rfl rfl rfl rfl ?_
  refine V.iload_n (i := 1) dX11_takeOff_17 rfl rfl ?_
  refine V.iload_n (i := 2) dX11_takeOff_18 rfl rfl ?_
  obtain ⟨v4, hv4, hf⟩ := fbind hf
  refine V.callSn (pl := []) (σ' := [.inl (6, [.ref 1, .ref 2, .int M_savedMany, .ref 3, .int M_isTaken, .ref 4, .int M_length, .int M_thrown, .int M_spelt, .int M_speltMany, .int M_place, .int M_kind, .int M_one, .int M_two, .int M_three, .int M_begins, .int M_done, .int M_stopBy, .long M_hash]), .inr (406, .inl v3), .inr (2436, .inl M_saved), .inr (406, .inl M_snapshot), .inr (60, .inl M_text)]) (st2 := [.int v4]) (cl2 := 0) (sl2 := 0) (ct_X11_whereIs (a0 := a1) (a1 := a2) hv4) dX11_takeOff_19 w1147 w1148 cal_X11_whereIs ⟨⟨Nat.le_of_ble_eq_true rfl, Nat.le_of_ble_eq_true rfl⟩, Nat.le_of_ble_eq_true rfl, Nat.le_of_ble_eq_true rfl⟩ (Nat.le_of_ble_eq_true rfl) rfl ⟨rfl, ⟨by decide, by decide⟩, rfl, (fr_nil), rfl⟩ fr_i rfl rfl rfl rfl ?_
  refine V.istore (i := 4) (L' := [some (.ref 0), some (.int a1), some (.int a2), some (.int v2), some (.int v4)]) dX11_takeOff_22 (Nat.le_of_ble_eq_true rfl) rfl rfl ?_
  obtain ⟨r9, hr9, hf⟩ := fbind hf
  refine v_X11_takeOff_L24 gF hr9 ?_
  refine V.aload_n (i := 0) dX11_takeOff_62 rfl rfl ?_
  refine V.getfield (kf := 0) (v := .ref 1) fl_RX11 dX11_takeOff_63 w1043 (Nat.le_of_ble_eq_true rfl) rfl rfl ?_
  refine V.iconst (v := 3) dX11_takeOff_66 rfl ?_
  refine V.dup2 dX11_takeOff_67 rfl rfl ?_
  obtain ⟨hi, v10, ev10, hf⟩ := fld_e hf
  refine V.fld dX11_takeOff_68 rfl hi ev10 ?_
  refine V.iload_n (i := 3) dX11_takeOff_69 rfl rfl ?_
  refine V.isub dX11_takeOff_70 ?_
  obtain ⟨hi, s11, es11, hf⟩ := fst_e hf
  refine V.fst (σ' := [.inl (6, [.ref 1, .ref 2, .int M_savedMany, .ref 3, .int M_isTaken, .ref 4, .int M_length, .int M_thrown, .int M_spelt, .int M_speltMany, .int M_place, .int M_kind, .int M_one, .int M_two, .int M_three, .int M_begins, .int M_done, .int M_stopBy, .long M_hash]), .inr (406, .inl s11), .inr (2436, .inl M_saved), .inr (406, .inl M_snapshot), .inr (60, .inl M_text)]) dX11_takeOff_71 rfl hi es11 rfl ?_
  refine V.iload_n (i := 3) dX11_takeOff_72 rfl rfl ?_
  obtain rfl := Option.some.inj hf
  exact V.iret dX11_takeOff_73 rfl (Nat.le_of_ble_eq_true rfl) (Nat.le_of_ble_eq_true rfl) rfl
def k_X11_gift : fK := (yX11_gift, cX11_gift, 5, (some .int), [], (7, 152), (0, 0), (0, 0))
theorem cal_X11_gift : fCal k_X11_gift 3 := ⟨⟨wc1235, w73⟩, ⟨by decide +kernel, by decide +kernel⟩, by decide +kernel, by decide +kernel⟩
def s_X11_gift (a1 : Int32) (a2 : Int32) (a3 : Int32) (M_s : Nat → Int32) : Option (Int32) := (s_X11_whereIs a1 a2).bind fun v1 => if (a1 = a3 : Prop) then (some 5) else ((s_X11_loosened v1 2 M_s).bind fun v2 => if (v2 ≤ 0 : Prop) then ((s_X11_readLetters v1 M_s).bind fun v3 => (s_X11_knots v1 M_s).bind fun v4 => (s_X11_reason a3 v3 v4 M_s).bind fun v5 => some v5) else (some 4))
set_option maxHeartbeats 4000000 in
set_option maxRecDepth 100000 in
theorem ct_X11_gift {a1 : Int32} {a2 : Int32} {a3 : Int32} {M_savedMany : Int32} {M_isTaken : Int32} {M_length : Int32} {M_thrown : Int32} {M_spelt : Int32} {M_speltMany : Int32} {M_place : Int32} {M_kind : Int32} {M_one : Int32} {M_two : Int32} {M_three : Int32} {M_begins : Int32} {M_done : Int32} {M_stopBy : Int32} {M_hash : Int64} {M_s : Nat → Int32} {M_saved : Nat → Int32} {M_snapshot : Nat → Int32} {M_text : Nat → Int32} {res : Int32} (hf : s_X11_gift a1 a2 a3 M_s = some res) : Ct k_X11_gift [.ref 0, .int a1, .int a2, .int a3] [.inl (6, [.ref 1, .ref 2, .int M_savedMany, .ref 3, .int M_isTaken, .ref 4, .int M_length, .int M_thrown, .int M_spelt, .int M_speltMany, .int M_place, .int M_kind, .int M_one, .int M_two, .int M_three, .int M_begins, .int M_done, .int M_stopBy, .long M_hash]), .inr (406, .inl M_s), .inr (2436, .inl M_saved), .inr (406, .inl M_snapshot), .inr (60, .inl M_text)] (.inl (some (.int res))) [.inl (6, [.ref 1, .ref 2, .int M_savedMany, .ref 3, .int M_isTaken, .ref 4, .int M_length, .int M_thrown, .int M_spelt, .int M_speltMany, .int M_place, .int M_kind, .int M_one, .int M_two, .int M_three, .int M_begins, .int M_done, .int M_stopBy, .long M_hash]), .inr (406, .inl M_s), .inr (2436, .inl M_saved), .inr (406, .inl M_snapshot), .inr (60, .inl M_text)] := by
  unfold s_X11_gift at hf
  refine Ct.of (L := [some (.ref 0), some (.int a1), some (.int a2), some (.int a3), none]) cal_X11_gift (fent_pad (j := 1) rfl) (Nat.le_of_ble_eq_true rfl) ?_
  refine V.iload_n (i := 1) dX11_gift_0 rfl rfl ?_
  refine V.iload_n (i := 2) dX11_gift_1 rfl rfl ?_
  obtain ⟨v1, hv1, hf⟩ := fbind hf
  refine V.callSn (pl := []) (σ' := [.inl (6, [.ref 1, .ref 2, .int M_savedMany, .ref 3, .int M_isTaken, .ref 4, .int M_length, .int M_thrown, .int M_spelt, .int M_speltMany, .int M_place, .int M_kind, .int M_one, .int M_two, .int M_three, .int M_begins, .int M_done, .int M_stopBy, .long M_hash]), .inr (406, .inl M_s), .inr (2436, .inl M_saved), .inr (406, .inl M_snapshot), .inr (60, .inl M_text)]) (st2 := [.int v1]) (cl2 := 0) (sl2 := 0) (ct_X11_whereIs (a0 := a1) (a1 := a2) hv1) dX11_gift_2 w1147 w1148 cal_X11_whereIs ⟨⟨Nat.le_of_ble_eq_true rfl, Nat.le_of_ble_eq_true rfl⟩, Nat.le_of_ble_eq_true rfl, Nat.le_of_ble_eq_true rfl⟩ (Nat.le_of_ble_eq_true rfl) rfl ⟨rfl, ⟨by decide, by decide⟩, rfl, (fr_nil), rfl⟩ fr_i rfl rfl rfl rfl ?_
  refine V.istore (i := 4) (L' := [some (.ref 0), some (.int a1), some (.int a2), some (.int a3), some (.int v1)]) dX11_gift_5 (Nat.le_of_ble_eq_true rfl) rfl rfl ?_
  refine V.iload_n (i := 1) dX11_gift_7 rfl rfl ?_
  refine V.iload_n (i := 3) dX11_gift_8 rfl rfl ?_
  refine V.icmp_ne (tgt := 16) dX11_gift_9 (by decide) (fun h => ?_) (fun h => ?_)
  · have hf := fif_f h hf
    refine V.aload_n (i := 0) dX11_gift_16 rfl rfl ?_
    refine V.iload (i := 4) dX11_gift_17 rfl ?_
    refine V.iconst (v := 2) dX11_gift_19 rfl ?_
    obtain ⟨v2, hv2, hf⟩ := fbind hf
    refine V.callVn (pl := [0, 1, 2, 3, 4]) (σ' := [.inl (6, [.ref 1, .ref 2, .int M_savedMany, .ref 3, .int M_isTaken, .ref 4, .int M_length, .int M_thrown, .int M_spelt, .int M_speltMany, .int M_place, .int M_kind, .int M_one, .int M_two, .int M_three, .int M_begins, .int M_done, .int M_stopBy, .long M_hash]), .inr (406, .inl M_s), .inr (2436, .inl M_saved), .inr (406, .inl M_snapshot), .inr (60, .inl M_text)]) (st2 := [.int v2]) (cl2 := 0) (sl2 := 0) (ct_X11_loosened (a1 := v1) (a2 := 2) (M_savedMany := M_savedMany) (M_isTaken := M_isTaken) (M_length := M_length) (M_thrown := M_thrown) (M_spelt := M_spelt) (M_speltMany := M_speltMany) (M_place := M_place) (M_kind := M_kind) (M_one := M_one) (M_two := M_two) (M_three := M_three) (M_begins := M_begins) (M_done := M_done) (M_stopBy := M_stopBy) (M_hash := M_hash) (M_s := M_s) (M_saved := M_saved) (M_snapshot := M_snapshot) (M_text := M_text) hv2) dX11_gift_20 w1162 ⟨w1164, w16⟩ cal_X11_loosened rfl ⟨⟨Nat.le_of_ble_eq_true rfl, Nat.le_of_ble_eq_true rfl⟩, Nat.le_of_ble_eq_true rfl, Nat.le_of_ble_eq_true rfl⟩ (Nat.le_of_ble_eq_true rfl) (Or.inl ⟨_, _, _, _, rfl, rfl⟩) rfl ⟨rfl, ⟨by decide, by decide⟩, rfl, (fr_cons (Or.inl (Nat.le_of_ble_eq_true rfl)) (fr_cons (Or.inl (Nat.le_of_ble_eq_true rfl)) (fr_cons (Or.inl (Nat.le_of_ble_eq_true rfl)) (fr_cons (Or.inl (Nat.le_of_ble_eq_true rfl)) (fr_nil))))), rfl⟩ fr_i rfl rfl rfl rfl ?_
    refine V.if_le (tgt := 30) dX11_gift_23 (by decide) (fun h => ?_) (fun h => ?_)
    · have hf := fif_t h hf
      refine V.aload_n (i := 0) dX11_gift_30 rfl rfl ?_
      refine V.iload_n (i := 3) dX11_gift_31 rfl rfl ?_
      refine V.aload_n (i := 0) dX11_gift_32 rfl rfl ?_
      refine V.iload (i := 4) dX11_gift_33 rfl ?_
      obtain ⟨v3, hv3, hf⟩ := fbind hf
      refine V.callVn (pl := [0, 1, 2, 3, 4]) (σ' := [.inl (6, [.ref 1, .ref 2, .int M_savedMany, .ref 3, .int M_isTaken, .ref 4, .int M_length, .int M_thrown, .int M_spelt, .int M_speltMany, .int M_place, .int M_kind, .int M_one, .int M_two, .int M_three, .int M_begins, .int M_done, .int M_stopBy, .long M_hash]), .inr (406, .inl M_s), .inr (2436, .inl M_saved), .inr (406, .inl M_snapshot), .inr (60, .inl M_text)]) (st2 := [.int v3, .int a3, .ref 0]) (cl2 := 0) (sl2 := 0) (ct_X11_readLetters (a1 := v1) (M_savedMany := M_savedMany) (M_isTaken := M_isTaken) (M_length := M_length) (M_thrown := M_thrown) (M_spelt := M_spelt) (M_speltMany := M_speltMany) (M_place := M_place) (M_kind := M_kind) (M_one := M_one) (M_two := M_two) (M_three := M_three) (M_begins := M_begins) (M_done := M_done) (M_stopBy := M_stopBy) (M_hash := M_hash) (M_s := M_s) (M_saved := M_saved) (M_snapshot := M_snapshot) (M_text := M_text) hv3) dX11_gift_35 w1166 ⟨w1168, w17⟩ cal_X11_readLetters rfl ⟨⟨Nat.le_of_ble_eq_true rfl, Nat.le_of_ble_eq_true rfl⟩, Nat.le_of_ble_eq_true rfl, Nat.le_of_ble_eq_true rfl⟩ (Nat.le_of_ble_eq_true rfl) (Or.inl ⟨_, _, _, _, rfl, rfl⟩) rfl ⟨rfl, ⟨by decide, by decide⟩, rfl, (fr_cons (Or.inl (Nat.le_of_ble_eq_true rfl)) (fr_cons (Or.inl (Nat.le_of_ble_eq_true rfl)) (fr_cons (Or.inl (Nat.le_of_ble_eq_true rfl)) (fr_cons (Or.inl (Nat.le_of_ble_eq_true rfl)) (fr_nil))))), rfl⟩ fr_i rfl rfl rfl rfl ?_
      refine V.aload_n (i := 0) dX11_gift_38 rfl rfl ?_
      refine V.iload (i := 4) dX11_gift_39 rfl ?_
      obtain ⟨v4, hv4, hf⟩ := fbind hf
      refine V.callVn (pl := [0, 1, 2, 3, 4]) (σ' := [.inl (6, [.ref 1, .ref 2, .int M_savedMany, .ref 3, .int M_isTaken, .ref 4, .int M_length, .int M_thrown, .int M_spelt, .int M_speltMany, .int M_place, .int M_kind, .int M_one, .int M_two, .int M_three, .int M_begins, .int M_done, .int M_stopBy, .long M_hash]), .inr (406, .inl M_s), .inr (2436, .inl M_saved), .inr (406, .inl M_snapshot), .inr (60, .inl M_text)]) (st2 := [.int v4, .int v3, .int a3, .ref 0]) (cl2 := 0) (sl2 := 0) (ct_X11_knots (a1 := v1) (M_savedMany := M_savedMany) (M_isTaken := M_isTaken) (M_length := M_length) (M_thrown := M_thrown) (M_spelt := M_spelt) (M_speltMany := M_speltMany) (M_place := M_place) (M_kind := M_kind) (M_one := M_one) (M_two := M_two) (M_three := M_three) (M_begins := M_begins) (M_done := M_done) (M_stopBy := M_stopBy) (M_hash := M_hash) (M_s := M_s) (M_saved := M_saved) (M_snapshot := M_snapshot) (M_text := M_text) hv4) dX11_gift_41 w1154 ⟨w1156, w14⟩ cal_X11_knots rfl ⟨⟨Nat.le_of_ble_eq_true rfl, Nat.le_of_ble_eq_true rfl⟩, Nat.le_of_ble_eq_true rfl, Nat.le_of_ble_eq_true rfl⟩ (Nat.le_of_ble_eq_true rfl) (Or.inl ⟨_, _, _, _, rfl, rfl⟩) rfl ⟨rfl, ⟨by decide, by decide⟩, rfl, (fr_cons (Or.inl (Nat.le_of_ble_eq_true rfl)) (fr_cons (Or.inl (Nat.le_of_ble_eq_true rfl)) (fr_cons (Or.inl (Nat.le_of_ble_eq_true rfl)) (fr_cons (Or.inl (Nat.le_of_ble_eq_true rfl)) (fr_nil))))), rfl⟩ fr_i rfl rfl rfl rfl ?_
      obtain ⟨v5, hv5, hf⟩ := fbind hf
      refine V.callVn (pl := [0, 1, 2, 3, 4]) (σ' := [.inl (6, [.ref 1, .ref 2, .int M_savedMany, .ref 3, .int M_isTaken, .ref 4, .int M_length, .int M_thrown, .int M_spelt, .int M_speltMany, .int M_place, .int M_kind, .int M_one, .int M_two, .int M_three, .int M_begins, .int M_done, .int M_stopBy, .long M_hash]), .inr (406, .inl M_s), .inr (2436, .inl M_saved), .inr (406, .inl M_snapshot), .inr (60, .inl M_text)]) (st2 := [.int v5]) (cl2 := 0) (sl2 := 0) (ct_X11_reason (a1 := a3) (a2 := v3) (a3 := v4) (M_savedMany := M_savedMany) (M_isTaken := M_isTaken) (M_length := M_length) (M_thrown := M_thrown) (M_spelt := M_spelt) (M_speltMany := M_speltMany) (M_place := M_place) (M_kind := M_kind) (M_one := M_one) (M_two := M_two) (M_three := M_three) (M_begins := M_begins) (M_done := M_done) (M_stopBy := M_stopBy) (M_hash := M_hash) (M_s := M_s) (M_saved := M_saved) (M_snapshot := M_snapshot) (M_text := M_text) hv5) dX11_gift_44 w1119 ⟨w1121, w9⟩ cal_X11_reason rfl ⟨⟨Nat.le_of_ble_eq_true rfl, Nat.le_of_ble_eq_true rfl⟩, Nat.le_of_ble_eq_true rfl, Nat.le_of_ble_eq_true rfl⟩ (Nat.le_of_ble_eq_true rfl) (Or.inl ⟨_, _, _, _, rfl, rfl⟩) rfl ⟨rfl, ⟨by decide, by decide⟩, rfl, (fr_cons (Or.inl (Nat.le_of_ble_eq_true rfl)) (fr_cons (Or.inl (Nat.le_of_ble_eq_true rfl)) (fr_cons (Or.inl (Nat.le_of_ble_eq_true rfl)) (fr_cons (Or.inl (Nat.le_of_ble_eq_true rfl)) (fr_nil))))), rfl⟩ fr_i rfl rfl rfl rfl ?_
      obtain rfl := Option.some.inj hf
      exact V.iret dX11_gift_47 rfl (Nat.le_of_ble_eq_true rfl) (Nat.le_of_ble_eq_true rfl) rfl
    · have hf := fif_f h hf
      refine V.iconst (v := 4) dX11_gift_26 rfl ?_
      refine V.goto (tgt := 47) dX11_gift_27 (by decide) ?_
      obtain rfl := Option.some.inj hf
      exact V.iret dX11_gift_47 rfl (Nat.le_of_ble_eq_true rfl) (Nat.le_of_ble_eq_true rfl) rfl
  · have hf := fif_t h hf
    refine V.iconst (v := 5) dX11_gift_12 rfl ?_
    refine V.goto (tgt := 47) dX11_gift_13 (by decide) ?_
    obtain rfl := Option.some.inj hf
    exact V.iret dX11_gift_47 rfl (Nat.le_of_ble_eq_true rfl) (Nat.le_of_ble_eq_true rfl) rfl
def k_X11_doGive : fK := (yX11_doGive, cX11_doGive, 7, (some .int), [], (5, 109), (0, 0), (0, 0))
theorem cal_X11_doGive : fCal k_X11_doGive 3 := ⟨⟨wc1239, w73⟩, ⟨by decide +kernel, by decide +kernel⟩, by decide +kernel, by decide +kernel⟩
def s_X11_doGive (a1 : Int32) (a2 : Int32) (a3 : Int32) (M_s : Nat → Int32) : Option (Int32 × (Nat → Int32)) := (s_X11_whereIs a1 a2).bind fun v1 => (s_X11_readLetters v1 M_s).bind fun v2 => (s_X11_knots v1 M_s).bind fun v3 => (s_X11_takeOff a1 a2 M_s).bind fun v4 => (s_X11_add a1 3 1 v4.2).bind fun v5 => (s_X11_doTie a3 v2 v3 v5).bind fun v6 => some (v6.1, v6.2)
set_option maxHeartbeats 4000000 in
set_option maxRecDepth 100000 in
theorem ct_X11_doGive {a1 : Int32} {a2 : Int32} {a3 : Int32} {M_savedMany : Int32} {M_isTaken : Int32} {M_length : Int32} {M_thrown : Int32} {M_spelt : Int32} {M_speltMany : Int32} {M_place : Int32} {M_kind : Int32} {M_one : Int32} {M_two : Int32} {M_three : Int32} {M_begins : Int32} {M_done : Int32} {M_stopBy : Int32} {M_hash : Int64} {M_s : Nat → Int32} {M_saved : Nat → Int32} {M_snapshot : Nat → Int32} {M_text : Nat → Int32} {res : Int32 × (Nat → Int32)} (hf : s_X11_doGive a1 a2 a3 M_s = some res) : Ct k_X11_doGive [.ref 0, .int a1, .int a2, .int a3] [.inl (6, [.ref 1, .ref 2, .int M_savedMany, .ref 3, .int M_isTaken, .ref 4, .int M_length, .int M_thrown, .int M_spelt, .int M_speltMany, .int M_place, .int M_kind, .int M_one, .int M_two, .int M_three, .int M_begins, .int M_done, .int M_stopBy, .long M_hash]), .inr (406, .inl M_s), .inr (2436, .inl M_saved), .inr (406, .inl M_snapshot), .inr (60, .inl M_text)] (.inl (some (.int res.1))) [.inl (6, [.ref 1, .ref 2, .int M_savedMany, .ref 3, .int M_isTaken, .ref 4, .int M_length, .int M_thrown, .int M_spelt, .int M_speltMany, .int M_place, .int M_kind, .int M_one, .int M_two, .int M_three, .int M_begins, .int M_done, .int M_stopBy, .long M_hash]), .inr (406, .inl res.2), .inr (2436, .inl M_saved), .inr (406, .inl M_snapshot), .inr (60, .inl M_text)] := by
  unfold s_X11_doGive at hf
  refine Ct.of (L := [some (.ref 0), some (.int a1), some (.int a2), some (.int a3), none, none, none]) cal_X11_doGive (fent_pad (j := 3) rfl) (Nat.le_of_ble_eq_true rfl) ?_
  refine V.iload_n (i := 1) dX11_doGive_0 rfl rfl ?_
  refine V.iload_n (i := 2) dX11_doGive_1 rfl rfl ?_
  obtain ⟨v1, hv1, hf⟩ := fbind hf
  refine V.callSn (pl := []) (σ' := [.inl (6, [.ref 1, .ref 2, .int M_savedMany, .ref 3, .int M_isTaken, .ref 4, .int M_length, .int M_thrown, .int M_spelt, .int M_speltMany, .int M_place, .int M_kind, .int M_one, .int M_two, .int M_three, .int M_begins, .int M_done, .int M_stopBy, .long M_hash]), .inr (406, .inl M_s), .inr (2436, .inl M_saved), .inr (406, .inl M_snapshot), .inr (60, .inl M_text)]) (st2 := [.int v1]) (cl2 := 0) (sl2 := 0) (ct_X11_whereIs (a0 := a1) (a1 := a2) hv1) dX11_doGive_2 w1147 w1148 cal_X11_whereIs ⟨⟨Nat.le_of_ble_eq_true rfl, Nat.le_of_ble_eq_true rfl⟩, Nat.le_of_ble_eq_true rfl, Nat.le_of_ble_eq_true rfl⟩ (Nat.le_of_ble_eq_true rfl) rfl ⟨rfl, ⟨by decide, by decide⟩, rfl, (fr_nil), rfl⟩ fr_i rfl rfl rfl rfl ?_
  refine V.istore (i := 4) (L' := [some (.ref 0), some (.int a1), some (.int a2), some (.int a3), some (.int v1), none, none]) dX11_doGive_5 (Nat.le_of_ble_eq_true rfl) rfl rfl ?_
  refine V.aload_n (i := 0) dX11_doGive_7 rfl rfl ?_
  refine V.iload (i := 4) dX11_doGive_8 rfl ?_
  obtain ⟨v2, hv2, hf⟩ := fbind hf
  refine V.callVn (pl := [0, 1, 2, 3, 4]) (σ' := [.inl (6, [.ref 1, .ref 2, .int M_savedMany, .ref 3, .int M_isTaken, .ref 4, .int M_length, .int M_thrown, .int M_spelt, .int M_speltMany, .int M_place, .int M_kind, .int M_one, .int M_two, .int M_three, .int M_begins, .int M_done, .int M_stopBy, .long M_hash]), .inr (406, .inl M_s), .inr (2436, .inl M_saved), .inr (406, .inl M_snapshot), .inr (60, .inl M_text)]) (st2 := [.int v2]) (cl2 := 0) (sl2 := 0) (ct_X11_readLetters (a1 := v1) (M_savedMany := M_savedMany) (M_isTaken := M_isTaken) (M_length := M_length) (M_thrown := M_thrown) (M_spelt := M_spelt) (M_speltMany := M_speltMany) (M_place := M_place) (M_kind := M_kind) (M_one := M_one) (M_two := M_two) (M_three := M_three) (M_begins := M_begins) (M_done := M_done) (M_stopBy := M_stopBy) (M_hash := M_hash) (M_s := M_s) (M_saved := M_saved) (M_snapshot := M_snapshot) (M_text := M_text) hv2) dX11_doGive_10 w1166 ⟨w1168, w17⟩ cal_X11_readLetters rfl ⟨⟨Nat.le_of_ble_eq_true rfl, Nat.le_of_ble_eq_true rfl⟩, Nat.le_of_ble_eq_true rfl, Nat.le_of_ble_eq_true rfl⟩ (Nat.le_of_ble_eq_true rfl) (Or.inl ⟨_, _, _, _, rfl, rfl⟩) rfl ⟨rfl, ⟨by decide, by decide⟩, rfl, (fr_cons (Or.inl (Nat.le_of_ble_eq_true rfl)) (fr_cons (Or.inl (Nat.le_of_ble_eq_true rfl)) (fr_cons (Or.inl (Nat.le_of_ble_eq_true rfl)) (fr_cons (Or.inl (Nat.le_of_ble_eq_true rfl)) (fr_nil))))), rfl⟩ fr_i rfl rfl rfl rfl ?_
  refine V.istore (i := 5) (L' := [some (.ref 0), some (.int a1), some (.int a2), some (.int a3), some (.int v1), some (.int v2), none]) dX11_doGive_13 (Nat.le_of_ble_eq_true rfl) rfl rfl ?_
  refine V.aload_n (i := 0) dX11_doGive_15 rfl rfl ?_
  refine V.iload (i := 4) dX11_doGive_16 rfl ?_
  obtain ⟨v3, hv3, hf⟩ := fbind hf
  refine V.callVn (pl := [0, 1, 2, 3, 4]) (σ' := [.inl (6, [.ref 1, .ref 2, .int M_savedMany, .ref 3, .int M_isTaken, .ref 4, .int M_length, .int M_thrown, .int M_spelt, .int M_speltMany, .int M_place, .int M_kind, .int M_one, .int M_two, .int M_three, .int M_begins, .int M_done, .int M_stopBy, .long M_hash]), .inr (406, .inl M_s), .inr (2436, .inl M_saved), .inr (406, .inl M_snapshot), .inr (60, .inl M_text)]) (st2 := [.int v3]) (cl2 := 0) (sl2 := 0) (ct_X11_knots (a1 := v1) (M_savedMany := M_savedMany) (M_isTaken := M_isTaken) (M_length := M_length) (M_thrown := M_thrown) (M_spelt := M_spelt) (M_speltMany := M_speltMany) (M_place := M_place) (M_kind := M_kind) (M_one := M_one) (M_two := M_two) (M_three := M_three) (M_begins := M_begins) (M_done := M_done) (M_stopBy := M_stopBy) (M_hash := M_hash) (M_s := M_s) (M_saved := M_saved) (M_snapshot := M_snapshot) (M_text := M_text) hv3) dX11_doGive_18 w1154 ⟨w1156, w14⟩ cal_X11_knots rfl ⟨⟨Nat.le_of_ble_eq_true rfl, Nat.le_of_ble_eq_true rfl⟩, Nat.le_of_ble_eq_true rfl, Nat.le_of_ble_eq_true rfl⟩ (Nat.le_of_ble_eq_true rfl) (Or.inl ⟨_, _, _, _, rfl, rfl⟩) rfl ⟨rfl, ⟨by decide, by decide⟩, rfl, (fr_cons (Or.inl (Nat.le_of_ble_eq_true rfl)) (fr_cons (Or.inl (Nat.le_of_ble_eq_true rfl)) (fr_cons (Or.inl (Nat.le_of_ble_eq_true rfl)) (fr_cons (Or.inl (Nat.le_of_ble_eq_true rfl)) (fr_nil))))), rfl⟩ fr_i rfl rfl rfl rfl ?_
  refine V.istore (i := 6) (L' := [some (.ref 0), some (.int a1), some (.int a2), some (.int a3), some (.int v1), some (.int v2), some (.int v3)]) dX11_doGive_21 (Nat.le_of_ble_eq_true rfl) rfl rfl ?_
  refine V.aload_n (i := 0) dX11_doGive_23 rfl rfl ?_
  refine V.iload_n (i := 1) dX11_doGive_24 rfl rfl ?_
  refine V.iload_n (i := 2) dX11_doGive_25 rfl rfl ?_
  obtain ⟨v4, hv4, hf⟩ := fbind hf
  refine V.callVn (pl := [0, 1, 2, 3, 4]) (σ' := [.inl (6, [.ref 1, .ref 2, .int M_savedMany, .ref 3, .int M_isTaken, .ref 4, .int M_length, .int M_thrown, .int M_spelt, .int M_speltMany, .int M_place, .int M_kind, .int M_one, .int M_two, .int M_three, .int M_begins, .int M_done, .int M_stopBy, .long M_hash]), .inr (406, .inl v4.2), .inr (2436, .inl M_saved), .inr (406, .inl M_snapshot), .inr (60, .inl M_text)]) (st2 := [.int v4.1]) (cl2 := 0) (sl2 := 0) (ct_X11_takeOff (a1 := a1) (a2 := a2) (M_savedMany := M_savedMany) (M_isTaken := M_isTaken) (M_length := M_length) (M_thrown := M_thrown) (M_spelt := M_spelt) (M_speltMany := M_speltMany) (M_place := M_place) (M_kind := M_kind) (M_one := M_one) (M_two := M_two) (M_three := M_three) (M_begins := M_begins) (M_done := M_done) (M_stopBy := M_stopBy) (M_hash := M_hash) (M_s := M_s) (M_saved := M_saved) (M_snapshot := M_snapshot) (M_text := M_text) hv4) dX11_doGive_26 w1208 ⟨w1210, w25⟩ cal_X11_takeOff rfl ⟨⟨Nat.le_of_ble_eq_true rfl, Nat.le_of_ble_eq_true rfl⟩, Nat.le_of_ble_eq_true rfl, Nat.le_of_ble_eq_true rfl⟩ (Nat.le_of_ble_eq_true rfl) (Or.inl ⟨_, _, _, _, rfl, rfl⟩) rfl ⟨rfl, ⟨by decide, by decide⟩, rfl, (fr_cons (Or.inl (Nat.le_of_ble_eq_true rfl)) (fr_cons (Or.inl (Nat.le_of_ble_eq_true rfl)) (fr_cons (Or.inl (Nat.le_of_ble_eq_true rfl)) (fr_cons (Or.inl (Nat.le_of_ble_eq_true rfl)) (fr_nil))))), rfl⟩ fr_i rfl rfl rfl rfl ?_
  refine V.pop dX11_doGive_29 rfl ?_
  refine V.aload_n (i := 0) dX11_doGive_30 rfl rfl ?_
  refine V.iload_n (i := 1) dX11_doGive_31 rfl rfl ?_
  refine V.iconst (v := 3) dX11_doGive_32 rfl ?_
  refine V.iconst (v := 1) dX11_doGive_33 rfl ?_
  obtain ⟨v5, hv5, hf⟩ := fbind hf
  refine V.callVn (pl := [0, 1, 2, 3, 4]) (σ' := [.inl (6, [.ref 1, .ref 2, .int M_savedMany, .ref 3, .int M_isTaken, .ref 4, .int M_length, .int M_thrown, .int M_spelt, .int M_speltMany, .int M_place, .int M_kind, .int M_one, .int M_two, .int M_three, .int M_begins, .int M_done, .int M_stopBy, .long M_hash]), .inr (406, .inl v5), .inr (2436, .inl M_saved), .inr (406, .inl M_snapshot), .inr (60, .inl M_text)]) (st2 := []) (cl2 := 0) (sl2 := 0) (ct_X11_add (a1 := a1) (a2 := 3) (a3 := 1) (M_savedMany := M_savedMany) (M_isTaken := M_isTaken) (M_length := M_length) (M_thrown := M_thrown) (M_spelt := M_spelt) (M_speltMany := M_speltMany) (M_place := M_place) (M_kind := M_kind) (M_one := M_one) (M_two := M_two) (M_three := M_three) (M_begins := M_begins) (M_done := M_done) (M_stopBy := M_stopBy) (M_hash := M_hash) (M_s := v4.2) (M_saved := M_saved) (M_snapshot := M_snapshot) (M_text := M_text) hv5) dX11_doGive_34 w1196 ⟨w1198, w23⟩ cal_X11_add rfl ⟨⟨Nat.le_of_ble_eq_true rfl, Nat.le_of_ble_eq_true rfl⟩, Nat.le_of_ble_eq_true rfl, Nat.le_of_ble_eq_true rfl⟩ (Nat.le_of_ble_eq_true rfl) (Or.inl ⟨_, _, _, _, rfl, rfl⟩) rfl ⟨rfl, ⟨by decide, by decide⟩, rfl, (fr_cons (Or.inl (Nat.le_of_ble_eq_true rfl)) (fr_cons (Or.inl (Nat.le_of_ble_eq_true rfl)) (fr_cons (Or.inl (Nat.le_of_ble_eq_true rfl)) (fr_cons (Or.inl (Nat.le_of_ble_eq_true rfl)) (fr_nil))))), rfl⟩ fr_v rfl rfl rfl rfl ?_
  refine V.aload_n (i := 0) dX11_doGive_37 rfl rfl ?_
  refine V.iload_n (i := 3) dX11_doGive_38 rfl rfl ?_
  refine V.iload (i := 5) dX11_doGive_39 rfl ?_
  refine V.iload (i := 6) dX11_doGive_41 rfl ?_
  obtain ⟨v6, hv6, hf⟩ := fbind hf
  refine V.callVn (pl := [0, 1, 2, 3, 4]) (σ' := [.inl (6, [.ref 1, .ref 2, .int M_savedMany, .ref 3, .int M_isTaken, .ref 4, .int M_length, .int M_thrown, .int M_spelt, .int M_speltMany, .int M_place, .int M_kind, .int M_one, .int M_two, .int M_three, .int M_begins, .int M_done, .int M_stopBy, .long M_hash]), .inr (406, .inl v6.2), .inr (2436, .inl M_saved), .inr (406, .inl M_snapshot), .inr (60, .inl M_text)]) (st2 := [.int v6.1]) (cl2 := 0) (sl2 := 0) (ct_X11_doTie (a1 := a3) (a2 := v2) (a3 := v3) (M_savedMany := M_savedMany) (M_isTaken := M_isTaken) (M_length := M_length) (M_thrown := M_thrown) (M_spelt := M_spelt) (M_speltMany := M_speltMany) (M_place := M_place) (M_kind := M_kind) (M_one := M_one) (M_two := M_two) (M_three := M_three) (M_begins := M_begins) (M_done := M_done) (M_stopBy := M_stopBy) (M_hash := M_hash) (M_s := v5) (M_saved := M_saved) (M_snapshot := M_snapshot) (M_text := M_text) hv6) dX11_doGive_43 w1192 ⟨w1194, w22⟩ cal_X11_doTie rfl ⟨⟨Nat.le_of_ble_eq_true rfl, Nat.le_of_ble_eq_true rfl⟩, Nat.le_of_ble_eq_true rfl, Nat.le_of_ble_eq_true rfl⟩ (Nat.le_of_ble_eq_true rfl) (Or.inl ⟨_, _, _, _, rfl, rfl⟩) rfl ⟨rfl, ⟨by decide, by decide⟩, rfl, (fr_cons (Or.inl (Nat.le_of_ble_eq_true rfl)) (fr_cons (Or.inl (Nat.le_of_ble_eq_true rfl)) (fr_cons (Or.inl (Nat.le_of_ble_eq_true rfl)) (fr_cons (Or.inl (Nat.le_of_ble_eq_true rfl)) (fr_nil))))), rfl⟩ fr_i rfl rfl rfl rfl ?_
  obtain rfl := Option.some.inj hf
  exact V.iret dX11_doGive_46 rfl (Nat.le_of_ble_eq_true rfl) (Nat.le_of_ble_eq_true rfl) rfl
def k_X11_tightened : fK := (yX11_tightened, cX11_tightened, 4, (some .int), [], (2, 45), (0, 0), (0, 0))
theorem cal_X11_tightened : fCal k_X11_tightened 2 := ⟨⟨wc1227, w73⟩, ⟨by decide +kernel, by decide +kernel⟩, by decide +kernel, by decide +kernel⟩
def s_X11_tightened (a1 : Int32) (a2 : Int32) (M_s : Nat → Int32) : Option (Int32) := (s_X11_whereIs a1 a2).bind fun v1 => (s_X11_loosened v1 1 M_s).bind fun v2 => (s_X11_loosened v1 2 M_s).bind fun v3 => some (v2 - v3)
set_option maxHeartbeats 4000000 in
set_option maxRecDepth 100000 in
theorem ct_X11_tightened {a1 : Int32} {a2 : Int32} {M_savedMany : Int32} {M_isTaken : Int32} {M_length : Int32} {M_thrown : Int32} {M_spelt : Int32} {M_speltMany : Int32} {M_place : Int32} {M_kind : Int32} {M_one : Int32} {M_two : Int32} {M_three : Int32} {M_begins : Int32} {M_done : Int32} {M_stopBy : Int32} {M_hash : Int64} {M_s : Nat → Int32} {M_saved : Nat → Int32} {M_snapshot : Nat → Int32} {M_text : Nat → Int32} {res : Int32} (hf : s_X11_tightened a1 a2 M_s = some res) : Ct k_X11_tightened [.ref 0, .int a1, .int a2] [.inl (6, [.ref 1, .ref 2, .int M_savedMany, .ref 3, .int M_isTaken, .ref 4, .int M_length, .int M_thrown, .int M_spelt, .int M_speltMany, .int M_place, .int M_kind, .int M_one, .int M_two, .int M_three, .int M_begins, .int M_done, .int M_stopBy, .long M_hash]), .inr (406, .inl M_s), .inr (2436, .inl M_saved), .inr (406, .inl M_snapshot), .inr (60, .inl M_text)] (.inl (some (.int res))) [.inl (6, [.ref 1, .ref 2, .int M_savedMany, .ref 3, .int M_isTaken, .ref 4, .int M_length, .int M_thrown, .int M_spelt, .int M_speltMany, .int M_place, .int M_kind, .int M_one, .int M_two, .int M_three, .int M_begins, .int M_done, .int M_stopBy, .long M_hash]), .inr (406, .inl M_s), .inr (2436, .inl M_saved), .inr (406, .inl M_snapshot), .inr (60, .inl M_text)] := by
  unfold s_X11_tightened at hf
  refine Ct.of (L := [some (.ref 0), some (.int a1), some (.int a2), none]) cal_X11_tightened (fent_pad (j := 1) rfl) (Nat.le_of_ble_eq_true rfl) ?_
  refine V.iload_n (i := 1) dX11_tightened_0 rfl rfl ?_
  refine V.iload_n (i := 2) dX11_tightened_1 rfl rfl ?_
  obtain ⟨v1, hv1, hf⟩ := fbind hf
  refine V.callSn (pl := []) (σ' := [.inl (6, [.ref 1, .ref 2, .int M_savedMany, .ref 3, .int M_isTaken, .ref 4, .int M_length, .int M_thrown, .int M_spelt, .int M_speltMany, .int M_place, .int M_kind, .int M_one, .int M_two, .int M_three, .int M_begins, .int M_done, .int M_stopBy, .long M_hash]), .inr (406, .inl M_s), .inr (2436, .inl M_saved), .inr (406, .inl M_snapshot), .inr (60, .inl M_text)]) (st2 := [.int v1]) (cl2 := 0) (sl2 := 0) (ct_X11_whereIs (a0 := a1) (a1 := a2) hv1) dX11_tightened_2 w1147 w1148 cal_X11_whereIs ⟨⟨Nat.le_of_ble_eq_true rfl, Nat.le_of_ble_eq_true rfl⟩, Nat.le_of_ble_eq_true rfl, Nat.le_of_ble_eq_true rfl⟩ (Nat.le_of_ble_eq_true rfl) rfl ⟨rfl, ⟨by decide, by decide⟩, rfl, (fr_nil), rfl⟩ fr_i rfl rfl rfl rfl ?_
  refine V.istore_n (i := 3) (L' := [some (.ref 0), some (.int a1), some (.int a2), some (.int v1)]) dX11_tightened_5 rfl (Nat.le_of_ble_eq_true rfl) rfl rfl ?_
  refine V.aload_n (i := 0) dX11_tightened_6 rfl rfl ?_
  refine V.iload_n (i := 3) dX11_tightened_7 rfl rfl ?_
  refine V.iconst (v := 1) dX11_tightened_8 rfl ?_
  obtain ⟨v2, hv2, hf⟩ := fbind hf
  refine V.callVn (pl := [0, 1, 2, 3, 4]) (σ' := [.inl (6, [.ref 1, .ref 2, .int M_savedMany, .ref 3, .int M_isTaken, .ref 4, .int M_length, .int M_thrown, .int M_spelt, .int M_speltMany, .int M_place, .int M_kind, .int M_one, .int M_two, .int M_three, .int M_begins, .int M_done, .int M_stopBy, .long M_hash]), .inr (406, .inl M_s), .inr (2436, .inl M_saved), .inr (406, .inl M_snapshot), .inr (60, .inl M_text)]) (st2 := [.int v2]) (cl2 := 0) (sl2 := 0) (ct_X11_loosened (a1 := v1) (a2 := 1) (M_savedMany := M_savedMany) (M_isTaken := M_isTaken) (M_length := M_length) (M_thrown := M_thrown) (M_spelt := M_spelt) (M_speltMany := M_speltMany) (M_place := M_place) (M_kind := M_kind) (M_one := M_one) (M_two := M_two) (M_three := M_three) (M_begins := M_begins) (M_done := M_done) (M_stopBy := M_stopBy) (M_hash := M_hash) (M_s := M_s) (M_saved := M_saved) (M_snapshot := M_snapshot) (M_text := M_text) hv2) dX11_tightened_9 w1162 ⟨w1164, w16⟩ cal_X11_loosened rfl ⟨⟨Nat.le_of_ble_eq_true rfl, Nat.le_of_ble_eq_true rfl⟩, Nat.le_of_ble_eq_true rfl, Nat.le_of_ble_eq_true rfl⟩ (Nat.le_of_ble_eq_true rfl) (Or.inl ⟨_, _, _, _, rfl, rfl⟩) rfl ⟨rfl, ⟨by decide, by decide⟩, rfl, (fr_cons (Or.inl (Nat.le_of_ble_eq_true rfl)) (fr_cons (Or.inl (Nat.le_of_ble_eq_true rfl)) (fr_cons (Or.inl (Nat.le_of_ble_eq_true rfl)) (fr_cons (Or.inl (Nat.le_of_ble_eq_true rfl)) (fr_nil))))), rfl⟩ fr_i rfl rfl rfl rfl ?_
  refine V.aload_n (i := 0) dX11_tightened_12 rfl rfl ?_
  refine V.iload_n (i := 3) dX11_tightened_13 rfl rfl ?_
  refine V.iconst (v := 2) dX11_tightened_14 rfl ?_
  obtain ⟨v3, hv3, hf⟩ := fbind hf
  refine V.callVn (pl := [0, 1, 2, 3, 4]) (σ' := [.inl (6, [.ref 1, .ref 2, .int M_savedMany, .ref 3, .int M_isTaken, .ref 4, .int M_length, .int M_thrown, .int M_spelt, .int M_speltMany, .int M_place, .int M_kind, .int M_one, .int M_two, .int M_three, .int M_begins, .int M_done, .int M_stopBy, .long M_hash]), .inr (406, .inl M_s), .inr (2436, .inl M_saved), .inr (406, .inl M_snapshot), .inr (60, .inl M_text)]) (st2 := [.int v3, .int v2]) (cl2 := 0) (sl2 := 0) (ct_X11_loosened (a1 := v1) (a2 := 2) (M_savedMany := M_savedMany) (M_isTaken := M_isTaken) (M_length := M_length) (M_thrown := M_thrown) (M_spelt := M_spelt) (M_speltMany := M_speltMany) (M_place := M_place) (M_kind := M_kind) (M_one := M_one) (M_two := M_two) (M_three := M_three) (M_begins := M_begins) (M_done := M_done) (M_stopBy := M_stopBy) (M_hash := M_hash) (M_s := M_s) (M_saved := M_saved) (M_snapshot := M_snapshot) (M_text := M_text) hv3) dX11_tightened_15 w1162 ⟨w1164, w16⟩ cal_X11_loosened rfl ⟨⟨Nat.le_of_ble_eq_true rfl, Nat.le_of_ble_eq_true rfl⟩, Nat.le_of_ble_eq_true rfl, Nat.le_of_ble_eq_true rfl⟩ (Nat.le_of_ble_eq_true rfl) (Or.inl ⟨_, _, _, _, rfl, rfl⟩) rfl ⟨rfl, ⟨by decide, by decide⟩, rfl, (fr_cons (Or.inl (Nat.le_of_ble_eq_true rfl)) (fr_cons (Or.inl (Nat.le_of_ble_eq_true rfl)) (fr_cons (Or.inl (Nat.le_of_ble_eq_true rfl)) (fr_cons (Or.inl (Nat.le_of_ble_eq_true rfl)) (fr_nil))))), rfl⟩ fr_i rfl rfl rfl rfl ?_
  refine V.isub dX11_tightened_18 ?_
  obtain rfl := Option.some.inj hf
  exact V.iret dX11_tightened_19 rfl (Nat.le_of_ble_eq_true rfl) (Nat.le_of_ble_eq_true rfl) rfl
def k_X11_canFasten : fK := (yX11_canFasten, cX11_canFasten, 6, (some .boolean), [], (6, 128), (0, 0), (0, 0))
theorem cal_X11_canFasten : fCal k_X11_canFasten 2 := ⟨⟨wc1219, w73⟩, ⟨by decide +kernel, by decide +kernel⟩, by decide +kernel, by decide +kernel⟩
def s_X11_canFasten_L12 (p3 : Int32) (M_s : Nat → Int32) : Nat → Int32 → Int32 → Option (Int32 × Int32)
  | 0, _, _ => none
  | n + 1, x4, x5 => (s_X11_knots p3 M_s).bind fun v2 => if (v2 ≤ x5 : Prop) then (some (x4, x5)) else (fld 406 M_s ((p3 + 3) + x5) fun v3 => if (v3 = 1 : Prop) then ((s_X11_readAs p3 x5 M_s).bind fun v4 => (s_X11_cordOfLetter v4).bind fun v5 => (s_X11_tiedAs p3 x5 M_s).bind fun v6 => (s_X11_cordOfLetter v6).bind fun v7 => s_X11_canFasten_L12 p3 M_s n (x4 + (v5 - v7)) (x5 + 1)) else (s_X11_canFasten_L12 p3 M_s n (x4 + 0) (x5 + 1)))
set_option maxHeartbeats 4000000 in
set_option maxRecDepth 100000 in
theorem v_X11_canFasten_L12 {out : fO} {σ' : List fE} {p1 : Int32} {p2 : Int32} {p3 : Int32} {M_savedMany : Int32} {M_isTaken : Int32} {M_length : Int32} {M_thrown : Int32} {M_spelt : Int32} {M_speltMany : Int32} {M_place : Int32} {M_kind : Int32} {M_one : Int32} {M_two : Int32} {M_three : Int32} {M_begins : Int32} {M_done : Int32} {M_stopBy : Int32} {M_hash : Int64} {M_s : Nat → Int32} {M_saved : Nat → Int32} {M_snapshot : Nat → Int32} {M_text : Nat → Int32} : ∀ (n : Nat) {x4 : Int32} {x5 : Int32} {res : Int32 × Int32} (hf : s_X11_canFasten_L12 p3 M_s n x4 x5 = some res) (hx : V (fXm 5 k_X11_canFasten out σ') (krm k_X11_canFasten) k_X11_canFasten 5 73 [some (.ref 0), some (.int p1), some (.int p2), some (.int p3), some (.int res.1), some (.int res.2)] [] [.inl (6, [.ref 1, .ref 2, .int M_savedMany, .ref 3, .int M_isTaken, .ref 4, .int M_length, .int M_thrown, .int M_spelt, .int M_speltMany, .int M_place, .int M_kind, .int M_one, .int M_two, .int M_three, .int M_begins, .int M_done, .int M_stopBy, .long M_hash]), .inr (406, .inl M_s), .inr (2436, .inl M_saved), .inr (406, .inl M_snapshot), .inr (60, .inl M_text)] 0 0), V (fXm 5 k_X11_canFasten out σ') (krm k_X11_canFasten) k_X11_canFasten 5 12 [some (.ref 0), some (.int p1), some (.int p2), some (.int p3), some (.int x4), some (.int x5)] [] [.inl (6, [.ref 1, .ref 2, .int M_savedMany, .ref 3, .int M_isTaken, .ref 4, .int M_length, .int M_thrown, .int M_spelt, .int M_speltMany, .int M_place, .int M_kind, .int M_one, .int M_two, .int M_three, .int M_begins, .int M_done, .int M_stopBy, .long M_hash]), .inr (406, .inl M_s), .inr (2436, .inl M_saved), .inr (406, .inl M_snapshot), .inr (60, .inl M_text)] 0 0 := by
  intro n
  induction n with
  | zero =>
    intro x4 x5 res hf hx
    rw [s_X11_canFasten_L12] at hf
    cases hf
  | succ n ih =>
    intro x4 x5 res hf hx
    rw [s_X11_canFasten_L12] at hf
    refine V.iload (i := 5) dX11_canFasten_12 rfl ?_
    refine V.aload_n (i := 0) dX11_canFasten_14 rfl rfl ?_
    refine V.iload_n (i := 3) dX11_canFasten_15 rfl rfl ?_
    obtain ⟨v2, hv2, hf⟩ := fbind hf
    refine V.callVn (pl := [0, 1, 2, 3, 4]) (σ' := [.inl (6, [.ref 1, .ref 2, .int M_savedMany, .ref 3, .int M_isTaken, .ref 4, .int M_length, .int M_thrown, .int M_spelt, .int M_speltMany, .int M_place, .int M_kind, .int M_one, .int M_two, .int M_three, .int M_begins, .int M_done, .int M_stopBy, .long M_hash]), .inr (406, .inl M_s), .inr (2436, .inl M_saved), .inr (406, .inl M_snapshot), .inr (60, .inl M_text)]) (st2 := [.int v2, .int x5]) (cl2 := 0) (sl2 := 0) (ct_X11_knots (a1 := p3) (M_savedMany := M_savedMany) (M_isTaken := M_isTaken) (M_length := M_length) (M_thrown := M_thrown) (M_spelt := M_spelt) (M_speltMany := M_speltMany) (M_place := M_place) (M_kind := M_kind) (M_one := M_one) (M_two := M_two) (M_three := M_three) (M_begins := M_begins) (M_done := M_done) (M_stopBy := M_stopBy) (M_hash := M_hash) (M_s := M_s) (M_saved := M_saved) (M_snapshot := M_snapshot) (M_text := M_text) hv2) dX11_canFasten_16 w1154 ⟨w1156, w14⟩ cal_X11_knots rfl ⟨⟨Nat.le_of_ble_eq_true rfl, Nat.le_of_ble_eq_true rfl⟩, Nat.le_of_ble_eq_true rfl, Nat.le_of_ble_eq_true rfl⟩ (Nat.le_of_ble_eq_true rfl) (Or.inl ⟨_, _, _, _, rfl, rfl⟩) rfl ⟨rfl, ⟨by decide, by decide⟩, rfl, (fr_cons (Or.inl (Nat.le_of_ble_eq_true rfl)) (fr_cons (Or.inl (Nat.le_of_ble_eq_true rfl)) (fr_cons (Or.inl (Nat.le_of_ble_eq_true rfl)) (fr_cons (Or.inl (Nat.le_of_ble_eq_true rfl)) (fr_nil))))), rfl⟩ fr_i rfl rfl rfl rfl ?_
    refine V.icmp_ge (tgt := 73) dX11_canFasten_19 (by decide) (fun h => ?_) (fun h => ?_)
    · have hf := fif_t h hf
      obtain rfl := Option.some.inj hf
      exact hx
    · have hf := fif_f h hf
      refine V.iload (i := 4) dX11_canFasten_22 rfl ?_
      refine V.aload_n (i := 0) dX11_canFasten_24 rfl rfl ?_
      refine V.getfield (kf := 0) (v := .ref 1) fl_RX11 dX11_canFasten_25 w1043 (Nat.le_of_ble_eq_true rfl) rfl rfl ?_
      refine V.iload_n (i := 3) dX11_canFasten_28 rfl rfl ?_
      refine V.iconst (v := 3) dX11_canFasten_29 rfl ?_
      refine V.iadd dX11_canFasten_30 ?_
      refine V.iload (i := 5) dX11_canFasten_31 rfl ?_
      refine V.iadd dX11_canFasten_33 ?_
      obtain ⟨hi, v3, ev3, hf⟩ := fld_e hf
      refine V.fld dX11_canFasten_34 rfl hi ev3 ?_
      refine V.iconst (v := 1) dX11_canFasten_35 rfl ?_
      refine V.icmp_ne (tgt := 63) dX11_canFasten_36 (by decide) (fun h => ?_) (fun h => ?_)
      · have hf := fif_f h hf
        refine V.iconst (v := 0) dX11_canFasten_63 rfl ?_
        refine V.iadd dX11_canFasten_64 ?_
        refine V.istore (i := 4) (L' := [some (.ref 0), some (.int p1), some (.int p2), some (.int p3), some (.int (x4 + 0)), some (.int x5)]) dX11_canFasten_65 (Nat.le_of_ble_eq_true rfl) rfl rfl ?_
        refine V.iinc (i := 5) (v := (x5 + 1)) (L' := [some (.ref 0), some (.int p1), some (.int p2), some (.int p3), some (.int (x4 + 0)), some (.int (x5 + 1))]) dX11_canFasten_67 rfl rfl (Nat.le_of_ble_eq_true rfl) rfl rfl ?_
        refine V.goto (tgt := 12) dX11_canFasten_70 (by decide) ?_
        exact ih hf hx
      · have hf := fif_t h hf
        refine V.aload_n (i := 0) dX11_canFasten_39 rfl rfl ?_
        refine V.iload_n (i := 3) dX11_canFasten_40 rfl rfl ?_
        refine V.iload (i := 5) dX11_canFasten_41 rfl ?_
        obtain ⟨v4, hv4, hf⟩ := fbind hf
        refine V.callVn (pl := [0, 1, 2, 3, 4]) (σ' := [.inl (6, [.ref 1, .ref 2, .int M_savedMany, .ref 3, .int M_isTaken, .ref 4, .int M_length, .int M_thrown, .int M_spelt, .int M_speltMany, .int M_place, .int M_kind, .int M_one, .int M_two, .int M_three, .int M_begins, .int M_done, .int M_stopBy, .long M_hash]), .inr (406, .inl M_s), .inr (2436, .inl M_saved), .inr (406, .inl M_snapshot), .inr (60, .inl M_text)]) (st2 := [.int v4, .int x4]) (cl2 := 0) (sl2 := 0) (ct_X11_readAs (a1 := p3) (a2 := x5) (M_savedMany := M_savedMany) (M_isTaken := M_isTaken) (M_length := M_length) (M_thrown := M_thrown) (M_spelt := M_spelt) (M_speltMany := M_speltMany) (M_place := M_place) (M_kind := M_kind) (M_one := M_one) (M_two := M_two) (M_three := M_three) (M_begins := M_begins) (M_done := M_done) (M_stopBy := M_stopBy) (M_hash := M_hash) (M_s := M_s) (M_saved := M_saved) (M_snapshot := M_snapshot) (M_text := M_text) hv4) dX11_canFasten_43 w1170 ⟨w1172, w18⟩ cal_X11_readAs rfl ⟨⟨Nat.le_of_ble_eq_true rfl, Nat.le_of_ble_eq_true rfl⟩, Nat.le_of_ble_eq_true rfl, Nat.le_of_ble_eq_true rfl⟩ (Nat.le_of_ble_eq_true rfl) (Or.inl ⟨_, _, _, _, rfl, rfl⟩) rfl ⟨rfl, ⟨by decide, by decide⟩, rfl, (fr_cons (Or.inl (Nat.le_of_ble_eq_true rfl)) (fr_cons (Or.inl (Nat.le_of_ble_eq_true rfl)) (fr_cons (Or.inl (Nat.le_of_ble_eq_true rfl)) (fr_cons (Or.inl (Nat.le_of_ble_eq_true rfl)) (fr_nil))))), rfl⟩ fr_i rfl rfl rfl rfl ?_
        obtain ⟨v5, hv5, hf⟩ := fbind hf
        refine V.callSn (pl := []) (σ' := [.inl (6, [.ref 1, .ref 2, .int M_savedMany, .ref 3, .int M_isTaken, .ref 4, .int M_length, .int M_thrown, .int M_spelt, .int M_speltMany, .int M_place, .int M_kind, .int M_one, .int M_two, .int M_three, .int M_begins, .int M_done, .int M_stopBy, .long M_hash]), .inr (406, .inl M_s), .inr (2436, .inl M_saved), .inr (406, .inl M_snapshot), .inr (60, .inl M_text)]) (st2 := [.int v5, .int x4]) (cl2 := 0) (sl2 := 0) (ct_X11_cordOfLetter (a0 := v4) hv5) dX11_canFasten_46 w1133 w1134 cal_X11_cordOfLetter ⟨⟨Nat.le_of_ble_eq_true rfl, Nat.le_of_ble_eq_true rfl⟩, Nat.le_of_ble_eq_true rfl, Nat.le_of_ble_eq_true rfl⟩ (Nat.le_of_ble_eq_true rfl) rfl ⟨rfl, ⟨by decide, by decide⟩, rfl, (fr_nil), rfl⟩ fr_i rfl rfl rfl rfl ?_
        refine V.aload_n (i := 0) dX11_canFasten_49 rfl rfl ?_
        refine V.iload_n (i := 3) dX11_canFasten_50 rfl rfl ?_
        refine V.iload (i := 5) dX11_canFasten_51 rfl ?_
        obtain ⟨v6, hv6, hf⟩ := fbind hf
        refine V.callVn (pl := [0, 1, 2, 3, 4]) (σ' := [.inl (6, [.ref 1, .ref 2, .int M_savedMany, .ref 3, .int M_isTaken, .ref 4, .int M_length, .int M_thrown, .int M_spelt, .int M_speltMany, .int M_place, .int M_kind, .int M_one, .int M_two, .int M_three, .int M_begins, .int M_done, .int M_stopBy, .long M_hash]), .inr (406, .inl M_s), .inr (2436, .inl M_saved), .inr (406, .inl M_snapshot), .inr (60, .inl M_text)]) (st2 := [.int v6, .int v5, .int x4]) (cl2 := 0) (sl2 := 0) (ct_X11_tiedAs (a1 := p3) (a2 := x5) (M_savedMany := M_savedMany) (M_isTaken := M_isTaken) (M_length := M_length) (M_thrown := M_thrown) (M_spelt := M_spelt) (M_speltMany := M_speltMany) (M_place := M_place) (M_kind := M_kind) (M_one := M_one) (M_two := M_two) (M_three := M_three) (M_begins := M_begins) (M_done := M_done) (M_stopBy := M_stopBy) (M_hash := M_hash) (M_s := M_s) (M_saved := M_saved) (M_snapshot := M_snapshot) (M_text := M_text) hv6) dX11_canFasten_53 w1174 ⟨w1176, w19⟩ cal_X11_tiedAs rfl ⟨⟨Nat.le_of_ble_eq_true rfl, Nat.le_of_ble_eq_true rfl⟩, Nat.le_of_ble_eq_true rfl, Nat.le_of_ble_eq_true rfl⟩ (Nat.le_of_ble_eq_true rfl) (Or.inl ⟨_, _, _, _, rfl, rfl⟩) rfl ⟨rfl, ⟨by decide, by decide⟩, rfl, (fr_cons (Or.inl (Nat.le_of_ble_eq_true rfl)) (fr_cons (Or.inl (Nat.le_of_ble_eq_true rfl)) (fr_cons (Or.inl (Nat.le_of_ble_eq_true rfl)) (fr_cons (Or.inl (Nat.le_of_ble_eq_true rfl)) (fr_nil))))), rfl⟩ fr_i rfl rfl rfl rfl ?_
        obtain ⟨v7, hv7, hf⟩ := fbind hf
        refine V.callSn (pl := []) (σ' := [.inl (6, [.ref 1, .ref 2, .int M_savedMany, .ref 3, .int M_isTaken, .ref 4, .int M_length, .int M_thrown, .int M_spelt, .int M_speltMany, .int M_place, .int M_kind, .int M_one, .int M_two, .int M_three, .int M_begins, .int M_done, .int M_stopBy, .long M_hash]), .inr (406, .inl M_s), .inr (2436, .inl M_saved), .inr (406, .inl M_snapshot), .inr (60, .inl M_text)]) (st2 := [.int v7, .int v5, .int x4]) (cl2 := 0) (sl2 := 0) (ct_X11_cordOfLetter (a0 := v6) hv7) dX11_canFasten_56 w1133 w1134 cal_X11_cordOfLetter ⟨⟨Nat.le_of_ble_eq_true rfl, Nat.le_of_ble_eq_true rfl⟩, Nat.le_of_ble_eq_true rfl, Nat.le_of_ble_eq_true rfl⟩ (Nat.le_of_ble_eq_true rfl) rfl ⟨rfl, ⟨by decide, by decide⟩, rfl, (fr_nil), rfl⟩ fr_i rfl rfl rfl rfl ?_
        refine V.isub dX11_canFasten_59 ?_
        refine V.goto (tgt := 64) dX11_canFasten_60 (by decide) ?_
        refine V.iadd dX11_canFasten_64 ?_
        refine V.istore (i := 4) (L' := [some (.ref 0), some (.int p1), some (.int p2), some (.int p3), some (.int (x4 + (v5 - v7))), some (.int x5)]) dX11_canFasten_65 (Nat.le_of_ble_eq_true rfl) rfl rfl ?_
        refine V.iinc (i := 5) (v := (x5 + 1)) (L' := [some (.ref 0), some (.int p1), some (.int p2), some (.int p3), some (.int (x4 + (v5 - v7))), some (.int (x5 + 1))]) dX11_canFasten_67 rfl rfl (Nat.le_of_ble_eq_true rfl) rfl rfl ?_
        refine V.goto (tgt := 12) dX11_canFasten_70 (by decide) ?_
        exact ih hf hx
def s_X11_canFasten (a1 : Int32) (a2 : Int32) (M_s : Nat → Int32) : Option (Int32) := (s_X11_whereIs a1 a2).bind fun v1 => (s_X11_canFasten_L12 v1 M_s gF 0 0).bind fun r8 => (s_X11_left a1 M_s).bind fun v9 => if (v9 < r8.1 : Prop) then (some 0) else (some 1)
set_option maxHeartbeats 4000000 in
set_option maxRecDepth 100000 in
theorem ct_X11_canFasten {a1 : Int32} {a2 : Int32} {M_savedMany : Int32} {M_isTaken : Int32} {M_length : Int32} {M_thrown : Int32} {M_spelt : Int32} {M_speltMany : Int32} {M_place : Int32} {M_kind : Int32} {M_one : Int32} {M_two : Int32} {M_three : Int32} {M_begins : Int32} {M_done : Int32} {M_stopBy : Int32} {M_hash : Int64} {M_s : Nat → Int32} {M_saved : Nat → Int32} {M_snapshot : Nat → Int32} {M_text : Nat → Int32} {res : Int32} (hf : s_X11_canFasten a1 a2 M_s = some res) : Ct k_X11_canFasten [.ref 0, .int a1, .int a2] [.inl (6, [.ref 1, .ref 2, .int M_savedMany, .ref 3, .int M_isTaken, .ref 4, .int M_length, .int M_thrown, .int M_spelt, .int M_speltMany, .int M_place, .int M_kind, .int M_one, .int M_two, .int M_three, .int M_begins, .int M_done, .int M_stopBy, .long M_hash]), .inr (406, .inl M_s), .inr (2436, .inl M_saved), .inr (406, .inl M_snapshot), .inr (60, .inl M_text)] (.inl (some (.int res))) [.inl (6, [.ref 1, .ref 2, .int M_savedMany, .ref 3, .int M_isTaken, .ref 4, .int M_length, .int M_thrown, .int M_spelt, .int M_speltMany, .int M_place, .int M_kind, .int M_one, .int M_two, .int M_three, .int M_begins, .int M_done, .int M_stopBy, .long M_hash]), .inr (406, .inl M_s), .inr (2436, .inl M_saved), .inr (406, .inl M_snapshot), .inr (60, .inl M_text)] := by
  unfold s_X11_canFasten at hf
  refine Ct.of (L := [some (.ref 0), some (.int a1), some (.int a2), none, none, none]) cal_X11_canFasten (fent_pad (j := 3) rfl) (Nat.le_of_ble_eq_true rfl) ?_
  refine V.iload_n (i := 1) dX11_canFasten_0 rfl rfl ?_
  refine V.iload_n (i := 2) dX11_canFasten_1 rfl rfl ?_
  obtain ⟨v1, hv1, hf⟩ := fbind hf
  refine V.callSn (pl := []) (σ' := [.inl (6, [.ref 1, .ref 2, .int M_savedMany, .ref 3, .int M_isTaken, .ref 4, .int M_length, .int M_thrown, .int M_spelt, .int M_speltMany, .int M_place, .int M_kind, .int M_one, .int M_two, .int M_three, .int M_begins, .int M_done, .int M_stopBy, .long M_hash]), .inr (406, .inl M_s), .inr (2436, .inl M_saved), .inr (406, .inl M_snapshot), .inr (60, .inl M_text)]) (st2 := [.int v1]) (cl2 := 0) (sl2 := 0) (ct_X11_whereIs (a0 := a1) (a1 := a2) hv1) dX11_canFasten_2 w1147 w1148 cal_X11_whereIs ⟨⟨Nat.le_of_ble_eq_true rfl, Nat.le_of_ble_eq_true rfl⟩, Nat.le_of_ble_eq_true rfl, Nat.le_of_ble_eq_true rfl⟩ (Nat.le_of_ble_eq_true rfl) rfl ⟨rfl, ⟨by decide, by decide⟩, rfl, (fr_nil), rfl⟩ fr_i rfl rfl rfl rfl ?_
  refine V.istore_n (i := 3) (L' := [some (.ref 0), some (.int a1), some (.int a2), some (.int v1), none, none]) dX11_canFasten_5 rfl (Nat.le_of_ble_eq_true rfl) rfl rfl ?_
  refine V.iconst (v := 0) dX11_canFasten_6 rfl ?_
  refine V.istore (i := 4) (L' := [some (.ref 0), some (.int a1), some (.int a2), some (.int v1), some (.int 0), none]) dX11_canFasten_7 (Nat.le_of_ble_eq_true rfl) rfl rfl ?_
  refine V.iconst (v := 0) dX11_canFasten_9 rfl ?_
  refine V.istore (i := 5) (L' := [some (.ref 0), some (.int a1), some (.int a2), some (.int v1), some (.int 0), some (.int 0)]) dX11_canFasten_10 (Nat.le_of_ble_eq_true rfl) rfl rfl ?_
  obtain ⟨r8, hr8, hf⟩ := fbind hf
  refine v_X11_canFasten_L12 gF hr8 ?_
  refine V.iload (i := 4) dX11_canFasten_73 rfl ?_
  refine V.aload_n (i := 0) dX11_canFasten_75 rfl rfl ?_
  refine V.iload_n (i := 1) dX11_canFasten_76 rfl rfl ?_
  obtain ⟨v9, hv9, hf⟩ := fbind hf
  refine V.callVn (pl := [0, 1, 2, 3, 4]) (σ' := [.inl (6, [.ref 1, .ref 2, .int M_savedMany, .ref 3, .int M_isTaken, .ref 4, .int M_length, .int M_thrown, .int M_spelt, .int M_speltMany, .int M_place, .int M_kind, .int M_one, .int M_two, .int M_three, .int M_begins, .int M_done, .int M_stopBy, .long M_hash]), .inr (406, .inl M_s), .inr (2436, .inl M_saved), .inr (406, .inl M_snapshot), .inr (60, .inl M_text)]) (st2 := [.int v9, .int r8.1]) (cl2 := 0) (sl2 := 0) (ct_X11_left (a1 := a1) (M_savedMany := M_savedMany) (M_isTaken := M_isTaken) (M_length := M_length) (M_thrown := M_thrown) (M_spelt := M_spelt) (M_speltMany := M_speltMany) (M_place := M_place) (M_kind := M_kind) (M_one := M_one) (M_two := M_two) (M_three := M_three) (M_begins := M_begins) (M_done := M_done) (M_stopBy := M_stopBy) (M_hash := M_hash) (M_s := M_s) (M_saved := M_saved) (M_snapshot := M_snapshot) (M_text := M_text) hv9) dX11_canFasten_77 w1139 ⟨w1141, w11⟩ cal_X11_left rfl ⟨⟨Nat.le_of_ble_eq_true rfl, Nat.le_of_ble_eq_true rfl⟩, Nat.le_of_ble_eq_true rfl, Nat.le_of_ble_eq_true rfl⟩ (Nat.le_of_ble_eq_true rfl) (Or.inl ⟨_, _, _, _, rfl, rfl⟩) rfl ⟨rfl, ⟨by decide, by decide⟩, rfl, (fr_cons (Or.inl (Nat.le_of_ble_eq_true rfl)) (fr_cons (Or.inl (Nat.le_of_ble_eq_true rfl)) (fr_cons (Or.inl (Nat.le_of_ble_eq_true rfl)) (fr_cons (Or.inl (Nat.le_of_ble_eq_true rfl)) (fr_nil))))), rfl⟩ fr_i rfl rfl rfl rfl ?_
  refine V.icmp_gt (tgt := 87) dX11_canFasten_80 (by decide) (fun h => ?_) (fun h => ?_)
  · have hf := fif_t h hf
    refine V.iconst (v := 0) dX11_canFasten_87 rfl ?_
    obtain rfl := Option.some.inj hf
    exact V.zret (v := 0) dX11_canFasten_88 rfl (by decide +kernel) (Nat.le_of_ble_eq_true rfl) (Nat.le_of_ble_eq_true rfl) rfl
  · have hf := fif_f h hf
    refine V.iconst (v := 1) dX11_canFasten_83 rfl ?_
    refine V.goto (tgt := 88) dX11_canFasten_84 (by decide) ?_
    obtain rfl := Option.some.inj hf
    exact V.zret (v := 1) dX11_canFasten_88 rfl (by decide +kernel) (Nat.le_of_ble_eq_true rfl) (Nat.le_of_ble_eq_true rfl) rfl
def k_X11_doFast : fK := (yX11_doFast, cX11_doFast, 6, (some .int), [], (4, 84), (0, 0), (0, 0))
theorem cal_X11_doFast : fCal k_X11_doFast 2 := ⟨⟨wc1223, w73⟩, ⟨by decide +kernel, by decide +kernel⟩, by decide +kernel, by decide +kernel⟩
def s_X11_doFast_L31 (p3 : Int32) : Nat → Int32 → (Nat → Int32) → Option (Int32 × (Nat → Int32))
  | 0, _, _ => none
  | n + 1, x5, M_s => (s_X11_knots p3 M_s).bind fun v6 => if (v6 ≤ x5 : Prop) then (some (x5, M_s)) else (fld 406 M_s ((p3 + 3) + x5) fun v7 => if (v7 = 1 : Prop) then (fld 406 M_s (p3 + 2) fun v8 => fst 406 M_s (p3 + 2) (v8 + (1 <<< ((4 * x5) &&& 31))) fun s9 => fst 406 s9 ((p3 + 3) + x5) 0 fun s10 => s_X11_doFast_L31 p3 n (x5 + 1) s10) else (s_X11_doFast_L31 p3 n (x5 + 1) M_s))
set_option maxHeartbeats 4000000 in
set_option maxRecDepth 100000 in
theorem v_X11_doFast_L31 {out : fO} {σ' : List fE} {p1 : Int32} {p2 : Int32} {p3 : Int32} {p4 : Int32} {M_savedMany : Int32} {M_isTaken : Int32} {M_length : Int32} {M_thrown : Int32} {M_spelt : Int32} {M_speltMany : Int32} {M_place : Int32} {M_kind : Int32} {M_one : Int32} {M_two : Int32} {M_three : Int32} {M_begins : Int32} {M_done : Int32} {M_stopBy : Int32} {M_hash : Int64} {M_saved : Nat → Int32} {M_snapshot : Nat → Int32} {M_text : Nat → Int32} : ∀ (n : Nat) {x5 : Int32} {M_s : (Nat → Int32)} {res : Int32 × (Nat → Int32)} (hf : s_X11_doFast_L31 p3 n x5 M_s = some res) (hx : V (fXm 5 k_X11_doFast out σ') (krm k_X11_doFast) k_X11_doFast 5 91 [some (.ref 0), some (.int p1), some (.int p2), some (.int p3), some (.int p4), some (.int res.1)] [] [.inl (6, [.ref 1, .ref 2, .int M_savedMany, .ref 3, .int M_isTaken, .ref 4, .int M_length, .int M_thrown, .int M_spelt, .int M_speltMany, .int M_place, .int M_kind, .int M_one, .int M_two, .int M_three, .int M_begins, .int M_done, .int M_stopBy, .long M_hash]), .inr (406, .inl res.2), .inr (2436, .inl M_saved), .inr (406, .inl M_snapshot), .inr (60, .inl M_text)] 0 0), V (fXm 5 k_X11_doFast out σ') (krm k_X11_doFast) k_X11_doFast 5 31 [some (.ref 0), some (.int p1), some (.int p2), some (.int p3), some (.int p4), some (.int x5)] [] [.inl (6, [.ref 1, .ref 2, .int M_savedMany, .ref 3, .int M_isTaken, .ref 4, .int M_length, .int M_thrown, .int M_spelt, .int M_speltMany, .int M_place, .int M_kind, .int M_one, .int M_two, .int M_three, .int M_begins, .int M_done, .int M_stopBy, .long M_hash]), .inr (406, .inl M_s), .inr (2436, .inl M_saved), .inr (406, .inl M_snapshot), .inr (60, .inl M_text)] 0 0 := by
  intro n
  induction n with
  | zero =>
    intro x5 M_s res hf hx
    rw [s_X11_doFast_L31] at hf
    cases hf
  | succ n ih =>
    intro x5 M_s res hf hx
    rw [s_X11_doFast_L31] at hf
    refine V.iload (i := 5) dX11_doFast_31 rfl ?_
    refine V.aload_n (i := 0) dX11_doFast_33 rfl rfl ?_
    refine V.iload_n (i := 3) dX11_doFast_34 rfl rfl ?_
    obtain ⟨v6, hv6, hf⟩ := fbind hf
    refine V.callVn (pl := [0, 1, 2, 3, 4]) (σ' := [.inl (6, [.ref 1, .ref 2, .int M_savedMany, .ref 3, .int M_isTaken, .ref 4, .int M_length, .int M_thrown, .int M_spelt, .int M_speltMany, .int M_place, .int M_kind, .int M_one, .int M_two, .int M_three, .int M_begins, .int M_done, .int M_stopBy, .long M_hash]), .inr (406, .inl M_s), .inr (2436, .inl M_saved), .inr (406, .inl M_snapshot), .inr (60, .inl M_text)]) (st2 := [.int v6, .int x5]) (cl2 := 0) (sl2 := 0) (ct_X11_knots (a1 := p3) (M_savedMany := M_savedMany) (M_isTaken := M_isTaken) (M_length := M_length) (M_thrown := M_thrown) (M_spelt := M_spelt) (M_speltMany := M_speltMany) (M_place := M_place) (M_kind := M_kind) (M_one := M_one) (M_two := M_two) (M_three := M_three) (M_begins := M_begins) (M_done := M_done) (M_stopBy := M_stopBy) (M_hash := M_hash) (M_s := M_s) (M_saved := M_saved) (M_snapshot := M_snapshot) (M_text := M_text) hv6) dX11_doFast_35 w1154 ⟨w1156, w14⟩ cal_X11_knots rfl ⟨⟨Nat.le_of_ble_eq_true rfl, Nat.le_of_ble_eq_true rfl⟩, Nat.le_of_ble_eq_true rfl, Nat.le_of_ble_eq_true rfl⟩ (Nat.le_of_ble_eq_true rfl) (Or.inl ⟨_, _, _, _, rfl, rfl⟩) rfl ⟨rfl, ⟨by decide, by decide⟩, rfl, (fr_cons (Or.inl (Nat.le_of_ble_eq_true rfl)) (fr_cons (Or.inl (Nat.le_of_ble_eq_true rfl)) (fr_cons (Or.inl (Nat.le_of_ble_eq_true rfl)) (fr_cons (Or.inl (Nat.le_of_ble_eq_true rfl)) (fr_nil))))), rfl⟩ fr_i rfl rfl rfl rfl ?_
    refine V.icmp_ge (tgt := 91) dX11_doFast_38 (by decide) (fun h => ?_) (fun h => ?_)
    · have hf := fif_t h hf
      obtain rfl := Option.some.inj hf
      exact hx
    · have hf := fif_f h hf
      refine V.aload_n (i := 0) dX11_doFast_41 rfl rfl ?_
      refine V.getfield (kf := 0) (v := .ref 1) fl_RX11 dX11_doFast_42 w1043 (Nat.le_of_ble_eq_true rfl) rfl rfl ?_
      refine V.iload_n (i := 3) dX11_doFast_45 rfl rfl ?_
      refine V.iconst (v := 3) dX11_doFast_46 rfl ?_
      refine V.iadd dX11_doFast_47 ?_
      refine V.iload (i := 5) dX11_doFast_48 rfl ?_
      refine V.iadd dX11_doFast_50 ?_
      obtain ⟨hi, v7, ev7, hf⟩ := fld_e hf
      refine V.fld dX11_doFast_51 rfl hi ev7 ?_
      refine V.iconst (v := 1) dX11_doFast_52 rfl ?_
      refine V.icmp_ne (tgt := 85) dX11_doFast_53 (by decide) (fun h => ?_) (fun h => ?_)
      · have hf := fif_f h hf
        refine V.iinc (i := 5) (v := (x5 + 1)) (L' := [some (.ref 0), some (.int p1), some (.int p2), some (.int p3), some (.int p4), some (.int (x5 + 1))]) dX11_doFast_85 rfl rfl (Nat.le_of_ble_eq_true rfl) rfl rfl ?_
        refine V.goto (tgt := 31) dX11_doFast_88 (by decide) ?_
        exact ih hf hx
      · have hf := fif_t h hf
        refine V.aload_n (i := 0) dX11_doFast_56 rfl rfl ?_
        refine V.getfield (kf := 0) (v := .ref 1) fl_RX11 dX11_doFast_57 w1043 (Nat.le_of_ble_eq_true rfl) rfl rfl ?_
        refine V.iload_n (i := 3) dX11_doFast_60 rfl rfl ?_
        refine V.iconst (v := 2) dX11_doFast_61 rfl ?_
        refine V.iadd dX11_doFast_62 ?_
        refine V.dup2 dX11_doFast_63 rfl rfl ?_
        obtain ⟨hi, v8, ev8, hf⟩ := fld_e hf
        refine V.fld dX11_doFast_64 rfl hi ev8 ?_
        refine V.iconst (v := 1) dX11_doFast_65 rfl ?_
        refine V.iconst (v := 4) dX11_doFast_66 rfl ?_
        refine V.iload (i := 5) dX11_doFast_67 rfl ?_
        refine V.imul dX11_doFast_69 ?_
        refine V.ishl dX11_doFast_70 ?_
        refine V.iadd dX11_doFast_71 ?_
        obtain ⟨hi, s9, es9, hf⟩ := fst_e hf
        refine V.fst (σ' := [.inl (6, [.ref 1, .ref 2, .int M_savedMany, .ref 3, .int M_isTaken, .ref 4, .int M_length, .int M_thrown, .int M_spelt, .int M_speltMany, .int M_place, .int M_kind, .int M_one, .int M_two, .int M_three, .int M_begins, .int M_done, .int M_stopBy, .long M_hash]), .inr (406, .inl s9), .inr (2436, .inl M_saved), .inr (406, .inl M_snapshot), .inr (60, .inl M_text)]) dX11_doFast_72 rfl hi es9 rfl ?_
        refine V.aload_n (i := 0) dX11_doFast_73 rfl rfl ?_
        refine V.getfield (kf := 0) (v := .ref 1) fl_RX11 dX11_doFast_74 w1043 (Nat.le_of_ble_eq_true rfl) rfl rfl ?_
        refine V.iload_n (i := 3) dX11_doFast_77 rfl rfl ?_
        refine V.iconst (v := 3) dX11_doFast_78 rfl ?_
        refine V.iadd dX11_doFast_79 ?_
        refine V.iload (i := 5) dX11_doFast_80 rfl ?_
        refine V.iadd dX11_doFast_82 ?_
        refine V.iconst (v := 0) dX11_doFast_83 rfl ?_
        obtain ⟨hi, s10, es10, hf⟩ := fst_e hf
        refine V.fst (σ' := [.inl (6, [.ref 1, .ref 2, .int M_savedMany, .ref 3, .int M_isTaken, .ref 4, .int M_length, .int M_thrown, .int M_spelt, .int M_speltMany, .int M_place, .int M_kind, .int M_one, .int M_two, .int M_three, .int M_begins, .int M_done, .int M_stopBy, .long M_hash]), .inr (406, .inl s10), .inr (2436, .inl M_saved), .inr (406, .inl M_snapshot), .inr (60, .inl M_text)]) dX11_doFast_84 rfl hi es10 rfl ?_
        refine V.iinc (i := 5) (v := (x5 + 1)) (L' := [some (.ref 0), some (.int p1), some (.int p2), some (.int p3), some (.int p4), some (.int (x5 + 1))]) dX11_doFast_85 rfl rfl (Nat.le_of_ble_eq_true rfl) rfl rfl ?_
        refine V.goto (tgt := 31) dX11_doFast_88 (by decide) ?_
        exact ih hf hx
def s_X11_doFast (a1 : Int32) (a2 : Int32) (M_s : Nat → Int32) : Option (Int32 × (Nat → Int32)) := (s_X11_whereIs a1 a2).bind fun v1 => (s_X11_tightened a1 a2 M_s).bind fun v2 => fld 406 M_s 3 fun v3 => (s_X11_cordOf v1 M_s).bind fun v4 => fst 406 M_s 3 (v3 - v4) fun s5 => (s_X11_doFast_L31 v1 gF 0 s5).bind fun r11 => fld 406 r11.2 3 fun v12 => (s_X11_cordOf v1 r11.2).bind fun v13 => fst 406 r11.2 3 (v12 + v13) fun s14 => some (v2, s14)
set_option maxHeartbeats 4000000 in
set_option maxRecDepth 100000 in
theorem ct_X11_doFast {a1 : Int32} {a2 : Int32} {M_savedMany : Int32} {M_isTaken : Int32} {M_length : Int32} {M_thrown : Int32} {M_spelt : Int32} {M_speltMany : Int32} {M_place : Int32} {M_kind : Int32} {M_one : Int32} {M_two : Int32} {M_three : Int32} {M_begins : Int32} {M_done : Int32} {M_stopBy : Int32} {M_hash : Int64} {M_s : Nat → Int32} {M_saved : Nat → Int32} {M_snapshot : Nat → Int32} {M_text : Nat → Int32} {res : Int32 × (Nat → Int32)} (hf : s_X11_doFast a1 a2 M_s = some res) : Ct k_X11_doFast [.ref 0, .int a1, .int a2] [.inl (6, [.ref 1, .ref 2, .int M_savedMany, .ref 3, .int M_isTaken, .ref 4, .int M_length, .int M_thrown, .int M_spelt, .int M_speltMany, .int M_place, .int M_kind, .int M_one, .int M_two, .int M_three, .int M_begins, .int M_done, .int M_stopBy, .long M_hash]), .inr (406, .inl M_s), .inr (2436, .inl M_saved), .inr (406, .inl M_snapshot), .inr (60, .inl M_text)] (.inl (some (.int res.1))) [.inl (6, [.ref 1, .ref 2, .int M_savedMany, .ref 3, .int M_isTaken, .ref 4, .int M_length, .int M_thrown, .int M_spelt, .int M_speltMany, .int M_place, .int M_kind, .int M_one, .int M_two, .int M_three, .int M_begins, .int M_done, .int M_stopBy, .long M_hash]), .inr (406, .inl res.2), .inr (2436, .inl M_saved), .inr (406, .inl M_snapshot), .inr (60, .inl M_text)] := by
  unfold s_X11_doFast at hf
  refine Ct.of (L := [some (.ref 0), some (.int a1), some (.int a2), none, none, none]) cal_X11_doFast (fent_pad (j := 3) rfl) (Nat.le_of_ble_eq_true rfl) ?_
  refine V.iload_n (i := 1) dX11_doFast_0 rfl rfl ?_
  refine V.iload_n (i := 2) dX11_doFast_1 rfl rfl ?_
  obtain ⟨v1, hv1, hf⟩ := fbind hf
  refine V.callSn (pl := []) (σ' := [.inl (6, [.ref 1, .ref 2, .int M_savedMany, .ref 3, .int M_isTaken, .ref 4, .int M_length, .int M_thrown, .int M_spelt, .int M_speltMany, .int M_place, .int M_kind, .int M_one, .int M_two, .int M_three, .int M_begins, .int M_done, .int M_stopBy, .long M_hash]), .inr (406, .inl M_s), .inr (2436, .inl M_saved), .inr (406, .inl M_snapshot), .inr (60, .inl M_text)]) (st2 := [.int v1]) (cl2 := 0) (sl2 := 0) (ct_X11_whereIs (a0 := a1) (a1 := a2) hv1) dX11_doFast_2 w1147 w1148 cal_X11_whereIs ⟨⟨Nat.le_of_ble_eq_true rfl, Nat.le_of_ble_eq_true rfl⟩, Nat.le_of_ble_eq_true rfl, Nat.le_of_ble_eq_true rfl⟩ (Nat.le_of_ble_eq_true rfl) rfl ⟨rfl, ⟨by decide, by decide⟩, rfl, (fr_nil), rfl⟩ fr_i rfl rfl rfl rfl ?_
  refine V.istore_n (i := 3) (L' := [some (.ref 0), some (.int a1), some (.int a2), some (.int v1), none, none]) dX11_doFast_5 rfl (Nat.le_of_ble_eq_true rfl) rfl rfl ?_
  refine V.aload_n (i := 0) dX11_doFast_6 rfl rfl ?_
  refine V.iload_n (i := 1) dX11_doFast_7 rfl rfl ?_
  refine V.iload_n (i := 2) dX11_doFast_8 rfl rfl ?_
  obtain ⟨v2, hv2, hf⟩ := fbind hf
  refine V.callVn (pl := [0, 1, 2, 3, 4]) (σ' := [.inl (6, [.ref 1, .ref 2, .int M_savedMany, .ref 3, .int M_isTaken, .ref 4, .int M_length, .int M_thrown, .int M_spelt, .int M_speltMany, .int M_place, .int M_kind, .int M_one, .int M_two, .int M_three, .int M_begins, .int M_done, .int M_stopBy, .long M_hash]), .inr (406, .inl M_s), .inr (2436, .inl M_saved), .inr (406, .inl M_snapshot), .inr (60, .inl M_text)]) (st2 := [.int v2]) (cl2 := 0) (sl2 := 0) (ct_X11_tightened (a1 := a1) (a2 := a2) (M_savedMany := M_savedMany) (M_isTaken := M_isTaken) (M_length := M_length) (M_thrown := M_thrown) (M_spelt := M_spelt) (M_speltMany := M_speltMany) (M_place := M_place) (M_kind := M_kind) (M_one := M_one) (M_two := M_two) (M_three := M_three) (M_begins := M_begins) (M_done := M_done) (M_stopBy := M_stopBy) (M_hash := M_hash) (M_s := M_s) (M_saved := M_saved) (M_snapshot := M_snapshot) (M_text := M_text) hv2) dX11_doFast_9 w1224 ⟨w1226, w28⟩ cal_X11_tightened rfl ⟨⟨Nat.le_of_ble_eq_true rfl, Nat.le_of_ble_eq_true rfl⟩, Nat.le_of_ble_eq_true rfl, Nat.le_of_ble_eq_true rfl⟩ (Nat.le_of_ble_eq_true rfl) (Or.inl ⟨_, _, _, _, rfl, rfl⟩) rfl ⟨rfl, ⟨by decide, by decide⟩, rfl, (fr_cons (Or.inl (Nat.le_of_ble_eq_true rfl)) (fr_cons (Or.inl (Nat.le_of_ble_eq_true rfl)) (fr_cons (Or.inl (Nat.le_of_ble_eq_true rfl)) (fr_cons (Or.inl (Nat.le_of_ble_eq_true rfl)) (fr_nil))))), rfl⟩ fr_i rfl rfl rfl rfl ?_
  refine V.istore (i := 4) (L' := [some (.ref 0), some (.int a1), some (.int a2), some (.int v1), some (.int v2), none]) dX11_doFast_12 (Nat.le_of_ble_eq_true rfl) rfl rfl ?_
  refine V.aload_n (i := 0) dX11_doFast_14 rfl rfl ?_
  refine V.getfield (kf := 0) (v := .ref 1) fl_RX11 dX11_doFast_15 w1043 (Nat.le_of_ble_eq_true rfl) rfl rfl ?_
  refine V.iconst (v := 3) dX11_doFast_18 rfl ?_
  refine V.dup2 dX11_doFast_19 rfl rfl ?_
  obtain ⟨hi, v3, ev3, hf⟩ := fld_e hf
  refine V.fld dX11_doFast_20 rfl hi ev3 ?_
  refine V.aload_n (i := 0) dX11_doFast_21 rfl rfl ?_
  refine V.iload_n (i := 3) dX11_doFast_22 rfl rfl ?_
  obtain ⟨v4, hv4, hf⟩ := fbind hf
  refine V.callVn (pl := [0, 1, 2, 3, 4]) (σ' := [.inl (6, [.ref 1, .ref 2, .int M_savedMany, .ref 3, .int M_isTaken, .ref 4, .int M_length, .int M_thrown, .int M_spelt, .int M_speltMany, .int M_place, .int M_kind, .int M_one, .int M_two, .int M_three, .int M_begins, .int M_done, .int M_stopBy, .long M_hash]), .inr (406, .inl M_s), .inr (2436, .inl M_saved), .inr (406, .inl M_snapshot), .inr (60, .inl M_text)]) (st2 := [.int v4, .int v3, .int 3, .ref 1]) (cl2 := 0) (sl2 := 0) (ct_X11_cordOf (a1 := v1) (M_savedMany := M_savedMany) (M_isTaken := M_isTaken) (M_length := M_length) (M_thrown := M_thrown) (M_spelt := M_spelt) (M_speltMany := M_speltMany) (M_place := M_place) (M_kind := M_kind) (M_one := M_one) (M_two := M_two) (M_three := M_three) (M_begins := M_begins) (M_done := M_done) (M_stopBy := M_stopBy) (M_hash := M_hash) (M_s := M_s) (M_saved := M_saved) (M_snapshot := M_snapshot) (M_text := M_text) hv4) dX11_doFast_23 w1150 ⟨w1152, w13⟩ cal_X11_cordOf rfl ⟨⟨Nat.le_of_ble_eq_true rfl, Nat.le_of_ble_eq_true rfl⟩, Nat.le_of_ble_eq_true rfl, Nat.le_of_ble_eq_true rfl⟩ (Nat.le_of_ble_eq_true rfl) (Or.inl ⟨_, _, _, _, rfl, rfl⟩) rfl ⟨rfl, ⟨by decide, by decide⟩, rfl, (fr_cons (Or.inl (Nat.le_of_ble_eq_true rfl)) (fr_cons (Or.inl (Nat.le_of_ble_eq_true rfl)) (fr_cons (Or.inl (Nat.le_of_ble_eq_true rfl)) (fr_cons (Or.inl (Nat.le_of_ble_eq_true rfl)) (fr_nil))))), rfl⟩ fr_i rfl rfl rfl rfl ?_
  refine V.isub dX11_doFast_26 ?_
  obtain ⟨hi, s5, es5, hf⟩ := fst_e hf
  refine V.fst (σ' := [.inl (6, [.ref 1, .ref 2, .int M_savedMany, .ref 3, .int M_isTaken, .ref 4, .int M_length, .int M_thrown, .int M_spelt, .int M_speltMany, .int M_place, .int M_kind, .int M_one, .int M_two, .int M_three, .int M_begins, .int M_done, .int M_stopBy, .long M_hash]), .inr (406, .inl s5), .inr (2436, .inl M_saved), .inr (406, .inl M_snapshot), .inr (60, .inl M_text)]) dX11_doFast_27 rfl hi es5 rfl ?_
  refine V.iconst (v := 0) dX11_doFast_28 rfl ?_
  refine V.istore (i := 5) (L' := [some (.ref 0), some (.int a1), some (.int a2), some (.int v1), some (.int v2), some (.int 0)]) dX11_doFast_29 (Nat.le_of_ble_eq_true rfl) rfl rfl ?_
  obtain ⟨r11, hr11, hf⟩ := fbind hf
  refine v_X11_doFast_L31 gF hr11 ?_
  refine V.aload_n (i := 0) dX11_doFast_91 rfl rfl ?_
  refine V.getfield (kf := 0) (v := .ref 1) fl_RX11 dX11_doFast_92 w1043 (Nat.le_of_ble_eq_true rfl) rfl rfl ?_
  refine V.iconst (v := 3) dX11_doFast_95 rfl ?_
  refine V.dup2 dX11_doFast_96 rfl rfl ?_
  obtain ⟨hi, v12, ev12, hf⟩ := fld_e hf
  refine V.fld dX11_doFast_97 rfl hi ev12 ?_
  refine V.aload_n (i := 0) dX11_doFast_98 rfl rfl ?_
  refine V.iload_n (i := 3) dX11_doFast_99 rfl rfl ?_
  obtain ⟨v13, hv13, hf⟩ := fbind hf
  refine V.callVn (pl := [0, 1, 2, 3, 4]) (σ' := [.inl (6, [.ref 1, .ref 2, .int M_savedMany, .ref 3, .int M_isTaken, .ref 4, .int M_length, .int M_thrown, .int M_spelt, .int M_speltMany, .int M_place, .int M_kind, .int M_one, .int M_two, .int M_three, .int M_begins, .int M_done, .int M_stopBy, .long M_hash]), .inr (406, .inl r11.2), .inr (2436, .inl M_saved), .inr (406, .inl M_snapshot), .inr (60, .inl M_text)]) (st2 := [.int v13, .int v12, .int 3, .ref 1]) (cl2 := 0) (sl2 := 0) (ct_X11_cordOf (a1 := v1) (M_savedMany := M_savedMany) (M_isTaken := M_isTaken) (M_length := M_length) (M_thrown := M_thrown) (M_spelt := M_spelt) (M_speltMany := M_speltMany) (M_place := M_place) (M_kind := M_kind) (M_one := M_one) (M_two := M_two) (M_three := M_three) (M_begins := M_begins) (M_done := M_done) (M_stopBy := M_stopBy) (M_hash := M_hash) (M_s := r11.2) (M_saved := M_saved) (M_snapshot := M_snapshot) (M_text := M_text) hv13) dX11_doFast_100 w1150 ⟨w1152, w13⟩ cal_X11_cordOf rfl ⟨⟨Nat.le_of_ble_eq_true rfl, Nat.le_of_ble_eq_true rfl⟩, Nat.le_of_ble_eq_true rfl, Nat.le_of_ble_eq_true rfl⟩ (Nat.le_of_ble_eq_true rfl) (Or.inl ⟨_, _, _, _, rfl, rfl⟩) rfl ⟨rfl, ⟨by decide, by decide⟩, rfl, (fr_cons (Or.inl (Nat.le_of_ble_eq_true rfl)) (fr_cons (Or.inl (Nat.le_of_ble_eq_true rfl)) (fr_cons (Or.inl (Nat.le_of_ble_eq_true rfl)) (fr_cons (Or.inl (Nat.le_of_ble_eq_true rfl)) (fr_nil))))), rfl⟩ fr_i rfl rfl rfl rfl ?_
  refine V.iadd dX11_doFast_103 ?_
  obtain ⟨hi, s14, es14, hf⟩ := fst_e hf
  refine V.fst (σ' := [.inl (6, [.ref 1, .ref 2, .int M_savedMany, .ref 3, .int M_isTaken, .ref 4, .int M_length, .int M_thrown, .int M_spelt, .int M_speltMany, .int M_place, .int M_kind, .int M_one, .int M_two, .int M_three, .int M_begins, .int M_done, .int M_stopBy, .long M_hash]), .inr (406, .inl s14), .inr (2436, .inl M_saved), .inr (406, .inl M_snapshot), .inr (60, .inl M_text)]) dX11_doFast_104 rfl hi es14 rfl ?_
  refine V.iload (i := 4) dX11_doFast_105 rfl ?_
  obtain rfl := Option.some.inj hf
  exact V.iret dX11_doFast_107 rfl (Nat.le_of_ble_eq_true rfl) (Nat.le_of_ble_eq_true rfl) rfl
def k_X11_loosens : fK := (yX11_loosens, cX11_loosens, 4, (some .boolean), [], (2, 43), (0, 0), (0, 0))
theorem cal_X11_loosens : fCal k_X11_loosens 3 := ⟨⟨wc1251, w73⟩, ⟨by decide +kernel, by decide +kernel⟩, by decide +kernel, by decide +kernel⟩
def s_X11_loosens (a1 : Int32) (a2 : Int32) (a3 : Int32) (M_s : Nat → Int32) : Option (Int32) := (s_X11_tiedAs a1 a2 M_s).bind fun v1 => (s_X11_isVowel v1).bind fun v2 => if (v2 = 0 : Prop) then (some 0) else (fld 406 M_s 4 fun v3 => fnz v3 (if ((((a2 + 1) + a3) - ((a2 + 1) + a3) / v3 * v3) = 0 : Prop) then (some 1) else (some 0)))
set_option maxHeartbeats 4000000 in
set_option maxRecDepth 100000 in
theorem ct_X11_loosens {a1 : Int32} {a2 : Int32} {a3 : Int32} {M_savedMany : Int32} {M_isTaken : Int32} {M_length : Int32} {M_thrown : Int32} {M_spelt : Int32} {M_speltMany : Int32} {M_place : Int32} {M_kind : Int32} {M_one : Int32} {M_two : Int32} {M_three : Int32} {M_begins : Int32} {M_done : Int32} {M_stopBy : Int32} {M_hash : Int64} {M_s : Nat → Int32} {M_saved : Nat → Int32} {M_snapshot : Nat → Int32} {M_text : Nat → Int32} {res : Int32} (hf : s_X11_loosens a1 a2 a3 M_s = some res) : Ct k_X11_loosens [.ref 0, .int a1, .int a2, .int a3] [.inl (6, [.ref 1, .ref 2, .int M_savedMany, .ref 3, .int M_isTaken, .ref 4, .int M_length, .int M_thrown, .int M_spelt, .int M_speltMany, .int M_place, .int M_kind, .int M_one, .int M_two, .int M_three, .int M_begins, .int M_done, .int M_stopBy, .long M_hash]), .inr (406, .inl M_s), .inr (2436, .inl M_saved), .inr (406, .inl M_snapshot), .inr (60, .inl M_text)] (.inl (some (.int res))) [.inl (6, [.ref 1, .ref 2, .int M_savedMany, .ref 3, .int M_isTaken, .ref 4, .int M_length, .int M_thrown, .int M_spelt, .int M_speltMany, .int M_place, .int M_kind, .int M_one, .int M_two, .int M_three, .int M_begins, .int M_done, .int M_stopBy, .long M_hash]), .inr (406, .inl M_s), .inr (2436, .inl M_saved), .inr (406, .inl M_snapshot), .inr (60, .inl M_text)] := by
  unfold s_X11_loosens at hf
  refine Ct.of (L := [some (.ref 0), some (.int a1), some (.int a2), some (.int a3)]) cal_X11_loosens (fent_pad (j := 0) rfl) (Nat.le_of_ble_eq_true rfl) ?_
  refine V.aload_n (i := 0) dX11_loosens_0 rfl rfl ?_
  refine V.iload_n (i := 1) dX11_loosens_1 rfl rfl ?_
  refine V.iload_n (i := 2) dX11_loosens_2 rfl rfl ?_
  obtain ⟨v1, hv1, hf⟩ := fbind hf
  refine V.callVn (pl := [0, 1, 2, 3, 4]) (σ' := [.inl (6, [.ref 1, .ref 2, .int M_savedMany, .ref 3, .int M_isTaken, .ref 4, .int M_length, .int M_thrown, .int M_spelt, .int M_speltMany, .int M_place, .int M_kind, .int M_one, .int M_two, .int M_three, .int M_begins, .int M_done, .int M_stopBy, .long M_hash]), .inr (406, .inl M_s), .inr (2436, .inl M_saved), .inr (406, .inl M_snapshot), .inr (60, .inl M_text)]) (st2 := [.int v1]) (cl2 := 0) (sl2 := 0) (ct_X11_tiedAs (a1 := a1) (a2 := a2) (M_savedMany := M_savedMany) (M_isTaken := M_isTaken) (M_length := M_length) (M_thrown := M_thrown) (M_spelt := M_spelt) (M_speltMany := M_speltMany) (M_place := M_place) (M_kind := M_kind) (M_one := M_one) (M_two := M_two) (M_three := M_three) (M_begins := M_begins) (M_done := M_done) (M_stopBy := M_stopBy) (M_hash := M_hash) (M_s := M_s) (M_saved := M_saved) (M_snapshot := M_snapshot) (M_text := M_text) hv1) dX11_loosens_3 w1174 ⟨w1176, w19⟩ cal_X11_tiedAs rfl ⟨⟨Nat.le_of_ble_eq_true rfl, Nat.le_of_ble_eq_true rfl⟩, Nat.le_of_ble_eq_true rfl, Nat.le_of_ble_eq_true rfl⟩ (Nat.le_of_ble_eq_true rfl) (Or.inl ⟨_, _, _, _, rfl, rfl⟩) rfl ⟨rfl, ⟨by decide, by decide⟩, rfl, (fr_cons (Or.inl (Nat.le_of_ble_eq_true rfl)) (fr_cons (Or.inl (Nat.le_of_ble_eq_true rfl)) (fr_cons (Or.inl (Nat.le_of_ble_eq_true rfl)) (fr_cons (Or.inl (Nat.le_of_ble_eq_true rfl)) (fr_nil))))), rfl⟩ fr_i rfl rfl rfl rfl ?_
  obtain ⟨v2, hv2, hf⟩ := fbind hf
  refine V.callSn (pl := []) (σ' := [.inl (6, [.ref 1, .ref 2, .int M_savedMany, .ref 3, .int M_isTaken, .ref 4, .int M_length, .int M_thrown, .int M_spelt, .int M_speltMany, .int M_place, .int M_kind, .int M_one, .int M_two, .int M_three, .int M_begins, .int M_done, .int M_stopBy, .long M_hash]), .inr (406, .inl M_s), .inr (2436, .inl M_saved), .inr (406, .inl M_snapshot), .inr (60, .inl M_text)]) (st2 := [.int v2]) (cl2 := 0) (sl2 := 0) (ct_X11_isVowel (a0 := v1) hv2) dX11_loosens_6 w1252 w1253 cal_X11_isVowel ⟨⟨Nat.le_of_ble_eq_true rfl, Nat.le_of_ble_eq_true rfl⟩, Nat.le_of_ble_eq_true rfl, Nat.le_of_ble_eq_true rfl⟩ (Nat.le_of_ble_eq_true rfl) rfl ⟨rfl, ⟨by decide, by decide⟩, rfl, (fr_nil), rfl⟩ fr_i rfl rfl rfl rfl ?_
  refine V.if_eq (tgt := 31) dX11_loosens_9 (by decide) (fun h => ?_) (fun h => ?_)
  · have hf := fif_t h hf
    refine V.iconst (v := 0) dX11_loosens_31 rfl ?_
    obtain rfl := Option.some.inj hf
    exact V.zret (v := 0) dX11_loosens_32 rfl (by decide +kernel) (Nat.le_of_ble_eq_true rfl) (Nat.le_of_ble_eq_true rfl) rfl
  · have hf := fif_f h hf
    refine V.iload_n (i := 2) dX11_loosens_12 rfl rfl ?_
    refine V.iconst (v := 1) dX11_loosens_13 rfl ?_
    refine V.iadd dX11_loosens_14 ?_
    refine V.iload_n (i := 3) dX11_loosens_15 rfl rfl ?_
    refine V.iadd dX11_loosens_16 ?_
    refine V.aload_n (i := 0) dX11_loosens_17 rfl rfl ?_
    refine V.getfield (kf := 0) (v := .ref 1) fl_RX11 dX11_loosens_18 w1043 (Nat.le_of_ble_eq_true rfl) rfl rfl ?_
    refine V.iconst (v := 4) dX11_loosens_21 rfl ?_
    obtain ⟨hi, v3, ev3, hf⟩ := fld_e hf
    refine V.fld dX11_loosens_22 rfl hi ev3 ?_
    obtain ⟨hz, hf⟩ := fnz_e hf
    refine V.irem dX11_loosens_23 hz ?_
    refine V.if_ne (tgt := 31) dX11_loosens_24 (by decide) (fun h => ?_) (fun h => ?_)
    · have hf := fif_f h hf
      refine V.iconst (v := 0) dX11_loosens_31 rfl ?_
      obtain rfl := Option.some.inj hf
      exact V.zret (v := 0) dX11_loosens_32 rfl (by decide +kernel) (Nat.le_of_ble_eq_true rfl) (Nat.le_of_ble_eq_true rfl) rfl
    · have hf := fif_t h hf
      refine V.iconst (v := 1) dX11_loosens_27 rfl ?_
      refine V.goto (tgt := 32) dX11_loosens_28 (by decide) ?_
      obtain rfl := Option.some.inj hf
      exact V.zret (v := 1) dX11_loosens_32 rfl (by decide +kernel) (Nat.le_of_ble_eq_true rfl) (Nat.le_of_ble_eq_true rfl) rfl
def k_X11_drown : fK := (yX11_drown, cX11_drown, 5, none, [], (5, 108), (0, 0), (0, 0))
theorem cal_X11_drown : fCal k_X11_drown 2 := ⟨⟨wc1258, w73⟩, ⟨by decide +kernel, by decide +kernel⟩, by decide +kernel, by decide +kernel⟩
def s_X11_drown_L15 : Nat → Int32 → (Nat → Int32) → Option (Int32 × (Nat → Int32))
  | 0, _, _ => none
  | n + 1, x3, M_s => if (402 ≤ x3 : Prop) then (some (x3, M_s)) else (fld 406 M_s (x3 + 4) fun v15 => fst 406 M_s x3 v15 fun s16 => s_X11_drown_L15 n (x3 + 1) s16)
set_option maxHeartbeats 4000000 in
set_option maxRecDepth 100000 in
theorem v_X11_drown_L15 {out : fO} {σ' : List fE} {p1 : Int32} {p2 : Int32} {M_savedMany : Int32} {M_isTaken : Int32} {M_length : Int32} {M_thrown : Int32} {M_spelt : Int32} {M_speltMany : Int32} {M_place : Int32} {M_kind : Int32} {M_one : Int32} {M_two : Int32} {M_three : Int32} {M_begins : Int32} {M_done : Int32} {M_stopBy : Int32} {M_hash : Int64} {M_saved : Nat → Int32} {M_snapshot : Nat → Int32} {M_text : Nat → Int32} : ∀ (n : Nat) {x3 : Int32} {M_s : (Nat → Int32)} {res : Int32 × (Nat → Int32)} (hf : s_X11_drown_L15 n x3 M_s = some res) (hx : V (fXm 5 k_X11_drown out σ') (krm k_X11_drown) k_X11_drown 5 42 [some (.ref 0), some (.int p1), some (.int p2), some (.int res.1), none] [] [.inl (6, [.ref 1, .ref 2, .int M_savedMany, .ref 3, .int M_isTaken, .ref 4, .int M_length, .int M_thrown, .int M_spelt, .int M_speltMany, .int M_place, .int M_kind, .int M_one, .int M_two, .int M_three, .int M_begins, .int M_done, .int M_stopBy, .long M_hash]), .inr (406, .inl res.2), .inr (2436, .inl M_saved), .inr (406, .inl M_snapshot), .inr (60, .inl M_text)] 0 0), V (fXm 5 k_X11_drown out σ') (krm k_X11_drown) k_X11_drown 5 15 [some (.ref 0), some (.int p1), some (.int p2), some (.int x3), none] [] [.inl (6, [.ref 1, .ref 2, .int M_savedMany, .ref 3, .int M_isTaken, .ref 4, .int M_length, .int M_thrown, .int M_spelt, .int M_speltMany, .int M_place, .int M_kind, .int M_one, .int M_two, .int M_three, .int M_begins, .int M_done, .int M_stopBy, .long M_hash]), .inr (406, .inl M_s), .inr (2436, .inl M_saved), .inr (406, .inl M_snapshot), .inr (60, .inl M_text)] 0 0 := by
  intro n
  induction n with
  | zero =>
    intro x3 M_s res hf hx
    rw [s_X11_drown_L15] at hf
    cases hf
  | succ n ih =>
    intro x3 M_s res hf hx
    rw [s_X11_drown_L15] at hf
    refine V.iload_n (i := 3) dX11_drown_15 rfl rfl ?_
    refine V.sipush (v := 402) dX11_drown_16 rfl ?_
    refine V.icmp_ge (tgt := 42) dX11_drown_19 (by decide) (fun h => ?_) (fun h => ?_)
    · have hf := fif_t h hf
      obtain rfl := Option.some.inj hf
      exact hx
    · have hf := fif_f h hf
      refine V.aload_n (i := 0) dX11_drown_22 rfl rfl ?_
      refine V.getfield (kf := 0) (v := .ref 1) fl_RX11 dX11_drown_23 w1043 (Nat.le_of_ble_eq_true rfl) rfl rfl ?_
      refine V.iload_n (i := 3) dX11_drown_26 rfl rfl ?_
      refine V.aload_n (i := 0) dX11_drown_27 rfl rfl ?_
      refine V.getfield (kf := 0) (v := .ref 1) fl_RX11 dX11_drown_28 w1043 (Nat.le_of_ble_eq_true rfl) rfl rfl ?_
      refine V.iload_n (i := 3) dX11_drown_31 rfl rfl ?_
      refine V.iconst (v := 4) dX11_drown_32 rfl ?_
      refine V.iadd dX11_drown_33 ?_
      obtain ⟨hi, v15, ev15, hf⟩ := fld_e hf
      refine V.fld dX11_drown_34 rfl hi ev15 ?_
      obtain ⟨hi, s16, es16, hf⟩ := fst_e hf
      refine V.fst (σ' := [.inl (6, [.ref 1, .ref 2, .int M_savedMany, .ref 3, .int M_isTaken, .ref 4, .int M_length, .int M_thrown, .int M_spelt, .int M_speltMany, .int M_place, .int M_kind, .int M_one, .int M_two, .int M_three, .int M_begins, .int M_done, .int M_stopBy, .long M_hash]), .inr (406, .inl s16), .inr (2436, .inl M_saved), .inr (406, .inl M_snapshot), .inr (60, .inl M_text)]) dX11_drown_35 rfl hi es16 rfl ?_
      refine V.iinc (i := 3) (v := (x3 + 1)) (L' := [some (.ref 0), some (.int p1), some (.int p2), some (.int (x3 + 1)), none]) dX11_drown_36 rfl rfl (Nat.le_of_ble_eq_true rfl) rfl rfl ?_
      refine V.goto (tgt := 15) dX11_drown_39 (by decide) ?_
      exact ih hf hx
def s_X11_drown (a1 : Int32) (a2 : Int32) (M_s : Nat → Int32) : Option ((Nat → Int32)) := fld 406 M_s 1 fun v1 => if (v1 = 12 : Prop) then ((s_X11_drown_L15 gF 358 M_s).bind fun r17 => fld 406 r17.2 1 fun v18 => fst 406 r17.2 1 (v18 - 1) fun s19 => fld 406 s19 1 fun v20 => (s_X11_whereIs a1 a2).bind fun v21 => (s_X11_knots v21 s19).bind fun v22 => fst 406 s19 (358 + (4 * v20)) v22 fun s23 => fst 406 s23 ((358 + (4 * v20)) + 1) a1 fun s24 => fld 406 s24 0 fun v25 => fst 406 s24 ((358 + (4 * v20)) + 2) v25 fun s26 => fld 406 s26 (v21 + 1) fun v27 => fst 406 s26 ((358 + (4 * v20)) + 3) v27 fun s28 => fld 406 s28 1 fun v29 => fst 406 s28 1 (v29 + 1) fun s30 => (s_X11_add a1 2 1 s30).bind fun v31 => (s_X11_takeOff a1 a2 v31).bind fun v32 => some v32.2) else (fld 406 M_s 1 fun v2 => (s_X11_whereIs a1 a2).bind fun v3 => (s_X11_knots v3 M_s).bind fun v4 => fst 406 M_s (358 + (4 * v2)) v4 fun s5 => fst 406 s5 ((358 + (4 * v2)) + 1) a1 fun s6 => fld 406 s6 0 fun v7 => fst 406 s6 ((358 + (4 * v2)) + 2) v7 fun s8 => fld 406 s8 (v3 + 1) fun v9 => fst 406 s8 ((358 + (4 * v2)) + 3) v9 fun s10 => fld 406 s10 1 fun v11 => fst 406 s10 1 (v11 + 1) fun s12 => (s_X11_add a1 2 1 s12).bind fun v13 => (s_X11_takeOff a1 a2 v13).bind fun v14 => some v14.2)
set_option maxHeartbeats 4000000 in
set_option maxRecDepth 100000 in
theorem ct_X11_drown {a1 : Int32} {a2 : Int32} {M_savedMany : Int32} {M_isTaken : Int32} {M_length : Int32} {M_thrown : Int32} {M_spelt : Int32} {M_speltMany : Int32} {M_place : Int32} {M_kind : Int32} {M_one : Int32} {M_two : Int32} {M_three : Int32} {M_begins : Int32} {M_done : Int32} {M_stopBy : Int32} {M_hash : Int64} {M_s : Nat → Int32} {M_saved : Nat → Int32} {M_snapshot : Nat → Int32} {M_text : Nat → Int32} {res : (Nat → Int32)} (hf : s_X11_drown a1 a2 M_s = some res) : Ct k_X11_drown [.ref 0, .int a1, .int a2] [.inl (6, [.ref 1, .ref 2, .int M_savedMany, .ref 3, .int M_isTaken, .ref 4, .int M_length, .int M_thrown, .int M_spelt, .int M_speltMany, .int M_place, .int M_kind, .int M_one, .int M_two, .int M_three, .int M_begins, .int M_done, .int M_stopBy, .long M_hash]), .inr (406, .inl M_s), .inr (2436, .inl M_saved), .inr (406, .inl M_snapshot), .inr (60, .inl M_text)] (.inl none) [.inl (6, [.ref 1, .ref 2, .int M_savedMany, .ref 3, .int M_isTaken, .ref 4, .int M_length, .int M_thrown, .int M_spelt, .int M_speltMany, .int M_place, .int M_kind, .int M_one, .int M_two, .int M_three, .int M_begins, .int M_done, .int M_stopBy, .long M_hash]), .inr (406, .inl res), .inr (2436, .inl M_saved), .inr (406, .inl M_snapshot), .inr (60, .inl M_text)] := by
  unfold s_X11_drown at hf
  refine Ct.of (L := [some (.ref 0), some (.int a1), some (.int a2), none, none]) cal_X11_drown (fent_pad (j := 2) rfl) (Nat.le_of_ble_eq_true rfl) ?_
  refine V.aload_n (i := 0) dX11_drown_0 rfl rfl ?_
  refine V.getfield (kf := 0) (v := .ref 1) fl_RX11 dX11_drown_1 w1043 (Nat.le_of_ble_eq_true rfl) rfl rfl ?_
  refine V.iconst (v := 1) dX11_drown_4 rfl ?_
  obtain ⟨hi, v1, ev1, hf⟩ := fld_e hf
  refine V.fld dX11_drown_5 rfl hi ev1 ?_
  refine V.bipush (v := 12) dX11_drown_6 rfl ?_
  refine V.icmp_ne (tgt := 52) dX11_drown_8 (by decide) (fun h => ?_) (fun h => ?_)
  · have hf := fif_f h hf
    refine V.sipush (v := 358) dX11_drown_52 rfl ?_
    refine V.iconst (v := 4) dX11_drown_55 rfl ?_
    refine V.aload_n (i := 0) dX11_drown_56 rfl rfl ?_
    refine V.getfield (kf := 0) (v := .ref 1) fl_RX11 dX11_drown_57 w1043 (Nat.le_of_ble_eq_true rfl) rfl rfl ?_
    refine V.iconst (v := 1) dX11_drown_60 rfl ?_
    obtain ⟨hi, v2, ev2, hf⟩ := fld_e hf
    refine V.fld dX11_drown_61 rfl hi ev2 ?_
    refine V.imul dX11_drown_62 ?_
    refine V.iadd dX11_drown_63 ?_
    refine V.istore_n (i := 3) (L' := [some (.ref 0), some (.int a1), some (.int a2), some (.int (358 + (4 * v2))), none]) dX11_drown_64 rfl (Nat.le_of_ble_eq_true rfl) rfl rfl ?_
    refine V.iload_n (i := 1) dX11_drown_65 rfl rfl ?_
    refine V.iload_n (i := 2) dX11_drown_66 rfl rfl ?_
    obtain ⟨v3, hv3, hf⟩ := fbind hf
    refine V.callSn (pl := []) (σ' := [.inl (6, [.ref 1, .ref 2, .int M_savedMany, .ref 3, .int M_isTaken, .ref 4, .int M_length, .int M_thrown, .int M_spelt, .int M_speltMany, .int M_place, .int M_kind, .int M_one, .int M_two, .int M_three, .int M_begins, .int M_done, .int M_stopBy, .long M_hash]), .inr (406, .inl M_s), .inr (2436, .inl M_saved), .inr (406, .inl M_snapshot), .inr (60, .inl M_text)]) (st2 := [.int v3]) (cl2 := 0) (sl2 := 0) (ct_X11_whereIs (a0 := a1) (a1 := a2) hv3) dX11_drown_67 w1147 w1148 cal_X11_whereIs ⟨⟨Nat.le_of_ble_eq_true rfl, Nat.le_of_ble_eq_true rfl⟩, Nat.le_of_ble_eq_true rfl, Nat.le_of_ble_eq_true rfl⟩ (Nat.le_of_ble_eq_true rfl) rfl ⟨rfl, ⟨by decide, by decide⟩, rfl, (fr_nil), rfl⟩ fr_i rfl rfl rfl rfl ?_
    refine V.istore (i := 4) (L' := [some (.ref 0), some (.int a1), some (.int a2), some (.int (358 + (4 * v2))), some (.int v3)]) dX11_drown_70 (Nat.le_of_ble_eq_true rfl) rfl rfl ?_
    refine V.aload_n (i := 0) dX11_drown_72 rfl rfl ?_
    refine V.getfield (kf := 0) (v := .ref 1) fl_RX11 dX11_drown_73 w1043 (Nat.le_of_ble_eq_true rfl) rfl rfl ?_
    refine V.iload_n (i := 3) dX11_drown_76 rfl rfl ?_
    refine V.aload_n (i := 0) dX11_drown_77 rfl rfl ?_
    refine V.iload (i := 4) dX11_drown_78 rfl ?_
    obtain ⟨v4, hv4, hf⟩ := fbind hf
    refine V.callVn (pl := [0, 1, 2, 3, 4]) (σ' := [.inl (6, [.ref 1, .ref 2, .int M_savedMany, .ref 3, .int M_isTaken, .ref 4, .int M_length, .int M_thrown, .int M_spelt, .int M_speltMany, .int M_place, .int M_kind, .int M_one, .int M_two, .int M_three, .int M_begins, .int M_done, .int M_stopBy, .long M_hash]), .inr (406, .inl M_s), .inr (2436, .inl M_saved), .inr (406, .inl M_snapshot), .inr (60, .inl M_text)]) (st2 := [.int v4, .int (358 + (4 * v2)), .ref 1]) (cl2 := 0) (sl2 := 0) (ct_X11_knots (a1 := v3) (M_savedMany := M_savedMany) (M_isTaken := M_isTaken) (M_length := M_length) (M_thrown := M_thrown) (M_spelt := M_spelt) (M_speltMany := M_speltMany) (M_place := M_place) (M_kind := M_kind) (M_one := M_one) (M_two := M_two) (M_three := M_three) (M_begins := M_begins) (M_done := M_done) (M_stopBy := M_stopBy) (M_hash := M_hash) (M_s := M_s) (M_saved := M_saved) (M_snapshot := M_snapshot) (M_text := M_text) hv4) dX11_drown_80 w1154 ⟨w1156, w14⟩ cal_X11_knots rfl ⟨⟨Nat.le_of_ble_eq_true rfl, Nat.le_of_ble_eq_true rfl⟩, Nat.le_of_ble_eq_true rfl, Nat.le_of_ble_eq_true rfl⟩ (Nat.le_of_ble_eq_true rfl) (Or.inl ⟨_, _, _, _, rfl, rfl⟩) rfl ⟨rfl, ⟨by decide, by decide⟩, rfl, (fr_cons (Or.inl (Nat.le_of_ble_eq_true rfl)) (fr_cons (Or.inl (Nat.le_of_ble_eq_true rfl)) (fr_cons (Or.inl (Nat.le_of_ble_eq_true rfl)) (fr_cons (Or.inl (Nat.le_of_ble_eq_true rfl)) (fr_nil))))), rfl⟩ fr_i rfl rfl rfl rfl ?_
    obtain ⟨hi, s5, es5, hf⟩ := fst_e hf
    refine V.fst (σ' := [.inl (6, [.ref 1, .ref 2, .int M_savedMany, .ref 3, .int M_isTaken, .ref 4, .int M_length, .int M_thrown, .int M_spelt, .int M_speltMany, .int M_place, .int M_kind, .int M_one, .int M_two, .int M_three, .int M_begins, .int M_done, .int M_stopBy, .long M_hash]), .inr (406, .inl s5), .inr (2436, .inl M_saved), .inr (406, .inl M_snapshot), .inr (60, .inl M_text)]) dX11_drown_83 rfl hi es5 rfl ?_
    refine V.aload_n (i := 0) dX11_drown_84 rfl rfl ?_
    refine V.getfield (kf := 0) (v := .ref 1) fl_RX11 dX11_drown_85 w1043 (Nat.le_of_ble_eq_true rfl) rfl rfl ?_
    refine V.iload_n (i := 3) dX11_drown_88 rfl rfl ?_
    refine V.iconst (v := 1) dX11_drown_89 rfl ?_
    refine V.iadd dX11_drown_90 ?_
    refine V.iload_n (i := 1) dX11_drown_91 rfl rfl ?_
    obtain ⟨hi, s6, es6, hf⟩ := fst_e hf
    refine V.fst (σ' := [.inl (6, [.ref 1, .ref 2, .int M_savedMany, .ref 3, .int M_isTaken, .ref 4, .int M_length, .int M_thrown, .int M_spelt, .int M_speltMany, .int M_place, .int M_kind, .int M_one, .int M_two, .int M_three, .int M_begins, .int M_done, .int M_stopBy, .long M_hash]), .inr (406, .inl s6), .inr (2436, .inl M_saved), .inr (406, .inl M_snapshot), .inr (60, .inl M_text)]) dX11_drown_92 rfl hi es6 rfl ?_
    refine V.aload_n (i := 0) dX11_drown_93 rfl rfl ?_
    refine V.getfield (kf := 0) (v := .ref 1) fl_RX11 dX11_drown_94 w1043 (Nat.le_of_ble_eq_true rfl) rfl rfl ?_
    refine V.iload_n (i := 3) dX11_drown_97 rfl rfl ?_
    refine V.iconst (v := 2) dX11_drown_98 rfl ?_
    refine V.iadd dX11_drown_99 ?_
    refine V.aload_n (i := 0) dX11_drown_100 rfl rfl ?_
    refine V.getfield (kf := 0) (v := .ref 1) fl_RX11 dX11_drown_101 w1043 (Nat.le_of_ble_eq_true rfl) rfl rfl ?_
    refine V.iconst (v := 0) dX11_drown_104 rfl ?_
    obtain ⟨hi, v7, ev7, hf⟩ := fld_e hf
    refine V.fld dX11_drown_105 rfl hi ev7 ?_
    obtain ⟨hi, s8, es8, hf⟩ := fst_e hf
    refine V.fst (σ' := [.inl (6, [.ref 1, .ref 2, .int M_savedMany, .ref 3, .int M_isTaken, .ref 4, .int M_length, .int M_thrown, .int M_spelt, .int M_speltMany, .int M_place, .int M_kind, .int M_one, .int M_two, .int M_three, .int M_begins, .int M_done, .int M_stopBy, .long M_hash]), .inr (406, .inl s8), .inr (2436, .inl M_saved), .inr (406, .inl M_snapshot), .inr (60, .inl M_text)]) dX11_drown_106 rfl hi es8 rfl ?_
    refine V.aload_n (i := 0) dX11_drown_107 rfl rfl ?_
    refine V.getfield (kf := 0) (v := .ref 1) fl_RX11 dX11_drown_108 w1043 (Nat.le_of_ble_eq_true rfl) rfl rfl ?_
    refine V.iload_n (i := 3) dX11_drown_111 rfl rfl ?_
    refine V.iconst (v := 3) dX11_drown_112 rfl ?_
    refine V.iadd dX11_drown_113 ?_
    refine V.aload_n (i := 0) dX11_drown_114 rfl rfl ?_
    refine V.getfield (kf := 0) (v := .ref 1) fl_RX11 dX11_drown_115 w1043 (Nat.le_of_ble_eq_true rfl) rfl rfl ?_
    refine V.iload (i := 4) dX11_drown_118 rfl ?_
    refine V.iconst (v := 1) dX11_drown_120 rfl ?_
    refine V.iadd dX11_drown_121 ?_
    obtain ⟨hi, v9, ev9, hf⟩ := fld_e hf
    refine V.fld dX11_drown_122 rfl hi ev9 ?_
    obtain ⟨hi, s10, es10, hf⟩ := fst_e hf
    refine V.fst (σ' := [.inl (6, [.ref 1, .ref 2, .int M_savedMany, .ref 3, .int M_isTaken, .ref 4, .int M_length, .int M_thrown, .int M_spelt, .int M_speltMany, .int M_place, .int M_kind, .int M_one, .int M_two, .int M_three, .int M_begins, .int M_done, .int M_stopBy, .long M_hash]), .inr (406, .inl s10), .inr (2436, .inl M_saved), .inr (406, .inl M_snapshot), .inr (60, .inl M_text)]) dX11_drown_123 rfl hi es10 rfl ?_
    refine V.aload_n (i := 0) dX11_drown_124 rfl rfl ?_
    refine V.getfield (kf := 0) (v := .ref 1) fl_RX11 dX11_drown_125 w1043 (Nat.le_of_ble_eq_true rfl) rfl rfl ?_
    refine V.iconst (v := 1) dX11_drown_128 rfl ?_
    refine V.dup2 dX11_drown_129 rfl rfl ?_
    obtain ⟨hi, v11, ev11, hf⟩ := fld_e hf
    refine V.fld dX11_drown_130 rfl hi ev11 ?_
    refine V.iconst (v := 1) dX11_drown_131 rfl ?_
    refine V.iadd dX11_drown_132 ?_
    obtain ⟨hi, s12, es12, hf⟩ := fst_e hf
    refine V.fst (σ' := [.inl (6, [.ref 1, .ref 2, .int M_savedMany, .ref 3, .int M_isTaken, .ref 4, .int M_length, .int M_thrown, .int M_spelt, .int M_speltMany, .int M_place, .int M_kind, .int M_one, .int M_two, .int M_three, .int M_begins, .int M_done, .int M_stopBy, .long M_hash]), .inr (406, .inl s12), .inr (2436, .inl M_saved), .inr (406, .inl M_snapshot), .inr (60, .inl M_text)]) dX11_drown_133 rfl hi es12 rfl ?_
    refine V.aload_n (i := 0) dX11_drown_134 rfl rfl ?_
    refine V.iload_n (i := 1) dX11_drown_135 rfl rfl ?_
    refine V.iconst (v := 2) dX11_drown_136 rfl ?_
    refine V.iconst (v := 1) dX11_drown_137 rfl ?_
    obtain ⟨v13, hv13, hf⟩ := fbind hf
    refine V.callVn (pl := [0, 1, 2, 3, 4]) (σ' := [.inl (6, [.ref 1, .ref 2, .int M_savedMany, .ref 3, .int M_isTaken, .ref 4, .int M_length, .int M_thrown, .int M_spelt, .int M_speltMany, .int M_place, .int M_kind, .int M_one, .int M_two, .int M_three, .int M_begins, .int M_done, .int M_stopBy, .long M_hash]), .inr (406, .inl v13), .inr (2436, .inl M_saved), .inr (406, .inl M_snapshot), .inr (60, .inl M_text)]) (st2 := []) (cl2 := 0) (sl2 := 0) (ct_X11_add (a1 := a1) (a2 := 2) (a3 := 1) (M_savedMany := M_savedMany) (M_isTaken := M_isTaken) (M_length := M_length) (M_thrown := M_thrown) (M_spelt := M_spelt) (M_speltMany := M_speltMany) (M_place := M_place) (M_kind := M_kind) (M_one := M_one) (M_two := M_two) (M_three := M_three) (M_begins := M_begins) (M_done := M_done) (M_stopBy := M_stopBy) (M_hash := M_hash) (M_s := s12) (M_saved := M_saved) (M_snapshot := M_snapshot) (M_text := M_text) hv13) dX11_drown_138 w1196 ⟨w1198, w23⟩ cal_X11_add rfl ⟨⟨Nat.le_of_ble_eq_true rfl, Nat.le_of_ble_eq_true rfl⟩, Nat.le_of_ble_eq_true rfl, Nat.le_of_ble_eq_true rfl⟩ (Nat.le_of_ble_eq_true rfl) (Or.inl ⟨_, _, _, _, rfl, rfl⟩) rfl ⟨rfl, ⟨by decide, by decide⟩, rfl, (fr_cons (Or.inl (Nat.le_of_ble_eq_true rfl)) (fr_cons (Or.inl (Nat.le_of_ble_eq_true rfl)) (fr_cons (Or.inl (Nat.le_of_ble_eq_true rfl)) (fr_cons (Or.inl (Nat.le_of_ble_eq_true rfl)) (fr_nil))))), rfl⟩ fr_v rfl rfl rfl rfl ?_
    refine V.aload_n (i := 0) dX11_drown_141 rfl rfl ?_
    refine V.iload_n (i := 1) dX11_drown_142 rfl rfl ?_
    refine V.iload_n (i := 2) dX11_drown_143 rfl rfl ?_
    obtain ⟨v14, hv14, hf⟩ := fbind hf
    refine V.callVn (pl := [0, 1, 2, 3, 4]) (σ' := [.inl (6, [.ref 1, .ref 2, .int M_savedMany, .ref 3, .int M_isTaken, .ref 4, .int M_length, .int M_thrown, .int M_spelt, .int M_speltMany, .int M_place, .int M_kind, .int M_one, .int M_two, .int M_three, .int M_begins, .int M_done, .int M_stopBy, .long M_hash]), .inr (406, .inl v14.2), .inr (2436, .inl M_saved), .inr (406, .inl M_snapshot), .inr (60, .inl M_text)]) (st2 := [.int v14.1]) (cl2 := 0) (sl2 := 0) (ct_X11_takeOff (a1 := a1) (a2 := a2) (M_savedMany := M_savedMany) (M_isTaken := M_isTaken) (M_length := M_length) (M_thrown := M_thrown) (M_spelt := M_spelt) (M_speltMany := M_speltMany) (M_place := M_place) (M_kind := M_kind) (M_one := M_one) (M_two := M_two) (M_three := M_three) (M_begins := M_begins) (M_done := M_done) (M_stopBy := M_stopBy) (M_hash := M_hash) (M_s := v13) (M_saved := M_saved) (M_snapshot := M_snapshot) (M_text := M_text) hv14) dX11_drown_144 w1208 ⟨w1210, w25⟩ cal_X11_takeOff rfl ⟨⟨Nat.le_of_ble_eq_true rfl, Nat.le_of_ble_eq_true rfl⟩, Nat.le_of_ble_eq_true rfl, Nat.le_of_ble_eq_true rfl⟩ (Nat.le_of_ble_eq_true rfl) (Or.inl ⟨_, _, _, _, rfl, rfl⟩) rfl ⟨rfl, ⟨by decide, by decide⟩, rfl, (fr_cons (Or.inl (Nat.le_of_ble_eq_true rfl)) (fr_cons (Or.inl (Nat.le_of_ble_eq_true rfl)) (fr_cons (Or.inl (Nat.le_of_ble_eq_true rfl)) (fr_cons (Or.inl (Nat.le_of_ble_eq_true rfl)) (fr_nil))))), rfl⟩ fr_i rfl rfl rfl rfl ?_
    refine V.pop dX11_drown_147 rfl ?_
    obtain rfl := Option.some.inj hf
    exact V.vret dX11_drown_148 rfl (Nat.le_of_ble_eq_true rfl) (Nat.le_of_ble_eq_true rfl) rfl
  · have hf := fif_t h hf
    refine V.sipush (v := 358) dX11_drown_11 rfl ?_
    refine V.istore_n (i := 3) (L' := [some (.ref 0), some (.int a1), some (.int a2), some (.int 358), none]) dX11_drown_14 rfl (Nat.le_of_ble_eq_true rfl) rfl rfl ?_
    obtain ⟨r17, hr17, hf⟩ := fbind hf
    refine v_X11_drown_L15 gF hr17 ?_
    refine V.aload_n (i := 0) dX11_drown_42 rfl rfl ?_
    refine V.getfield (kf := 0) (v := .ref 1) fl_RX11 dX11_drown_43 w1043 (Nat.le_of_ble_eq_true rfl) rfl rfl ?_
    refine V.iconst (v := 1) dX11_drown_46 rfl ?_
    refine V.dup2 dX11_drown_47 rfl rfl ?_
    obtain ⟨hi, v18, ev18, hf⟩ := fld_e hf
    refine V.fld dX11_drown_48 rfl hi ev18 ?_
    refine V.iconst (v := 1) dX11_drown_49 rfl ?_
    refine V.isub dX11_drown_50 ?_
    obtain ⟨hi, s19, es19, hf⟩ := fst_e hf
    refine V.fst (σ' := [.inl (6, [.ref 1, .ref 2, .int M_savedMany, .ref 3, .int M_isTaken, .ref 4, .int M_length, .int M_thrown, .int M_spelt, .int M_speltMany, .int M_place, .int M_kind, .int M_one, .int M_two, .int M_three, .int M_begins, .int M_done, .int M_stopBy, .long M_hash]), .inr (406, .inl s19), .inr (2436, .inl M_saved), .inr (406, .inl M_snapshot), .inr (60, .inl M_text)]) dX11_drown_51 rfl hi es19 rfl ?_
    refine V.sipush (v := 358) dX11_drown_52 rfl ?_
    refine V.iconst (v := 4) dX11_drown_55 rfl ?_
    refine V.aload_n (i := 0) dX11_drown_56 rfl rfl ?_
    refine V.getfield (kf := 0) (v := .ref 1) fl_RX11 dX11_drown_57 w1043 (Nat.le_of_ble_eq_true rfl) rfl rfl ?_
    refine V.iconst (v := 1) dX11_drown_60 rfl ?_
    obtain ⟨hi, v20, ev20, hf⟩ := fld_e hf
    refine V.fld dX11_drown_61 rfl hi ev20 ?_
    refine V.imul dX11_drown_62 ?_
    refine V.iadd dX11_drown_63 ?_
    refine V.istore_n (i := 3) (L' := [some (.ref 0), some (.int a1), some (.int a2), some (.int (358 + (4 * v20))), none]) dX11_drown_64 rfl (Nat.le_of_ble_eq_true rfl) rfl rfl ?_
    refine V.iload_n (i := 1) dX11_drown_65 rfl rfl ?_
    refine V.iload_n (i := 2) dX11_drown_66 rfl rfl ?_
    obtain ⟨v21, hv21, hf⟩ := fbind hf
    refine V.callSn (pl := []) (σ' := [.inl (6, [.ref 1, .ref 2, .int M_savedMany, .ref 3, .int M_isTaken, .ref 4, .int M_length, .int M_thrown, .int M_spelt, .int M_speltMany, .int M_place, .int M_kind, .int M_one, .int M_two, .int M_three, .int M_begins, .int M_done, .int M_stopBy, .long M_hash]), .inr (406, .inl s19), .inr (2436, .inl M_saved), .inr (406, .inl M_snapshot), .inr (60, .inl M_text)]) (st2 := [.int v21]) (cl2 := 0) (sl2 := 0) (ct_X11_whereIs (a0 := a1) (a1 := a2) hv21) dX11_drown_67 w1147 w1148 cal_X11_whereIs ⟨⟨Nat.le_of_ble_eq_true rfl, Nat.le_of_ble_eq_true rfl⟩, Nat.le_of_ble_eq_true rfl, Nat.le_of_ble_eq_true rfl⟩ (Nat.le_of_ble_eq_true rfl) rfl ⟨rfl, ⟨by decide, by decide⟩, rfl, (fr_nil), rfl⟩ fr_i rfl rfl rfl rfl ?_
    refine V.istore (i := 4) (L' := [some (.ref 0), some (.int a1), some (.int a2), some (.int (358 + (4 * v20))), some (.int v21)]) dX11_drown_70 (Nat.le_of_ble_eq_true rfl) rfl rfl ?_
    refine V.aload_n (i := 0) dX11_drown_72 rfl rfl ?_
    refine V.getfield (kf := 0) (v := .ref 1) fl_RX11 dX11_drown_73 w1043 (Nat.le_of_ble_eq_true rfl) rfl rfl ?_
    refine V.iload_n (i := 3) dX11_drown_76 rfl rfl ?_
    refine V.aload_n (i := 0) dX11_drown_77 rfl rfl ?_
    refine V.iload (i := 4) dX11_drown_78 rfl ?_
    obtain ⟨v22, hv22, hf⟩ := fbind hf
    refine V.callVn (pl := [0, 1, 2, 3, 4]) (σ' := [.inl (6, [.ref 1, .ref 2, .int M_savedMany, .ref 3, .int M_isTaken, .ref 4, .int M_length, .int M_thrown, .int M_spelt, .int M_speltMany, .int M_place, .int M_kind, .int M_one, .int M_two, .int M_three, .int M_begins, .int M_done, .int M_stopBy, .long M_hash]), .inr (406, .inl s19), .inr (2436, .inl M_saved), .inr (406, .inl M_snapshot), .inr (60, .inl M_text)]) (st2 := [.int v22, .int (358 + (4 * v20)), .ref 1]) (cl2 := 0) (sl2 := 0) (ct_X11_knots (a1 := v21) (M_savedMany := M_savedMany) (M_isTaken := M_isTaken) (M_length := M_length) (M_thrown := M_thrown) (M_spelt := M_spelt) (M_speltMany := M_speltMany) (M_place := M_place) (M_kind := M_kind) (M_one := M_one) (M_two := M_two) (M_three := M_three) (M_begins := M_begins) (M_done := M_done) (M_stopBy := M_stopBy) (M_hash := M_hash) (M_s := s19) (M_saved := M_saved) (M_snapshot := M_snapshot) (M_text := M_text) hv22) dX11_drown_80 w1154 ⟨w1156, w14⟩ cal_X11_knots rfl ⟨⟨Nat.le_of_ble_eq_true rfl, Nat.le_of_ble_eq_true rfl⟩, Nat.le_of_ble_eq_true rfl, Nat.le_of_ble_eq_true rfl⟩ (Nat.le_of_ble_eq_true rfl) (Or.inl ⟨_, _, _, _, rfl, rfl⟩) rfl ⟨rfl, ⟨by decide, by decide⟩, rfl, (fr_cons (Or.inl (Nat.le_of_ble_eq_true rfl)) (fr_cons (Or.inl (Nat.le_of_ble_eq_true rfl)) (fr_cons (Or.inl (Nat.le_of_ble_eq_true rfl)) (fr_cons (Or.inl (Nat.le_of_ble_eq_true rfl)) (fr_nil))))), rfl⟩ fr_i rfl rfl rfl rfl ?_
    obtain ⟨hi, s23, es23, hf⟩ := fst_e hf
    refine V.fst (σ' := [.inl (6, [.ref 1, .ref 2, .int M_savedMany, .ref 3, .int M_isTaken, .ref 4, .int M_length, .int M_thrown, .int M_spelt, .int M_speltMany, .int M_place, .int M_kind, .int M_one, .int M_two, .int M_three, .int M_begins, .int M_done, .int M_stopBy, .long M_hash]), .inr (406, .inl s23), .inr (2436, .inl M_saved), .inr (406, .inl M_snapshot), .inr (60, .inl M_text)]) dX11_drown_83 rfl hi es23 rfl ?_
    refine V.aload_n (i := 0) dX11_drown_84 rfl rfl ?_
    refine V.getfield (kf := 0) (v := .ref 1) fl_RX11 dX11_drown_85 w1043 (Nat.le_of_ble_eq_true rfl) rfl rfl ?_
    refine V.iload_n (i := 3) dX11_drown_88 rfl rfl ?_
    refine V.iconst (v := 1) dX11_drown_89 rfl ?_
    refine V.iadd dX11_drown_90 ?_
    refine V.iload_n (i := 1) dX11_drown_91 rfl rfl ?_
    obtain ⟨hi, s24, es24, hf⟩ := fst_e hf
    refine V.fst (σ' := [.inl (6, [.ref 1, .ref 2, .int M_savedMany, .ref 3, .int M_isTaken, .ref 4, .int M_length, .int M_thrown, .int M_spelt, .int M_speltMany, .int M_place, .int M_kind, .int M_one, .int M_two, .int M_three, .int M_begins, .int M_done, .int M_stopBy, .long M_hash]), .inr (406, .inl s24), .inr (2436, .inl M_saved), .inr (406, .inl M_snapshot), .inr (60, .inl M_text)]) dX11_drown_92 rfl hi es24 rfl ?_
    refine V.aload_n (i := 0) dX11_drown_93 rfl rfl ?_
    refine V.getfield (kf := 0) (v := .ref 1) fl_RX11 dX11_drown_94 w1043 (Nat.le_of_ble_eq_true rfl) rfl rfl ?_
    refine V.iload_n (i := 3) dX11_drown_97 rfl rfl ?_
    refine V.iconst (v := 2) dX11_drown_98 rfl ?_
    refine V.iadd dX11_drown_99 ?_
    refine V.aload_n (i := 0) dX11_drown_100 rfl rfl ?_
    refine V.getfield (kf := 0) (v := .ref 1) fl_RX11 dX11_drown_101 w1043 (Nat.le_of_ble_eq_true rfl) rfl rfl ?_
    refine V.iconst (v := 0) dX11_drown_104 rfl ?_
    obtain ⟨hi, v25, ev25, hf⟩ := fld_e hf
    refine V.fld dX11_drown_105 rfl hi ev25 ?_
    obtain ⟨hi, s26, es26, hf⟩ := fst_e hf
    refine V.fst (σ' := [.inl (6, [.ref 1, .ref 2, .int M_savedMany, .ref 3, .int M_isTaken, .ref 4, .int M_length, .int M_thrown, .int M_spelt, .int M_speltMany, .int M_place, .int M_kind, .int M_one, .int M_two, .int M_three, .int M_begins, .int M_done, .int M_stopBy, .long M_hash]), .inr (406, .inl s26), .inr (2436, .inl M_saved), .inr (406, .inl M_snapshot), .inr (60, .inl M_text)]) dX11_drown_106 rfl hi es26 rfl ?_
    refine V.aload_n (i := 0) dX11_drown_107 rfl rfl ?_
    refine V.getfield (kf := 0) (v := .ref 1) fl_RX11 dX11_drown_108 w1043 (Nat.le_of_ble_eq_true rfl) rfl rfl ?_
    refine V.iload_n (i := 3) dX11_drown_111 rfl rfl ?_
    refine V.iconst (v := 3) dX11_drown_112 rfl ?_
    refine V.iadd dX11_drown_113 ?_
    refine V.aload_n (i := 0) dX11_drown_114 rfl rfl ?_
    refine V.getfield (kf := 0) (v := .ref 1) fl_RX11 dX11_drown_115 w1043 (Nat.le_of_ble_eq_true rfl) rfl rfl ?_
    refine V.iload (i := 4) dX11_drown_118 rfl ?_
    refine V.iconst (v := 1) dX11_drown_120 rfl ?_
    refine V.iadd dX11_drown_121 ?_
    obtain ⟨hi, v27, ev27, hf⟩ := fld_e hf
    refine V.fld dX11_drown_122 rfl hi ev27 ?_
    obtain ⟨hi, s28, es28, hf⟩ := fst_e hf
    refine V.fst (σ' := [.inl (6, [.ref 1, .ref 2, .int M_savedMany, .ref 3, .int M_isTaken, .ref 4, .int M_length, .int M_thrown, .int M_spelt, .int M_speltMany, .int M_place, .int M_kind, .int M_one, .int M_two, .int M_three, .int M_begins, .int M_done, .int M_stopBy, .long M_hash]), .inr (406, .inl s28), .inr (2436, .inl M_saved), .inr (406, .inl M_snapshot), .inr (60, .inl M_text)]) dX11_drown_123 rfl hi es28 rfl ?_
    refine V.aload_n (i := 0) dX11_drown_124 rfl rfl ?_
    refine V.getfield (kf := 0) (v := .ref 1) fl_RX11 dX11_drown_125 w1043 (Nat.le_of_ble_eq_true rfl) rfl rfl ?_
    refine V.iconst (v := 1) dX11_drown_128 rfl ?_
    refine V.dup2 dX11_drown_129 rfl rfl ?_
    obtain ⟨hi, v29, ev29, hf⟩ := fld_e hf
    refine V.fld dX11_drown_130 rfl hi ev29 ?_
    refine V.iconst (v := 1) dX11_drown_131 rfl ?_
    refine V.iadd dX11_drown_132 ?_
    obtain ⟨hi, s30, es30, hf⟩ := fst_e hf
    refine V.fst (σ' := [.inl (6, [.ref 1, .ref 2, .int M_savedMany, .ref 3, .int M_isTaken, .ref 4, .int M_length, .int M_thrown, .int M_spelt, .int M_speltMany, .int M_place, .int M_kind, .int M_one, .int M_two, .int M_three, .int M_begins, .int M_done, .int M_stopBy, .long M_hash]), .inr (406, .inl s30), .inr (2436, .inl M_saved), .inr (406, .inl M_snapshot), .inr (60, .inl M_text)]) dX11_drown_133 rfl hi es30 rfl ?_
    refine V.aload_n (i := 0) dX11_drown_134 rfl rfl ?_
    refine V.iload_n (i := 1) dX11_drown_135 rfl rfl ?_
    refine V.iconst (v := 2) dX11_drown_136 rfl ?_
    refine V.iconst (v := 1) dX11_drown_137 rfl ?_
    obtain ⟨v31, hv31, hf⟩ := fbind hf
    refine V.callVn (pl := [0, 1, 2, 3, 4]) (σ' := [.inl (6, [.ref 1, .ref 2, .int M_savedMany, .ref 3, .int M_isTaken, .ref 4, .int M_length, .int M_thrown, .int M_spelt, .int M_speltMany, .int M_place, .int M_kind, .int M_one, .int M_two, .int M_three, .int M_begins, .int M_done, .int M_stopBy, .long M_hash]), .inr (406, .inl v31), .inr (2436, .inl M_saved), .inr (406, .inl M_snapshot), .inr (60, .inl M_text)]) (st2 := []) (cl2 := 0) (sl2 := 0) (ct_X11_add (a1 := a1) (a2 := 2) (a3 := 1) (M_savedMany := M_savedMany) (M_isTaken := M_isTaken) (M_length := M_length) (M_thrown := M_thrown) (M_spelt := M_spelt) (M_speltMany := M_speltMany) (M_place := M_place) (M_kind := M_kind) (M_one := M_one) (M_two := M_two) (M_three := M_three) (M_begins := M_begins) (M_done := M_done) (M_stopBy := M_stopBy) (M_hash := M_hash) (M_s := s30) (M_saved := M_saved) (M_snapshot := M_snapshot) (M_text := M_text) hv31) dX11_drown_138 w1196 ⟨w1198, w23⟩ cal_X11_add rfl ⟨⟨Nat.le_of_ble_eq_true rfl, Nat.le_of_ble_eq_true rfl⟩, Nat.le_of_ble_eq_true rfl, Nat.le_of_ble_eq_true rfl⟩ (Nat.le_of_ble_eq_true rfl) (Or.inl ⟨_, _, _, _, rfl, rfl⟩) rfl ⟨rfl, ⟨by decide, by decide⟩, rfl, (fr_cons (Or.inl (Nat.le_of_ble_eq_true rfl)) (fr_cons (Or.inl (Nat.le_of_ble_eq_true rfl)) (fr_cons (Or.inl (Nat.le_of_ble_eq_true rfl)) (fr_cons (Or.inl (Nat.le_of_ble_eq_true rfl)) (fr_nil))))), rfl⟩ fr_v rfl rfl rfl rfl ?_
    refine V.aload_n (i := 0) dX11_drown_141 rfl rfl ?_
    refine V.iload_n (i := 1) dX11_drown_142 rfl rfl ?_
    refine V.iload_n (i := 2) dX11_drown_143 rfl rfl ?_
    obtain ⟨v32, hv32, hf⟩ := fbind hf
    refine V.callVn (pl := [0, 1, 2, 3, 4]) (σ' := [.inl (6, [.ref 1, .ref 2, .int M_savedMany, .ref 3, .int M_isTaken, .ref 4, .int M_length, .int M_thrown, .int M_spelt, .int M_speltMany, .int M_place, .int M_kind, .int M_one, .int M_two, .int M_three, .int M_begins, .int M_done, .int M_stopBy, .long M_hash]), .inr (406, .inl v32.2), .inr (2436, .inl M_saved), .inr (406, .inl M_snapshot), .inr (60, .inl M_text)]) (st2 := [.int v32.1]) (cl2 := 0) (sl2 := 0) (ct_X11_takeOff (a1 := a1) (a2 := a2) (M_savedMany := M_savedMany) (M_isTaken := M_isTaken) (M_length := M_length) (M_thrown := M_thrown) (M_spelt := M_spelt) (M_speltMany := M_speltMany) (M_place := M_place) (M_kind := M_kind) (M_one := M_one) (M_two := M_two) (M_three := M_three) (M_begins := M_begins) (M_done := M_done) (M_stopBy := M_stopBy) (M_hash := M_hash) (M_s := v31) (M_saved := M_saved) (M_snapshot := M_snapshot) (M_text := M_text) hv32) dX11_drown_144 w1208 ⟨w1210, w25⟩ cal_X11_takeOff rfl ⟨⟨Nat.le_of_ble_eq_true rfl, Nat.le_of_ble_eq_true rfl⟩, Nat.le_of_ble_eq_true rfl, Nat.le_of_ble_eq_true rfl⟩ (Nat.le_of_ble_eq_true rfl) (Or.inl ⟨_, _, _, _, rfl, rfl⟩) rfl ⟨rfl, ⟨by decide, by decide⟩, rfl, (fr_cons (Or.inl (Nat.le_of_ble_eq_true rfl)) (fr_cons (Or.inl (Nat.le_of_ble_eq_true rfl)) (fr_cons (Or.inl (Nat.le_of_ble_eq_true rfl)) (fr_cons (Or.inl (Nat.le_of_ble_eq_true rfl)) (fr_nil))))), rfl⟩ fr_i rfl rfl rfl rfl ?_
    refine V.pop dX11_drown_147 rfl ?_
    obtain rfl := Option.some.inj hf
    exact V.vret dX11_drown_148 rfl (Nat.le_of_ble_eq_true rfl) (Nat.le_of_ble_eq_true rfl) rfl
def k_X11_doStorm : fK := (yX11_doStorm, cX11_doStorm, 6, (some .int), [], (6, 132), (0, 0), (0, 0))
theorem cal_X11_doStorm : fCal k_X11_doStorm 1 := ⟨⟨wc1247, w73⟩, ⟨by decide +kernel, by decide +kernel⟩, by decide +kernel, by decide +kernel⟩
def s_X11_doStorm_L34 (p4 : Int32) : Nat → Int32 → (Nat → Int32) → Option (Int32 × (Nat → Int32))
  | 0, _, _ => none
  | n + 1, x5, M_s => (s_X11_knots p4 M_s).bind fun v5 => if (v5 ≤ x5 : Prop) then (some (x5, M_s)) else (fld 406 M_s ((p4 + 3) + x5) fun v6 => fld 406 M_s 0 fun v7 => (s_X11_loosens p4 x5 v7 M_s).bind fun v8 => if (v8 = 0 : Prop) then (fst 406 M_s ((p4 + 3) + x5) (v6 + 0) fun s9 => s_X11_doStorm_L34 p4 n (x5 + 1) s9) else (fst 406 M_s ((p4 + 3) + x5) (v6 + 1) fun s10 => s_X11_doStorm_L34 p4 n (x5 + 1) s10))
set_option maxHeartbeats 4000000 in
set_option maxRecDepth 100000 in
theorem v_X11_doStorm_L34 {out : fO} {σ' : List fE} {p1 : Int32} {p2 : Int32} {p3 : Int32} {p4 : Int32} {M_savedMany : Int32} {M_isTaken : Int32} {M_length : Int32} {M_thrown : Int32} {M_spelt : Int32} {M_speltMany : Int32} {M_place : Int32} {M_kind : Int32} {M_one : Int32} {M_two : Int32} {M_three : Int32} {M_begins : Int32} {M_done : Int32} {M_stopBy : Int32} {M_hash : Int64} {M_saved : Nat → Int32} {M_snapshot : Nat → Int32} {M_text : Nat → Int32} : ∀ (n : Nat) {x5 : Int32} {M_s : (Nat → Int32)} {res : Int32 × (Nat → Int32)} (hf : s_X11_doStorm_L34 p4 n x5 M_s = some res) (hx : V (fXm 5 k_X11_doStorm out σ') (krm k_X11_doStorm) k_X11_doStorm 5 88 [some (.ref 0), some (.int p1), some (.int p2), some (.int p3), some (.int p4), some (.int res.1)] [] [.inl (6, [.ref 1, .ref 2, .int M_savedMany, .ref 3, .int M_isTaken, .ref 4, .int M_length, .int M_thrown, .int M_spelt, .int M_speltMany, .int M_place, .int M_kind, .int M_one, .int M_two, .int M_three, .int M_begins, .int M_done, .int M_stopBy, .long M_hash]), .inr (406, .inl res.2), .inr (2436, .inl M_saved), .inr (406, .inl M_snapshot), .inr (60, .inl M_text)] 0 0), V (fXm 5 k_X11_doStorm out σ') (krm k_X11_doStorm) k_X11_doStorm 5 34 [some (.ref 0), some (.int p1), some (.int p2), some (.int p3), some (.int p4), some (.int x5)] [] [.inl (6, [.ref 1, .ref 2, .int M_savedMany, .ref 3, .int M_isTaken, .ref 4, .int M_length, .int M_thrown, .int M_spelt, .int M_speltMany, .int M_place, .int M_kind, .int M_one, .int M_two, .int M_three, .int M_begins, .int M_done, .int M_stopBy, .long M_hash]), .inr (406, .inl M_s), .inr (2436, .inl M_saved), .inr (406, .inl M_snapshot), .inr (60, .inl M_text)] 0 0 := by
  intro n
  induction n with
  | zero =>
    intro x5 M_s res hf hx
    rw [s_X11_doStorm_L34] at hf
    cases hf
  | succ n ih =>
    intro x5 M_s res hf hx
    rw [s_X11_doStorm_L34] at hf
    refine V.iload (i := 5) dX11_doStorm_34 rfl ?_
    refine V.aload_n (i := 0) dX11_doStorm_36 rfl rfl ?_
    refine V.iload (i := 4) dX11_doStorm_37 rfl ?_
    obtain ⟨v5, hv5, hf⟩ := fbind hf
    refine V.callVn (pl := [0, 1, 2, 3, 4]) (σ' := [.inl (6, [.ref 1, .ref 2, .int M_savedMany, .ref 3, .int M_isTaken, .ref 4, .int M_length, .int M_thrown, .int M_spelt, .int M_speltMany, .int M_place, .int M_kind, .int M_one, .int M_two, .int M_three, .int M_begins, .int M_done, .int M_stopBy, .long M_hash]), .inr (406, .inl M_s), .inr (2436, .inl M_saved), .inr (406, .inl M_snapshot), .inr (60, .inl M_text)]) (st2 := [.int v5, .int x5]) (cl2 := 0) (sl2 := 0) (ct_X11_knots (a1 := p4) (M_savedMany := M_savedMany) (M_isTaken := M_isTaken) (M_length := M_length) (M_thrown := M_thrown) (M_spelt := M_spelt) (M_speltMany := M_speltMany) (M_place := M_place) (M_kind := M_kind) (M_one := M_one) (M_two := M_two) (M_three := M_three) (M_begins := M_begins) (M_done := M_done) (M_stopBy := M_stopBy) (M_hash := M_hash) (M_s := M_s) (M_saved := M_saved) (M_snapshot := M_snapshot) (M_text := M_text) hv5) dX11_doStorm_39 w1154 ⟨w1156, w14⟩ cal_X11_knots rfl ⟨⟨Nat.le_of_ble_eq_true rfl, Nat.le_of_ble_eq_true rfl⟩, Nat.le_of_ble_eq_true rfl, Nat.le_of_ble_eq_true rfl⟩ (Nat.le_of_ble_eq_true rfl) (Or.inl ⟨_, _, _, _, rfl, rfl⟩) rfl ⟨rfl, ⟨by decide, by decide⟩, rfl, (fr_cons (Or.inl (Nat.le_of_ble_eq_true rfl)) (fr_cons (Or.inl (Nat.le_of_ble_eq_true rfl)) (fr_cons (Or.inl (Nat.le_of_ble_eq_true rfl)) (fr_cons (Or.inl (Nat.le_of_ble_eq_true rfl)) (fr_nil))))), rfl⟩ fr_i rfl rfl rfl rfl ?_
    refine V.icmp_ge (tgt := 88) dX11_doStorm_42 (by decide) (fun h => ?_) (fun h => ?_)
    · have hf := fif_t h hf
      obtain rfl := Option.some.inj hf
      exact hx
    · have hf := fif_f h hf
      refine V.aload_n (i := 0) dX11_doStorm_45 rfl rfl ?_
      refine V.getfield (kf := 0) (v := .ref 1) fl_RX11 dX11_doStorm_46 w1043 (Nat.le_of_ble_eq_true rfl) rfl rfl ?_
      refine V.iload (i := 4) dX11_doStorm_49 rfl ?_
      refine V.iconst (v := 3) dX11_doStorm_51 rfl ?_
      refine V.iadd dX11_doStorm_52 ?_
      refine V.iload (i := 5) dX11_doStorm_53 rfl ?_
      refine V.iadd dX11_doStorm_55 ?_
      refine V.dup2 dX11_doStorm_56 rfl rfl ?_
      obtain ⟨hi, v6, ev6, hf⟩ := fld_e hf
      refine V.fld dX11_doStorm_57 rfl hi ev6 ?_
      refine V.aload_n (i := 0) dX11_doStorm_58 rfl rfl ?_
      refine V.iload (i := 4) dX11_doStorm_59 rfl ?_
      refine V.iload (i := 5) dX11_doStorm_61 rfl ?_
      refine V.aload_n (i := 0) dX11_doStorm_63 rfl rfl ?_
      refine V.getfield (kf := 0) (v := .ref 1) fl_RX11 dX11_doStorm_64 w1043 (Nat.le_of_ble_eq_true rfl) rfl rfl ?_
      refine V.iconst (v := 0) dX11_doStorm_67 rfl ?_
      obtain ⟨hi, v7, ev7, hf⟩ := fld_e hf
      refine V.fld dX11_doStorm_68 rfl hi ev7 ?_
      obtain ⟨v8, hv8, hf⟩ := fbind hf
      refine V.callVn (pl := [0, 1, 2, 3, 4]) (σ' := [.inl (6, [.ref 1, .ref 2, .int M_savedMany, .ref 3, .int M_isTaken, .ref 4, .int M_length, .int M_thrown, .int M_spelt, .int M_speltMany, .int M_place, .int M_kind, .int M_one, .int M_two, .int M_three, .int M_begins, .int M_done, .int M_stopBy, .long M_hash]), .inr (406, .inl M_s), .inr (2436, .inl M_saved), .inr (406, .inl M_snapshot), .inr (60, .inl M_text)]) (st2 := [.int v8, .int v6, .int ((p4 + 3) + x5), .ref 1]) (cl2 := 0) (sl2 := 0) (ct_X11_loosens (a1 := p4) (a2 := x5) (a3 := v7) (M_savedMany := M_savedMany) (M_isTaken := M_isTaken) (M_length := M_length) (M_thrown := M_thrown) (M_spelt := M_spelt) (M_speltMany := M_speltMany) (M_place := M_place) (M_kind := M_kind) (M_one := M_one) (M_two := M_two) (M_three := M_three) (M_begins := M_begins) (M_done := M_done) (M_stopBy := M_stopBy) (M_hash := M_hash) (M_s := M_s) (M_saved := M_saved) (M_snapshot := M_snapshot) (M_text := M_text) hv8) dX11_doStorm_69 w1248 ⟨w1250, w32⟩ cal_X11_loosens rfl ⟨⟨Nat.le_of_ble_eq_true rfl, Nat.le_of_ble_eq_true rfl⟩, Nat.le_of_ble_eq_true rfl, Nat.le_of_ble_eq_true rfl⟩ (Nat.le_of_ble_eq_true rfl) (Or.inl ⟨_, _, _, _, rfl, rfl⟩) rfl ⟨rfl, ⟨by decide, by decide⟩, rfl, (fr_cons (Or.inl (Nat.le_of_ble_eq_true rfl)) (fr_cons (Or.inl (Nat.le_of_ble_eq_true rfl)) (fr_cons (Or.inl (Nat.le_of_ble_eq_true rfl)) (fr_cons (Or.inl (Nat.le_of_ble_eq_true rfl)) (fr_nil))))), rfl⟩ fr_i rfl rfl rfl rfl ?_
      refine V.if_eq (tgt := 79) dX11_doStorm_72 (by decide) (fun h => ?_) (fun h => ?_)
      · have hf := fif_t h hf
        refine V.iconst (v := 0) dX11_doStorm_79 rfl ?_
        refine V.iadd dX11_doStorm_80 ?_
        obtain ⟨hi, s9, es9, hf⟩ := fst_e hf
        refine V.fst (σ' := [.inl (6, [.ref 1, .ref 2, .int M_savedMany, .ref 3, .int M_isTaken, .ref 4, .int M_length, .int M_thrown, .int M_spelt, .int M_speltMany, .int M_place, .int M_kind, .int M_one, .int M_two, .int M_three, .int M_begins, .int M_done, .int M_stopBy, .long M_hash]), .inr (406, .inl s9), .inr (2436, .inl M_saved), .inr (406, .inl M_snapshot), .inr (60, .inl M_text)]) dX11_doStorm_81 rfl hi es9 rfl ?_
        refine V.iinc (i := 5) (v := (x5 + 1)) (L' := [some (.ref 0), some (.int p1), some (.int p2), some (.int p3), some (.int p4), some (.int (x5 + 1))]) dX11_doStorm_82 rfl rfl (Nat.le_of_ble_eq_true rfl) rfl rfl ?_
        refine V.goto (tgt := 34) dX11_doStorm_85 (by decide) ?_
        exact ih hf hx
      · have hf := fif_f h hf
        refine V.iconst (v := 1) dX11_doStorm_75 rfl ?_
        refine V.goto (tgt := 80) dX11_doStorm_76 (by decide) ?_
        refine V.iadd dX11_doStorm_80 ?_
        obtain ⟨hi, s10, es10, hf⟩ := fst_e hf
        refine V.fst (σ' := [.inl (6, [.ref 1, .ref 2, .int M_savedMany, .ref 3, .int M_isTaken, .ref 4, .int M_length, .int M_thrown, .int M_spelt, .int M_speltMany, .int M_place, .int M_kind, .int M_one, .int M_two, .int M_three, .int M_begins, .int M_done, .int M_stopBy, .long M_hash]), .inr (406, .inl s10), .inr (2436, .inl M_saved), .inr (406, .inl M_snapshot), .inr (60, .inl M_text)]) dX11_doStorm_81 rfl hi es10 rfl ?_
        refine V.iinc (i := 5) (v := (x5 + 1)) (L' := [some (.ref 0), some (.int p1), some (.int p2), some (.int p3), some (.int p4), some (.int (x5 + 1))]) dX11_doStorm_82 rfl rfl (Nat.le_of_ble_eq_true rfl) rfl rfl ?_
        refine V.goto (tgt := 34) dX11_doStorm_85 (by decide) ?_
        exact ih hf hx
def s_X11_doStorm_L14 (p1 : Int32) : Nat → Int32 → Int32 → (Nat → Int32) → Option (Int32 × Int32 × (Nat → Int32))
  | 0, _, _, _ => none
  | n + 1, x2, x3, M_s => (s_X11_of p1 1 M_s).bind fun v3 => if (v3 ≤ x3 : Prop) then (some (x2, x3, M_s)) else ((s_X11_whereIs p1 x3).bind fun v4 => (s_X11_doStorm_L34 v4 gF 0 M_s).bind fun r11 => (s_X11_loosened v4 2 r11.2).bind fun v12 => fld 406 r11.2 5 fun v13 => if (v12 ≤ v13 : Prop) then (s_X11_doStorm_L14 p1 n x2 (x3 + 1) r11.2) else ((s_X11_drown p1 x3 r11.2).bind fun v14 => s_X11_doStorm_L14 p1 n (x2 + 1) x3 v14))
set_option maxHeartbeats 4000000 in
set_option maxRecDepth 100000 in
theorem v_X11_doStorm_L14 {out : fO} {σ' : List fE} {p1 : Int32} {M_savedMany : Int32} {M_isTaken : Int32} {M_length : Int32} {M_thrown : Int32} {M_spelt : Int32} {M_speltMany : Int32} {M_place : Int32} {M_kind : Int32} {M_one : Int32} {M_two : Int32} {M_three : Int32} {M_begins : Int32} {M_done : Int32} {M_stopBy : Int32} {M_hash : Int64} {M_saved : Nat → Int32} {M_snapshot : Nat → Int32} {M_text : Nat → Int32} : ∀ (n : Nat) {x2 : Int32} {x3 : Int32} {M_s : (Nat → Int32)} {res : Int32 × Int32 × (Nat → Int32)} (hf : s_X11_doStorm_L14 p1 n x2 x3 M_s = some res) (hx : V (fXm 5 k_X11_doStorm out σ') (krm k_X11_doStorm) k_X11_doStorm 5 122 [some (.ref 0), some (.int p1), some (.int res.1), some (.int res.2.1), none, none] [] [.inl (6, [.ref 1, .ref 2, .int M_savedMany, .ref 3, .int M_isTaken, .ref 4, .int M_length, .int M_thrown, .int M_spelt, .int M_speltMany, .int M_place, .int M_kind, .int M_one, .int M_two, .int M_three, .int M_begins, .int M_done, .int M_stopBy, .long M_hash]), .inr (406, .inl res.2.2), .inr (2436, .inl M_saved), .inr (406, .inl M_snapshot), .inr (60, .inl M_text)] 0 0), V (fXm 5 k_X11_doStorm out σ') (krm k_X11_doStorm) k_X11_doStorm 5 14 [some (.ref 0), some (.int p1), some (.int x2), some (.int x3), none, none] [] [.inl (6, [.ref 1, .ref 2, .int M_savedMany, .ref 3, .int M_isTaken, .ref 4, .int M_length, .int M_thrown, .int M_spelt, .int M_speltMany, .int M_place, .int M_kind, .int M_one, .int M_two, .int M_three, .int M_begins, .int M_done, .int M_stopBy, .long M_hash]), .inr (406, .inl M_s), .inr (2436, .inl M_saved), .inr (406, .inl M_snapshot), .inr (60, .inl M_text)] 0 0 := by
  intro n
  induction n with
  | zero =>
    intro x2 x3 M_s res hf hx
    rw [s_X11_doStorm_L14] at hf
    cases hf
  | succ n ih =>
    intro x2 x3 M_s res hf hx
    rw [s_X11_doStorm_L14] at hf
    refine V.iload_n (i := 3) dX11_doStorm_14 rfl rfl ?_
    refine V.aload_n (i := 0) dX11_doStorm_15 rfl rfl ?_
    refine V.iload_n (i := 1) dX11_doStorm_16 rfl rfl ?_
    refine V.iconst (v := 1) dX11_doStorm_17 rfl ?_
    obtain ⟨v3, hv3, hf⟩ := fbind hf
    refine V.callVn (pl := [0, 1, 2, 3, 4]) (σ' := [.inl (6, [.ref 1, .ref 2, .int M_savedMany, .ref 3, .int M_isTaken, .ref 4, .int M_length, .int M_thrown, .int M_spelt, .int M_speltMany, .int M_place, .int M_kind, .int M_one, .int M_two, .int M_three, .int M_begins, .int M_done, .int M_stopBy, .long M_hash]), .inr (406, .inl M_s), .inr (2436, .inl M_saved), .inr (406, .inl M_snapshot), .inr (60, .inl M_text)]) (st2 := [.int v3, .int x3]) (cl2 := 0) (sl2 := 0) (ct_X11_of (a1 := p1) (a2 := 1) (M_savedMany := M_savedMany) (M_isTaken := M_isTaken) (M_length := M_length) (M_thrown := M_thrown) (M_spelt := M_spelt) (M_speltMany := M_speltMany) (M_place := M_place) (M_kind := M_kind) (M_one := M_one) (M_two := M_two) (M_three := M_three) (M_begins := M_begins) (M_done := M_done) (M_stopBy := M_stopBy) (M_hash := M_hash) (M_s := M_s) (M_saved := M_saved) (M_snapshot := M_snapshot) (M_text := M_text) hv3) dX11_doStorm_18 w1123 ⟨w1125, w10⟩ cal_X11_of rfl ⟨⟨Nat.le_of_ble_eq_true rfl, Nat.le_of_ble_eq_true rfl⟩, Nat.le_of_ble_eq_true rfl, Nat.le_of_ble_eq_true rfl⟩ (Nat.le_of_ble_eq_true rfl) (Or.inl ⟨_, _, _, _, rfl, rfl⟩) rfl ⟨rfl, ⟨by decide, by decide⟩, rfl, (fr_cons (Or.inl (Nat.le_of_ble_eq_true rfl)) (fr_cons (Or.inl (Nat.le_of_ble_eq_true rfl)) (fr_cons (Or.inl (Nat.le_of_ble_eq_true rfl)) (fr_cons (Or.inl (Nat.le_of_ble_eq_true rfl)) (fr_nil))))), rfl⟩ fr_i rfl rfl rfl rfl ?_
    refine V.icmp_ge (tgt := 122) dX11_doStorm_21 (by decide) (fun h => ?_) (fun h => ?_)
    · have hf := fif_t h hf
      obtain rfl := Option.some.inj hf
      exact hx
    · have hf := fif_f h hf
      refine V.iload_n (i := 1) dX11_doStorm_24 rfl rfl ?_
      refine V.iload_n (i := 3) dX11_doStorm_25 rfl rfl ?_
      obtain ⟨v4, hv4, hf⟩ := fbind hf
      refine V.callSn (pl := []) (σ' := [.inl (6, [.ref 1, .ref 2, .int M_savedMany, .ref 3, .int M_isTaken, .ref 4, .int M_length, .int M_thrown, .int M_spelt, .int M_speltMany, .int M_place, .int M_kind, .int M_one, .int M_two, .int M_three, .int M_begins, .int M_done, .int M_stopBy, .long M_hash]), .inr (406, .inl M_s), .inr (2436, .inl M_saved), .inr (406, .inl M_snapshot), .inr (60, .inl M_text)]) (st2 := [.int v4]) (cl2 := 0) (sl2 := 0) (ct_X11_whereIs (a0 := p1) (a1 := x3) hv4) dX11_doStorm_26 w1147 w1148 cal_X11_whereIs ⟨⟨Nat.le_of_ble_eq_true rfl, Nat.le_of_ble_eq_true rfl⟩, Nat.le_of_ble_eq_true rfl, Nat.le_of_ble_eq_true rfl⟩ (Nat.le_of_ble_eq_true rfl) rfl ⟨rfl, ⟨by decide, by decide⟩, rfl, (fr_nil), rfl⟩ fr_i rfl rfl rfl rfl ?_
      refine V.istore (i := 4) (L' := [some (.ref 0), some (.int p1), some (.int x2), some (.int x3), some (.int v4), none]) dX11_doStorm_29 (Nat.le_of_ble_eq_true rfl) rfl rfl ?_
      refine V.iconst (v := 0) dX11_doStorm_31 rfl ?_
      refine V.istore (i := 5) (L' := [some (.ref 0), some (.int p1), some (.int x2), some (.int x3), some (.int v4), some (.int 0)]) dX11_doStorm_32 (Nat.le_of_ble_eq_true rfl) rfl rfl ?_
      obtain ⟨r11, hr11, hf⟩ := fbind hf
      refine v_X11_doStorm_L34 gF hr11 ?_
      refine V.aload_n (i := 0) dX11_doStorm_88 rfl rfl ?_
      refine V.iload (i := 4) dX11_doStorm_89 rfl ?_
      refine V.iconst (v := 2) dX11_doStorm_91 rfl ?_
      obtain ⟨v12, hv12, hf⟩ := fbind hf
      refine V.callVn (pl := [0, 1, 2, 3, 4]) (σ' := [.inl (6, [.ref 1, .ref 2, .int M_savedMany, .ref 3, .int M_isTaken, .ref 4, .int M_length, .int M_thrown, .int M_spelt, .int M_speltMany, .int M_place, .int M_kind, .int M_one, .int M_two, .int M_three, .int M_begins, .int M_done, .int M_stopBy, .long M_hash]), .inr (406, .inl r11.2), .inr (2436, .inl M_saved), .inr (406, .inl M_snapshot), .inr (60, .inl M_text)]) (st2 := [.int v12]) (cl2 := 0) (sl2 := 0) (ct_X11_loosened (a1 := v4) (a2 := 2) (M_savedMany := M_savedMany) (M_isTaken := M_isTaken) (M_length := M_length) (M_thrown := M_thrown) (M_spelt := M_spelt) (M_speltMany := M_speltMany) (M_place := M_place) (M_kind := M_kind) (M_one := M_one) (M_two := M_two) (M_three := M_three) (M_begins := M_begins) (M_done := M_done) (M_stopBy := M_stopBy) (M_hash := M_hash) (M_s := r11.2) (M_saved := M_saved) (M_snapshot := M_snapshot) (M_text := M_text) hv12) dX11_doStorm_92 w1162 ⟨w1164, w16⟩ cal_X11_loosened rfl ⟨⟨Nat.le_of_ble_eq_true rfl, Nat.le_of_ble_eq_true rfl⟩, Nat.le_of_ble_eq_true rfl, Nat.le_of_ble_eq_true rfl⟩ (Nat.le_of_ble_eq_true rfl) (Or.inl ⟨_, _, _, _, rfl, rfl⟩) rfl ⟨rfl, ⟨by decide, by decide⟩, rfl, (fr_cons (Or.inl (Nat.le_of_ble_eq_true rfl)) (fr_cons (Or.inl (Nat.le_of_ble_eq_true rfl)) (fr_cons (Or.inl (Nat.le_of_ble_eq_true rfl)) (fr_cons (Or.inl (Nat.le_of_ble_eq_true rfl)) (fr_nil))))), rfl⟩ fr_i rfl rfl rfl rfl ?_
      refine V.aload_n (i := 0) dX11_doStorm_95 rfl rfl ?_
      refine V.getfield (kf := 0) (v := .ref 1) fl_RX11 dX11_doStorm_96 w1043 (Nat.le_of_ble_eq_true rfl) rfl rfl ?_
      refine V.iconst (v := 5) dX11_doStorm_99 rfl ?_
      obtain ⟨hi, v13, ev13, hf⟩ := fld_e hf
      refine V.fld dX11_doStorm_100 rfl hi ev13 ?_
      refine V.icmp_le (tgt := 116) dX11_doStorm_101 (by decide) (fun h => ?_) (fun h => ?_)
      · have hf := fif_t h hf
        refine V.iinc (i := 3) (v := (x3 + 1)) (L' := [some (.ref 0), some (.int p1), some (.int x2), some (.int (x3 + 1)), some (.int v4), some (.int r11.1)]) dX11_doStorm_116 rfl rfl (Nat.le_of_ble_eq_true rfl) rfl rfl ?_
        refine V.goto (tgt := 14) dX11_doStorm_119 (by decide) ?_
        exact V.locs (L' := [some (.ref 0), some (.int p1), some (.int x2), some (.int (x3 + 1)), none, none]) ⟨rfl, ⟨rfl, ⟨rfl, ⟨rfl, trivial⟩⟩⟩⟩ (ih hf hx)
      · have hf := fif_f h hf
        refine V.aload_n (i := 0) dX11_doStorm_104 rfl rfl ?_
        refine V.iload_n (i := 1) dX11_doStorm_105 rfl rfl ?_
        refine V.iload_n (i := 3) dX11_doStorm_106 rfl rfl ?_
        obtain ⟨v14, hv14, hf⟩ := fbind hf
        refine V.callVn (pl := [0, 1, 2, 3, 4]) (σ' := [.inl (6, [.ref 1, .ref 2, .int M_savedMany, .ref 3, .int M_isTaken, .ref 4, .int M_length, .int M_thrown, .int M_spelt, .int M_speltMany, .int M_place, .int M_kind, .int M_one, .int M_two, .int M_three, .int M_begins, .int M_done, .int M_stopBy, .long M_hash]), .inr (406, .inl v14), .inr (2436, .inl M_saved), .inr (406, .inl M_snapshot), .inr (60, .inl M_text)]) (st2 := []) (cl2 := 0) (sl2 := 0) (ct_X11_drown (a1 := p1) (a2 := x3) (M_savedMany := M_savedMany) (M_isTaken := M_isTaken) (M_length := M_length) (M_thrown := M_thrown) (M_spelt := M_spelt) (M_speltMany := M_speltMany) (M_place := M_place) (M_kind := M_kind) (M_one := M_one) (M_two := M_two) (M_three := M_three) (M_begins := M_begins) (M_done := M_done) (M_stopBy := M_stopBy) (M_hash := M_hash) (M_s := r11.2) (M_saved := M_saved) (M_snapshot := M_snapshot) (M_text := M_text) hv14) dX11_doStorm_107 w1255 ⟨w1257, w33⟩ cal_X11_drown rfl ⟨⟨Nat.le_of_ble_eq_true rfl, Nat.le_of_ble_eq_true rfl⟩, Nat.le_of_ble_eq_true rfl, Nat.le_of_ble_eq_true rfl⟩ (Nat.le_of_ble_eq_true rfl) (Or.inl ⟨_, _, _, _, rfl, rfl⟩) rfl ⟨rfl, ⟨by decide, by decide⟩, rfl, (fr_cons (Or.inl (Nat.le_of_ble_eq_true rfl)) (fr_cons (Or.inl (Nat.le_of_ble_eq_true rfl)) (fr_cons (Or.inl (Nat.le_of_ble_eq_true rfl)) (fr_cons (Or.inl (Nat.le_of_ble_eq_true rfl)) (fr_nil))))), rfl⟩ fr_v rfl rfl rfl rfl ?_
        refine V.iinc (i := 2) (v := (x2 + 1)) (L' := [some (.ref 0), some (.int p1), some (.int (x2 + 1)), some (.int x3), some (.int v4), some (.int r11.1)]) dX11_doStorm_110 rfl rfl (Nat.le_of_ble_eq_true rfl) rfl rfl ?_
        refine V.goto (tgt := 119) dX11_doStorm_113 (by decide) ?_
        refine V.goto (tgt := 14) dX11_doStorm_119 (by decide) ?_
        exact V.locs (L' := [some (.ref 0), some (.int p1), some (.int (x2 + 1)), some (.int x3), none, none]) ⟨rfl, ⟨rfl, ⟨rfl, ⟨rfl, trivial⟩⟩⟩⟩ (ih hf hx)
def s_X11_doStorm (a1 : Int32) (M_s : Nat → Int32) : Option (Int32 × (Nat → Int32)) := fld 406 M_s 0 fun v1 => fst 406 M_s 0 (v1 + 1) fun s2 => (s_X11_doStorm_L14 a1 gF 0 0 s2).bind fun r15 => some (r15.1, r15.2.2)
set_option maxHeartbeats 4000000 in
set_option maxRecDepth 100000 in
theorem ct_X11_doStorm {a1 : Int32} {M_savedMany : Int32} {M_isTaken : Int32} {M_length : Int32} {M_thrown : Int32} {M_spelt : Int32} {M_speltMany : Int32} {M_place : Int32} {M_kind : Int32} {M_one : Int32} {M_two : Int32} {M_three : Int32} {M_begins : Int32} {M_done : Int32} {M_stopBy : Int32} {M_hash : Int64} {M_s : Nat → Int32} {M_saved : Nat → Int32} {M_snapshot : Nat → Int32} {M_text : Nat → Int32} {res : Int32 × (Nat → Int32)} (hf : s_X11_doStorm a1 M_s = some res) : Ct k_X11_doStorm [.ref 0, .int a1] [.inl (6, [.ref 1, .ref 2, .int M_savedMany, .ref 3, .int M_isTaken, .ref 4, .int M_length, .int M_thrown, .int M_spelt, .int M_speltMany, .int M_place, .int M_kind, .int M_one, .int M_two, .int M_three, .int M_begins, .int M_done, .int M_stopBy, .long M_hash]), .inr (406, .inl M_s), .inr (2436, .inl M_saved), .inr (406, .inl M_snapshot), .inr (60, .inl M_text)] (.inl (some (.int res.1))) [.inl (6, [.ref 1, .ref 2, .int M_savedMany, .ref 3, .int M_isTaken, .ref 4, .int M_length, .int M_thrown, .int M_spelt, .int M_speltMany, .int M_place, .int M_kind, .int M_one, .int M_two, .int M_three, .int M_begins, .int M_done, .int M_stopBy, .long M_hash]), .inr (406, .inl res.2), .inr (2436, .inl M_saved), .inr (406, .inl M_snapshot), .inr (60, .inl M_text)] := by
  unfold s_X11_doStorm at hf
  refine Ct.of (L := [some (.ref 0), some (.int a1), none, none, none, none]) cal_X11_doStorm (fent_pad (j := 4) rfl) (Nat.le_of_ble_eq_true rfl) ?_
  refine V.aload_n (i := 0) dX11_doStorm_0 rfl rfl ?_
  refine V.getfield (kf := 0) (v := .ref 1) fl_RX11 dX11_doStorm_1 w1043 (Nat.le_of_ble_eq_true rfl) rfl rfl ?_
  refine V.iconst (v := 0) dX11_doStorm_4 rfl ?_
  refine V.dup2 dX11_doStorm_5 rfl rfl ?_
  obtain ⟨hi, v1, ev1, hf⟩ := fld_e hf
  refine V.fld dX11_doStorm_6 rfl hi ev1 ?_
  refine V.iconst (v := 1) dX11_doStorm_7 rfl ?_
  refine V.iadd dX11_doStorm_8 ?_
  obtain ⟨hi, s2, es2, hf⟩ := fst_e hf
  refine V.fst (σ' := [.inl (6, [.ref 1, .ref 2, .int M_savedMany, .ref 3, .int M_isTaken, .ref 4, .int M_length, .int M_thrown, .int M_spelt, .int M_speltMany, .int M_place, .int M_kind, .int M_one, .int M_two, .int M_three, .int M_begins, .int M_done, .int M_stopBy, .long M_hash]), .inr (406, .inl s2), .inr (2436, .inl M_saved), .inr (406, .inl M_snapshot), .inr (60, .inl M_text)]) dX11_doStorm_9 rfl hi es2 rfl ?_
  refine V.iconst (v := 0) dX11_doStorm_10 rfl ?_
  refine V.istore_n (i := 2) (L' := [some (.ref 0), some (.int a1), some (.int 0), none, none, none]) dX11_doStorm_11 rfl (Nat.le_of_ble_eq_true rfl) rfl rfl ?_
  refine V.iconst (v := 0) dX11_doStorm_12 rfl ?_
  refine V.istore_n (i := 3) (L' := [some (.ref 0), some (.int a1), some (.int 0), some (.int 0), none, none]) dX11_doStorm_13 rfl (Nat.le_of_ble_eq_true rfl) rfl rfl ?_
  obtain ⟨r15, hr15, hf⟩ := fbind hf
  refine v_X11_doStorm_L14 gF hr15 ?_
  refine V.iload_n (i := 2) dX11_doStorm_122 rfl rfl ?_
  obtain rfl := Option.some.inj hf
  exact V.iret dX11_doStorm_123 rfl (Nat.le_of_ble_eq_true rfl) (Nat.le_of_ble_eq_true rfl) rfl
def k_X11_isSpelt : fK := (yX11_isSpelt, cX11_isSpelt, 5, (some .boolean), [], (1, 22), (0, 0), (0, 0))
theorem cal_X11_isSpelt : fCal k_X11_isSpelt 2 := ⟨⟨wc1112, w73⟩, ⟨by decide +kernel, by decide +kernel⟩, by decide +kernel, by decide +kernel⟩
def s_X11_isSpelt_L25 (p1 : Int32) (p2 : Int32) (M_text : Nat → Int32) : Nat → Int32 → Int32 → (Int32) → Option (Int32 × Int32 × (Int32))
  | 0, _, _, _ => none
  | n + 1, x3, x4, M_spelt => if (p2 ≤ x4 : Prop) then (some (x3, x4, M_spelt)) else (if (x3 = 0 : Prop) then (some (x3, x4, M_spelt)) else (fld 60 M_text x4 fun v2 => (s_X11_in v2 97 112).bind fun v3 => if (v3 = 0 : Prop) then (s_X11_isSpelt_L25 p1 p2 M_text n v3 (x4 + 1) (M_spelt ||| 0)) else (fld 60 M_text x4 fun v4 => s_X11_isSpelt_L25 p1 p2 M_text n v3 (x4 + 1) (M_spelt ||| ((v4 - 97) <<< ((4 * (x4 - p1)) &&& 31))))))
set_option maxHeartbeats 4000000 in
set_option maxRecDepth 100000 in
theorem v_X11_isSpelt_L25 {out : fO} {σ' : List fE} {p1 : Int32} {p2 : Int32} {M_savedMany : Int32} {M_isTaken : Int32} {M_length : Int32} {M_thrown : Int32} {M_speltMany : Int32} {M_place : Int32} {M_kind : Int32} {M_one : Int32} {M_two : Int32} {M_three : Int32} {M_begins : Int32} {M_done : Int32} {M_stopBy : Int32} {M_hash : Int64} {M_s : Nat → Int32} {M_saved : Nat → Int32} {M_snapshot : Nat → Int32} {M_text : Nat → Int32} : ∀ (n : Nat) {x3 : Int32} {x4 : Int32} {M_spelt : (Int32)} {res : Int32 × Int32 × (Int32)} (hf : s_X11_isSpelt_L25 p1 p2 M_text n x3 x4 M_spelt = some res) (hx : V (fXm 5 k_X11_isSpelt out σ') (krm k_X11_isSpelt) k_X11_isSpelt 5 90 [some (.ref 0), some (.int p1), some (.int p2), some (.int res.1), some (.int res.2.1)] [] [.inl (6, [.ref 1, .ref 2, .int M_savedMany, .ref 3, .int M_isTaken, .ref 4, .int M_length, .int M_thrown, .int res.2.2, .int M_speltMany, .int M_place, .int M_kind, .int M_one, .int M_two, .int M_three, .int M_begins, .int M_done, .int M_stopBy, .long M_hash]), .inr (406, .inl M_s), .inr (2436, .inl M_saved), .inr (406, .inl M_snapshot), .inr (60, .inl M_text)] 0 0), V (fXm 5 k_X11_isSpelt out σ') (krm k_X11_isSpelt) k_X11_isSpelt 5 25 [some (.ref 0), some (.int p1), some (.int p2), some (.int x3), some (.int x4)] [] [.inl (6, [.ref 1, .ref 2, .int M_savedMany, .ref 3, .int M_isTaken, .ref 4, .int M_length, .int M_thrown, .int M_spelt, .int M_speltMany, .int M_place, .int M_kind, .int M_one, .int M_two, .int M_three, .int M_begins, .int M_done, .int M_stopBy, .long M_hash]), .inr (406, .inl M_s), .inr (2436, .inl M_saved), .inr (406, .inl M_snapshot), .inr (60, .inl M_text)] 0 0 := by
  intro n
  induction n with
  | zero =>
    intro x3 x4 M_spelt res hf hx
    rw [s_X11_isSpelt_L25] at hf
    cases hf
  | succ n ih =>
    intro x3 x4 M_spelt res hf hx
    rw [s_X11_isSpelt_L25] at hf
    refine V.iload (i := 4) dX11_isSpelt_25 rfl ?_
    refine V.iload_n (i := 2) dX11_isSpelt_27 rfl rfl ?_
    refine V.icmp_ge (tgt := 90) dX11_isSpelt_28 (by decide) (fun h => ?_) (fun h => ?_)
    · have hf := fif_t h hf
      obtain rfl := Option.some.inj hf
      exact hx
    · have hf := fif_f h hf
      refine V.iload_n (i := 3) dX11_isSpelt_31 rfl rfl ?_
      refine V.if_eq (tgt := 90) dX11_isSpelt_32 (by decide) (fun h => ?_) (fun h => ?_)
      · have hf := fif_t h hf
        obtain rfl := Option.some.inj hf
        exact hx
      · have hf := fif_f h hf
        refine V.aload_n (i := 0) dX11_isSpelt_35 rfl rfl ?_
        refine V.getfield (kf := 5) (v := .ref 4) fl_RX11 dX11_isSpelt_36 w1048 (Nat.le_of_ble_eq_true rfl) rfl rfl ?_
        refine V.iload (i := 4) dX11_isSpelt_39 rfl ?_
        obtain ⟨hi, v2, ev2, hf⟩ := fld_e hf
        refine V.fld dX11_isSpelt_41 rfl hi ev2 ?_
        refine V.bipush (v := 97) dX11_isSpelt_42 rfl ?_
        refine V.bipush (v := 112) dX11_isSpelt_44 rfl ?_
        obtain ⟨v3, hv3, hf⟩ := fbind hf
        refine V.callSn (pl := []) (σ' := [.inl (6, [.ref 1, .ref 2, .int M_savedMany, .ref 3, .int M_isTaken, .ref 4, .int M_length, .int M_thrown, .int M_spelt, .int M_speltMany, .int M_place, .int M_kind, .int M_one, .int M_two, .int M_three, .int M_begins, .int M_done, .int M_stopBy, .long M_hash]), .inr (406, .inl M_s), .inr (2436, .inl M_saved), .inr (406, .inl M_snapshot), .inr (60, .inl M_text)]) (st2 := [.int v3]) (cl2 := 0) (sl2 := 0) (ct_X11_in (a0 := v2) (a1 := 97) (a2 := 112) hv3) dX11_isSpelt_46 w1113 w1114 cal_X11_in ⟨⟨Nat.le_of_ble_eq_true rfl, Nat.le_of_ble_eq_true rfl⟩, Nat.le_of_ble_eq_true rfl, Nat.le_of_ble_eq_true rfl⟩ (Nat.le_of_ble_eq_true rfl) rfl ⟨rfl, ⟨by decide, by decide⟩, rfl, (fr_nil), rfl⟩ fr_i rfl rfl rfl rfl ?_
        refine V.istore_n (i := 3) (L' := [some (.ref 0), some (.int p1), some (.int p2), some (.int v3), some (.int x4)]) dX11_isSpelt_49 rfl (Nat.le_of_ble_eq_true rfl) rfl rfl ?_
        refine V.aload_n (i := 0) dX11_isSpelt_50 rfl rfl ?_
        refine V.dup dX11_isSpelt_51 rfl ?_
        refine V.getfield (kf := 8) (v := .int M_spelt) fl_RX11 dX11_isSpelt_52 w1051 (Nat.le_of_ble_eq_true rfl) rfl rfl ?_
        refine V.iload_n (i := 3) dX11_isSpelt_55 rfl rfl ?_
        refine V.if_eq (tgt := 79) dX11_isSpelt_56 (by decide) (fun h => ?_) (fun h => ?_)
        · have hf := fif_t h hf
          refine V.iconst (v := 0) dX11_isSpelt_79 rfl ?_
          refine V.ior dX11_isSpelt_80 ?_
          refine V.putfield (ty := tyX11) (kf := 8) (σ' := [.inl (6, [.ref 1, .ref 2, .int M_savedMany, .ref 3, .int M_isTaken, .ref 4, .int M_length, .int M_thrown, .int (M_spelt ||| 0), .int M_speltMany, .int M_place, .int M_kind, .int M_one, .int M_two, .int M_three, .int M_begins, .int M_done, .int M_stopBy, .long M_hash]), .inr (406, .inl M_s), .inr (2436, .inl M_saved), .inr (406, .inl M_snapshot), .inr (60, .inl M_text)]) fl_RX11 dX11_isSpelt_81 w1051 (Nat.le_of_ble_eq_true rfl) rfl (fun _ => ⟨rfl, rfl⟩) rfl (Nat.le_of_ble_eq_true rfl) rfl ?_
          refine V.iinc (i := 4) (v := (x4 + 1)) (L' := [some (.ref 0), some (.int p1), some (.int p2), some (.int v3), some (.int (x4 + 1))]) dX11_isSpelt_84 rfl rfl (Nat.le_of_ble_eq_true rfl) rfl rfl ?_
          refine V.goto (tgt := 25) dX11_isSpelt_87 (by decide) ?_
          exact ih hf hx
        · have hf := fif_f h hf
          refine V.aload_n (i := 0) dX11_isSpelt_59 rfl rfl ?_
          refine V.getfield (kf := 5) (v := .ref 4) fl_RX11 dX11_isSpelt_60 w1048 (Nat.le_of_ble_eq_true rfl) rfl rfl ?_
          refine V.iload (i := 4) dX11_isSpelt_63 rfl ?_
          obtain ⟨hi, v4, ev4, hf⟩ := fld_e hf
          refine V.fld dX11_isSpelt_65 rfl hi ev4 ?_
          refine V.bipush (v := 97) dX11_isSpelt_66 rfl ?_
          refine V.isub dX11_isSpelt_68 ?_
          refine V.iconst (v := 4) dX11_isSpelt_69 rfl ?_
          refine V.iload (i := 4) dX11_isSpelt_70 rfl ?_
          refine V.iload_n (i := 1) dX11_isSpelt_72 rfl rfl ?_
          refine V.isub dX11_isSpelt_73 ?_
          refine V.imul dX11_isSpelt_74 ?_
          refine V.ishl dX11_isSpelt_75 ?_
          refine V.goto (tgt := 80) dX11_isSpelt_76 (by decide) ?_
          refine V.ior dX11_isSpelt_80 ?_
          refine V.putfield (ty := tyX11) (kf := 8) (σ' := [.inl (6, [.ref 1, .ref 2, .int M_savedMany, .ref 3, .int M_isTaken, .ref 4, .int M_length, .int M_thrown, .int (M_spelt ||| ((v4 - 97) <<< ((4 * (x4 - p1)) &&& 31))), .int M_speltMany, .int M_place, .int M_kind, .int M_one, .int M_two, .int M_three, .int M_begins, .int M_done, .int M_stopBy, .long M_hash]), .inr (406, .inl M_s), .inr (2436, .inl M_saved), .inr (406, .inl M_snapshot), .inr (60, .inl M_text)]) fl_RX11 dX11_isSpelt_81 w1051 (Nat.le_of_ble_eq_true rfl) rfl (fun _ => ⟨rfl, rfl⟩) rfl (Nat.le_of_ble_eq_true rfl) rfl ?_
          refine V.iinc (i := 4) (v := (x4 + 1)) (L' := [some (.ref 0), some (.int p1), some (.int p2), some (.int v3), some (.int (x4 + 1))]) dX11_isSpelt_84 rfl rfl (Nat.le_of_ble_eq_true rfl) rfl rfl ?_
          refine V.goto (tgt := 25) dX11_isSpelt_87 (by decide) ?_
          exact ih hf hx
def s_X11_isSpelt (a1 : Int32) (a2 : Int32) (M_spelt : Int32) (M_speltMany : Int32) (M_text : Nat → Int32) : Option (Int32 × (Int32) × (Int32)) := (s_X11_in (a2 - a1) 1 8).bind fun v1 => (s_X11_isSpelt_L25 a1 a2 M_text gF v1 a1 0).bind fun r5 => fz r5.1 (some (r5.1, r5.2.2, (a2 - a1)))
set_option maxHeartbeats 4000000 in
set_option maxRecDepth 100000 in
theorem ct_X11_isSpelt {a1 : Int32} {a2 : Int32} {M_savedMany : Int32} {M_isTaken : Int32} {M_length : Int32} {M_thrown : Int32} {M_spelt : Int32} {M_speltMany : Int32} {M_place : Int32} {M_kind : Int32} {M_one : Int32} {M_two : Int32} {M_three : Int32} {M_begins : Int32} {M_done : Int32} {M_stopBy : Int32} {M_hash : Int64} {M_s : Nat → Int32} {M_saved : Nat → Int32} {M_snapshot : Nat → Int32} {M_text : Nat → Int32} {res : Int32 × (Int32) × (Int32)} (hf : s_X11_isSpelt a1 a2 M_spelt M_speltMany M_text = some res) : Ct k_X11_isSpelt [.ref 0, .int a1, .int a2] [.inl (6, [.ref 1, .ref 2, .int M_savedMany, .ref 3, .int M_isTaken, .ref 4, .int M_length, .int M_thrown, .int M_spelt, .int M_speltMany, .int M_place, .int M_kind, .int M_one, .int M_two, .int M_three, .int M_begins, .int M_done, .int M_stopBy, .long M_hash]), .inr (406, .inl M_s), .inr (2436, .inl M_saved), .inr (406, .inl M_snapshot), .inr (60, .inl M_text)] (.inl (some (.int res.1))) [.inl (6, [.ref 1, .ref 2, .int M_savedMany, .ref 3, .int M_isTaken, .ref 4, .int M_length, .int M_thrown, .int res.2.1, .int res.2.2, .int M_place, .int M_kind, .int M_one, .int M_two, .int M_three, .int M_begins, .int M_done, .int M_stopBy, .long M_hash]), .inr (406, .inl M_s), .inr (2436, .inl M_saved), .inr (406, .inl M_snapshot), .inr (60, .inl M_text)] := by
  unfold s_X11_isSpelt at hf
  refine Ct.of (L := [some (.ref 0), some (.int a1), some (.int a2), none, none]) cal_X11_isSpelt (fent_pad (j := 2) rfl) (Nat.le_of_ble_eq_true rfl) ?_
  refine V.iload_n (i := 2) dX11_isSpelt_0 rfl rfl ?_
  refine V.iload_n (i := 1) dX11_isSpelt_1 rfl rfl ?_
  refine V.isub dX11_isSpelt_2 ?_
  refine V.iconst (v := 1) dX11_isSpelt_3 rfl ?_
  refine V.bipush (v := 8) dX11_isSpelt_4 rfl ?_
  obtain ⟨v1, hv1, hf⟩ := fbind hf
  refine V.callSn (pl := []) (σ' := [.inl (6, [.ref 1, .ref 2, .int M_savedMany, .ref 3, .int M_isTaken, .ref 4, .int M_length, .int M_thrown, .int M_spelt, .int M_speltMany, .int M_place, .int M_kind, .int M_one, .int M_two, .int M_three, .int M_begins, .int M_done, .int M_stopBy, .long M_hash]), .inr (406, .inl M_s), .inr (2436, .inl M_saved), .inr (406, .inl M_snapshot), .inr (60, .inl M_text)]) (st2 := [.int v1]) (cl2 := 0) (sl2 := 0) (ct_X11_in (a0 := (a2 - a1)) (a1 := 1) (a2 := 8) hv1) dX11_isSpelt_6 w1113 w1114 cal_X11_in ⟨⟨Nat.le_of_ble_eq_true rfl, Nat.le_of_ble_eq_true rfl⟩, Nat.le_of_ble_eq_true rfl, Nat.le_of_ble_eq_true rfl⟩ (Nat.le_of_ble_eq_true rfl) rfl ⟨rfl, ⟨by decide, by decide⟩, rfl, (fr_nil), rfl⟩ fr_i rfl rfl rfl rfl ?_
  refine V.istore_n (i := 3) (L' := [some (.ref 0), some (.int a1), some (.int a2), some (.int v1), none]) dX11_isSpelt_9 rfl (Nat.le_of_ble_eq_true rfl) rfl rfl ?_
  refine V.aload_n (i := 0) dX11_isSpelt_10 rfl rfl ?_
  refine V.iconst (v := 0) dX11_isSpelt_11 rfl ?_
  refine V.putfield (ty := tyX11) (kf := 8) (σ' := [.inl (6, [.ref 1, .ref 2, .int M_savedMany, .ref 3, .int M_isTaken, .ref 4, .int M_length, .int M_thrown, .int 0, .int M_speltMany, .int M_place, .int M_kind, .int M_one, .int M_two, .int M_three, .int M_begins, .int M_done, .int M_stopBy, .long M_hash]), .inr (406, .inl M_s), .inr (2436, .inl M_saved), .inr (406, .inl M_snapshot), .inr (60, .inl M_text)]) fl_RX11 dX11_isSpelt_12 w1051 (Nat.le_of_ble_eq_true rfl) rfl (fun _ => ⟨rfl, rfl⟩) rfl (Nat.le_of_ble_eq_true rfl) rfl ?_
  refine V.aload_n (i := 0) dX11_isSpelt_15 rfl rfl ?_
  refine V.iload_n (i := 2) dX11_isSpelt_16 rfl rfl ?_
  refine V.iload_n (i := 1) dX11_isSpelt_17 rfl rfl ?_
  refine V.isub dX11_isSpelt_18 ?_
  refine V.putfield (ty := tyX11) (kf := 9) (σ' := [.inl (6, [.ref 1, .ref 2, .int M_savedMany, .ref 3, .int M_isTaken, .ref 4, .int M_length, .int M_thrown, .int 0, .int (a2 - a1), .int M_place, .int M_kind, .int M_one, .int M_two, .int M_three, .int M_begins, .int M_done, .int M_stopBy, .long M_hash]), .inr (406, .inl M_s), .inr (2436, .inl M_saved), .inr (406, .inl M_snapshot), .inr (60, .inl M_text)]) fl_RX11 dX11_isSpelt_19 w1052 (Nat.le_of_ble_eq_true rfl) rfl (fun _ => ⟨rfl, rfl⟩) rfl (Nat.le_of_ble_eq_true rfl) rfl ?_
  refine V.iload_n (i := 1) dX11_isSpelt_22 rfl rfl ?_
  refine V.istore (i := 4) (L' := [some (.ref 0), some (.int a1), some (.int a2), some (.int v1), some (.int a1)]) dX11_isSpelt_23 (Nat.le_of_ble_eq_true rfl) rfl rfl ?_
  obtain ⟨r5, hr5, hf⟩ := fbind hf
  refine v_X11_isSpelt_L25 gF hr5 ?_
  refine V.iload_n (i := 3) dX11_isSpelt_90 rfl rfl ?_
  obtain ⟨hz, hf⟩ := fz_e hf
  obtain rfl := Option.some.inj hf
  exact V.zret (v := r5.1) dX11_isSpelt_91 rfl hz (Nat.le_of_ble_eq_true rfl) (Nat.le_of_ble_eq_true rfl) rfl
