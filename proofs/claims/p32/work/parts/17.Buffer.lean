/-! laid by program: shallow functions and contracts -/
def k_X1_init : fK := (yX1_init, cX1_init, 1, none, [], (1, 12), (1, 60), (0, 0))
theorem cal_X1_init : fCal k_X1_init 0 := ⟨⟨wc75, w9⟩, ⟨by decide +kernel, by decide +kernel⟩, by decide +kernel, by decide +kernel⟩
def s_X1_init : Option ((Int32) × (Nat → Int32)) := some (0, (fun _ => 0))
set_option maxHeartbeats 4000000 in
set_option maxRecDepth 100000 in
theorem ct_X1_init {res : (Int32) × (Nat → Int32)} (hf : s_X1_init = some res) : Ct k_X1_init [.ref 0] [.inl (0, [.null, .int 0])] (.inl none) [.inl (0, [.ref 1, .int res.1]), .inr (60, .inl res.2)] := by
  unfold s_X1_init at hf
  refine Ct.of (L := [some (.ref 0)]) cal_X1_init (fent_pad (j := 0) rfl) (Nat.le_of_ble_eq_true rfl) ?_
  refine V.aload_n (i := 0) dX1_init_0 rfl rfl ?_
  refine V.objInit dX1_init_1 w76 w29 w30 (Nat.le_of_ble_eq_true rfl) (Nat.le_of_ble_eq_true rfl) ?_
  refine V.aload_n (i := 0) dX1_init_4 rfl rfl ?_
  refine V.bipush (v := 60) dX1_init_5 rfl ?_
  refine V.newI (N := 60) (f := fun _ => 0) rfl dX1_init_7 w48 (by decide) rfl (Nat.le_of_ble_eq_true rfl) rfl (Nat.le_of_ble_eq_true rfl) (Nat.le_of_ble_eq_true rfl) ?_
  refine V.putfinal (ty := tyX1) (kf := 0) (σ' := [.inl (0, [.ref 1, .int 0]), .inr (60, .inl (fun _ => 0))]) fl_RX1 dX1_init_9 w77 (Nat.le_of_ble_eq_true rfl) rfl rfl rfl rfl (fun _ => ⟨rfl, rfl⟩) rfl (Nat.le_of_ble_eq_true rfl) rfl ?_
  refine V.aload_n (i := 0) dX1_init_12 rfl rfl ?_
  refine V.iconst (v := 0) dX1_init_13 rfl ?_
  refine V.putfield (ty := tyX1) (kf := 1) (σ' := [.inl (0, [.ref 1, .int 0]), .inr (60, .inl (fun _ => 0))]) fl_RX1 dX1_init_14 w78 (Nat.le_of_ble_eq_true rfl) rfl (fun _ => ⟨rfl, rfl⟩) rfl (Nat.le_of_ble_eq_true rfl) rfl ?_
  obtain rfl := Option.some.inj hf
  exact V.vret dX1_init_17 rfl (Nat.le_of_ble_eq_true rfl) (Nat.le_of_ble_eq_true rfl) rfl
def k_X1_isFull : fK := (yX1_isFull, cX1_isFull, 1, (some .boolean), [], (0, 0), (0, 0), (0, 0))
theorem cal_X1_isFull : fCal k_X1_isFull 0 := ⟨⟨wc483, w9⟩, ⟨by decide +kernel, by decide +kernel⟩, by decide +kernel, by decide +kernel⟩
def s_X1_isFull (Buffer_size : Int32) : Option (Int32) := if (Buffer_size < 60 : Prop) then (some 0) else (some 1)
set_option maxHeartbeats 4000000 in
set_option maxRecDepth 100000 in
theorem ct_X1_isFull {Buffer_size : Int32} {Buffer_codes : Nat → Int32} {res : Int32} (hf : s_X1_isFull Buffer_size = some res) : Ct k_X1_isFull [.ref 0] [.inl (0, [.ref 1, .int Buffer_size]), .inr (60, .inl Buffer_codes)] (.inl (some (.int res))) [.inl (0, [.ref 1, .int Buffer_size]), .inr (60, .inl Buffer_codes)] := by
  unfold s_X1_isFull at hf
  refine Ct.of (L := [some (.ref 0)]) cal_X1_isFull (fent_pad (j := 0) rfl) (Nat.le_of_ble_eq_true rfl) ?_
  refine V.aload_n (i := 0) dX1_isFull_0 rfl rfl ?_
  refine V.getfield (kf := 1) (v := .int Buffer_size) fl_RX1 dX1_isFull_1 w78 (Nat.le_of_ble_eq_true rfl) rfl rfl ?_
  refine V.aload_n (i := 0) dX1_isFull_4 rfl rfl ?_
  refine V.getfield (kf := 0) (v := .ref 1) fl_RX1 dX1_isFull_5 w77 (Nat.le_of_ble_eq_true rfl) rfl rfl ?_
  refine V.alen (v := 60) dX1_isFull_8 rfl rfl ?_
  refine V.icmp_lt (tgt := 16) dX1_isFull_9 (by decide) (fun h => ?_) (fun h => ?_)
  · have hf := fif_t h hf
    refine V.iconst (v := 0) dX1_isFull_16 rfl ?_
    obtain rfl := Option.some.inj hf
    exact V.zret (v := 0) dX1_isFull_17 rfl (by decide +kernel) (Nat.le_of_ble_eq_true rfl) (Nat.le_of_ble_eq_true rfl) rfl
  · have hf := fif_f h hf
    refine V.iconst (v := 1) dX1_isFull_12 rfl ?_
    refine V.goto (tgt := 17) dX1_isFull_13 (by decide) ?_
    obtain rfl := Option.some.inj hf
    exact V.zret (v := 1) dX1_isFull_17 rfl (by decide +kernel) (Nat.le_of_ble_eq_true rfl) (Nat.le_of_ble_eq_true rfl) rfl
def k_X1_at : fK := (yX1_at, cX1_at, 2, (some .int), [], (0, 0), (0, 0), (0, 0))
theorem cal_X1_at : fCal k_X1_at 1 := ⟨⟨wc524, w9⟩, ⟨by decide +kernel, by decide +kernel⟩, by decide +kernel, by decide +kernel⟩
def s_X1_at (a1 : Int32) (Buffer_size : Int32) (Buffer_codes : Nat → Int32) : Option (Int32) := if (a1 < 0 : Prop) then (some (-1)) else (if (Buffer_size ≤ a1 : Prop) then (some (-1)) else (if (60 ≤ a1 : Prop) then (some (-1)) else (fld 60 Buffer_codes a1 fun v1 => some v1)))
set_option maxHeartbeats 4000000 in
set_option maxRecDepth 100000 in
theorem ct_X1_at {a1 : Int32} {Buffer_size : Int32} {Buffer_codes : Nat → Int32} {res : Int32} (hf : s_X1_at a1 Buffer_size Buffer_codes = some res) : Ct k_X1_at [.ref 0, .int a1] [.inl (0, [.ref 1, .int Buffer_size]), .inr (60, .inl Buffer_codes)] (.inl (some (.int res))) [.inl (0, [.ref 1, .int Buffer_size]), .inr (60, .inl Buffer_codes)] := by
  unfold s_X1_at at hf
  refine Ct.of (L := [some (.ref 0), some (.int a1)]) cal_X1_at (fent_pad (j := 0) rfl) (Nat.le_of_ble_eq_true rfl) ?_
  refine V.iload_n (i := 1) dX1_at_0 rfl rfl ?_
  refine V.if_lt (tgt := 30) dX1_at_1 (by decide) (fun h => ?_) (fun h => ?_)
  · have hf := fif_t h hf
    refine V.iconst (v := (-1)) dX1_at_30 rfl ?_
    obtain rfl := Option.some.inj hf
    exact V.iret dX1_at_31 rfl (Nat.le_of_ble_eq_true rfl) (Nat.le_of_ble_eq_true rfl) rfl
  · have hf := fif_f h hf
    refine V.iload_n (i := 1) dX1_at_4 rfl rfl ?_
    refine V.aload_n (i := 0) dX1_at_5 rfl rfl ?_
    refine V.getfield (kf := 1) (v := .int Buffer_size) fl_RX1 dX1_at_6 w78 (Nat.le_of_ble_eq_true rfl) rfl rfl ?_
    refine V.icmp_ge (tgt := 30) dX1_at_9 (by decide) (fun h => ?_) (fun h => ?_)
    · have hf := fif_t h hf
      refine V.iconst (v := (-1)) dX1_at_30 rfl ?_
      obtain rfl := Option.some.inj hf
      exact V.iret dX1_at_31 rfl (Nat.le_of_ble_eq_true rfl) (Nat.le_of_ble_eq_true rfl) rfl
    · have hf := fif_f h hf
      refine V.iload_n (i := 1) dX1_at_12 rfl rfl ?_
      refine V.aload_n (i := 0) dX1_at_13 rfl rfl ?_
      refine V.getfield (kf := 0) (v := .ref 1) fl_RX1 dX1_at_14 w77 (Nat.le_of_ble_eq_true rfl) rfl rfl ?_
      refine V.alen (v := 60) dX1_at_17 rfl rfl ?_
      refine V.icmp_ge (tgt := 30) dX1_at_18 (by decide) (fun h => ?_) (fun h => ?_)
      · have hf := fif_t h hf
        refine V.iconst (v := (-1)) dX1_at_30 rfl ?_
        obtain rfl := Option.some.inj hf
        exact V.iret dX1_at_31 rfl (Nat.le_of_ble_eq_true rfl) (Nat.le_of_ble_eq_true rfl) rfl
      · have hf := fif_f h hf
        refine V.aload_n (i := 0) dX1_at_21 rfl rfl ?_
        refine V.getfield (kf := 0) (v := .ref 1) fl_RX1 dX1_at_22 w77 (Nat.le_of_ble_eq_true rfl) rfl rfl ?_
        refine V.iload_n (i := 1) dX1_at_25 rfl rfl ?_
        obtain ⟨hi, v1, ev1, hf⟩ := fld_e hf
        refine V.fld dX1_at_26 rfl hi ev1 ?_
        refine V.goto (tgt := 31) dX1_at_27 (by decide) ?_
        obtain rfl := Option.some.inj hf
        exact V.iret dX1_at_31 rfl (Nat.le_of_ble_eq_true rfl) (Nat.le_of_ble_eq_true rfl) rfl
def k_X1_add : fK := (yX1_add, cX1_add, 2, (some .int), [], (0, 0), (0, 0), (0, 0))
theorem cal_X1_add : fCal k_X1_add 1 := ⟨⟨wc503, w9⟩, ⟨by decide +kernel, by decide +kernel⟩, by decide +kernel, by decide +kernel⟩
def s_X1_add (a1 : Int32) (Buffer_size : Int32) (Buffer_codes : Nat → Int32) : Option (Int32 × (Int32) × (Nat → Int32)) := if (Buffer_size < 0 : Prop) then (some (Buffer_size, Buffer_size, Buffer_codes)) else (if (60 ≤ Buffer_size : Prop) then (some (Buffer_size, Buffer_size, Buffer_codes)) else (fst 60 Buffer_codes Buffer_size a1 fun s1 => some ((Buffer_size + 1), (Buffer_size + 1), s1)))
set_option maxHeartbeats 4000000 in
set_option maxRecDepth 100000 in
theorem ct_X1_add {a1 : Int32} {Buffer_size : Int32} {Buffer_codes : Nat → Int32} {res : Int32 × (Int32) × (Nat → Int32)} (hf : s_X1_add a1 Buffer_size Buffer_codes = some res) : Ct k_X1_add [.ref 0, .int a1] [.inl (0, [.ref 1, .int Buffer_size]), .inr (60, .inl Buffer_codes)] (.inl (some (.int res.1))) [.inl (0, [.ref 1, .int res.2.1]), .inr (60, .inl res.2.2)] := by
  unfold s_X1_add at hf
  refine Ct.of (L := [some (.ref 0), some (.int a1)]) cal_X1_add (fent_pad (j := 0) rfl) (Nat.le_of_ble_eq_true rfl) ?_
  refine V.aload_n (i := 0) dX1_add_0 rfl rfl ?_
  refine V.getfield (kf := 1) (v := .int Buffer_size) fl_RX1 dX1_add_1 w78 (Nat.le_of_ble_eq_true rfl) rfl rfl ?_
  refine V.if_lt (tgt := 39) dX1_add_4 (by decide) (fun h => ?_) (fun h => ?_)
  · have hf := fif_t h hf
    refine V.aload_n (i := 0) dX1_add_39 rfl rfl ?_
    refine V.getfield (kf := 1) (v := .int Buffer_size) fl_RX1 dX1_add_40 w78 (Nat.le_of_ble_eq_true rfl) rfl rfl ?_
    obtain rfl := Option.some.inj hf
    exact V.iret dX1_add_43 rfl (Nat.le_of_ble_eq_true rfl) (Nat.le_of_ble_eq_true rfl) rfl
  · have hf := fif_f h hf
    refine V.aload_n (i := 0) dX1_add_7 rfl rfl ?_
    refine V.getfield (kf := 1) (v := .int Buffer_size) fl_RX1 dX1_add_8 w78 (Nat.le_of_ble_eq_true rfl) rfl rfl ?_
    refine V.aload_n (i := 0) dX1_add_11 rfl rfl ?_
    refine V.getfield (kf := 0) (v := .ref 1) fl_RX1 dX1_add_12 w77 (Nat.le_of_ble_eq_true rfl) rfl rfl ?_
    refine V.alen (v := 60) dX1_add_15 rfl rfl ?_
    refine V.icmp_ge (tgt := 39) dX1_add_16 (by decide) (fun h => ?_) (fun h => ?_)
    · have hf := fif_t h hf
      refine V.aload_n (i := 0) dX1_add_39 rfl rfl ?_
      refine V.getfield (kf := 1) (v := .int Buffer_size) fl_RX1 dX1_add_40 w78 (Nat.le_of_ble_eq_true rfl) rfl rfl ?_
      obtain rfl := Option.some.inj hf
      exact V.iret dX1_add_43 rfl (Nat.le_of_ble_eq_true rfl) (Nat.le_of_ble_eq_true rfl) rfl
    · have hf := fif_f h hf
      refine V.aload_n (i := 0) dX1_add_19 rfl rfl ?_
      refine V.getfield (kf := 0) (v := .ref 1) fl_RX1 dX1_add_20 w77 (Nat.le_of_ble_eq_true rfl) rfl rfl ?_
      refine V.aload_n (i := 0) dX1_add_23 rfl rfl ?_
      refine V.getfield (kf := 1) (v := .int Buffer_size) fl_RX1 dX1_add_24 w78 (Nat.le_of_ble_eq_true rfl) rfl rfl ?_
      refine V.iload_n (i := 1) dX1_add_27 rfl rfl ?_
      obtain ⟨hi, s1, es1, hf⟩ := fst_e hf
      refine V.fst (σ' := [.inl (0, [.ref 1, .int Buffer_size]), .inr (60, .inl s1)]) dX1_add_28 rfl hi es1 rfl ?_
      refine V.aload_n (i := 0) dX1_add_29 rfl rfl ?_
      refine V.dup dX1_add_30 rfl ?_
      refine V.getfield (kf := 1) (v := .int Buffer_size) fl_RX1 dX1_add_31 w78 (Nat.le_of_ble_eq_true rfl) rfl rfl ?_
      refine V.iconst (v := 1) dX1_add_34 rfl ?_
      refine V.iadd dX1_add_35 ?_
      refine V.putfield (ty := tyX1) (kf := 1) (σ' := [.inl (0, [.ref 1, .int (Buffer_size + 1)]), .inr (60, .inl s1)]) fl_RX1 dX1_add_36 w78 (Nat.le_of_ble_eq_true rfl) rfl (fun _ => ⟨rfl, rfl⟩) rfl (Nat.le_of_ble_eq_true rfl) rfl ?_
      refine V.aload_n (i := 0) dX1_add_39 rfl rfl ?_
      refine V.getfield (kf := 1) (v := .int (Buffer_size + 1)) fl_RX1 dX1_add_40 w78 (Nat.le_of_ble_eq_true rfl) rfl rfl ?_
      obtain rfl := Option.some.inj hf
      exact V.iret dX1_add_43 rfl (Nat.le_of_ble_eq_true rfl) (Nat.le_of_ble_eq_true rfl) rfl
def k_X1_empty : fK := (yX1_empty, cX1_empty, 2, (some .int), [], (0, 0), (0, 0), (0, 0))
theorem cal_X1_empty : fCal k_X1_empty 0 := ⟨⟨wc474, w9⟩, ⟨by decide +kernel, by decide +kernel⟩, by decide +kernel, by decide +kernel⟩
def s_X1_empty (Buffer_size : Int32) : Option (Int32 × (Int32)) := some (Buffer_size, 0)
set_option maxHeartbeats 4000000 in
set_option maxRecDepth 100000 in
theorem ct_X1_empty {Buffer_size : Int32} {Buffer_codes : Nat → Int32} {res : Int32 × (Int32)} (hf : s_X1_empty Buffer_size = some res) : Ct k_X1_empty [.ref 0] [.inl (0, [.ref 1, .int Buffer_size]), .inr (60, .inl Buffer_codes)] (.inl (some (.int res.1))) [.inl (0, [.ref 1, .int res.2]), .inr (60, .inl Buffer_codes)] := by
  unfold s_X1_empty at hf
  refine Ct.of (L := [some (.ref 0), none]) cal_X1_empty (fent_pad (j := 1) rfl) (Nat.le_of_ble_eq_true rfl) ?_
  refine V.aload_n (i := 0) dX1_empty_0 rfl rfl ?_
  refine V.getfield (kf := 1) (v := .int Buffer_size) fl_RX1 dX1_empty_1 w78 (Nat.le_of_ble_eq_true rfl) rfl rfl ?_
  refine V.istore_n (i := 1) (L' := [some (.ref 0), some (.int Buffer_size)]) dX1_empty_4 rfl (Nat.le_of_ble_eq_true rfl) rfl rfl ?_
  refine V.aload_n (i := 0) dX1_empty_5 rfl rfl ?_
  refine V.iconst (v := 0) dX1_empty_6 rfl ?_
  refine V.putfield (ty := tyX1) (kf := 1) (σ' := [.inl (0, [.ref 1, .int 0]), .inr (60, .inl Buffer_codes)]) fl_RX1 dX1_empty_7 w78 (Nat.le_of_ble_eq_true rfl) rfl (fun _ => ⟨rfl, rfl⟩) rfl (Nat.le_of_ble_eq_true rfl) rfl ?_
  refine V.iload_n (i := 1) dX1_empty_10 rfl rfl ?_
  obtain rfl := Option.some.inj hf
  exact V.iret dX1_empty_11 rfl (Nat.le_of_ble_eq_true rfl) (Nat.le_of_ble_eq_true rfl) rfl
def k_X1_spell : fK := (yX1_spell, cX1_spell, 5, (some .boolean), [], (1, 21), (0, 0), (0, 0))
theorem cal_X1_spell : fCal k_X1_spell 3 := ⟨⟨wc519, w9⟩, ⟨by decide +kernel, by decide +kernel⟩, by decide +kernel, by decide +kernel⟩
def s_X1_spell_L22 (p3 : Int32) (Buffer_size : Int32) (Buffer_codes : Nat → Int32) : Nat → Int32 → (Int32) → (Nat → Int32) → Option ((Int32 × (Int32) × (Nat → Int32)) ⊕ (Int32 × (Int32) × (Nat → Int32)))
  | 0, _, _, _ => none
  | n + 1, x4, Word_size, Word_letters => if (p3 ≤ x4 : Prop) then (some (.inr (x4, Word_size, Word_letters))) else ((s_X1_at x4 Buffer_size Buffer_codes).bind fun v2 => (s_X0_isCode v2).bind fun v3 => if (v3 = 0 : Prop) then (some (.inl (0, Word_size, Word_letters))) else ((s_X1_at x4 Buffer_size Buffer_codes).bind fun v4 => (s_X9_add (v4 - 97) Word_size Word_letters).bind fun v5 => s_X1_spell_L22 p3 Buffer_size Buffer_codes n (x4 + 1) v5.1 v5.2))
set_option maxHeartbeats 4000000 in
set_option maxRecDepth 100000 in
theorem v_X1_spell_L22 {out : fO} {σ' : List fE} {p2 : Int32} {p3 : Int32} {Buffer_size : Int32} {Buffer_codes : Nat → Int32} : ∀ (n : Nat) {x4 : Int32} {Word_size : (Int32)} {Word_letters : (Nat → Int32)} {res : (Int32 × (Int32) × (Nat → Int32)) ⊕ (Int32 × (Int32) × (Nat → Int32))} (hf : s_X1_spell_L22 p3 Buffer_size Buffer_codes n x4 Word_size Word_letters = some res) (hr : ∀ r, res = .inl r → out = (.inl (some (.int r.1))) ∧ σ' = [.inl (0, [.ref 1, .int Buffer_size]), .inr (60, .inl Buffer_codes), .inl (4, [.ref 3, .int r.2.1]), .inr (8, .inl r.2.2)]) (hx : ∀ e, res = .inr e → V (fXm 4 k_X1_spell out σ') (krm k_X1_spell) k_X1_spell 4 61 [some (.ref 0), some (.ref 2), some (.int p2), some (.int p3), some (.int e.1)] [] [.inl (0, [.ref 1, .int Buffer_size]), .inr (60, .inl Buffer_codes), .inl (4, [.ref 3, .int e.2.1]), .inr (8, .inl e.2.2)] 0 0), V (fXm 4 k_X1_spell out σ') (krm k_X1_spell) k_X1_spell 4 22 [some (.ref 0), some (.ref 2), some (.int p2), some (.int p3), some (.int x4)] [] [.inl (0, [.ref 1, .int Buffer_size]), .inr (60, .inl Buffer_codes), .inl (4, [.ref 3, .int Word_size]), .inr (8, .inl Word_letters)] 0 0 := by
  intro n
  induction n with
  | zero =>
    intro x4 Word_size Word_letters res hf hr hx
    rw [s_X1_spell_L22] at hf
    cases hf
  | succ n ih =>
    intro x4 Word_size Word_letters res hf hr hx
    rw [s_X1_spell_L22] at hf
    refine V.iload (i := 4) dX1_spell_22 rfl ?_
    refine V.iload_n (i := 3) dX1_spell_24 rfl rfl ?_
    refine V.icmp_ge (tgt := 61) dX1_spell_25 (by decide) (fun h => ?_) (fun h => ?_)
    · have hf := fif_t h hf
      obtain rfl := Option.some.inj hf
      exact hx _ rfl
    · have hf := fif_f h hf
      refine V.aload_n (i := 0) dX1_spell_28 rfl rfl ?_
      refine V.iload (i := 4) dX1_spell_29 rfl ?_
      obtain ⟨v2, hv2, hf⟩ := fbind hf
      refine V.callVn (pl := [0, 1]) (σ' := [.inl (0, [.ref 1, .int Buffer_size]), .inr (60, .inl Buffer_codes), .inl (4, [.ref 3, .int Word_size]), .inr (8, .inl Word_letters)]) (st2 := [.int v2]) (cl2 := 0) (sl2 := 0) (ct_X1_at (a1 := x4) (Buffer_size := Buffer_size) (Buffer_codes := Buffer_codes) hv2) dX1_spell_31 w521 ⟨w522, w523⟩ cal_X1_at rfl ⟨⟨Nat.le_of_ble_eq_true rfl, Nat.le_of_ble_eq_true rfl⟩, Nat.le_of_ble_eq_true rfl, Nat.le_of_ble_eq_true rfl⟩ (Nat.le_of_ble_eq_true rfl) ⟨_, _, _, _, rfl, rfl⟩ rfl ⟨rfl, ⟨by decide, by decide⟩, rfl, (fr_cons (Or.inl (Nat.le_of_ble_eq_true rfl)) (fr_nil)), rfl⟩ fr_i rfl rfl rfl rfl ?_
      obtain ⟨v3, hv3, hf⟩ := fbind hf
      refine V.callSn (pl := []) (σ' := [.inl (0, [.ref 1, .int Buffer_size]), .inr (60, .inl Buffer_codes), .inl (4, [.ref 3, .int Word_size]), .inr (8, .inl Word_letters)]) (st2 := [.int v3]) (cl2 := 0) (sl2 := 0) (ct_X0_isCode (a0 := v2) hv3) dX1_spell_34 w525 w526 cal_X0_isCode ⟨⟨Nat.le_of_ble_eq_true rfl, Nat.le_of_ble_eq_true rfl⟩, Nat.le_of_ble_eq_true rfl, Nat.le_of_ble_eq_true rfl⟩ (Nat.le_of_ble_eq_true rfl) rfl ⟨rfl, ⟨by decide, by decide⟩, rfl, (fr_nil), rfl⟩ fr_i rfl rfl rfl rfl ?_
      refine V.if_ne (tgt := 42) dX1_spell_37 (by decide) (fun h => ?_) (fun h => ?_)
      · have hf := fif_f h hf
        refine V.aload_n (i := 1) dX1_spell_42 rfl rfl ?_
        refine V.aload_n (i := 0) dX1_spell_43 rfl rfl ?_
        refine V.iload (i := 4) dX1_spell_44 rfl ?_
        obtain ⟨v4, hv4, hf⟩ := fbind hf
        refine V.callVn (pl := [0, 1]) (σ' := [.inl (0, [.ref 1, .int Buffer_size]), .inr (60, .inl Buffer_codes), .inl (4, [.ref 3, .int Word_size]), .inr (8, .inl Word_letters)]) (st2 := [.int v4, .ref 2]) (cl2 := 0) (sl2 := 0) (ct_X1_at (a1 := x4) (Buffer_size := Buffer_size) (Buffer_codes := Buffer_codes) hv4) dX1_spell_46 w521 ⟨w522, w523⟩ cal_X1_at rfl ⟨⟨Nat.le_of_ble_eq_true rfl, Nat.le_of_ble_eq_true rfl⟩, Nat.le_of_ble_eq_true rfl, Nat.le_of_ble_eq_true rfl⟩ (Nat.le_of_ble_eq_true rfl) ⟨_, _, _, _, rfl, rfl⟩ rfl ⟨rfl, ⟨by decide, by decide⟩, rfl, (fr_cons (Or.inl (Nat.le_of_ble_eq_true rfl)) (fr_nil)), rfl⟩ fr_i rfl rfl rfl rfl ?_
        refine V.bipush (v := 97) dX1_spell_49 rfl ?_
        refine V.isub dX1_spell_51 ?_
        obtain ⟨v5, hv5, hf⟩ := fbind hf
        refine V.callVn (pl := [2, 3]) (σ' := [.inl (0, [.ref 1, .int Buffer_size]), .inr (60, .inl Buffer_codes), .inl (4, [.ref 3, .int v5.1]), .inr (8, .inl v5.2)]) (st2 := []) (cl2 := 0) (sl2 := 0) (ct_X9_add (a1 := (v4 - 97)) (Word_size := Word_size) (Word_letters := Word_letters) hv5) dX1_spell_52 w528 ⟨w367, w368⟩ cal_X9_add rfl ⟨⟨Nat.le_of_ble_eq_true rfl, Nat.le_of_ble_eq_true rfl⟩, Nat.le_of_ble_eq_true rfl, Nat.le_of_ble_eq_true rfl⟩ (Nat.le_of_ble_eq_true rfl) ⟨_, _, _, _, rfl, rfl⟩ rfl ⟨rfl, ⟨by decide, by decide⟩, rfl, (fr_cons (Or.inl (Nat.le_of_ble_eq_true rfl)) (fr_nil)), rfl⟩ fr_v rfl rfl rfl rfl ?_
        refine V.iinc (i := 4) (v := (x4 + 1)) (L' := [some (.ref 0), some (.ref 2), some (.int p2), some (.int p3), some (.int (x4 + 1))]) dX1_spell_55 rfl rfl (Nat.le_of_ble_eq_true rfl) rfl rfl ?_
        refine V.goto (tgt := 22) dX1_spell_58 (by decide) ?_
        exact ih hf hr hx
      · have hf := fif_t h hf
        refine V.iconst (v := 0) dX1_spell_40 rfl ?_
        obtain rfl := Option.some.inj hf
        obtain ⟨e1, e2⟩ := hr _ rfl
        subst e1; subst e2
        exact V.zret (v := 0) dX1_spell_41 rfl (by decide +kernel) (Nat.le_of_ble_eq_true rfl) (Nat.le_of_ble_eq_true rfl) rfl
def s_X1_spell (a2 : Int32) (a3 : Int32) (Buffer_size : Int32) (Buffer_codes : Nat → Int32) (Word_size : Int32) (Word_letters : Nat → Int32) : Option (Int32 × (Int32) × (Nat → Int32)) := (s_X9_empty Word_size).bind fun v1 => if (a3 ≤ a2 : Prop) then (some (0, v1, Word_letters)) else (if ((a3 - a2) ≤ 8 : Prop) then ((s_X1_spell_L22 a3 Buffer_size Buffer_codes gF a2 v1 Word_letters).bind fun r6 => fsum r6 (fun r9 => some r9) (fun e7 => some (1, e7.2.1, e7.2.2))) else (some (0, v1, Word_letters)))
set_option maxHeartbeats 4000000 in
set_option maxRecDepth 100000 in
theorem ct_X1_spell {a2 : Int32} {a3 : Int32} {Buffer_size : Int32} {Buffer_codes : Nat → Int32} {Word_size : Int32} {Word_letters : Nat → Int32} {res : Int32 × (Int32) × (Nat → Int32)} (hf : s_X1_spell a2 a3 Buffer_size Buffer_codes Word_size Word_letters = some res) : Ct k_X1_spell [.ref 0, .ref 2, .int a2, .int a3] [.inl (0, [.ref 1, .int Buffer_size]), .inr (60, .inl Buffer_codes), .inl (4, [.ref 3, .int Word_size]), .inr (8, .inl Word_letters)] (.inl (some (.int res.1))) [.inl (0, [.ref 1, .int Buffer_size]), .inr (60, .inl Buffer_codes), .inl (4, [.ref 3, .int res.2.1]), .inr (8, .inl res.2.2)] := by
  unfold s_X1_spell at hf
  refine Ct.of (L := [some (.ref 0), some (.ref 2), some (.int a2), some (.int a3), none]) cal_X1_spell (fent_pad (j := 1) rfl) (Nat.le_of_ble_eq_true rfl) ?_
  refine V.aload_n (i := 1) dX1_spell_0 rfl rfl ?_
  obtain ⟨v1, hv1, hf⟩ := fbind hf
  refine V.callVn (pl := [2, 3]) (σ' := [.inl (0, [.ref 1, .int Buffer_size]), .inr (60, .inl Buffer_codes), .inl (4, [.ref 3, .int v1]), .inr (8, .inl Word_letters)]) (st2 := []) (cl2 := 0) (sl2 := 0) (ct_X9_empty (Word_size := Word_size) (Word_letters := Word_letters) hv1) dX1_spell_1 w520 ⟨w361, w362⟩ cal_X9_empty rfl ⟨⟨Nat.le_of_ble_eq_true rfl, Nat.le_of_ble_eq_true rfl⟩, Nat.le_of_ble_eq_true rfl, Nat.le_of_ble_eq_true rfl⟩ (Nat.le_of_ble_eq_true rfl) ⟨_, _, _, _, rfl, rfl⟩ rfl ⟨rfl, ⟨by decide, by decide⟩, rfl, (fr_cons (Or.inl (Nat.le_of_ble_eq_true rfl)) (fr_nil)), rfl⟩ fr_v rfl rfl rfl rfl ?_
  refine V.iload_n (i := 3) dX1_spell_4 rfl rfl ?_
  refine V.iload_n (i := 2) dX1_spell_5 rfl rfl ?_
  refine V.icmp_le (tgt := 17) dX1_spell_6 (by decide) (fun h => ?_) (fun h => ?_)
  · have hf := fif_t h hf
    refine V.iconst (v := 0) dX1_spell_17 rfl ?_
    obtain rfl := Option.some.inj hf
    exact V.zret (v := 0) dX1_spell_18 rfl (by decide +kernel) (Nat.le_of_ble_eq_true rfl) (Nat.le_of_ble_eq_true rfl) rfl
  · have hf := fif_f h hf
    refine V.iload_n (i := 3) dX1_spell_9 rfl rfl ?_
    refine V.iload_n (i := 2) dX1_spell_10 rfl rfl ?_
    refine V.isub dX1_spell_11 ?_
    refine V.bipush (v := 8) dX1_spell_12 rfl ?_
    refine V.icmp_le (tgt := 19) dX1_spell_14 (by decide) (fun h => ?_) (fun h => ?_)
    · have hf := fif_t h hf
      refine V.iload_n (i := 2) dX1_spell_19 rfl rfl ?_
      refine V.istore (i := 4) (L' := [some (.ref 0), some (.ref 2), some (.int a2), some (.int a3), some (.int a2)]) dX1_spell_20 (Nat.le_of_ble_eq_true rfl) rfl rfl ?_
      obtain ⟨r6, hr6, hf⟩ := fbind hf
      rcases r6 with r9 | e7
      · obtain rfl := Option.some.inj (show some _ = some res from hf)
        exact v_X1_spell_L22 gF hr6 (fun _ h => by cases h; exact ⟨rfl, rfl⟩) (fun _ h => by cases h)
      · replace hf : _ = some res := hf
        dsimp only [fsum] at hf
        refine v_X1_spell_L22 gF hr6 (fun _ h => by cases h) (fun _ h => ?_)
        cases h
        refine V.iconst (v := 1) dX1_spell_61 rfl ?_
        obtain rfl := Option.some.inj hf
        exact V.zret (v := 1) dX1_spell_62 rfl (by decide +kernel) (Nat.le_of_ble_eq_true rfl) (Nat.le_of_ble_eq_true rfl) rfl
    · have hf := fif_f h hf
      refine V.iconst (v := 0) dX1_spell_17 rfl ?_
      obtain rfl := Option.some.inj hf
      exact V.zret (v := 0) dX1_spell_18 rfl (by decide +kernel) (Nat.le_of_ble_eq_true rfl) (Nat.le_of_ble_eq_true rfl) rfl
def k_X1_spells : fK := (yX1_spells, cX1_spells, 2, (some .boolean), [], (2, 45), (0, 0), (0, 0))
theorem cal_X1_spells : fCal k_X1_spells 1 := ⟨⟨wc515, w9⟩, ⟨by decide +kernel, by decide +kernel⟩, by decide +kernel, by decide +kernel⟩
def s_X1_spells (Buffer_size : Int32) (Buffer_codes : Nat → Int32) (Word_size : Int32) (Word_letters : Nat → Int32) : Option (Int32 × (Int32) × (Nat → Int32)) := (s_X1_spell 0 Buffer_size Buffer_size Buffer_codes Word_size Word_letters).bind fun v1 => fz v1.1 (some (v1.1, v1.2.1, v1.2.2))
set_option maxHeartbeats 4000000 in
set_option maxRecDepth 100000 in
theorem ct_X1_spells {Buffer_size : Int32} {Buffer_codes : Nat → Int32} {Word_size : Int32} {Word_letters : Nat → Int32} {res : Int32 × (Int32) × (Nat → Int32)} (hf : s_X1_spells Buffer_size Buffer_codes Word_size Word_letters = some res) : Ct k_X1_spells [.ref 0, .ref 2] [.inl (0, [.ref 1, .int Buffer_size]), .inr (60, .inl Buffer_codes), .inl (4, [.ref 3, .int Word_size]), .inr (8, .inl Word_letters)] (.inl (some (.int res.1))) [.inl (0, [.ref 1, .int Buffer_size]), .inr (60, .inl Buffer_codes), .inl (4, [.ref 3, .int res.2.1]), .inr (8, .inl res.2.2)] := by
  unfold s_X1_spells at hf
  refine Ct.of (L := [some (.ref 0), some (.ref 2)]) cal_X1_spells (fent_pad (j := 0) rfl) (Nat.le_of_ble_eq_true rfl) ?_
  refine V.aload_n (i := 0) dX1_spells_0 rfl rfl ?_
  refine V.aload_n (i := 1) dX1_spells_1 rfl rfl ?_
  refine V.iconst (v := 0) dX1_spells_2 rfl ?_
  refine V.aload_n (i := 0) dX1_spells_3 rfl rfl ?_
  refine V.getfield (kf := 1) (v := .int Buffer_size) fl_RX1 dX1_spells_4 w78 (Nat.le_of_ble_eq_true rfl) rfl rfl ?_
  obtain ⟨v1, hv1, hf⟩ := fbind hf
  refine V.callVn (pl := [0, 1, 2, 3]) (σ' := [.inl (0, [.ref 1, .int Buffer_size]), .inr (60, .inl Buffer_codes), .inl (4, [.ref 3, .int v1.2.1]), .inr (8, .inl v1.2.2)]) (st2 := [.int v1.1]) (cl2 := 0) (sl2 := 0) (ct_X1_spell (a2 := 0) (a3 := Buffer_size) (Buffer_size := Buffer_size) (Buffer_codes := Buffer_codes) (Word_size := Word_size) (Word_letters := Word_letters) hv1) dX1_spells_7 w516 ⟨w517, w518⟩ cal_X1_spell rfl ⟨⟨Nat.le_of_ble_eq_true rfl, Nat.le_of_ble_eq_true rfl⟩, Nat.le_of_ble_eq_true rfl, Nat.le_of_ble_eq_true rfl⟩ (Nat.le_of_ble_eq_true rfl) ⟨_, _, _, _, rfl, rfl⟩ rfl ⟨rfl, ⟨by decide, by decide⟩, rfl, (fr_cons (Or.inl (Nat.le_of_ble_eq_true rfl)) (fr_cons (Or.inl (Nat.le_of_ble_eq_true rfl)) (fr_nil))), rfl⟩ fr_i rfl rfl rfl rfl ?_
  obtain ⟨hz, hf⟩ := fz_e hf
  obtain rfl := Option.some.inj hf
  exact V.zret (v := v1.1) dX1_spells_10 rfl hz (Nat.le_of_ble_eq_true rfl) (Nat.le_of_ble_eq_true rfl) rfl
