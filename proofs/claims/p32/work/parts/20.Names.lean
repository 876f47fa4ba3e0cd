/-! laid by program: shallow functions and contracts -/
def k_X4_reads : fK := (yX4_reads, cX4_reads, 5, (some .boolean), [], (2, 47), (0, 0), (0, 0))
theorem cal_X4_reads : fCal k_X4_reads 4 := ⟨⟨wc386, w20⟩, ⟨by decide +kernel, by decide +kernel⟩, by decide +kernel, by decide +kernel⟩
def s_X4_reads_L18 (p1 : Int32) (p2 : Int32) (State_cells : Nat → Int32) (Word_size : Int32) (Word_letters : Nat → Int32) : Nat → Int32 → Option ((Int32) ⊕ (Int32))
  | 0, _ => none
  | n + 1, x4 => (s_X9_size Word_size).bind fun v3 => if (v3 ≤ x4 : Prop) then (some (.inr x4)) else ((s_X7_readsAs p1 p2 x4 State_cells).bind fun v4 => (s_X9_at x4 Word_letters).bind fun v5 => if (v4 = v5 : Prop) then (s_X4_reads_L18 p1 p2 State_cells Word_size Word_letters n (x4 + 1)) else (some (.inl 0)))
set_option maxHeartbeats 4000000 in
set_option maxRecDepth 100000 in
theorem v_X4_reads_L18 {out : fO} {σ' : List fE} {p1 : Int32} {p2 : Int32} {State_cells : Nat → Int32} {Word_size : Int32} {Word_letters : Nat → Int32} : ∀ (n : Nat) {x4 : Int32} {res : (Int32) ⊕ (Int32)} (hf : s_X4_reads_L18 p1 p2 State_cells Word_size Word_letters n x4 = some res) (hr : ∀ r, res = .inl r → out = (.inl (some (.int r))) ∧ σ' = [.inl (3, [.ref 1]), .inr (910, .inl State_cells), .inl (4, [.ref 3, .int Word_size]), .inr (8, .inl Word_letters)]) (hx : ∀ e, res = .inr e → V (fXm 4 k_X4_reads out σ') (krm k_X4_reads) k_X4_reads 4 52 [some (.ref 0), some (.int p1), some (.int p2), some (.ref 2), some (.int e)] [] [.inl (3, [.ref 1]), .inr (910, .inl State_cells), .inl (4, [.ref 3, .int Word_size]), .inr (8, .inl Word_letters)] 0 0), V (fXm 4 k_X4_reads out σ') (krm k_X4_reads) k_X4_reads 4 18 [some (.ref 0), some (.int p1), some (.int p2), some (.ref 2), some (.int x4)] [] [.inl (3, [.ref 1]), .inr (910, .inl State_cells), .inl (4, [.ref 3, .int Word_size]), .inr (8, .inl Word_letters)] 0 0 := by
  intro n
  induction n with
  | zero =>
    intro x4 res hf hr hx
    rw [s_X4_reads_L18] at hf
    cases hf
  | succ n ih =>
    intro x4 res hf hr hx
    rw [s_X4_reads_L18] at hf
    refine V.iload (i := 4) dX4_reads_18 rfl ?_
    refine V.aload_n (i := 3) dX4_reads_20 rfl rfl ?_
    obtain ⟨v3, hv3, hf⟩ := fbind hf
    refine V.callVn (pl := [2, 3]) (σ' := [.inl (3, [.ref 1]), .inr (910, .inl State_cells), .inl (4, [.ref 3, .int Word_size]), .inr (8, .inl Word_letters)]) (st2 := [.int v3, .int x4]) (cl2 := 0) (sl2 := 0) (ct_X9_size (Word_size := Word_size) (Word_letters := Word_letters) hv3) dX4_reads_21 w387 ⟨w388, w389⟩ cal_X9_size rfl ⟨⟨Nat.le_of_ble_eq_true rfl, Nat.le_of_ble_eq_true rfl⟩, Nat.le_of_ble_eq_true rfl, Nat.le_of_ble_eq_true rfl⟩ (Nat.le_of_ble_eq_true rfl) ⟨_, _, _, _, rfl, rfl⟩ rfl ⟨rfl, ⟨by decide, by decide⟩, rfl, (fr_cons (Or.inl (Nat.le_of_ble_eq_true rfl)) (fr_nil)), rfl⟩ fr_i rfl rfl rfl rfl ?_
    refine V.icmp_ge (tgt := 52) dX4_reads_24 (by decide) (fun h => ?_) (fun h => ?_)
    · have hf := fif_t h hf
      obtain rfl := Option.some.inj hf
      exact hx _ rfl
    · have hf := fif_f h hf
      refine V.aload_n (i := 0) dX4_reads_27 rfl rfl ?_
      refine V.iload_n (i := 1) dX4_reads_28 rfl rfl ?_
      refine V.iload_n (i := 2) dX4_reads_29 rfl rfl ?_
      refine V.iload (i := 4) dX4_reads_30 rfl ?_
      obtain ⟨v4, hv4, hf⟩ := fbind hf
      refine V.callVn (pl := [0, 1]) (σ' := [.inl (3, [.ref 1]), .inr (910, .inl State_cells), .inl (4, [.ref 3, .int Word_size]), .inr (8, .inl Word_letters)]) (st2 := [.int v4]) (cl2 := 0) (sl2 := 0) (ct_X7_readsAs (a1 := p1) (a2 := p2) (a3 := x4) (State_cells := State_cells) hv4) dX4_reads_32 w365 ⟨w329, w330⟩ cal_X7_readsAs rfl ⟨⟨Nat.le_of_ble_eq_true rfl, Nat.le_of_ble_eq_true rfl⟩, Nat.le_of_ble_eq_true rfl, Nat.le_of_ble_eq_true rfl⟩ (Nat.le_of_ble_eq_true rfl) ⟨_, _, _, _, rfl, rfl⟩ rfl ⟨rfl, ⟨by decide, by decide⟩, rfl, (fr_cons (Or.inl (Nat.le_of_ble_eq_true rfl)) (fr_nil)), rfl⟩ fr_i rfl rfl rfl rfl ?_
      refine V.aload_n (i := 3) dX4_reads_35 rfl rfl ?_
      refine V.iload (i := 4) dX4_reads_36 rfl ?_
      obtain ⟨v5, hv5, hf⟩ := fbind hf
      refine V.callVn (pl := [2, 3]) (σ' := [.inl (3, [.ref 1]), .inr (910, .inl State_cells), .inl (4, [.ref 3, .int Word_size]), .inr (8, .inl Word_letters)]) (st2 := [.int v5, .int v4]) (cl2 := 0) (sl2 := 0) (ct_X9_at (a1 := x4) (Word_size := Word_size) (Word_letters := Word_letters) hv5) dX4_reads_38 w391 ⟨w379, w380⟩ cal_X9_at rfl ⟨⟨Nat.le_of_ble_eq_true rfl, Nat.le_of_ble_eq_true rfl⟩, Nat.le_of_ble_eq_true rfl, Nat.le_of_ble_eq_true rfl⟩ (Nat.le_of_ble_eq_true rfl) ⟨_, _, _, _, rfl, rfl⟩ rfl ⟨rfl, ⟨by decide, by decide⟩, rfl, (fr_cons (Or.inl (Nat.le_of_ble_eq_true rfl)) (fr_nil)), rfl⟩ fr_i rfl rfl rfl rfl ?_
      refine V.icmp_eq (tgt := 46) dX4_reads_41 (by decide) (fun h => ?_) (fun h => ?_)
      · have hf := fif_t h hf
        refine V.iinc (i := 4) (v := (x4 + 1)) (L' := [some (.ref 0), some (.int p1), some (.int p2), some (.ref 2), some (.int (x4 + 1))]) dX4_reads_46 rfl rfl (Nat.le_of_ble_eq_true rfl) rfl rfl ?_
        refine V.goto (tgt := 18) dX4_reads_49 (by decide) ?_
        exact ih hf hr hx
      · have hf := fif_f h hf
        refine V.iconst (v := 0) dX4_reads_44 rfl ?_
        obtain rfl := Option.some.inj hf
        obtain ⟨e1, e2⟩ := hr _ rfl
        subst e1; subst e2
        exact V.zret (v := 0) dX4_reads_45 rfl (by decide +kernel) (Nat.le_of_ble_eq_true rfl) (Nat.le_of_ble_eq_true rfl) rfl
def s_X4_reads (a1 : Int32) (a2 : Int32) (State_cells : Nat → Int32) (Word_size : Int32) (Word_letters : Nat → Int32) : Option (Int32) := (s_X7_knots a1 a2 State_cells).bind fun v1 => (s_X9_size Word_size).bind fun v2 => if (v1 = v2 : Prop) then ((s_X4_reads_L18 a1 a2 State_cells Word_size Word_letters gF 0).bind fun r6 => fsum r6 (fun r9 => some r9) (fun e7 => some 1)) else (some 0)
set_option maxHeartbeats 4000000 in
set_option maxRecDepth 100000 in
theorem ct_X4_reads {a1 : Int32} {a2 : Int32} {State_cells : Nat → Int32} {Word_size : Int32} {Word_letters : Nat → Int32} {res : Int32} (hf : s_X4_reads a1 a2 State_cells Word_size Word_letters = some res) : Ct k_X4_reads [.ref 0, .int a1, .int a2, .ref 2] [.inl (3, [.ref 1]), .inr (910, .inl State_cells), .inl (4, [.ref 3, .int Word_size]), .inr (8, .inl Word_letters)] (.inl (some (.int res))) [.inl (3, [.ref 1]), .inr (910, .inl State_cells), .inl (4, [.ref 3, .int Word_size]), .inr (8, .inl Word_letters)] := by
  unfold s_X4_reads at hf
  refine Ct.of (L := [some (.ref 0), some (.int a1), some (.int a2), some (.ref 2), none]) cal_X4_reads (fent_pad (j := 1) rfl) (Nat.le_of_ble_eq_true rfl) ?_
  refine V.aload_n (i := 0) dX4_reads_0 rfl rfl ?_
  refine V.iload_n (i := 1) dX4_reads_1 rfl rfl ?_
  refine V.iload_n (i := 2) dX4_reads_2 rfl rfl ?_
  obtain ⟨v1, hv1, hf⟩ := fbind hf
  refine V.callVn (pl := [0, 1]) (σ' := [.inl (3, [.ref 1]), .inr (910, .inl State_cells), .inl (4, [.ref 3, .int Word_size]), .inr (8, .inl Word_letters)]) (st2 := [.int v1]) (cl2 := 0) (sl2 := 0) (ct_X7_knots (a1 := a1) (a2 := a2) (State_cells := State_cells) hv1) dX4_reads_3 w364 ⟨w150, w151⟩ cal_X7_knots rfl ⟨⟨Nat.le_of_ble_eq_true rfl, Nat.le_of_ble_eq_true rfl⟩, Nat.le_of_ble_eq_true rfl, Nat.le_of_ble_eq_true rfl⟩ (Nat.le_of_ble_eq_true rfl) ⟨_, _, _, _, rfl, rfl⟩ rfl ⟨rfl, ⟨by decide, by decide⟩, rfl, (fr_cons (Or.inl (Nat.le_of_ble_eq_true rfl)) (fr_nil)), rfl⟩ fr_i rfl rfl rfl rfl ?_
  refine V.aload_n (i := 3) dX4_reads_6 rfl rfl ?_
  obtain ⟨v2, hv2, hf⟩ := fbind hf
  refine V.callVn (pl := [2, 3]) (σ' := [.inl (3, [.ref 1]), .inr (910, .inl State_cells), .inl (4, [.ref 3, .int Word_size]), .inr (8, .inl Word_letters)]) (st2 := [.int v2, .int v1]) (cl2 := 0) (sl2 := 0) (ct_X9_size (Word_size := Word_size) (Word_letters := Word_letters) hv2) dX4_reads_7 w387 ⟨w388, w389⟩ cal_X9_size rfl ⟨⟨Nat.le_of_ble_eq_true rfl, Nat.le_of_ble_eq_true rfl⟩, Nat.le_of_ble_eq_true rfl, Nat.le_of_ble_eq_true rfl⟩ (Nat.le_of_ble_eq_true rfl) ⟨_, _, _, _, rfl, rfl⟩ rfl ⟨rfl, ⟨by decide, by decide⟩, rfl, (fr_cons (Or.inl (Nat.le_of_ble_eq_true rfl)) (fr_nil)), rfl⟩ fr_i rfl rfl rfl rfl ?_
  refine V.icmp_eq (tgt := 15) dX4_reads_10 (by decide) (fun h => ?_) (fun h => ?_)
  · have hf := fif_t h hf
    refine V.iconst (v := 0) dX4_reads_15 rfl ?_
    refine V.istore (i := 4) (L' := [some (.ref 0), some (.int a1), some (.int a2), some (.ref 2), some (.int 0)]) dX4_reads_16 (Nat.le_of_ble_eq_true rfl) rfl rfl ?_
    obtain ⟨r6, hr6, hf⟩ := fbind hf
    rcases r6 with r9 | e7
    · obtain rfl := Option.some.inj (show some _ = some res from hf)
      exact v_X4_reads_L18 gF hr6 (fun _ h => by cases h; exact ⟨rfl, rfl⟩) (fun _ h => by cases h)
    · replace hf : _ = some res := hf
      dsimp only [fsum] at hf
      refine v_X4_reads_L18 gF hr6 (fun _ h => by cases h) (fun _ h => ?_)
      cases h
      refine V.iconst (v := 1) dX4_reads_52 rfl ?_
      obtain rfl := Option.some.inj hf
      exact V.zret (v := 1) dX4_reads_53 rfl (by decide +kernel) (Nat.le_of_ble_eq_true rfl) (Nat.le_of_ble_eq_true rfl) rfl
  · have hf := fif_f h hf
    refine V.iconst (v := 0) dX4_reads_13 rfl ?_
    obtain rfl := Option.some.inj hf
    exact V.zret (v := 0) dX4_reads_14 rfl (by decide +kernel) (Nat.le_of_ble_eq_true rfl) (Nat.le_of_ble_eq_true rfl) rfl
def k_X4_whyNotTied : fK := (yX4_whyNotTied, cX4_whyNotTied, 5, (some .int), [], (3, 73), (0, 0), (0, 0))
theorem cal_X4_whyNotTied : fCal k_X4_whyNotTied 3 := ⟨⟨wc372, w20⟩, ⟨by decide +kernel, by decide +kernel⟩, by decide +kernel, by decide +kernel⟩
def s_X4_whyNotTied_L31 (p2 : Int32) (p3 : Int32) (State_cells : Nat → Int32) (Word_size : Int32) (Word_letters : Nat → Int32) : Nat → Int32 → Option ((Int32) ⊕ (Int32))
  | 0, _ => none
  | n + 1, x4 => if (p3 ≤ x4 : Prop) then (some (.inr x4)) else ((s_X4_reads p2 x4 State_cells Word_size Word_letters).bind fun v4 => if (v4 = 0 : Prop) then (s_X4_whyNotTied_L31 p2 p3 State_cells Word_size Word_letters n (x4 + 1)) else (some (.inl 3)))
set_option maxHeartbeats 4000000 in
set_option maxRecDepth 100000 in
theorem v_X4_whyNotTied_L31 {out : fO} {σ' : List fE} {p2 : Int32} {p3 : Int32} {State_cells : Nat → Int32} {Word_size : Int32} {Word_letters : Nat → Int32} : ∀ (n : Nat) {x4 : Int32} {res : (Int32) ⊕ (Int32)} (hf : s_X4_whyNotTied_L31 p2 p3 State_cells Word_size Word_letters n x4 = some res) (hr : ∀ r, res = .inl r → out = (.inl (some (.int r))) ∧ σ' = [.inl (3, [.ref 1]), .inr (910, .inl State_cells), .inl (4, [.ref 3, .int Word_size]), .inr (8, .inl Word_letters)]) (hx : ∀ e, res = .inr e → V (fXm 4 k_X4_whyNotTied out σ') (krm k_X4_whyNotTied) k_X4_whyNotTied 4 56 [some (.ref 0), some (.ref 2), some (.int p2), some (.int p3), some (.int e)] [] [.inl (3, [.ref 1]), .inr (910, .inl State_cells), .inl (4, [.ref 3, .int Word_size]), .inr (8, .inl Word_letters)] 0 0), V (fXm 4 k_X4_whyNotTied out σ') (krm k_X4_whyNotTied) k_X4_whyNotTied 4 31 [some (.ref 0), some (.ref 2), some (.int p2), some (.int p3), some (.int x4)] [] [.inl (3, [.ref 1]), .inr (910, .inl State_cells), .inl (4, [.ref 3, .int Word_size]), .inr (8, .inl Word_letters)] 0 0 := by
  intro n
  induction n with
  | zero =>
    intro x4 res hf hr hx
    rw [s_X4_whyNotTied_L31] at hf
    cases hf
  | succ n ih =>
    intro x4 res hf hr hx
    rw [s_X4_whyNotTied_L31] at hf
    refine V.iload (i := 4) dX4_whyNotTied_31 rfl ?_
    refine V.iload_n (i := 3) dX4_whyNotTied_33 rfl rfl ?_
    refine V.icmp_ge (tgt := 56) dX4_whyNotTied_34 (by decide) (fun h => ?_) (fun h => ?_)
    · have hf := fif_t h hf
      obtain rfl := Option.some.inj hf
      exact hx _ rfl
    · have hf := fif_f h hf
      refine V.aload_n (i := 0) dX4_whyNotTied_37 rfl rfl ?_
      refine V.iload_n (i := 2) dX4_whyNotTied_38 rfl rfl ?_
      refine V.iload (i := 4) dX4_whyNotTied_39 rfl ?_
      refine V.aload_n (i := 1) dX4_whyNotTied_41 rfl rfl ?_
      obtain ⟨v4, hv4, hf⟩ := fbind hf
      refine V.callSn (pl := [0, 1, 2, 3]) (σ' := [.inl (3, [.ref 1]), .inr (910, .inl State_cells), .inl (4, [.ref 3, .int Word_size]), .inr (8, .inl Word_letters)]) (st2 := [.int v4]) (cl2 := 0) (sl2 := 0) (ct_X4_reads (a1 := p2) (a2 := x4) (State_cells := State_cells) (Word_size := Word_size) (Word_letters := Word_letters) hv4) dX4_whyNotTied_42 w384 w385 cal_X4_reads ⟨⟨Nat.le_of_ble_eq_true rfl, Nat.le_of_ble_eq_true rfl⟩, Nat.le_of_ble_eq_true rfl, Nat.le_of_ble_eq_true rfl⟩ (Nat.le_of_ble_eq_true rfl) rfl ⟨rfl, ⟨by decide, by decide⟩, rfl, (fr_cons (Or.inl (Nat.le_of_ble_eq_true rfl)) (fr_cons (Or.inl (Nat.le_of_ble_eq_true rfl)) (fr_nil))), rfl⟩ fr_i rfl rfl rfl rfl ?_
      refine V.if_eq (tgt := 50) dX4_whyNotTied_45 (by decide) (fun h => ?_) (fun h => ?_)
      · have hf := fif_t h hf
        refine V.iinc (i := 4) (v := (x4 + 1)) (L' := [some (.ref 0), some (.ref 2), some (.int p2), some (.int p3), some (.int (x4 + 1))]) dX4_whyNotTied_50 rfl rfl (Nat.le_of_ble_eq_true rfl) rfl rfl ?_
        refine V.goto (tgt := 31) dX4_whyNotTied_53 (by decide) ?_
        exact ih hf hr hx
      · have hf := fif_f h hf
        refine V.iconst (v := 3) dX4_whyNotTied_48 rfl ?_
        obtain rfl := Option.some.inj hf
        obtain ⟨e1, e2⟩ := hr _ rfl
        subst e1; subst e2
        exact V.iret dX4_whyNotTied_49 rfl (Nat.le_of_ble_eq_true rfl) (Nat.le_of_ble_eq_true rfl) rfl
def s_X4_whyNotTied (a2 : Int32) (State_cells : Nat → Int32) (Word_size : Int32) (Word_letters : Nat → Int32) : Option (Int32) := (s_X7_names a2 State_cells).bind fun v1 => if (v1 < 6 : Prop) then ((s_X9_cord Word_size Word_letters).bind fun v2 => (s_X7_left a2 State_cells).bind fun v3 => if (v2 ≤ v3 : Prop) then ((s_X4_whyNotTied_L31 a2 v1 State_cells Word_size Word_letters gF 0).bind fun r5 => fsum r5 (fun r9 => some r9) (fun e6 => some 0)) else (some 2)) else (some 1)
set_option maxHeartbeats 4000000 in
set_option maxRecDepth 100000 in
theorem ct_X4_whyNotTied {a2 : Int32} {State_cells : Nat → Int32} {Word_size : Int32} {Word_letters : Nat → Int32} {res : Int32} (hf : s_X4_whyNotTied a2 State_cells Word_size Word_letters = some res) : Ct k_X4_whyNotTied [.ref 0, .ref 2, .int a2] [.inl (3, [.ref 1]), .inr (910, .inl State_cells), .inl (4, [.ref 3, .int Word_size]), .inr (8, .inl Word_letters)] (.inl (some (.int res))) [.inl (3, [.ref 1]), .inr (910, .inl State_cells), .inl (4, [.ref 3, .int Word_size]), .inr (8, .inl Word_letters)] := by
  unfold s_X4_whyNotTied at hf
  refine Ct.of (L := [some (.ref 0), some (.ref 2), some (.int a2), none, none]) cal_X4_whyNotTied (fent_pad (j := 2) rfl) (Nat.le_of_ble_eq_true rfl) ?_
  refine V.aload_n (i := 0) dX4_whyNotTied_0 rfl rfl ?_
  refine V.iload_n (i := 2) dX4_whyNotTied_1 rfl rfl ?_
  obtain ⟨v1, hv1, hf⟩ := fbind hf
  refine V.callVn (pl := [0, 1]) (σ' := [.inl (3, [.ref 1]), .inr (910, .inl State_cells), .inl (4, [.ref 3, .int Word_size]), .inr (8, .inl Word_letters)]) (st2 := [.int v1]) (cl2 := 0) (sl2 := 0) (ct_X7_names (a1 := a2) (State_cells := State_cells) hv1) dX4_whyNotTied_2 w373 ⟨w139, w140⟩ cal_X7_names rfl ⟨⟨Nat.le_of_ble_eq_true rfl, Nat.le_of_ble_eq_true rfl⟩, Nat.le_of_ble_eq_true rfl, Nat.le_of_ble_eq_true rfl⟩ (Nat.le_of_ble_eq_true rfl) ⟨_, _, _, _, rfl, rfl⟩ rfl ⟨rfl, ⟨by decide, by decide⟩, rfl, (fr_cons (Or.inl (Nat.le_of_ble_eq_true rfl)) (fr_nil)), rfl⟩ fr_i rfl rfl rfl rfl ?_
  refine V.istore_n (i := 3) (L' := [some (.ref 0), some (.ref 2), some (.int a2), some (.int v1), none]) dX4_whyNotTied_5 rfl (Nat.le_of_ble_eq_true rfl) rfl rfl ?_
  refine V.iload_n (i := 3) dX4_whyNotTied_6 rfl rfl ?_
  refine V.bipush (v := 6) dX4_whyNotTied_7 rfl ?_
  refine V.icmp_lt (tgt := 14) dX4_whyNotTied_9 (by decide) (fun h => ?_) (fun h => ?_)
  · have hf := fif_t h hf
    refine V.aload_n (i := 1) dX4_whyNotTied_14 rfl rfl ?_
    obtain ⟨v2, hv2, hf⟩ := fbind hf
    refine V.callVn (pl := [2, 3]) (σ' := [.inl (3, [.ref 1]), .inr (910, .inl State_cells), .inl (4, [.ref 3, .int Word_size]), .inr (8, .inl Word_letters)]) (st2 := [.int v2]) (cl2 := 0) (sl2 := 0) (ct_X9_cord (Word_size := Word_size) (Word_letters := Word_letters) hv2) dX4_whyNotTied_15 w374 ⟨w375, w376⟩ cal_X9_cord rfl ⟨⟨Nat.le_of_ble_eq_true rfl, Nat.le_of_ble_eq_true rfl⟩, Nat.le_of_ble_eq_true rfl, Nat.le_of_ble_eq_true rfl⟩ (Nat.le_of_ble_eq_true rfl) ⟨_, _, _, _, rfl, rfl⟩ rfl ⟨rfl, ⟨by decide, by decide⟩, rfl, (fr_cons (Or.inl (Nat.le_of_ble_eq_true rfl)) (fr_nil)), rfl⟩ fr_i rfl rfl rfl rfl ?_
    refine V.aload_n (i := 0) dX4_whyNotTied_18 rfl rfl ?_
    refine V.iload_n (i := 2) dX4_whyNotTied_19 rfl rfl ?_
    obtain ⟨v3, hv3, hf⟩ := fbind hf
    refine V.callVn (pl := [0, 1]) (σ' := [.inl (3, [.ref 1]), .inr (910, .inl State_cells), .inl (4, [.ref 3, .int Word_size]), .inr (8, .inl Word_letters)]) (st2 := [.int v3, .int v2]) (cl2 := 0) (sl2 := 0) (ct_X7_left (a1 := a2) (State_cells := State_cells) hv3) dX4_whyNotTied_20 w383 ⟨w272, w273⟩ cal_X7_left rfl ⟨⟨Nat.le_of_ble_eq_true rfl, Nat.le_of_ble_eq_true rfl⟩, Nat.le_of_ble_eq_true rfl, Nat.le_of_ble_eq_true rfl⟩ (Nat.le_of_ble_eq_true rfl) ⟨_, _, _, _, rfl, rfl⟩ rfl ⟨rfl, ⟨by decide, by decide⟩, rfl, (fr_cons (Or.inl (Nat.le_of_ble_eq_true rfl)) (fr_nil)), rfl⟩ fr_i rfl rfl rfl rfl ?_
    refine V.icmp_le (tgt := 28) dX4_whyNotTied_23 (by decide) (fun h => ?_) (fun h => ?_)
    · have hf := fif_t h hf
      refine V.iconst (v := 0) dX4_whyNotTied_28 rfl ?_
      refine V.istore (i := 4) (L' := [some (.ref 0), some (.ref 2), some (.int a2), some (.int v1), some (.int 0)]) dX4_whyNotTied_29 (Nat.le_of_ble_eq_true rfl) rfl rfl ?_
      obtain ⟨r5, hr5, hf⟩ := fbind hf
      rcases r5 with r9 | e6
      · obtain rfl := Option.some.inj (show some _ = some res from hf)
        exact v_X4_whyNotTied_L31 gF hr5 (fun _ h => by cases h; exact ⟨rfl, rfl⟩) (fun _ h => by cases h)
      · replace hf : _ = some res := hf
        dsimp only [fsum] at hf
        refine v_X4_whyNotTied_L31 gF hr5 (fun _ h => by cases h) (fun _ h => ?_)
        cases h
        refine V.iconst (v := 0) dX4_whyNotTied_56 rfl ?_
        obtain rfl := Option.some.inj hf
        exact V.iret dX4_whyNotTied_57 rfl (Nat.le_of_ble_eq_true rfl) (Nat.le_of_ble_eq_true rfl) rfl
    · have hf := fif_f h hf
      refine V.iconst (v := 2) dX4_whyNotTied_26 rfl ?_
      obtain rfl := Option.some.inj hf
      exact V.iret dX4_whyNotTied_27 rfl (Nat.le_of_ble_eq_true rfl) (Nat.le_of_ble_eq_true rfl) rfl
  · have hf := fif_f h hf
    refine V.iconst (v := 1) dX4_whyNotTied_12 rfl ?_
    obtain rfl := Option.some.inj hf
    exact V.iret dX4_whyNotTied_13 rfl (Nat.le_of_ble_eq_true rfl) (Nat.le_of_ble_eq_true rfl) rfl
def k_X4_tieOn : fK := (yX4_tieOn, cX4_tieOn, 6, (some .int), [], (2, 44), (0, 0), (0, 0))
theorem cal_X4_tieOn : fCal k_X4_tieOn 3 := ⟨⟨wc564, w20⟩, ⟨by decide +kernel, by decide +kernel⟩, by decide +kernel, by decide +kernel⟩
def s_X4_tieOn_L24 (p2 : Int32) (p3 : Int32) (Word_size : Int32) (Word_letters : Nat → Int32) : Nat → Int32 → (Nat → Int32) → Option (Int32 × (Nat → Int32))
  | 0, _, _ => none
  | n + 1, x4, State_cells => (s_X9_size Word_size).bind fun v5 => if (v5 ≤ x4 : Prop) then (some (x4, State_cells)) else ((s_X7_knotCell p2 p3 x4).bind fun v6 => (s_X9_at x4 Word_letters).bind fun v7 => (s_X7_put (v6 + 0) v7 State_cells).bind fun v8 => (s_X7_put (v6 + 1) 0 v8).bind fun v9 => (s_X9_at x4 Word_letters).bind fun v10 => (s_X7_put (v6 + 2) v10 v9).bind fun v11 => s_X4_tieOn_L24 p2 p3 Word_size Word_letters n (x4 + 1) v11)
set_option maxHeartbeats 4000000 in
set_option maxRecDepth 100000 in
theorem v_X4_tieOn_L24 {out : fO} {σ' : List fE} {p2 : Int32} {p3 : Int32} {Word_size : Int32} {Word_letters : Nat → Int32} : ∀ (n : Nat) {x4 : Int32} {State_cells : (Nat → Int32)} {res : Int32 × (Nat → Int32)} (hf : s_X4_tieOn_L24 p2 p3 Word_size Word_letters n x4 State_cells = some res) (hx : V (fXm 4 k_X4_tieOn out σ') (krm k_X4_tieOn) k_X4_tieOn 4 85 [some (.ref 0), some (.ref 2), some (.int p2), some (.int p3), some (.int res.1), none] [] [.inl (3, [.ref 1]), .inr (910, .inl res.2), .inl (4, [.ref 3, .int Word_size]), .inr (8, .inl Word_letters)] 0 0), V (fXm 4 k_X4_tieOn out σ') (krm k_X4_tieOn) k_X4_tieOn 4 24 [some (.ref 0), some (.ref 2), some (.int p2), some (.int p3), some (.int x4), none] [] [.inl (3, [.ref 1]), .inr (910, .inl State_cells), .inl (4, [.ref 3, .int Word_size]), .inr (8, .inl Word_letters)] 0 0 := by
  intro n
  induction n with
  | zero =>
    intro x4 State_cells res hf hx
    rw [s_X4_tieOn_L24] at hf
    cases hf
  | succ n ih =>
    intro x4 State_cells res hf hx
    rw [s_X4_tieOn_L24] at hf
    refine V.iload (i := 4) dX4_tieOn_24 rfl ?_
    refine V.aload_n (i := 1) dX4_tieOn_26 rfl rfl ?_
    obtain ⟨v5, hv5, hf⟩ := fbind hf
    refine V.callVn (pl := [2, 3]) (σ' := [.inl (3, [.ref 1]), .inr (910, .inl State_cells), .inl (4, [.ref 3, .int Word_size]), .inr (8, .inl Word_letters)]) (st2 := [.int v5, .int x4]) (cl2 := 0) (sl2 := 0) (ct_X9_size (Word_size := Word_size) (Word_letters := Word_letters) hv5) dX4_tieOn_27 w387 ⟨w388, w389⟩ cal_X9_size rfl ⟨⟨Nat.le_of_ble_eq_true rfl, Nat.le_of_ble_eq_true rfl⟩, Nat.le_of_ble_eq_true rfl, Nat.le_of_ble_eq_true rfl⟩ (Nat.le_of_ble_eq_true rfl) ⟨_, _, _, _, rfl, rfl⟩ rfl ⟨rfl, ⟨by decide, by decide⟩, rfl, (fr_cons (Or.inl (Nat.le_of_ble_eq_true rfl)) (fr_nil)), rfl⟩ fr_i rfl rfl rfl rfl ?_
    refine V.icmp_ge (tgt := 85) dX4_tieOn_30 (by decide) (fun h => ?_) (fun h => ?_)
    · have hf := fif_t h hf
      obtain rfl := Option.some.inj hf
      exact hx
    · have hf := fif_f h hf
      refine V.iload_n (i := 2) dX4_tieOn_33 rfl rfl ?_
      refine V.iload_n (i := 3) dX4_tieOn_34 rfl rfl ?_
      refine V.iload (i := 4) dX4_tieOn_35 rfl ?_
      obtain ⟨v6, hv6, hf⟩ := fbind hf
      refine V.callSn (pl := []) (σ' := [.inl (3, [.ref 1]), .inr (910, .inl State_cells), .inl (4, [.ref 3, .int Word_size]), .inr (8, .inl Word_letters)]) (st2 := [.int v6]) (cl2 := 0) (sl2 := 0) (ct_X7_knotCell (a0 := p2) (a1 := p3) (a2 := x4) hv6) dX4_tieOn_37 w567 w157 cal_X7_knotCell ⟨⟨Nat.le_of_ble_eq_true rfl, Nat.le_of_ble_eq_true rfl⟩, Nat.le_of_ble_eq_true rfl, Nat.le_of_ble_eq_true rfl⟩ (Nat.le_of_ble_eq_true rfl) rfl ⟨rfl, ⟨by decide, by decide⟩, rfl, (fr_nil), rfl⟩ fr_i rfl rfl rfl rfl ?_
      refine V.istore (i := 5) (L' := [some (.ref 0), some (.ref 2), some (.int p2), some (.int p3), some (.int x4), some (.int v6)]) dX4_tieOn_40 (Nat.le_of_ble_eq_true rfl) rfl rfl ?_
      refine V.aload_n (i := 0) dX4_tieOn_42 rfl rfl ?_
      refine V.iload (i := 5) dX4_tieOn_43 rfl ?_
      refine V.iconst (v := 0) dX4_tieOn_45 rfl ?_
      refine V.iadd dX4_tieOn_46 ?_
      refine V.aload_n (i := 1) dX4_tieOn_47 rfl rfl ?_
      refine V.iload (i := 4) dX4_tieOn_48 rfl ?_
      obtain ⟨v7, hv7, hf⟩ := fbind hf
      refine V.callVn (pl := [2, 3]) (σ' := [.inl (3, [.ref 1]), .inr (910, .inl State_cells), .inl (4, [.ref 3, .int Word_size]), .inr (8, .inl Word_letters)]) (st2 := [.int v7, .int (v6 + 0), .ref 0]) (cl2 := 0) (sl2 := 0) (ct_X9_at (a1 := x4) (Word_size := Word_size) (Word_letters := Word_letters) hv7) dX4_tieOn_50 w391 ⟨w379, w380⟩ cal_X9_at rfl ⟨⟨Nat.le_of_ble_eq_true rfl, Nat.le_of_ble_eq_true rfl⟩, Nat.le_of_ble_eq_true rfl, Nat.le_of_ble_eq_true rfl⟩ (Nat.le_of_ble_eq_true rfl) ⟨_, _, _, _, rfl, rfl⟩ rfl ⟨rfl, ⟨by decide, by decide⟩, rfl, (fr_cons (Or.inl (Nat.le_of_ble_eq_true rfl)) (fr_nil)), rfl⟩ fr_i rfl rfl rfl rfl ?_
      obtain ⟨v8, hv8, hf⟩ := fbind hf
      refine V.callVn (pl := [0, 1]) (σ' := [.inl (3, [.ref 1]), .inr (910, .inl v8), .inl (4, [.ref 3, .int Word_size]), .inr (8, .inl Word_letters)]) (st2 := []) (cl2 := 0) (sl2 := 0) (ct_X7_put (a1 := (v6 + 0)) (a2 := v7) (State_cells := State_cells) hv8) dX4_tieOn_53 w566 ⟨w38, w39⟩ cal_X7_put rfl ⟨⟨Nat.le_of_ble_eq_true rfl, Nat.le_of_ble_eq_true rfl⟩, Nat.le_of_ble_eq_true rfl, Nat.le_of_ble_eq_true rfl⟩ (Nat.le_of_ble_eq_true rfl) ⟨_, _, _, _, rfl, rfl⟩ rfl ⟨rfl, ⟨by decide, by decide⟩, rfl, (fr_cons (Or.inl (Nat.le_of_ble_eq_true rfl)) (fr_nil)), rfl⟩ fr_v rfl rfl rfl rfl ?_
      refine V.aload_n (i := 0) dX4_tieOn_56 rfl rfl ?_
      refine V.iload (i := 5) dX4_tieOn_57 rfl ?_
      refine V.iconst (v := 1) dX4_tieOn_59 rfl ?_
      refine V.iadd dX4_tieOn_60 ?_
      refine V.iconst (v := 0) dX4_tieOn_61 rfl ?_
      obtain ⟨v9, hv9, hf⟩ := fbind hf
      refine V.callVn (pl := [0, 1]) (σ' := [.inl (3, [.ref 1]), .inr (910, .inl v9), .inl (4, [.ref 3, .int Word_size]), .inr (8, .inl Word_letters)]) (st2 := []) (cl2 := 0) (sl2 := 0) (ct_X7_put (a1 := (v6 + 1)) (a2 := 0) (State_cells := v8) hv9) dX4_tieOn_62 w566 ⟨w38, w39⟩ cal_X7_put rfl ⟨⟨Nat.le_of_ble_eq_true rfl, Nat.le_of_ble_eq_true rfl⟩, Nat.le_of_ble_eq_true rfl, Nat.le_of_ble_eq_true rfl⟩ (Nat.le_of_ble_eq_true rfl) ⟨_, _, _, _, rfl, rfl⟩ rfl ⟨rfl, ⟨by decide, by decide⟩, rfl, (fr_cons (Or.inl (Nat.le_of_ble_eq_true rfl)) (fr_nil)), rfl⟩ fr_v rfl rfl rfl rfl ?_
      refine V.aload_n (i := 0) dX4_tieOn_65 rfl rfl ?_
      refine V.iload (i := 5) dX4_tieOn_66 rfl ?_
      refine V.iconst (v := 2) dX4_tieOn_68 rfl ?_
      refine V.iadd dX4_tieOn_69 ?_
      refine V.aload_n (i := 1) dX4_tieOn_70 rfl rfl ?_
      refine V.iload (i := 4) dX4_tieOn_71 rfl ?_
      obtain ⟨v10, hv10, hf⟩ := fbind hf
      refine V.callVn (pl := [2, 3]) (σ' := [.inl (3, [.ref 1]), .inr (910, .inl v9), .inl (4, [.ref 3, .int Word_size]), .inr (8, .inl Word_letters)]) (st2 := [.int v10, .int (v6 + 2), .ref 0]) (cl2 := 0) (sl2 := 0) (ct_X9_at (a1 := x4) (Word_size := Word_size) (Word_letters := Word_letters) hv10) dX4_tieOn_73 w391 ⟨w379, w380⟩ cal_X9_at rfl ⟨⟨Nat.le_of_ble_eq_true rfl, Nat.le_of_ble_eq_true rfl⟩, Nat.le_of_ble_eq_true rfl, Nat.le_of_ble_eq_true rfl⟩ (Nat.le_of_ble_eq_true rfl) ⟨_, _, _, _, rfl, rfl⟩ rfl ⟨rfl, ⟨by decide, by decide⟩, rfl, (fr_cons (Or.inl (Nat.le_of_ble_eq_true rfl)) (fr_nil)), rfl⟩ fr_i rfl rfl rfl rfl ?_
      obtain ⟨v11, hv11, hf⟩ := fbind hf
      refine V.callVn (pl := [0, 1]) (σ' := [.inl (3, [.ref 1]), .inr (910, .inl v11), .inl (4, [.ref 3, .int Word_size]), .inr (8, .inl Word_letters)]) (st2 := []) (cl2 := 0) (sl2 := 0) (ct_X7_put (a1 := (v6 + 2)) (a2 := v10) (State_cells := v9) hv11) dX4_tieOn_76 w566 ⟨w38, w39⟩ cal_X7_put rfl ⟨⟨Nat.le_of_ble_eq_true rfl, Nat.le_of_ble_eq_true rfl⟩, Nat.le_of_ble_eq_true rfl, Nat.le_of_ble_eq_true rfl⟩ (Nat.le_of_ble_eq_true rfl) ⟨_, _, _, _, rfl, rfl⟩ rfl ⟨rfl, ⟨by decide, by decide⟩, rfl, (fr_cons (Or.inl (Nat.le_of_ble_eq_true rfl)) (fr_nil)), rfl⟩ fr_v rfl rfl rfl rfl ?_
      refine V.iinc (i := 4) (v := (x4 + 1)) (L' := [some (.ref 0), some (.ref 2), some (.int p2), some (.int p3), some (.int (x4 + 1)), some (.int v6)]) dX4_tieOn_79 rfl rfl (Nat.le_of_ble_eq_true rfl) rfl rfl ?_
      refine V.goto (tgt := 24) dX4_tieOn_82 (by decide) ?_
      exact V.locs (L' := [some (.ref 0), some (.ref 2), some (.int p2), some (.int p3), some (.int (x4 + 1)), none]) ⟨rfl, ⟨rfl, ⟨rfl, ⟨rfl, ⟨rfl, trivial⟩⟩⟩⟩⟩ (ih hf hx)
def s_X4_tieOn (a2 : Int32) (State_cells : Nat → Int32) (Word_size : Int32) (Word_letters : Nat → Int32) : Option (Int32 × (Nat → Int32)) := (s_X7_names a2 State_cells).bind fun v1 => (s_X7_nameCell a2 v1).bind fun v2 => (s_X9_size Word_size).bind fun v3 => (s_X7_put (v2 + 0) v3 State_cells).bind fun v4 => (s_X4_tieOn_L24 a2 v1 Word_size Word_letters gF 0 v4).bind fun r12 => (s_X7_fisherCell a2 1).bind fun v13 => (s_X7_add v13 1 r12.2).bind fun v14 => (s_X9_size Word_size).bind fun v15 => (s_X7_add 3 v15 v14).bind fun v16 => (s_X9_cord Word_size Word_letters).bind fun v17 => (s_X7_add 4 v17 v16).bind fun v18 => some (v1, v18)
set_option maxHeartbeats 4000000 in
set_option maxRecDepth 100000 in
theorem ct_X4_tieOn {a2 : Int32} {State_cells : Nat → Int32} {Word_size : Int32} {Word_letters : Nat → Int32} {res : Int32 × (Nat → Int32)} (hf : s_X4_tieOn a2 State_cells Word_size Word_letters = some res) : Ct k_X4_tieOn [.ref 0, .ref 2, .int a2] [.inl (3, [.ref 1]), .inr (910, .inl State_cells), .inl (4, [.ref 3, .int Word_size]), .inr (8, .inl Word_letters)] (.inl (some (.int res.1))) [.inl (3, [.ref 1]), .inr (910, .inl res.2), .inl (4, [.ref 3, .int Word_size]), .inr (8, .inl Word_letters)] := by
  unfold s_X4_tieOn at hf
  refine Ct.of (L := [some (.ref 0), some (.ref 2), some (.int a2), none, none, none]) cal_X4_tieOn (fent_pad (j := 3) rfl) (Nat.le_of_ble_eq_true rfl) ?_
  refine V.aload_n (i := 0) dX4_tieOn_0 rfl rfl ?_
  refine V.iload_n (i := 2) dX4_tieOn_1 rfl rfl ?_
  obtain ⟨v1, hv1, hf⟩ := fbind hf
  refine V.callVn (pl := [0, 1]) (σ' := [.inl (3, [.ref 1]), .inr (910, .inl State_cells), .inl (4, [.ref 3, .int Word_size]), .inr (8, .inl Word_letters)]) (st2 := [.int v1]) (cl2 := 0) (sl2 := 0) (ct_X7_names (a1 := a2) (State_cells := State_cells) hv1) dX4_tieOn_2 w373 ⟨w139, w140⟩ cal_X7_names rfl ⟨⟨Nat.le_of_ble_eq_true rfl, Nat.le_of_ble_eq_true rfl⟩, Nat.le_of_ble_eq_true rfl, Nat.le_of_ble_eq_true rfl⟩ (Nat.le_of_ble_eq_true rfl) ⟨_, _, _, _, rfl, rfl⟩ rfl ⟨rfl, ⟨by decide, by decide⟩, rfl, (fr_cons (Or.inl (Nat.le_of_ble_eq_true rfl)) (fr_nil)), rfl⟩ fr_i rfl rfl rfl rfl ?_
  refine V.istore_n (i := 3) (L' := [some (.ref 0), some (.ref 2), some (.int a2), some (.int v1), none, none]) dX4_tieOn_5 rfl (Nat.le_of_ble_eq_true rfl) rfl rfl ?_
  refine V.aload_n (i := 0) dX4_tieOn_6 rfl rfl ?_
  refine V.iload_n (i := 2) dX4_tieOn_7 rfl rfl ?_
  refine V.iload_n (i := 3) dX4_tieOn_8 rfl rfl ?_
  obtain ⟨v2, hv2, hf⟩ := fbind hf
  refine V.callSn (pl := []) (σ' := [.inl (3, [.ref 1]), .inr (910, .inl State_cells), .inl (4, [.ref 3, .int Word_size]), .inr (8, .inl Word_letters)]) (st2 := [.int v2, .ref 0]) (cl2 := 0) (sl2 := 0) (ct_X7_nameCell (a0 := a2) (a1 := v1) hv2) dX4_tieOn_9 w565 w154 cal_X7_nameCell ⟨⟨Nat.le_of_ble_eq_true rfl, Nat.le_of_ble_eq_true rfl⟩, Nat.le_of_ble_eq_true rfl, Nat.le_of_ble_eq_true rfl⟩ (Nat.le_of_ble_eq_true rfl) rfl ⟨rfl, ⟨by decide, by decide⟩, rfl, (fr_nil), rfl⟩ fr_i rfl rfl rfl rfl ?_
  refine V.iconst (v := 0) dX4_tieOn_12 rfl ?_
  refine V.iadd dX4_tieOn_13 ?_
  refine V.aload_n (i := 1) dX4_tieOn_14 rfl rfl ?_
  obtain ⟨v3, hv3, hf⟩ := fbind hf
  refine V.callVn (pl := [2, 3]) (σ' := [.inl (3, [.ref 1]), .inr (910, .inl State_cells), .inl (4, [.ref 3, .int Word_size]), .inr (8, .inl Word_letters)]) (st2 := [.int v3, .int (v2 + 0), .ref 0]) (cl2 := 0) (sl2 := 0) (ct_X9_size (Word_size := Word_size) (Word_letters := Word_letters) hv3) dX4_tieOn_15 w387 ⟨w388, w389⟩ cal_X9_size rfl ⟨⟨Nat.le_of_ble_eq_true rfl, Nat.le_of_ble_eq_true rfl⟩, Nat.le_of_ble_eq_true rfl, Nat.le_of_ble_eq_true rfl⟩ (Nat.le_of_ble_eq_true rfl) ⟨_, _, _, _, rfl, rfl⟩ rfl ⟨rfl, ⟨by decide, by decide⟩, rfl, (fr_cons (Or.inl (Nat.le_of_ble_eq_true rfl)) (fr_nil)), rfl⟩ fr_i rfl rfl rfl rfl ?_
  obtain ⟨v4, hv4, hf⟩ := fbind hf
  refine V.callVn (pl := [0, 1]) (σ' := [.inl (3, [.ref 1]), .inr (910, .inl v4), .inl (4, [.ref 3, .int Word_size]), .inr (8, .inl Word_letters)]) (st2 := []) (cl2 := 0) (sl2 := 0) (ct_X7_put (a1 := (v2 + 0)) (a2 := v3) (State_cells := State_cells) hv4) dX4_tieOn_18 w566 ⟨w38, w39⟩ cal_X7_put rfl ⟨⟨Nat.le_of_ble_eq_true rfl, Nat.le_of_ble_eq_true rfl⟩, Nat.le_of_ble_eq_true rfl, Nat.le_of_ble_eq_true rfl⟩ (Nat.le_of_ble_eq_true rfl) ⟨_, _, _, _, rfl, rfl⟩ rfl ⟨rfl, ⟨by decide, by decide⟩, rfl, (fr_cons (Or.inl (Nat.le_of_ble_eq_true rfl)) (fr_nil)), rfl⟩ fr_v rfl rfl rfl rfl ?_
  refine V.iconst (v := 0) dX4_tieOn_21 rfl ?_
  refine V.istore (i := 4) (L' := [some (.ref 0), some (.ref 2), some (.int a2), some (.int v1), some (.int 0), none]) dX4_tieOn_22 (Nat.le_of_ble_eq_true rfl) rfl rfl ?_
  obtain ⟨r12, hr12, hf⟩ := fbind hf
  refine v_X4_tieOn_L24 gF hr12 ?_
  refine V.aload_n (i := 0) dX4_tieOn_85 rfl rfl ?_
  refine V.iload_n (i := 2) dX4_tieOn_86 rfl rfl ?_
  refine V.iconst (v := 1) dX4_tieOn_87 rfl ?_
  obtain ⟨v13, hv13, hf⟩ := fbind hf
  refine V.callSn (pl := []) (σ' := [.inl (3, [.ref 1]), .inr (910, .inl r12.2), .inl (4, [.ref 3, .int Word_size]), .inr (8, .inl Word_letters)]) (st2 := [.int v13, .ref 0]) (cl2 := 0) (sl2 := 0) (ct_X7_fisherCell (a0 := a2) (a1 := 1) hv13) dX4_tieOn_88 w568 w42 cal_X7_fisherCell ⟨⟨Nat.le_of_ble_eq_true rfl, Nat.le_of_ble_eq_true rfl⟩, Nat.le_of_ble_eq_true rfl, Nat.le_of_ble_eq_true rfl⟩ (Nat.le_of_ble_eq_true rfl) rfl ⟨rfl, ⟨by decide, by decide⟩, rfl, (fr_nil), rfl⟩ fr_i rfl rfl rfl rfl ?_
  refine V.iconst (v := 1) dX4_tieOn_91 rfl ?_
  obtain ⟨v14, hv14, hf⟩ := fbind hf
  refine V.callVn (pl := [0, 1]) (σ' := [.inl (3, [.ref 1]), .inr (910, .inl v14), .inl (4, [.ref 3, .int Word_size]), .inr (8, .inl Word_letters)]) (st2 := []) (cl2 := 0) (sl2 := 0) (ct_X7_add (a1 := v13) (a2 := 1) (State_cells := r12.2) hv14) dX4_tieOn_92 w569 ⟨w570, w571⟩ cal_X7_add rfl ⟨⟨Nat.le_of_ble_eq_true rfl, Nat.le_of_ble_eq_true rfl⟩, Nat.le_of_ble_eq_true rfl, Nat.le_of_ble_eq_true rfl⟩ (Nat.le_of_ble_eq_true rfl) ⟨_, _, _, _, rfl, rfl⟩ rfl ⟨rfl, ⟨by decide, by decide⟩, rfl, (fr_cons (Or.inl (Nat.le_of_ble_eq_true rfl)) (fr_nil)), rfl⟩ fr_v rfl rfl rfl rfl ?_
  refine V.aload_n (i := 0) dX4_tieOn_95 rfl rfl ?_
  refine V.iconst (v := 3) dX4_tieOn_96 rfl ?_
  refine V.aload_n (i := 1) dX4_tieOn_97 rfl rfl ?_
  obtain ⟨v15, hv15, hf⟩ := fbind hf
  refine V.callVn (pl := [2, 3]) (σ' := [.inl (3, [.ref 1]), .inr (910, .inl v14), .inl (4, [.ref 3, .int Word_size]), .inr (8, .inl Word_letters)]) (st2 := [.int v15, .int 3, .ref 0]) (cl2 := 0) (sl2 := 0) (ct_X9_size (Word_size := Word_size) (Word_letters := Word_letters) hv15) dX4_tieOn_98 w387 ⟨w388, w389⟩ cal_X9_size rfl ⟨⟨Nat.le_of_ble_eq_true rfl, Nat.le_of_ble_eq_true rfl⟩, Nat.le_of_ble_eq_true rfl, Nat.le_of_ble_eq_true rfl⟩ (Nat.le_of_ble_eq_true rfl) ⟨_, _, _, _, rfl, rfl⟩ rfl ⟨rfl, ⟨by decide, by decide⟩, rfl, (fr_cons (Or.inl (Nat.le_of_ble_eq_true rfl)) (fr_nil)), rfl⟩ fr_i rfl rfl rfl rfl ?_
  obtain ⟨v16, hv16, hf⟩ := fbind hf
  refine V.callVn (pl := [0, 1]) (σ' := [.inl (3, [.ref 1]), .inr (910, .inl v16), .inl (4, [.ref 3, .int Word_size]), .inr (8, .inl Word_letters)]) (st2 := []) (cl2 := 0) (sl2 := 0) (ct_X7_add (a1 := 3) (a2 := v15) (State_cells := v14) hv16) dX4_tieOn_101 w569 ⟨w570, w571⟩ cal_X7_add rfl ⟨⟨Nat.le_of_ble_eq_true rfl, Nat.le_of_ble_eq_true rfl⟩, Nat.le_of_ble_eq_true rfl, Nat.le_of_ble_eq_true rfl⟩ (Nat.le_of_ble_eq_true rfl) ⟨_, _, _, _, rfl, rfl⟩ rfl ⟨rfl, ⟨by decide, by decide⟩, rfl, (fr_cons (Or.inl (Nat.le_of_ble_eq_true rfl)) (fr_nil)), rfl⟩ fr_v rfl rfl rfl rfl ?_
  refine V.aload_n (i := 0) dX4_tieOn_104 rfl rfl ?_
  refine V.iconst (v := 4) dX4_tieOn_105 rfl ?_
  refine V.aload_n (i := 1) dX4_tieOn_106 rfl rfl ?_
  obtain ⟨v17, hv17, hf⟩ := fbind hf
  refine V.callVn (pl := [2, 3]) (σ' := [.inl (3, [.ref 1]), .inr (910, .inl v16), .inl (4, [.ref 3, .int Word_size]), .inr (8, .inl Word_letters)]) (st2 := [.int v17, .int 4, .ref 0]) (cl2 := 0) (sl2 := 0) (ct_X9_cord (Word_size := Word_size) (Word_letters := Word_letters) hv17) dX4_tieOn_107 w374 ⟨w375, w376⟩ cal_X9_cord rfl ⟨⟨Nat.le_of_ble_eq_true rfl, Nat.le_of_ble_eq_true rfl⟩, Nat.le_of_ble_eq_true rfl, Nat.le_of_ble_eq_true rfl⟩ (Nat.le_of_ble_eq_true rfl) ⟨_, _, _, _, rfl, rfl⟩ rfl ⟨rfl, ⟨by decide, by decide⟩, rfl, (fr_cons (Or.inl (Nat.le_of_ble_eq_true rfl)) (fr_nil)), rfl⟩ fr_i rfl rfl rfl rfl ?_
  obtain ⟨v18, hv18, hf⟩ := fbind hf
  refine V.callVn (pl := [0, 1]) (σ' := [.inl (3, [.ref 1]), .inr (910, .inl v18), .inl (4, [.ref 3, .int Word_size]), .inr (8, .inl Word_letters)]) (st2 := []) (cl2 := 0) (sl2 := 0) (ct_X7_add (a1 := 4) (a2 := v17) (State_cells := v16) hv18) dX4_tieOn_110 w569 ⟨w570, w571⟩ cal_X7_add rfl ⟨⟨Nat.le_of_ble_eq_true rfl, Nat.le_of_ble_eq_true rfl⟩, Nat.le_of_ble_eq_true rfl, Nat.le_of_ble_eq_true rfl⟩ (Nat.le_of_ble_eq_true rfl) ⟨_, _, _, _, rfl, rfl⟩ rfl ⟨rfl, ⟨by decide, by decide⟩, rfl, (fr_cons (Or.inl (Nat.le_of_ble_eq_true rfl)) (fr_nil)), rfl⟩ fr_v rfl rfl rfl rfl ?_
  refine V.iload_n (i := 3) dX4_tieOn_113 rfl rfl ?_
  obtain rfl := Option.some.inj hf
  exact V.iret dX4_tieOn_114 rfl (Nat.le_of_ble_eq_true rfl) (Nat.le_of_ble_eq_true rfl) rfl
def k_X4_takeOff : fK := (yX4_takeOff, cX4_takeOff, 5, (some .int), [], (2, 49), (0, 0), (0, 0))
theorem cal_X4_takeOff : fCal k_X4_takeOff 3 := ⟨⟨wc614, w20⟩, ⟨by decide +kernel, by decide +kernel⟩, by decide +kernel, by decide +kernel⟩
def s_X4_takeOff (a1 : Int32) (a2 : Int32) (State_cells : Nat → Int32) : Option (Int32 × (Nat → Int32)) := (s_X7_cordOf a1 a2 State_cells).bind fun v1 => (s_X7_nameCell a1 6).bind fun v2 => (s_X7_nameCell a1 a2).bind fun v3 => (s_X7_closeUp v3 v2 25 State_cells).bind fun v4 => (s_X7_fisherCell a1 1).bind fun v5 => (s_X7_add v5 (-1) v4).bind fun v6 => (s_X7_add 4 (-v1) v6).bind fun v7 => some (v1, v7)
set_option maxHeartbeats 4000000 in
set_option maxRecDepth 100000 in
theorem ct_X4_takeOff {a1 : Int32} {a2 : Int32} {State_cells : Nat → Int32} {res : Int32 × (Nat → Int32)} (hf : s_X4_takeOff a1 a2 State_cells = some res) : Ct k_X4_takeOff [.ref 0, .int a1, .int a2] [.inl (3, [.ref 1]), .inr (910, .inl State_cells)] (.inl (some (.int res.1))) [.inl (3, [.ref 1]), .inr (910, .inl res.2)] := by
  unfold s_X4_takeOff at hf
  refine Ct.of (L := [some (.ref 0), some (.int a1), some (.int a2), none, none]) cal_X4_takeOff (fent_pad (j := 2) rfl) (Nat.le_of_ble_eq_true rfl) ?_
  refine V.aload_n (i := 0) dX4_takeOff_0 rfl rfl ?_
  refine V.iload_n (i := 1) dX4_takeOff_1 rfl rfl ?_
  refine V.iload_n (i := 2) dX4_takeOff_2 rfl rfl ?_
  obtain ⟨v1, hv1, hf⟩ := fbind hf
  refine V.callVn (pl := [0, 1]) (σ' := [.inl (3, [.ref 1]), .inr (910, .inl State_cells)]) (st2 := [.int v1]) (cl2 := 0) (sl2 := 0) (ct_X7_cordOf (a1 := a1) (a2 := a2) (State_cells := State_cells) hv1) dX4_takeOff_3 w615 ⟨w277, w278⟩ cal_X7_cordOf rfl ⟨⟨Nat.le_of_ble_eq_true rfl, Nat.le_of_ble_eq_true rfl⟩, Nat.le_of_ble_eq_true rfl, Nat.le_of_ble_eq_true rfl⟩ (Nat.le_of_ble_eq_true rfl) ⟨_, _, _, _, rfl, rfl⟩ rfl ⟨rfl, ⟨by decide, by decide⟩, rfl, (fr_cons (Or.inl (Nat.le_of_ble_eq_true rfl)) (fr_nil)), rfl⟩ fr_i rfl rfl rfl rfl ?_
  refine V.istore_n (i := 3) (L' := [some (.ref 0), some (.int a1), some (.int a2), some (.int v1), none]) dX4_takeOff_6 rfl (Nat.le_of_ble_eq_true rfl) rfl rfl ?_
  refine V.iload_n (i := 1) dX4_takeOff_7 rfl rfl ?_
  refine V.bipush (v := 6) dX4_takeOff_8 rfl ?_
  obtain ⟨v2, hv2, hf⟩ := fbind hf
  refine V.callSn (pl := []) (σ' := [.inl (3, [.ref 1]), .inr (910, .inl State_cells)]) (st2 := [.int v2]) (cl2 := 0) (sl2 := 0) (ct_X7_nameCell (a0 := a1) (a1 := 6) hv2) dX4_takeOff_10 w565 w154 cal_X7_nameCell ⟨⟨Nat.le_of_ble_eq_true rfl, Nat.le_of_ble_eq_true rfl⟩, Nat.le_of_ble_eq_true rfl, Nat.le_of_ble_eq_true rfl⟩ (Nat.le_of_ble_eq_true rfl) rfl ⟨rfl, ⟨by decide, by decide⟩, rfl, (fr_nil), rfl⟩ fr_i rfl rfl rfl rfl ?_
  refine V.istore (i := 4) (L' := [some (.ref 0), some (.int a1), some (.int a2), some (.int v1), some (.int v2)]) dX4_takeOff_13 (Nat.le_of_ble_eq_true rfl) rfl rfl ?_
  refine V.aload_n (i := 0) dX4_takeOff_15 rfl rfl ?_
  refine V.iload_n (i := 1) dX4_takeOff_16 rfl rfl ?_
  refine V.iload_n (i := 2) dX4_takeOff_17 rfl rfl ?_
  obtain ⟨v3, hv3, hf⟩ := fbind hf
  refine V.callSn (pl := []) (σ' := [.inl (3, [.ref 1]), .inr (910, .inl State_cells)]) (st2 := [.int v3, .ref 0]) (cl2 := 0) (sl2 := 0) (ct_X7_nameCell (a0 := a1) (a1 := a2) hv3) dX4_takeOff_18 w565 w154 cal_X7_nameCell ⟨⟨Nat.le_of_ble_eq_true rfl, Nat.le_of_ble_eq_true rfl⟩, Nat.le_of_ble_eq_true rfl, Nat.le_of_ble_eq_true rfl⟩ (Nat.le_of_ble_eq_true rfl) rfl ⟨rfl, ⟨by decide, by decide⟩, rfl, (fr_nil), rfl⟩ fr_i rfl rfl rfl rfl ?_
  refine V.iload (i := 4) dX4_takeOff_21 rfl ?_
  refine V.bipush (v := 25) dX4_takeOff_23 rfl ?_
  obtain ⟨v4, hv4, hf⟩ := fbind hf
  refine V.callVn (pl := [0, 1]) (σ' := [.inl (3, [.ref 1]), .inr (910, .inl v4)]) (st2 := []) (cl2 := 0) (sl2 := 0) (ct_X7_closeUp (a1 := v3) (a2 := v2) (a3 := 25) (State_cells := State_cells) hv4) dX4_takeOff_25 w616 ⟨w609, w610⟩ cal_X7_closeUp rfl ⟨⟨Nat.le_of_ble_eq_true rfl, Nat.le_of_ble_eq_true rfl⟩, Nat.le_of_ble_eq_true rfl, Nat.le_of_ble_eq_true rfl⟩ (Nat.le_of_ble_eq_true rfl) ⟨_, _, _, _, rfl, rfl⟩ rfl ⟨rfl, ⟨by decide, by decide⟩, rfl, (fr_cons (Or.inl (Nat.le_of_ble_eq_true rfl)) (fr_nil)), rfl⟩ fr_v rfl rfl rfl rfl ?_
  refine V.aload_n (i := 0) dX4_takeOff_28 rfl rfl ?_
  refine V.iload_n (i := 1) dX4_takeOff_29 rfl rfl ?_
  refine V.iconst (v := 1) dX4_takeOff_30 rfl ?_
  obtain ⟨v5, hv5, hf⟩ := fbind hf
  refine V.callSn (pl := []) (σ' := [.inl (3, [.ref 1]), .inr (910, .inl v4)]) (st2 := [.int v5, .ref 0]) (cl2 := 0) (sl2 := 0) (ct_X7_fisherCell (a0 := a1) (a1 := 1) hv5) dX4_takeOff_31 w568 w42 cal_X7_fisherCell ⟨⟨Nat.le_of_ble_eq_true rfl, Nat.le_of_ble_eq_true rfl⟩, Nat.le_of_ble_eq_true rfl, Nat.le_of_ble_eq_true rfl⟩ (Nat.le_of_ble_eq_true rfl) rfl ⟨rfl, ⟨by decide, by decide⟩, rfl, (fr_nil), rfl⟩ fr_i rfl rfl rfl rfl ?_
  refine V.iconst (v := (-1)) dX4_takeOff_34 rfl ?_
  obtain ⟨v6, hv6, hf⟩ := fbind hf
  refine V.callVn (pl := [0, 1]) (σ' := [.inl (3, [.ref 1]), .inr (910, .inl v6)]) (st2 := []) (cl2 := 0) (sl2 := 0) (ct_X7_add (a1 := v5) (a2 := (-1)) (State_cells := v4) hv6) dX4_takeOff_35 w569 ⟨w570, w571⟩ cal_X7_add rfl ⟨⟨Nat.le_of_ble_eq_true rfl, Nat.le_of_ble_eq_true rfl⟩, Nat.le_of_ble_eq_true rfl, Nat.le_of_ble_eq_true rfl⟩ (Nat.le_of_ble_eq_true rfl) ⟨_, _, _, _, rfl, rfl⟩ rfl ⟨rfl, ⟨by decide, by decide⟩, rfl, (fr_cons (Or.inl (Nat.le_of_ble_eq_true rfl)) (fr_nil)), rfl⟩ fr_v rfl rfl rfl rfl ?_
  refine V.aload_n (i := 0) dX4_takeOff_38 rfl rfl ?_
  refine V.iconst (v := 4) dX4_takeOff_39 rfl ?_
  refine V.iload_n (i := 3) dX4_takeOff_40 rfl rfl ?_
  refine V.ineg dX4_takeOff_41 ?_
  obtain ⟨v7, hv7, hf⟩ := fbind hf
  refine V.callVn (pl := [0, 1]) (σ' := [.inl (3, [.ref 1]), .inr (910, .inl v7)]) (st2 := []) (cl2 := 0) (sl2 := 0) (ct_X7_add (a1 := 4) (a2 := (-v1)) (State_cells := v6) hv7) dX4_takeOff_42 w569 ⟨w570, w571⟩ cal_X7_add rfl ⟨⟨Nat.le_of_ble_eq_true rfl, Nat.le_of_ble_eq_true rfl⟩, Nat.le_of_ble_eq_true rfl, Nat.le_of_ble_eq_true rfl⟩ (Nat.le_of_ble_eq_true rfl) ⟨_, _, _, _, rfl, rfl⟩ rfl ⟨rfl, ⟨by decide, by decide⟩, rfl, (fr_cons (Or.inl (Nat.le_of_ble_eq_true rfl)) (fr_nil)), rfl⟩ fr_v rfl rfl rfl rfl ?_
  refine V.iload_n (i := 3) dX4_takeOff_45 rfl rfl ?_
  obtain rfl := Option.some.inj hf
  exact V.iret dX4_takeOff_46 rfl (Nat.le_of_ble_eq_true rfl) (Nat.le_of_ble_eq_true rfl) rfl
def k_X4_cordToTighten : fK := (yX4_cordToTighten, cX4_cordToTighten, 4, (some .int), [], (1, 21), (0, 0), (0, 0))
theorem cal_X4_cordToTighten : fCal k_X4_cordToTighten 2 := ⟨⟨wc667, w20⟩, ⟨by decide +kernel, by decide +kernel⟩, by decide +kernel, by decide +kernel⟩
def s_X4_cordToTighten (a1 : Int32) (State_cells : Nat → Int32) : Option (Int32) := (s_X7_at (a1 + 0) State_cells).bind fun v1 => (s_X7_at (a1 + 1) State_cells).bind fun v2 => (s_X0_reading v1 v2).bind fun v3 => if (v3 = 16 : Prop) then (some 0) else ((s_X0_cordOfKnot v3).bind fun v4 => (s_X0_cordOfKnot v1).bind fun v5 => some (v4 - v5))
set_option maxHeartbeats 4000000 in
set_option maxRecDepth 100000 in
theorem ct_X4_cordToTighten {a1 : Int32} {State_cells : Nat → Int32} {res : Int32} (hf : s_X4_cordToTighten a1 State_cells = some res) : Ct k_X4_cordToTighten [.ref 0, .int a1] [.inl (3, [.ref 1]), .inr (910, .inl State_cells)] (.inl (some (.int res))) [.inl (3, [.ref 1]), .inr (910, .inl State_cells)] := by
  unfold s_X4_cordToTighten at hf
  refine Ct.of (L := [some (.ref 0), some (.int a1), none, none]) cal_X4_cordToTighten (fent_pad (j := 2) rfl) (Nat.le_of_ble_eq_true rfl) ?_
  refine V.aload_n (i := 0) dX4_cordToTighten_0 rfl rfl ?_
  refine V.iload_n (i := 1) dX4_cordToTighten_1 rfl rfl ?_
  refine V.iconst (v := 0) dX4_cordToTighten_2 rfl ?_
  refine V.iadd dX4_cordToTighten_3 ?_
  obtain ⟨v1, hv1, hf⟩ := fbind hf
  refine V.callVn (pl := [0, 1]) (σ' := [.inl (3, [.ref 1]), .inr (910, .inl State_cells)]) (st2 := [.int v1]) (cl2 := 0) (sl2 := 0) (ct_X7_at (a1 := (a1 + 0)) (State_cells := State_cells) hv1) dX4_cordToTighten_4 w668 ⟨w143, w144⟩ cal_X7_at rfl ⟨⟨Nat.le_of_ble_eq_true rfl, Nat.le_of_ble_eq_true rfl⟩, Nat.le_of_ble_eq_true rfl, Nat.le_of_ble_eq_true rfl⟩ (Nat.le_of_ble_eq_true rfl) ⟨_, _, _, _, rfl, rfl⟩ rfl ⟨rfl, ⟨by decide, by decide⟩, rfl, (fr_cons (Or.inl (Nat.le_of_ble_eq_true rfl)) (fr_nil)), rfl⟩ fr_i rfl rfl rfl rfl ?_
  refine V.istore_n (i := 2) (L' := [some (.ref 0), some (.int a1), some (.int v1), none]) dX4_cordToTighten_7 rfl (Nat.le_of_ble_eq_true rfl) rfl rfl ?_
  refine V.iload_n (i := 2) dX4_cordToTighten_8 rfl rfl ?_
  refine V.aload_n (i := 0) dX4_cordToTighten_9 rfl rfl ?_
  refine V.iload_n (i := 1) dX4_cordToTighten_10 rfl rfl ?_
  refine V.iconst (v := 1) dX4_cordToTighten_11 rfl ?_
  refine V.iadd dX4_cordToTighten_12 ?_
  obtain ⟨v2, hv2, hf⟩ := fbind hf
  refine V.callVn (pl := [0, 1]) (σ' := [.inl (3, [.ref 1]), .inr (910, .inl State_cells)]) (st2 := [.int v2, .int v1]) (cl2 := 0) (sl2 := 0) (ct_X7_at (a1 := (a1 + 1)) (State_cells := State_cells) hv2) dX4_cordToTighten_13 w668 ⟨w143, w144⟩ cal_X7_at rfl ⟨⟨Nat.le_of_ble_eq_true rfl, Nat.le_of_ble_eq_true rfl⟩, Nat.le_of_ble_eq_true rfl, Nat.le_of_ble_eq_true rfl⟩ (Nat.le_of_ble_eq_true rfl) ⟨_, _, _, _, rfl, rfl⟩ rfl ⟨rfl, ⟨by decide, by decide⟩, rfl, (fr_cons (Or.inl (Nat.le_of_ble_eq_true rfl)) (fr_nil)), rfl⟩ fr_i rfl rfl rfl rfl ?_
  obtain ⟨v3, hv3, hf⟩ := fbind hf
  refine V.callSn (pl := []) (σ' := [.inl (3, [.ref 1]), .inr (910, .inl State_cells)]) (st2 := [.int v3]) (cl2 := 0) (sl2 := 0) (ct_X0_reading (a0 := v1) (a1 := v2) hv3) dX4_cordToTighten_16 w669 w164 cal_X0_reading ⟨⟨Nat.le_of_ble_eq_true rfl, Nat.le_of_ble_eq_true rfl⟩, Nat.le_of_ble_eq_true rfl, Nat.le_of_ble_eq_true rfl⟩ (Nat.le_of_ble_eq_true rfl) rfl ⟨rfl, ⟨by decide, by decide⟩, rfl, (fr_nil), rfl⟩ fr_i rfl rfl rfl rfl ?_
  refine V.istore_n (i := 3) (L' := [some (.ref 0), some (.int a1), some (.int v1), some (.int v3)]) dX4_cordToTighten_19 rfl (Nat.le_of_ble_eq_true rfl) rfl rfl ?_
  refine V.iload_n (i := 3) dX4_cordToTighten_20 rfl rfl ?_
  refine V.bipush (v := 16) dX4_cordToTighten_21 rfl ?_
  refine V.icmp_ne (tgt := 30) dX4_cordToTighten_23 (by decide) (fun h => ?_) (fun h => ?_)
  · have hf := fif_f h hf
    refine V.iload_n (i := 3) dX4_cordToTighten_30 rfl rfl ?_
    obtain ⟨v4, hv4, hf⟩ := fbind hf
    refine V.callSn (pl := []) (σ' := [.inl (3, [.ref 1]), .inr (910, .inl State_cells)]) (st2 := [.int v4]) (cl2 := 0) (sl2 := 0) (ct_X0_cordOfKnot (a0 := v3) hv4) dX4_cordToTighten_31 w670 w282 cal_X0_cordOfKnot ⟨⟨Nat.le_of_ble_eq_true rfl, Nat.le_of_ble_eq_true rfl⟩, Nat.le_of_ble_eq_true rfl, Nat.le_of_ble_eq_true rfl⟩ (Nat.le_of_ble_eq_true rfl) rfl ⟨rfl, ⟨by decide, by decide⟩, rfl, (fr_nil), rfl⟩ fr_i rfl rfl rfl rfl ?_
    refine V.iload_n (i := 2) dX4_cordToTighten_34 rfl rfl ?_
    obtain ⟨v5, hv5, hf⟩ := fbind hf
    refine V.callSn (pl := []) (σ' := [.inl (3, [.ref 1]), .inr (910, .inl State_cells)]) (st2 := [.int v5, .int v4]) (cl2 := 0) (sl2 := 0) (ct_X0_cordOfKnot (a0 := v1) hv5) dX4_cordToTighten_35 w670 w282 cal_X0_cordOfKnot ⟨⟨Nat.le_of_ble_eq_true rfl, Nat.le_of_ble_eq_true rfl⟩, Nat.le_of_ble_eq_true rfl, Nat.le_of_ble_eq_true rfl⟩ (Nat.le_of_ble_eq_true rfl) rfl ⟨rfl, ⟨by decide, by decide⟩, rfl, (fr_nil), rfl⟩ fr_i rfl rfl rfl rfl ?_
    refine V.isub dX4_cordToTighten_38 ?_
    obtain rfl := Option.some.inj hf
    exact V.iret dX4_cordToTighten_39 rfl (Nat.le_of_ble_eq_true rfl) (Nat.le_of_ble_eq_true rfl) rfl
  · have hf := fif_t h hf
    refine V.iconst (v := 0) dX4_cordToTighten_26 rfl ?_
    refine V.goto (tgt := 39) dX4_cordToTighten_27 (by decide) ?_
    obtain rfl := Option.some.inj hf
    exact V.iret dX4_cordToTighten_39 rfl (Nat.le_of_ble_eq_true rfl) (Nat.le_of_ble_eq_true rfl) rfl
def k_X4_whyNotTightened : fK := (yX4_whyNotTightened, cX4_whyNotTightened, 6, (some .int), [], (3, 73), (0, 0), (0, 0))
theorem cal_X4_whyNotTightened : fCal k_X4_whyNotTightened 3 := ⟨⟨wc664, w20⟩, ⟨by decide +kernel, by decide +kernel⟩, by decide +kernel, by decide +kernel⟩
def s_X4_whyNotTightened_L13 (p1 : Int32) (p2 : Int32) (p4 : Int32) (State_cells : Nat → Int32) : Nat → Int32 → Int32 → Option (Int32 × Int32)
  | 0, _, _ => none
  | n + 1, x3, x5 => if (p4 ≤ x5 : Prop) then (some (x3, x5)) else ((s_X7_knotCell p1 p2 x5).bind fun v2 => (s_X4_cordToTighten v2 State_cells).bind fun v3 => s_X4_whyNotTightened_L13 p1 p2 p4 State_cells n (x3 + v3) (x5 + 1))
set_option maxHeartbeats 4000000 in
set_option maxRecDepth 100000 in
theorem v_X4_whyNotTightened_L13 {out : fO} {σ' : List fE} {p1 : Int32} {p2 : Int32} {p4 : Int32} {State_cells : Nat → Int32} : ∀ (n : Nat) {x3 : Int32} {x5 : Int32} {res : Int32 × Int32} (hf : s_X4_whyNotTightened_L13 p1 p2 p4 State_cells n x3 x5 = some res) (hx : V (fXm 2 k_X4_whyNotTightened out σ') (krm k_X4_whyNotTightened) k_X4_whyNotTightened 2 40 [some (.ref 0), some (.int p1), some (.int p2), some (.int res.1), some (.int p4), some (.int res.2)] [] [.inl (3, [.ref 1]), .inr (910, .inl State_cells)] 0 0), V (fXm 2 k_X4_whyNotTightened out σ') (krm k_X4_whyNotTightened) k_X4_whyNotTightened 2 13 [some (.ref 0), some (.int p1), some (.int p2), some (.int x3), some (.int p4), some (.int x5)] [] [.inl (3, [.ref 1]), .inr (910, .inl State_cells)] 0 0 := by
  intro n
  induction n with
  | zero =>
    intro x3 x5 res hf hx
    rw [s_X4_whyNotTightened_L13] at hf
    cases hf
  | succ n ih =>
    intro x3 x5 res hf hx
    rw [s_X4_whyNotTightened_L13] at hf
    refine V.iload (i := 5) dX4_whyNotTightened_13 rfl ?_
    refine V.iload (i := 4) dX4_whyNotTightened_15 rfl ?_
    refine V.icmp_ge (tgt := 40) dX4_whyNotTightened_17 (by decide) (fun h => ?_) (fun h => ?_)
    · have hf := fif_t h hf
      obtain rfl := Option.some.inj hf
      exact hx
    · have hf := fif_f h hf
      refine V.iload_n (i := 3) dX4_whyNotTightened_20 rfl rfl ?_
      refine V.aload_n (i := 0) dX4_whyNotTightened_21 rfl rfl ?_
      refine V.iload_n (i := 1) dX4_whyNotTightened_22 rfl rfl ?_
      refine V.iload_n (i := 2) dX4_whyNotTightened_23 rfl rfl ?_
      refine V.iload (i := 5) dX4_whyNotTightened_24 rfl ?_
      obtain ⟨v2, hv2, hf⟩ := fbind hf
      refine V.callSn (pl := []) (σ' := [.inl (3, [.ref 1]), .inr (910, .inl State_cells)]) (st2 := [.int v2, .ref 0, .int x3]) (cl2 := 0) (sl2 := 0) (ct_X7_knotCell (a0 := p1) (a1 := p2) (a2 := x5) hv2) dX4_whyNotTightened_26 w567 w157 cal_X7_knotCell ⟨⟨Nat.le_of_ble_eq_true rfl, Nat.le_of_ble_eq_true rfl⟩, Nat.le_of_ble_eq_true rfl, Nat.le_of_ble_eq_true rfl⟩ (Nat.le_of_ble_eq_true rfl) rfl ⟨rfl, ⟨by decide, by decide⟩, rfl, (fr_nil), rfl⟩ fr_i rfl rfl rfl rfl ?_
      obtain ⟨v3, hv3, hf⟩ := fbind hf
      refine V.callSn (pl := [0, 1]) (σ' := [.inl (3, [.ref 1]), .inr (910, .inl State_cells)]) (st2 := [.int v3, .int x3]) (cl2 := 0) (sl2 := 0) (ct_X4_cordToTighten (a1 := v2) (State_cells := State_cells) hv3) dX4_whyNotTightened_29 w665 w666 cal_X4_cordToTighten ⟨⟨Nat.le_of_ble_eq_true rfl, Nat.le_of_ble_eq_true rfl⟩, Nat.le_of_ble_eq_true rfl, Nat.le_of_ble_eq_true rfl⟩ (Nat.le_of_ble_eq_true rfl) rfl ⟨rfl, ⟨by decide, by decide⟩, rfl, (fr_cons (Or.inl (Nat.le_of_ble_eq_true rfl)) (fr_nil)), rfl⟩ fr_i rfl rfl rfl rfl ?_
      refine V.iadd dX4_whyNotTightened_32 ?_
      refine V.istore_n (i := 3) (L' := [some (.ref 0), some (.int p1), some (.int p2), some (.int (x3 + v3)), some (.int p4), some (.int x5)]) dX4_whyNotTightened_33 rfl (Nat.le_of_ble_eq_true rfl) rfl rfl ?_
      refine V.iinc (i := 5) (v := (x5 + 1)) (L' := [some (.ref 0), some (.int p1), some (.int p2), some (.int (x3 + v3)), some (.int p4), some (.int (x5 + 1))]) dX4_whyNotTightened_34 rfl rfl (Nat.le_of_ble_eq_true rfl) rfl rfl ?_
      refine V.goto (tgt := 13) dX4_whyNotTightened_37 (by decide) ?_
      exact ih hf hx
def s_X4_whyNotTightened (a1 : Int32) (a2 : Int32) (State_cells : Nat → Int32) : Option (Int32) := (s_X7_knots a1 a2 State_cells).bind fun v1 => (s_X4_whyNotTightened_L13 a1 a2 v1 State_cells gF 0 0).bind fun r4 => (s_X7_left a1 State_cells).bind fun v5 => if (r4.1 ≤ v5 : Prop) then (some 0) else (some 2)
set_option maxHeartbeats 4000000 in
set_option maxRecDepth 100000 in
theorem ct_X4_whyNotTightened {a1 : Int32} {a2 : Int32} {State_cells : Nat → Int32} {res : Int32} (hf : s_X4_whyNotTightened a1 a2 State_cells = some res) : Ct k_X4_whyNotTightened [.ref 0, .int a1, .int a2] [.inl (3, [.ref 1]), .inr (910, .inl State_cells)] (.inl (some (.int res))) [.inl (3, [.ref 1]), .inr (910, .inl State_cells)] := by
  unfold s_X4_whyNotTightened at hf
  refine Ct.of (L := [some (.ref 0), some (.int a1), some (.int a2), none, none, none]) cal_X4_whyNotTightened (fent_pad (j := 3) rfl) (Nat.le_of_ble_eq_true rfl) ?_
  refine V.iconst (v := 0) dX4_whyNotTightened_0 rfl ?_
  refine V.istore_n (i := 3) (L' := [some (.ref 0), some (.int a1), some (.int a2), some (.int 0), none, none]) dX4_whyNotTightened_1 rfl (Nat.le_of_ble_eq_true rfl) rfl rfl ?_
  refine V.aload_n (i := 0) dX4_whyNotTightened_2 rfl rfl ?_
  refine V.iload_n (i := 1) dX4_whyNotTightened_3 rfl rfl ?_
  refine V.iload_n (i := 2) dX4_whyNotTightened_4 rfl rfl ?_
  obtain ⟨v1, hv1, hf⟩ := fbind hf
  refine V.callVn (pl := [0, 1]) (σ' := [.inl (3, [.ref 1]), .inr (910, .inl State_cells)]) (st2 := [.int v1]) (cl2 := 0) (sl2 := 0) (ct_X7_knots (a1 := a1) (a2 := a2) (State_cells := State_cells) hv1) dX4_whyNotTightened_5 w364 ⟨w150, w151⟩ cal_X7_knots rfl ⟨⟨Nat.le_of_ble_eq_true rfl, Nat.le_of_ble_eq_true rfl⟩, Nat.le_of_ble_eq_true rfl, Nat.le_of_ble_eq_true rfl⟩ (Nat.le_of_ble_eq_true rfl) ⟨_, _, _, _, rfl, rfl⟩ rfl ⟨rfl, ⟨by decide, by decide⟩, rfl, (fr_cons (Or.inl (Nat.le_of_ble_eq_true rfl)) (fr_nil)), rfl⟩ fr_i rfl rfl rfl rfl ?_
  refine V.istore (i := 4) (L' := [some (.ref 0), some (.int a1), some (.int a2), some (.int 0), some (.int v1), none]) dX4_whyNotTightened_8 (Nat.le_of_ble_eq_true rfl) rfl rfl ?_
  refine V.iconst (v := 0) dX4_whyNotTightened_10 rfl ?_
  refine V.istore (i := 5) (L' := [some (.ref 0), some (.int a1), some (.int a2), some (.int 0), some (.int v1), some (.int 0)]) dX4_whyNotTightened_11 (Nat.le_of_ble_eq_true rfl) rfl rfl ?_
  obtain ⟨r4, hr4, hf⟩ := fbind hf
  refine v_X4_whyNotTightened_L13 gF hr4 ?_
  refine V.iload_n (i := 3) dX4_whyNotTightened_40 rfl rfl ?_
  refine V.aload_n (i := 0) dX4_whyNotTightened_41 rfl rfl ?_
  refine V.iload_n (i := 1) dX4_whyNotTightened_42 rfl rfl ?_
  obtain ⟨v5, hv5, hf⟩ := fbind hf
  refine V.callVn (pl := [0, 1]) (σ' := [.inl (3, [.ref 1]), .inr (910, .inl State_cells)]) (st2 := [.int v5, .int r4.1]) (cl2 := 0) (sl2 := 0) (ct_X7_left (a1 := a1) (State_cells := State_cells) hv5) dX4_whyNotTightened_43 w383 ⟨w272, w273⟩ cal_X7_left rfl ⟨⟨Nat.le_of_ble_eq_true rfl, Nat.le_of_ble_eq_true rfl⟩, Nat.le_of_ble_eq_true rfl, Nat.le_of_ble_eq_true rfl⟩ (Nat.le_of_ble_eq_true rfl) ⟨_, _, _, _, rfl, rfl⟩ rfl ⟨rfl, ⟨by decide, by decide⟩, rfl, (fr_cons (Or.inl (Nat.le_of_ble_eq_true rfl)) (fr_nil)), rfl⟩ fr_i rfl rfl rfl rfl ?_
  refine V.icmp_le (tgt := 53) dX4_whyNotTightened_46 (by decide) (fun h => ?_) (fun h => ?_)
  · have hf := fif_t h hf
    refine V.iconst (v := 0) dX4_whyNotTightened_53 rfl ?_
    obtain rfl := Option.some.inj hf
    exact V.iret dX4_whyNotTightened_54 rfl (Nat.le_of_ble_eq_true rfl) (Nat.le_of_ble_eq_true rfl) rfl
  · have hf := fif_f h hf
    refine V.iconst (v := 2) dX4_whyNotTightened_49 rfl ?_
    refine V.goto (tgt := 54) dX4_whyNotTightened_50 (by decide) ?_
    obtain rfl := Option.some.inj hf
    exact V.iret dX4_whyNotTightened_54 rfl (Nat.le_of_ble_eq_true rfl) (Nat.le_of_ble_eq_true rfl) rfl
def k_X4_tighten : fK := (yX4_tighten, cX4_tighten, 7, (some .int), [], (2, 47), (0, 0), (0, 0))
theorem cal_X4_tighten : fCal k_X4_tighten 3 := ⟨⟨wc674, w20⟩, ⟨by decide +kernel, by decide +kernel⟩, by decide +kernel, by decide +kernel⟩
def s_X4_tighten_L13 (p1 : Int32) (p2 : Int32) (p4 : Int32) : Nat → Int32 → Int32 → (Nat → Int32) → Option (Int32 × Int32 × (Nat → Int32))
  | 0, _, _, _ => none
  | n + 1, x3, x5, State_cells => if (p4 ≤ x5 : Prop) then (some (x3, x5, State_cells)) else ((s_X7_knotCell p1 p2 x5).bind fun v2 => (s_X7_at (v2 + 1) State_cells).bind fun v3 => if (v3 = 1 : Prop) then ((s_X4_cordToTighten v2 State_cells).bind fun v4 => (s_X7_add 4 v4 State_cells).bind fun v5 => (s_X7_readsAs p1 p2 x5 v5).bind fun v6 => (s_X7_put (v2 + 0) v6 v5).bind fun v7 => (s_X7_put (v2 + 1) 0 v7).bind fun v8 => s_X4_tighten_L13 p1 p2 p4 n (x3 + 1) (x5 + 1) v8) else (s_X4_tighten_L13 p1 p2 p4 n x3 (x5 + 1) State_cells))
set_option maxHeartbeats 4000000 in
set_option maxRecDepth 100000 in
theorem v_X4_tighten_L13 {out : fO} {σ' : List fE} {p1 : Int32} {p2 : Int32} {p4 : Int32} : ∀ (n : Nat) {x3 : Int32} {x5 : Int32} {State_cells : (Nat → Int32)} {res : Int32 × Int32 × (Nat → Int32)} (hf : s_X4_tighten_L13 p1 p2 p4 n x3 x5 State_cells = some res) (hx : V (fXm 2 k_X4_tighten out σ') (krm k_X4_tighten) k_X4_tighten 2 86 [some (.ref 0), some (.int p1), some (.int p2), some (.int res.1), some (.int p4), some (.int res.2.1), none] [] [.inl (3, [.ref 1]), .inr (910, .inl res.2.2)] 0 0), V (fXm 2 k_X4_tighten out σ') (krm k_X4_tighten) k_X4_tighten 2 13 [some (.ref 0), some (.int p1), some (.int p2), some (.int x3), some (.int p4), some (.int x5), none] [] [.inl (3, [.ref 1]), .inr (910, .inl State_cells)] 0 0 := by
  intro n
  induction n with
  | zero =>
    intro x3 x5 State_cells res hf hx
    rw [s_X4_tighten_L13] at hf
    cases hf
  | succ n ih =>
    intro x3 x5 State_cells res hf hx
    rw [s_X4_tighten_L13] at hf
    refine V.iload (i := 5) dX4_tighten_13 rfl ?_
    refine V.iload (i := 4) dX4_tighten_15 rfl ?_
    refine V.icmp_ge (tgt := 86) dX4_tighten_17 (by decide) (fun h => ?_) (fun h => ?_)
    · have hf := fif_t h hf
      obtain rfl := Option.some.inj hf
      exact hx
    · have hf := fif_f h hf
      refine V.iload_n (i := 1) dX4_tighten_20 rfl rfl ?_
      refine V.iload_n (i := 2) dX4_tighten_21 rfl rfl ?_
      refine V.iload (i := 5) dX4_tighten_22 rfl ?_
      obtain ⟨v2, hv2, hf⟩ := fbind hf
      refine V.callSn (pl := []) (σ' := [.inl (3, [.ref 1]), .inr (910, .inl State_cells)]) (st2 := [.int v2]) (cl2 := 0) (sl2 := 0) (ct_X7_knotCell (a0 := p1) (a1 := p2) (a2 := x5) hv2) dX4_tighten_24 w567 w157 cal_X7_knotCell ⟨⟨Nat.le_of_ble_eq_true rfl, Nat.le_of_ble_eq_true rfl⟩, Nat.le_of_ble_eq_true rfl, Nat.le_of_ble_eq_true rfl⟩ (Nat.le_of_ble_eq_true rfl) rfl ⟨rfl, ⟨by decide, by decide⟩, rfl, (fr_nil), rfl⟩ fr_i rfl rfl rfl rfl ?_
      refine V.istore (i := 6) (L' := [some (.ref 0), some (.int p1), some (.int p2), some (.int x3), some (.int p4), some (.int x5), some (.int v2)]) dX4_tighten_27 (Nat.le_of_ble_eq_true rfl) rfl rfl ?_
      refine V.aload_n (i := 0) dX4_tighten_29 rfl rfl ?_
      refine V.iload (i := 6) dX4_tighten_30 rfl ?_
      refine V.iconst (v := 1) dX4_tighten_32 rfl ?_
      refine V.iadd dX4_tighten_33 ?_
      obtain ⟨v3, hv3, hf⟩ := fbind hf
      refine V.callVn (pl := [0, 1]) (σ' := [.inl (3, [.ref 1]), .inr (910, .inl State_cells)]) (st2 := [.int v3]) (cl2 := 0) (sl2 := 0) (ct_X7_at (a1 := (v2 + 1)) (State_cells := State_cells) hv3) dX4_tighten_34 w668 ⟨w143, w144⟩ cal_X7_at rfl ⟨⟨Nat.le_of_ble_eq_true rfl, Nat.le_of_ble_eq_true rfl⟩, Nat.le_of_ble_eq_true rfl, Nat.le_of_ble_eq_true rfl⟩ (Nat.le_of_ble_eq_true rfl) ⟨_, _, _, _, rfl, rfl⟩ rfl ⟨rfl, ⟨by decide, by decide⟩, rfl, (fr_cons (Or.inl (Nat.le_of_ble_eq_true rfl)) (fr_nil)), rfl⟩ fr_i rfl rfl rfl rfl ?_
      refine V.iconst (v := 1) dX4_tighten_37 rfl ?_
      refine V.icmp_ne (tgt := 80) dX4_tighten_38 (by decide) (fun h => ?_) (fun h => ?_)
      · have hf := fif_f h hf
        refine V.iinc (i := 5) (v := (x5 + 1)) (L' := [some (.ref 0), some (.int p1), some (.int p2), some (.int x3), some (.int p4), some (.int (x5 + 1)), some (.int v2)]) dX4_tighten_80 rfl rfl (Nat.le_of_ble_eq_true rfl) rfl rfl ?_
        refine V.goto (tgt := 13) dX4_tighten_83 (by decide) ?_
        exact V.locs (L' := [some (.ref 0), some (.int p1), some (.int p2), some (.int x3), some (.int p4), some (.int (x5 + 1)), none]) ⟨rfl, ⟨rfl, ⟨rfl, ⟨rfl, ⟨rfl, ⟨rfl, trivial⟩⟩⟩⟩⟩⟩ (ih hf hx)
      · have hf := fif_t h hf
        refine V.aload_n (i := 0) dX4_tighten_41 rfl rfl ?_
        refine V.iconst (v := 4) dX4_tighten_42 rfl ?_
        refine V.aload_n (i := 0) dX4_tighten_43 rfl rfl ?_
        refine V.iload (i := 6) dX4_tighten_44 rfl ?_
        obtain ⟨v4, hv4, hf⟩ := fbind hf
        refine V.callSn (pl := [0, 1]) (σ' := [.inl (3, [.ref 1]), .inr (910, .inl State_cells)]) (st2 := [.int v4, .int 4, .ref 0]) (cl2 := 0) (sl2 := 0) (ct_X4_cordToTighten (a1 := v2) (State_cells := State_cells) hv4) dX4_tighten_46 w665 w666 cal_X4_cordToTighten ⟨⟨Nat.le_of_ble_eq_true rfl, Nat.le_of_ble_eq_true rfl⟩, Nat.le_of_ble_eq_true rfl, Nat.le_of_ble_eq_true rfl⟩ (Nat.le_of_ble_eq_true rfl) rfl ⟨rfl, ⟨by decide, by decide⟩, rfl, (fr_cons (Or.inl (Nat.le_of_ble_eq_true rfl)) (fr_nil)), rfl⟩ fr_i rfl rfl rfl rfl ?_
        obtain ⟨v5, hv5, hf⟩ := fbind hf
        refine V.callVn (pl := [0, 1]) (σ' := [.inl (3, [.ref 1]), .inr (910, .inl v5)]) (st2 := []) (cl2 := 0) (sl2 := 0) (ct_X7_add (a1 := 4) (a2 := v4) (State_cells := State_cells) hv5) dX4_tighten_49 w569 ⟨w570, w571⟩ cal_X7_add rfl ⟨⟨Nat.le_of_ble_eq_true rfl, Nat.le_of_ble_eq_true rfl⟩, Nat.le_of_ble_eq_true rfl, Nat.le_of_ble_eq_true rfl⟩ (Nat.le_of_ble_eq_true rfl) ⟨_, _, _, _, rfl, rfl⟩ rfl ⟨rfl, ⟨by decide, by decide⟩, rfl, (fr_cons (Or.inl (Nat.le_of_ble_eq_true rfl)) (fr_nil)), rfl⟩ fr_v rfl rfl rfl rfl ?_
        refine V.aload_n (i := 0) dX4_tighten_52 rfl rfl ?_
        refine V.iload (i := 6) dX4_tighten_53 rfl ?_
        refine V.iconst (v := 0) dX4_tighten_55 rfl ?_
        refine V.iadd dX4_tighten_56 ?_
        refine V.aload_n (i := 0) dX4_tighten_57 rfl rfl ?_
        refine V.iload_n (i := 1) dX4_tighten_58 rfl rfl ?_
        refine V.iload_n (i := 2) dX4_tighten_59 rfl rfl ?_
        refine V.iload (i := 5) dX4_tighten_60 rfl ?_
        obtain ⟨v6, hv6, hf⟩ := fbind hf
        refine V.callVn (pl := [0, 1]) (σ' := [.inl (3, [.ref 1]), .inr (910, .inl v5)]) (st2 := [.int v6, .int (v2 + 0), .ref 0]) (cl2 := 0) (sl2 := 0) (ct_X7_readsAs (a1 := p1) (a2 := p2) (a3 := x5) (State_cells := v5) hv6) dX4_tighten_62 w365 ⟨w329, w330⟩ cal_X7_readsAs rfl ⟨⟨Nat.le_of_ble_eq_true rfl, Nat.le_of_ble_eq_true rfl⟩, Nat.le_of_ble_eq_true rfl, Nat.le_of_ble_eq_true rfl⟩ (Nat.le_of_ble_eq_true rfl) ⟨_, _, _, _, rfl, rfl⟩ rfl ⟨rfl, ⟨by decide, by decide⟩, rfl, (fr_cons (Or.inl (Nat.le_of_ble_eq_true rfl)) (fr_nil)), rfl⟩ fr_i rfl rfl rfl rfl ?_
        obtain ⟨v7, hv7, hf⟩ := fbind hf
        refine V.callVn (pl := [0, 1]) (σ' := [.inl (3, [.ref 1]), .inr (910, .inl v7)]) (st2 := []) (cl2 := 0) (sl2 := 0) (ct_X7_put (a1 := (v2 + 0)) (a2 := v6) (State_cells := v5) hv7) dX4_tighten_65 w566 ⟨w38, w39⟩ cal_X7_put rfl ⟨⟨Nat.le_of_ble_eq_true rfl, Nat.le_of_ble_eq_true rfl⟩, Nat.le_of_ble_eq_true rfl, Nat.le_of_ble_eq_true rfl⟩ (Nat.le_of_ble_eq_true rfl) ⟨_, _, _, _, rfl, rfl⟩ rfl ⟨rfl, ⟨by decide, by decide⟩, rfl, (fr_cons (Or.inl (Nat.le_of_ble_eq_true rfl)) (fr_nil)), rfl⟩ fr_v rfl rfl rfl rfl ?_
        refine V.aload_n (i := 0) dX4_tighten_68 rfl rfl ?_
        refine V.iload (i := 6) dX4_tighten_69 rfl ?_
        refine V.iconst (v := 1) dX4_tighten_71 rfl ?_
        refine V.iadd dX4_tighten_72 ?_
        refine V.iconst (v := 0) dX4_tighten_73 rfl ?_
        obtain ⟨v8, hv8, hf⟩ := fbind hf
        refine V.callVn (pl := [0, 1]) (σ' := [.inl (3, [.ref 1]), .inr (910, .inl v8)]) (st2 := []) (cl2 := 0) (sl2 := 0) (ct_X7_put (a1 := (v2 + 1)) (a2 := 0) (State_cells := v7) hv8) dX4_tighten_74 w566 ⟨w38, w39⟩ cal_X7_put rfl ⟨⟨Nat.le_of_ble_eq_true rfl, Nat.le_of_ble_eq_true rfl⟩, Nat.le_of_ble_eq_true rfl, Nat.le_of_ble_eq_true rfl⟩ (Nat.le_of_ble_eq_true rfl) ⟨_, _, _, _, rfl, rfl⟩ rfl ⟨rfl, ⟨by decide, by decide⟩, rfl, (fr_cons (Or.inl (Nat.le_of_ble_eq_true rfl)) (fr_nil)), rfl⟩ fr_v rfl rfl rfl rfl ?_
        refine V.iinc (i := 3) (v := (x3 + 1)) (L' := [some (.ref 0), some (.int p1), some (.int p2), some (.int (x3 + 1)), some (.int p4), some (.int x5), some (.int v2)]) dX4_tighten_77 rfl rfl (Nat.le_of_ble_eq_true rfl) rfl rfl ?_
        refine V.iinc (i := 5) (v := (x5 + 1)) (L' := [some (.ref 0), some (.int p1), some (.int p2), some (.int (x3 + 1)), some (.int p4), some (.int (x5 + 1)), some (.int v2)]) dX4_tighten_80 rfl rfl (Nat.le_of_ble_eq_true rfl) rfl rfl ?_
        refine V.goto (tgt := 13) dX4_tighten_83 (by decide) ?_
        exact V.locs (L' := [some (.ref 0), some (.int p1), some (.int p2), some (.int (x3 + 1)), some (.int p4), some (.int (x5 + 1)), none]) ⟨rfl, ⟨rfl, ⟨rfl, ⟨rfl, ⟨rfl, ⟨rfl, trivial⟩⟩⟩⟩⟩⟩ (ih hf hx)
def s_X4_tighten (a1 : Int32) (a2 : Int32) (State_cells : Nat → Int32) : Option (Int32 × (Nat → Int32)) := (s_X7_knots a1 a2 State_cells).bind fun v1 => (s_X4_tighten_L13 a1 a2 v1 gF 0 0 State_cells).bind fun r9 => some (r9.1, r9.2.2)
set_option maxHeartbeats 4000000 in
set_option maxRecDepth 100000 in
theorem ct_X4_tighten {a1 : Int32} {a2 : Int32} {State_cells : Nat → Int32} {res : Int32 × (Nat → Int32)} (hf : s_X4_tighten a1 a2 State_cells = some res) : Ct k_X4_tighten [.ref 0, .int a1, .int a2] [.inl (3, [.ref 1]), .inr (910, .inl State_cells)] (.inl (some (.int res.1))) [.inl (3, [.ref 1]), .inr (910, .inl res.2)] := by
  unfold s_X4_tighten at hf
  refine Ct.of (L := [some (.ref 0), some (.int a1), some (.int a2), none, none, none, none]) cal_X4_tighten (fent_pad (j := 4) rfl) (Nat.le_of_ble_eq_true rfl) ?_
  refine V.iconst (v := 0) dX4_tighten_0 rfl ?_
  refine V.istore_n (i := 3) (L' := [some (.ref 0), some (.int a1), some (.int a2), some (.int 0), none, none, none]) dX4_tighten_1 rfl (Nat.le_of_ble_eq_true rfl) rfl rfl ?_
  refine V.aload_n (i := 0) dX4_tighten_2 rfl rfl ?_
  refine V.iload_n (i := 1) dX4_tighten_3 rfl rfl ?_
  refine V.iload_n (i := 2) dX4_tighten_4 rfl rfl ?_
  obtain ⟨v1, hv1, hf⟩ := fbind hf
  refine V.callVn (pl := [0, 1]) (σ' := [.inl (3, [.ref 1]), .inr (910, .inl State_cells)]) (st2 := [.int v1]) (cl2 := 0) (sl2 := 0) (ct_X7_knots (a1 := a1) (a2 := a2) (State_cells := State_cells) hv1) dX4_tighten_5 w364 ⟨w150, w151⟩ cal_X7_knots rfl ⟨⟨Nat.le_of_ble_eq_true rfl, Nat.le_of_ble_eq_true rfl⟩, Nat.le_of_ble_eq_true rfl, Nat.le_of_ble_eq_true rfl⟩ (Nat.le_of_ble_eq_true rfl) ⟨_, _, _, _, rfl, rfl⟩ rfl ⟨rfl, ⟨by decide, by decide⟩, rfl, (fr_cons (Or.inl (Nat.le_of_ble_eq_true rfl)) (fr_nil)), rfl⟩ fr_i rfl rfl rfl rfl ?_
  refine V.istore (i := 4) (L' := [some (.ref 0), some (.int a1), some (.int a2), some (.int 0), some (.int v1), none, none]) dX4_tighten_8 (Nat.le_of_ble_eq_true rfl) rfl rfl ?_
  refine V.iconst (v := 0) dX4_tighten_10 rfl ?_
  refine V.istore (i := 5) (L' := [some (.ref 0), some (.int a1), some (.int a2), some (.int 0), some (.int v1), some (.int 0), none]) dX4_tighten_11 (Nat.le_of_ble_eq_true rfl) rfl rfl ?_
  obtain ⟨r9, hr9, hf⟩ := fbind hf
  refine v_X4_tighten_L13 gF hr9 ?_
  refine V.iload_n (i := 3) dX4_tighten_86 rfl rfl ?_
  obtain rfl := Option.some.inj hf
  exact V.iret dX4_tighten_87 rfl (Nat.le_of_ble_eq_true rfl) (Nat.le_of_ble_eq_true rfl) rfl
def k_X4_whyNotGiven : fK := (yX4_whyNotGiven, cX4_whyNotGiven, 8, (some .int), [], (4, 97), (0, 0), (0, 0))
theorem cal_X4_whyNotGiven : fCal k_X4_whyNotGiven 5 := ⟨⟨wc359, w20⟩, ⟨by decide +kernel, by decide +kernel⟩, by decide +kernel, by decide +kernel⟩
def s_X4_whyNotGiven_L23 (p2 : Int32) (p3 : Int32) (p5 : Int32) (State_cells : Nat → Int32) : Nat → Int32 → (Int32) → (Nat → Int32) → Option ((Int32 × (Int32) × (Nat → Int32)) ⊕ (Int32 × (Int32) × (Nat → Int32)))
  | 0, _, _, _ => none
  | n + 1, x6, Word_size, Word_letters => if (p5 ≤ x6 : Prop) then (some (.inr (x6, Word_size, Word_letters))) else ((s_X7_readsAs p2 p3 x6 State_cells).bind fun v3 => if (v3 = 16 : Prop) then (some (.inl (4, Word_size, Word_letters))) else ((s_X9_add v3 Word_size Word_letters).bind fun v4 => s_X4_whyNotGiven_L23 p2 p3 p5 State_cells n (x6 + 1) v4.1 v4.2))
set_option maxHeartbeats 4000000 in
set_option maxRecDepth 100000 in
theorem v_X4_whyNotGiven_L23 {out : fO} {σ' : List fE} {p2 : Int32} {p3 : Int32} {p4 : Int32} {p5 : Int32} {State_cells : Nat → Int32} : ∀ (n : Nat) {x6 : Int32} {Word_size : (Int32)} {Word_letters : (Nat → Int32)} {res : (Int32 × (Int32) × (Nat → Int32)) ⊕ (Int32 × (Int32) × (Nat → Int32))} (hf : s_X4_whyNotGiven_L23 p2 p3 p5 State_cells n x6 Word_size Word_letters = some res) (hr : ∀ r, res = .inl r → out = (.inl (some (.int r.1))) ∧ σ' = [.inl (3, [.ref 1]), .inr (910, .inl State_cells), .inl (4, [.ref 3, .int r.2.1]), .inr (8, .inl r.2.2)]) (hx : ∀ e, res = .inr e → V (fXm 4 k_X4_whyNotGiven out σ') (krm k_X4_whyNotGiven) k_X4_whyNotGiven 4 61 [some (.ref 0), some (.ref 2), some (.int p2), some (.int p3), some (.int p4), some (.int p5), some (.int e.1), none] [] [.inl (3, [.ref 1]), .inr (910, .inl State_cells), .inl (4, [.ref 3, .int e.2.1]), .inr (8, .inl e.2.2)] 0 0), V (fXm 4 k_X4_whyNotGiven out σ') (krm k_X4_whyNotGiven) k_X4_whyNotGiven 4 23 [some (.ref 0), some (.ref 2), some (.int p2), some (.int p3), some (.int p4), some (.int p5), some (.int x6), none] [] [.inl (3, [.ref 1]), .inr (910, .inl State_cells), .inl (4, [.ref 3, .int Word_size]), .inr (8, .inl Word_letters)] 0 0 := by
  intro n
  induction n with
  | zero =>
    intro x6 Word_size Word_letters res hf hr hx
    rw [s_X4_whyNotGiven_L23] at hf
    cases hf
  | succ n ih =>
    intro x6 Word_size Word_letters res hf hr hx
    rw [s_X4_whyNotGiven_L23] at hf
    refine V.iload (i := 6) dX4_whyNotGiven_23 rfl ?_
    refine V.iload (i := 5) dX4_whyNotGiven_25 rfl ?_
    refine V.icmp_ge (tgt := 61) dX4_whyNotGiven_27 (by decide) (fun h => ?_) (fun h => ?_)
    · have hf := fif_t h hf
      obtain rfl := Option.some.inj hf
      exact hx _ rfl
    · have hf := fif_f h hf
      refine V.aload_n (i := 0) dX4_whyNotGiven_30 rfl rfl ?_
      refine V.iload_n (i := 2) dX4_whyNotGiven_31 rfl rfl ?_
      refine V.iload_n (i := 3) dX4_whyNotGiven_32 rfl rfl ?_
      refine V.iload (i := 6) dX4_whyNotGiven_33 rfl ?_
      obtain ⟨v3, hv3, hf⟩ := fbind hf
      refine V.callVn (pl := [0, 1]) (σ' := [.inl (3, [.ref 1]), .inr (910, .inl State_cells), .inl (4, [.ref 3, .int Word_size]), .inr (8, .inl Word_letters)]) (st2 := [.int v3]) (cl2 := 0) (sl2 := 0) (ct_X7_readsAs (a1 := p2) (a2 := p3) (a3 := x6) (State_cells := State_cells) hv3) dX4_whyNotGiven_35 w365 ⟨w329, w330⟩ cal_X7_readsAs rfl ⟨⟨Nat.le_of_ble_eq_true rfl, Nat.le_of_ble_eq_true rfl⟩, Nat.le_of_ble_eq_true rfl, Nat.le_of_ble_eq_true rfl⟩ (Nat.le_of_ble_eq_true rfl) ⟨_, _, _, _, rfl, rfl⟩ rfl ⟨rfl, ⟨by decide, by decide⟩, rfl, (fr_cons (Or.inl (Nat.le_of_ble_eq_true rfl)) (fr_nil)), rfl⟩ fr_i rfl rfl rfl rfl ?_
      refine V.istore (i := 7) (L' := [some (.ref 0), some (.ref 2), some (.int p2), some (.int p3), some (.int p4), some (.int p5), some (.int x6), some (.int v3)]) dX4_whyNotGiven_38 (Nat.le_of_ble_eq_true rfl) rfl rfl ?_
      refine V.iload (i := 7) dX4_whyNotGiven_40 rfl ?_
      refine V.bipush (v := 16) dX4_whyNotGiven_42 rfl ?_
      refine V.icmp_ne (tgt := 49) dX4_whyNotGiven_44 (by decide) (fun h => ?_) (fun h => ?_)
      · have hf := fif_f h hf
        refine V.aload_n (i := 1) dX4_whyNotGiven_49 rfl rfl ?_
        refine V.iload (i := 7) dX4_whyNotGiven_50 rfl ?_
        obtain ⟨v4, hv4, hf⟩ := fbind hf
        refine V.callVn (pl := [2, 3]) (σ' := [.inl (3, [.ref 1]), .inr (910, .inl State_cells), .inl (4, [.ref 3, .int v4.1]), .inr (8, .inl v4.2)]) (st2 := []) (cl2 := 0) (sl2 := 0) (ct_X9_add (a1 := v3) (Word_size := Word_size) (Word_letters := Word_letters) hv4) dX4_whyNotGiven_52 w366 ⟨w367, w368⟩ cal_X9_add rfl ⟨⟨Nat.le_of_ble_eq_true rfl, Nat.le_of_ble_eq_true rfl⟩, Nat.le_of_ble_eq_true rfl, Nat.le_of_ble_eq_true rfl⟩ (Nat.le_of_ble_eq_true rfl) ⟨_, _, _, _, rfl, rfl⟩ rfl ⟨rfl, ⟨by decide, by decide⟩, rfl, (fr_cons (Or.inl (Nat.le_of_ble_eq_true rfl)) (fr_nil)), rfl⟩ fr_v rfl rfl rfl rfl ?_
        refine V.iinc (i := 6) (v := (x6 + 1)) (L' := [some (.ref 0), some (.ref 2), some (.int p2), some (.int p3), some (.int p4), some (.int p5), some (.int (x6 + 1)), some (.int v3)]) dX4_whyNotGiven_55 rfl rfl (Nat.le_of_ble_eq_true rfl) rfl rfl ?_
        refine V.goto (tgt := 23) dX4_whyNotGiven_58 (by decide) ?_
        exact V.locs (L' := [some (.ref 0), some (.ref 2), some (.int p2), some (.int p3), some (.int p4), some (.int p5), some (.int (x6 + 1)), none]) ⟨rfl, ⟨rfl, ⟨rfl, ⟨rfl, ⟨rfl, ⟨rfl, ⟨rfl, trivial⟩⟩⟩⟩⟩⟩⟩ (ih hf hr hx)
      · have hf := fif_t h hf
        refine V.iconst (v := 4) dX4_whyNotGiven_47 rfl ?_
        obtain rfl := Option.some.inj hf
        obtain ⟨e1, e2⟩ := hr _ rfl
        subst e1; subst e2
        exact V.iret dX4_whyNotGiven_48 rfl (Nat.le_of_ble_eq_true rfl) (Nat.le_of_ble_eq_true rfl) rfl
def s_X4_whyNotGiven (a2 : Int32) (a3 : Int32) (a4 : Int32) (State_cells : Nat → Int32) (Word_size : Int32) (Word_letters : Nat → Int32) : Option (Int32 × (Int32) × (Nat → Int32)) := if (a2 = a4 : Prop) then (some (5, Word_size, Word_letters)) else ((s_X9_empty Word_size).bind fun v1 => (s_X7_knots a2 a3 State_cells).bind fun v2 => (s_X4_whyNotGiven_L23 a2 a3 v2 State_cells gF 0 v1 Word_letters).bind fun r5 => fsum r5 (fun r9 => some r9) (fun e6 => (s_X4_whyNotTied a4 State_cells e6.2.1 e6.2.2).bind fun v7 => some (v7, e6.2.1, e6.2.2)))
set_option maxHeartbeats 4000000 in
set_option maxRecDepth 100000 in
theorem ct_X4_whyNotGiven {a2 : Int32} {a3 : Int32} {a4 : Int32} {State_cells : Nat → Int32} {Word_size : Int32} {Word_letters : Nat → Int32} {res : Int32 × (Int32) × (Nat → Int32)} (hf : s_X4_whyNotGiven a2 a3 a4 State_cells Word_size Word_letters = some res) : Ct k_X4_whyNotGiven [.ref 0, .ref 2, .int a2, .int a3, .int a4] [.inl (3, [.ref 1]), .inr (910, .inl State_cells), .inl (4, [.ref 3, .int Word_size]), .inr (8, .inl Word_letters)] (.inl (some (.int res.1))) [.inl (3, [.ref 1]), .inr (910, .inl State_cells), .inl (4, [.ref 3, .int res.2.1]), .inr (8, .inl res.2.2)] := by
  unfold s_X4_whyNotGiven at hf
  refine Ct.of (L := [some (.ref 0), some (.ref 2), some (.int a2), some (.int a3), some (.int a4), none, none, none]) cal_X4_whyNotGiven (fent_pad (j := 3) rfl) (Nat.le_of_ble_eq_true rfl) ?_
  refine V.iload_n (i := 2) dX4_whyNotGiven_0 rfl rfl ?_
  refine V.iload (i := 4) dX4_whyNotGiven_1 rfl ?_
  refine V.icmp_ne (tgt := 8) dX4_whyNotGiven_3 (by decide) (fun h => ?_) (fun h => ?_)
  · have hf := fif_f h hf
    refine V.aload_n (i := 1) dX4_whyNotGiven_8 rfl rfl ?_
    obtain ⟨v1, hv1, hf⟩ := fbind hf
    refine V.callVn (pl := [2, 3]) (σ' := [.inl (3, [.ref 1]), .inr (910, .inl State_cells), .inl (4, [.ref 3, .int v1]), .inr (8, .inl Word_letters)]) (st2 := []) (cl2 := 0) (sl2 := 0) (ct_X9_empty (Word_size := Word_size) (Word_letters := Word_letters) hv1) dX4_whyNotGiven_9 w360 ⟨w361, w362⟩ cal_X9_empty rfl ⟨⟨Nat.le_of_ble_eq_true rfl, Nat.le_of_ble_eq_true rfl⟩, Nat.le_of_ble_eq_true rfl, Nat.le_of_ble_eq_true rfl⟩ (Nat.le_of_ble_eq_true rfl) ⟨_, _, _, _, rfl, rfl⟩ rfl ⟨rfl, ⟨by decide, by decide⟩, rfl, (fr_cons (Or.inl (Nat.le_of_ble_eq_true rfl)) (fr_nil)), rfl⟩ fr_v rfl rfl rfl rfl ?_
    refine V.aload_n (i := 0) dX4_whyNotGiven_12 rfl rfl ?_
    refine V.iload_n (i := 2) dX4_whyNotGiven_13 rfl rfl ?_
    refine V.iload_n (i := 3) dX4_whyNotGiven_14 rfl rfl ?_
    obtain ⟨v2, hv2, hf⟩ := fbind hf
    refine V.callVn (pl := [0, 1]) (σ' := [.inl (3, [.ref 1]), .inr (910, .inl State_cells), .inl (4, [.ref 3, .int v1]), .inr (8, .inl Word_letters)]) (st2 := [.int v2]) (cl2 := 0) (sl2 := 0) (ct_X7_knots (a1 := a2) (a2 := a3) (State_cells := State_cells) hv2) dX4_whyNotGiven_15 w364 ⟨w150, w151⟩ cal_X7_knots rfl ⟨⟨Nat.le_of_ble_eq_true rfl, Nat.le_of_ble_eq_true rfl⟩, Nat.le_of_ble_eq_true rfl, Nat.le_of_ble_eq_true rfl⟩ (Nat.le_of_ble_eq_true rfl) ⟨_, _, _, _, rfl, rfl⟩ rfl ⟨rfl, ⟨by decide, by decide⟩, rfl, (fr_cons (Or.inl (Nat.le_of_ble_eq_true rfl)) (fr_nil)), rfl⟩ fr_i rfl rfl rfl rfl ?_
    refine V.istore (i := 5) (L' := [some (.ref 0), some (.ref 2), some (.int a2), some (.int a3), some (.int a4), some (.int v2), none, none]) dX4_whyNotGiven_18 (Nat.le_of_ble_eq_true rfl) rfl rfl ?_
    refine V.iconst (v := 0) dX4_whyNotGiven_20 rfl ?_
    refine V.istore (i := 6) (L' := [some (.ref 0), some (.ref 2), some (.int a2), some (.int a3), some (.int a4), some (.int v2), some (.int 0), none]) dX4_whyNotGiven_21 (Nat.le_of_ble_eq_true rfl) rfl rfl ?_
    obtain ⟨r5, hr5, hf⟩ := fbind hf
    rcases r5 with r9 | e6
    · obtain rfl := Option.some.inj (show some _ = some res from hf)
      exact v_X4_whyNotGiven_L23 gF hr5 (fun _ h => by cases h; exact ⟨rfl, rfl⟩) (fun _ h => by cases h)
    · replace hf : _ = some res := hf
      dsimp only [fsum] at hf
      refine v_X4_whyNotGiven_L23 gF hr5 (fun _ h => by cases h) (fun _ h => ?_)
      cases h
      refine V.aload_n (i := 0) dX4_whyNotGiven_61 rfl rfl ?_
      refine V.aload_n (i := 1) dX4_whyNotGiven_62 rfl rfl ?_
      refine V.iload (i := 4) dX4_whyNotGiven_63 rfl ?_
      obtain ⟨v7, hv7, hf⟩ := fbind hf
      refine V.callSn (pl := [0, 1, 2, 3]) (σ' := [.inl (3, [.ref 1]), .inr (910, .inl State_cells), .inl (4, [.ref 3, .int e6.2.1]), .inr (8, .inl e6.2.2)]) (st2 := [.int v7]) (cl2 := 0) (sl2 := 0) (ct_X4_whyNotTied (a2 := a4) (State_cells := State_cells) (Word_size := e6.2.1) (Word_letters := e6.2.2) hv7) dX4_whyNotGiven_65 w370 w371 cal_X4_whyNotTied ⟨⟨Nat.le_of_ble_eq_true rfl, Nat.le_of_ble_eq_true rfl⟩, Nat.le_of_ble_eq_true rfl, Nat.le_of_ble_eq_true rfl⟩ (Nat.le_of_ble_eq_true rfl) rfl ⟨rfl, ⟨by decide, by decide⟩, rfl, (fr_cons (Or.inl (Nat.le_of_ble_eq_true rfl)) (fr_cons (Or.inl (Nat.le_of_ble_eq_true rfl)) (fr_nil))), rfl⟩ fr_i rfl rfl rfl rfl ?_
      obtain rfl := Option.some.inj hf
      exact V.iret dX4_whyNotGiven_68 rfl (Nat.le_of_ble_eq_true rfl) (Nat.le_of_ble_eq_true rfl) rfl
  · have hf := fif_t h hf
    refine V.iconst (v := 5) dX4_whyNotGiven_6 rfl ?_
    obtain rfl := Option.some.inj hf
    exact V.iret dX4_whyNotGiven_7 rfl (Nat.le_of_ble_eq_true rfl) (Nat.le_of_ble_eq_true rfl) rfl
def k_X4_handOver : fK := (yX4_handOver, cX4_handOver, 5, (some .int), [], (3, 73), (0, 0), (0, 0))
theorem cal_X4_handOver : fCal k_X4_handOver 5 := ⟨⟨wc691, w20⟩, ⟨by decide +kernel, by decide +kernel⟩, by decide +kernel, by decide +kernel⟩
def s_X4_handOver (a2 : Int32) (a3 : Int32) (a4 : Int32) (State_cells : Nat → Int32) (Word_size : Int32) (Word_letters : Nat → Int32) : Option (Int32 × (Nat → Int32)) := (s_X4_takeOff a2 a3 State_cells).bind fun v1 => (s_X7_fisherCell a2 3).bind fun v2 => (s_X7_add v2 1 v1.2).bind fun v3 => (s_X4_tieOn a4 v3 Word_size Word_letters).bind fun v4 => some (v4.1, v4.2)
set_option maxHeartbeats 4000000 in
set_option maxRecDepth 100000 in
theorem ct_X4_handOver {a2 : Int32} {a3 : Int32} {a4 : Int32} {State_cells : Nat → Int32} {Word_size : Int32} {Word_letters : Nat → Int32} {res : Int32 × (Nat → Int32)} (hf : s_X4_handOver a2 a3 a4 State_cells Word_size Word_letters = some res) : Ct k_X4_handOver [.ref 0, .ref 2, .int a2, .int a3, .int a4] [.inl (3, [.ref 1]), .inr (910, .inl State_cells), .inl (4, [.ref 3, .int Word_size]), .inr (8, .inl Word_letters)] (.inl (some (.int res.1))) [.inl (3, [.ref 1]), .inr (910, .inl res.2), .inl (4, [.ref 3, .int Word_size]), .inr (8, .inl Word_letters)] := by
  unfold s_X4_handOver at hf
  refine Ct.of (L := [some (.ref 0), some (.ref 2), some (.int a2), some (.int a3), some (.int a4)]) cal_X4_handOver (fent_pad (j := 0) rfl) (Nat.le_of_ble_eq_true rfl) ?_
  refine V.aload_n (i := 0) dX4_handOver_0 rfl rfl ?_
  refine V.iload_n (i := 2) dX4_handOver_1 rfl rfl ?_
  refine V.iload_n (i := 3) dX4_handOver_2 rfl rfl ?_
  obtain ⟨v1, hv1, hf⟩ := fbind hf
  refine V.callSn (pl := [0, 1]) (σ' := [.inl (3, [.ref 1]), .inr (910, .inl v1.2), .inl (4, [.ref 3, .int Word_size]), .inr (8, .inl Word_letters)]) (st2 := [.int v1.1]) (cl2 := 0) (sl2 := 0) (ct_X4_takeOff (a1 := a2) (a2 := a3) (State_cells := State_cells) hv1) dX4_handOver_3 w692 w613 cal_X4_takeOff ⟨⟨Nat.le_of_ble_eq_true rfl, Nat.le_of_ble_eq_true rfl⟩, Nat.le_of_ble_eq_true rfl, Nat.le_of_ble_eq_true rfl⟩ (Nat.le_of_ble_eq_true rfl) rfl ⟨rfl, ⟨by decide, by decide⟩, rfl, (fr_cons (Or.inl (Nat.le_of_ble_eq_true rfl)) (fr_nil)), rfl⟩ fr_i rfl rfl rfl rfl ?_
  refine V.pop dX4_handOver_6 rfl ?_
  refine V.aload_n (i := 0) dX4_handOver_7 rfl rfl ?_
  refine V.iload_n (i := 2) dX4_handOver_8 rfl rfl ?_
  refine V.iconst (v := 3) dX4_handOver_9 rfl ?_
  obtain ⟨v2, hv2, hf⟩ := fbind hf
  refine V.callSn (pl := []) (σ' := [.inl (3, [.ref 1]), .inr (910, .inl v1.2), .inl (4, [.ref 3, .int Word_size]), .inr (8, .inl Word_letters)]) (st2 := [.int v2, .ref 0]) (cl2 := 0) (sl2 := 0) (ct_X7_fisherCell (a0 := a2) (a1 := 3) hv2) dX4_handOver_10 w568 w42 cal_X7_fisherCell ⟨⟨Nat.le_of_ble_eq_true rfl, Nat.le_of_ble_eq_true rfl⟩, Nat.le_of_ble_eq_true rfl, Nat.le_of_ble_eq_true rfl⟩ (Nat.le_of_ble_eq_true rfl) rfl ⟨rfl, ⟨by decide, by decide⟩, rfl, (fr_nil), rfl⟩ fr_i rfl rfl rfl rfl ?_
  refine V.iconst (v := 1) dX4_handOver_13 rfl ?_
  obtain ⟨v3, hv3, hf⟩ := fbind hf
  refine V.callVn (pl := [0, 1]) (σ' := [.inl (3, [.ref 1]), .inr (910, .inl v3), .inl (4, [.ref 3, .int Word_size]), .inr (8, .inl Word_letters)]) (st2 := []) (cl2 := 0) (sl2 := 0) (ct_X7_add (a1 := v2) (a2 := 1) (State_cells := v1.2) hv3) dX4_handOver_14 w569 ⟨w570, w571⟩ cal_X7_add rfl ⟨⟨Nat.le_of_ble_eq_true rfl, Nat.le_of_ble_eq_true rfl⟩, Nat.le_of_ble_eq_true rfl, Nat.le_of_ble_eq_true rfl⟩ (Nat.le_of_ble_eq_true rfl) ⟨_, _, _, _, rfl, rfl⟩ rfl ⟨rfl, ⟨by decide, by decide⟩, rfl, (fr_cons (Or.inl (Nat.le_of_ble_eq_true rfl)) (fr_nil)), rfl⟩ fr_v rfl rfl rfl rfl ?_
  refine V.aload_n (i := 0) dX4_handOver_17 rfl rfl ?_
  refine V.aload_n (i := 1) dX4_handOver_18 rfl rfl ?_
  refine V.iload (i := 4) dX4_handOver_19 rfl ?_
  obtain ⟨v4, hv4, hf⟩ := fbind hf
  refine V.callSn (pl := [0, 1, 2, 3]) (σ' := [.inl (3, [.ref 1]), .inr (910, .inl v4.2), .inl (4, [.ref 3, .int Word_size]), .inr (8, .inl Word_letters)]) (st2 := [.int v4.1]) (cl2 := 0) (sl2 := 0) (ct_X4_tieOn (a2 := a4) (State_cells := v3) (Word_size := Word_size) (Word_letters := Word_letters) hv4) dX4_handOver_21 w693 w563 cal_X4_tieOn ⟨⟨Nat.le_of_ble_eq_true rfl, Nat.le_of_ble_eq_true rfl⟩, Nat.le_of_ble_eq_true rfl, Nat.le_of_ble_eq_true rfl⟩ (Nat.le_of_ble_eq_true rfl) rfl ⟨rfl, ⟨by decide, by decide⟩, rfl, (fr_cons (Or.inl (Nat.le_of_ble_eq_true rfl)) (fr_cons (Or.inl (Nat.le_of_ble_eq_true rfl)) (fr_nil))), rfl⟩ fr_i rfl rfl rfl rfl ?_
  obtain rfl := Option.some.inj hf
  exact V.iret dX4_handOver_24 rfl (Nat.le_of_ble_eq_true rfl) (Nat.le_of_ble_eq_true rfl) rfl
