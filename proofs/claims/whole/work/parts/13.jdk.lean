/-! laid by program: shallow functions and contracts -/
def k_J3_checkIndex_8e157 : fK := (yJ3_checkIndex_8e157, cJ3_checkIndex_8e157, 3, (some .int), [], (0, 0), (0, 0), (0, 0))
theorem cal_J3_checkIndex_8e157 : fCal k_J3_checkIndex_8e157 3 := ⟨⟨wc257, w86⟩, ⟨by decide +kernel, by decide +kernel⟩, by decide +kernel, by decide +kernel⟩
def s_J3_checkIndex_8e157 (a0 a1 : Int32) : Option Int32 := if (a0 < 0 : Prop) then none else (if (a0 < a1 : Prop) then some a0 else none)
set_option maxHeartbeats 4000000 in
set_option maxRecDepth 100000 in
theorem ct_J3_checkIndex_8e157 {a0 a1 : Int32} {v : Value} (hv : v = .null ∨ v = .ref 4000) {res : Int32} (hf : s_J3_checkIndex_8e157 a0 a1 = some res) : Ct k_J3_checkIndex_8e157 [.int a0, .int a1, v] [] (.inl (some (.int res))) [] := by
  unfold s_J3_checkIndex_8e157 at hf
  have hl : (lg_sl ([Value.int a0, .int a1, v].map (ftr id))).length ≤ kn k_J3_checkIndex_8e157 := by rcases hv with rfl | rfl <;> exact Nat.le_of_ble_eq_true rfl
  refine Ct.of (L := [some (.int a0), some (.int a1)] ++ List.replicate (kn k_J3_checkIndex_8e157 - 2) none) cal_J3_checkIndex_8e157 ?_ hl ?_
  · intro i w hi
    match i, hi with
    | 0, hi => rcases hv with rfl | rfl <;> exact hi
    | 1, hi => rcases hv with rfl | rfl <;> exact hi
    | i + 2, hi =>
      rw [List.getElem?_append_right (by simp), List.getElem?_replicate] at hi
      split at hi <;> simp at hi
  refine V.iload_n (i := 0) dJ3_checkIndex_8e157_0 rfl rfl ?_
  refine V.if_lt (tgt := 9) dJ3_checkIndex_8e157_1 (by decide) (fun h => ?_) (fun h => ?_)
  · have hf := fif_t h hf
    cases hf
  have hf := fif_f h hf
  refine V.iload_n (i := 0) dJ3_checkIndex_8e157_4 rfl rfl ?_
  refine V.iload_n (i := 1) dJ3_checkIndex_8e157_5 rfl rfl ?_
  refine V.icmp_lt (tgt := 16) dJ3_checkIndex_8e157_6 (by decide) (fun h => ?_) (fun h => ?_)
  · have hf := fif_t h hf
    obtain rfl := Option.some.inj hf
    refine V.iload_n (i := 0) dJ3_checkIndex_8e157_16 rfl rfl ?_
    exact V.iret dJ3_checkIndex_8e157_17 rfl (Nat.le_of_ble_eq_true rfl) (Nat.le_of_ble_eq_true rfl) rfl
  · have hf := fif_f h hf
    cases hf
def k_J0_checkIndex_df160 : fK := (yJ0_checkIndex_df160, cJ0_checkIndex_df160, 2, none, [], (1, 22), (0, 0), (0, 0))
theorem cal_J0_checkIndex_df160 : fCal k_J0_checkIndex_df160 2 := ⟨⟨wc252, w84⟩, ⟨by decide +kernel, by decide +kernel⟩, by decide +kernel, by decide +kernel⟩
def s_J0_checkIndex_df160 (a0 a1 : Int32) : Option Unit := (s_J3_checkIndex_8e157 a0 a1).bind fun _ => some ()
set_option maxHeartbeats 4000000 in
set_option maxRecDepth 100000 in
theorem ct_J0_checkIndex_df160 {a0 a1 : Int32} {res : Unit} (hf : s_J0_checkIndex_df160 a0 a1 = some res) : Ct k_J0_checkIndex_df160 [.int a0, .int a1] [] (.inl none) [] := by
  unfold s_J0_checkIndex_df160 at hf
  obtain ⟨x, hx, -⟩ := fbind hf
  refine Ct.of (L := [some (.int a0), some (.int a1)]) cal_J0_checkIndex_df160 (fent_pad (j := 0) rfl) (Nat.le_of_ble_eq_true rfl) ?_
  refine V.iload_n (i := 0) dJ0_checkIndex_df160_0 rfl rfl ?_
  refine V.iload_n (i := 1) dJ0_checkIndex_df160_1 rfl rfl ?_
  refine V.siobe dJ0_checkIndex_df160_2 w253 (fun v hv => ?_)
  have hc := ct_J3_checkIndex_8e157 hv hx
  rcases hv with rfl | rfl
  · refine V.callSn (pl := []) (σ' := []) (st2 := [.int x]) (cl2 := 0) (sl2 := 0) hc dJ0_checkIndex_df160_5 w255 w256 cal_J3_checkIndex_8e157 ⟨⟨Nat.le_of_ble_eq_true rfl, Nat.le_of_ble_eq_true rfl⟩, Nat.le_of_ble_eq_true rfl, Nat.le_of_ble_eq_true rfl⟩ (Nat.le_of_ble_eq_true rfl) rfl ⟨rfl, ⟨by decide, by decide⟩, rfl, fr_nil, rfl⟩ fr_i rfl rfl rfl rfl ?_
    refine V.pop dJ0_checkIndex_df160_8 rfl ?_
    exact V.vret dJ0_checkIndex_df160_9 rfl (Nat.le_of_ble_eq_true rfl) (Nat.le_of_ble_eq_true rfl) rfl
  · refine V.callSn (pl := []) (σ' := []) (st2 := [.int x]) (cl2 := 0) (sl2 := 0) hc dJ0_checkIndex_df160_5 w255 w256 cal_J3_checkIndex_8e157 ⟨⟨Nat.le_of_ble_eq_true rfl, Nat.le_of_ble_eq_true rfl⟩, Nat.le_of_ble_eq_true rfl, Nat.le_of_ble_eq_true rfl⟩ (Nat.le_of_ble_eq_true rfl) rfl ⟨rfl, ⟨by decide, by decide⟩, rfl, fr_nil, rfl⟩ fr_i rfl rfl rfl rfl ?_
    refine V.pop dJ0_checkIndex_df160_8 rfl ?_
    exact V.vret dJ0_checkIndex_df160_9 rfl (Nat.le_of_ble_eq_true rfl) (Nat.le_of_ble_eq_true rfl) rfl
def k_J0_isLatin1_aae02 : fK := (yJ0_isLatin1_aae02, cJ0_isLatin1_aae02, 1, (some .boolean), [], (0, 0), (0, 0), (0, 0))
theorem cal_J0_isLatin1_aae02 : fCal k_J0_isLatin1_aae02 0 := ⟨⟨wc246, w84⟩, ⟨by decide +kernel, by decide +kernel⟩, by decide +kernel, by decide +kernel⟩
def s_J0_isLatin1_aae02 (a0 : Nat) : Option (Int32) := some 1
set_option maxHeartbeats 4000000 in
set_option maxRecDepth 100000 in
theorem ct_J0_isLatin1_aae02 {a0 : Nat} (ha0 : a0 < 6) {res : Int32} (hf : s_J0_isLatin1_aae02 a0 = some res) : Ct k_J0_isLatin1_aae02 [.ref (a0 + 1000)] [] (.inl (some (.int res))) [] := by
  unfold s_J0_isLatin1_aae02 at hf
  refine Ct.of (L := [some (.ref (a0 + 1000))]) cal_J0_isLatin1_aae02 (fent_pad (j := 0) rfl) (Nat.le_of_ble_eq_true rfl) ?_
  refine V.compact dJ0_isLatin1_aae02_0 w237 ?_
  refine V.if_eq (tgt := 17) dJ0_isLatin1_aae02_3 (by decide) (fun h => absurd h (by decide)) (fun _ => ?_)
  refine V.aload_n (i := 0) dJ0_isLatin1_aae02_6 rfl rfl ?_
  refine V.getS_coder ha0 dJ0_isLatin1_aae02_7 w1495 ?_
  refine V.if_ne (tgt := 17) dJ0_isLatin1_aae02_10 (by decide) (fun h => absurd h (by decide)) (fun _ => ?_)
  refine V.iconst (v := 1) dJ0_isLatin1_aae02_13 rfl ?_
  refine V.goto (tgt := 18) dJ0_isLatin1_aae02_14 (by decide) ?_
  obtain rfl := Option.some.inj hf
  exact V.zret (v := 1) dJ0_isLatin1_aae02_18 rfl (by decide +kernel) (Nat.le_of_ble_eq_true rfl) (Nat.le_of_ble_eq_true rfl) rfl
def k_J0_coder_7d493 : fK := (yJ0_coder_7d493, cJ0_coder_7d493, 1, (some .byte), [], (0, 0), (0, 0), (0, 0))
theorem cal_J0_coder_7d493 : fCal k_J0_coder_7d493 0 := ⟨⟨wc236, w84⟩, ⟨by decide +kernel, by decide +kernel⟩, by decide +kernel, by decide +kernel⟩
def s_J0_coder_7d493 (a0 : Nat) : Option (Int32) := some 0
set_option maxHeartbeats 4000000 in
set_option maxRecDepth 100000 in
theorem ct_J0_coder_7d493 {a0 : Nat} (ha0 : a0 < 6) {res : Int32} (hf : s_J0_coder_7d493 a0 = some res) : Ct k_J0_coder_7d493 [.ref (a0 + 1000)] [] (.inl (some (.int res))) [] := by
  unfold s_J0_coder_7d493 at hf
  refine Ct.of (L := [some (.ref (a0 + 1000))]) cal_J0_coder_7d493 (fent_pad (j := 0) rfl) (Nat.le_of_ble_eq_true rfl) ?_
  refine V.compact dJ0_coder_7d493_0 w237 ?_
  refine V.if_eq (tgt := 13) dJ0_coder_7d493_3 (by decide) (fun h => absurd h (by decide)) (fun _ => ?_)
  refine V.aload_n (i := 0) dJ0_coder_7d493_6 rfl rfl ?_
  refine V.getS_coder ha0 dJ0_coder_7d493_7 w1495 ?_
  refine V.goto (tgt := 14) dJ0_coder_7d493_10 (by decide) ?_
  obtain rfl := Option.some.inj hf
  exact V.zret (v := 0) dJ0_coder_7d493_14 rfl (by decide +kernel) (Nat.le_of_ble_eq_true rfl) (Nat.le_of_ble_eq_true rfl) rfl
def k_J0_length_8abf5 : fK := (yJ0_length_8abf5, cJ0_length_8abf5, 1, (some .int), [], (1, 20), (0, 0), (0, 0))
theorem cal_J0_length_8abf5 : fCal k_J0_length_8abf5 0 := ⟨⟨wc232, w84⟩, ⟨by decide +kernel, by decide +kernel⟩, by decide +kernel, by decide +kernel⟩
def s_J0_length_8abf5 (a0 : Nat) : Option (Int32) := (s_J0_coder_7d493 a0).bind fun v1 => some ((Int32.ofNat (gLen.getD a0 0)) >>> (v1 &&& 31))
set_option maxHeartbeats 4000000 in
set_option maxRecDepth 100000 in
theorem ct_J0_length_8abf5 {a0 : Nat} (ha0 : a0 < 6) {res : Int32} (hf : s_J0_length_8abf5 a0 = some res) : Ct k_J0_length_8abf5 [.ref (a0 + 1000)] [] (.inl (some (.int res))) [] := by
  unfold s_J0_length_8abf5 at hf
  refine Ct.of (L := [some (.ref (a0 + 1000))]) cal_J0_length_8abf5 (fent_pad (j := 0) rfl) (Nat.le_of_ble_eq_true rfl) ?_
  refine V.aload_n (i := 0) dJ0_length_8abf5_0 rfl rfl ?_
  refine V.getS_value ha0 dJ0_length_8abf5_1 w1494 ?_
  refine V.alenS ha0 dJ0_length_8abf5_4 rfl ?_
  refine V.aload_n (i := 0) dJ0_length_8abf5_5 rfl rfl ?_
  obtain ⟨v1, hv1, hf⟩ := fbind hf
  refine V.callVn (pl := []) (σ' := []) (st2 := [.int v1, .int (Int32.ofNat (gLen.getD a0 0))]) (cl2 := 0) (sl2 := 0) (ct_J0_coder_7d493 (a0 := a0) ha0 hv1) dJ0_length_8abf5_6 w233 ⟨w234, w235⟩ cal_J0_coder_7d493 rfl ⟨⟨Nat.le_of_ble_eq_true rfl, Nat.le_of_ble_eq_true rfl⟩, Nat.le_of_ble_eq_true rfl, Nat.le_of_ble_eq_true rfl⟩ (Nat.le_of_ble_eq_true rfl) (Or.inr ⟨_, ha0, rfl, rfl⟩) rfl ⟨rfl, ⟨by decide, by decide⟩, rfl, (fr_nil), rfl⟩ fr_i rfl rfl rfl rfl ?_
  refine V.ishr dJ0_length_8abf5_9 ?_
  obtain rfl := Option.some.inj hf
  exact V.iret dJ0_length_8abf5_10 rfl (Nat.le_of_ble_eq_true rfl) (Nat.le_of_ble_eq_true rfl) rfl
def k_J1_canEncode_9a6ad : fK := (yJ1_canEncode_9a6ad, cJ1_canEncode_9a6ad, 1, (some .boolean), [], (0, 0), (0, 0), (0, 0))
theorem cal_J1_canEncode_9a6ad : fCal k_J1_canEncode_9a6ad 1 := ⟨⟨wc832, w85⟩, ⟨by decide +kernel, by decide +kernel⟩, by decide +kernel, by decide +kernel⟩
def s_J1_canEncode_9a6ad (a0 : Int32) : Option (Int32) := if (a0 < 0 : Prop) then (some 0) else (if (255 < a0 : Prop) then (some 0) else (some 1))
set_option maxHeartbeats 4000000 in
set_option maxRecDepth 100000 in
theorem ct_J1_canEncode_9a6ad {a0 : Int32} {res : Int32} (hf : s_J1_canEncode_9a6ad a0 = some res) : Ct k_J1_canEncode_9a6ad [.int a0] [] (.inl (some (.int res))) [] := by
  unfold s_J1_canEncode_9a6ad at hf
  refine Ct.of (L := [some (.int a0)]) cal_J1_canEncode_9a6ad (fent_pad (j := 0) rfl) (Nat.le_of_ble_eq_true rfl) ?_
  refine V.iload_n (i := 0) dJ1_canEncode_9a6ad_0 rfl rfl ?_
  refine V.if_lt (tgt := 15) dJ1_canEncode_9a6ad_1 (by decide) (fun h => ?_) (fun h => ?_)
  · have hf := fif_t h hf
    refine V.iconst (v := 0) dJ1_canEncode_9a6ad_15 rfl ?_
    obtain rfl := Option.some.inj hf
    exact V.zret (v := 0) dJ1_canEncode_9a6ad_16 rfl (by decide +kernel) (Nat.le_of_ble_eq_true rfl) (Nat.le_of_ble_eq_true rfl) rfl
  · have hf := fif_f h hf
    refine V.iload_n (i := 0) dJ1_canEncode_9a6ad_4 rfl rfl ?_
    refine V.sipush (v := 255) dJ1_canEncode_9a6ad_5 rfl ?_
    refine V.icmp_gt (tgt := 15) dJ1_canEncode_9a6ad_8 (by decide) (fun h => ?_) (fun h => ?_)
    · have hf := fif_t h hf
      refine V.iconst (v := 0) dJ1_canEncode_9a6ad_15 rfl ?_
      obtain rfl := Option.some.inj hf
      exact V.zret (v := 0) dJ1_canEncode_9a6ad_16 rfl (by decide +kernel) (Nat.le_of_ble_eq_true rfl) (Nat.le_of_ble_eq_true rfl) rfl
    · have hf := fif_f h hf
      refine V.iconst (v := 1) dJ1_canEncode_9a6ad_11 rfl ?_
      refine V.goto (tgt := 16) dJ1_canEncode_9a6ad_12 (by decide) ?_
      obtain rfl := Option.some.inj hf
      exact V.zret (v := 1) dJ1_canEncode_9a6ad_16 rfl (by decide +kernel) (Nat.le_of_ble_eq_true rfl) (Nat.le_of_ble_eq_true rfl) rfl
def k_J1_indexOfChar_4cfef : fK := (yJ1_indexOfChar_4cfef, cJ1_indexOfChar_4cfef, 6, (some .int), [], (0, 0), (0, 0), (0, 0))
theorem cal_J1_indexOfChar_4cfef : fCal k_J1_indexOfChar_4cfef 4 := ⟨⟨wc841, w85⟩, ⟨by decide +kernel, by decide +kernel⟩, by decide +kernel, by decide +kernel⟩
def s_J1_indexOfChar_4cfef_L7 (p0 : Nat) (p3 : Int32) (p4 : Int32) : Nat → Int32 → Option ((Int32) ⊕ (Int32))
  | 0, _ => none
  | n + 1, x5 => if (p3 ≤ x5 : Prop) then (some (.inr x5)) else (fld (gLen.getD p0 0) (fun k => (gByt.getD p0 []).getD k 0) x5 fun v1 => if (v1 = p4 : Prop) then (some (.inl x5)) else (s_J1_indexOfChar_4cfef_L7 p0 p3 p4 n (x5 + 1)))
set_option maxHeartbeats 4000000 in
set_option maxRecDepth 100000 in
theorem v_J1_indexOfChar_4cfef_L7 {out : fO} {σ' : List fE} {p0 : Nat} {p1 : Int32} {p2 : Int32} {p3 : Int32} {p4 : Int32} (hp0 : p0 < 6) : ∀ (n : Nat) {x5 : Int32} {res : (Int32) ⊕ (Int32)} (hf : s_J1_indexOfChar_4cfef_L7 p0 p3 p4 n x5 = some res) (hr : ∀ r, res = .inl r → out = (.inl (some (.int r))) ∧ σ' = []) (hx : ∀ e, res = .inr e → V (fXm 0 k_J1_indexOfChar_4cfef out σ') (krm k_J1_indexOfChar_4cfef) k_J1_indexOfChar_4cfef 0 31 [some (.ref (p0 + 2000)), some (.int p1), some (.int p2), some (.int p3), some (.int p4), some (.int e)] [] [] 0 0), V (fXm 0 k_J1_indexOfChar_4cfef out σ') (krm k_J1_indexOfChar_4cfef) k_J1_indexOfChar_4cfef 0 7 [some (.ref (p0 + 2000)), some (.int p1), some (.int p2), some (.int p3), some (.int p4), some (.int x5)] [] [] 0 0 := by
  intro n
  induction n with
  | zero =>
    intro x5 res hf hr hx
    rw [s_J1_indexOfChar_4cfef_L7] at hf
    cases hf
  | succ n ih =>
    intro x5 res hf hr hx
    rw [s_J1_indexOfChar_4cfef_L7] at hf
    refine V.iload (i := 5) dJ1_indexOfChar_4cfef_7 rfl ?_
    refine V.iload_n (i := 3) dJ1_indexOfChar_4cfef_9 rfl rfl ?_
    refine V.icmp_ge (tgt := 31) dJ1_indexOfChar_4cfef_10 (by decide) (fun h => ?_) (fun h => ?_)
    · have hf := fif_t h hf
      obtain rfl := Option.some.inj hf
      exact hx _ rfl
    · have hf := fif_f h hf
      refine V.aload_n (i := 0) dJ1_indexOfChar_4cfef_13 rfl rfl ?_
      refine V.iload (i := 5) dJ1_indexOfChar_4cfef_14 rfl ?_
      obtain ⟨hi, v1, ev1, hf⟩ := fld_e hf
      refine V.fldS hp0 dJ1_indexOfChar_4cfef_16 hi ev1 ?_
      refine V.iload (i := 4) dJ1_indexOfChar_4cfef_17 rfl ?_
      refine V.icmp_ne (tgt := 25) dJ1_indexOfChar_4cfef_19 (by decide) (fun h => ?_) (fun h => ?_)
      · have hf := fif_f h hf
        refine V.iinc (i := 5) (v := (x5 + 1)) (L' := [some (.ref (p0 + 2000)), some (.int p1), some (.int p2), some (.int p3), some (.int p4), some (.int (x5 + 1))]) dJ1_indexOfChar_4cfef_25 rfl rfl (Nat.le_of_ble_eq_true rfl) rfl rfl ?_
        refine V.goto (tgt := 7) dJ1_indexOfChar_4cfef_28 (by decide) ?_
        exact ih hf hr hx
      · have hf := fif_t h hf
        refine V.iload (i := 5) dJ1_indexOfChar_4cfef_22 rfl ?_
        obtain rfl := Option.some.inj hf
        obtain ⟨e1, e2⟩ := hr _ rfl
        subst e1; subst e2
        exact V.iret dJ1_indexOfChar_4cfef_24 rfl (Nat.le_of_ble_eq_true rfl) (Nat.le_of_ble_eq_true rfl) rfl
def s_J1_indexOfChar_4cfef (a0 : Nat) (a1 : Int32) (a2 : Int32) (a3 : Int32) : Option (Int32) := (s_J1_indexOfChar_4cfef_L7 a0 a3 (Int32.toInt8 a1).toInt32 gF a2).bind fun r2 => fsum r2 (fun r9 => some r9) (fun e3 => some (-1))
set_option maxHeartbeats 4000000 in
set_option maxRecDepth 100000 in
theorem ct_J1_indexOfChar_4cfef {a0 : Nat} {a1 : Int32} {a2 : Int32} {a3 : Int32} (ha0 : a0 < 6) {res : Int32} (hf : s_J1_indexOfChar_4cfef a0 a1 a2 a3 = some res) : Ct k_J1_indexOfChar_4cfef [.ref (a0 + 2000), .int a1, .int a2, .int a3] [] (.inl (some (.int res))) [] := by
  unfold s_J1_indexOfChar_4cfef at hf
  refine Ct.of (L := [some (.ref (a0 + 2000)), some (.int a1), some (.int a2), some (.int a3), none, none]) cal_J1_indexOfChar_4cfef (fent_pad (j := 2) rfl) (Nat.le_of_ble_eq_true rfl) ?_
  refine V.iload_n (i := 1) dJ1_indexOfChar_4cfef_0 rfl rfl ?_
  refine V.i2b dJ1_indexOfChar_4cfef_1 ?_
  refine V.istore (i := 4) (L' := [some (.ref (a0 + 2000)), some (.int a1), some (.int a2), some (.int a3), some (.int (Int32.toInt8 a1).toInt32), none]) dJ1_indexOfChar_4cfef_2 (Nat.le_of_ble_eq_true rfl) rfl rfl ?_
  refine V.iload_n (i := 2) dJ1_indexOfChar_4cfef_4 rfl rfl ?_
  refine V.istore (i := 5) (L' := [some (.ref (a0 + 2000)), some (.int a1), some (.int a2), some (.int a3), some (.int (Int32.toInt8 a1).toInt32), some (.int a2)]) dJ1_indexOfChar_4cfef_5 (Nat.le_of_ble_eq_true rfl) rfl rfl ?_
  obtain ⟨r2, hr2, hf⟩ := fbind hf
  rcases r2 with r9 | e3
  · obtain rfl := Option.some.inj (show some _ = some res from hf)
    exact v_J1_indexOfChar_4cfef_L7 ha0 gF hr2 (fun _ h => by cases h; exact ⟨rfl, rfl⟩) (fun _ h => by cases h)
  · replace hf : _ = some res := hf
    dsimp only [fsum] at hf
    refine v_J1_indexOfChar_4cfef_L7 ha0 gF hr2 (fun _ h => by cases h) (fun _ h => ?_)
    cases h
    refine V.iconst (v := (-1)) dJ1_indexOfChar_4cfef_31 rfl ?_
    obtain rfl := Option.some.inj hf
    exact V.iret dJ1_indexOfChar_4cfef_32 rfl (Nat.le_of_ble_eq_true rfl) (Nat.le_of_ble_eq_true rfl) rfl
def k_J1_indexOf_4cfef : fK := (yJ1_indexOf_4cfef, cJ1_indexOf_4cfef, 4, (some .int), [], (1, 25), (0, 0), (0, 0))
theorem cal_J1_indexOf_4cfef : fCal k_J1_indexOf_4cfef 4 := ⟨⟨wc829, w85⟩, ⟨by decide +kernel, by decide +kernel⟩, by decide +kernel, by decide +kernel⟩
def s_J1_indexOf_4cfef (a0 : Nat) (a1 : Int32) (a2 : Int32) (a3 : Int32) : Option (Int32) := (s_J1_canEncode_9a6ad a1).bind fun v1 => if (v1 = 0 : Prop) then (some (-1)) else (flet (if (a2 < 0 : Prop) then 0 else a2) fun v2 => flet (if ((Int32.ofNat (gLen.getD a0 0)) < a3 : Prop) then (Int32.ofNat (gLen.getD a0 0)) else a3) fun v3 => if (v2 < v3 : Prop) then ((s_J1_indexOfChar_4cfef a0 a1 v2 v3).bind fun v4 => some v4) else (some (-1)))
set_option maxHeartbeats 4000000 in
set_option maxRecDepth 100000 in
theorem ct_J1_indexOf_4cfef {a0 : Nat} {a1 : Int32} {a2 : Int32} {a3 : Int32} (ha0 : a0 < 6) {res : Int32} (hf : s_J1_indexOf_4cfef a0 a1 a2 a3 = some res) : Ct k_J1_indexOf_4cfef [.ref (a0 + 2000), .int a1, .int a2, .int a3] [] (.inl (some (.int res))) [] := by
  unfold s_J1_indexOf_4cfef at hf
  refine Ct.of (L := [some (.ref (a0 + 2000)), some (.int a1), some (.int a2), some (.int a3)]) cal_J1_indexOf_4cfef (fent_pad (j := 0) rfl) (Nat.le_of_ble_eq_true rfl) ?_
  refine V.iload_n (i := 1) dJ1_indexOf_4cfef_0 rfl rfl ?_
  obtain ⟨v1, hv1, hf⟩ := fbind hf
  refine V.callSn (pl := []) (σ' := []) (st2 := [.int v1]) (cl2 := 0) (sl2 := 0) (ct_J1_canEncode_9a6ad (a0 := a1) hv1) dJ1_indexOf_4cfef_1 w830 w831 cal_J1_canEncode_9a6ad ⟨⟨Nat.le_of_ble_eq_true rfl, Nat.le_of_ble_eq_true rfl⟩, Nat.le_of_ble_eq_true rfl, Nat.le_of_ble_eq_true rfl⟩ (Nat.le_of_ble_eq_true rfl) rfl ⟨rfl, ⟨by decide, by decide⟩, rfl, (fr_nil), rfl⟩ fr_i rfl rfl rfl rfl ?_
  refine V.if_ne (tgt := 9) dJ1_indexOf_4cfef_4 (by decide) (fun h => ?_) (fun h => ?_)
  · have hf := fif_f h hf
    refine V.iload_n (i := 2) dJ1_indexOf_4cfef_9 rfl rfl ?_
    refine V.iconst (v := 0) dJ1_indexOf_4cfef_10 rfl ?_
    obtain ⟨v2, ev2, hf⟩ := flet_e hf
    refine V.mmax dJ1_indexOf_4cfef_11 w833 w834 w88 w835 (Nat.le_of_ble_eq_true rfl) (Nat.le_of_ble_eq_true rfl) (Nat.zero_le _) (Nat.zero_le _) ev2 ?_
    refine V.istore_n (i := 2) (L' := [some (.ref (a0 + 2000)), some (.int a1), some (.int v2), some (.int a3)]) dJ1_indexOf_4cfef_14 rfl (Nat.le_of_ble_eq_true rfl) rfl rfl ?_
    refine V.iload_n (i := 3) dJ1_indexOf_4cfef_15 rfl rfl ?_
    refine V.aload_n (i := 0) dJ1_indexOf_4cfef_16 rfl rfl ?_
    refine V.alenS ha0 dJ1_indexOf_4cfef_17 rfl ?_
    obtain ⟨v3, ev3, hf⟩ := flet_e hf
    refine V.mmin dJ1_indexOf_4cfef_18 w836 w837 w88 w838 (Nat.le_of_ble_eq_true rfl) (Nat.le_of_ble_eq_true rfl) (Nat.zero_le _) (Nat.zero_le _) ev3 ?_
    refine V.istore_n (i := 3) (L' := [some (.ref (a0 + 2000)), some (.int a1), some (.int v2), some (.int v3)]) dJ1_indexOf_4cfef_21 rfl (Nat.le_of_ble_eq_true rfl) rfl rfl ?_
    refine V.iload_n (i := 2) dJ1_indexOf_4cfef_22 rfl rfl ?_
    refine V.iload_n (i := 3) dJ1_indexOf_4cfef_23 rfl rfl ?_
    refine V.icmp_lt (tgt := 29) dJ1_indexOf_4cfef_24 (by decide) (fun h => ?_) (fun h => ?_)
    · have hf := fif_t h hf
      refine V.aload_n (i := 0) dJ1_indexOf_4cfef_29 rfl rfl ?_
      refine V.iload_n (i := 1) dJ1_indexOf_4cfef_30 rfl rfl ?_
      refine V.iload_n (i := 2) dJ1_indexOf_4cfef_31 rfl rfl ?_
      refine V.iload_n (i := 3) dJ1_indexOf_4cfef_32 rfl rfl ?_
      obtain ⟨v4, hv4, hf⟩ := fbind hf
      refine V.callSn (pl := []) (σ' := []) (st2 := [.int v4]) (cl2 := 0) (sl2 := 0) (ct_J1_indexOfChar_4cfef (a0 := a0) (a1 := a1) (a2 := v2) (a3 := v3) ha0 hv4) dJ1_indexOf_4cfef_33 w839 w840 cal_J1_indexOfChar_4cfef ⟨⟨Nat.le_of_ble_eq_true rfl, Nat.le_of_ble_eq_true rfl⟩, Nat.le_of_ble_eq_true rfl, Nat.le_of_ble_eq_true rfl⟩ (Nat.le_of_ble_eq_true rfl) rfl ⟨rfl, ⟨by decide, by decide⟩, rfl, (fr_nil), rfl⟩ fr_i rfl rfl rfl rfl ?_
      obtain rfl := Option.some.inj hf
      exact V.iret dJ1_indexOf_4cfef_36 rfl (Nat.le_of_ble_eq_true rfl) (Nat.le_of_ble_eq_true rfl) rfl
    · have hf := fif_f h hf
      refine V.iconst (v := (-1)) dJ1_indexOf_4cfef_27 rfl ?_
      obtain rfl := Option.some.inj hf
      exact V.iret dJ1_indexOf_4cfef_28 rfl (Nat.le_of_ble_eq_true rfl) (Nat.le_of_ble_eq_true rfl) rfl
  · have hf := fif_t h hf
    refine V.iconst (v := (-1)) dJ1_indexOf_4cfef_7 rfl ?_
    obtain rfl := Option.some.inj hf
    exact V.iret dJ1_indexOf_4cfef_8 rfl (Nat.le_of_ble_eq_true rfl) (Nat.le_of_ble_eq_true rfl) rfl
def k_J2_length_9d52b : fK := (yJ2_length_9d52b, cJ2_length_9d52b, 1, (some .int), [], (0, 0), (0, 0), (0, 0))
theorem cal_J2_length_9d52b : fCal k_J2_length_9d52b 1 := ⟨⟨wc266, w87⟩, ⟨by decide +kernel, by decide +kernel⟩, by decide +kernel, by decide +kernel⟩
def s_J2_length_9d52b (a0 : Nat) : Option (Int32) := some ((Int32.ofNat (gLen.getD a0 0)) >>> (1 &&& 31))
set_option maxHeartbeats 4000000 in
set_option maxRecDepth 100000 in
theorem ct_J2_length_9d52b {a0 : Nat} (ha0 : a0 < 6) {res : Int32} (hf : s_J2_length_9d52b a0 = some res) : Ct k_J2_length_9d52b [.ref (a0 + 2000)] [] (.inl (some (.int res))) [] := by
  unfold s_J2_length_9d52b at hf
  refine Ct.of (L := [some (.ref (a0 + 2000))]) cal_J2_length_9d52b (fent_pad (j := 0) rfl) (Nat.le_of_ble_eq_true rfl) ?_
  refine V.aload_n (i := 0) dJ2_length_9d52b_0 rfl rfl ?_
  refine V.alenS ha0 dJ2_length_9d52b_1 rfl ?_
  refine V.iconst (v := 1) dJ2_length_9d52b_2 rfl ?_
  refine V.ishr dJ2_length_9d52b_3 ?_
  obtain rfl := Option.some.inj hf
  exact V.iret dJ2_length_9d52b_4 rfl (Nat.le_of_ble_eq_true rfl) (Nat.le_of_ble_eq_true rfl) rfl
def k_J2_checkBoundsBeginEnd_d044e : fK := (yJ2_checkBoundsBeginEnd_d044e, cJ2_checkBoundsBeginEnd_d044e, 3, none, [], (1, 20), (0, 0), (0, 0))
theorem cal_J2_checkBoundsBeginEnd_d044e : fCal k_J2_checkBoundsBeginEnd_d044e 3 := ⟨⟨wc853, w87⟩, ⟨by decide +kernel, by decide +kernel⟩, by decide +kernel, by decide +kernel⟩
def s_J2_checkBoundsBeginEnd_d044e (a0 : Int32) (a1 : Int32) (a2 : Nat) : Option (Unit) := (s_J2_length_9d52b a2).bind fun v1 => none
set_option maxHeartbeats 4000000 in
set_option maxRecDepth 100000 in
theorem ct_J2_checkBoundsBeginEnd_d044e {a0 : Int32} {a1 : Int32} {a2 : Nat} (ha2 : a2 < 6) {res : Unit} (hf : s_J2_checkBoundsBeginEnd_d044e a0 a1 a2 = some res) : Ct k_J2_checkBoundsBeginEnd_d044e [.int a0, .int a1, .ref (a2 + 2000)] [] (.inl none) [] := by
  unfold s_J2_checkBoundsBeginEnd_d044e at hf
  refine Ct.of (L := [some (.int a0), some (.int a1), some (.ref (a2 + 2000))]) cal_J2_checkBoundsBeginEnd_d044e (fent_pad (j := 0) rfl) (Nat.le_of_ble_eq_true rfl) ?_
  refine V.iload_n (i := 0) dJ2_checkBoundsBeginEnd_d044e_0 rfl rfl ?_
  refine V.iload_n (i := 1) dJ2_checkBoundsBeginEnd_d044e_1 rfl rfl ?_
  refine V.aload_n (i := 2) dJ2_checkBoundsBeginEnd_d044e_2 rfl rfl ?_
  obtain ⟨v1, hv1, hf⟩ := fbind hf
  refine V.callSn (pl := []) (σ' := []) (st2 := [.int v1, .int a1, .int a0]) (cl2 := 0) (sl2 := 0) (ct_J2_length_9d52b (a0 := a2) ha2 hv1) dJ2_checkBoundsBeginEnd_d044e_3 w264 w265 cal_J2_length_9d52b ⟨⟨Nat.le_of_ble_eq_true rfl, Nat.le_of_ble_eq_true rfl⟩, Nat.le_of_ble_eq_true rfl, Nat.le_of_ble_eq_true rfl⟩ (Nat.le_of_ble_eq_true rfl) rfl ⟨rfl, ⟨by decide, by decide⟩, rfl, (fr_nil), rfl⟩ fr_i rfl rfl rfl rfl ?_
  cases hf
def k_J2_indexOfCharUnsafe_4cfef : fK := (yJ2_indexOfCharUnsafe_4cfef, cJ2_indexOfCharUnsafe_4cfef, 5, (some .int), [], (0, 0), (0, 0), (0, 0))
theorem cal_J2_indexOfCharUnsafe_4cfef : fCal k_J2_indexOfCharUnsafe_4cfef 4 := ⟨⟨wc862, w87⟩, ⟨by decide +kernel, by decide +kernel⟩, by decide +kernel, by decide +kernel⟩
def s_J2_indexOfCharUnsafe_4cfef_L3 (p0 : Nat) (p3 : Int32) : Nat → Int32 → Option (Int32)
  | 0, _ => none
  | n + 1, x4 => if (p3 ≤ x4 : Prop) then (some x4) else (none)
set_option maxHeartbeats 4000000 in
set_option maxRecDepth 100000 in
theorem v_J2_indexOfCharUnsafe_4cfef_L3 {out : fO} {σ' : List fE} {p0 : Nat} {p1 : Int32} {p2 : Int32} {p3 : Int32} (hp0 : p0 < 6) : ∀ (n : Nat) {x4 : Int32} {res : Int32} (hf : s_J2_indexOfCharUnsafe_4cfef_L3 p0 p3 n x4 = some res) (hx : V (fXm 0 k_J2_indexOfCharUnsafe_4cfef out σ') (krm k_J2_indexOfCharUnsafe_4cfef) k_J2_indexOfCharUnsafe_4cfef 0 28 [some (.ref (p0 + 2000)), some (.int p1), some (.int p2), some (.int p3), some (.int res)] [] [] 0 0), V (fXm 0 k_J2_indexOfCharUnsafe_4cfef out σ') (krm k_J2_indexOfCharUnsafe_4cfef) k_J2_indexOfCharUnsafe_4cfef 0 3 [some (.ref (p0 + 2000)), some (.int p1), some (.int p2), some (.int p3), some (.int x4)] [] [] 0 0 := by
  intro n
  induction n with
  | zero =>
    intro x4 res hf hx
    rw [s_J2_indexOfCharUnsafe_4cfef_L3] at hf
    cases hf
  | succ n ih =>
    intro x4 res hf hx
    rw [s_J2_indexOfCharUnsafe_4cfef_L3] at hf
    refine V.iload (i := 4) dJ2_indexOfCharUnsafe_4cfef_3 rfl ?_
    refine V.iload_n (i := 3) dJ2_indexOfCharUnsafe_4cfef_5 rfl rfl ?_
    refine V.icmp_ge (tgt := 28) dJ2_indexOfCharUnsafe_4cfef_6 (by decide) (fun h => ?_) (fun h => ?_)
    · have hf := fif_t h hf
      obtain rfl := Option.some.inj hf
      exact hx
    · have hf := fif_f h hf
      refine V.aload_n (i := 0) dJ2_indexOfCharUnsafe_4cfef_9 rfl rfl ?_
      refine V.iload (i := 4) dJ2_indexOfCharUnsafe_4cfef_10 rfl ?_
      cases hf
def s_J2_indexOfCharUnsafe_4cfef (a0 : Nat) (a1 : Int32) (a2 : Int32) (a3 : Int32) : Option (Int32) := (s_J2_indexOfCharUnsafe_4cfef_L3 a0 a3 gF a2).bind fun r1 => some (-1)
set_option maxHeartbeats 4000000 in
set_option maxRecDepth 100000 in
theorem ct_J2_indexOfCharUnsafe_4cfef {a0 : Nat} {a1 : Int32} {a2 : Int32} {a3 : Int32} (ha0 : a0 < 6) {res : Int32} (hf : s_J2_indexOfCharUnsafe_4cfef a0 a1 a2 a3 = some res) : Ct k_J2_indexOfCharUnsafe_4cfef [.ref (a0 + 2000), .int a1, .int a2, .int a3] [] (.inl (some (.int res))) [] := by
  unfold s_J2_indexOfCharUnsafe_4cfef at hf
  refine Ct.of (L := [some (.ref (a0 + 2000)), some (.int a1), some (.int a2), some (.int a3), none]) cal_J2_indexOfCharUnsafe_4cfef (fent_pad (j := 1) rfl) (Nat.le_of_ble_eq_true rfl) ?_
  refine V.iload_n (i := 2) dJ2_indexOfCharUnsafe_4cfef_0 rfl rfl ?_
  refine V.istore (i := 4) (L' := [some (.ref (a0 + 2000)), some (.int a1), some (.int a2), some (.int a3), some (.int a2)]) dJ2_indexOfCharUnsafe_4cfef_1 (Nat.le_of_ble_eq_true rfl) rfl rfl ?_
  obtain ⟨r1, hr1, hf⟩ := fbind hf
  refine v_J2_indexOfCharUnsafe_4cfef_L3 ha0 gF hr1 ?_
  refine V.iconst (v := (-1)) dJ2_indexOfCharUnsafe_4cfef_28 rfl ?_
  obtain rfl := Option.some.inj hf
  exact V.iret dJ2_indexOfCharUnsafe_4cfef_29 rfl (Nat.le_of_ble_eq_true rfl) (Nat.le_of_ble_eq_true rfl) rfl
def k_J2_indexOfChar_4cfef : fK := (yJ2_indexOfChar_4cfef, cJ2_indexOfChar_4cfef, 4, (some .int), [], (2, 42), (0, 0), (0, 0))
theorem cal_J2_indexOfChar_4cfef : fCal k_J2_indexOfChar_4cfef 4 := ⟨⟨wc850, w87⟩, ⟨by decide +kernel, by decide +kernel⟩, by decide +kernel, by decide +kernel⟩
def s_J2_indexOfChar_4cfef (a0 : Nat) (a1 : Int32) (a2 : Int32) (a3 : Int32) : Option (Int32) := (s_J2_checkBoundsBeginEnd_d044e a2 a3 a0).bind fun v1 => (s_J2_indexOfCharUnsafe_4cfef a0 a1 a2 a3).bind fun v2 => some v2
set_option maxHeartbeats 4000000 in
set_option maxRecDepth 100000 in
theorem ct_J2_indexOfChar_4cfef {a0 : Nat} {a1 : Int32} {a2 : Int32} {a3 : Int32} (ha0 : a0 < 6) {res : Int32} (hf : s_J2_indexOfChar_4cfef a0 a1 a2 a3 = some res) : Ct k_J2_indexOfChar_4cfef [.ref (a0 + 2000), .int a1, .int a2, .int a3] [] (.inl (some (.int res))) [] := by
  unfold s_J2_indexOfChar_4cfef at hf
  refine Ct.of (L := [some (.ref (a0 + 2000)), some (.int a1), some (.int a2), some (.int a3)]) cal_J2_indexOfChar_4cfef (fent_pad (j := 0) rfl) (Nat.le_of_ble_eq_true rfl) ?_
  refine V.iload_n (i := 2) dJ2_indexOfChar_4cfef_0 rfl rfl ?_
  refine V.iload_n (i := 3) dJ2_indexOfChar_4cfef_1 rfl rfl ?_
  refine V.aload_n (i := 0) dJ2_indexOfChar_4cfef_2 rfl rfl ?_
  obtain ⟨v1, hv1, hf⟩ := fbind hf
  refine V.callSn (pl := []) (σ' := []) (st2 := []) (cl2 := 0) (sl2 := 0) (ct_J2_checkBoundsBeginEnd_d044e (a0 := a2) (a1 := a3) (a2 := a0) ha0 hv1) dJ2_indexOfChar_4cfef_3 w851 w852 cal_J2_checkBoundsBeginEnd_d044e ⟨⟨Nat.le_of_ble_eq_true rfl, Nat.le_of_ble_eq_true rfl⟩, Nat.le_of_ble_eq_true rfl, Nat.le_of_ble_eq_true rfl⟩ (Nat.le_of_ble_eq_true rfl) rfl ⟨rfl, ⟨by decide, by decide⟩, rfl, (fr_nil), rfl⟩ fr_v rfl rfl rfl rfl ?_
  refine V.aload_n (i := 0) dJ2_indexOfChar_4cfef_6 rfl rfl ?_
  refine V.iload_n (i := 1) dJ2_indexOfChar_4cfef_7 rfl rfl ?_
  refine V.iload_n (i := 2) dJ2_indexOfChar_4cfef_8 rfl rfl ?_
  refine V.iload_n (i := 3) dJ2_indexOfChar_4cfef_9 rfl rfl ?_
  obtain ⟨v2, hv2, hf⟩ := fbind hf
  refine V.callSn (pl := []) (σ' := []) (st2 := [.int v2]) (cl2 := 0) (sl2 := 0) (ct_J2_indexOfCharUnsafe_4cfef (a0 := a0) (a1 := a1) (a2 := a2) (a3 := a3) ha0 hv2) dJ2_indexOfChar_4cfef_10 w860 w861 cal_J2_indexOfCharUnsafe_4cfef ⟨⟨Nat.le_of_ble_eq_true rfl, Nat.le_of_ble_eq_true rfl⟩, Nat.le_of_ble_eq_true rfl, Nat.le_of_ble_eq_true rfl⟩ (Nat.le_of_ble_eq_true rfl) rfl ⟨rfl, ⟨by decide, by decide⟩, rfl, (fr_nil), rfl⟩ fr_i rfl rfl rfl rfl ?_
  obtain rfl := Option.some.inj hf
  exact V.iret dJ2_indexOfChar_4cfef_13 rfl (Nat.le_of_ble_eq_true rfl) (Nat.le_of_ble_eq_true rfl) rfl
def k_J2_indexOfSupplementary_4cfef : fK := (yJ2_indexOfSupplementary_4cfef, cJ2_indexOfSupplementary_4cfef, 7, (some .int), [], (0, 0), (0, 0), (0, 0))
theorem cal_J2_indexOfSupplementary_4cfef : fCal k_J2_indexOfSupplementary_4cfef 4 := ⟨⟨wc865, w87⟩, ⟨by decide +kernel, by decide +kernel⟩, by decide +kernel, by decide +kernel⟩
def s_J2_indexOfSupplementary_4cfef (a0 : Nat) (a1 : Int32) (a2 : Int32) (a3 : Int32) : Option (Int32) := none
set_option maxHeartbeats 4000000 in
set_option maxRecDepth 100000 in
theorem ct_J2_indexOfSupplementary_4cfef {a0 : Nat} {a1 : Int32} {a2 : Int32} {a3 : Int32} (ha0 : a0 < 6) {res : Int32} (hf : s_J2_indexOfSupplementary_4cfef a0 a1 a2 a3 = some res) : Ct k_J2_indexOfSupplementary_4cfef [.ref (a0 + 2000), .int a1, .int a2, .int a3] [] (.inl (some (.int res))) [] := by
  unfold s_J2_indexOfSupplementary_4cfef at hf
  refine Ct.of (L := [some (.ref (a0 + 2000)), some (.int a1), some (.int a2), some (.int a3), none, none, none]) cal_J2_indexOfSupplementary_4cfef (fent_pad (j := 3) rfl) (Nat.le_of_ble_eq_true rfl) ?_
  refine V.iload_n (i := 1) dJ2_indexOfSupplementary_4cfef_0 rfl rfl ?_
  cases hf
def k_J0_indexOf_7cf53 : fK := (yJ0_indexOf_7cf53, cJ0_indexOf_7cf53, 3, (some .int), [], (2, 48), (0, 0), (0, 0))
theorem cal_J0_indexOf_7cf53 : fCal k_J0_indexOf_7cf53 2 := ⟨⟨wc825, w84⟩, ⟨by decide +kernel, by decide +kernel⟩, by decide +kernel, by decide +kernel⟩
def s_J0_indexOf_7cf53 (a0 : Nat) (a1 : Int32) (a2 : Int32) : Option (Int32) := (s_J0_isLatin1_aae02 a0).bind fun v1 => if (v1 = 0 : Prop) then ((s_J0_length_8abf5 a0).bind fun v2 => none) else ((s_J0_length_8abf5 a0).bind fun v3 => (s_J1_indexOf_4cfef a0 a1 a2 v3).bind fun v4 => some v4)
set_option maxHeartbeats 4000000 in
set_option maxRecDepth 100000 in
theorem ct_J0_indexOf_7cf53 {a0 : Nat} {a1 : Int32} {a2 : Int32} (ha0 : a0 < 6) {res : Int32} (hf : s_J0_indexOf_7cf53 a0 a1 a2 = some res) : Ct k_J0_indexOf_7cf53 [.ref (a0 + 1000), .int a1, .int a2] [] (.inl (some (.int res))) [] := by
  unfold s_J0_indexOf_7cf53 at hf
  refine Ct.of (L := [some (.ref (a0 + 1000)), some (.int a1), some (.int a2)]) cal_J0_indexOf_7cf53 (fent_pad (j := 0) rfl) (Nat.le_of_ble_eq_true rfl) ?_
  refine V.aload_n (i := 0) dJ0_indexOf_7cf53_0 rfl rfl ?_
  obtain ⟨v1, hv1, hf⟩ := fbind hf
  refine V.callVn (pl := []) (σ' := []) (st2 := [.int v1]) (cl2 := 0) (sl2 := 0) (ct_J0_isLatin1_aae02 (a0 := a0) ha0 hv1) dJ0_indexOf_7cf53_1 w243 ⟨w244, w245⟩ cal_J0_isLatin1_aae02 rfl ⟨⟨Nat.le_of_ble_eq_true rfl, Nat.le_of_ble_eq_true rfl⟩, Nat.le_of_ble_eq_true rfl, Nat.le_of_ble_eq_true rfl⟩ (Nat.le_of_ble_eq_true rfl) (Or.inr ⟨_, ha0, rfl, rfl⟩) rfl ⟨rfl, ⟨by decide, by decide⟩, rfl, (fr_nil), rfl⟩ fr_i rfl rfl rfl rfl ?_
  refine V.if_eq (tgt := 23) dJ0_indexOf_7cf53_4 (by decide) (fun h => ?_) (fun h => ?_)
  · have hf := fif_t h hf
    refine V.aload_n (i := 0) dJ0_indexOf_7cf53_23 rfl rfl ?_
    refine V.getS_value ha0 dJ0_indexOf_7cf53_24 w1494 ?_
    refine V.iload_n (i := 1) dJ0_indexOf_7cf53_27 rfl rfl ?_
    refine V.iload_n (i := 2) dJ0_indexOf_7cf53_28 rfl rfl ?_
    refine V.aload_n (i := 0) dJ0_indexOf_7cf53_29 rfl rfl ?_
    obtain ⟨v2, hv2, hf⟩ := fbind hf
    refine V.callVn (pl := []) (σ' := []) (st2 := [.int v2, .int a2, .int a1, .ref (a0 + 2000)]) (cl2 := 0) (sl2 := 0) (ct_J0_length_8abf5 (a0 := a0) ha0 hv2) dJ0_indexOf_7cf53_30 w826 ⟨w230, w231⟩ cal_J0_length_8abf5 rfl ⟨⟨Nat.le_of_ble_eq_true rfl, Nat.le_of_ble_eq_true rfl⟩, Nat.le_of_ble_eq_true rfl, Nat.le_of_ble_eq_true rfl⟩ (Nat.le_of_ble_eq_true rfl) (Or.inr ⟨_, ha0, rfl, rfl⟩) rfl ⟨rfl, ⟨by decide, by decide⟩, rfl, (fr_nil), rfl⟩ fr_i rfl rfl rfl rfl ?_
    cases hf
  · have hf := fif_f h hf
    refine V.aload_n (i := 0) dJ0_indexOf_7cf53_7 rfl rfl ?_
    refine V.getS_value ha0 dJ0_indexOf_7cf53_8 w1494 ?_
    refine V.iload_n (i := 1) dJ0_indexOf_7cf53_11 rfl rfl ?_
    refine V.iload_n (i := 2) dJ0_indexOf_7cf53_12 rfl rfl ?_
    refine V.aload_n (i := 0) dJ0_indexOf_7cf53_13 rfl rfl ?_
    obtain ⟨v3, hv3, hf⟩ := fbind hf
    refine V.callVn (pl := []) (σ' := []) (st2 := [.int v3, .int a2, .int a1, .ref (a0 + 2000)]) (cl2 := 0) (sl2 := 0) (ct_J0_length_8abf5 (a0 := a0) ha0 hv3) dJ0_indexOf_7cf53_14 w826 ⟨w230, w231⟩ cal_J0_length_8abf5 rfl ⟨⟨Nat.le_of_ble_eq_true rfl, Nat.le_of_ble_eq_true rfl⟩, Nat.le_of_ble_eq_true rfl, Nat.le_of_ble_eq_true rfl⟩ (Nat.le_of_ble_eq_true rfl) (Or.inr ⟨_, ha0, rfl, rfl⟩) rfl ⟨rfl, ⟨by decide, by decide⟩, rfl, (fr_nil), rfl⟩ fr_i rfl rfl rfl rfl ?_
    obtain ⟨v4, hv4, hf⟩ := fbind hf
    refine V.callSn (pl := []) (σ' := []) (st2 := [.int v4]) (cl2 := 0) (sl2 := 0) (ct_J1_indexOf_4cfef (a0 := a0) (a1 := a1) (a2 := a2) (a3 := v3) ha0 hv4) dJ0_indexOf_7cf53_17 w827 w828 cal_J1_indexOf_4cfef ⟨⟨Nat.le_of_ble_eq_true rfl, Nat.le_of_ble_eq_true rfl⟩, Nat.le_of_ble_eq_true rfl, Nat.le_of_ble_eq_true rfl⟩ (Nat.le_of_ble_eq_true rfl) rfl ⟨rfl, ⟨by decide, by decide⟩, rfl, (fr_nil), rfl⟩ fr_i rfl rfl rfl rfl ?_
    refine V.goto (tgt := 36) dJ0_indexOf_7cf53_20 (by decide) ?_
    obtain rfl := Option.some.inj hf
    exact V.iret dJ0_indexOf_7cf53_36 rfl (Nat.le_of_ble_eq_true rfl) (Nat.le_of_ble_eq_true rfl) rfl
def k_J0_indexOf_0f7a4 : fK := (yJ0_indexOf_0f7a4, cJ0_indexOf_0f7a4, 2, (some .int), [], (3, 70), (0, 0), (0, 0))
theorem cal_J0_indexOf_0f7a4 : fCal k_J0_indexOf_0f7a4 1 := ⟨⟨wc821, w84⟩, ⟨by decide +kernel, by decide +kernel⟩, by decide +kernel, by decide +kernel⟩
def s_J0_indexOf_0f7a4 (a0 : Nat) (a1 : Int32) : Option (Int32) := (s_J0_indexOf_7cf53 a0 a1 0).bind fun v1 => some v1
set_option maxHeartbeats 4000000 in
set_option maxRecDepth 100000 in
theorem ct_J0_indexOf_0f7a4 {a0 : Nat} {a1 : Int32} (ha0 : a0 < 6) {res : Int32} (hf : s_J0_indexOf_0f7a4 a0 a1 = some res) : Ct k_J0_indexOf_0f7a4 [.ref (a0 + 1000), .int a1] [] (.inl (some (.int res))) [] := by
  unfold s_J0_indexOf_0f7a4 at hf
  refine Ct.of (L := [some (.ref (a0 + 1000)), some (.int a1)]) cal_J0_indexOf_0f7a4 (fent_pad (j := 0) rfl) (Nat.le_of_ble_eq_true rfl) ?_
  refine V.aload_n (i := 0) dJ0_indexOf_0f7a4_0 rfl rfl ?_
  refine V.iload_n (i := 1) dJ0_indexOf_0f7a4_1 rfl rfl ?_
  refine V.iconst (v := 0) dJ0_indexOf_0f7a4_2 rfl ?_
  obtain ⟨v1, hv1, hf⟩ := fbind hf
  refine V.callVn (pl := []) (σ' := []) (st2 := [.int v1]) (cl2 := 0) (sl2 := 0) (ct_J0_indexOf_7cf53 (a0 := a0) (a1 := a1) (a2 := 0) ha0 hv1) dJ0_indexOf_0f7a4_3 w822 ⟨w823, w824⟩ cal_J0_indexOf_7cf53 rfl ⟨⟨Nat.le_of_ble_eq_true rfl, Nat.le_of_ble_eq_true rfl⟩, Nat.le_of_ble_eq_true rfl, Nat.le_of_ble_eq_true rfl⟩ (Nat.le_of_ble_eq_true rfl) (Or.inr ⟨_, ha0, rfl, rfl⟩) rfl ⟨rfl, ⟨by decide, by decide⟩, rfl, (fr_nil), rfl⟩ fr_i rfl rfl rfl rfl ?_
  obtain rfl := Option.some.inj hf
  exact V.iret dJ0_indexOf_0f7a4_6 rfl (Nat.le_of_ble_eq_true rfl) (Nat.le_of_ble_eq_true rfl) rfl
def k_J1_charAt_3b067 : fK := (yJ1_charAt_3b067, cJ1_charAt_3b067, 2, (some .char), [], (2, 43), (0, 0), (0, 0))
theorem cal_J1_charAt_3b067 : fCal k_J1_charAt_3b067 2 := ⟨⟨wc249, w85⟩, ⟨by decide +kernel, by decide +kernel⟩, by decide +kernel, by decide +kernel⟩
def s_J1_charAt_3b067 (a0 : Nat) (a1 : Int32) : Option (Int32) := (s_J0_checkIndex_df160 a1 (Int32.ofNat (gLen.getD a0 0))).bind fun v1 => fld (gLen.getD a0 0) (fun k => (gByt.getD a0 []).getD k 0) a1 fun v2 => fch (Int32.toUInt32 (v2 &&& 255) % 65536).toInt32 (some (Int32.toUInt32 (v2 &&& 255) % 65536).toInt32)
set_option maxHeartbeats 4000000 in
set_option maxRecDepth 100000 in
theorem ct_J1_charAt_3b067 {a0 : Nat} {a1 : Int32} (ha0 : a0 < 6) {res : Int32} (hf : s_J1_charAt_3b067 a0 a1 = some res) : Ct k_J1_charAt_3b067 [.ref (a0 + 2000), .int a1] [] (.inl (some (.int res))) [] := by
  unfold s_J1_charAt_3b067 at hf
  refine Ct.of (L := [some (.ref (a0 + 2000)), some (.int a1)]) cal_J1_charAt_3b067 (fent_pad (j := 0) rfl) (Nat.le_of_ble_eq_true rfl) ?_
  refine V.iload_n (i := 1) dJ1_charAt_3b067_0 rfl rfl ?_
  refine V.aload_n (i := 0) dJ1_charAt_3b067_1 rfl rfl ?_
  refine V.alenS ha0 dJ1_charAt_3b067_2 rfl ?_
  obtain ⟨v1, hv1, hf⟩ := fbind hf
  refine V.callSn (pl := []) (σ' := []) (st2 := []) (cl2 := 0) (sl2 := 0) (ct_J0_checkIndex_df160 (a0 := a1) (a1 := (Int32.ofNat (gLen.getD a0 0))) hv1) dJ1_charAt_3b067_3 w250 w251 cal_J0_checkIndex_df160 ⟨⟨Nat.le_of_ble_eq_true rfl, Nat.le_of_ble_eq_true rfl⟩, Nat.le_of_ble_eq_true rfl, Nat.le_of_ble_eq_true rfl⟩ (Nat.le_of_ble_eq_true rfl) rfl ⟨rfl, ⟨by decide, by decide⟩, rfl, (fr_nil), rfl⟩ fr_v rfl rfl rfl rfl ?_
  refine V.aload_n (i := 0) dJ1_charAt_3b067_6 rfl rfl ?_
  refine V.iload_n (i := 1) dJ1_charAt_3b067_7 rfl rfl ?_
  obtain ⟨hi, v2, ev2, hf⟩ := fld_e hf
  refine V.fldS ha0 dJ1_charAt_3b067_8 hi ev2 ?_
  refine V.sipush (v := 255) dJ1_charAt_3b067_9 rfl ?_
  refine V.iand dJ1_charAt_3b067_12 ?_
  refine V.i2c dJ1_charAt_3b067_13 ?_
  obtain ⟨hz, hf⟩ := fch_e hf
  obtain rfl := Option.some.inj hf
  exact V.zret (v := (Int32.toUInt32 (v2 &&& 255) % 65536).toInt32) dJ1_charAt_3b067_14 rfl hz (Nat.le_of_ble_eq_true rfl) (Nat.le_of_ble_eq_true rfl) rfl
def k_J2_checkIndex_2214a : fK := (yJ2_checkIndex_2214a, cJ2_checkIndex_2214a, 2, none, [], (2, 43), (0, 0), (0, 0))
theorem cal_J2_checkIndex_2214a : fCal k_J2_checkIndex_2214a 2 := ⟨⟨wc263, w87⟩, ⟨by decide +kernel, by decide +kernel⟩, by decide +kernel, by decide +kernel⟩
def s_J2_checkIndex_2214a (a0 : Int32) (a1 : Nat) : Option (Unit) := (s_J2_length_9d52b a1).bind fun v1 => (s_J0_checkIndex_df160 a0 v1).bind fun v2 => some ()
set_option maxHeartbeats 4000000 in
set_option maxRecDepth 100000 in
theorem ct_J2_checkIndex_2214a {a0 : Int32} {a1 : Nat} (ha1 : a1 < 6) {res : Unit} (hf : s_J2_checkIndex_2214a a0 a1 = some res) : Ct k_J2_checkIndex_2214a [.int a0, .ref (a1 + 2000)] [] (.inl none) [] := by
  unfold s_J2_checkIndex_2214a at hf
  refine Ct.of (L := [some (.int a0), some (.ref (a1 + 2000))]) cal_J2_checkIndex_2214a (fent_pad (j := 0) rfl) (Nat.le_of_ble_eq_true rfl) ?_
  refine V.iload_n (i := 0) dJ2_checkIndex_2214a_0 rfl rfl ?_
  refine V.aload_n (i := 1) dJ2_checkIndex_2214a_1 rfl rfl ?_
  obtain ⟨v1, hv1, hf⟩ := fbind hf
  refine V.callSn (pl := []) (σ' := []) (st2 := [.int v1, .int a0]) (cl2 := 0) (sl2 := 0) (ct_J2_length_9d52b (a0 := a1) ha1 hv1) dJ2_checkIndex_2214a_2 w264 w265 cal_J2_length_9d52b ⟨⟨Nat.le_of_ble_eq_true rfl, Nat.le_of_ble_eq_true rfl⟩, Nat.le_of_ble_eq_true rfl, Nat.le_of_ble_eq_true rfl⟩ (Nat.le_of_ble_eq_true rfl) rfl ⟨rfl, ⟨by decide, by decide⟩, rfl, (fr_nil), rfl⟩ fr_i rfl rfl rfl rfl ?_
  obtain ⟨v2, hv2, hf⟩ := fbind hf
  refine V.callSn (pl := []) (σ' := []) (st2 := []) (cl2 := 0) (sl2 := 0) (ct_J0_checkIndex_df160 (a0 := a0) (a1 := v1) hv2) dJ2_checkIndex_2214a_5 w267 w251 cal_J0_checkIndex_df160 ⟨⟨Nat.le_of_ble_eq_true rfl, Nat.le_of_ble_eq_true rfl⟩, Nat.le_of_ble_eq_true rfl, Nat.le_of_ble_eq_true rfl⟩ (Nat.le_of_ble_eq_true rfl) rfl ⟨rfl, ⟨by decide, by decide⟩, rfl, (fr_nil), rfl⟩ fr_v rfl rfl rfl rfl ?_
  obtain rfl := Option.some.inj hf
  exact V.vret dJ2_checkIndex_2214a_8 rfl (Nat.le_of_ble_eq_true rfl) (Nat.le_of_ble_eq_true rfl) rfl
def k_J2_charAt_3b067 : fK := (yJ2_charAt_3b067, cJ2_charAt_3b067, 2, (some .char), [], (3, 64), (0, 0), (0, 0))
theorem cal_J2_charAt_3b067 : fCal k_J2_charAt_3b067 2 := ⟨⟨wc260, w87⟩, ⟨by decide +kernel, by decide +kernel⟩, by decide +kernel, by decide +kernel⟩
def s_J2_charAt_3b067 (a0 : Nat) (a1 : Int32) : Option (Int32) := (s_J2_checkIndex_2214a a1 a0).bind fun v1 => none
set_option maxHeartbeats 4000000 in
set_option maxRecDepth 100000 in
theorem ct_J2_charAt_3b067 {a0 : Nat} {a1 : Int32} (ha0 : a0 < 6) {res : Int32} (hf : s_J2_charAt_3b067 a0 a1 = some res) : Ct k_J2_charAt_3b067 [.ref (a0 + 2000), .int a1] [] (.inl (some (.int res))) [] := by
  unfold s_J2_charAt_3b067 at hf
  refine Ct.of (L := [some (.ref (a0 + 2000)), some (.int a1)]) cal_J2_charAt_3b067 (fent_pad (j := 0) rfl) (Nat.le_of_ble_eq_true rfl) ?_
  refine V.iload_n (i := 1) dJ2_charAt_3b067_0 rfl rfl ?_
  refine V.aload_n (i := 0) dJ2_charAt_3b067_1 rfl rfl ?_
  obtain ⟨v1, hv1, hf⟩ := fbind hf
  refine V.callSn (pl := []) (σ' := []) (st2 := []) (cl2 := 0) (sl2 := 0) (ct_J2_checkIndex_2214a (a0 := a1) (a1 := a0) ha0 hv1) dJ2_charAt_3b067_2 w261 w262 cal_J2_checkIndex_2214a ⟨⟨Nat.le_of_ble_eq_true rfl, Nat.le_of_ble_eq_true rfl⟩, Nat.le_of_ble_eq_true rfl, Nat.le_of_ble_eq_true rfl⟩ (Nat.le_of_ble_eq_true rfl) rfl ⟨rfl, ⟨by decide, by decide⟩, rfl, (fr_nil), rfl⟩ fr_v rfl rfl rfl rfl ?_
  refine V.aload_n (i := 0) dJ2_charAt_3b067_5 rfl rfl ?_
  refine V.iload_n (i := 1) dJ2_charAt_3b067_6 rfl rfl ?_
  cases hf
def k_J0_charAt_5068e : fK := (yJ0_charAt_5068e, cJ0_charAt_5068e, 2, (some .char), [], (4, 85), (0, 0), (0, 0))
theorem cal_J0_charAt_5068e : fCal k_J0_charAt_5068e 1 := ⟨⟨wc242, w84⟩, ⟨by decide +kernel, by decide +kernel⟩, by decide +kernel, by decide +kernel⟩
def s_J0_charAt_5068e (a0 : Nat) (a1 : Int32) : Option (Int32) := (s_J0_isLatin1_aae02 a0).bind fun v1 => if (v1 = 0 : Prop) then ((s_J2_charAt_3b067 a0 a1).bind fun v2 => fch v2 (some v2)) else ((s_J1_charAt_3b067 a0 a1).bind fun v3 => fch v3 (some v3))
set_option maxHeartbeats 4000000 in
set_option maxRecDepth 100000 in
theorem ct_J0_charAt_5068e {a0 : Nat} {a1 : Int32} (ha0 : a0 < 6) {res : Int32} (hf : s_J0_charAt_5068e a0 a1 = some res) : Ct k_J0_charAt_5068e [.ref (a0 + 1000), .int a1] [] (.inl (some (.int res))) [] := by
  unfold s_J0_charAt_5068e at hf
  refine Ct.of (L := [some (.ref (a0 + 1000)), some (.int a1)]) cal_J0_charAt_5068e (fent_pad (j := 0) rfl) (Nat.le_of_ble_eq_true rfl) ?_
  refine V.aload_n (i := 0) dJ0_charAt_5068e_0 rfl rfl ?_
  obtain ⟨v1, hv1, hf⟩ := fbind hf
  refine V.callVn (pl := []) (σ' := []) (st2 := [.int v1]) (cl2 := 0) (sl2 := 0) (ct_J0_isLatin1_aae02 (a0 := a0) ha0 hv1) dJ0_charAt_5068e_1 w243 ⟨w244, w245⟩ cal_J0_isLatin1_aae02 rfl ⟨⟨Nat.le_of_ble_eq_true rfl, Nat.le_of_ble_eq_true rfl⟩, Nat.le_of_ble_eq_true rfl, Nat.le_of_ble_eq_true rfl⟩ (Nat.le_of_ble_eq_true rfl) (Or.inr ⟨_, ha0, rfl, rfl⟩) rfl ⟨rfl, ⟨by decide, by decide⟩, rfl, (fr_nil), rfl⟩ fr_i rfl rfl rfl rfl ?_
  refine V.if_eq (tgt := 16) dJ0_charAt_5068e_4 (by decide) (fun h => ?_) (fun h => ?_)
  · have hf := fif_t h hf
    refine V.aload_n (i := 0) dJ0_charAt_5068e_16 rfl rfl ?_
    refine V.getS_value ha0 dJ0_charAt_5068e_17 w1494 ?_
    refine V.iload_n (i := 1) dJ0_charAt_5068e_20 rfl rfl ?_
    obtain ⟨v2, hv2, hf⟩ := fbind hf
    refine V.callSn (pl := []) (σ' := []) (st2 := [.int v2]) (cl2 := 0) (sl2 := 0) (ct_J2_charAt_3b067 (a0 := a0) (a1 := a1) ha0 hv2) dJ0_charAt_5068e_21 w258 w259 cal_J2_charAt_3b067 ⟨⟨Nat.le_of_ble_eq_true rfl, Nat.le_of_ble_eq_true rfl⟩, Nat.le_of_ble_eq_true rfl, Nat.le_of_ble_eq_true rfl⟩ (Nat.le_of_ble_eq_true rfl) rfl ⟨rfl, ⟨by decide, by decide⟩, rfl, (fr_nil), rfl⟩ fr_i rfl rfl rfl rfl ?_
    obtain ⟨hz, hf⟩ := fch_e hf
    obtain rfl := Option.some.inj hf
    exact V.zret (v := v2) dJ0_charAt_5068e_24 rfl hz (Nat.le_of_ble_eq_true rfl) (Nat.le_of_ble_eq_true rfl) rfl
  · have hf := fif_f h hf
    refine V.aload_n (i := 0) dJ0_charAt_5068e_7 rfl rfl ?_
    refine V.getS_value ha0 dJ0_charAt_5068e_8 w1494 ?_
    refine V.iload_n (i := 1) dJ0_charAt_5068e_11 rfl rfl ?_
    obtain ⟨v3, hv3, hf⟩ := fbind hf
    refine V.callSn (pl := []) (σ' := []) (st2 := [.int v3]) (cl2 := 0) (sl2 := 0) (ct_J1_charAt_3b067 (a0 := a0) (a1 := a1) ha0 hv3) dJ0_charAt_5068e_12 w247 w248 cal_J1_charAt_3b067 ⟨⟨Nat.le_of_ble_eq_true rfl, Nat.le_of_ble_eq_true rfl⟩, Nat.le_of_ble_eq_true rfl, Nat.le_of_ble_eq_true rfl⟩ (Nat.le_of_ble_eq_true rfl) rfl ⟨rfl, ⟨by decide, by decide⟩, rfl, (fr_nil), rfl⟩ fr_i rfl rfl rfl rfl ?_
    obtain ⟨hz, hf⟩ := fch_e hf
    obtain rfl := Option.some.inj hf
    exact V.zret (v := v3) dJ0_charAt_5068e_15 rfl hz (Nat.le_of_ble_eq_true rfl) (Nat.le_of_ble_eq_true rfl) rfl
