/-! the law: its regions -/
theorem fldA {β : Type} {L p j : Nat} {a0 : Nat → Int32} {g : Int32 → Option β} {I : Int32} {R : Option β} (hp : p + 5 ≤ L) (hL : L ≤ 2560) (hj : j < 5) (e : I = nI (p + j)) (h : g (a0 (p + j)) = R) : fld L a0 I g = R := by
  rw [a0_ hp hL hj e]; exact h
section
variable {L p n B : Nat} {a0 : Nat → Int32} {S : aS} {H : List aS} {T : Option aS} {b : List Nat} {c hv hn bc ms mv mn mx wl : Nat → Int32} {ho hs ht bs mm mt ml th ws sp sm rl pl kd on tw t3 bg dn sb : Int32} {hh : Int64} {rp : Nat} {o : Nat → Int64}
theorem rg_168 (hp : p + 5 ≤ L) (hL : L ≤ 2560) (J : JR B S H T b c ho hs ht hv hn bs bc mm mt ml ms mv mn mx) : ∃ r, s_L_law_L168 L a0 (nI p) bc mx (n + 1) c ho hs hv bs ws wl mm ml th sp sm ms mv o = some r ∧ ∃ S' H' b', JR B S' H' T b' r.1 r.2.1 r.2.2.1 ht r.2.2.2.1 hn r.2.2.2.2.1 bc r.2.2.2.2.2.2.2.1 mt r.2.2.2.2.2.2.2.2.1 r.2.2.2.2.2.2.2.2.2.2.2.2.1 r.2.2.2.2.2.2.2.2.2.2.2.2.2.1 mn mx := by
  obtain ⟨k, v, o', c', ho', hs', hv', bs', w1, w2, mm', ml', sp', sm', ms', mv', h1, h2, h3, S', H', b', J'⟩ := w_tie (ws := ws) (wl := wl) (sp := sp) (sm := sm) (th := th) (o := o) J (a0 (p + 1))
  refine ⟨(c', ho', hs', hv', bs', w1, w2, mm', ml', k, sp', sm', ms', mv', o'), ?_, S', H', b', J'⟩
  unfold s_L_law_L168
  exact fldA (j := 1) hp hL (by omega) (p_1 p) (bindE h1 (fldA (j := 1) hp hL (by omega) (p_1 p) (bindE h2 (bindE (thr _) (reg_ok rfl h3)))))
theorem rg_224 (hp : p + 5 ≤ L) (hL : L ≤ 2560) (J : JR B S H T b c ho hs ht hv hn bs bc mm mt ml ms mv mn mx) : ∃ r, s_L_law_L224 L a0 (nI p) (n + 1) c ho hs hv mm th ms mv o = some r ∧ ∃ S' H', JR B S' H' T b r.1 r.2.1 r.2.2.1 ht r.2.2.2.1 hn bs bc r.2.2.2.2.1 mt ml r.2.2.2.2.2.2.1 r.2.2.2.2.2.2.2.1 mn mx := by
  obtain ⟨k, v, o', c', ho', hs', hv', mm', ms', mv', h1, h2, h3, S', H', J'⟩ := w_cut (th := th) (o := o) J (a0 (p + 1)) (a0 (p + 2))
  refine ⟨(c', ho', hs', hv', mm', k, ms', mv', o'), ?_, S', H', J'⟩
  unfold s_L_law_L224
  exact fldA (j := 1) hp hL (by omega) (p_1 p) (fldA (j := 2) hp hL (by omega) (p_2 p) (bindE h1 (fldA (j := 1) hp hL (by omega) (p_1 p) (fldA (j := 2) hp hL (by omega) (p_2 p) (bindE h2 (bindE (thr _) (reg_ok rfl h3)))))))
theorem rg_292 (hp : p + 5 ≤ L) (hL : L ≤ 2560) (J : JR B S H T b c ho hs ht hv hn bs bc mm mt ml ms mv mn mx) : ∃ r, s_L_law_L292 L a0 (nI p) (n + 1) c ho hs hv mm th ms mv o = some r ∧ ∃ S' H', JR B S' H' T b r.1 r.2.1 r.2.2.1 ht r.2.2.2.1 hn bs bc r.2.2.2.2.1 mt ml r.2.2.2.2.2.2.1 r.2.2.2.2.2.2.2.1 mn mx := by
  obtain ⟨k, v, o', c', ho', hs', hv', mm', ms', mv', h1, h2, h3, S', H', J'⟩ := w_fast (th := th) (o := o) J (a0 (p + 1)) (a0 (p + 2))
  refine ⟨(c', ho', hs', hv', mm', k, ms', mv', o'), ?_, S', H', J'⟩
  unfold s_L_law_L292
  exact fldA (j := 1) hp hL (by omega) (p_1 p) (fldA (j := 2) hp hL (by omega) (p_2 p) (bindE h1 (fldA (j := 1) hp hL (by omega) (p_1 p) (fldA (j := 2) hp hL (by omega) (p_2 p) (bindE h2 (bindE (thr _) (reg_ok rfl h3)))))))
theorem rg_360 (hp : p + 5 ≤ L) (hL : L ≤ 2560) (J : JR B S H T b c ho hs ht hv hn bs bc mm mt ml ms mv mn mx) : ∃ r, s_L_law_L360 L a0 (nI p) (n + 1) c ho hs hv ws wl mm th ms mv o = some r ∧ ∃ S' H', JR B S' H' T b r.1 r.2.1 r.2.2.1 ht r.2.2.2.1 hn bs bc r.2.2.2.2.2.2.1 mt ml r.2.2.2.2.2.2.2.2.1 r.2.2.2.2.2.2.2.2.2.1 mn mx := by
  obtain ⟨k, v, o', c', ho', hs', hv', w1, w2, mm', ms', mv', h1, h2, h3, S', H', J'⟩ := w_give (ws := ws) (wl := wl) (th := th) (o := o) J (a0 (p + 1)) (a0 (p + 2)) (a0 (p + 3))
  refine ⟨(c', ho', hs', hv', w1, w2, mm', k, ms', mv', o'), ?_, S', H', J'⟩
  unfold s_L_law_L360
  exact fldA (j := 1) hp hL (by omega) (p_1 p) (fldA (j := 2) hp hL (by omega) (p_2 p) (fldA (j := 3) hp hL (by omega) (p_3 p) (bindE h1 (fldA (j := 1) hp hL (by omega) (p_1 p) (fldA (j := 2) hp hL (by omega) (p_2 p) (fldA (j := 3) hp hL (by omega) (p_3 p) (bindE h2 (bindE (thr _) (reg_ok rfl h3)))))))))
theorem rg_440 (hp : p + 5 ≤ L) (hL : L ≤ 2560) (hB : B + 1 < 1000000) (J : JR B S H T b c ho hs ht hv hn bs bc mm mt ml ms mv mn mx) : ∃ r, s_L_law_L440 L a0 (nI p) (n + 1) c ho hs hv mm th ms mv o = some r ∧ ∃ S' H', JR (B + 1) S' H' T b r.1 r.2.1 r.2.2.1 ht r.2.2.2.1 hn bs bc r.2.2.2.2.1 mt ml r.2.2.2.2.2.2.1 r.2.2.2.2.2.2.2.1 mn mx := by
  obtain ⟨k, v, o', c', ho', hs', hv', mm', ms', mv', h1, h2, h3, S', H', J'⟩ := w_storm (th := th) (o := o) J hB (a0 (p + 1))
  refine ⟨(c', ho', hs', hv', mm', k, ms', mv', o'), ?_, S', H', J'⟩
  unfold s_L_law_L440
  exact fldA (j := 1) hp hL (by omega) (p_1 p) (bindE h1 (fldA (j := 1) hp hL (by omega) (p_1 p) (bindE h2 (bindE (thr _) (reg_ok rfl h3)))))
theorem rg_496 (hp : p + 5 ≤ L) (hL : L ≤ 2560) (J : JR B S H T b c ho hs ht hv hn bs bc mm mt ml ms mv mn mx) : ∃ r, s_L_law_L496 L a0 (nI p) (n + 1) c ho hs hv mm th ms mv o = some r ∧ ∃ S' H', JR B S' H' T b r.1 r.2.1 r.2.2.1 ht r.2.2.2.1 hn bs bc r.2.2.2.2.1 mt ml r.2.2.2.2.2.2.1 r.2.2.2.2.2.2.2.1 mn mx := by
  obtain ⟨k, v, o', c', ho', hs', hv', mm', ms', mv', h1, h2, h3, S', H', J'⟩ := w_belt (th := th) (o := o) J (a0 (p + 1)) (a0 (p + 2))
  refine ⟨(c', ho', hs', hv', mm', k, ms', mv', o'), ?_, S', H', J'⟩
  unfold s_L_law_L496
  exact fldA (j := 1) hp hL (by omega) (p_1 p) (fldA (j := 2) hp hL (by omega) (p_2 p) (bindE h1 (fldA (j := 1) hp hL (by omega) (p_1 p) (fldA (j := 2) hp hL (by omega) (p_2 p) (bindE h2 (bindE (thr _) (reg_ok rfl h3)))))))
theorem rg_564 (hp : p + 5 ≤ L) (hL : L ≤ 2560) (J : JR B S H T b c ho hs ht hv hn bs bc mm mt ml ms mv mn mx) : ∃ r, s_L_law_L564 L a0 (nI p) (n + 1) c ho hs hv mm th ms mv o = some r ∧ ∃ S' H', JR B S' H' T b r.1 r.2.1 r.2.2.1 ht r.2.2.2.1 hn bs bc r.2.2.2.2.1 mt ml r.2.2.2.2.2.2.1 r.2.2.2.2.2.2.2.1 mn mx := by
  obtain ⟨k, v, o', c', ho', hs', hv', mm', ms', mv', h1, h2, h3, S', H', J'⟩ := w_set (th := th) (o := o) J (a0 (p + 1)) (a0 (p + 2))
  refine ⟨(c', ho', hs', hv', mm', k, ms', mv', o'), ?_, S', H', J'⟩
  unfold s_L_law_L564
  exact fldA (j := 1) hp hL (by omega) (p_1 p) (fldA (j := 2) hp hL (by omega) (p_2 p) (bindE h1 (fldA (j := 1) hp hL (by omega) (p_1 p) (fldA (j := 2) hp hL (by omega) (p_2 p) (bindE h2 (bindE (thr _) (reg_ok rfl h3)))))))
theorem rg_632 (hp : p + 5 ≤ L) (hL : L ≤ 2560) (J : JR B S H T b c ho hs ht hv hn bs bc mm mt ml ms mv mn mx) : ∃ r, s_L_law_L632 L a0 (nI p) (n + 1) bs bc ml th mx o = some r ∧ ∃ b', JR B S H T b' c ho hs ht hv hn r.1 r.2.1 mm mt r.2.2.1 ms mv mn r.2.2.2.2.1 := by
  obtain ⟨k, v, o', bs', bc', ml', mx', h1, h2, h3, b', J'⟩ := w_append (th := th) (o := o) J (a0 (p + 1))
  refine ⟨(bs', bc', ml', k, mx', o'), ?_, b', J'⟩
  unfold s_L_law_L632
  exact fldA (j := 1) hp hL (by omega) (p_1 p) (bindE h1 (fldA (j := 1) hp hL (by omega) (p_1 p) (bindE h2 (bindE (thr _) (reg_ok rfl h3)))))
theorem rg_688 (J : JR B S H T b c ho hs ht hv hn bs bc mm mt ml ms mv mn mx) : ∃ r, s_L_law_L688 L a0 (n + 1) bs ml th = some r ∧ ∃ b', JR B S H T b' c ho hs ht hv hn r.1 bc mm mt r.2.1 ms mv mn mx := by
  have e : bs = ml := J.2.2.2.1.1.trans J.2.2.2.2.2.2.2.1.symm
  refine ⟨(0, 0, 0), ?_, [], J.1, J.2.1, J.2.2.1, RepB_nil, J.2.2.2.2.1, J.2.2.2.2.2.1, J.2.2.2.2.2.2.1, RepB_nil⟩
  have z1 : s_X10_clearBuffer bs = some (bs, 0) := rfl
  have z2 : s_X11_clearBuffer ml th = some (ml, 0, 0) := rfl
  unfold s_L_law_L688
  exact bindE z1 (bindE z2 (if_pos e))
theorem rg_701 (J : JR B S H T b c ho hs ht hv hn bs bc mm mt ml ms mv mn mx) : ∃ r, s_L_law_L701 L a0 bs bc ml mx (n + 1) rp rl th sp sm pl kd on tw t3 bg dn sb ms = some r ∧ JR B S H T b c ho hs ht hv hn bs bc mm mt ml r.2.2.2.2.2.2.2.2.2.2.2.2.2 mv mn mx := by
  obtain ⟨v, rp', rl', sp', sm', pl', kd', on', tw', t3', bg', dn', sb', h1, h2⟩ := w_first (sp := sp) (sm := sm) (th := th) (rp := rp) (rl := rl) (pl := pl) (kd := kd) (on := on) (tw := tw) (t3 := t3) (bg := bg) (dn := dn) (sb := sb) J
  exact ⟨(rp', rl', 0, sp', sm', pl', kd', on', tw', t3', bg', dn', sb', ms), bindE h1 (bindE h2 (if_pos rfl)), J⟩
theorem rg_714 (hB : B + 61 < 1000000) (J : JR B S H T b c ho hs ht hv hn bs bc mm mt ml ms mv mn mx) : ∃ r, s_L_law_L714 L a0 bc mx (n + 1) c ho hs hv bs rp rl ws wl mm ml th sp sm pl kd on tw t3 bg dn sb ms mv o = some r ∧ ∃ S' H' b', JR (B + 61) S' H' T b' r.1 r.2.1 r.2.2.1 ht r.2.2.2.1 hn r.2.2.2.2.1 bc r.2.2.2.2.2.2.2.2.2.1 mt r.2.2.2.2.2.2.2.2.2.2.1 r.2.2.2.2.2.2.2.2.2.2.2.2.2.2.2.2.2.2.2.2.2.2.1 r.2.2.2.2.2.2.2.2.2.2.2.2.2.2.2.2.2.2.2.2.2.2.2.1 mn mx := by
  obtain ⟨k, v, o', c', ho', hs', hv', bs', rp', rl', w1, w2, mm', ml', sp', sm', pl', kd', on', tw', t3', bg', dn', sb', ms', mv', h1, h2, h3, S', H', b', J'⟩ := w_work (ws := ws) (wl := wl) (sp := sp) (sm := sm) (th := th) (rp := rp) (rl := rl) (pl := pl) (kd := kd) (on := on) (tw := tw) (t3 := t3) (bg := bg) (dn := dn) (sb := sb) (o := o) J hB 
  refine ⟨(c', ho', hs', hv', bs', rp', rl', w1, w2, mm', ml', k, sp', sm', pl', kd', on', tw', t3', bg', dn', sb', ms', mv', o'), ?_, S', H', b', J'⟩
  unfold s_L_law_L714
  exact bindE h1 (bindE h2 (bindE (thr _) (reg_ok rfl h3)))
theorem rg_758 (hp : p + 5 ≤ L) (hL : L ≤ 2560) (J : JR B S H T b c ho hs ht hv hn bs bc mm mt ml ms mv mn mx) : ∃ r, s_L_law_L758 L a0 (nI p) c ms (n + 1) th o = some r := by
  obtain ⟨k, v, o', h1, h2, h3⟩ := an_stopped (th := th) (o := o) J.1 J.2.2.2.2.1 (a0 (p + 1))
  refine ⟨(k, o'), ?_⟩
  unfold s_L_law_L758
  exact fldA (j := 1) hp hL (by omega) (p_1 p) (bindE h1 (fldA (j := 1) hp hL (by omega) (p_1 p) (bindE h2 (bindE (thr _) (reg_ok rfl h3)))))
theorem rg_814 (hp : p + 5 ≤ L) (hL : L ≤ 2560) (J : JR B S H T b c ho hs ht hv hn bs bc mm mt ml ms mv mn mx) : ∃ r, s_L_law_L814 L a0 (nI p) c ms (n + 1) th o = some r := by
  obtain ⟨k, v, o', h1, h2, h3⟩ := an_told (th := th) (o := o) J.1 J.2.2.2.2.1 (a0 (p + 1)) (a0 (p + 2))
  refine ⟨(k, o'), ?_⟩
  unfold s_L_law_L814
  exact fldA (j := 1) hp hL (by omega) (p_1 p) (fldA (j := 2) hp hL (by omega) (p_2 p) (bindE h1 (fldA (j := 1) hp hL (by omega) (p_1 p) (fldA (j := 2) hp hL (by omega) (p_2 p) (bindE h2 (bindE (thr _) (reg_ok rfl h3)))))))
theorem rg_882 (J : JR B S H T b c ho hs ht hv hn bs bc mm mt ml ms mv mn mx) : ∃ r, s_L_law_L882 L a0 ho hv mv (n + 1) c hs mm th ms o = some r ∧ ∃ S' H', JR B S' H' T b r.1 ho r.2.1 ht hv hn bs bc r.2.2.1 mt ml r.2.2.2.2.1 mv mn mx := by
  obtain ⟨k, v, o', c', hs', mm', ms', h1, h2, h3, S', H', J'⟩ := w_undo (th := th) (o := o) J 
  refine ⟨(c', hs', mm', k, ms', o'), ?_, S', H', J'⟩
  unfold s_L_law_L882
  exact bindE h1 (bindE h2 (bindE (thr _) (reg_ok rfl h3)))
theorem rg_926 (J : JR B S H T b c ho hs ht hv hn bs bc mm mt ml ms mv mn mx) : ∃ r, s_L_law_L926 L a0 c ms (n + 1) ht hn mt th mn = some r ∧ ∃ T', JR B S H T' b c ho hs r.1 hv r.2.1 bs bc mm r.2.2.1 ml ms mv r.2.2.2.2 mx := by
  obtain ⟨v, ht', hn', mt', mn', h1, h2, T', J'⟩ := w_keep (th := th) J
  refine ⟨(ht', hn', mt', 0, mn'), ?_, T', J'⟩
  unfold s_L_law_L926
  exact bindE h1 (bindE h2 (if_pos rfl))
theorem rg_939 (J : JR B S H T b c ho hs ht hv hn bs bc mm mt ml ms mv mn mx) : ∃ r, s_L_law_L939 L a0 ht hn mt mn (n + 1) c ho hs hv mm th ms mv o = some r ∧ ∃ S' H', JR B S' H' T b r.1 r.2.1 r.2.2.1 ht r.2.2.2.1 hn bs bc r.2.2.2.2.1 mt ml r.2.2.2.2.2.2.1 r.2.2.2.2.2.2.2.1 mn mx := by
  obtain ⟨k, v, o', c', ho', hs', hv', mm', ms', mv', h1, h2, h3, S', H', J'⟩ := w_restore (th := th) (o := o) J 
  refine ⟨(c', ho', hs', hv', mm', k, ms', mv', o'), ?_, S', H', J'⟩
  unfold s_L_law_L939
  exact bindE h1 (bindE h2 (bindE (thr _) (reg_ok rfl h3)))
theorem rg_983 (hp : p + 5 ≤ L) (hL : L ≤ 2560) (J : JR B S H T b c ho hs ht hv hn bs bc mm mt ml ms mv mn mx) : ∃ r, s_L_law_L983 L a0 (nI p) c ms (n + 1) th o = some r := by
  obtain ⟨k, v, o', h1, h2, h3⟩ := an_letter (th := th) (o := o) J.1 J.2.2.2.2.1 (a0 (p + 1)) (a0 (p + 2))
  refine ⟨(k, o'), ?_⟩
  unfold s_L_law_L983
  exact fldA (j := 1) hp hL (by omega) (p_1 p) (fldA (j := 2) hp hL (by omega) (p_2 p) (bindE h1 (fldA (j := 1) hp hL (by omega) (p_1 p) (fldA (j := 2) hp hL (by omega) (p_2 p) (bindE h2 (bindE (thr _) (reg_ok rfl h3)))))))
theorem rg_1051 (hp : p + 5 ≤ L) (hL : L ≤ 2560) (J : JR B S H T b c ho hs ht hv hn bs bc mm mt ml ms mv mn mx) : ∃ r, s_L_law_L1051 L a0 (nI p) c ms (n + 1) th o = some r := by
  obtain ⟨k, v, o', h1, h2, h3⟩ := an_knot (th := th) (o := o) J.1 J.2.2.2.2.1 (a0 (p + 1)) (a0 (p + 2)) (a0 (p + 3)) (a0 (p + 4))
  refine ⟨(k, o'), ?_⟩
  unfold s_L_law_L1051
  exact fldA (j := 1) hp hL (by omega) (p_1 p) (fldA (j := 2) hp hL (by omega) (p_2 p) (fldA (j := 3) hp hL (by omega) (p_3 p) (fldA (j := 4) hp hL (by omega) (p_4 p) (bindE h1 (fldA (j := 1) hp hL (by omega) (p_1 p) (fldA (j := 2) hp hL (by omega) (p_2 p) (fldA (j := 3) hp hL (by omega) (p_3 p) (fldA (j := 4) hp hL (by omega) (p_4 p) (bindE h2 (bindE (thr _) (reg_ok rfl h3)))))))))))
theorem rg_1143 (hp : p + 5 ≤ L) (hL : L ≤ 2560) (J : JR B S H T b c ho hs ht hv hn bs bc mm mt ml ms mv mn mx) : ∃ r, s_L_law_L1143 L a0 (nI p) c ms (n + 1) th o = some r := by
  obtain ⟨k, v, o', h1, h2, h3⟩ := an_name (th := th) (o := o) J.1 J.2.2.2.2.1 (a0 (p + 1)) (a0 (p + 2)) (a0 (p + 3))
  refine ⟨(k, o'), ?_⟩
  unfold s_L_law_L1143
  exact fldA (j := 1) hp hL (by omega) (p_1 p) (fldA (j := 2) hp hL (by omega) (p_2 p) (fldA (j := 3) hp hL (by omega) (p_3 p) (bindE h1 (fldA (j := 1) hp hL (by omega) (p_1 p) (fldA (j := 2) hp hL (by omega) (p_2 p) (fldA (j := 3) hp hL (by omega) (p_3 p) (bindE h2 (bindE (thr _) (reg_ok rfl h3)))))))))
theorem rg_1223 (hp : p + 5 ≤ L) (hL : L ≤ 2560) (J : JR B S H T b c ho hs ht hv hn bs bc mm mt ml ms mv mn mx) : ∃ r, s_L_law_L1223 L a0 (nI p) c ms (n + 1) th o = some r := by
  obtain ⟨k, v, o', h1, h2, h3⟩ := an_fisher (th := th) (o := o) J.1 J.2.2.2.2.1 (a0 (p + 1)) (a0 (p + 2))
  refine ⟨(k, o'), ?_⟩
  unfold s_L_law_L1223
  exact fldA (j := 1) hp hL (by omega) (p_1 p) (fldA (j := 2) hp hL (by omega) (p_2 p) (bindE h1 (fldA (j := 1) hp hL (by omega) (p_1 p) (fldA (j := 2) hp hL (by omega) (p_2 p) (bindE h2 (bindE (thr _) (reg_ok rfl h3)))))))
theorem rg_1291 (hp : p + 5 ≤ L) (hL : L ≤ 2560) (J : JR B S H T b c ho hs ht hv hn bs bc mm mt ml ms mv mn mx) : ∃ r, s_L_law_L1291 L a0 (nI p) c ms (n + 1) th o = some r := by
  obtain ⟨k, v, o', h1, h2, h3⟩ := an_drowned (th := th) (o := o) J.1 J.2.2.2.2.1 (a0 (p + 1)) (a0 (p + 2))
  refine ⟨(k, o'), ?_⟩
  unfold s_L_law_L1291
  exact fldA (j := 1) hp hL (by omega) (p_1 p) (fldA (j := 2) hp hL (by omega) (p_2 p) (bindE h1 (fldA (j := 1) hp hL (by omega) (p_1 p) (fldA (j := 2) hp hL (by omega) (p_2 p) (bindE h2 (bindE (thr _) (reg_ok rfl h3)))))))
theorem rg_1359 (J : JR B S H T b c ho hs ht hv hn bs bc mm mt ml ms mv mn mx) : ∃ r, s_L_law_L1359 L a0 c bs bc ml ms mx (n + 1) ws wl th sp sm o = some r := by
  obtain ⟨k, v, o', w1, w2, sp', sm', h1, h2, h3⟩ := an_find (ws := ws) (wl := wl) (sp := sp) (sm := sm) (th := th) (o := o) J.1 J.2.2.2.2.1 J.2.2.2.1 J.2.2.2.2.2.2.2 
  refine ⟨(w1, w2, k, sp', sm', o'), ?_⟩
  unfold s_L_law_L1359
  exact bindE h1 (bindE h2 (bindE (thr _) (reg_ok rfl h3)))
theorem rg_1403 (hp : p + 5 ≤ L) (hL : L ≤ 2560) (J : JR B S H T b c ho hs ht hv hn bs bc mm mt ml ms mv mn mx) : ∃ r, s_L_law_L1403 L a0 (nI p) c hs mm ms (n + 1) th o = some r := by
  have hhs : hs = nI H.length := by obtain ⟨o, _, _, q, _⟩ := J.2.1; exact q
  have hmm : mm = nI H.length := J.2.2.2.2.2.1.1
  subst hhs hmm
  obtain ⟨k, v, o', h1, h2, h3⟩ := an_count (th := th) (o := o) J.1 J.2.2.2.2.1 (a0 (p + 1))
  refine ⟨(k, o'), ?_⟩
  unfold s_L_law_L1403
  exact fldA (j := 1) hp hL (by omega) (p_1 p) (bindE h1 (fldA (j := 1) hp hL (by omega) (p_1 p) (bindE h2 (bindE (thr _) (reg_ok rfl h3)))))
theorem rg_1459 (hp : p + 5 ≤ L) (hL : L ≤ 2560) (J : JR B S H T b c ho hs ht hv hn bs bc mm mt ml ms mv mn mx) : ∃ r, s_L_law_L1459 L a0 (nI p) c bs bc ml ms mx (n + 1) ws wl th sp sm o = some r := by
  obtain ⟨k, v, o', w1, w2, sp', sm', h1, h2, h3⟩ := an_whyNot (ws := ws) (wl := wl) (sp := sp) (sm := sm) (th := th) (o := o) J.1 J.2.2.2.2.1 J.2.2.2.1 J.2.2.2.2.2.2.2 (a0 (p + 1))
  refine ⟨(w1, w2, k, sp', sm', o'), ?_⟩
  unfold s_L_law_L1459
  exact fldA (j := 1) hp hL (by omega) (p_1 p) (bindE h1 (fldA (j := 1) hp hL (by omega) (p_1 p) (bindE h2 (bindE (thr _) (reg_ok rfl h3)))))
theorem rg_1515 (hp : p + 5 ≤ L) (hL : L ≤ 2560) (J : JR B S H T b c ho hs ht hv hn bs bc mm mt ml ms mv mn mx) : ∃ r, s_L_law_L1515 L a0 (nI p) c ms (n + 1) ws wl th o = some r := by
  obtain ⟨k, v, o', w1, w2, h1, h2, h3⟩ := an_noGift (ws := ws) (wl := wl) (th := th) (o := o) J.1 J.2.2.2.2.1 (a0 (p + 1)) (a0 (p + 2)) (a0 (p + 3))
  refine ⟨(w1, w2, k, o'), ?_⟩
  unfold s_L_law_L1515
  exact fldA (j := 1) hp hL (by omega) (p_1 p) (fldA (j := 2) hp hL (by omega) (p_2 p) (fldA (j := 3) hp hL (by omega) (p_3 p) (bindE h1 (fldA (j := 1) hp hL (by omega) (p_1 p) (fldA (j := 2) hp hL (by omega) (p_2 p) (fldA (j := 3) hp hL (by omega) (p_3 p) (bindE h2 (bindE (thr _) (reg_ok rfl h3)))))))))
theorem rg_1595 (hp : p + 5 ≤ L) (hL : L ≤ 2560) (J : JR B S H T b c ho hs ht hv hn bs bc mm mt ml ms mv mn mx) : ∃ r, s_L_law_L1595 L a0 (nI p) c ms (n + 1) th o = some r := by
  obtain ⟨k, v, o', h1, h2, h3⟩ := an_ifStorm (th := th) (o := o) J.1 J.2.2.2.2.1 (a0 (p + 1)) (a0 (p + 2))
  refine ⟨(k, o'), ?_⟩
  unfold s_L_law_L1595
  exact fldA (j := 1) hp hL (by omega) (p_1 p) (fldA (j := 2) hp hL (by omega) (p_2 p) (bindE h1 (fldA (j := 1) hp hL (by omega) (p_1 p) (fldA (j := 2) hp hL (by omega) (p_2 p) (bindE h2 (bindE (thr _) (reg_ok rfl h3)))))))
theorem rg_1663 (J : JR B S H T b c ho hs ht hv hn bs bc mm mt ml ms mv mn mx) : ∃ r, s_L_law_L1663 L a0 c bs bc ml ms mx (n + 1) ws wl th sp sm o = some r := by
  obtain ⟨k, v, o', w1, w2, sp', sm', h1, h2, h3⟩ := an_bestBelt (ws := ws) (wl := wl) (sp := sp) (sm := sm) (th := th) (o := o) J.1 J.2.2.2.2.1 J.2.2.2.1 J.2.2.2.2.2.2.2 
  refine ⟨(w1, w2, k, sp', sm', o'), ?_⟩
  unfold s_L_law_L1663
  exact bindE h1 (bindE h2 (bindE (thr _) (reg_ok rfl h3)))
theorem rg_1707 (J : JR B S H T b c ho hs ht hv hn bs bc mm mt ml ms mv mn mx) : ∃ r, s_L_law_L1707 L a0 c ms (n + 1) th = some r := by
  refine ⟨0, bindE (a := shU S) (bindE (csh J.1) rfl) (bindE (a := (shU S, 0)) (bindE (msh J.2.2.2.2.1) rfl) ?_)⟩
  show (if cmpValue (FP.dcmp (shU S) (shU S)) .l = 0 then _ else (if cmpValue (FP.dcmp (shU S) (shU S)) .l = 0 then _ else (if cmpValue (FP.dcmp (shU S) (shU S)) .l = 0 then _ else _))) = _
  by_cases q : cmpValue (FP.dcmp (shU S) (shU S)) .l = 0
  · rw [if_pos q]
  · rw [if_neg q, if_neg q, if_neg q]
theorem rg_1748 (J : JR B S H T b c ho hs ht hv hn bs bc mm mt ml ms mv mn mx) : ∃ r, s_L_law_L1748 L a0 c hs bs bc mm ml ms mx (n + 1) th hh = some r := by
  have hhs : hs = nI H.length := by obtain ⟨o, _, _, q, _⟩ := J.2.1; exact q
  have hmm : mm = nI H.length := J.2.2.2.2.2.1.1
  subst hhs hmm
  obtain ⟨bits, b1, b2⟩ := shB_bits J.1.2
  have d1 := dig (n := H.length) J.1 J.2.2.2.1 (csh J.1) b1
  have d2 := mdig (n := H.length) (th := th) (z0 := hh) J.2.2.2.2.1 J.2.2.2.2.2.2.2 b2
  refine ⟨(nI 0, dgI S H.length b bits), bindE d1 (bindE d2 ?_)⟩
  exact if_pos (lg_refl _)
end
